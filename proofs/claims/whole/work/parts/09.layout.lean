def LCk : List Nat := [8, 7, 2, 0, 0, 0, 0, 0, 0, 0, 0, 0, 0, 6, 0, 3, 6, 0, 6, 0, 0, 6, 0, 6, 0, 6, 0, 6, 0, 6, 0, 6, 0, 6, 0, 6, 0, 6, 0, 7, 2, 0, 0, 0, 0, 0, 0, 0, 0, 0, 0, 6, 0, 3, 6, 0, 6, 0, 0, 6, 0, 6, 0, 6, 0, 6, 0, 6, 0, 6, 0, 6, 0, 6, 0, 6, 0, 2, 0, 0, 0, 0, 0, 0, 0, 0, 0, 0, 4, 1, 0, 2, 0, 0, 0, 0, 0, 0, 0, 0, 0, 0, 2, 0, 0, 0, 0, 0, 0, 0, 0, 0, 0, 2, 0, 0, 0, 0, 0, 0, 0, 0, 0, 0, 2, 0, 0, 0, 0, 0, 0, 0, 0, 0, 0, 2, 0, 0, 0, 0, 0, 0, 0, 0, 0, 0, 2, 0, 0, 0, 0, 0, 0, 0, 0, 0, 0, 5, 0, 0, 0, 0, 3, 6, 0, 6, 0, 0, 6, 0]
def LCn : List Nat := [6, 12, 16, 12, 12, 12, 12, 12, 12, 12, 12, 12, 12, 3, 600, 3, 3, 64, 3, 800, 64, 3, 64, 3, 64, 3, 64, 3, 24, 3, 12, 3, 4, 3, 16, 3, 14, 3, 16, 12, 16, 12, 12, 12, 12, 12, 12, 12, 12, 12, 12, 3, 600, 3, 3, 64, 3, 800, 64, 3, 64, 3, 64, 3, 64, 3, 24, 3, 12, 3, 4, 3, 16, 3, 14, 3, 16, 16, 12, 12, 12, 12, 12, 12, 12, 12, 12, 12, 4, 6, 6, 16, 12, 12, 12, 12, 12, 12, 12, 12, 12, 12, 16, 12, 12, 12, 12, 12, 12, 12, 12, 12, 12, 16, 12, 12, 12, 12, 12, 12, 12, 12, 12, 12, 16, 12, 12, 12, 12, 12, 12, 12, 12, 12, 12, 16, 12, 12, 12, 12, 12, 12, 12, 12, 12, 12, 16, 12, 12, 12, 12, 12, 12, 12, 12, 12, 12, 11, 400, 401, 401, 401, 3, 3, 64, 3, 800, 64, 3, 64]
def LMk : List Nat := [9, 0, 0, 0, 0, 0, 0, 0, 0, 0, 0, 0, 0, 0, 0, 0, 0, 0, 0, 0, 0, 0, 0, 0, 0, 0, 0, 0, 0, 0, 0, 0, 0, 0, 0, 0, 0, 0, 0, 0]
def LMn : List Nat := [67, 77, 462, 77, 12, 12, 12, 12, 600, 400, 133, 2, 48, 48, 48, 48, 1200, 1200, 40, 128, 24, 24, 10, 420, 8, 8, 8, 10, 121, 169, 2, 24, 16, 16, 7, 7, 8, 8, 121, 2200]
def am_off : Nat → Nat → Option Nat
  | 0, 1 => some 1
  | 0, 2 => some 2
  | 0, 3 => some 3
  | 0, 4 => some 4
  | 0, 5 => some 5
  | 0, 6 => some 6
  | 0, 7 => some 7
  | 0, 9 => some 8
  | 0, 10 => some 9
  | 0, 11 => some 10
  | 1, 0 => some 1
  | 1, 1 => some 3
  | 1, 2 => some 5
  | 2, 0 => some 1
  | 2, 1 => some 2
  | 3, 0 => some 1
  | 3, 2 => some 2
  | 3, 3 => some 3
  | 3, 4 => some 4
  | 3, 9 => some 5
  | 3, 10 => some 11
  | 4, 1 => some 1
  | 5, 0 => some 1
  | 5, 1 => some 12
  | 5, 2 => some 14
  | 5, 3 => some 20
  | 5, 4 => some 22
  | 5, 5 => some 24
  | 5, 6 => some 26
  | 5, 7 => some 28
  | 5, 8 => some 30
  | 5, 9 => some 32
  | 5, 10 => some 34
  | 5, 11 => some 36
  | 6, 0 => some 1
  | 6, 1 => some 39
  | 6, 3 => some 77
  | 6, 4 => some 88
  | 6, 5 => some 157
  | 7, 1 => some 1
  | 7, 2 => some 2
  | 7, 4 => some 3
  | 7, 8 => some 4
  | 7, 9 => some 5
  | 7, 10 => some 6
  | 7, 11 => some 7
  | 7, 12 => some 8
  | 7, 13 => some 9
  | 7, 19 => some 10
  | 7, 20 => some 11
  | 7, 21 => some 12
  | 7, 22 => some 13
  | 7, 23 => some 14
  | 7, 24 => some 15
  | 7, 25 => some 16
  | 7, 26 => some 17
  | 7, 30 => some 18
  | 7, 37 => some 19
  | 7, 39 => some 20
  | 7, 41 => some 21
  | 7, 42 => some 22
  | 7, 43 => some 23
  | 7, 45 => some 24
  | 7, 46 => some 25
  | 7, 47 => some 26
  | 7, 48 => some 27
  | 7, 49 => some 28
  | 7, 50 => some 29
  | 7, 51 => some 30
  | 7, 52 => some 31
  | 7, 54 => some 32
  | 7, 55 => some 33
  | 7, 57 => some 34
  | 7, 58 => some 35
  | 7, 60 => some 36
  | 7, 61 => some 37
  | 7, 62 => some 38
  | 7, 66 => some 39
  | _, _ => none
def LC : am_L := (fun a => LCk.getD a 99, fun a => LCn.getD a 0, fun a k => match LCk.getD a 99 with
  | 0 => none
  | 1 => if k < 6 then some (a + 2 + 11 * k) else none
  | c + 2 => (am_off c k).map (fun o => a + o), 170)
theorem ltCg {a k : Nat} (h : LC.1 a = k) (hk : k ≠ 99) : a < LC.2.2.2 := by
  by_cases q : a < 170
  · exact q
  · exact absurd (show LC.1 a = 99 from by show LCk.getD a 99 = 99; rw [List.getD_eq_getElem?_getD, List.getElem?_eq_none (by rw [show LCk.length = 170 from by decide +kernel]; omega)]; rfl) (by rw [h]; exact hk)
theorem ltC {a : Nat} (h : LC.1 a = 0) : a < LC.2.2.2 := ltCg h (by decide)
theorem ltC1 {a : Nat} (h : LC.1 a = 1) : a < LC.2.2.2 := ltCg h (by decide)
theorem kC0 : LC.1 0 = 8 := rfl
theorem cnC_0 : ∀ a, a < 170 → LC.1 a = 2 → LC.2.1 a = 16 := by decide +kernel
theorem loC_0_0 {a : Nat} (h : LC.1 a = 2) : a < LC.2.2.2 ∧ LC.1 a = 0 + 2 ∧ LC.2.1 a = 16 ∧ LC.2.2.1 a 0 = none := ⟨ltCg h (by decide), h, cnC_0 a (ltCg h (by decide)) h, by show (match LCk.getD a 99 with | 0 => none | 1 => if 0 < 6 then some (a + 2 + 11 * 0) else none | c + 2 => (am_off c 0).map (fun o => a + o)) = _; rw [show LCk.getD a 99 = 2 from h]; rfl⟩
theorem loC_0_1 {a : Nat} (h : LC.1 a = 2) : a < LC.2.2.2 ∧ LC.1 a = 0 + 2 ∧ LC.2.1 a = 16 ∧ LC.2.2.1 a 1 = some (a + 1) := ⟨ltCg h (by decide), h, cnC_0 a (ltCg h (by decide)) h, by show (match LCk.getD a 99 with | 0 => none | 1 => if 1 < 6 then some (a + 2 + 11 * 1) else none | c + 2 => (am_off c 1).map (fun o => a + o)) = _; rw [show LCk.getD a 99 = 2 from h]; rfl⟩
theorem tgC_0_1 {a : Nat} (h : LC.1 a = 2) : LC.1 (a + 1) = 0 := (by decide +kernel : ∀ a, a < 170 → LC.1 a = 2 → LC.1 (a + 1) = 0) a (ltCg h (by decide)) h
theorem lnC_0_1 {a : Nat} (h : LC.1 a = 2) : LC.2.1 (a + 1) = 12 := (by decide +kernel : ∀ a, a < 170 → LC.1 a = 2 → LC.2.1 (a + 1) = 12) a (ltCg h (by decide)) h
theorem loC_0_2 {a : Nat} (h : LC.1 a = 2) : a < LC.2.2.2 ∧ LC.1 a = 0 + 2 ∧ LC.2.1 a = 16 ∧ LC.2.2.1 a 2 = some (a + 2) := ⟨ltCg h (by decide), h, cnC_0 a (ltCg h (by decide)) h, by show (match LCk.getD a 99 with | 0 => none | 1 => if 2 < 6 then some (a + 2 + 11 * 2) else none | c + 2 => (am_off c 2).map (fun o => a + o)) = _; rw [show LCk.getD a 99 = 2 from h]; rfl⟩
theorem tgC_0_2 {a : Nat} (h : LC.1 a = 2) : LC.1 (a + 2) = 0 := (by decide +kernel : ∀ a, a < 170 → LC.1 a = 2 → LC.1 (a + 2) = 0) a (ltCg h (by decide)) h
theorem lnC_0_2 {a : Nat} (h : LC.1 a = 2) : LC.2.1 (a + 2) = 12 := (by decide +kernel : ∀ a, a < 170 → LC.1 a = 2 → LC.2.1 (a + 2) = 12) a (ltCg h (by decide)) h
theorem loC_0_3 {a : Nat} (h : LC.1 a = 2) : a < LC.2.2.2 ∧ LC.1 a = 0 + 2 ∧ LC.2.1 a = 16 ∧ LC.2.2.1 a 3 = some (a + 3) := ⟨ltCg h (by decide), h, cnC_0 a (ltCg h (by decide)) h, by show (match LCk.getD a 99 with | 0 => none | 1 => if 3 < 6 then some (a + 2 + 11 * 3) else none | c + 2 => (am_off c 3).map (fun o => a + o)) = _; rw [show LCk.getD a 99 = 2 from h]; rfl⟩
theorem tgC_0_3 {a : Nat} (h : LC.1 a = 2) : LC.1 (a + 3) = 0 := (by decide +kernel : ∀ a, a < 170 → LC.1 a = 2 → LC.1 (a + 3) = 0) a (ltCg h (by decide)) h
theorem lnC_0_3 {a : Nat} (h : LC.1 a = 2) : LC.2.1 (a + 3) = 12 := (by decide +kernel : ∀ a, a < 170 → LC.1 a = 2 → LC.2.1 (a + 3) = 12) a (ltCg h (by decide)) h
theorem loC_0_4 {a : Nat} (h : LC.1 a = 2) : a < LC.2.2.2 ∧ LC.1 a = 0 + 2 ∧ LC.2.1 a = 16 ∧ LC.2.2.1 a 4 = some (a + 4) := ⟨ltCg h (by decide), h, cnC_0 a (ltCg h (by decide)) h, by show (match LCk.getD a 99 with | 0 => none | 1 => if 4 < 6 then some (a + 2 + 11 * 4) else none | c + 2 => (am_off c 4).map (fun o => a + o)) = _; rw [show LCk.getD a 99 = 2 from h]; rfl⟩
theorem tgC_0_4 {a : Nat} (h : LC.1 a = 2) : LC.1 (a + 4) = 0 := (by decide +kernel : ∀ a, a < 170 → LC.1 a = 2 → LC.1 (a + 4) = 0) a (ltCg h (by decide)) h
theorem lnC_0_4 {a : Nat} (h : LC.1 a = 2) : LC.2.1 (a + 4) = 12 := (by decide +kernel : ∀ a, a < 170 → LC.1 a = 2 → LC.2.1 (a + 4) = 12) a (ltCg h (by decide)) h
theorem loC_0_5 {a : Nat} (h : LC.1 a = 2) : a < LC.2.2.2 ∧ LC.1 a = 0 + 2 ∧ LC.2.1 a = 16 ∧ LC.2.2.1 a 5 = some (a + 5) := ⟨ltCg h (by decide), h, cnC_0 a (ltCg h (by decide)) h, by show (match LCk.getD a 99 with | 0 => none | 1 => if 5 < 6 then some (a + 2 + 11 * 5) else none | c + 2 => (am_off c 5).map (fun o => a + o)) = _; rw [show LCk.getD a 99 = 2 from h]; rfl⟩
theorem tgC_0_5 {a : Nat} (h : LC.1 a = 2) : LC.1 (a + 5) = 0 := (by decide +kernel : ∀ a, a < 170 → LC.1 a = 2 → LC.1 (a + 5) = 0) a (ltCg h (by decide)) h
theorem lnC_0_5 {a : Nat} (h : LC.1 a = 2) : LC.2.1 (a + 5) = 12 := (by decide +kernel : ∀ a, a < 170 → LC.1 a = 2 → LC.2.1 (a + 5) = 12) a (ltCg h (by decide)) h
theorem loC_0_6 {a : Nat} (h : LC.1 a = 2) : a < LC.2.2.2 ∧ LC.1 a = 0 + 2 ∧ LC.2.1 a = 16 ∧ LC.2.2.1 a 6 = some (a + 6) := ⟨ltCg h (by decide), h, cnC_0 a (ltCg h (by decide)) h, by show (match LCk.getD a 99 with | 0 => none | 1 => if 6 < 6 then some (a + 2 + 11 * 6) else none | c + 2 => (am_off c 6).map (fun o => a + o)) = _; rw [show LCk.getD a 99 = 2 from h]; rfl⟩
theorem tgC_0_6 {a : Nat} (h : LC.1 a = 2) : LC.1 (a + 6) = 0 := (by decide +kernel : ∀ a, a < 170 → LC.1 a = 2 → LC.1 (a + 6) = 0) a (ltCg h (by decide)) h
theorem lnC_0_6 {a : Nat} (h : LC.1 a = 2) : LC.2.1 (a + 6) = 12 := (by decide +kernel : ∀ a, a < 170 → LC.1 a = 2 → LC.2.1 (a + 6) = 12) a (ltCg h (by decide)) h
theorem loC_0_7 {a : Nat} (h : LC.1 a = 2) : a < LC.2.2.2 ∧ LC.1 a = 0 + 2 ∧ LC.2.1 a = 16 ∧ LC.2.2.1 a 7 = some (a + 7) := ⟨ltCg h (by decide), h, cnC_0 a (ltCg h (by decide)) h, by show (match LCk.getD a 99 with | 0 => none | 1 => if 7 < 6 then some (a + 2 + 11 * 7) else none | c + 2 => (am_off c 7).map (fun o => a + o)) = _; rw [show LCk.getD a 99 = 2 from h]; rfl⟩
theorem tgC_0_7 {a : Nat} (h : LC.1 a = 2) : LC.1 (a + 7) = 0 := (by decide +kernel : ∀ a, a < 170 → LC.1 a = 2 → LC.1 (a + 7) = 0) a (ltCg h (by decide)) h
theorem lnC_0_7 {a : Nat} (h : LC.1 a = 2) : LC.2.1 (a + 7) = 12 := (by decide +kernel : ∀ a, a < 170 → LC.1 a = 2 → LC.2.1 (a + 7) = 12) a (ltCg h (by decide)) h
theorem loC_0_8 {a : Nat} (h : LC.1 a = 2) : a < LC.2.2.2 ∧ LC.1 a = 0 + 2 ∧ LC.2.1 a = 16 ∧ LC.2.2.1 a 8 = none := ⟨ltCg h (by decide), h, cnC_0 a (ltCg h (by decide)) h, by show (match LCk.getD a 99 with | 0 => none | 1 => if 8 < 6 then some (a + 2 + 11 * 8) else none | c + 2 => (am_off c 8).map (fun o => a + o)) = _; rw [show LCk.getD a 99 = 2 from h]; rfl⟩
theorem loC_0_9 {a : Nat} (h : LC.1 a = 2) : a < LC.2.2.2 ∧ LC.1 a = 0 + 2 ∧ LC.2.1 a = 16 ∧ LC.2.2.1 a 9 = some (a + 8) := ⟨ltCg h (by decide), h, cnC_0 a (ltCg h (by decide)) h, by show (match LCk.getD a 99 with | 0 => none | 1 => if 9 < 6 then some (a + 2 + 11 * 9) else none | c + 2 => (am_off c 9).map (fun o => a + o)) = _; rw [show LCk.getD a 99 = 2 from h]; rfl⟩
theorem tgC_0_9 {a : Nat} (h : LC.1 a = 2) : LC.1 (a + 8) = 0 := (by decide +kernel : ∀ a, a < 170 → LC.1 a = 2 → LC.1 (a + 8) = 0) a (ltCg h (by decide)) h
theorem lnC_0_9 {a : Nat} (h : LC.1 a = 2) : LC.2.1 (a + 8) = 12 := (by decide +kernel : ∀ a, a < 170 → LC.1 a = 2 → LC.2.1 (a + 8) = 12) a (ltCg h (by decide)) h
theorem loC_0_10 {a : Nat} (h : LC.1 a = 2) : a < LC.2.2.2 ∧ LC.1 a = 0 + 2 ∧ LC.2.1 a = 16 ∧ LC.2.2.1 a 10 = some (a + 9) := ⟨ltCg h (by decide), h, cnC_0 a (ltCg h (by decide)) h, by show (match LCk.getD a 99 with | 0 => none | 1 => if 10 < 6 then some (a + 2 + 11 * 10) else none | c + 2 => (am_off c 10).map (fun o => a + o)) = _; rw [show LCk.getD a 99 = 2 from h]; rfl⟩
theorem tgC_0_10 {a : Nat} (h : LC.1 a = 2) : LC.1 (a + 9) = 0 := (by decide +kernel : ∀ a, a < 170 → LC.1 a = 2 → LC.1 (a + 9) = 0) a (ltCg h (by decide)) h
theorem lnC_0_10 {a : Nat} (h : LC.1 a = 2) : LC.2.1 (a + 9) = 12 := (by decide +kernel : ∀ a, a < 170 → LC.1 a = 2 → LC.2.1 (a + 9) = 12) a (ltCg h (by decide)) h
theorem loC_0_11 {a : Nat} (h : LC.1 a = 2) : a < LC.2.2.2 ∧ LC.1 a = 0 + 2 ∧ LC.2.1 a = 16 ∧ LC.2.2.1 a 11 = some (a + 10) := ⟨ltCg h (by decide), h, cnC_0 a (ltCg h (by decide)) h, by show (match LCk.getD a 99 with | 0 => none | 1 => if 11 < 6 then some (a + 2 + 11 * 11) else none | c + 2 => (am_off c 11).map (fun o => a + o)) = _; rw [show LCk.getD a 99 = 2 from h]; rfl⟩
theorem tgC_0_11 {a : Nat} (h : LC.1 a = 2) : LC.1 (a + 10) = 0 := (by decide +kernel : ∀ a, a < 170 → LC.1 a = 2 → LC.1 (a + 10) = 0) a (ltCg h (by decide)) h
theorem lnC_0_11 {a : Nat} (h : LC.1 a = 2) : LC.2.1 (a + 10) = 12 := (by decide +kernel : ∀ a, a < 170 → LC.1 a = 2 → LC.2.1 (a + 10) = 12) a (ltCg h (by decide)) h
theorem loC_0_12 {a : Nat} (h : LC.1 a = 2) : a < LC.2.2.2 ∧ LC.1 a = 0 + 2 ∧ LC.2.1 a = 16 ∧ LC.2.2.1 a 12 = none := ⟨ltCg h (by decide), h, cnC_0 a (ltCg h (by decide)) h, by show (match LCk.getD a 99 with | 0 => none | 1 => if 12 < 6 then some (a + 2 + 11 * 12) else none | c + 2 => (am_off c 12).map (fun o => a + o)) = _; rw [show LCk.getD a 99 = 2 from h]; rfl⟩
theorem loC_0_13 {a : Nat} (h : LC.1 a = 2) : a < LC.2.2.2 ∧ LC.1 a = 0 + 2 ∧ LC.2.1 a = 16 ∧ LC.2.2.1 a 13 = none := ⟨ltCg h (by decide), h, cnC_0 a (ltCg h (by decide)) h, by show (match LCk.getD a 99 with | 0 => none | 1 => if 13 < 6 then some (a + 2 + 11 * 13) else none | c + 2 => (am_off c 13).map (fun o => a + o)) = _; rw [show LCk.getD a 99 = 2 from h]; rfl⟩
theorem loC_0_14 {a : Nat} (h : LC.1 a = 2) : a < LC.2.2.2 ∧ LC.1 a = 0 + 2 ∧ LC.2.1 a = 16 ∧ LC.2.2.1 a 14 = none := ⟨ltCg h (by decide), h, cnC_0 a (ltCg h (by decide)) h, by show (match LCk.getD a 99 with | 0 => none | 1 => if 14 < 6 then some (a + 2 + 11 * 14) else none | c + 2 => (am_off c 14).map (fun o => a + o)) = _; rw [show LCk.getD a 99 = 2 from h]; rfl⟩
theorem loC_0_15 {a : Nat} (h : LC.1 a = 2) : a < LC.2.2.2 ∧ LC.1 a = 0 + 2 ∧ LC.2.1 a = 16 ∧ LC.2.2.1 a 15 = none := ⟨ltCg h (by decide), h, cnC_0 a (ltCg h (by decide)) h, by show (match LCk.getD a 99 with | 0 => none | 1 => if 15 < 6 then some (a + 2 + 11 * 15) else none | c + 2 => (am_off c 15).map (fun o => a + o)) = _; rw [show LCk.getD a 99 = 2 from h]; rfl⟩
theorem cnC_1 : ∀ a, a < 170 → LC.1 a = 3 → LC.2.1 a = 3 := by decide +kernel
theorem loC_1_0 {a : Nat} (h : LC.1 a = 3) : a < LC.2.2.2 ∧ LC.1 a = 1 + 2 ∧ LC.2.1 a = 3 ∧ LC.2.2.1 a 0 = some (a + 1) := ⟨ltCg h (by decide), h, cnC_1 a (ltCg h (by decide)) h, by show (match LCk.getD a 99 with | 0 => none | 1 => if 0 < 6 then some (a + 2 + 11 * 0) else none | c + 2 => (am_off c 0).map (fun o => a + o)) = _; rw [show LCk.getD a 99 = 3 from h]; rfl⟩
theorem tgC_1_0 {a : Nat} (h : LC.1 a = 3) : LC.1 (a + 1) = 6 := (by decide +kernel : ∀ a, a < 170 → LC.1 a = 3 → LC.1 (a + 1) = 6) a (ltCg h (by decide)) h
theorem loC_1_1 {a : Nat} (h : LC.1 a = 3) : a < LC.2.2.2 ∧ LC.1 a = 1 + 2 ∧ LC.2.1 a = 3 ∧ LC.2.2.1 a 1 = some (a + 3) := ⟨ltCg h (by decide), h, cnC_1 a (ltCg h (by decide)) h, by show (match LCk.getD a 99 with | 0 => none | 1 => if 1 < 6 then some (a + 2 + 11 * 1) else none | c + 2 => (am_off c 1).map (fun o => a + o)) = _; rw [show LCk.getD a 99 = 3 from h]; rfl⟩
theorem tgC_1_1 {a : Nat} (h : LC.1 a = 3) : LC.1 (a + 3) = 6 := (by decide +kernel : ∀ a, a < 170 → LC.1 a = 3 → LC.1 (a + 3) = 6) a (ltCg h (by decide)) h
theorem loC_1_2 {a : Nat} (h : LC.1 a = 3) : a < LC.2.2.2 ∧ LC.1 a = 1 + 2 ∧ LC.2.1 a = 3 ∧ LC.2.2.1 a 2 = some (a + 5) := ⟨ltCg h (by decide), h, cnC_1 a (ltCg h (by decide)) h, by show (match LCk.getD a 99 with | 0 => none | 1 => if 2 < 6 then some (a + 2 + 11 * 2) else none | c + 2 => (am_off c 2).map (fun o => a + o)) = _; rw [show LCk.getD a 99 = 3 from h]; rfl⟩
theorem tgC_1_2 {a : Nat} (h : LC.1 a = 3) : LC.1 (a + 5) = 0 := (by decide +kernel : ∀ a, a < 170 → LC.1 a = 3 → LC.1 (a + 5) = 0) a (ltCg h (by decide)) h
theorem lnC_1_2 {a : Nat} (h : LC.1 a = 3) : LC.2.1 (a + 5) = 64 := (by decide +kernel : ∀ a, a < 170 → LC.1 a = 3 → LC.2.1 (a + 5) = 64) a (ltCg h (by decide)) h
theorem cnC_2 : ∀ a, a < 170 → LC.1 a = 4 → LC.2.1 a = 4 := by decide +kernel
theorem loC_2_0 {a : Nat} (h : LC.1 a = 4) : a < LC.2.2.2 ∧ LC.1 a = 2 + 2 ∧ LC.2.1 a = 4 ∧ LC.2.2.1 a 0 = some (a + 1) := ⟨ltCg h (by decide), h, cnC_2 a (ltCg h (by decide)) h, by show (match LCk.getD a 99 with | 0 => none | 1 => if 0 < 6 then some (a + 2 + 11 * 0) else none | c + 2 => (am_off c 0).map (fun o => a + o)) = _; rw [show LCk.getD a 99 = 4 from h]; rfl⟩
theorem tgC_2_0 {a : Nat} (h : LC.1 a = 4) : LC.1 (a + 1) = 1 := (by decide +kernel : ∀ a, a < 170 → LC.1 a = 4 → LC.1 (a + 1) = 1) a (ltCg h (by decide)) h
theorem lnC_2_0 {a : Nat} (h : LC.1 a = 4) : LC.2.1 (a + 1) = 6 := (by decide +kernel : ∀ a, a < 170 → LC.1 a = 4 → LC.2.1 (a + 1) = 6) a (ltCg h (by decide)) h
theorem loC_2_1 {a : Nat} (h : LC.1 a = 4) : a < LC.2.2.2 ∧ LC.1 a = 2 + 2 ∧ LC.2.1 a = 4 ∧ LC.2.2.1 a 1 = some (a + 2) := ⟨ltCg h (by decide), h, cnC_2 a (ltCg h (by decide)) h, by show (match LCk.getD a 99 with | 0 => none | 1 => if 1 < 6 then some (a + 2 + 11 * 1) else none | c + 2 => (am_off c 1).map (fun o => a + o)) = _; rw [show LCk.getD a 99 = 4 from h]; rfl⟩
theorem tgC_2_1 {a : Nat} (h : LC.1 a = 4) : LC.1 (a + 2) = 0 := (by decide +kernel : ∀ a, a < 170 → LC.1 a = 4 → LC.1 (a + 2) = 0) a (ltCg h (by decide)) h
theorem lnC_2_1 {a : Nat} (h : LC.1 a = 4) : LC.2.1 (a + 2) = 6 := (by decide +kernel : ∀ a, a < 170 → LC.1 a = 4 → LC.2.1 (a + 2) = 6) a (ltCg h (by decide)) h
theorem loC_2_2 {a : Nat} (h : LC.1 a = 4) : a < LC.2.2.2 ∧ LC.1 a = 2 + 2 ∧ LC.2.1 a = 4 ∧ LC.2.2.1 a 2 = none := ⟨ltCg h (by decide), h, cnC_2 a (ltCg h (by decide)) h, by show (match LCk.getD a 99 with | 0 => none | 1 => if 2 < 6 then some (a + 2 + 11 * 2) else none | c + 2 => (am_off c 2).map (fun o => a + o)) = _; rw [show LCk.getD a 99 = 4 from h]; rfl⟩
theorem loC_2_3 {a : Nat} (h : LC.1 a = 4) : a < LC.2.2.2 ∧ LC.1 a = 2 + 2 ∧ LC.2.1 a = 4 ∧ LC.2.2.1 a 3 = none := ⟨ltCg h (by decide), h, cnC_2 a (ltCg h (by decide)) h, by show (match LCk.getD a 99 with | 0 => none | 1 => if 3 < 6 then some (a + 2 + 11 * 3) else none | c + 2 => (am_off c 3).map (fun o => a + o)) = _; rw [show LCk.getD a 99 = 4 from h]; rfl⟩
theorem cnC_3 : ∀ a, a < 170 → LC.1 a = 5 → LC.2.1 a = 11 := by decide +kernel
theorem loC_3_0 {a : Nat} (h : LC.1 a = 5) : a < LC.2.2.2 ∧ LC.1 a = 3 + 2 ∧ LC.2.1 a = 11 ∧ LC.2.2.1 a 0 = some (a + 1) := ⟨ltCg h (by decide), h, cnC_3 a (ltCg h (by decide)) h, by show (match LCk.getD a 99 with | 0 => none | 1 => if 0 < 6 then some (a + 2 + 11 * 0) else none | c + 2 => (am_off c 0).map (fun o => a + o)) = _; rw [show LCk.getD a 99 = 5 from h]; rfl⟩
theorem tgC_3_0 {a : Nat} (h : LC.1 a = 5) : LC.1 (a + 1) = 0 := (by decide +kernel : ∀ a, a < 170 → LC.1 a = 5 → LC.1 (a + 1) = 0) a (ltCg h (by decide)) h
theorem lnC_3_0 {a : Nat} (h : LC.1 a = 5) : LC.2.1 (a + 1) = 400 := (by decide +kernel : ∀ a, a < 170 → LC.1 a = 5 → LC.2.1 (a + 1) = 400) a (ltCg h (by decide)) h
theorem loC_3_1 {a : Nat} (h : LC.1 a = 5) : a < LC.2.2.2 ∧ LC.1 a = 3 + 2 ∧ LC.2.1 a = 11 ∧ LC.2.2.1 a 1 = none := ⟨ltCg h (by decide), h, cnC_3 a (ltCg h (by decide)) h, by show (match LCk.getD a 99 with | 0 => none | 1 => if 1 < 6 then some (a + 2 + 11 * 1) else none | c + 2 => (am_off c 1).map (fun o => a + o)) = _; rw [show LCk.getD a 99 = 5 from h]; rfl⟩
theorem loC_3_2 {a : Nat} (h : LC.1 a = 5) : a < LC.2.2.2 ∧ LC.1 a = 3 + 2 ∧ LC.2.1 a = 11 ∧ LC.2.2.1 a 2 = some (a + 2) := ⟨ltCg h (by decide), h, cnC_3 a (ltCg h (by decide)) h, by show (match LCk.getD a 99 with | 0 => none | 1 => if 2 < 6 then some (a + 2 + 11 * 2) else none | c + 2 => (am_off c 2).map (fun o => a + o)) = _; rw [show LCk.getD a 99 = 5 from h]; rfl⟩
theorem tgC_3_2 {a : Nat} (h : LC.1 a = 5) : LC.1 (a + 2) = 0 := (by decide +kernel : ∀ a, a < 170 → LC.1 a = 5 → LC.1 (a + 2) = 0) a (ltCg h (by decide)) h
theorem lnC_3_2 {a : Nat} (h : LC.1 a = 5) : LC.2.1 (a + 2) = 401 := (by decide +kernel : ∀ a, a < 170 → LC.1 a = 5 → LC.2.1 (a + 2) = 401) a (ltCg h (by decide)) h
theorem loC_3_3 {a : Nat} (h : LC.1 a = 5) : a < LC.2.2.2 ∧ LC.1 a = 3 + 2 ∧ LC.2.1 a = 11 ∧ LC.2.2.1 a 3 = some (a + 3) := ⟨ltCg h (by decide), h, cnC_3 a (ltCg h (by decide)) h, by show (match LCk.getD a 99 with | 0 => none | 1 => if 3 < 6 then some (a + 2 + 11 * 3) else none | c + 2 => (am_off c 3).map (fun o => a + o)) = _; rw [show LCk.getD a 99 = 5 from h]; rfl⟩
theorem tgC_3_3 {a : Nat} (h : LC.1 a = 5) : LC.1 (a + 3) = 0 := (by decide +kernel : ∀ a, a < 170 → LC.1 a = 5 → LC.1 (a + 3) = 0) a (ltCg h (by decide)) h
theorem lnC_3_3 {a : Nat} (h : LC.1 a = 5) : LC.2.1 (a + 3) = 401 := (by decide +kernel : ∀ a, a < 170 → LC.1 a = 5 → LC.2.1 (a + 3) = 401) a (ltCg h (by decide)) h
theorem loC_3_4 {a : Nat} (h : LC.1 a = 5) : a < LC.2.2.2 ∧ LC.1 a = 3 + 2 ∧ LC.2.1 a = 11 ∧ LC.2.2.1 a 4 = some (a + 4) := ⟨ltCg h (by decide), h, cnC_3 a (ltCg h (by decide)) h, by show (match LCk.getD a 99 with | 0 => none | 1 => if 4 < 6 then some (a + 2 + 11 * 4) else none | c + 2 => (am_off c 4).map (fun o => a + o)) = _; rw [show LCk.getD a 99 = 5 from h]; rfl⟩
theorem tgC_3_4 {a : Nat} (h : LC.1 a = 5) : LC.1 (a + 4) = 0 := (by decide +kernel : ∀ a, a < 170 → LC.1 a = 5 → LC.1 (a + 4) = 0) a (ltCg h (by decide)) h
theorem lnC_3_4 {a : Nat} (h : LC.1 a = 5) : LC.2.1 (a + 4) = 401 := (by decide +kernel : ∀ a, a < 170 → LC.1 a = 5 → LC.2.1 (a + 4) = 401) a (ltCg h (by decide)) h
theorem loC_3_5 {a : Nat} (h : LC.1 a = 5) : a < LC.2.2.2 ∧ LC.1 a = 3 + 2 ∧ LC.2.1 a = 11 ∧ LC.2.2.1 a 5 = none := ⟨ltCg h (by decide), h, cnC_3 a (ltCg h (by decide)) h, by show (match LCk.getD a 99 with | 0 => none | 1 => if 5 < 6 then some (a + 2 + 11 * 5) else none | c + 2 => (am_off c 5).map (fun o => a + o)) = _; rw [show LCk.getD a 99 = 5 from h]; rfl⟩
theorem loC_3_6 {a : Nat} (h : LC.1 a = 5) : a < LC.2.2.2 ∧ LC.1 a = 3 + 2 ∧ LC.2.1 a = 11 ∧ LC.2.2.1 a 6 = none := ⟨ltCg h (by decide), h, cnC_3 a (ltCg h (by decide)) h, by show (match LCk.getD a 99 with | 0 => none | 1 => if 6 < 6 then some (a + 2 + 11 * 6) else none | c + 2 => (am_off c 6).map (fun o => a + o)) = _; rw [show LCk.getD a 99 = 5 from h]; rfl⟩
theorem loC_3_7 {a : Nat} (h : LC.1 a = 5) : a < LC.2.2.2 ∧ LC.1 a = 3 + 2 ∧ LC.2.1 a = 11 ∧ LC.2.2.1 a 7 = none := ⟨ltCg h (by decide), h, cnC_3 a (ltCg h (by decide)) h, by show (match LCk.getD a 99 with | 0 => none | 1 => if 7 < 6 then some (a + 2 + 11 * 7) else none | c + 2 => (am_off c 7).map (fun o => a + o)) = _; rw [show LCk.getD a 99 = 5 from h]; rfl⟩
theorem loC_3_8 {a : Nat} (h : LC.1 a = 5) : a < LC.2.2.2 ∧ LC.1 a = 3 + 2 ∧ LC.2.1 a = 11 ∧ LC.2.2.1 a 8 = none := ⟨ltCg h (by decide), h, cnC_3 a (ltCg h (by decide)) h, by show (match LCk.getD a 99 with | 0 => none | 1 => if 8 < 6 then some (a + 2 + 11 * 8) else none | c + 2 => (am_off c 8).map (fun o => a + o)) = _; rw [show LCk.getD a 99 = 5 from h]; rfl⟩
theorem loC_3_9 {a : Nat} (h : LC.1 a = 5) : a < LC.2.2.2 ∧ LC.1 a = 3 + 2 ∧ LC.2.1 a = 11 ∧ LC.2.2.1 a 9 = some (a + 5) := ⟨ltCg h (by decide), h, cnC_3 a (ltCg h (by decide)) h, by show (match LCk.getD a 99 with | 0 => none | 1 => if 9 < 6 then some (a + 2 + 11 * 9) else none | c + 2 => (am_off c 9).map (fun o => a + o)) = _; rw [show LCk.getD a 99 = 5 from h]; rfl⟩
theorem tgC_3_9 {a : Nat} (h : LC.1 a = 5) : LC.1 (a + 5) = 3 := (by decide +kernel : ∀ a, a < 170 → LC.1 a = 5 → LC.1 (a + 5) = 3) a (ltCg h (by decide)) h
theorem loC_3_10 {a : Nat} (h : LC.1 a = 5) : a < LC.2.2.2 ∧ LC.1 a = 3 + 2 ∧ LC.2.1 a = 11 ∧ LC.2.2.1 a 10 = some (a + 11) := ⟨ltCg h (by decide), h, cnC_3 a (ltCg h (by decide)) h, by show (match LCk.getD a 99 with | 0 => none | 1 => if 10 < 6 then some (a + 2 + 11 * 10) else none | c + 2 => (am_off c 10).map (fun o => a + o)) = _; rw [show LCk.getD a 99 = 5 from h]; rfl⟩
theorem tgC_3_10 {a : Nat} (h : LC.1 a = 5) : LC.1 (a + 11) = 6 := (by decide +kernel : ∀ a, a < 170 → LC.1 a = 5 → LC.1 (a + 11) = 6) a (ltCg h (by decide)) h
theorem cnC_4 : ∀ a, a < 170 → LC.1 a = 6 → LC.2.1 a = 3 := by decide +kernel
theorem loC_4_0 {a : Nat} (h : LC.1 a = 6) : a < LC.2.2.2 ∧ LC.1 a = 4 + 2 ∧ LC.2.1 a = 3 ∧ LC.2.2.1 a 0 = none := ⟨ltCg h (by decide), h, cnC_4 a (ltCg h (by decide)) h, by show (match LCk.getD a 99 with | 0 => none | 1 => if 0 < 6 then some (a + 2 + 11 * 0) else none | c + 2 => (am_off c 0).map (fun o => a + o)) = _; rw [show LCk.getD a 99 = 6 from h]; rfl⟩
theorem loC_4_1 {a : Nat} (h : LC.1 a = 6) : a < LC.2.2.2 ∧ LC.1 a = 4 + 2 ∧ LC.2.1 a = 3 ∧ LC.2.2.1 a 1 = some (a + 1) := ⟨ltCg h (by decide), h, cnC_4 a (ltCg h (by decide)) h, by show (match LCk.getD a 99 with | 0 => none | 1 => if 1 < 6 then some (a + 2 + 11 * 1) else none | c + 2 => (am_off c 1).map (fun o => a + o)) = _; rw [show LCk.getD a 99 = 6 from h]; rfl⟩
theorem tgC_4_1 {a : Nat} (h : LC.1 a = 6) : LC.1 (a + 1) = 0 := (by decide +kernel : ∀ a, a < 170 → LC.1 a = 6 → LC.1 (a + 1) = 0) a (ltCg h (by decide)) h
theorem loC_4_2 {a : Nat} (h : LC.1 a = 6) : a < LC.2.2.2 ∧ LC.1 a = 4 + 2 ∧ LC.2.1 a = 3 ∧ LC.2.2.1 a 2 = none := ⟨ltCg h (by decide), h, cnC_4 a (ltCg h (by decide)) h, by show (match LCk.getD a 99 with | 0 => none | 1 => if 2 < 6 then some (a + 2 + 11 * 2) else none | c + 2 => (am_off c 2).map (fun o => a + o)) = _; rw [show LCk.getD a 99 = 6 from h]; rfl⟩
theorem cnC_5 : ∀ a, a < 170 → LC.1 a = 7 → LC.2.1 a = 12 := by decide +kernel
theorem loC_5_0 {a : Nat} (h : LC.1 a = 7) : a < LC.2.2.2 ∧ LC.1 a = 5 + 2 ∧ LC.2.1 a = 12 ∧ LC.2.2.1 a 0 = some (a + 1) := ⟨ltCg h (by decide), h, cnC_5 a (ltCg h (by decide)) h, by show (match LCk.getD a 99 with | 0 => none | 1 => if 0 < 6 then some (a + 2 + 11 * 0) else none | c + 2 => (am_off c 0).map (fun o => a + o)) = _; rw [show LCk.getD a 99 = 7 from h]; rfl⟩
theorem tgC_5_0 {a : Nat} (h : LC.1 a = 7) : LC.1 (a + 1) = 2 := (by decide +kernel : ∀ a, a < 170 → LC.1 a = 7 → LC.1 (a + 1) = 2) a (ltCg h (by decide)) h
theorem loC_5_1 {a : Nat} (h : LC.1 a = 7) : a < LC.2.2.2 ∧ LC.1 a = 5 + 2 ∧ LC.2.1 a = 12 ∧ LC.2.2.1 a 1 = some (a + 12) := ⟨ltCg h (by decide), h, cnC_5 a (ltCg h (by decide)) h, by show (match LCk.getD a 99 with | 0 => none | 1 => if 1 < 6 then some (a + 2 + 11 * 1) else none | c + 2 => (am_off c 1).map (fun o => a + o)) = _; rw [show LCk.getD a 99 = 7 from h]; rfl⟩
theorem tgC_5_1 {a : Nat} (h : LC.1 a = 7) : LC.1 (a + 12) = 6 := (by decide +kernel : ∀ a, a < 170 → LC.1 a = 7 → LC.1 (a + 12) = 6) a (ltCg h (by decide)) h
theorem loC_5_2 {a : Nat} (h : LC.1 a = 7) : a < LC.2.2.2 ∧ LC.1 a = 5 + 2 ∧ LC.2.1 a = 12 ∧ LC.2.2.1 a 2 = some (a + 14) := ⟨ltCg h (by decide), h, cnC_5 a (ltCg h (by decide)) h, by show (match LCk.getD a 99 with | 0 => none | 1 => if 2 < 6 then some (a + 2 + 11 * 2) else none | c + 2 => (am_off c 2).map (fun o => a + o)) = _; rw [show LCk.getD a 99 = 7 from h]; rfl⟩
theorem tgC_5_2 {a : Nat} (h : LC.1 a = 7) : LC.1 (a + 14) = 3 := (by decide +kernel : ∀ a, a < 170 → LC.1 a = 7 → LC.1 (a + 14) = 3) a (ltCg h (by decide)) h
theorem loC_5_3 {a : Nat} (h : LC.1 a = 7) : a < LC.2.2.2 ∧ LC.1 a = 5 + 2 ∧ LC.2.1 a = 12 ∧ LC.2.2.1 a 3 = some (a + 20) := ⟨ltCg h (by decide), h, cnC_5 a (ltCg h (by decide)) h, by show (match LCk.getD a 99 with | 0 => none | 1 => if 3 < 6 then some (a + 2 + 11 * 3) else none | c + 2 => (am_off c 3).map (fun o => a + o)) = _; rw [show LCk.getD a 99 = 7 from h]; rfl⟩
theorem tgC_5_3 {a : Nat} (h : LC.1 a = 7) : LC.1 (a + 20) = 6 := (by decide +kernel : ∀ a, a < 170 → LC.1 a = 7 → LC.1 (a + 20) = 6) a (ltCg h (by decide)) h
theorem loC_5_4 {a : Nat} (h : LC.1 a = 7) : a < LC.2.2.2 ∧ LC.1 a = 5 + 2 ∧ LC.2.1 a = 12 ∧ LC.2.2.1 a 4 = some (a + 22) := ⟨ltCg h (by decide), h, cnC_5 a (ltCg h (by decide)) h, by show (match LCk.getD a 99 with | 0 => none | 1 => if 4 < 6 then some (a + 2 + 11 * 4) else none | c + 2 => (am_off c 4).map (fun o => a + o)) = _; rw [show LCk.getD a 99 = 7 from h]; rfl⟩
theorem tgC_5_4 {a : Nat} (h : LC.1 a = 7) : LC.1 (a + 22) = 6 := (by decide +kernel : ∀ a, a < 170 → LC.1 a = 7 → LC.1 (a + 22) = 6) a (ltCg h (by decide)) h
theorem loC_5_5 {a : Nat} (h : LC.1 a = 7) : a < LC.2.2.2 ∧ LC.1 a = 5 + 2 ∧ LC.2.1 a = 12 ∧ LC.2.2.1 a 5 = some (a + 24) := ⟨ltCg h (by decide), h, cnC_5 a (ltCg h (by decide)) h, by show (match LCk.getD a 99 with | 0 => none | 1 => if 5 < 6 then some (a + 2 + 11 * 5) else none | c + 2 => (am_off c 5).map (fun o => a + o)) = _; rw [show LCk.getD a 99 = 7 from h]; rfl⟩
theorem tgC_5_5 {a : Nat} (h : LC.1 a = 7) : LC.1 (a + 24) = 6 := (by decide +kernel : ∀ a, a < 170 → LC.1 a = 7 → LC.1 (a + 24) = 6) a (ltCg h (by decide)) h
theorem loC_5_6 {a : Nat} (h : LC.1 a = 7) : a < LC.2.2.2 ∧ LC.1 a = 5 + 2 ∧ LC.2.1 a = 12 ∧ LC.2.2.1 a 6 = some (a + 26) := ⟨ltCg h (by decide), h, cnC_5 a (ltCg h (by decide)) h, by show (match LCk.getD a 99 with | 0 => none | 1 => if 6 < 6 then some (a + 2 + 11 * 6) else none | c + 2 => (am_off c 6).map (fun o => a + o)) = _; rw [show LCk.getD a 99 = 7 from h]; rfl⟩
theorem tgC_5_6 {a : Nat} (h : LC.1 a = 7) : LC.1 (a + 26) = 6 := (by decide +kernel : ∀ a, a < 170 → LC.1 a = 7 → LC.1 (a + 26) = 6) a (ltCg h (by decide)) h
theorem loC_5_7 {a : Nat} (h : LC.1 a = 7) : a < LC.2.2.2 ∧ LC.1 a = 5 + 2 ∧ LC.2.1 a = 12 ∧ LC.2.2.1 a 7 = some (a + 28) := ⟨ltCg h (by decide), h, cnC_5 a (ltCg h (by decide)) h, by show (match LCk.getD a 99 with | 0 => none | 1 => if 7 < 6 then some (a + 2 + 11 * 7) else none | c + 2 => (am_off c 7).map (fun o => a + o)) = _; rw [show LCk.getD a 99 = 7 from h]; rfl⟩
theorem tgC_5_7 {a : Nat} (h : LC.1 a = 7) : LC.1 (a + 28) = 6 := (by decide +kernel : ∀ a, a < 170 → LC.1 a = 7 → LC.1 (a + 28) = 6) a (ltCg h (by decide)) h
theorem loC_5_8 {a : Nat} (h : LC.1 a = 7) : a < LC.2.2.2 ∧ LC.1 a = 5 + 2 ∧ LC.2.1 a = 12 ∧ LC.2.2.1 a 8 = some (a + 30) := ⟨ltCg h (by decide), h, cnC_5 a (ltCg h (by decide)) h, by show (match LCk.getD a 99 with | 0 => none | 1 => if 8 < 6 then some (a + 2 + 11 * 8) else none | c + 2 => (am_off c 8).map (fun o => a + o)) = _; rw [show LCk.getD a 99 = 7 from h]; rfl⟩
theorem tgC_5_8 {a : Nat} (h : LC.1 a = 7) : LC.1 (a + 30) = 6 := (by decide +kernel : ∀ a, a < 170 → LC.1 a = 7 → LC.1 (a + 30) = 6) a (ltCg h (by decide)) h
theorem loC_5_9 {a : Nat} (h : LC.1 a = 7) : a < LC.2.2.2 ∧ LC.1 a = 5 + 2 ∧ LC.2.1 a = 12 ∧ LC.2.2.1 a 9 = some (a + 32) := ⟨ltCg h (by decide), h, cnC_5 a (ltCg h (by decide)) h, by show (match LCk.getD a 99 with | 0 => none | 1 => if 9 < 6 then some (a + 2 + 11 * 9) else none | c + 2 => (am_off c 9).map (fun o => a + o)) = _; rw [show LCk.getD a 99 = 7 from h]; rfl⟩
theorem tgC_5_9 {a : Nat} (h : LC.1 a = 7) : LC.1 (a + 32) = 6 := (by decide +kernel : ∀ a, a < 170 → LC.1 a = 7 → LC.1 (a + 32) = 6) a (ltCg h (by decide)) h
theorem loC_5_10 {a : Nat} (h : LC.1 a = 7) : a < LC.2.2.2 ∧ LC.1 a = 5 + 2 ∧ LC.2.1 a = 12 ∧ LC.2.2.1 a 10 = some (a + 34) := ⟨ltCg h (by decide), h, cnC_5 a (ltCg h (by decide)) h, by show (match LCk.getD a 99 with | 0 => none | 1 => if 10 < 6 then some (a + 2 + 11 * 10) else none | c + 2 => (am_off c 10).map (fun o => a + o)) = _; rw [show LCk.getD a 99 = 7 from h]; rfl⟩
theorem tgC_5_10 {a : Nat} (h : LC.1 a = 7) : LC.1 (a + 34) = 6 := (by decide +kernel : ∀ a, a < 170 → LC.1 a = 7 → LC.1 (a + 34) = 6) a (ltCg h (by decide)) h
theorem loC_5_11 {a : Nat} (h : LC.1 a = 7) : a < LC.2.2.2 ∧ LC.1 a = 5 + 2 ∧ LC.2.1 a = 12 ∧ LC.2.2.1 a 11 = some (a + 36) := ⟨ltCg h (by decide), h, cnC_5 a (ltCg h (by decide)) h, by show (match LCk.getD a 99 with | 0 => none | 1 => if 11 < 6 then some (a + 2 + 11 * 11) else none | c + 2 => (am_off c 11).map (fun o => a + o)) = _; rw [show LCk.getD a 99 = 7 from h]; rfl⟩
theorem tgC_5_11 {a : Nat} (h : LC.1 a = 7) : LC.1 (a + 36) = 6 := (by decide +kernel : ∀ a, a < 170 → LC.1 a = 7 → LC.1 (a + 36) = 6) a (ltCg h (by decide)) h
theorem cnC_6 : ∀ a, a < 170 → LC.1 a = 8 → LC.2.1 a = 6 := by decide +kernel
theorem loC_6_0 {a : Nat} (h : LC.1 a = 8) : a < LC.2.2.2 ∧ LC.1 a = 6 + 2 ∧ LC.2.1 a = 6 ∧ LC.2.2.1 a 0 = some (a + 1) := ⟨ltCg h (by decide), h, cnC_6 a (ltCg h (by decide)) h, by show (match LCk.getD a 99 with | 0 => none | 1 => if 0 < 6 then some (a + 2 + 11 * 0) else none | c + 2 => (am_off c 0).map (fun o => a + o)) = _; rw [show LCk.getD a 99 = 8 from h]; rfl⟩
theorem tgC_6_0 {a : Nat} (h : LC.1 a = 8) : LC.1 (a + 1) = 7 := (by decide +kernel : ∀ a, a < 170 → LC.1 a = 8 → LC.1 (a + 1) = 7) a (ltCg h (by decide)) h
theorem loC_6_1 {a : Nat} (h : LC.1 a = 8) : a < LC.2.2.2 ∧ LC.1 a = 6 + 2 ∧ LC.2.1 a = 6 ∧ LC.2.2.1 a 1 = some (a + 39) := ⟨ltCg h (by decide), h, cnC_6 a (ltCg h (by decide)) h, by show (match LCk.getD a 99 with | 0 => none | 1 => if 1 < 6 then some (a + 2 + 11 * 1) else none | c + 2 => (am_off c 1).map (fun o => a + o)) = _; rw [show LCk.getD a 99 = 8 from h]; rfl⟩
theorem tgC_6_1 {a : Nat} (h : LC.1 a = 8) : LC.1 (a + 39) = 7 := (by decide +kernel : ∀ a, a < 170 → LC.1 a = 8 → LC.1 (a + 39) = 7) a (ltCg h (by decide)) h
theorem loC_6_2 {a : Nat} (h : LC.1 a = 8) : a < LC.2.2.2 ∧ LC.1 a = 6 + 2 ∧ LC.2.1 a = 6 ∧ LC.2.2.1 a 2 = none := ⟨ltCg h (by decide), h, cnC_6 a (ltCg h (by decide)) h, by show (match LCk.getD a 99 with | 0 => none | 1 => if 2 < 6 then some (a + 2 + 11 * 2) else none | c + 2 => (am_off c 2).map (fun o => a + o)) = _; rw [show LCk.getD a 99 = 8 from h]; rfl⟩
theorem loC_6_3 {a : Nat} (h : LC.1 a = 8) : a < LC.2.2.2 ∧ LC.1 a = 6 + 2 ∧ LC.2.1 a = 6 ∧ LC.2.2.1 a 3 = some (a + 77) := ⟨ltCg h (by decide), h, cnC_6 a (ltCg h (by decide)) h, by show (match LCk.getD a 99 with | 0 => none | 1 => if 3 < 6 then some (a + 2 + 11 * 3) else none | c + 2 => (am_off c 3).map (fun o => a + o)) = _; rw [show LCk.getD a 99 = 8 from h]; rfl⟩
theorem tgC_6_3 {a : Nat} (h : LC.1 a = 8) : LC.1 (a + 77) = 2 := (by decide +kernel : ∀ a, a < 170 → LC.1 a = 8 → LC.1 (a + 77) = 2) a (ltCg h (by decide)) h
theorem loC_6_4 {a : Nat} (h : LC.1 a = 8) : a < LC.2.2.2 ∧ LC.1 a = 6 + 2 ∧ LC.2.1 a = 6 ∧ LC.2.2.1 a 4 = some (a + 88) := ⟨ltCg h (by decide), h, cnC_6 a (ltCg h (by decide)) h, by show (match LCk.getD a 99 with | 0 => none | 1 => if 4 < 6 then some (a + 2 + 11 * 4) else none | c + 2 => (am_off c 4).map (fun o => a + o)) = _; rw [show LCk.getD a 99 = 8 from h]; rfl⟩
theorem tgC_6_4 {a : Nat} (h : LC.1 a = 8) : LC.1 (a + 88) = 4 := (by decide +kernel : ∀ a, a < 170 → LC.1 a = 8 → LC.1 (a + 88) = 4) a (ltCg h (by decide)) h
theorem loC_6_5 {a : Nat} (h : LC.1 a = 8) : a < LC.2.2.2 ∧ LC.1 a = 6 + 2 ∧ LC.2.1 a = 6 ∧ LC.2.2.1 a 5 = some (a + 157) := ⟨ltCg h (by decide), h, cnC_6 a (ltCg h (by decide)) h, by show (match LCk.getD a 99 with | 0 => none | 1 => if 5 < 6 then some (a + 2 + 11 * 5) else none | c + 2 => (am_off c 5).map (fun o => a + o)) = _; rw [show LCk.getD a 99 = 8 from h]; rfl⟩
theorem tgC_6_5 {a : Nat} (h : LC.1 a = 8) : LC.1 (a + 157) = 5 := (by decide +kernel : ∀ a, a < 170 → LC.1 a = 8 → LC.1 (a + 157) = 5) a (ltCg h (by decide)) h
def LM : am_L := (fun a => LMk.getD a 99, fun a => LMn.getD a 0, fun a k => match LMk.getD a 99 with
  | 0 => none
  | 1 => if k < 6 then some (a + 2 + 11 * k) else none
  | c + 2 => (am_off c k).map (fun o => a + o), 40)
theorem ltMg {a k : Nat} (h : LM.1 a = k) (hk : k ≠ 99) : a < LM.2.2.2 := by
  by_cases q : a < 40
  · exact q
  · exact absurd (show LM.1 a = 99 from by show LMk.getD a 99 = 99; rw [List.getD_eq_getElem?_getD, List.getElem?_eq_none (by rw [show LMk.length = 40 from by decide +kernel]; omega)]; rfl) (by rw [h]; exact hk)
theorem ltM {a : Nat} (h : LM.1 a = 0) : a < LM.2.2.2 := ltMg h (by decide)
theorem ltM1 {a : Nat} (h : LM.1 a = 1) : a < LM.2.2.2 := ltMg h (by decide)
theorem kM0 : LM.1 0 = 9 := rfl
theorem cnM_7 : ∀ a, a < 40 → LM.1 a = 9 → LM.2.1 a = 67 := by decide +kernel
theorem loM_7_0 {a : Nat} (h : LM.1 a = 9) : a < LM.2.2.2 ∧ LM.1 a = 7 + 2 ∧ LM.2.1 a = 67 ∧ LM.2.2.1 a 0 = none := ⟨ltMg h (by decide), h, cnM_7 a (ltMg h (by decide)) h, by show (match LMk.getD a 99 with | 0 => none | 1 => if 0 < 6 then some (a + 2 + 11 * 0) else none | c + 2 => (am_off c 0).map (fun o => a + o)) = _; rw [show LMk.getD a 99 = 9 from h]; rfl⟩
theorem loM_7_1 {a : Nat} (h : LM.1 a = 9) : a < LM.2.2.2 ∧ LM.1 a = 7 + 2 ∧ LM.2.1 a = 67 ∧ LM.2.2.1 a 1 = some (a + 1) := ⟨ltMg h (by decide), h, cnM_7 a (ltMg h (by decide)) h, by show (match LMk.getD a 99 with | 0 => none | 1 => if 1 < 6 then some (a + 2 + 11 * 1) else none | c + 2 => (am_off c 1).map (fun o => a + o)) = _; rw [show LMk.getD a 99 = 9 from h]; rfl⟩
theorem tgM_7_1 {a : Nat} (h : LM.1 a = 9) : LM.1 (a + 1) = 0 := (by decide +kernel : ∀ a, a < 40 → LM.1 a = 9 → LM.1 (a + 1) = 0) a (ltMg h (by decide)) h
theorem lnM_7_1 {a : Nat} (h : LM.1 a = 9) : LM.2.1 (a + 1) = 77 := (by decide +kernel : ∀ a, a < 40 → LM.1 a = 9 → LM.2.1 (a + 1) = 77) a (ltMg h (by decide)) h
theorem loM_7_2 {a : Nat} (h : LM.1 a = 9) : a < LM.2.2.2 ∧ LM.1 a = 7 + 2 ∧ LM.2.1 a = 67 ∧ LM.2.2.1 a 2 = some (a + 2) := ⟨ltMg h (by decide), h, cnM_7 a (ltMg h (by decide)) h, by show (match LMk.getD a 99 with | 0 => none | 1 => if 2 < 6 then some (a + 2 + 11 * 2) else none | c + 2 => (am_off c 2).map (fun o => a + o)) = _; rw [show LMk.getD a 99 = 9 from h]; rfl⟩
theorem tgM_7_2 {a : Nat} (h : LM.1 a = 9) : LM.1 (a + 2) = 0 := (by decide +kernel : ∀ a, a < 40 → LM.1 a = 9 → LM.1 (a + 2) = 0) a (ltMg h (by decide)) h
theorem lnM_7_2 {a : Nat} (h : LM.1 a = 9) : LM.2.1 (a + 2) = 462 := (by decide +kernel : ∀ a, a < 40 → LM.1 a = 9 → LM.2.1 (a + 2) = 462) a (ltMg h (by decide)) h
theorem loM_7_3 {a : Nat} (h : LM.1 a = 9) : a < LM.2.2.2 ∧ LM.1 a = 7 + 2 ∧ LM.2.1 a = 67 ∧ LM.2.2.1 a 3 = none := ⟨ltMg h (by decide), h, cnM_7 a (ltMg h (by decide)) h, by show (match LMk.getD a 99 with | 0 => none | 1 => if 3 < 6 then some (a + 2 + 11 * 3) else none | c + 2 => (am_off c 3).map (fun o => a + o)) = _; rw [show LMk.getD a 99 = 9 from h]; rfl⟩
theorem loM_7_4 {a : Nat} (h : LM.1 a = 9) : a < LM.2.2.2 ∧ LM.1 a = 7 + 2 ∧ LM.2.1 a = 67 ∧ LM.2.2.1 a 4 = some (a + 3) := ⟨ltMg h (by decide), h, cnM_7 a (ltMg h (by decide)) h, by show (match LMk.getD a 99 with | 0 => none | 1 => if 4 < 6 then some (a + 2 + 11 * 4) else none | c + 2 => (am_off c 4).map (fun o => a + o)) = _; rw [show LMk.getD a 99 = 9 from h]; rfl⟩
theorem tgM_7_4 {a : Nat} (h : LM.1 a = 9) : LM.1 (a + 3) = 0 := (by decide +kernel : ∀ a, a < 40 → LM.1 a = 9 → LM.1 (a + 3) = 0) a (ltMg h (by decide)) h
theorem lnM_7_4 {a : Nat} (h : LM.1 a = 9) : LM.2.1 (a + 3) = 77 := (by decide +kernel : ∀ a, a < 40 → LM.1 a = 9 → LM.2.1 (a + 3) = 77) a (ltMg h (by decide)) h
theorem loM_7_5 {a : Nat} (h : LM.1 a = 9) : a < LM.2.2.2 ∧ LM.1 a = 7 + 2 ∧ LM.2.1 a = 67 ∧ LM.2.2.1 a 5 = none := ⟨ltMg h (by decide), h, cnM_7 a (ltMg h (by decide)) h, by show (match LMk.getD a 99 with | 0 => none | 1 => if 5 < 6 then some (a + 2 + 11 * 5) else none | c + 2 => (am_off c 5).map (fun o => a + o)) = _; rw [show LMk.getD a 99 = 9 from h]; rfl⟩
theorem loM_7_6 {a : Nat} (h : LM.1 a = 9) : a < LM.2.2.2 ∧ LM.1 a = 7 + 2 ∧ LM.2.1 a = 67 ∧ LM.2.2.1 a 6 = none := ⟨ltMg h (by decide), h, cnM_7 a (ltMg h (by decide)) h, by show (match LMk.getD a 99 with | 0 => none | 1 => if 6 < 6 then some (a + 2 + 11 * 6) else none | c + 2 => (am_off c 6).map (fun o => a + o)) = _; rw [show LMk.getD a 99 = 9 from h]; rfl⟩
theorem loM_7_7 {a : Nat} (h : LM.1 a = 9) : a < LM.2.2.2 ∧ LM.1 a = 7 + 2 ∧ LM.2.1 a = 67 ∧ LM.2.2.1 a 7 = none := ⟨ltMg h (by decide), h, cnM_7 a (ltMg h (by decide)) h, by show (match LMk.getD a 99 with | 0 => none | 1 => if 7 < 6 then some (a + 2 + 11 * 7) else none | c + 2 => (am_off c 7).map (fun o => a + o)) = _; rw [show LMk.getD a 99 = 9 from h]; rfl⟩
theorem loM_7_8 {a : Nat} (h : LM.1 a = 9) : a < LM.2.2.2 ∧ LM.1 a = 7 + 2 ∧ LM.2.1 a = 67 ∧ LM.2.2.1 a 8 = some (a + 4) := ⟨ltMg h (by decide), h, cnM_7 a (ltMg h (by decide)) h, by show (match LMk.getD a 99 with | 0 => none | 1 => if 8 < 6 then some (a + 2 + 11 * 8) else none | c + 2 => (am_off c 8).map (fun o => a + o)) = _; rw [show LMk.getD a 99 = 9 from h]; rfl⟩
theorem tgM_7_8 {a : Nat} (h : LM.1 a = 9) : LM.1 (a + 4) = 0 := (by decide +kernel : ∀ a, a < 40 → LM.1 a = 9 → LM.1 (a + 4) = 0) a (ltMg h (by decide)) h
theorem lnM_7_8 {a : Nat} (h : LM.1 a = 9) : LM.2.1 (a + 4) = 12 := (by decide +kernel : ∀ a, a < 40 → LM.1 a = 9 → LM.2.1 (a + 4) = 12) a (ltMg h (by decide)) h
theorem loM_7_9 {a : Nat} (h : LM.1 a = 9) : a < LM.2.2.2 ∧ LM.1 a = 7 + 2 ∧ LM.2.1 a = 67 ∧ LM.2.2.1 a 9 = some (a + 5) := ⟨ltMg h (by decide), h, cnM_7 a (ltMg h (by decide)) h, by show (match LMk.getD a 99 with | 0 => none | 1 => if 9 < 6 then some (a + 2 + 11 * 9) else none | c + 2 => (am_off c 9).map (fun o => a + o)) = _; rw [show LMk.getD a 99 = 9 from h]; rfl⟩
theorem tgM_7_9 {a : Nat} (h : LM.1 a = 9) : LM.1 (a + 5) = 0 := (by decide +kernel : ∀ a, a < 40 → LM.1 a = 9 → LM.1 (a + 5) = 0) a (ltMg h (by decide)) h
theorem lnM_7_9 {a : Nat} (h : LM.1 a = 9) : LM.2.1 (a + 5) = 12 := (by decide +kernel : ∀ a, a < 40 → LM.1 a = 9 → LM.2.1 (a + 5) = 12) a (ltMg h (by decide)) h
theorem loM_7_10 {a : Nat} (h : LM.1 a = 9) : a < LM.2.2.2 ∧ LM.1 a = 7 + 2 ∧ LM.2.1 a = 67 ∧ LM.2.2.1 a 10 = some (a + 6) := ⟨ltMg h (by decide), h, cnM_7 a (ltMg h (by decide)) h, by show (match LMk.getD a 99 with | 0 => none | 1 => if 10 < 6 then some (a + 2 + 11 * 10) else none | c + 2 => (am_off c 10).map (fun o => a + o)) = _; rw [show LMk.getD a 99 = 9 from h]; rfl⟩
theorem tgM_7_10 {a : Nat} (h : LM.1 a = 9) : LM.1 (a + 6) = 0 := (by decide +kernel : ∀ a, a < 40 → LM.1 a = 9 → LM.1 (a + 6) = 0) a (ltMg h (by decide)) h
theorem lnM_7_10 {a : Nat} (h : LM.1 a = 9) : LM.2.1 (a + 6) = 12 := (by decide +kernel : ∀ a, a < 40 → LM.1 a = 9 → LM.2.1 (a + 6) = 12) a (ltMg h (by decide)) h
theorem loM_7_11 {a : Nat} (h : LM.1 a = 9) : a < LM.2.2.2 ∧ LM.1 a = 7 + 2 ∧ LM.2.1 a = 67 ∧ LM.2.2.1 a 11 = some (a + 7) := ⟨ltMg h (by decide), h, cnM_7 a (ltMg h (by decide)) h, by show (match LMk.getD a 99 with | 0 => none | 1 => if 11 < 6 then some (a + 2 + 11 * 11) else none | c + 2 => (am_off c 11).map (fun o => a + o)) = _; rw [show LMk.getD a 99 = 9 from h]; rfl⟩
theorem tgM_7_11 {a : Nat} (h : LM.1 a = 9) : LM.1 (a + 7) = 0 := (by decide +kernel : ∀ a, a < 40 → LM.1 a = 9 → LM.1 (a + 7) = 0) a (ltMg h (by decide)) h
theorem lnM_7_11 {a : Nat} (h : LM.1 a = 9) : LM.2.1 (a + 7) = 12 := (by decide +kernel : ∀ a, a < 40 → LM.1 a = 9 → LM.2.1 (a + 7) = 12) a (ltMg h (by decide)) h
theorem loM_7_12 {a : Nat} (h : LM.1 a = 9) : a < LM.2.2.2 ∧ LM.1 a = 7 + 2 ∧ LM.2.1 a = 67 ∧ LM.2.2.1 a 12 = some (a + 8) := ⟨ltMg h (by decide), h, cnM_7 a (ltMg h (by decide)) h, by show (match LMk.getD a 99 with | 0 => none | 1 => if 12 < 6 then some (a + 2 + 11 * 12) else none | c + 2 => (am_off c 12).map (fun o => a + o)) = _; rw [show LMk.getD a 99 = 9 from h]; rfl⟩
theorem tgM_7_12 {a : Nat} (h : LM.1 a = 9) : LM.1 (a + 8) = 0 := (by decide +kernel : ∀ a, a < 40 → LM.1 a = 9 → LM.1 (a + 8) = 0) a (ltMg h (by decide)) h
theorem lnM_7_12 {a : Nat} (h : LM.1 a = 9) : LM.2.1 (a + 8) = 600 := (by decide +kernel : ∀ a, a < 40 → LM.1 a = 9 → LM.2.1 (a + 8) = 600) a (ltMg h (by decide)) h
theorem loM_7_13 {a : Nat} (h : LM.1 a = 9) : a < LM.2.2.2 ∧ LM.1 a = 7 + 2 ∧ LM.2.1 a = 67 ∧ LM.2.2.1 a 13 = some (a + 9) := ⟨ltMg h (by decide), h, cnM_7 a (ltMg h (by decide)) h, by show (match LMk.getD a 99 with | 0 => none | 1 => if 13 < 6 then some (a + 2 + 11 * 13) else none | c + 2 => (am_off c 13).map (fun o => a + o)) = _; rw [show LMk.getD a 99 = 9 from h]; rfl⟩
theorem tgM_7_13 {a : Nat} (h : LM.1 a = 9) : LM.1 (a + 9) = 0 := (by decide +kernel : ∀ a, a < 40 → LM.1 a = 9 → LM.1 (a + 9) = 0) a (ltMg h (by decide)) h
theorem lnM_7_13 {a : Nat} (h : LM.1 a = 9) : LM.2.1 (a + 9) = 400 := (by decide +kernel : ∀ a, a < 40 → LM.1 a = 9 → LM.2.1 (a + 9) = 400) a (ltMg h (by decide)) h
theorem loM_7_14 {a : Nat} (h : LM.1 a = 9) : a < LM.2.2.2 ∧ LM.1 a = 7 + 2 ∧ LM.2.1 a = 67 ∧ LM.2.2.1 a 14 = none := ⟨ltMg h (by decide), h, cnM_7 a (ltMg h (by decide)) h, by show (match LMk.getD a 99 with | 0 => none | 1 => if 14 < 6 then some (a + 2 + 11 * 14) else none | c + 2 => (am_off c 14).map (fun o => a + o)) = _; rw [show LMk.getD a 99 = 9 from h]; rfl⟩
theorem loM_7_15 {a : Nat} (h : LM.1 a = 9) : a < LM.2.2.2 ∧ LM.1 a = 7 + 2 ∧ LM.2.1 a = 67 ∧ LM.2.2.1 a 15 = none := ⟨ltMg h (by decide), h, cnM_7 a (ltMg h (by decide)) h, by show (match LMk.getD a 99 with | 0 => none | 1 => if 15 < 6 then some (a + 2 + 11 * 15) else none | c + 2 => (am_off c 15).map (fun o => a + o)) = _; rw [show LMk.getD a 99 = 9 from h]; rfl⟩
theorem loM_7_16 {a : Nat} (h : LM.1 a = 9) : a < LM.2.2.2 ∧ LM.1 a = 7 + 2 ∧ LM.2.1 a = 67 ∧ LM.2.2.1 a 16 = none := ⟨ltMg h (by decide), h, cnM_7 a (ltMg h (by decide)) h, by show (match LMk.getD a 99 with | 0 => none | 1 => if 16 < 6 then some (a + 2 + 11 * 16) else none | c + 2 => (am_off c 16).map (fun o => a + o)) = _; rw [show LMk.getD a 99 = 9 from h]; rfl⟩
theorem loM_7_17 {a : Nat} (h : LM.1 a = 9) : a < LM.2.2.2 ∧ LM.1 a = 7 + 2 ∧ LM.2.1 a = 67 ∧ LM.2.2.1 a 17 = none := ⟨ltMg h (by decide), h, cnM_7 a (ltMg h (by decide)) h, by show (match LMk.getD a 99 with | 0 => none | 1 => if 17 < 6 then some (a + 2 + 11 * 17) else none | c + 2 => (am_off c 17).map (fun o => a + o)) = _; rw [show LMk.getD a 99 = 9 from h]; rfl⟩
theorem loM_7_18 {a : Nat} (h : LM.1 a = 9) : a < LM.2.2.2 ∧ LM.1 a = 7 + 2 ∧ LM.2.1 a = 67 ∧ LM.2.2.1 a 18 = none := ⟨ltMg h (by decide), h, cnM_7 a (ltMg h (by decide)) h, by show (match LMk.getD a 99 with | 0 => none | 1 => if 18 < 6 then some (a + 2 + 11 * 18) else none | c + 2 => (am_off c 18).map (fun o => a + o)) = _; rw [show LMk.getD a 99 = 9 from h]; rfl⟩
theorem loM_7_19 {a : Nat} (h : LM.1 a = 9) : a < LM.2.2.2 ∧ LM.1 a = 7 + 2 ∧ LM.2.1 a = 67 ∧ LM.2.2.1 a 19 = some (a + 10) := ⟨ltMg h (by decide), h, cnM_7 a (ltMg h (by decide)) h, by show (match LMk.getD a 99 with | 0 => none | 1 => if 19 < 6 then some (a + 2 + 11 * 19) else none | c + 2 => (am_off c 19).map (fun o => a + o)) = _; rw [show LMk.getD a 99 = 9 from h]; rfl⟩
theorem tgM_7_19 {a : Nat} (h : LM.1 a = 9) : LM.1 (a + 10) = 0 := (by decide +kernel : ∀ a, a < 40 → LM.1 a = 9 → LM.1 (a + 10) = 0) a (ltMg h (by decide)) h
theorem lnM_7_19 {a : Nat} (h : LM.1 a = 9) : LM.2.1 (a + 10) = 133 := (by decide +kernel : ∀ a, a < 40 → LM.1 a = 9 → LM.2.1 (a + 10) = 133) a (ltMg h (by decide)) h
theorem loM_7_20 {a : Nat} (h : LM.1 a = 9) : a < LM.2.2.2 ∧ LM.1 a = 7 + 2 ∧ LM.2.1 a = 67 ∧ LM.2.2.1 a 20 = some (a + 11) := ⟨ltMg h (by decide), h, cnM_7 a (ltMg h (by decide)) h, by show (match LMk.getD a 99 with | 0 => none | 1 => if 20 < 6 then some (a + 2 + 11 * 20) else none | c + 2 => (am_off c 20).map (fun o => a + o)) = _; rw [show LMk.getD a 99 = 9 from h]; rfl⟩
theorem tgM_7_20 {a : Nat} (h : LM.1 a = 9) : LM.1 (a + 11) = 0 := (by decide +kernel : ∀ a, a < 40 → LM.1 a = 9 → LM.1 (a + 11) = 0) a (ltMg h (by decide)) h
theorem lnM_7_20 {a : Nat} (h : LM.1 a = 9) : LM.2.1 (a + 11) = 2 := (by decide +kernel : ∀ a, a < 40 → LM.1 a = 9 → LM.2.1 (a + 11) = 2) a (ltMg h (by decide)) h
theorem loM_7_21 {a : Nat} (h : LM.1 a = 9) : a < LM.2.2.2 ∧ LM.1 a = 7 + 2 ∧ LM.2.1 a = 67 ∧ LM.2.2.1 a 21 = some (a + 12) := ⟨ltMg h (by decide), h, cnM_7 a (ltMg h (by decide)) h, by show (match LMk.getD a 99 with | 0 => none | 1 => if 21 < 6 then some (a + 2 + 11 * 21) else none | c + 2 => (am_off c 21).map (fun o => a + o)) = _; rw [show LMk.getD a 99 = 9 from h]; rfl⟩
theorem tgM_7_21 {a : Nat} (h : LM.1 a = 9) : LM.1 (a + 12) = 0 := (by decide +kernel : ∀ a, a < 40 → LM.1 a = 9 → LM.1 (a + 12) = 0) a (ltMg h (by decide)) h
theorem lnM_7_21 {a : Nat} (h : LM.1 a = 9) : LM.2.1 (a + 12) = 48 := (by decide +kernel : ∀ a, a < 40 → LM.1 a = 9 → LM.2.1 (a + 12) = 48) a (ltMg h (by decide)) h
theorem loM_7_22 {a : Nat} (h : LM.1 a = 9) : a < LM.2.2.2 ∧ LM.1 a = 7 + 2 ∧ LM.2.1 a = 67 ∧ LM.2.2.1 a 22 = some (a + 13) := ⟨ltMg h (by decide), h, cnM_7 a (ltMg h (by decide)) h, by show (match LMk.getD a 99 with | 0 => none | 1 => if 22 < 6 then some (a + 2 + 11 * 22) else none | c + 2 => (am_off c 22).map (fun o => a + o)) = _; rw [show LMk.getD a 99 = 9 from h]; rfl⟩
theorem tgM_7_22 {a : Nat} (h : LM.1 a = 9) : LM.1 (a + 13) = 0 := (by decide +kernel : ∀ a, a < 40 → LM.1 a = 9 → LM.1 (a + 13) = 0) a (ltMg h (by decide)) h
theorem lnM_7_22 {a : Nat} (h : LM.1 a = 9) : LM.2.1 (a + 13) = 48 := (by decide +kernel : ∀ a, a < 40 → LM.1 a = 9 → LM.2.1 (a + 13) = 48) a (ltMg h (by decide)) h
theorem loM_7_23 {a : Nat} (h : LM.1 a = 9) : a < LM.2.2.2 ∧ LM.1 a = 7 + 2 ∧ LM.2.1 a = 67 ∧ LM.2.2.1 a 23 = some (a + 14) := ⟨ltMg h (by decide), h, cnM_7 a (ltMg h (by decide)) h, by show (match LMk.getD a 99 with | 0 => none | 1 => if 23 < 6 then some (a + 2 + 11 * 23) else none | c + 2 => (am_off c 23).map (fun o => a + o)) = _; rw [show LMk.getD a 99 = 9 from h]; rfl⟩
theorem tgM_7_23 {a : Nat} (h : LM.1 a = 9) : LM.1 (a + 14) = 0 := (by decide +kernel : ∀ a, a < 40 → LM.1 a = 9 → LM.1 (a + 14) = 0) a (ltMg h (by decide)) h
theorem lnM_7_23 {a : Nat} (h : LM.1 a = 9) : LM.2.1 (a + 14) = 48 := (by decide +kernel : ∀ a, a < 40 → LM.1 a = 9 → LM.2.1 (a + 14) = 48) a (ltMg h (by decide)) h
theorem loM_7_24 {a : Nat} (h : LM.1 a = 9) : a < LM.2.2.2 ∧ LM.1 a = 7 + 2 ∧ LM.2.1 a = 67 ∧ LM.2.2.1 a 24 = some (a + 15) := ⟨ltMg h (by decide), h, cnM_7 a (ltMg h (by decide)) h, by show (match LMk.getD a 99 with | 0 => none | 1 => if 24 < 6 then some (a + 2 + 11 * 24) else none | c + 2 => (am_off c 24).map (fun o => a + o)) = _; rw [show LMk.getD a 99 = 9 from h]; rfl⟩
theorem tgM_7_24 {a : Nat} (h : LM.1 a = 9) : LM.1 (a + 15) = 0 := (by decide +kernel : ∀ a, a < 40 → LM.1 a = 9 → LM.1 (a + 15) = 0) a (ltMg h (by decide)) h
theorem lnM_7_24 {a : Nat} (h : LM.1 a = 9) : LM.2.1 (a + 15) = 48 := (by decide +kernel : ∀ a, a < 40 → LM.1 a = 9 → LM.2.1 (a + 15) = 48) a (ltMg h (by decide)) h
theorem loM_7_25 {a : Nat} (h : LM.1 a = 9) : a < LM.2.2.2 ∧ LM.1 a = 7 + 2 ∧ LM.2.1 a = 67 ∧ LM.2.2.1 a 25 = some (a + 16) := ⟨ltMg h (by decide), h, cnM_7 a (ltMg h (by decide)) h, by show (match LMk.getD a 99 with | 0 => none | 1 => if 25 < 6 then some (a + 2 + 11 * 25) else none | c + 2 => (am_off c 25).map (fun o => a + o)) = _; rw [show LMk.getD a 99 = 9 from h]; rfl⟩
theorem tgM_7_25 {a : Nat} (h : LM.1 a = 9) : LM.1 (a + 16) = 0 := (by decide +kernel : ∀ a, a < 40 → LM.1 a = 9 → LM.1 (a + 16) = 0) a (ltMg h (by decide)) h
theorem lnM_7_25 {a : Nat} (h : LM.1 a = 9) : LM.2.1 (a + 16) = 1200 := (by decide +kernel : ∀ a, a < 40 → LM.1 a = 9 → LM.2.1 (a + 16) = 1200) a (ltMg h (by decide)) h
theorem loM_7_26 {a : Nat} (h : LM.1 a = 9) : a < LM.2.2.2 ∧ LM.1 a = 7 + 2 ∧ LM.2.1 a = 67 ∧ LM.2.2.1 a 26 = some (a + 17) := ⟨ltMg h (by decide), h, cnM_7 a (ltMg h (by decide)) h, by show (match LMk.getD a 99 with | 0 => none | 1 => if 26 < 6 then some (a + 2 + 11 * 26) else none | c + 2 => (am_off c 26).map (fun o => a + o)) = _; rw [show LMk.getD a 99 = 9 from h]; rfl⟩
theorem tgM_7_26 {a : Nat} (h : LM.1 a = 9) : LM.1 (a + 17) = 0 := (by decide +kernel : ∀ a, a < 40 → LM.1 a = 9 → LM.1 (a + 17) = 0) a (ltMg h (by decide)) h
theorem lnM_7_26 {a : Nat} (h : LM.1 a = 9) : LM.2.1 (a + 17) = 1200 := (by decide +kernel : ∀ a, a < 40 → LM.1 a = 9 → LM.2.1 (a + 17) = 1200) a (ltMg h (by decide)) h
theorem loM_7_27 {a : Nat} (h : LM.1 a = 9) : a < LM.2.2.2 ∧ LM.1 a = 7 + 2 ∧ LM.2.1 a = 67 ∧ LM.2.2.1 a 27 = none := ⟨ltMg h (by decide), h, cnM_7 a (ltMg h (by decide)) h, by show (match LMk.getD a 99 with | 0 => none | 1 => if 27 < 6 then some (a + 2 + 11 * 27) else none | c + 2 => (am_off c 27).map (fun o => a + o)) = _; rw [show LMk.getD a 99 = 9 from h]; rfl⟩
theorem loM_7_28 {a : Nat} (h : LM.1 a = 9) : a < LM.2.2.2 ∧ LM.1 a = 7 + 2 ∧ LM.2.1 a = 67 ∧ LM.2.2.1 a 28 = none := ⟨ltMg h (by decide), h, cnM_7 a (ltMg h (by decide)) h, by show (match LMk.getD a 99 with | 0 => none | 1 => if 28 < 6 then some (a + 2 + 11 * 28) else none | c + 2 => (am_off c 28).map (fun o => a + o)) = _; rw [show LMk.getD a 99 = 9 from h]; rfl⟩
theorem loM_7_29 {a : Nat} (h : LM.1 a = 9) : a < LM.2.2.2 ∧ LM.1 a = 7 + 2 ∧ LM.2.1 a = 67 ∧ LM.2.2.1 a 29 = none := ⟨ltMg h (by decide), h, cnM_7 a (ltMg h (by decide)) h, by show (match LMk.getD a 99 with | 0 => none | 1 => if 29 < 6 then some (a + 2 + 11 * 29) else none | c + 2 => (am_off c 29).map (fun o => a + o)) = _; rw [show LMk.getD a 99 = 9 from h]; rfl⟩
theorem loM_7_30 {a : Nat} (h : LM.1 a = 9) : a < LM.2.2.2 ∧ LM.1 a = 7 + 2 ∧ LM.2.1 a = 67 ∧ LM.2.2.1 a 30 = some (a + 18) := ⟨ltMg h (by decide), h, cnM_7 a (ltMg h (by decide)) h, by show (match LMk.getD a 99 with | 0 => none | 1 => if 30 < 6 then some (a + 2 + 11 * 30) else none | c + 2 => (am_off c 30).map (fun o => a + o)) = _; rw [show LMk.getD a 99 = 9 from h]; rfl⟩
theorem tgM_7_30 {a : Nat} (h : LM.1 a = 9) : LM.1 (a + 18) = 0 := (by decide +kernel : ∀ a, a < 40 → LM.1 a = 9 → LM.1 (a + 18) = 0) a (ltMg h (by decide)) h
theorem lnM_7_30 {a : Nat} (h : LM.1 a = 9) : LM.2.1 (a + 18) = 40 := (by decide +kernel : ∀ a, a < 40 → LM.1 a = 9 → LM.2.1 (a + 18) = 40) a (ltMg h (by decide)) h
theorem loM_7_31 {a : Nat} (h : LM.1 a = 9) : a < LM.2.2.2 ∧ LM.1 a = 7 + 2 ∧ LM.2.1 a = 67 ∧ LM.2.2.1 a 31 = none := ⟨ltMg h (by decide), h, cnM_7 a (ltMg h (by decide)) h, by show (match LMk.getD a 99 with | 0 => none | 1 => if 31 < 6 then some (a + 2 + 11 * 31) else none | c + 2 => (am_off c 31).map (fun o => a + o)) = _; rw [show LMk.getD a 99 = 9 from h]; rfl⟩
theorem loM_7_32 {a : Nat} (h : LM.1 a = 9) : a < LM.2.2.2 ∧ LM.1 a = 7 + 2 ∧ LM.2.1 a = 67 ∧ LM.2.2.1 a 32 = none := ⟨ltMg h (by decide), h, cnM_7 a (ltMg h (by decide)) h, by show (match LMk.getD a 99 with | 0 => none | 1 => if 32 < 6 then some (a + 2 + 11 * 32) else none | c + 2 => (am_off c 32).map (fun o => a + o)) = _; rw [show LMk.getD a 99 = 9 from h]; rfl⟩
theorem loM_7_33 {a : Nat} (h : LM.1 a = 9) : a < LM.2.2.2 ∧ LM.1 a = 7 + 2 ∧ LM.2.1 a = 67 ∧ LM.2.2.1 a 33 = none := ⟨ltMg h (by decide), h, cnM_7 a (ltMg h (by decide)) h, by show (match LMk.getD a 99 with | 0 => none | 1 => if 33 < 6 then some (a + 2 + 11 * 33) else none | c + 2 => (am_off c 33).map (fun o => a + o)) = _; rw [show LMk.getD a 99 = 9 from h]; rfl⟩
theorem loM_7_34 {a : Nat} (h : LM.1 a = 9) : a < LM.2.2.2 ∧ LM.1 a = 7 + 2 ∧ LM.2.1 a = 67 ∧ LM.2.2.1 a 34 = none := ⟨ltMg h (by decide), h, cnM_7 a (ltMg h (by decide)) h, by show (match LMk.getD a 99 with | 0 => none | 1 => if 34 < 6 then some (a + 2 + 11 * 34) else none | c + 2 => (am_off c 34).map (fun o => a + o)) = _; rw [show LMk.getD a 99 = 9 from h]; rfl⟩
theorem loM_7_35 {a : Nat} (h : LM.1 a = 9) : a < LM.2.2.2 ∧ LM.1 a = 7 + 2 ∧ LM.2.1 a = 67 ∧ LM.2.2.1 a 35 = none := ⟨ltMg h (by decide), h, cnM_7 a (ltMg h (by decide)) h, by show (match LMk.getD a 99 with | 0 => none | 1 => if 35 < 6 then some (a + 2 + 11 * 35) else none | c + 2 => (am_off c 35).map (fun o => a + o)) = _; rw [show LMk.getD a 99 = 9 from h]; rfl⟩
theorem loM_7_36 {a : Nat} (h : LM.1 a = 9) : a < LM.2.2.2 ∧ LM.1 a = 7 + 2 ∧ LM.2.1 a = 67 ∧ LM.2.2.1 a 36 = none := ⟨ltMg h (by decide), h, cnM_7 a (ltMg h (by decide)) h, by show (match LMk.getD a 99 with | 0 => none | 1 => if 36 < 6 then some (a + 2 + 11 * 36) else none | c + 2 => (am_off c 36).map (fun o => a + o)) = _; rw [show LMk.getD a 99 = 9 from h]; rfl⟩
theorem loM_7_37 {a : Nat} (h : LM.1 a = 9) : a < LM.2.2.2 ∧ LM.1 a = 7 + 2 ∧ LM.2.1 a = 67 ∧ LM.2.2.1 a 37 = some (a + 19) := ⟨ltMg h (by decide), h, cnM_7 a (ltMg h (by decide)) h, by show (match LMk.getD a 99 with | 0 => none | 1 => if 37 < 6 then some (a + 2 + 11 * 37) else none | c + 2 => (am_off c 37).map (fun o => a + o)) = _; rw [show LMk.getD a 99 = 9 from h]; rfl⟩
theorem tgM_7_37 {a : Nat} (h : LM.1 a = 9) : LM.1 (a + 19) = 0 := (by decide +kernel : ∀ a, a < 40 → LM.1 a = 9 → LM.1 (a + 19) = 0) a (ltMg h (by decide)) h
theorem lnM_7_37 {a : Nat} (h : LM.1 a = 9) : LM.2.1 (a + 19) = 128 := (by decide +kernel : ∀ a, a < 40 → LM.1 a = 9 → LM.2.1 (a + 19) = 128) a (ltMg h (by decide)) h
theorem loM_7_38 {a : Nat} (h : LM.1 a = 9) : a < LM.2.2.2 ∧ LM.1 a = 7 + 2 ∧ LM.2.1 a = 67 ∧ LM.2.2.1 a 38 = none := ⟨ltMg h (by decide), h, cnM_7 a (ltMg h (by decide)) h, by show (match LMk.getD a 99 with | 0 => none | 1 => if 38 < 6 then some (a + 2 + 11 * 38) else none | c + 2 => (am_off c 38).map (fun o => a + o)) = _; rw [show LMk.getD a 99 = 9 from h]; rfl⟩
theorem loM_7_39 {a : Nat} (h : LM.1 a = 9) : a < LM.2.2.2 ∧ LM.1 a = 7 + 2 ∧ LM.2.1 a = 67 ∧ LM.2.2.1 a 39 = some (a + 20) := ⟨ltMg h (by decide), h, cnM_7 a (ltMg h (by decide)) h, by show (match LMk.getD a 99 with | 0 => none | 1 => if 39 < 6 then some (a + 2 + 11 * 39) else none | c + 2 => (am_off c 39).map (fun o => a + o)) = _; rw [show LMk.getD a 99 = 9 from h]; rfl⟩
theorem tgM_7_39 {a : Nat} (h : LM.1 a = 9) : LM.1 (a + 20) = 0 := (by decide +kernel : ∀ a, a < 40 → LM.1 a = 9 → LM.1 (a + 20) = 0) a (ltMg h (by decide)) h
theorem lnM_7_39 {a : Nat} (h : LM.1 a = 9) : LM.2.1 (a + 20) = 24 := (by decide +kernel : ∀ a, a < 40 → LM.1 a = 9 → LM.2.1 (a + 20) = 24) a (ltMg h (by decide)) h
theorem loM_7_40 {a : Nat} (h : LM.1 a = 9) : a < LM.2.2.2 ∧ LM.1 a = 7 + 2 ∧ LM.2.1 a = 67 ∧ LM.2.2.1 a 40 = none := ⟨ltMg h (by decide), h, cnM_7 a (ltMg h (by decide)) h, by show (match LMk.getD a 99 with | 0 => none | 1 => if 40 < 6 then some (a + 2 + 11 * 40) else none | c + 2 => (am_off c 40).map (fun o => a + o)) = _; rw [show LMk.getD a 99 = 9 from h]; rfl⟩
theorem loM_7_41 {a : Nat} (h : LM.1 a = 9) : a < LM.2.2.2 ∧ LM.1 a = 7 + 2 ∧ LM.2.1 a = 67 ∧ LM.2.2.1 a 41 = some (a + 21) := ⟨ltMg h (by decide), h, cnM_7 a (ltMg h (by decide)) h, by show (match LMk.getD a 99 with | 0 => none | 1 => if 41 < 6 then some (a + 2 + 11 * 41) else none | c + 2 => (am_off c 41).map (fun o => a + o)) = _; rw [show LMk.getD a 99 = 9 from h]; rfl⟩
theorem tgM_7_41 {a : Nat} (h : LM.1 a = 9) : LM.1 (a + 21) = 0 := (by decide +kernel : ∀ a, a < 40 → LM.1 a = 9 → LM.1 (a + 21) = 0) a (ltMg h (by decide)) h
theorem lnM_7_41 {a : Nat} (h : LM.1 a = 9) : LM.2.1 (a + 21) = 24 := (by decide +kernel : ∀ a, a < 40 → LM.1 a = 9 → LM.2.1 (a + 21) = 24) a (ltMg h (by decide)) h
theorem loM_7_42 {a : Nat} (h : LM.1 a = 9) : a < LM.2.2.2 ∧ LM.1 a = 7 + 2 ∧ LM.2.1 a = 67 ∧ LM.2.2.1 a 42 = some (a + 22) := ⟨ltMg h (by decide), h, cnM_7 a (ltMg h (by decide)) h, by show (match LMk.getD a 99 with | 0 => none | 1 => if 42 < 6 then some (a + 2 + 11 * 42) else none | c + 2 => (am_off c 42).map (fun o => a + o)) = _; rw [show LMk.getD a 99 = 9 from h]; rfl⟩
theorem tgM_7_42 {a : Nat} (h : LM.1 a = 9) : LM.1 (a + 22) = 0 := (by decide +kernel : ∀ a, a < 40 → LM.1 a = 9 → LM.1 (a + 22) = 0) a (ltMg h (by decide)) h
theorem lnM_7_42 {a : Nat} (h : LM.1 a = 9) : LM.2.1 (a + 22) = 10 := (by decide +kernel : ∀ a, a < 40 → LM.1 a = 9 → LM.2.1 (a + 22) = 10) a (ltMg h (by decide)) h
theorem loM_7_43 {a : Nat} (h : LM.1 a = 9) : a < LM.2.2.2 ∧ LM.1 a = 7 + 2 ∧ LM.2.1 a = 67 ∧ LM.2.2.1 a 43 = some (a + 23) := ⟨ltMg h (by decide), h, cnM_7 a (ltMg h (by decide)) h, by show (match LMk.getD a 99 with | 0 => none | 1 => if 43 < 6 then some (a + 2 + 11 * 43) else none | c + 2 => (am_off c 43).map (fun o => a + o)) = _; rw [show LMk.getD a 99 = 9 from h]; rfl⟩
theorem tgM_7_43 {a : Nat} (h : LM.1 a = 9) : LM.1 (a + 23) = 0 := (by decide +kernel : ∀ a, a < 40 → LM.1 a = 9 → LM.1 (a + 23) = 0) a (ltMg h (by decide)) h
theorem lnM_7_43 {a : Nat} (h : LM.1 a = 9) : LM.2.1 (a + 23) = 420 := (by decide +kernel : ∀ a, a < 40 → LM.1 a = 9 → LM.2.1 (a + 23) = 420) a (ltMg h (by decide)) h
theorem loM_7_44 {a : Nat} (h : LM.1 a = 9) : a < LM.2.2.2 ∧ LM.1 a = 7 + 2 ∧ LM.2.1 a = 67 ∧ LM.2.2.1 a 44 = none := ⟨ltMg h (by decide), h, cnM_7 a (ltMg h (by decide)) h, by show (match LMk.getD a 99 with | 0 => none | 1 => if 44 < 6 then some (a + 2 + 11 * 44) else none | c + 2 => (am_off c 44).map (fun o => a + o)) = _; rw [show LMk.getD a 99 = 9 from h]; rfl⟩
theorem loM_7_45 {a : Nat} (h : LM.1 a = 9) : a < LM.2.2.2 ∧ LM.1 a = 7 + 2 ∧ LM.2.1 a = 67 ∧ LM.2.2.1 a 45 = some (a + 24) := ⟨ltMg h (by decide), h, cnM_7 a (ltMg h (by decide)) h, by show (match LMk.getD a 99 with | 0 => none | 1 => if 45 < 6 then some (a + 2 + 11 * 45) else none | c + 2 => (am_off c 45).map (fun o => a + o)) = _; rw [show LMk.getD a 99 = 9 from h]; rfl⟩
theorem tgM_7_45 {a : Nat} (h : LM.1 a = 9) : LM.1 (a + 24) = 0 := (by decide +kernel : ∀ a, a < 40 → LM.1 a = 9 → LM.1 (a + 24) = 0) a (ltMg h (by decide)) h
theorem lnM_7_45 {a : Nat} (h : LM.1 a = 9) : LM.2.1 (a + 24) = 8 := (by decide +kernel : ∀ a, a < 40 → LM.1 a = 9 → LM.2.1 (a + 24) = 8) a (ltMg h (by decide)) h
theorem loM_7_46 {a : Nat} (h : LM.1 a = 9) : a < LM.2.2.2 ∧ LM.1 a = 7 + 2 ∧ LM.2.1 a = 67 ∧ LM.2.2.1 a 46 = some (a + 25) := ⟨ltMg h (by decide), h, cnM_7 a (ltMg h (by decide)) h, by show (match LMk.getD a 99 with | 0 => none | 1 => if 46 < 6 then some (a + 2 + 11 * 46) else none | c + 2 => (am_off c 46).map (fun o => a + o)) = _; rw [show LMk.getD a 99 = 9 from h]; rfl⟩
theorem tgM_7_46 {a : Nat} (h : LM.1 a = 9) : LM.1 (a + 25) = 0 := (by decide +kernel : ∀ a, a < 40 → LM.1 a = 9 → LM.1 (a + 25) = 0) a (ltMg h (by decide)) h
theorem lnM_7_46 {a : Nat} (h : LM.1 a = 9) : LM.2.1 (a + 25) = 8 := (by decide +kernel : ∀ a, a < 40 → LM.1 a = 9 → LM.2.1 (a + 25) = 8) a (ltMg h (by decide)) h
theorem loM_7_47 {a : Nat} (h : LM.1 a = 9) : a < LM.2.2.2 ∧ LM.1 a = 7 + 2 ∧ LM.2.1 a = 67 ∧ LM.2.2.1 a 47 = some (a + 26) := ⟨ltMg h (by decide), h, cnM_7 a (ltMg h (by decide)) h, by show (match LMk.getD a 99 with | 0 => none | 1 => if 47 < 6 then some (a + 2 + 11 * 47) else none | c + 2 => (am_off c 47).map (fun o => a + o)) = _; rw [show LMk.getD a 99 = 9 from h]; rfl⟩
theorem tgM_7_47 {a : Nat} (h : LM.1 a = 9) : LM.1 (a + 26) = 0 := (by decide +kernel : ∀ a, a < 40 → LM.1 a = 9 → LM.1 (a + 26) = 0) a (ltMg h (by decide)) h
theorem lnM_7_47 {a : Nat} (h : LM.1 a = 9) : LM.2.1 (a + 26) = 8 := (by decide +kernel : ∀ a, a < 40 → LM.1 a = 9 → LM.2.1 (a + 26) = 8) a (ltMg h (by decide)) h
theorem loM_7_48 {a : Nat} (h : LM.1 a = 9) : a < LM.2.2.2 ∧ LM.1 a = 7 + 2 ∧ LM.2.1 a = 67 ∧ LM.2.2.1 a 48 = some (a + 27) := ⟨ltMg h (by decide), h, cnM_7 a (ltMg h (by decide)) h, by show (match LMk.getD a 99 with | 0 => none | 1 => if 48 < 6 then some (a + 2 + 11 * 48) else none | c + 2 => (am_off c 48).map (fun o => a + o)) = _; rw [show LMk.getD a 99 = 9 from h]; rfl⟩
theorem tgM_7_48 {a : Nat} (h : LM.1 a = 9) : LM.1 (a + 27) = 0 := (by decide +kernel : ∀ a, a < 40 → LM.1 a = 9 → LM.1 (a + 27) = 0) a (ltMg h (by decide)) h
theorem lnM_7_48 {a : Nat} (h : LM.1 a = 9) : LM.2.1 (a + 27) = 10 := (by decide +kernel : ∀ a, a < 40 → LM.1 a = 9 → LM.2.1 (a + 27) = 10) a (ltMg h (by decide)) h
theorem loM_7_49 {a : Nat} (h : LM.1 a = 9) : a < LM.2.2.2 ∧ LM.1 a = 7 + 2 ∧ LM.2.1 a = 67 ∧ LM.2.2.1 a 49 = some (a + 28) := ⟨ltMg h (by decide), h, cnM_7 a (ltMg h (by decide)) h, by show (match LMk.getD a 99 with | 0 => none | 1 => if 49 < 6 then some (a + 2 + 11 * 49) else none | c + 2 => (am_off c 49).map (fun o => a + o)) = _; rw [show LMk.getD a 99 = 9 from h]; rfl⟩
theorem tgM_7_49 {a : Nat} (h : LM.1 a = 9) : LM.1 (a + 28) = 0 := (by decide +kernel : ∀ a, a < 40 → LM.1 a = 9 → LM.1 (a + 28) = 0) a (ltMg h (by decide)) h
theorem lnM_7_49 {a : Nat} (h : LM.1 a = 9) : LM.2.1 (a + 28) = 121 := (by decide +kernel : ∀ a, a < 40 → LM.1 a = 9 → LM.2.1 (a + 28) = 121) a (ltMg h (by decide)) h
theorem loM_7_50 {a : Nat} (h : LM.1 a = 9) : a < LM.2.2.2 ∧ LM.1 a = 7 + 2 ∧ LM.2.1 a = 67 ∧ LM.2.2.1 a 50 = some (a + 29) := ⟨ltMg h (by decide), h, cnM_7 a (ltMg h (by decide)) h, by show (match LMk.getD a 99 with | 0 => none | 1 => if 50 < 6 then some (a + 2 + 11 * 50) else none | c + 2 => (am_off c 50).map (fun o => a + o)) = _; rw [show LMk.getD a 99 = 9 from h]; rfl⟩
theorem tgM_7_50 {a : Nat} (h : LM.1 a = 9) : LM.1 (a + 29) = 0 := (by decide +kernel : ∀ a, a < 40 → LM.1 a = 9 → LM.1 (a + 29) = 0) a (ltMg h (by decide)) h
theorem lnM_7_50 {a : Nat} (h : LM.1 a = 9) : LM.2.1 (a + 29) = 169 := (by decide +kernel : ∀ a, a < 40 → LM.1 a = 9 → LM.2.1 (a + 29) = 169) a (ltMg h (by decide)) h
theorem loM_7_51 {a : Nat} (h : LM.1 a = 9) : a < LM.2.2.2 ∧ LM.1 a = 7 + 2 ∧ LM.2.1 a = 67 ∧ LM.2.2.1 a 51 = some (a + 30) := ⟨ltMg h (by decide), h, cnM_7 a (ltMg h (by decide)) h, by show (match LMk.getD a 99 with | 0 => none | 1 => if 51 < 6 then some (a + 2 + 11 * 51) else none | c + 2 => (am_off c 51).map (fun o => a + o)) = _; rw [show LMk.getD a 99 = 9 from h]; rfl⟩
theorem tgM_7_51 {a : Nat} (h : LM.1 a = 9) : LM.1 (a + 30) = 0 := (by decide +kernel : ∀ a, a < 40 → LM.1 a = 9 → LM.1 (a + 30) = 0) a (ltMg h (by decide)) h
theorem lnM_7_51 {a : Nat} (h : LM.1 a = 9) : LM.2.1 (a + 30) = 2 := (by decide +kernel : ∀ a, a < 40 → LM.1 a = 9 → LM.2.1 (a + 30) = 2) a (ltMg h (by decide)) h
theorem loM_7_52 {a : Nat} (h : LM.1 a = 9) : a < LM.2.2.2 ∧ LM.1 a = 7 + 2 ∧ LM.2.1 a = 67 ∧ LM.2.2.1 a 52 = some (a + 31) := ⟨ltMg h (by decide), h, cnM_7 a (ltMg h (by decide)) h, by show (match LMk.getD a 99 with | 0 => none | 1 => if 52 < 6 then some (a + 2 + 11 * 52) else none | c + 2 => (am_off c 52).map (fun o => a + o)) = _; rw [show LMk.getD a 99 = 9 from h]; rfl⟩
theorem tgM_7_52 {a : Nat} (h : LM.1 a = 9) : LM.1 (a + 31) = 0 := (by decide +kernel : ∀ a, a < 40 → LM.1 a = 9 → LM.1 (a + 31) = 0) a (ltMg h (by decide)) h
theorem lnM_7_52 {a : Nat} (h : LM.1 a = 9) : LM.2.1 (a + 31) = 24 := (by decide +kernel : ∀ a, a < 40 → LM.1 a = 9 → LM.2.1 (a + 31) = 24) a (ltMg h (by decide)) h
theorem loM_7_53 {a : Nat} (h : LM.1 a = 9) : a < LM.2.2.2 ∧ LM.1 a = 7 + 2 ∧ LM.2.1 a = 67 ∧ LM.2.2.1 a 53 = none := ⟨ltMg h (by decide), h, cnM_7 a (ltMg h (by decide)) h, by show (match LMk.getD a 99 with | 0 => none | 1 => if 53 < 6 then some (a + 2 + 11 * 53) else none | c + 2 => (am_off c 53).map (fun o => a + o)) = _; rw [show LMk.getD a 99 = 9 from h]; rfl⟩
theorem loM_7_54 {a : Nat} (h : LM.1 a = 9) : a < LM.2.2.2 ∧ LM.1 a = 7 + 2 ∧ LM.2.1 a = 67 ∧ LM.2.2.1 a 54 = some (a + 32) := ⟨ltMg h (by decide), h, cnM_7 a (ltMg h (by decide)) h, by show (match LMk.getD a 99 with | 0 => none | 1 => if 54 < 6 then some (a + 2 + 11 * 54) else none | c + 2 => (am_off c 54).map (fun o => a + o)) = _; rw [show LMk.getD a 99 = 9 from h]; rfl⟩
theorem tgM_7_54 {a : Nat} (h : LM.1 a = 9) : LM.1 (a + 32) = 0 := (by decide +kernel : ∀ a, a < 40 → LM.1 a = 9 → LM.1 (a + 32) = 0) a (ltMg h (by decide)) h
theorem lnM_7_54 {a : Nat} (h : LM.1 a = 9) : LM.2.1 (a + 32) = 16 := (by decide +kernel : ∀ a, a < 40 → LM.1 a = 9 → LM.2.1 (a + 32) = 16) a (ltMg h (by decide)) h
theorem loM_7_55 {a : Nat} (h : LM.1 a = 9) : a < LM.2.2.2 ∧ LM.1 a = 7 + 2 ∧ LM.2.1 a = 67 ∧ LM.2.2.1 a 55 = some (a + 33) := ⟨ltMg h (by decide), h, cnM_7 a (ltMg h (by decide)) h, by show (match LMk.getD a 99 with | 0 => none | 1 => if 55 < 6 then some (a + 2 + 11 * 55) else none | c + 2 => (am_off c 55).map (fun o => a + o)) = _; rw [show LMk.getD a 99 = 9 from h]; rfl⟩
theorem tgM_7_55 {a : Nat} (h : LM.1 a = 9) : LM.1 (a + 33) = 0 := (by decide +kernel : ∀ a, a < 40 → LM.1 a = 9 → LM.1 (a + 33) = 0) a (ltMg h (by decide)) h
theorem lnM_7_55 {a : Nat} (h : LM.1 a = 9) : LM.2.1 (a + 33) = 16 := (by decide +kernel : ∀ a, a < 40 → LM.1 a = 9 → LM.2.1 (a + 33) = 16) a (ltMg h (by decide)) h
theorem loM_7_56 {a : Nat} (h : LM.1 a = 9) : a < LM.2.2.2 ∧ LM.1 a = 7 + 2 ∧ LM.2.1 a = 67 ∧ LM.2.2.1 a 56 = none := ⟨ltMg h (by decide), h, cnM_7 a (ltMg h (by decide)) h, by show (match LMk.getD a 99 with | 0 => none | 1 => if 56 < 6 then some (a + 2 + 11 * 56) else none | c + 2 => (am_off c 56).map (fun o => a + o)) = _; rw [show LMk.getD a 99 = 9 from h]; rfl⟩
theorem loM_7_57 {a : Nat} (h : LM.1 a = 9) : a < LM.2.2.2 ∧ LM.1 a = 7 + 2 ∧ LM.2.1 a = 67 ∧ LM.2.2.1 a 57 = some (a + 34) := ⟨ltMg h (by decide), h, cnM_7 a (ltMg h (by decide)) h, by show (match LMk.getD a 99 with | 0 => none | 1 => if 57 < 6 then some (a + 2 + 11 * 57) else none | c + 2 => (am_off c 57).map (fun o => a + o)) = _; rw [show LMk.getD a 99 = 9 from h]; rfl⟩
theorem tgM_7_57 {a : Nat} (h : LM.1 a = 9) : LM.1 (a + 34) = 0 := (by decide +kernel : ∀ a, a < 40 → LM.1 a = 9 → LM.1 (a + 34) = 0) a (ltMg h (by decide)) h
theorem lnM_7_57 {a : Nat} (h : LM.1 a = 9) : LM.2.1 (a + 34) = 7 := (by decide +kernel : ∀ a, a < 40 → LM.1 a = 9 → LM.2.1 (a + 34) = 7) a (ltMg h (by decide)) h
theorem loM_7_58 {a : Nat} (h : LM.1 a = 9) : a < LM.2.2.2 ∧ LM.1 a = 7 + 2 ∧ LM.2.1 a = 67 ∧ LM.2.2.1 a 58 = some (a + 35) := ⟨ltMg h (by decide), h, cnM_7 a (ltMg h (by decide)) h, by show (match LMk.getD a 99 with | 0 => none | 1 => if 58 < 6 then some (a + 2 + 11 * 58) else none | c + 2 => (am_off c 58).map (fun o => a + o)) = _; rw [show LMk.getD a 99 = 9 from h]; rfl⟩
theorem tgM_7_58 {a : Nat} (h : LM.1 a = 9) : LM.1 (a + 35) = 0 := (by decide +kernel : ∀ a, a < 40 → LM.1 a = 9 → LM.1 (a + 35) = 0) a (ltMg h (by decide)) h
theorem lnM_7_58 {a : Nat} (h : LM.1 a = 9) : LM.2.1 (a + 35) = 7 := (by decide +kernel : ∀ a, a < 40 → LM.1 a = 9 → LM.2.1 (a + 35) = 7) a (ltMg h (by decide)) h
theorem loM_7_59 {a : Nat} (h : LM.1 a = 9) : a < LM.2.2.2 ∧ LM.1 a = 7 + 2 ∧ LM.2.1 a = 67 ∧ LM.2.2.1 a 59 = none := ⟨ltMg h (by decide), h, cnM_7 a (ltMg h (by decide)) h, by show (match LMk.getD a 99 with | 0 => none | 1 => if 59 < 6 then some (a + 2 + 11 * 59) else none | c + 2 => (am_off c 59).map (fun o => a + o)) = _; rw [show LMk.getD a 99 = 9 from h]; rfl⟩
theorem loM_7_60 {a : Nat} (h : LM.1 a = 9) : a < LM.2.2.2 ∧ LM.1 a = 7 + 2 ∧ LM.2.1 a = 67 ∧ LM.2.2.1 a 60 = some (a + 36) := ⟨ltMg h (by decide), h, cnM_7 a (ltMg h (by decide)) h, by show (match LMk.getD a 99 with | 0 => none | 1 => if 60 < 6 then some (a + 2 + 11 * 60) else none | c + 2 => (am_off c 60).map (fun o => a + o)) = _; rw [show LMk.getD a 99 = 9 from h]; rfl⟩
theorem tgM_7_60 {a : Nat} (h : LM.1 a = 9) : LM.1 (a + 36) = 0 := (by decide +kernel : ∀ a, a < 40 → LM.1 a = 9 → LM.1 (a + 36) = 0) a (ltMg h (by decide)) h
theorem lnM_7_60 {a : Nat} (h : LM.1 a = 9) : LM.2.1 (a + 36) = 8 := (by decide +kernel : ∀ a, a < 40 → LM.1 a = 9 → LM.2.1 (a + 36) = 8) a (ltMg h (by decide)) h
theorem loM_7_61 {a : Nat} (h : LM.1 a = 9) : a < LM.2.2.2 ∧ LM.1 a = 7 + 2 ∧ LM.2.1 a = 67 ∧ LM.2.2.1 a 61 = some (a + 37) := ⟨ltMg h (by decide), h, cnM_7 a (ltMg h (by decide)) h, by show (match LMk.getD a 99 with | 0 => none | 1 => if 61 < 6 then some (a + 2 + 11 * 61) else none | c + 2 => (am_off c 61).map (fun o => a + o)) = _; rw [show LMk.getD a 99 = 9 from h]; rfl⟩
theorem tgM_7_61 {a : Nat} (h : LM.1 a = 9) : LM.1 (a + 37) = 0 := (by decide +kernel : ∀ a, a < 40 → LM.1 a = 9 → LM.1 (a + 37) = 0) a (ltMg h (by decide)) h
theorem lnM_7_61 {a : Nat} (h : LM.1 a = 9) : LM.2.1 (a + 37) = 8 := (by decide +kernel : ∀ a, a < 40 → LM.1 a = 9 → LM.2.1 (a + 37) = 8) a (ltMg h (by decide)) h
theorem loM_7_62 {a : Nat} (h : LM.1 a = 9) : a < LM.2.2.2 ∧ LM.1 a = 7 + 2 ∧ LM.2.1 a = 67 ∧ LM.2.2.1 a 62 = some (a + 38) := ⟨ltMg h (by decide), h, cnM_7 a (ltMg h (by decide)) h, by show (match LMk.getD a 99 with | 0 => none | 1 => if 62 < 6 then some (a + 2 + 11 * 62) else none | c + 2 => (am_off c 62).map (fun o => a + o)) = _; rw [show LMk.getD a 99 = 9 from h]; rfl⟩
theorem tgM_7_62 {a : Nat} (h : LM.1 a = 9) : LM.1 (a + 38) = 0 := (by decide +kernel : ∀ a, a < 40 → LM.1 a = 9 → LM.1 (a + 38) = 0) a (ltMg h (by decide)) h
theorem lnM_7_62 {a : Nat} (h : LM.1 a = 9) : LM.2.1 (a + 38) = 121 := (by decide +kernel : ∀ a, a < 40 → LM.1 a = 9 → LM.2.1 (a + 38) = 121) a (ltMg h (by decide)) h
theorem loM_7_63 {a : Nat} (h : LM.1 a = 9) : a < LM.2.2.2 ∧ LM.1 a = 7 + 2 ∧ LM.2.1 a = 67 ∧ LM.2.2.1 a 63 = none := ⟨ltMg h (by decide), h, cnM_7 a (ltMg h (by decide)) h, by show (match LMk.getD a 99 with | 0 => none | 1 => if 63 < 6 then some (a + 2 + 11 * 63) else none | c + 2 => (am_off c 63).map (fun o => a + o)) = _; rw [show LMk.getD a 99 = 9 from h]; rfl⟩
theorem loM_7_64 {a : Nat} (h : LM.1 a = 9) : a < LM.2.2.2 ∧ LM.1 a = 7 + 2 ∧ LM.2.1 a = 67 ∧ LM.2.2.1 a 64 = none := ⟨ltMg h (by decide), h, cnM_7 a (ltMg h (by decide)) h, by show (match LMk.getD a 99 with | 0 => none | 1 => if 64 < 6 then some (a + 2 + 11 * 64) else none | c + 2 => (am_off c 64).map (fun o => a + o)) = _; rw [show LMk.getD a 99 = 9 from h]; rfl⟩
theorem loM_7_65 {a : Nat} (h : LM.1 a = 9) : a < LM.2.2.2 ∧ LM.1 a = 7 + 2 ∧ LM.2.1 a = 67 ∧ LM.2.2.1 a 65 = none := ⟨ltMg h (by decide), h, cnM_7 a (ltMg h (by decide)) h, by show (match LMk.getD a 99 with | 0 => none | 1 => if 65 < 6 then some (a + 2 + 11 * 65) else none | c + 2 => (am_off c 65).map (fun o => a + o)) = _; rw [show LMk.getD a 99 = 9 from h]; rfl⟩
theorem loM_7_66 {a : Nat} (h : LM.1 a = 9) : a < LM.2.2.2 ∧ LM.1 a = 7 + 2 ∧ LM.2.1 a = 67 ∧ LM.2.2.1 a 66 = some (a + 39) := ⟨ltMg h (by decide), h, cnM_7 a (ltMg h (by decide)) h, by show (match LMk.getD a 99 with | 0 => none | 1 => if 66 < 6 then some (a + 2 + 11 * 66) else none | c + 2 => (am_off c 66).map (fun o => a + o)) = _; rw [show LMk.getD a 99 = 9 from h]; rfl⟩
theorem tgM_7_66 {a : Nat} (h : LM.1 a = 9) : LM.1 (a + 39) = 0 := (by decide +kernel : ∀ a, a < 40 → LM.1 a = 9 → LM.1 (a + 39) = 0) a (ltMg h (by decide)) h
theorem lnM_7_66 {a : Nat} (h : LM.1 a = 9) : LM.2.1 (a + 39) = 2200 := (by decide +kernel : ∀ a, a < 40 → LM.1 a = 9 → LM.2.1 (a + 39) = 2200) a (ltMg h (by decide)) h
theorem frC {a : Nat} {i : Int32} (h : LC.1 a = 1) (hi : ¬ (i < 0 ∨ 6 ≤ i.toNatClampNeg)) : LC.2.2.1 a i.toNatClampNeg = some (a + 2 + 11 * i.toNatClampNeg) := by
  show (match LCk.getD a 99 with | 0 => none | 1 => if i.toNatClampNeg < 6 then some (a + 2 + 11 * i.toNatClampNeg) else none | c + 2 => (am_off c i.toNatClampNeg).map (fun o => a + o)) = _
  rw [show LCk.getD a 99 = 1 from h]
  exact if_pos (Nat.not_le.mp (fun z => hi (Or.inr z)))
theorem frK {a : Nat} {i : Int32} (h : LC.1 a = 1) (hi : ¬ (i < 0 ∨ 6 ≤ i.toNatClampNeg)) : LC.1 (a + 2 + 11 * i.toNatClampNeg) = 2 :=
  (by decide +kernel : ∀ a, a < 170 → LC.1 a = 1 → ∀ j, j < 6 → LC.1 (a + 2 + 11 * j) = 2) a (ltC1 h) h _ (Nat.not_le.mp (fun z => hi (Or.inr z)))
theorem kb_m100 : (Int8.ofInt (-100)).toInt32 = (-100) := by decide
theorem kb_m99 : (Int8.ofInt (-99)).toInt32 = (-99) := by decide
theorem kb_m98 : (Int8.ofInt (-98)).toInt32 = (-98) := by decide
theorem kb_m50 : (Int8.ofInt (-50)).toInt32 = (-50) := by decide
theorem kb_m2 : (Int8.ofInt (-2)).toInt32 = (-2) := by decide
theorem kb_6 : (Int8.ofInt 6).toInt32 = 6 := by decide
theorem kb_7 : (Int8.ofInt 7).toInt32 = 7 := by decide
theorem kb_8 : (Int8.ofInt 8).toInt32 = 8 := by decide
theorem kb_9 : (Int8.ofInt 9).toInt32 = 9 := by decide
theorem kb_10 : (Int8.ofInt 10).toInt32 = 10 := by decide
theorem kb_11 : (Int8.ofInt 11).toInt32 = 11 := by decide
theorem kb_12 : (Int8.ofInt 12).toInt32 = 12 := by decide
theorem kb_13 : (Int8.ofInt 13).toInt32 = 13 := by decide
theorem kb_15 : (Int8.ofInt 15).toInt32 = 15 := by decide
theorem kb_16 : (Int8.ofInt 16).toInt32 = 16 := by decide
theorem kb_17 : (Int8.ofInt 17).toInt32 = 17 := by decide
theorem kb_18 : (Int8.ofInt 18).toInt32 = 18 := by decide
theorem kb_19 : (Int8.ofInt 19).toInt32 = 19 := by decide
theorem kb_20 : (Int8.ofInt 20).toInt32 = 20 := by decide
theorem kb_21 : (Int8.ofInt 21).toInt32 = 21 := by decide
theorem kb_22 : (Int8.ofInt 22).toInt32 = 22 := by decide
theorem kb_23 : (Int8.ofInt 23).toInt32 = 23 := by decide
theorem kb_24 : (Int8.ofInt 24).toInt32 = 24 := by decide
theorem kb_25 : (Int8.ofInt 25).toInt32 = 25 := by decide
theorem kb_26 : (Int8.ofInt 26).toInt32 = 26 := by decide
theorem kb_29 : (Int8.ofInt 29).toInt32 = 29 := by decide
theorem kb_30 : (Int8.ofInt 30).toInt32 = 30 := by decide
theorem kb_31 : (Int8.ofInt 31).toInt32 = 31 := by decide
theorem kb_32 : (Int8.ofInt 32).toInt32 = 32 := by decide
theorem kb_36 : (Int8.ofInt 36).toInt32 = 36 := by decide
theorem kb_40 : (Int8.ofInt 40).toInt32 = 40 := by decide
theorem kb_41 : (Int8.ofInt 41).toInt32 = 41 := by decide
theorem kb_42 : (Int8.ofInt 42).toInt32 = 42 := by decide
theorem kb_43 : (Int8.ofInt 43).toInt32 = 43 := by decide
theorem kb_45 : (Int8.ofInt 45).toInt32 = 45 := by decide
theorem kb_47 : (Int8.ofInt 47).toInt32 = 47 := by decide
theorem kb_48 : (Int8.ofInt 48).toInt32 = 48 := by decide
theorem kb_50 : (Int8.ofInt 50).toInt32 = 50 := by decide
theorem kb_53 : (Int8.ofInt 53).toInt32 = 53 := by decide
theorem kb_57 : (Int8.ofInt 57).toInt32 = 57 := by decide
theorem kb_59 : (Int8.ofInt 59).toInt32 = 59 := by decide
theorem kb_60 : (Int8.ofInt 60).toInt32 = 60 := by decide
theorem kb_61 : (Int8.ofInt 61).toInt32 = 61 := by decide
theorem kb_62 : (Int8.ofInt 62).toInt32 = 62 := by decide
theorem kb_64 : (Int8.ofInt 64).toInt32 = 64 := by decide
theorem kb_65 : (Int8.ofInt 65).toInt32 = 65 := by decide
theorem kb_77 : (Int8.ofInt 77).toInt32 = 77 := by decide
theorem kb_90 : (Int8.ofInt 90).toInt32 = 90 := by decide
theorem kb_97 : (Int8.ofInt 97).toInt32 = 97 := by decide
theorem kb_98 : (Int8.ofInt 98).toInt32 = 98 := by decide
theorem kb_99 : (Int8.ofInt 99).toInt32 = 99 := by decide
theorem kb_100 : (Int8.ofInt 100).toInt32 = 100 := by decide
theorem kb_114 : (Int8.ofInt 114).toInt32 = 114 := by decide
theorem kb_120 : (Int8.ofInt 120).toInt32 = 120 := by decide
theorem kb_122 : (Int8.ofInt 122).toInt32 = 122 := by decide
theorem ci_m8 : Int32.ofInt (-8) = (-8) := by decide
theorem ci_m1 : Int32.ofInt (-1) = (-1) := by decide
theorem ci_0 : Int32.ofInt 0 = 0 := by decide
theorem ci_1 : Int32.ofInt 1 = 1 := by decide
theorem ci_2 : Int32.ofInt 2 = 2 := by decide
theorem ci_3 : Int32.ofInt 3 = 3 := by decide
theorem ci_4 : Int32.ofInt 4 = 4 := by decide
theorem ci_5 : Int32.ofInt 5 = 5 := by decide
theorem ci_10 : Int32.ofInt 10 = 10 := by decide
theorem nz_2 : ¬ (2 : Int32) = 0 := by decide
theorem nz_3 : ¬ (3 : Int32) = 0 := by decide
theorem nz_4 : ¬ (4 : Int32) = 0 := by decide
theorem nz_6 : ¬ (6 : Int32) = 0 := by decide
theorem nz_7 : ¬ (7 : Int32) = 0 := by decide
theorem nz_10 : ¬ (10 : Int32) = 0 := by decide
theorem nz_19 : ¬ (19 : Int32) = 0 := by decide
theorem nz_25 : ¬ (25 : Int32) = 0 := by decide
theorem nz_26 : ¬ (26 : Int32) = 0 := by decide
theorem nz_30 : ¬ (30 : Int32) = 0 := by decide
theorem nz_31 : ¬ (31 : Int32) = 0 := by decide
theorem nz_36 : ¬ (36 : Int32) = 0 := by decide
theorem nz_100 : ¬ (100 : Int32) = 0 := by decide
theorem nz_216 : ¬ (216 : Int32) = 0 := by decide
theorem nz_451 : ¬ (451 : Int32) = 0 := by decide
theorem nz_1000 : ¬ (1000 : Int32) = 0 := by decide
theorem cn_401 : Int32.ofNat 401 = 401 := by decide
theorem cs_m1000 : (Int16.ofInt (-1000)).toInt32 = (-1000) := by decide
theorem cs_132 : (Int16.ofInt 132).toInt32 = 132 := by decide
theorem cs_150 : (Int16.ofInt 150).toInt32 = 150 := by decide
theorem cs_216 : (Int16.ofInt 216).toInt32 = 216 := by decide
theorem cs_255 : (Int16.ofInt 255).toInt32 = 255 := by decide
theorem cs_380 : (Int16.ofInt 380).toInt32 = 380 := by decide
theorem cs_400 : (Int16.ofInt 400).toInt32 = 400 := by decide
theorem cs_451 : (Int16.ofInt 451).toInt32 = 451 := by decide
theorem cs_500 : (Int16.ofInt 500).toInt32 = 500 := by decide
theorem cs_600 : (Int16.ofInt 600).toInt32 = 600 := by decide
theorem cs_800 : (Int16.ofInt 800).toInt32 = 800 := by decide
theorem cs_999 : (Int16.ofInt 999).toInt32 = 999 := by decide
theorem cs_1000 : (Int16.ofInt 1000).toInt32 = 1000 := by decide
theorem cs_1296 : (Int16.ofInt 1296).toInt32 = 1296 := by decide
theorem cs_1600 : (Int16.ofInt 1600).toInt32 = 1600 := by decide
theorem cs_2400 : (Int16.ofInt 2400).toInt32 = 2400 := by decide
theorem cs_5555 : (Int16.ofInt 5555).toInt32 = 5555 := by decide
theorem cs_9999 : (Int16.ofInt 9999).toInt32 = 9999 := by decide
theorem cs_10000 : (Int16.ofInt 10000).toInt32 = 10000 := by decide
theorem am_sw_0_2 {x : Int32} (c0 : ¬ x = 0) (c1 : ¬ x = 1) (c2 : ¬ x = 2) : x.toInt < 0 ∨ 2 < x.toInt := by
  have z0 : x.toInt ≠ 0 := fun e => c0 (Int32.toInt_inj.mp e)
  have z1 : x.toInt ≠ 1 := fun e => c1 (Int32.toInt_inj.mp e)
  have z2 : x.toInt ≠ 2 := fun e => c2 (Int32.toInt_inj.mp e)
  omega
theorem am_sw_0_3 {x : Int32} (c0 : ¬ x = 0) (c1 : ¬ x = 1) (c2 : ¬ x = 2) (c3 : ¬ x = 3) : x.toInt < 0 ∨ 3 < x.toInt := by
  have z0 : x.toInt ≠ 0 := fun e => c0 (Int32.toInt_inj.mp e)
  have z1 : x.toInt ≠ 1 := fun e => c1 (Int32.toInt_inj.mp e)
  have z2 : x.toInt ≠ 2 := fun e => c2 (Int32.toInt_inj.mp e)
  have z3 : x.toInt ≠ 3 := fun e => c3 (Int32.toInt_inj.mp e)
  omega
theorem am_sw_0_12 {x : Int32} (c0 : ¬ x = 0) (c1 : ¬ x = 1) (c2 : ¬ x = 2) (c3 : ¬ x = 3) (c4 : ¬ x = 4) (c5 : ¬ x = 5) (c6 : ¬ x = 6) (c7 : ¬ x = 7) (c8 : ¬ x = 8) (c9 : ¬ x = 9) (c10 : ¬ x = 10) (c11 : ¬ x = 11) (c12 : ¬ x = 12) : x.toInt < 0 ∨ 12 < x.toInt := by
  have z0 : x.toInt ≠ 0 := fun e => c0 (Int32.toInt_inj.mp e)
  have z1 : x.toInt ≠ 1 := fun e => c1 (Int32.toInt_inj.mp e)
  have z2 : x.toInt ≠ 2 := fun e => c2 (Int32.toInt_inj.mp e)
  have z3 : x.toInt ≠ 3 := fun e => c3 (Int32.toInt_inj.mp e)
  have z4 : x.toInt ≠ 4 := fun e => c4 (Int32.toInt_inj.mp e)
  have z5 : x.toInt ≠ 5 := fun e => c5 (Int32.toInt_inj.mp e)
  have z6 : x.toInt ≠ 6 := fun e => c6 (Int32.toInt_inj.mp e)
  have z7 : x.toInt ≠ 7 := fun e => c7 (Int32.toInt_inj.mp e)
  have z8 : x.toInt ≠ 8 := fun e => c8 (Int32.toInt_inj.mp e)
  have z9 : x.toInt ≠ 9 := fun e => c9 (Int32.toInt_inj.mp e)
  have z10 : x.toInt ≠ 10 := fun e => c10 (Int32.toInt_inj.mp e)
  have z11 : x.toInt ≠ 11 := fun e => c11 (Int32.toInt_inj.mp e)
  have z12 : x.toInt ≠ 12 := fun e => c12 (Int32.toInt_inj.mp e)
  omega
theorem am_sw_7_16 {x : Int32} (c7 : ¬ x = 7) (c8 : ¬ x = 8) (c9 : ¬ x = 9) (c10 : ¬ x = 10) (c11 : ¬ x = 11) (c12 : ¬ x = 12) (c13 : ¬ x = 13) (c14 : ¬ x = 14) (c15 : ¬ x = 15) (c16 : ¬ x = 16) : x.toInt < 7 ∨ 16 < x.toInt := by
  have z7 : x.toInt ≠ 7 := fun e => c7 (Int32.toInt_inj.mp e)
  have z8 : x.toInt ≠ 8 := fun e => c8 (Int32.toInt_inj.mp e)
  have z9 : x.toInt ≠ 9 := fun e => c9 (Int32.toInt_inj.mp e)
  have z10 : x.toInt ≠ 10 := fun e => c10 (Int32.toInt_inj.mp e)
  have z11 : x.toInt ≠ 11 := fun e => c11 (Int32.toInt_inj.mp e)
  have z12 : x.toInt ≠ 12 := fun e => c12 (Int32.toInt_inj.mp e)
  have z13 : x.toInt ≠ 13 := fun e => c13 (Int32.toInt_inj.mp e)
  have z14 : x.toInt ≠ 14 := fun e => c14 (Int32.toInt_inj.mp e)
  have z15 : x.toInt ≠ 15 := fun e => c15 (Int32.toInt_inj.mp e)
  have z16 : x.toInt ≠ 16 := fun e => c16 (Int32.toInt_inj.mp e)
  omega
