theorem ln_RX2_38 : Cond.methodLink RX2 38 yX2_stands ∈ am_WL := am_t4 56 (by decide +kernel) rfl
theorem ln_RX9_287 : Cond.methodLink RX9 287 yX2_pieces ∈ am_WL := am_t4 53 (by decide +kernel) rfl
theorem ln_RX9_290 : Cond.methodLink RX9 290 yX2_longestAlike ∈ am_WL := am_t4 59 (by decide +kernel) rfl
theorem ln_RX9_293 : Cond.methodLink RX9 293 yX2_firstAlike ∈ am_WL := am_t4 68 (by decide +kernel) rfl
theorem mm_yX2_pieces : am_MS yX2_pieces cX2_pieces 5 (some .int) 1 := ⟨⟨⟨am_t1 14 (by decide +kernel) rfl, am_t4 55 (by decide +kernel) rfl⟩, by decide +kernel, by decide⟩, am_t4 54 (by decide +kernel) rfl⟩
theorem mm_yX2_stands : am_MS yX2_stands cX2_stands 4 (some .boolean) 3 := ⟨⟨⟨am_t1 14 (by decide +kernel) rfl, am_t4 58 (by decide +kernel) rfl⟩, by decide +kernel, by decide⟩, am_t4 57 (by decide +kernel) rfl⟩
theorem mm_yX2_longestAlike : am_MS yX2_longestAlike cX2_longestAlike 2 (some .int) 1 := ⟨⟨⟨am_t1 14 (by decide +kernel) rfl, am_t4 61 (by decide +kernel) rfl⟩, by decide +kernel, by decide⟩, am_t4 60 (by decide +kernel) rfl⟩
theorem kc_arrI : Cond.arrayClass .int ∈ am_WL := am_t1 117 (by decide +kernel) rfl
theorem kb_63 : (Int8.ofInt 63).toInt32 = 63 := by decide
