theorem am_t1 {w : Cond} (i : Nat) (h : tables_1_1[i]? = some w) (hg : goodWord w = true) : w ∈ am_WL := List.mem_filter.mpr ⟨List.mem_append_right _ (List.mem_append_left _ (List.mem_of_getElem? h)), hg⟩
theorem am_t2 {w : Cond} (i : Nat) (h : tables_1_2[i]? = some w) (hg : goodWord w = true) : w ∈ am_WL := List.mem_filter.mpr ⟨List.mem_append_right _ (List.mem_append_right _ (List.mem_append_left _ (List.mem_of_getElem? h))), hg⟩
theorem am_t3 {w : Cond} (i : Nat) (h : tables_1_3[i]? = some w) (hg : goodWord w = true) : w ∈ am_WL := List.mem_filter.mpr ⟨List.mem_append_right _ (List.mem_append_right _ (List.mem_append_right _ (List.mem_append_left _ (List.mem_of_getElem? h)))), hg⟩
theorem am_t4 {w : Cond} (i : Nat) (h : tables_1_4[i]? = some w) (hg : goodWord w = true) : w ∈ am_WL := List.mem_filter.mpr ⟨List.mem_append_right _ (List.mem_append_right _ (List.mem_append_right _ (List.mem_append_right _ (List.mem_append_left _ (List.mem_of_getElem? h))))), hg⟩
theorem am_t5 {w : Cond} (i : Nat) (h : tables_1_5[i]? = some w) (hg : goodWord w = true) : w ∈ am_WL := List.mem_filter.mpr ⟨List.mem_append_right _ (List.mem_append_right _ (List.mem_append_right _ (List.mem_append_right _ (List.mem_append_right _ (List.mem_append_left _ (List.mem_of_getElem? h)))))), hg⟩
theorem am_t6 {w : Cond} (i : Nat) (h : tables_1_6[i]? = some w) (hg : goodWord w = true) : w ∈ am_WL := List.mem_filter.mpr ⟨List.mem_append_right _ (List.mem_append_right _ (List.mem_append_right _ (List.mem_append_right _ (List.mem_append_right _ (List.mem_append_right _ (List.mem_append_left _ (List.mem_of_getElem? h))))))), hg⟩
theorem am_t7 {w : Cond} (i : Nat) (h : tables_1_7[i]? = some w) (hg : goodWord w = true) : w ∈ am_WL := List.mem_filter.mpr ⟨List.mem_append_right _ (List.mem_append_right _ (List.mem_append_right _ (List.mem_append_right _ (List.mem_append_right _ (List.mem_append_right _ (List.mem_append_right _ (List.mem_append_left _ (List.mem_of_getElem? h)))))))), hg⟩
theorem am_t8 {w : Cond} (i : Nat) (h : tables_1_8[i]? = some w) (hg : goodWord w = true) : w ∈ am_WL := List.mem_filter.mpr ⟨List.mem_append_right _ (List.mem_append_right _ (List.mem_append_right _ (List.mem_append_right _ (List.mem_append_right _ (List.mem_append_right _ (List.mem_append_right _ (List.mem_append_right _ (List.mem_of_getElem? h)))))))), hg⟩
theorem am_tp {w : Cond} (i : Nat) (h : (k2_sels lw_privs)[i]? = some w) (hg : goodWord w = true) : w ∈ am_WL := List.mem_filter.mpr ⟨List.mem_append_left _ (List.mem_of_getElem? h), hg⟩
theorem ul_0 : ∀ k, k < 16 → u_lay RX0 TX0 k ∈ am_WL
  | 0, _ => am_t1 84 (by decide +kernel) rfl
  | 1, _ => am_t1 86 (by decide +kernel) rfl
  | 2, _ => am_t1 88 (by decide +kernel) rfl
  | 3, _ => am_t1 90 (by decide +kernel) rfl
  | 4, _ => am_t1 92 (by decide +kernel) rfl
  | 5, _ => am_t1 94 (by decide +kernel) rfl
  | 6, _ => am_t1 96 (by decide +kernel) rfl
  | 7, _ => am_t1 98 (by decide +kernel) rfl
  | 8, _ => am_t1 100 (by decide +kernel) rfl
  | 9, _ => am_t1 102 (by decide +kernel) rfl
  | 10, _ => am_t1 104 (by decide +kernel) rfl
  | 11, _ => am_t1 106 (by decide +kernel) rfl
  | 12, _ => am_t1 108 (by decide +kernel) rfl
  | 13, _ => am_t1 110 (by decide +kernel) rfl
  | 14, _ => am_t1 112 (by decide +kernel) rfl
  | 15, _ => am_t1 114 (by decide +kernel) rfl
  | k + 16, h => absurd h (by omega)
theorem cb_0 : am_CB 0 RX0 TX0 16 := ⟨rfl, fun w hw => by obtain ⟨k, hk, rfl⟩ := List.mem_map.mp hw; exact ul_0 k (List.mem_range.mp hk), ⟨tyX0, tyX0_ok⟩, nmX0⟩
theorem ul_1 : ∀ k, k < 3 → u_lay RX1 TX1 k ∈ am_WL
  | 0, _ => am_t1 160 (by decide +kernel) rfl
  | 1, _ => am_t1 162 (by decide +kernel) rfl
  | 2, _ => am_t1 164 (by decide +kernel) rfl
  | k + 3, h => absurd h (by omega)
theorem cb_1 : am_CB 1 RX1 TX1 3 := ⟨rfl, fun w hw => by obtain ⟨k, hk, rfl⟩ := List.mem_map.mp hw; exact ul_1 k (List.mem_range.mp hk), ⟨tyX1, tyX1_ok⟩, nmX1⟩
theorem ul_2 : ∀ k, k < 4 → u_lay RX3 TX3 k ∈ am_WL
  | 0, _ => am_t1 234 (by decide +kernel) rfl
  | 1, _ => am_t1 236 (by decide +kernel) rfl
  | 2, _ => am_t1 238 (by decide +kernel) rfl
  | 3, _ => am_t2 0 (by decide +kernel) rfl
  | k + 4, h => absurd h (by omega)
theorem cb_2 : am_CB 2 RX3 TX3 4 := ⟨rfl, fun w hw => by obtain ⟨k, hk, rfl⟩ := List.mem_map.mp hw; exact ul_2 k (List.mem_range.mp hk), ⟨tyX3, tyX3_ok⟩, nmX3⟩
theorem ul_3 : ∀ k, k < 11 → u_lay RX4 TX4 k ∈ am_WL
  | 0, _ => am_t2 29 (by decide +kernel) rfl
  | 1, _ => am_t2 31 (by decide +kernel) rfl
  | 2, _ => am_t2 33 (by decide +kernel) rfl
  | 3, _ => am_t2 35 (by decide +kernel) rfl
  | 4, _ => am_t2 37 (by decide +kernel) rfl
  | 5, _ => am_t2 39 (by decide +kernel) rfl
  | 6, _ => am_t2 41 (by decide +kernel) rfl
  | 7, _ => am_t2 43 (by decide +kernel) rfl
  | 8, _ => am_t2 45 (by decide +kernel) rfl
  | 9, _ => am_t2 47 (by decide +kernel) rfl
  | 10, _ => am_t2 49 (by decide +kernel) rfl
  | k + 11, h => absurd h (by omega)
theorem cb_3 : am_CB 3 RX4 TX4 11 := ⟨rfl, fun w hw => by obtain ⟨k, hk, rfl⟩ := List.mem_map.mp hw; exact ul_3 k (List.mem_range.mp hk), ⟨tyX4, tyX4_ok⟩, nmX4⟩
theorem ul_4 : ∀ k, k < 3 → u_lay RX6 TX6 k ∈ am_WL
  | 0, _ => am_t1 139 (by decide +kernel) rfl
  | 1, _ => am_t1 141 (by decide +kernel) rfl
  | 2, _ => am_t1 143 (by decide +kernel) rfl
  | k + 3, h => absurd h (by omega)
theorem cb_4 : am_CB 4 RX6 TX6 3 := ⟨rfl, fun w hw => by obtain ⟨k, hk, rfl⟩ := List.mem_map.mp hw; exact ul_4 k (List.mem_range.mp hk), ⟨tyX6, tyX6_ok⟩, nmX6⟩
theorem ul_5 : ∀ k, k < 12 → u_lay RX7 TX7 k ∈ am_WL
  | 0, _ => am_t1 193 (by decide +kernel) rfl
  | 1, _ => am_t1 195 (by decide +kernel) rfl
  | 2, _ => am_t1 197 (by decide +kernel) rfl
  | 3, _ => am_t1 199 (by decide +kernel) rfl
  | 4, _ => am_t1 201 (by decide +kernel) rfl
  | 5, _ => am_t1 203 (by decide +kernel) rfl
  | 6, _ => am_t1 205 (by decide +kernel) rfl
  | 7, _ => am_t1 207 (by decide +kernel) rfl
  | 8, _ => am_t1 209 (by decide +kernel) rfl
  | 9, _ => am_t1 211 (by decide +kernel) rfl
  | 10, _ => am_t1 213 (by decide +kernel) rfl
  | 11, _ => am_t1 215 (by decide +kernel) rfl
  | k + 12, h => absurd h (by omega)
theorem cb_5 : am_CB 5 RX7 TX7 12 := ⟨rfl, fun w hw => by obtain ⟨k, hk, rfl⟩ := List.mem_map.mp hw; exact ul_5 k (List.mem_range.mp hk), ⟨tyX7, tyX7_ok⟩, nmX7⟩
theorem ul_6 : ∀ k, k < 6 → u_lay RX9 TX9 k ∈ am_WL
  | 0, _ => am_t2 58 (by decide +kernel) rfl
  | 1, _ => am_t2 60 (by decide +kernel) rfl
  | 2, _ => am_t2 62 (by decide +kernel) rfl
  | 3, _ => am_t2 64 (by decide +kernel) rfl
  | 4, _ => am_t2 66 (by decide +kernel) rfl
  | 5, _ => am_t2 68 (by decide +kernel) rfl
  | k + 6, h => absurd h (by omega)
theorem cb_6 : am_CB 6 RX9 TX9 6 := ⟨rfl, fun w hw => by obtain ⟨k, hk, rfl⟩ := List.mem_map.mp hw; exact ul_6 k (List.mem_range.mp hk), ⟨tyX9, tyX9_ok⟩, nmX9⟩
theorem ul_7 : ∀ k, k < 67 → u_lay RX10 TX10 k ∈ am_WL
  | 0, _ => am_t5 75 (by decide +kernel) rfl
  | 1, _ => am_t5 77 (by decide +kernel) rfl
  | 2, _ => am_t5 79 (by decide +kernel) rfl
  | 3, _ => am_t5 81 (by decide +kernel) rfl
  | 4, _ => am_t5 83 (by decide +kernel) rfl
  | 5, _ => am_t5 85 (by decide +kernel) rfl
  | 6, _ => am_t5 87 (by decide +kernel) rfl
  | 7, _ => am_t5 89 (by decide +kernel) rfl
  | 8, _ => am_t5 91 (by decide +kernel) rfl
  | 9, _ => am_t5 93 (by decide +kernel) rfl
  | 10, _ => am_t5 95 (by decide +kernel) rfl
  | 11, _ => am_t5 97 (by decide +kernel) rfl
  | 12, _ => am_t5 99 (by decide +kernel) rfl
  | 13, _ => am_t5 101 (by decide +kernel) rfl
  | 14, _ => am_t5 103 (by decide +kernel) rfl
  | 15, _ => am_t5 105 (by decide +kernel) rfl
  | 16, _ => am_t5 107 (by decide +kernel) rfl
  | 17, _ => am_t5 109 (by decide +kernel) rfl
  | 18, _ => am_t5 111 (by decide +kernel) rfl
  | 19, _ => am_t5 113 (by decide +kernel) rfl
  | 20, _ => am_t5 115 (by decide +kernel) rfl
  | 21, _ => am_t5 117 (by decide +kernel) rfl
  | 22, _ => am_t5 119 (by decide +kernel) rfl
  | 23, _ => am_t5 121 (by decide +kernel) rfl
  | 24, _ => am_t5 123 (by decide +kernel) rfl
  | 25, _ => am_t5 125 (by decide +kernel) rfl
  | 26, _ => am_t5 127 (by decide +kernel) rfl
  | 27, _ => am_t5 129 (by decide +kernel) rfl
  | 28, _ => am_t5 131 (by decide +kernel) rfl
  | 29, _ => am_t5 133 (by decide +kernel) rfl
  | 30, _ => am_t5 135 (by decide +kernel) rfl
  | 31, _ => am_t5 137 (by decide +kernel) rfl
  | 32, _ => am_t5 139 (by decide +kernel) rfl
  | 33, _ => am_t5 141 (by decide +kernel) rfl
  | 34, _ => am_t5 143 (by decide +kernel) rfl
  | 35, _ => am_t5 145 (by decide +kernel) rfl
  | 36, _ => am_t5 147 (by decide +kernel) rfl
  | 37, _ => am_t5 149 (by decide +kernel) rfl
  | 38, _ => am_t5 151 (by decide +kernel) rfl
  | 39, _ => am_t5 153 (by decide +kernel) rfl
  | 40, _ => am_t5 155 (by decide +kernel) rfl
  | 41, _ => am_t5 157 (by decide +kernel) rfl
  | 42, _ => am_t5 159 (by decide +kernel) rfl
  | 43, _ => am_t5 161 (by decide +kernel) rfl
  | 44, _ => am_t5 163 (by decide +kernel) rfl
  | 45, _ => am_t5 165 (by decide +kernel) rfl
  | 46, _ => am_t5 167 (by decide +kernel) rfl
  | 47, _ => am_t5 169 (by decide +kernel) rfl
  | 48, _ => am_t5 171 (by decide +kernel) rfl
  | 49, _ => am_t5 173 (by decide +kernel) rfl
  | 50, _ => am_t5 175 (by decide +kernel) rfl
  | 51, _ => am_t5 177 (by decide +kernel) rfl
  | 52, _ => am_t5 179 (by decide +kernel) rfl
  | 53, _ => am_t5 181 (by decide +kernel) rfl
  | 54, _ => am_t5 183 (by decide +kernel) rfl
  | 55, _ => am_t5 185 (by decide +kernel) rfl
  | 56, _ => am_t5 187 (by decide +kernel) rfl
  | 57, _ => am_t5 189 (by decide +kernel) rfl
  | 58, _ => am_t5 191 (by decide +kernel) rfl
  | 59, _ => am_t5 193 (by decide +kernel) rfl
  | 60, _ => am_t5 195 (by decide +kernel) rfl
  | 61, _ => am_t5 197 (by decide +kernel) rfl
  | 62, _ => am_t5 199 (by decide +kernel) rfl
  | 63, _ => am_t5 201 (by decide +kernel) rfl
  | 64, _ => am_t5 203 (by decide +kernel) rfl
  | 65, _ => am_t5 205 (by decide +kernel) rfl
  | 66, _ => am_t5 207 (by decide +kernel) rfl
  | k + 67, h => absurd h (by omega)
theorem cb_7 : am_CB 7 RX10 TX10 67 := ⟨rfl, fun w hw => by obtain ⟨k, hk, rfl⟩ := List.mem_map.mp hw; exact ul_7 k (List.mem_range.mp hk), ⟨tyX10, tyX10_ok⟩, nmX10⟩
theorem kc_RX0_68 : Cond.constant RX0 68 1664525 ∈ am_WL := am_t2 238 (by decide +kernel) rfl
theorem kc_RX0_69 : Cond.constant RX0 69 1013904223 ∈ am_WL := am_t2 239 (by decide +kernel) rfl
theorem kc_RX5_11 : Cond.constantLong RX5 11 2 ∈ am_WL := am_t4 132 (by decide +kernel) rfl
theorem kc_RX5_9 : Cond.constantLong RX5 9 10 ∈ am_WL := am_t4 131 (by decide +kernel) rfl
theorem kc_RX9_239 : Cond.constant RX9 239 (-100000) ∈ am_WL := am_t3 224 (by decide +kernel) rfl
theorem kc_RX9_346 : Cond.constant RX9 346 99999 ∈ am_WL := am_t4 173 (by decide +kernel) rfl
theorem kc_RX10_141 : Cond.constant RX10 141 1664525 ∈ am_WL := am_t7 22 (by decide +kernel) rfl
theorem kc_RX10_142 : Cond.constant RX10 142 1013904223 ∈ am_WL := am_t7 23 (by decide +kernel) rfl
theorem kc_RX10_431 : Cond.constant RX10 431 99999 ∈ am_WL := am_t7 124 (by decide +kernel) rfl
theorem kc_RX10_498 : Cond.constant RX10 498 (-100000) ∈ am_WL := am_t8 9 (by decide +kernel) rfl
theorem ff_RX0_15 : am_FL RX0 15 0 1 16 := ⟨_, _, cb_0, by decide, Or.inl (am_t1 41 (by decide +kernel) rfl)⟩
theorem ff_RX0_19 : am_FL RX0 19 0 2 16 := ⟨_, _, cb_0, by decide, Or.inl (am_t1 45 (by decide +kernel) rfl)⟩
theorem ff_RX0_22 : am_FL RX0 22 0 3 16 := ⟨_, _, cb_0, by decide, Or.inl (am_t1 47 (by decide +kernel) rfl)⟩
theorem ff_RX0_25 : am_FL RX0 25 0 4 16 := ⟨_, _, cb_0, by decide, Or.inl (am_t1 50 (by decide +kernel) rfl)⟩
theorem ff_RX0_28 : am_FL RX0 28 0 5 16 := ⟨_, _, cb_0, by decide, Or.inl (am_t1 53 (by decide +kernel) rfl)⟩
theorem ff_RX0_31 : am_FL RX0 31 0 6 16 := ⟨_, _, cb_0, by decide, Or.inl (am_t1 56 (by decide +kernel) rfl)⟩
theorem ff_RX0_34 : am_FL RX0 34 0 7 16 := ⟨_, _, cb_0, by decide, Or.inl (am_t1 59 (by decide +kernel) rfl)⟩
theorem ff_RX0_37 : am_FL RX0 37 0 8 16 := ⟨_, _, cb_0, by decide, Or.inl (am_t1 62 (by decide +kernel) rfl)⟩
theorem ff_RX0_40 : am_FL RX0 40 0 9 16 := ⟨_, _, cb_0, by decide, Or.inl (am_t1 65 (by decide +kernel) rfl)⟩
theorem ff_RX0_43 : am_FL RX0 43 0 10 16 := ⟨_, _, cb_0, by decide, Or.inl (am_t1 68 (by decide +kernel) rfl)⟩
theorem ff_RX0_46 : am_FL RX0 46 0 11 16 := ⟨_, _, cb_0, by decide, Or.inl (am_t1 70 (by decide +kernel) rfl)⟩
theorem ff_RX0_49 : am_FL RX0 49 0 12 16 := ⟨_, _, cb_0, by decide, Or.inl (am_t1 73 (by decide +kernel) rfl)⟩
theorem ff_RX0_52 : am_FL RX0 52 0 13 16 := ⟨_, _, cb_0, by decide, Or.inl (am_t1 76 (by decide +kernel) rfl)⟩
theorem ff_RX0_55 : am_FL RX0 55 0 14 16 := ⟨_, _, cb_0, by decide, Or.inl (am_t1 79 (by decide +kernel) rfl)⟩
theorem ff_RX0_58 : am_FL RX0 58 0 15 16 := ⟨_, _, cb_0, by decide, Or.inl (am_t1 82 (by decide +kernel) rfl)⟩
theorem ff_RX0_9 : am_FL RX0 9 0 0 16 := ⟨_, _, cb_0, by decide, Or.inl (am_t1 37 (by decide +kernel) rfl)⟩
theorem ff_RX1_14 : am_FL RX1 14 1 0 3 := ⟨_, _, cb_1, by decide, Or.inl (am_t1 154 (by decide +kernel) rfl)⟩
theorem ff_RX1_20 : am_FL RX1 20 1 1 3 := ⟨_, _, cb_1, by decide, Or.inl (am_t1 157 (by decide +kernel) rfl)⟩
theorem ff_RX1_23 : am_FL RX1 23 1 2 3 := ⟨_, _, cb_1, by decide, Or.inl (am_t1 159 (by decide +kernel) rfl)⟩
theorem ff_RX1_35 : am_FL RX1 35 4 2 3 := ⟨_, _, cb_4, by decide, Or.inr (List.mem_of_getElem? (i := 34) rfl)⟩
theorem ff_RX2_9 : am_FL RX2 9 4 2 3 := ⟨_, _, cb_4, by decide, Or.inr (List.mem_of_getElem? (i := 33) rfl)⟩
theorem ff_RX3_11 : am_FL RX3 11 2 0 4 := ⟨_, _, cb_2, by decide, Or.inl (am_t1 229 (by decide +kernel) rfl)⟩
theorem ff_RX3_17 : am_FL RX3 17 2 1 4 := ⟨_, _, cb_2, by decide, Or.inl (am_t1 230 (by decide +kernel) rfl)⟩
theorem ff_RX3_21 : am_FL RX3 21 2 2 4 := ⟨_, _, cb_2, by decide, Or.inl (am_t1 231 (by decide +kernel) rfl)⟩
theorem ff_RX3_25 : am_FL RX3 25 2 3 4 := ⟨_, _, cb_2, by decide, Or.inl (am_t1 232 (by decide +kernel) rfl)⟩
theorem ff_RX3_39 : am_FL RX3 39 5 0 12 := ⟨_, _, cb_5, by decide, Or.inr (List.mem_of_getElem? (i := 41) rfl)⟩
theorem ff_RX3_45 : am_FL RX3 45 5 1 12 := ⟨_, _, cb_5, by decide, Or.inr (List.mem_of_getElem? (i := 42) rfl)⟩
theorem ff_RX4_105 : am_FL RX4 105 1 1 3 := ⟨_, _, cb_1, by decide, Or.inr (List.mem_of_getElem? (i := 39) rfl)⟩
theorem ff_RX4_108 : am_FL RX4 108 4 2 3 := ⟨_, _, cb_4, by decide, Or.inr (List.mem_of_getElem? (i := 36) rfl)⟩
theorem ff_RX4_120 : am_FL RX4 120 1 0 3 := ⟨_, _, cb_1, by decide, Or.inr (List.mem_of_getElem? (i := 38) rfl)⟩
theorem ff_RX4_141 : am_FL RX4 141 0 8 16 := ⟨_, _, cb_0, by decide, Or.inr (List.mem_of_getElem? (i := 18) rfl)⟩
theorem ff_RX4_146 : am_FL RX4 146 0 0 16 := ⟨_, _, cb_0, by decide, Or.inr (List.mem_of_getElem? (i := 2) rfl)⟩
theorem ff_RX4_15 : am_FL RX4 15 3 1 11 := ⟨_, _, cb_3, by decide, Or.inl (am_t2 14 (by decide +kernel) rfl)⟩
theorem ff_RX4_165 : am_FL RX4 165 0 1 16 := ⟨_, _, cb_0, by decide, Or.inr (List.mem_of_getElem? (i := 5) rfl)⟩
theorem ff_RX4_168 : am_FL RX4 168 0 9 16 := ⟨_, _, cb_0, by decide, Or.inr (List.mem_of_getElem? (i := 20) rfl)⟩
theorem ff_RX4_19 : am_FL RX4 19 3 2 11 := ⟨_, _, cb_3, by decide, Or.inl (am_t2 16 (by decide +kernel) rfl)⟩
theorem ff_RX4_22 : am_FL RX4 22 3 3 11 := ⟨_, _, cb_3, by decide, Or.inl (am_t2 17 (by decide +kernel) rfl)⟩
theorem ff_RX4_25 : am_FL RX4 25 3 4 11 := ⟨_, _, cb_3, by decide, Or.inl (am_t2 18 (by decide +kernel) rfl)⟩
theorem ff_RX4_28 : am_FL RX4 28 3 5 11 := ⟨_, _, cb_3, by decide, Or.inl (am_t2 19 (by decide +kernel) rfl)⟩
theorem ff_RX4_31 : am_FL RX4 31 3 6 11 := ⟨_, _, cb_3, by decide, Or.inl (am_t2 20 (by decide +kernel) rfl)⟩
theorem ff_RX4_43 : am_FL RX4 43 3 9 11 := ⟨_, _, cb_3, by decide, Or.inl (am_t2 25 (by decide +kernel) rfl)⟩
theorem ff_RX4_52 : am_FL RX4 52 3 10 11 := ⟨_, _, cb_3, by decide, Or.inl (am_t2 27 (by decide +kernel) rfl)⟩
theorem ff_RX4_9 : am_FL RX4 9 3 0 11 := ⟨_, _, cb_3, by decide, Or.inl (am_t2 13 (by decide +kernel) rfl)⟩
theorem ff_RX6_24 : am_FL RX6 24 4 0 3 := ⟨_, _, cb_4, by decide, Or.inl (am_t1 130 (by decide +kernel) rfl)⟩
theorem ff_RX6_27 : am_FL RX6 27 4 1 3 := ⟨_, _, cb_4, by decide, Or.inl (am_t1 131 (by decide +kernel) rfl)⟩
theorem ff_RX6_9 : am_FL RX6 9 4 2 3 := ⟨_, _, cb_4, by decide, Or.inl (am_t1 132 (by decide +kernel) rfl)⟩
theorem ff_RX7_101 : am_FL RX7 101 0 13 16 := ⟨_, _, cb_0, by decide, Or.inr (List.mem_of_getElem? (i := 26) rfl)⟩
theorem ff_RX7_107 : am_FL RX7 107 0 6 16 := ⟨_, _, cb_0, by decide, Or.inr (List.mem_of_getElem? (i := 13) rfl)⟩
theorem ff_RX7_114 : am_FL RX7 114 0 11 16 := ⟨_, _, cb_0, by decide, Or.inr (List.mem_of_getElem? (i := 22) rfl)⟩
theorem ff_RX7_12 : am_FL RX7 12 5 0 12 := ⟨_, _, cb_5, by decide, Or.inl (am_t1 167 (by decide +kernel) rfl)⟩
theorem ff_RX7_128 : am_FL RX7 128 0 4 16 := ⟨_, _, cb_0, by decide, Or.inr (List.mem_of_getElem? (i := 9) rfl)⟩
theorem ff_RX7_134 : am_FL RX7 134 0 5 16 := ⟨_, _, cb_0, by decide, Or.inr (List.mem_of_getElem? (i := 11) rfl)⟩
theorem ff_RX7_162 : am_FL RX7 162 0 3 16 := ⟨_, _, cb_0, by decide, Or.inr (List.mem_of_getElem? (i := 8) rfl)⟩
theorem ff_RX7_168 : am_FL RX7 168 0 7 16 := ⟨_, _, cb_0, by decide, Or.inr (List.mem_of_getElem? (i := 16) rfl)⟩
theorem ff_RX7_171 : am_FL RX7 171 0 1 16 := ⟨_, _, cb_0, by decide, Or.inr (List.mem_of_getElem? (i := 4) rfl)⟩
theorem ff_RX7_174 : am_FL RX7 174 0 12 16 := ⟨_, _, cb_0, by decide, Or.inr (List.mem_of_getElem? (i := 24) rfl)⟩
theorem ff_RX7_23 : am_FL RX7 23 5 1 12 := ⟨_, _, cb_5, by decide, Or.inl (am_t1 170 (by decide +kernel) rfl)⟩
theorem ff_RX7_30 : am_FL RX7 30 5 2 12 := ⟨_, _, cb_5, by decide, Or.inl (am_t1 173 (by decide +kernel) rfl)⟩
theorem ff_RX7_34 : am_FL RX7 34 5 3 12 := ⟨_, _, cb_5, by decide, Or.inl (am_t1 175 (by decide +kernel) rfl)⟩
theorem ff_RX7_37 : am_FL RX7 37 5 4 12 := ⟨_, _, cb_5, by decide, Or.inl (am_t1 177 (by decide +kernel) rfl)⟩
theorem ff_RX7_40 : am_FL RX7 40 5 5 12 := ⟨_, _, cb_5, by decide, Or.inl (am_t1 179 (by decide +kernel) rfl)⟩
theorem ff_RX7_43 : am_FL RX7 43 5 6 12 := ⟨_, _, cb_5, by decide, Or.inl (am_t1 181 (by decide +kernel) rfl)⟩
theorem ff_RX7_46 : am_FL RX7 46 5 7 12 := ⟨_, _, cb_5, by decide, Or.inl (am_t1 183 (by decide +kernel) rfl)⟩
theorem ff_RX7_49 : am_FL RX7 49 5 8 12 := ⟨_, _, cb_5, by decide, Or.inl (am_t1 185 (by decide +kernel) rfl)⟩
theorem ff_RX7_52 : am_FL RX7 52 5 9 12 := ⟨_, _, cb_5, by decide, Or.inl (am_t1 187 (by decide +kernel) rfl)⟩
theorem ff_RX7_55 : am_FL RX7 55 5 10 12 := ⟨_, _, cb_5, by decide, Or.inl (am_t1 189 (by decide +kernel) rfl)⟩
theorem ff_RX7_58 : am_FL RX7 58 5 11 12 := ⟨_, _, cb_5, by decide, Or.inl (am_t1 191 (by decide +kernel) rfl)⟩
theorem ff_RX7_71 : am_FL RX7 71 4 2 3 := ⟨_, _, cb_4, by decide, Or.inr (List.mem_of_getElem? (i := 31) rfl)⟩
theorem ff_RX7_79 : am_FL RX7 79 0 0 16 := ⟨_, _, cb_0, by decide, Or.inr (List.mem_of_getElem? (i := 0) rfl)⟩
theorem ff_RX7_94 : am_FL RX7 94 0 14 16 := ⟨_, _, cb_0, by decide, Or.inr (List.mem_of_getElem? (i := 29) rfl)⟩
theorem ff_RX8_7 : am_FL RX8 7 4 2 3 := ⟨_, _, cb_4, by decide, Or.inr (List.mem_of_getElem? (i := 32) rfl)⟩
theorem ff_RX9_10 : am_FL RX9 10 6 0 6 := ⟨_, _, cb_6, by decide, Or.inl (am_t2 52 (by decide +kernel) rfl)⟩
theorem ff_RX9_113 : am_FL RX9 113 5 2 12 := ⟨_, _, cb_5, by decide, Or.inr (List.mem_of_getElem? (i := 44) rfl)⟩
theorem ff_RX9_117 : am_FL RX9 117 3 9 11 := ⟨_, _, cb_3, by decide, Or.inr (List.mem_of_getElem? (i := 58) rfl)⟩
theorem ff_RX9_124 : am_FL RX9 124 1 0 3 := ⟨_, _, cb_1, by decide, Or.inr (List.mem_of_getElem? (i := 37) rfl)⟩
theorem ff_RX9_131 : am_FL RX9 131 5 3 12 := ⟨_, _, cb_5, by decide, Or.inr (List.mem_of_getElem? (i := 45) rfl)⟩
theorem ff_RX9_142 : am_FL RX9 142 5 4 12 := ⟨_, _, cb_5, by decide, Or.inr (List.mem_of_getElem? (i := 46) rfl)⟩
theorem ff_RX9_145 : am_FL RX9 145 5 5 12 := ⟨_, _, cb_5, by decide, Or.inr (List.mem_of_getElem? (i := 47) rfl)⟩
theorem ff_RX9_148 : am_FL RX9 148 3 10 11 := ⟨_, _, cb_3, by decide, Or.inr (List.mem_of_getElem? (i := 59) rfl)⟩
theorem ff_RX9_153 : am_FL RX9 153 3 7 11 := ⟨_, _, cb_3, by decide, Or.inr (List.mem_of_getElem? (i := 56) rfl)⟩
theorem ff_RX9_156 : am_FL RX9 156 3 8 11 := ⟨_, _, cb_3, by decide, Or.inr (List.mem_of_getElem? (i := 57) rfl)⟩
theorem ff_RX9_16 : am_FL RX9 16 6 1 6 := ⟨_, _, cb_6, by decide, Or.inl (am_t2 53 (by decide +kernel) rfl)⟩
theorem ff_RX9_162 : am_FL RX9 162 0 1 16 := ⟨_, _, cb_0, by decide, Or.inr (List.mem_of_getElem? (i := 3) rfl)⟩
theorem ff_RX9_166 : am_FL RX9 166 0 2 16 := ⟨_, _, cb_0, by decide, Or.inr (List.mem_of_getElem? (i := 6) rfl)⟩
theorem ff_RX9_169 : am_FL RX9 169 0 3 16 := ⟨_, _, cb_0, by decide, Or.inr (List.mem_of_getElem? (i := 7) rfl)⟩
theorem ff_RX9_172 : am_FL RX9 172 0 4 16 := ⟨_, _, cb_0, by decide, Or.inr (List.mem_of_getElem? (i := 10) rfl)⟩
theorem ff_RX9_175 : am_FL RX9 175 0 5 16 := ⟨_, _, cb_0, by decide, Or.inr (List.mem_of_getElem? (i := 12) rfl)⟩
theorem ff_RX9_178 : am_FL RX9 178 0 6 16 := ⟨_, _, cb_0, by decide, Or.inr (List.mem_of_getElem? (i := 14) rfl)⟩
theorem ff_RX9_181 : am_FL RX9 181 0 7 16 := ⟨_, _, cb_0, by decide, Or.inr (List.mem_of_getElem? (i := 15) rfl)⟩
theorem ff_RX9_19 : am_FL RX9 19 6 2 6 := ⟨_, _, cb_6, by decide, Or.inl (am_t2 54 (by decide +kernel) rfl)⟩
theorem ff_RX9_205 : am_FL RX9 205 0 9 16 := ⟨_, _, cb_0, by decide, Or.inr (List.mem_of_getElem? (i := 19) rfl)⟩
theorem ff_RX9_208 : am_FL RX9 208 0 10 16 := ⟨_, _, cb_0, by decide, Or.inr (List.mem_of_getElem? (i := 21) rfl)⟩
theorem ff_RX9_211 : am_FL RX9 211 0 11 16 := ⟨_, _, cb_0, by decide, Or.inr (List.mem_of_getElem? (i := 23) rfl)⟩
theorem ff_RX9_220 : am_FL RX9 220 0 0 16 := ⟨_, _, cb_0, by decide, Or.inr (List.mem_of_getElem? (i := 1) rfl)⟩
theorem ff_RX9_223 : am_FL RX9 223 0 8 16 := ⟨_, _, cb_0, by decide, Or.inr (List.mem_of_getElem? (i := 17) rfl)⟩
theorem ff_RX9_226 : am_FL RX9 226 0 12 16 := ⟨_, _, cb_0, by decide, Or.inr (List.mem_of_getElem? (i := 25) rfl)⟩
theorem ff_RX9_229 : am_FL RX9 229 0 13 16 := ⟨_, _, cb_0, by decide, Or.inr (List.mem_of_getElem? (i := 27) rfl)⟩
theorem ff_RX9_236 : am_FL RX9 236 2 3 4 := ⟨_, _, cb_2, by decide, Or.inr (List.mem_of_getElem? (i := 54) rfl)⟩
theorem ff_RX9_247 : am_FL RX9 247 5 6 12 := ⟨_, _, cb_5, by decide, Or.inr (List.mem_of_getElem? (i := 48) rfl)⟩
theorem ff_RX9_26 : am_FL RX9 26 6 3 6 := ⟨_, _, cb_6, by decide, Or.inl (am_t2 55 (by decide +kernel) rfl)⟩
theorem ff_RX9_269 : am_FL RX9 269 5 7 12 := ⟨_, _, cb_5, by decide, Or.inr (List.mem_of_getElem? (i := 49) rfl)⟩
theorem ff_RX9_272 : am_FL RX9 272 5 8 12 := ⟨_, _, cb_5, by decide, Or.inr (List.mem_of_getElem? (i := 50) rfl)⟩
theorem ff_RX9_284 : am_FL RX9 284 5 9 12 := ⟨_, _, cb_5, by decide, Or.inr (List.mem_of_getElem? (i := 51) rfl)⟩
theorem ff_RX9_297 : am_FL RX9 297 5 10 12 := ⟨_, _, cb_5, by decide, Or.inr (List.mem_of_getElem? (i := 52) rfl)⟩
theorem ff_RX9_308 : am_FL RX9 308 5 11 12 := ⟨_, _, cb_5, by decide, Or.inr (List.mem_of_getElem? (i := 53) rfl)⟩
theorem ff_RX9_33 : am_FL RX9 33 6 4 6 := ⟨_, _, cb_6, by decide, Or.inl (am_t2 56 (by decide +kernel) rfl)⟩
theorem ff_RX9_40 : am_FL RX9 40 6 5 6 := ⟨_, _, cb_6, by decide, Or.inl (am_t2 57 (by decide +kernel) rfl)⟩
theorem ff_RX9_44 : am_FL RX9 44 5 0 12 := ⟨_, _, cb_5, by decide, Or.inr (List.mem_of_getElem? (i := 40) rfl)⟩
theorem ff_RX9_47 : am_FL RX9 47 0 15 16 := ⟨_, _, cb_0, by decide, Or.inr (List.mem_of_getElem? (i := 30) rfl)⟩
theorem ff_RX9_75 : am_FL RX9 75 5 1 12 := ⟨_, _, cb_5, by decide, Or.inr (List.mem_of_getElem? (i := 43) rfl)⟩
theorem ff_RX9_79 : am_FL RX9 79 4 2 3 := ⟨_, _, cb_4, by decide, Or.inr (List.mem_of_getElem? (i := 35) rfl)⟩
theorem ff_RX9_92 : am_FL RX9 92 0 14 16 := ⟨_, _, cb_0, by decide, Or.inr (List.mem_of_getElem? (i := 28) rfl)⟩
theorem ff_RX9_99 : am_FL RX9 99 3 1 11 := ⟨_, _, cb_3, by decide, Or.inr (List.mem_of_getElem? (i := 55) rfl)⟩
theorem ff_RX10_101 : am_FL RX10 101 7 51 67 := ⟨_, _, cb_7, by decide, Or.inl (am_t5 59 (by decide +kernel) rfl)⟩
theorem ff_RX10_104 : am_FL RX10 104 7 52 67 := ⟨_, _, cb_7, by decide, Or.inl (am_t5 60 (by decide +kernel) rfl)⟩
theorem ff_RX10_107 : am_FL RX10 107 7 54 67 := ⟨_, _, cb_7, by decide, Or.inl (am_t5 62 (by decide +kernel) rfl)⟩
theorem ff_RX10_110 : am_FL RX10 110 7 55 67 := ⟨_, _, cb_7, by decide, Or.inl (am_t5 63 (by decide +kernel) rfl)⟩
theorem ff_RX10_113 : am_FL RX10 113 7 57 67 := ⟨_, _, cb_7, by decide, Or.inl (am_t5 65 (by decide +kernel) rfl)⟩
theorem ff_RX10_116 : am_FL RX10 116 7 58 67 := ⟨_, _, cb_7, by decide, Or.inl (am_t5 66 (by decide +kernel) rfl)⟩
theorem ff_RX10_119 : am_FL RX10 119 7 60 67 := ⟨_, _, cb_7, by decide, Or.inl (am_t5 68 (by decide +kernel) rfl)⟩
theorem ff_RX10_122 : am_FL RX10 122 7 61 67 := ⟨_, _, cb_7, by decide, Or.inl (am_t5 69 (by decide +kernel) rfl)⟩
theorem ff_RX10_125 : am_FL RX10 125 7 62 67 := ⟨_, _, cb_7, by decide, Or.inl (am_t5 70 (by decide +kernel) rfl)⟩
theorem ff_RX10_128 : am_FL RX10 128 7 66 67 := ⟨_, _, cb_7, by decide, Or.inl (am_t5 74 (by decide +kernel) rfl)⟩
theorem ff_RX10_13 : am_FL RX10 13 7 2 67 := ⟨_, _, cb_7, by decide, Or.inl (am_t5 10 (by decide +kernel) rfl)⟩
theorem ff_RX10_134 : am_FL RX10 134 7 3 67 := ⟨_, _, cb_7, by decide, Or.inl (am_t5 11 (by decide +kernel) rfl)⟩
theorem ff_RX10_137 : am_FL RX10 137 7 5 67 := ⟨_, _, cb_7, by decide, Or.inl (am_t5 13 (by decide +kernel) rfl)⟩
theorem ff_RX10_143 : am_FL RX10 143 7 6 67 := ⟨_, _, cb_7, by decide, Or.inl (am_t5 14 (by decide +kernel) rfl)⟩
theorem ff_RX10_146 : am_FL RX10 146 7 7 67 := ⟨_, _, cb_7, by decide, Or.inl (am_t5 15 (by decide +kernel) rfl)⟩
theorem ff_RX10_16 : am_FL RX10 16 7 4 67 := ⟨_, _, cb_7, by decide, Or.inl (am_t5 12 (by decide +kernel) rfl)⟩
theorem ff_RX10_167 : am_FL RX10 167 7 14 67 := ⟨_, _, cb_7, by decide, Or.inl (am_t5 22 (by decide +kernel) rfl)⟩
theorem ff_RX10_174 : am_FL RX10 174 7 15 67 := ⟨_, _, cb_7, by decide, Or.inl (am_t5 23 (by decide +kernel) rfl)⟩
theorem ff_RX10_181 : am_FL RX10 181 7 16 67 := ⟨_, _, cb_7, by decide, Or.inl (am_t5 24 (by decide +kernel) rfl)⟩
theorem ff_RX10_184 : am_FL RX10 184 7 17 67 := ⟨_, _, cb_7, by decide, Or.inl (am_t5 25 (by decide +kernel) rfl)⟩
theorem ff_RX10_187 : am_FL RX10 187 7 18 67 := ⟨_, _, cb_7, by decide, Or.inl (am_t5 26 (by decide +kernel) rfl)⟩
theorem ff_RX10_19 : am_FL RX10 19 7 8 67 := ⟨_, _, cb_7, by decide, Or.inl (am_t5 16 (by decide +kernel) rfl)⟩
theorem ff_RX10_203 : am_FL RX10 203 7 32 67 := ⟨_, _, cb_7, by decide, Or.inl (am_t5 40 (by decide +kernel) rfl)⟩
theorem ff_RX10_206 : am_FL RX10 206 7 33 67 := ⟨_, _, cb_7, by decide, Or.inl (am_t5 41 (by decide +kernel) rfl)⟩
theorem ff_RX10_209 : am_FL RX10 209 7 28 67 := ⟨_, _, cb_7, by decide, Or.inl (am_t5 36 (by decide +kernel) rfl)⟩
theorem ff_RX10_22 : am_FL RX10 22 7 9 67 := ⟨_, _, cb_7, by decide, Or.inl (am_t5 17 (by decide +kernel) rfl)⟩
theorem ff_RX10_238 : am_FL RX10 238 7 31 67 := ⟨_, _, cb_7, by decide, Or.inl (am_t5 39 (by decide +kernel) rfl)⟩
theorem ff_RX10_241 : am_FL RX10 241 7 29 67 := ⟨_, _, cb_7, by decide, Or.inl (am_t5 37 (by decide +kernel) rfl)⟩
theorem ff_RX10_25 : am_FL RX10 25 7 10 67 := ⟨_, _, cb_7, by decide, Or.inl (am_t5 18 (by decide +kernel) rfl)⟩
theorem ff_RX10_262 : am_FL RX10 262 7 27 67 := ⟨_, _, cb_7, by decide, Or.inl (am_t5 35 (by decide +kernel) rfl)⟩
theorem ff_RX10_28 : am_FL RX10 28 7 11 67 := ⟨_, _, cb_7, by decide, Or.inl (am_t5 19 (by decide +kernel) rfl)⟩
theorem ff_RX10_297 : am_FL RX10 297 7 36 67 := ⟨_, _, cb_7, by decide, Or.inl (am_t5 44 (by decide +kernel) rfl)⟩
theorem ff_RX10_300 : am_FL RX10 300 7 38 67 := ⟨_, _, cb_7, by decide, Or.inl (am_t5 46 (by decide +kernel) rfl)⟩
theorem ff_RX10_303 : am_FL RX10 303 7 40 67 := ⟨_, _, cb_7, by decide, Or.inl (am_t5 48 (by decide +kernel) rfl)⟩
theorem ff_RX10_306 : am_FL RX10 306 7 34 67 := ⟨_, _, cb_7, by decide, Or.inl (am_t5 42 (by decide +kernel) rfl)⟩
theorem ff_RX10_31 : am_FL RX10 31 7 12 67 := ⟨_, _, cb_7, by decide, Or.inl (am_t5 20 (by decide +kernel) rfl)⟩
theorem ff_RX10_34 : am_FL RX10 34 7 13 67 := ⟨_, _, cb_7, by decide, Or.inl (am_t5 21 (by decide +kernel) rfl)⟩
theorem ff_RX10_37 : am_FL RX10 37 7 19 67 := ⟨_, _, cb_7, by decide, Or.inl (am_t5 27 (by decide +kernel) rfl)⟩
theorem ff_RX10_40 : am_FL RX10 40 7 20 67 := ⟨_, _, cb_7, by decide, Or.inl (am_t5 28 (by decide +kernel) rfl)⟩
theorem ff_RX10_407 : am_FL RX10 407 7 44 67 := ⟨_, _, cb_7, by decide, Or.inl (am_t5 52 (by decide +kernel) rfl)⟩
theorem ff_RX10_43 : am_FL RX10 43 7 21 67 := ⟨_, _, cb_7, by decide, Or.inl (am_t5 29 (by decide +kernel) rfl)⟩
theorem ff_RX10_444 : am_FL RX10 444 7 53 67 := ⟨_, _, cb_7, by decide, Or.inl (am_t5 61 (by decide +kernel) rfl)⟩
theorem ff_RX10_453 : am_FL RX10 453 7 56 67 := ⟨_, _, cb_7, by decide, Or.inl (am_t5 64 (by decide +kernel) rfl)⟩
theorem ff_RX10_459 : am_FL RX10 459 7 59 67 := ⟨_, _, cb_7, by decide, Or.inl (am_t5 67 (by decide +kernel) rfl)⟩
theorem ff_RX10_46 : am_FL RX10 46 7 22 67 := ⟨_, _, cb_7, by decide, Or.inl (am_t5 30 (by decide +kernel) rfl)⟩
theorem ff_RX10_477 : am_FL RX10 477 7 65 67 := ⟨_, _, cb_7, by decide, Or.inl (am_t5 73 (by decide +kernel) rfl)⟩
theorem ff_RX10_480 : am_FL RX10 480 7 63 67 := ⟨_, _, cb_7, by decide, Or.inl (am_t5 71 (by decide +kernel) rfl)⟩
theorem ff_RX10_486 : am_FL RX10 486 7 64 67 := ⟨_, _, cb_7, by decide, Or.inl (am_t5 72 (by decide +kernel) rfl)⟩
theorem ff_RX10_49 : am_FL RX10 49 7 23 67 := ⟨_, _, cb_7, by decide, Or.inl (am_t5 31 (by decide +kernel) rfl)⟩
theorem ff_RX10_52 : am_FL RX10 52 7 24 67 := ⟨_, _, cb_7, by decide, Or.inl (am_t5 32 (by decide +kernel) rfl)⟩
theorem ff_RX10_55 : am_FL RX10 55 7 25 67 := ⟨_, _, cb_7, by decide, Or.inl (am_t5 33 (by decide +kernel) rfl)⟩
theorem ff_RX10_58 : am_FL RX10 58 7 26 67 := ⟨_, _, cb_7, by decide, Or.inl (am_t5 34 (by decide +kernel) rfl)⟩
theorem ff_RX10_61 : am_FL RX10 61 7 30 67 := ⟨_, _, cb_7, by decide, Or.inl (am_t5 38 (by decide +kernel) rfl)⟩
theorem ff_RX10_64 : am_FL RX10 64 7 35 67 := ⟨_, _, cb_7, by decide, Or.inl (am_t5 43 (by decide +kernel) rfl)⟩
theorem ff_RX10_68 : am_FL RX10 68 7 37 67 := ⟨_, _, cb_7, by decide, Or.inl (am_t5 45 (by decide +kernel) rfl)⟩
theorem ff_RX10_7 : am_FL RX10 7 7 1 67 := ⟨_, _, cb_7, by decide, Or.inl (am_t5 9 (by decide +kernel) rfl)⟩
theorem ff_RX10_71 : am_FL RX10 71 7 39 67 := ⟨_, _, cb_7, by decide, Or.inl (am_t5 47 (by decide +kernel) rfl)⟩
theorem ff_RX10_74 : am_FL RX10 74 7 41 67 := ⟨_, _, cb_7, by decide, Or.inl (am_t5 49 (by decide +kernel) rfl)⟩
theorem ff_RX10_77 : am_FL RX10 77 7 42 67 := ⟨_, _, cb_7, by decide, Or.inl (am_t5 50 (by decide +kernel) rfl)⟩
theorem ff_RX10_80 : am_FL RX10 80 7 43 67 := ⟨_, _, cb_7, by decide, Or.inl (am_t5 51 (by decide +kernel) rfl)⟩
theorem ff_RX10_83 : am_FL RX10 83 7 45 67 := ⟨_, _, cb_7, by decide, Or.inl (am_t5 53 (by decide +kernel) rfl)⟩
theorem ff_RX10_86 : am_FL RX10 86 7 46 67 := ⟨_, _, cb_7, by decide, Or.inl (am_t5 54 (by decide +kernel) rfl)⟩
theorem ff_RX10_89 : am_FL RX10 89 7 47 67 := ⟨_, _, cb_7, by decide, Or.inl (am_t5 55 (by decide +kernel) rfl)⟩
theorem ff_RX10_92 : am_FL RX10 92 7 48 67 := ⟨_, _, cb_7, by decide, Or.inl (am_t5 56 (by decide +kernel) rfl)⟩
theorem ff_RX10_95 : am_FL RX10 95 7 49 67 := ⟨_, _, cb_7, by decide, Or.inl (am_t5 57 (by decide +kernel) rfl)⟩
theorem ff_RX10_98 : am_FL RX10 98 7 50 67 := ⟨_, _, cb_7, by decide, Or.inl (am_t5 58 (by decide +kernel) rfl)⟩
theorem ln_RX0_61 : Cond.methodLink RX0 61 yX0_hasOfficer ∈ am_WL := am_t2 103 (by decide +kernel) rfl
theorem ln_RX0_65 : Cond.methodLink RX0 65 yX0_hasBatman ∈ am_WL := am_t2 111 (by decide +kernel) rfl
theorem ln_RX1_27 : Cond.methodLink RX1 27 yX6_clear ∈ am_WL := am_t3 92 (by decide +kernel) rfl
theorem ln_RX1_31 : Cond.methodLink RX1 31 yX6_copyFrom ∈ am_WL := am_t3 153 (by decide +kernel) rfl
theorem ln_RX1_39 : Cond.methodLink RX1 39 yX6_at ∈ am_WL := am_t2 206 (by decide +kernel) rfl
theorem ln_RX1_43 : Cond.methodLink RX1 43 yX1_run ∈ am_WL := am_t2 207 (by decide +kernel) rfl
theorem ln_RX1_47 : Cond.methodLink RX1 47 yX1_held ∈ am_WL := am_t2 221 (by decide +kernel) rfl
theorem ln_RX1_50 : Cond.methodLink RX1 50 yX1_untold ∈ am_WL := am_t2 226 (by decide +kernel) rfl
theorem ln_RX1_54 : Cond.methodLink RX1 54 yX0_value ∈ am_WL := am_t2 211 (by decide +kernel) rfl
theorem ln_RX1_60 : Cond.methodLink RX1 60 yJ9_min_7cf53 ∈ am_WL := am_t2 224 (by decide +kernel) rfl
theorem ln_RX1_65 : Cond.methodLink RX1 65 yJ9_max_7cf53 ∈ am_WL := am_t2 225 (by decide +kernel) rfl
theorem ln_RX1_68 : Cond.methodLink RX1 68 yX1_quotient ∈ am_WL := am_t2 215 (by decide +kernel) rfl
theorem ln_RX1_71 : Cond.methodLink RX1 71 yX1_joined ∈ am_WL := am_t2 218 (by decide +kernel) rfl
theorem ln_RX2_15 : Cond.methodLink RX2 15 yX6_at ∈ am_WL := am_t4 17 (by decide +kernel) rfl
theorem ln_RX2_19 : Cond.methodLink RX2 19 yX2_right ∈ am_WL := am_t4 18 (by decide +kernel) rfl
theorem ln_RX2_24 : Cond.methodLink RX2 24 yX2_common ∈ am_WL := am_t4 21 (by decide +kernel) rfl
theorem ln_RX2_27 : Cond.methodLink RX2 27 yX2_times ∈ am_WL := am_t4 24 (by decide +kernel) rfl
theorem ln_RX2_30 : Cond.methodLink RX2 30 yJ9_min_7cf53 ∈ am_WL := am_t4 27 (by decide +kernel) rfl
theorem ln_RX2_35 : Cond.methodLink RX2 35 yX2_rail ∈ am_WL := am_t4 42 (by decide +kernel) rfl
theorem ln_RX2_42 : Cond.methodLink RX2 42 yX2_firstAlike ∈ am_WL := am_t4 62 (by decide +kernel) rfl
theorem ln_RX2_46 : Cond.methodLink RX2 46 yX2_readsAlike ∈ am_WL := am_t4 65 (by decide +kernel) rfl
theorem ln_RX2_50 : Cond.methodLink RX2 50 yX2_toldOn ∈ am_WL := am_t4 85 (by decide +kernel) rfl
theorem ln_RX2_54 : Cond.methodLink RX2 54 yX2_stand ∈ am_WL := am_t4 89 (by decide +kernel) rfl
theorem ln_RX2_58 : Cond.methodLink RX2 58 yX6_has ∈ am_WL := am_t4 88 (by decide +kernel) rfl
theorem ln_RX3_29 : Cond.methodLink RX3 29 yJ9_min_7cf53 ∈ am_WL := am_t2 133 (by decide +kernel) rfl
theorem ln_RX3_35 : Cond.methodLink RX3 35 yX0_copyFrom ∈ am_WL := am_t2 134 (by decide +kernel) rfl
theorem ln_RX3_49 : Cond.methodLink RX3 49 yX6_keepFirst ∈ am_WL := am_t4 227 (by decide +kernel) rfl
theorem ln_RX4_101 : Cond.methodLink RX4 101 yX4_opens ∈ am_WL := am_t3 100 (by decide +kernel) rfl
theorem ln_RX4_110 : Cond.methodLink RX4 110 yX4_sum ∈ am_WL := am_t3 112 (by decide +kernel) rfl
theorem ln_RX4_114 : Cond.methodLink RX4 114 yX4_condition ∈ am_WL := am_t3 137 (by decide +kernel) rfl
theorem ln_RX4_117 : Cond.methodLink RX4 117 yX4_sign ∈ am_WL := am_t3 145 (by decide +kernel) rfl
theorem ln_RX4_123 : Cond.methodLink RX4 123 yX6_add ∈ am_WL := am_t3 124 (by decide +kernel) rfl
theorem ln_RX4_127 : Cond.methodLink RX4 127 yX4_comparison ∈ am_WL := am_t3 141 (by decide +kernel) rfl
theorem ln_RX4_130 : Cond.methodLink RX4 130 yX4_product ∈ am_WL := am_t3 116 (by decide +kernel) rfl
theorem ln_RX4_133 : Cond.methodLink RX4 133 yX4_unit ∈ am_WL := am_t3 120 (by decide +kernel) rfl
theorem ln_RX4_136 : Cond.methodLink RX4 136 yX4_takes ∈ am_WL := am_t3 129 (by decide +kernel) rfl
theorem ln_RX4_139 : Cond.methodLink RX4 139 yX6_clear ∈ am_WL := am_t3 162 (by decide +kernel) rfl
theorem ln_RX4_149 : Cond.methodLink RX4 149 yX4_word ∈ am_WL := am_t3 172 (by decide +kernel) rfl
theorem ln_RX4_152 : Cond.methodLink RX4 152 yX4_canServe ∈ am_WL := am_t3 176 (by decide +kernel) rfl
theorem ln_RX4_156 : Cond.methodLink RX4 156 yX4_canNeed ∈ am_WL := am_t3 181 (by decide +kernel) rfl
theorem ln_RX4_159 : Cond.methodLink RX4 159 yX0_hasOfficer ∈ am_WL := am_t3 179 (by decide +kernel) rfl
theorem ln_RX4_162 : Cond.methodLink RX4 162 yX0_hasBatman ∈ am_WL := am_t3 180 (by decide +kernel) rfl
theorem ln_RX4_56 : Cond.methodLink RX4 56 yX4_kindOf ∈ am_WL := am_t3 20 (by decide +kernel) rfl
theorem ln_RX4_60 : Cond.methodLink RX4 60 yX4_keyword ∈ am_WL := am_t3 23 (by decide +kernel) rfl
theorem ln_RX4_63 : Cond.methodLink RX4 63 yX4_number ∈ am_WL := am_t3 80 (by decide +kernel) rfl
theorem ln_RX4_66 : Cond.methodLink RX4 66 yX4_behind ∈ am_WL := am_t3 27 (by decide +kernel) rfl
theorem ln_RX4_72 : Cond.methodLink RX4 72 yJ0_length_8abf5 ∈ am_WL := am_t3 32 (by decide +kernel) rfl
theorem ln_RX4_77 : Cond.methodLink RX4 77 yJ0_charAt_5068e ∈ am_WL := am_t3 42 (by decide +kernel) rfl
theorem ln_RX4_81 : Cond.methodLink RX4 81 yX4_kind ∈ am_WL := am_t3 96 (by decide +kernel) rfl
theorem ln_RX4_84 : Cond.methodLink RX4 84 yX4_value ∈ am_WL := am_t3 104 (by decide +kernel) rfl
theorem ln_RX4_87 : Cond.methodLink RX4 87 yX4_isSign ∈ am_WL := am_t3 125 (by decide +kernel) rfl
theorem ln_RX4_91 : Cond.methodLink RX4 91 yX4_fail ∈ am_WL := am_t3 108 (by decide +kernel) rfl
theorem ln_RX4_95 : Cond.methodLink RX4 95 yX4_isWord ∈ am_WL := am_t3 133 (by decide +kernel) rfl
theorem ln_RX4_98 : Cond.methodLink RX4 98 yX1_clear ∈ am_WL := am_t3 88 (by decide +kernel) rfl
theorem ln_RX5_13 : Cond.methodLink RX5 13 yX5_movesFrom ∈ am_WL := am_t4 133 (by decide +kernel) rfl
theorem ln_RX5_19 : Cond.methodLink RX5 19 yX5_housed ∈ am_WL := am_t4 143 (by decide +kernel) rfl
theorem ln_RX5_22 : Cond.methodLink RX5 22 yJ9_min_7cf53 ∈ am_WL := am_t4 161 (by decide +kernel) rfl
theorem ln_RX5_27 : Cond.methodLink RX5 27 yX5_digitSquares ∈ am_WL := am_t4 177 (by decide +kernel) rfl
theorem ln_RX5_31 : Cond.methodLink RX5 31 yX5_happyEnd ∈ am_WL := am_t4 186 (by decide +kernel) rfl
theorem ln_RX5_34 : Cond.methodLink RX5 34 yX5_choose ∈ am_WL := am_t4 201 (by decide +kernel) rfl
theorem ln_RX5_37 : Cond.methodLink RX5 37 yX5_closings ∈ am_WL := am_t4 205 (by decide +kernel) rfl
theorem ln_RX5_40 : Cond.methodLink RX5 40 yX5_greatestWithin ∈ am_WL := am_t4 216 (by decide +kernel) rfl
theorem ln_RX6_15 : Cond.methodLink RX6 15 yJ9_min_7cf53 ∈ am_WL := am_t1 124 (by decide +kernel) rfl
theorem ln_RX6_21 : Cond.methodLink RX6 21 yJ9_max_7cf53 ∈ am_WL := am_t1 127 (by decide +kernel) rfl
theorem ln_RX6_31 : Cond.methodLink RX6 31 yX6_at ∈ am_WL := am_t4 77 (by decide +kernel) rfl
theorem ln_RX7_104 : Cond.methodLink RX7 104 yX0_hasOfficer ∈ am_WL := am_t2 127 (by decide +kernel) rfl
theorem ln_RX7_111 : Cond.methodLink RX7 111 yX0_hasBatman ∈ am_WL := am_t2 128 (by decide +kernel) rfl
theorem ln_RX7_117 : Cond.methodLink RX7 117 yX7_obey ∈ am_WL := am_t2 145 (by decide +kernel) rfl
theorem ln_RX7_121 : Cond.methodLink RX7 121 yX7_march ∈ am_WL := am_t2 149 (by decide +kernel) rfl
theorem ln_RX7_125 : Cond.methodLink RX7 125 yX0_mustGiveUp ∈ am_WL := am_t2 153 (by decide +kernel) rfl
theorem ln_RX7_131 : Cond.methodLink RX7 131 yX7_write ∈ am_WL := am_t2 157 (by decide +kernel) rfl
theorem ln_RX7_137 : Cond.methodLink RX7 137 yX7_hasHisNeeds ∈ am_WL := am_t2 165 (by decide +kernel) rfl
theorem ln_RX7_141 : Cond.methodLink RX7 141 yJ9_min_7cf53 ∈ am_WL := am_t2 177 (by decide +kernel) rfl
theorem ln_RX7_146 : Cond.methodLink RX7 146 yX7_follow ∈ am_WL := am_t2 186 (by decide +kernel) rfl
theorem ln_RX7_150 : Cond.methodLink RX7 150 yX7_press ∈ am_WL := am_t2 190 (by decide +kernel) rfl
theorem ln_RX7_154 : Cond.methodLink RX7 154 yX7_spendEvening ∈ am_WL := am_t2 230 (by decide +kernel) rfl
theorem ln_RX7_158 : Cond.methodLink RX7 158 yX7_asks ∈ am_WL := am_t2 194 (by decide +kernel) rfl
theorem ln_RX7_165 : Cond.methodLink RX7 165 yJ9_max_7cf53 ∈ am_WL := am_t2 229 (by decide +kernel) rfl
theorem ln_RX7_177 : Cond.methodLink RX7 177 yX0_draw ∈ am_WL := am_t2 234 (by decide +kernel) rfl
theorem ln_RX7_61 : Cond.methodLink RX7 61 yX0_copyFrom ∈ am_WL := am_t4 239 (by decide +kernel) rfl
theorem ln_RX7_65 : Cond.methodLink RX7 65 yX6_copyFrom ∈ am_WL := am_t5 0 (by decide +kernel) rfl
theorem ln_RX7_68 : Cond.methodLink RX7 68 yX1_copyFrom ∈ am_WL := am_t5 1 (by decide +kernel) rfl
theorem ln_RX7_75 : Cond.methodLink RX7 75 yX6_at ∈ am_WL := am_t2 169 (by decide +kernel) rfl
theorem ln_RX7_82 : Cond.methodLink RX7 82 yX7_batmanOf ∈ am_WL := am_t2 198 (by decide +kernel) rfl
theorem ln_RX7_86 : Cond.methodLink RX7 86 yX0_hasTen ∈ am_WL := am_t2 173 (by decide +kernel) rfl
theorem ln_RX7_90 : Cond.methodLink RX7 90 yX1_tells ∈ am_WL := am_t2 202 (by decide +kernel) rfl
theorem ln_RX7_97 : Cond.methodLink RX7 97 yX6_add ∈ am_WL := am_t2 161 (by decide +kernel) rfl
theorem ln_RX8_13 : Cond.methodLink RX8 13 yX6_at ∈ am_WL := am_t4 104 (by decide +kernel) rfl
theorem ln_RX8_17 : Cond.methodLink RX8 17 yX8_isBetween ∈ am_WL := am_t4 105 (by decide +kernel) rfl
theorem ln_RX8_23 : Cond.methodLink RX8 23 yJ9_min_7cf53 ∈ am_WL := am_t4 108 (by decide +kernel) rfl
theorem ln_RX8_28 : Cond.methodLink RX8 28 yJ9_max_7cf53 ∈ am_WL := am_t4 109 (by decide +kernel) rfl
theorem ln_RX9_102 : Cond.methodLink RX9 102 yX4_put ∈ am_WL := am_t3 4 (by decide +kernel) rfl
theorem ln_RX9_106 : Cond.methodLink RX9 106 yX4_cut ∈ am_WL := am_t3 16 (by decide +kernel) rfl
theorem ln_RX9_109 : Cond.methodLink RX9 109 yX4_readLaw ∈ am_WL := am_t3 84 (by decide +kernel) rfl
theorem ln_RX9_118 : Cond.methodLink RX9 118 yX1_copyFrom ∈ am_WL := am_t3 149 (by decide +kernel) rfl
theorem ln_RX9_127 : Cond.methodLink RX9 127 yX4_readOrders ∈ am_WL := am_t3 158 (by decide +kernel) rfl
theorem ln_RX9_134 : Cond.methodLink RX9 134 yX9_tellRows ∈ am_WL := am_t3 163 (by decide +kernel) rfl
theorem ln_RX9_138 : Cond.methodLink RX9 138 yX4_readCouples ∈ am_WL := am_t3 168 (by decide +kernel) rfl
theorem ln_RX9_150 : Cond.methodLink RX9 150 yX6_copyFrom ∈ am_WL := am_t3 167 (by decide +kernel) rfl
theorem ln_RX9_159 : Cond.methodLink RX9 159 yX0_hasOfficer ∈ am_WL := am_t3 193 (by decide +kernel) rfl
theorem ln_RX9_184 : Cond.methodLink RX9 184 yX7_batmanOf ∈ am_WL := am_t3 194 (by decide +kernel) rfl
theorem ln_RX9_188 : Cond.methodLink RX9 188 yX7_needed ∈ am_WL := am_t3 195 (by decide +kernel) rfl
theorem ln_RX9_191 : Cond.methodLink RX9 191 yX7_asks ∈ am_WL := am_t3 199 (by decide +kernel) rfl
theorem ln_RX9_195 : Cond.methodLink RX9 195 yX0_mustGiveUp ∈ am_WL := am_t3 200 (by decide +kernel) rfl
theorem ln_RX9_198 : Cond.methodLink RX9 198 yX7_hasHisNeeds ∈ am_WL := am_t3 201 (by decide +kernel) rfl
theorem ln_RX9_202 : Cond.methodLink RX9 202 yX0_hasBatman ∈ am_WL := am_t3 206 (by decide +kernel) rfl
theorem ln_RX9_214 : Cond.methodLink RX9 214 yX7_servedBy ∈ am_WL := am_t3 207 (by decide +kernel) rfl
theorem ln_RX9_217 : Cond.methodLink RX9 217 yX6_at ∈ am_WL := am_t3 215 (by decide +kernel) rfl
theorem ln_RX9_232 : Cond.methodLink RX9 232 yX0_whoIsRead ∈ am_WL := am_t3 220 (by decide +kernel) rfl
theorem ln_RX9_240 : Cond.methodLink RX9 240 yX0_copyFrom ∈ am_WL := am_t3 229 (by decide +kernel) rfl
theorem ln_RX9_243 : Cond.methodLink RX9 243 yX0_total ∈ am_WL := am_t3 230 (by decide +kernel) rfl
theorem ln_RX9_250 : Cond.methodLink RX9 250 yX6_clear ∈ am_WL := am_t4 2 (by decide +kernel) rfl
theorem ln_RX9_253 : Cond.methodLink RX9 253 yX2_isWord ∈ am_WL := am_t4 3 (by decide +kernel) rfl
theorem ln_RX9_258 : Cond.methodLink RX9 258 yX6_add ∈ am_WL := am_t4 6 (by decide +kernel) rfl
theorem ln_RX9_262 : Cond.methodLink RX9 262 yX2_word ∈ am_WL := am_t4 11 (by decide +kernel) rfl
theorem ln_RX9_265 : Cond.methodLink RX9 265 yX2_fits ∈ am_WL := am_t4 14 (by decide +kernel) rfl
theorem ln_RX9_275 : Cond.methodLink RX9 275 yJ9_floorMod_7cf53 ∈ am_WL := am_t4 36 (by decide +kernel) rfl
theorem ln_RX9_280 : Cond.methodLink RX9 280 yX2_byRails ∈ am_WL := am_t4 39 (by decide +kernel) rfl
theorem ln_RX9_300 : Cond.methodLink RX9 300 yX6_has ∈ am_WL := am_t4 73 (by decide +kernel) rfl
theorem ln_RX9_311 : Cond.methodLink RX9 311 yX8_isPoint ∈ am_WL := am_t4 94 (by decide +kernel) rfl
theorem ln_RX9_316 : Cond.methodLink RX9 316 yX8_meets ∈ am_WL := am_t4 101 (by decide +kernel) rfl
theorem ln_RX9_320 : Cond.methodLink RX9 320 yX8_twiceArea ∈ am_WL := am_t4 114 (by decide +kernel) rfl
theorem ln_RX9_323 : Cond.methodLink RX9 323 yX5_peg ∈ am_WL := am_t4 121 (by decide +kernel) rfl
theorem ln_RX9_328 : Cond.methodLink RX9 328 yX5_movesLeft ∈ am_WL := am_t4 128 (by decide +kernel) rfl
theorem ln_RX9_334 : Cond.methodLink RX9 334 yX5_choose ∈ am_WL := am_t4 148 (by decide +kernel) rfl
theorem ln_RX9_337 : Cond.methodLink RX9 337 yX5_noneHisOwn ∈ am_WL := am_t4 151 (by decide +kernel) rfl
theorem ln_RX9_340 : Cond.methodLink RX9 340 yX5_commonPart ∈ am_WL := am_t4 158 (by decide +kernel) rfl
theorem ln_RX9_343 : Cond.methodLink RX9 343 yX5_feastDay ∈ am_WL := am_t4 166 (by decide +kernel) rfl
theorem ln_RX9_347 : Cond.methodLink RX9 347 yX5_happyEnd ∈ am_WL := am_t4 174 (by decide +kernel) rfl
theorem ln_RX9_350 : Cond.methodLink RX9 350 yX5_happySteps ∈ am_WL := am_t4 180 (by decide +kernel) rfl
theorem ln_RX9_353 : Cond.methodLink RX9 353 yX5_happyUpTo ∈ am_WL := am_t4 183 (by decide +kernel) rfl
theorem ln_RX9_356 : Cond.methodLink RX9 356 yX5_ofPrimes ∈ am_WL := am_t4 191 (by decide +kernel) rfl
theorem ln_RX9_359 : Cond.methodLink RX9 359 yX5_closings ∈ am_WL := am_t4 198 (by decide +kernel) rfl
theorem ln_RX9_362 : Cond.methodLink RX9 362 yX5_bracketRow ∈ am_WL := am_t4 202 (by decide +kernel) rfl
theorem ln_RX9_365 : Cond.methodLink RX9 365 yX5_bracketPlace ∈ am_WL := am_t4 206 (by decide +kernel) rfl
theorem ln_RX9_368 : Cond.methodLink RX9 368 yX5_leastPart ∈ am_WL := am_t4 213 (by decide +kernel) rfl
theorem ln_RX9_371 : Cond.methodLink RX9 371 yX3_goBack ∈ am_WL := am_t4 223 (by decide +kernel) rfl
theorem ln_RX9_375 : Cond.methodLink RX9 375 yX7_copyFrom ∈ am_WL := am_t4 235 (by decide +kernel) rfl
theorem ln_RX9_51 : Cond.methodLink RX9 51 yX3_forget ∈ am_WL := am_t2 75 (by decide +kernel) rfl
theorem ln_RX9_54 : Cond.methodLink RX9 54 yX0_addOfficer ∈ am_WL := am_t2 83 (by decide +kernel) rfl
theorem ln_RX9_58 : Cond.methodLink RX9 58 yX0_addBatman ∈ am_WL := am_t2 91 (by decide +kernel) rfl
theorem ln_RX9_61 : Cond.methodLink RX9 61 yX0_putOfficer ∈ am_WL := am_t2 99 (by decide +kernel) rfl
theorem ln_RX9_65 : Cond.methodLink RX9 65 yX0_putBatman ∈ am_WL := am_t2 107 (by decide +kernel) rfl
theorem ln_RX9_68 : Cond.methodLink RX9 68 yX0_putLine ∈ am_WL := am_t2 115 (by decide +kernel) rfl
theorem ln_RX9_72 : Cond.methodLink RX9 72 yX7_canAct ∈ am_WL := am_t2 123 (by decide +kernel) rfl
theorem ln_RX9_84 : Cond.methodLink RX9 84 yX3_keep ∈ am_WL := am_t2 129 (by decide +kernel) rfl
theorem ln_RX9_88 : Cond.methodLink RX9 88 yX7_perform ∈ am_WL := am_t2 141 (by decide +kernel) rfl
theorem ln_RX9_95 : Cond.methodLink RX9 95 yX7_passDay ∈ am_WL := am_t2 182 (by decide +kernel) rfl
theorem ln_RX10_149 : Cond.methodLink RX10 149 yX10_isIn ∈ am_WL := am_t5 222 (by decide +kernel) rfl
theorem ln_RX10_153 : Cond.methodLink RX10 153 yX10_isWon ∈ am_WL := am_t5 238 (by decide +kernel) rfl
theorem ln_RX10_157 : Cond.methodLink RX10 157 yX10_isOfficer ∈ am_WL := am_t6 2 (by decide +kernel) rfl
theorem ln_RX10_161 : Cond.methodLink RX10 161 yX10_isBatman ∈ am_WL := am_t6 6 (by decide +kernel) rfl
theorem ln_RX10_164 : Cond.methodLink RX10 164 yX10_canSet ∈ am_WL := am_t5 234 (by decide +kernel) rfl
theorem ln_RX10_170 : Cond.methodLink RX10 170 yX10_types ∈ am_WL := am_t6 14 (by decide +kernel) rfl
theorem ln_RX10_177 : Cond.methodLink RX10 177 yX10_raw ∈ am_WL := am_t6 34 (by decide +kernel) rfl
theorem ln_RX10_190 : Cond.methodLink RX10 190 yX10_isLetter ∈ am_WL := am_t6 38 (by decide +kernel) rfl
theorem ln_RX10_193 : Cond.methodLink RX10 193 yX10_wordAt ∈ am_WL := am_t6 42 (by decide +kernel) rfl
theorem ln_RX10_197 : Cond.methodLink RX10 197 yX10_isDigit ∈ am_WL := am_t6 46 (by decide +kernel) rfl
theorem ln_RX10_200 : Cond.methodLink RX10 200 yX10_isMarkSign ∈ am_WL := am_t6 50 (by decide +kernel) rfl
theorem ln_RX10_212 : Cond.methodLink RX10 212 yX10_canAsk ∈ am_WL := am_t6 110 (by decide +kernel) rfl
theorem ln_RX10_215 : Cond.methodLink RX10 215 yX10_errs ∈ am_WL := am_t6 62 (by decide +kernel) rfl
theorem ln_RX10_218 : Cond.methodLink RX10 218 yX10_emits ∈ am_WL := am_t6 114 (by decide +kernel) rfl
theorem ln_RX10_222 : Cond.methodLink RX10 222 yX10_reads ∈ am_WL := am_t6 30 (by decide +kernel) rfl
theorem ln_RX10_225 : Cond.methodLink RX10 225 yX10_readUnit ∈ am_WL := am_t6 106 (by decide +kernel) rfl
theorem ln_RX10_229 : Cond.methodLink RX10 229 yX10_isSign ∈ am_WL := am_t6 86 (by decide +kernel) rfl
theorem ln_RX10_232 : Cond.methodLink RX10 232 yX10_readProduct ∈ am_WL := am_t6 102 (by decide +kernel) rfl
theorem ln_RX10_235 : Cond.methodLink RX10 235 yX10_readSum ∈ am_WL := am_t6 98 (by decide +kernel) rfl
theorem ln_RX10_244 : Cond.methodLink RX10 244 yX10_isWord ∈ am_WL := am_t6 58 (by decide +kernel) rfl
theorem ln_RX10_247 : Cond.methodLink RX10 247 yX10_waits ∈ am_WL := am_t6 122 (by decide +kernel) rfl
theorem ln_RX10_250 : Cond.methodLink RX10 250 yX10_readCompared ∈ am_WL := am_t6 126 (by decide +kernel) rfl
theorem ln_RX10_253 : Cond.methodLink RX10 253 yX10_settles ∈ am_WL := am_t6 130 (by decide +kernel) rfl
theorem ln_RX10_256 : Cond.methodLink RX10 256 yX10_isLineWord ∈ am_WL := am_t6 94 (by decide +kernel) rfl
theorem ln_RX10_259 : Cond.methodLink RX10 259 yX10_readAny ∈ am_WL := am_t6 118 (by decide +kernel) rfl
theorem ln_RX10_265 : Cond.methodLink RX10 265 yX10_readNumber ∈ am_WL := am_t6 74 (by decide +kernel) rfl
theorem ln_RX10_268 : Cond.methodLink RX10 268 yX10_readTold ∈ am_WL := am_t6 70 (by decide +kernel) rfl
theorem ln_RX10_272 : Cond.methodLink RX10 272 yX10_kindOfOrder ∈ am_WL := am_t6 78 (by decide +kernel) rfl
theorem ln_RX10_275 : Cond.methodLink RX10 275 yX10_readMark ∈ am_WL := am_t6 82 (by decide +kernel) rfl
theorem ln_RX10_278 : Cond.methodLink RX10 278 yX10_readOrder ∈ am_WL := am_t6 66 (by decide +kernel) rfl
theorem ln_RX10_281 : Cond.methodLink RX10 281 yX10_readService ∈ am_WL := am_t6 138 (by decide +kernel) rfl
theorem ln_RX10_284 : Cond.methodLink RX10 284 yX10_readNeed ∈ am_WL := am_t6 142 (by decide +kernel) rfl
theorem ln_RX10_287 : Cond.methodLink RX10 287 yX10_readOrders ∈ am_WL := am_t6 54 (by decide +kernel) rfl
theorem ln_RX10_290 : Cond.methodLink RX10 290 yX10_readLaw ∈ am_WL := am_t6 90 (by decide +kernel) rfl
theorem ln_RX10_293 : Cond.methodLink RX10 293 yX10_readOfficers ∈ am_WL := am_t6 134 (by decide +kernel) rfl
theorem ln_RX10_309 : Cond.methodLink RX10 309 yX10_readsText ∈ am_WL := am_t6 26 (by decide +kernel) rfl
theorem ln_RX10_312 : Cond.methodLink RX10 312 yX10_takesLaw ∈ am_WL := am_t6 146 (by decide +kernel) rfl
theorem ln_RX10_315 : Cond.methodLink RX10 315 yX10_takesOther ∈ am_WL := am_t6 150 (by decide +kernel) rfl
theorem ln_RX10_318 : Cond.methodLink RX10 318 yX10_twoOf ∈ am_WL := am_t6 230 (by decide +kernel) rfl
theorem ln_RX10_321 : Cond.methodLink RX10 321 yX10_runs ∈ am_WL := am_t6 226 (by decide +kernel) rfl
theorem ln_RX10_324 : Cond.methodLink RX10 324 yX10_lineOf ∈ am_WL := am_t6 222 (by decide +kernel) rfl
theorem ln_RX10_327 : Cond.methodLink RX10 327 yX10_held ∈ am_WL := am_t6 234 (by decide +kernel) rfl
theorem ln_RX10_330 : Cond.methodLink RX10 330 yX10_asks ∈ am_WL := am_t6 214 (by decide +kernel) rfl
theorem ln_RX10_333 : Cond.methodLink RX10 333 yX10_lawTells ∈ am_WL := am_t6 218 (by decide +kernel) rfl
theorem ln_RX10_336 : Cond.methodLink RX10 336 yX10_has ∈ am_WL := am_t6 186 (by decide +kernel) rfl
theorem ln_RX10_340 : Cond.methodLink RX10 340 yX10_isGivenUp ∈ am_WL := am_t6 174 (by decide +kernel) rfl
theorem ln_RX10_343 : Cond.methodLink RX10 343 yX10_notes ∈ am_WL := am_t6 178 (by decide +kernel) rfl
theorem ln_RX10_347 : Cond.methodLink RX10 347 yX10_hasNeeds ∈ am_WL := am_t6 182 (by decide +kernel) rfl
theorem ln_RX10_350 : Cond.methodLink RX10 350 yX10_lesser ∈ am_WL := am_t6 190 (by decide +kernel) rfl
theorem ln_RX10_353 : Cond.methodLink RX10 353 yX10_canAct ∈ am_WL := am_t6 162 (by decide +kernel) rfl
theorem ln_RX10_356 : Cond.methodLink RX10 356 yX10_keepsAhead ∈ am_WL := am_t6 166 (by decide +kernel) rfl
theorem ln_RX10_359 : Cond.methodLink RX10 359 yX10_marches ∈ am_WL := am_t6 170 (by decide +kernel) rfl
theorem ln_RX10_362 : Cond.methodLink RX10 362 yX10_draw ∈ am_WL := am_t7 18 (by decide +kernel) rfl
theorem ln_RX10_365 : Cond.methodLink RX10 365 yX10_pressesOf ∈ am_WL := am_t6 210 (by decide +kernel) rfl
theorem ln_RX10_368 : Cond.methodLink RX10 368 yX10_greater ∈ am_WL := am_t6 238 (by decide +kernel) rfl
theorem ln_RX10_371 : Cond.methodLink RX10 371 yX10_restsOf ∈ am_WL := am_t7 6 (by decide +kernel) rfl
theorem ln_RX10_374 : Cond.methodLink RX10 374 yX10_readsOf ∈ am_WL := am_t7 10 (by decide +kernel) rfl
theorem ln_RX10_377 : Cond.methodLink RX10 377 yX10_happens ∈ am_WL := am_t7 14 (by decide +kernel) rfl
theorem ln_RX10_380 : Cond.methodLink RX10 380 yX10_does ∈ am_WL := am_t6 202 (by decide +kernel) rfl
theorem ln_RX10_383 : Cond.methodLink RX10 383 yX10_presses ∈ am_WL := am_t6 206 (by decide +kernel) rfl
theorem ln_RX10_386 : Cond.methodLink RX10 386 yX10_sleeps ∈ am_WL := am_t7 2 (by decide +kernel) rfl
theorem ln_RX10_389 : Cond.methodLink RX10 389 yX10_goesBy ∈ am_WL := am_t6 198 (by decide +kernel) rfl
theorem ln_RX10_392 : Cond.methodLink RX10 392 yX10_canComeOn ∈ am_WL := am_t7 28 (by decide +kernel) rfl
theorem ln_RX10_395 : Cond.methodLink RX10 395 yX10_thinks ∈ am_WL := am_t7 44 (by decide +kernel) rfl
theorem ln_RX10_398 : Cond.methodLink RX10 398 yX10_sumOf ∈ am_WL := am_t7 48 (by decide +kernel) rfl
theorem ln_RX10_401 : Cond.methodLink RX10 401 yX10_endsThought ∈ am_WL := am_t7 52 (by decide +kernel) rfl
theorem ln_RX10_404 : Cond.methodLink RX10 404 yX10_digitOf ∈ am_WL := am_t7 68 (by decide +kernel) rfl
theorem ln_RX10_410 : Cond.methodLink RX10 410 yX10_isWordOfNight ∈ am_WL := am_t7 64 (by decide +kernel) rfl
theorem ln_RX10_413 : Cond.methodLink RX10 413 yX10_manyOf ∈ am_WL := am_t7 80 (by decide +kernel) rfl
theorem ln_RX10_416 : Cond.methodLink RX10 416 yX10_rightOf ∈ am_WL := am_t7 84 (by decide +kernel) rfl
theorem ln_RX10_419 : Cond.methodLink RX10 419 yX10_doesFit ∈ am_WL := am_t7 76 (by decide +kernel) rfl
theorem ln_RX10_422 : Cond.methodLink RX10 422 yX10_chosen ∈ am_WL := am_t7 104 (by decide +kernel) rfl
theorem ln_RX10_425 : Cond.methodLink RX10 425 yX10_common ∈ am_WL := am_t7 112 (by decide +kernel) rfl
theorem ln_RX10_428 : Cond.methodLink RX10 428 yX10_squares ∈ am_WL := am_t7 129 (by decide +kernel) rfl
theorem ln_RX10_432 : Cond.methodLink RX10 432 yX10_stepsToEnd ∈ am_WL := am_t7 125 (by decide +kernel) rfl
theorem ln_RX10_435 : Cond.methodLink RX10 435 yX10_isHappy ∈ am_WL := am_t7 133 (by decide +kernel) rfl
theorem ln_RX10_438 : Cond.methodLink RX10 438 yX10_railOf ∈ am_WL := am_t7 149 (by decide +kernel) rfl
theorem ln_RX10_441 : Cond.methodLink RX10 441 yX10_byRails ∈ am_WL := am_t7 145 (by decide +kernel) rfl
theorem ln_RX10_447 : Cond.methodLink RX10 447 yX10_cutPieces ∈ am_WL := am_t7 161 (by decide +kernel) rfl
theorem ln_RX10_450 : Cond.methodLink RX10 450 yX10_readsAlike ∈ am_WL := am_t7 165 (by decide +kernel) rfl
theorem ln_RX10_456 : Cond.methodLink RX10 456 yX10_doStand ∈ am_WL := am_t7 177 (by decide +kernel) rfl
theorem ln_RX10_462 : Cond.methodLink RX10 462 yX10_nextCorner ∈ am_WL := am_t7 193 (by decide +kernel) rfl
theorem ln_RX10_465 : Cond.methodLink RX10 465 yX10_sideOf ∈ am_WL := am_t7 197 (by decide +kernel) rfl
theorem ln_RX10_468 : Cond.methodLink RX10 468 yX10_isOnEdge ∈ am_WL := am_t7 189 (by decide +kernel) rfl
theorem ln_RX10_471 : Cond.methodLink RX10 471 yX10_isMet ∈ am_WL := am_t7 201 (by decide +kernel) rfl
theorem ln_RX10_474 : Cond.methodLink RX10 474 yX10_isWellSet ∈ am_WL := am_t7 217 (by decide +kernel) rfl
theorem ln_RX10_483 : Cond.methodLink RX10 483 yX10_keeps ∈ am_WL := am_t7 229 (by decide +kernel) rfl
theorem ln_RX10_489 : Cond.methodLink RX10 489 yX10_keepsTold ∈ am_WL := am_t7 233 (by decide +kernel) rfl
theorem ln_RX10_492 : Cond.methodLink RX10 492 yX10_keepsLaw ∈ am_WL := am_t7 237 (by decide +kernel) rfl
theorem ln_RX10_495 : Cond.methodLink RX10 495 yX10_readSet ∈ am_WL := am_t8 5 (by decide +kernel) rfl
theorem mm_yX0_addBatman : am_MV yX0_addBatman cX0_addBatman 4 (some .int) 2 := ⟨⟨⟨am_t1 3 (by decide +kernel) rfl, am_t2 94 (by decide +kernel) rfl⟩, by decide +kernel, by decide⟩, am_t2 92 (by decide +kernel) rfl, am_t2 93 (by decide +kernel) rfl⟩
theorem mm_yX0_addOfficer : am_MV yX0_addOfficer cX0_addOfficer 4 (some .int) 2 := ⟨⟨⟨am_t1 3 (by decide +kernel) rfl, am_t2 86 (by decide +kernel) rfl⟩, by decide +kernel, by decide⟩, am_t2 84 (by decide +kernel) rfl, am_t2 85 (by decide +kernel) rfl⟩
theorem mm_yX0_copyFrom : am_MV yX0_copyFrom cX0_copyFrom 2 none 1 := ⟨⟨⟨am_t1 3 (by decide +kernel) rfl, am_t2 137 (by decide +kernel) rfl⟩, by decide +kernel, by decide⟩, am_t2 135 (by decide +kernel) rfl, am_t2 136 (by decide +kernel) rfl⟩
theorem mm_yX0_draw : am_MV yX0_draw cX0_draw 2 (some .int) 1 := ⟨⟨⟨am_t1 3 (by decide +kernel) rfl, am_t2 237 (by decide +kernel) rfl⟩, by decide +kernel, by decide⟩, am_t2 235 (by decide +kernel) rfl, am_t2 236 (by decide +kernel) rfl⟩
theorem mm_yX0_hasBatman : am_MV yX0_hasBatman cX0_hasBatman 2 (some .boolean) 1 := ⟨⟨⟨am_t1 3 (by decide +kernel) rfl, am_t2 114 (by decide +kernel) rfl⟩, by decide +kernel, by decide⟩, am_t2 112 (by decide +kernel) rfl, am_t2 113 (by decide +kernel) rfl⟩
theorem mm_yX0_hasOfficer : am_MV yX0_hasOfficer cX0_hasOfficer 2 (some .boolean) 1 := ⟨⟨⟨am_t1 3 (by decide +kernel) rfl, am_t2 106 (by decide +kernel) rfl⟩, by decide +kernel, by decide⟩, am_t2 104 (by decide +kernel) rfl, am_t2 105 (by decide +kernel) rfl⟩
theorem mm_yX0_hasTen : am_MV yX0_hasTen cX0_hasTen 2 (some .boolean) 1 := ⟨⟨⟨am_t1 3 (by decide +kernel) rfl, am_t2 176 (by decide +kernel) rfl⟩, by decide +kernel, by decide⟩, am_t2 174 (by decide +kernel) rfl, am_t2 175 (by decide +kernel) rfl⟩
theorem mm_yX0_mustGiveUp : am_MV yX0_mustGiveUp cX0_mustGiveUp 2 (some .boolean) 1 := ⟨⟨⟨am_t1 3 (by decide +kernel) rfl, am_t2 156 (by decide +kernel) rfl⟩, by decide +kernel, by decide⟩, am_t2 154 (by decide +kernel) rfl, am_t2 155 (by decide +kernel) rfl⟩
theorem mm_yX0_putBatman : am_MV yX0_putBatman cX0_putBatman 5 (some .boolean) 3 := ⟨⟨⟨am_t1 3 (by decide +kernel) rfl, am_t2 110 (by decide +kernel) rfl⟩, by decide +kernel, by decide⟩, am_t2 108 (by decide +kernel) rfl, am_t2 109 (by decide +kernel) rfl⟩
theorem mm_yX0_putLine : am_MV yX0_putLine cX0_putLine 2 (some .boolean) 1 := ⟨⟨⟨am_t1 3 (by decide +kernel) rfl, am_t2 118 (by decide +kernel) rfl⟩, by decide +kernel, by decide⟩, am_t2 116 (by decide +kernel) rfl, am_t2 117 (by decide +kernel) rfl⟩
theorem mm_yX0_putOfficer : am_MV yX0_putOfficer cX0_putOfficer 5 (some .boolean) 3 := ⟨⟨⟨am_t1 3 (by decide +kernel) rfl, am_t2 102 (by decide +kernel) rfl⟩, by decide +kernel, by decide⟩, am_t2 100 (by decide +kernel) rfl, am_t2 101 (by decide +kernel) rfl⟩
theorem mm_yX0_total : am_MV yX0_total cX0_total 4 (some .int) 1 := ⟨⟨⟨am_t1 3 (by decide +kernel) rfl, am_t3 233 (by decide +kernel) rfl⟩, by decide +kernel, by decide⟩, am_t3 231 (by decide +kernel) rfl, am_t3 232 (by decide +kernel) rfl⟩
theorem mm_yX0_value : am_MV yX0_value cX0_value 4 (some .int) 3 := ⟨⟨⟨am_t1 3 (by decide +kernel) rfl, am_t2 214 (by decide +kernel) rfl⟩, by decide +kernel, by decide⟩, am_t2 212 (by decide +kernel) rfl, am_t2 213 (by decide +kernel) rfl⟩
theorem mm_yX0_whoIsRead : am_MV yX0_whoIsRead cX0_whoIsRead 3 (some .int) 0 := ⟨⟨⟨am_t1 3 (by decide +kernel) rfl, am_t3 223 (by decide +kernel) rfl⟩, by decide +kernel, by decide⟩, am_t3 221 (by decide +kernel) rfl, am_t3 222 (by decide +kernel) rfl⟩
theorem mm_yX1_clear : am_MV yX1_clear cX1_clear 1 none 0 := ⟨⟨⟨am_t1 6 (by decide +kernel) rfl, am_t3 91 (by decide +kernel) rfl⟩, by decide +kernel, by decide⟩, am_t3 89 (by decide +kernel) rfl, am_t3 90 (by decide +kernel) rfl⟩
theorem mm_yX1_copyFrom : am_MV yX1_copyFrom cX1_copyFrom 2 none 1 := ⟨⟨⟨am_t1 6 (by decide +kernel) rfl, am_t3 152 (by decide +kernel) rfl⟩, by decide +kernel, by decide⟩, am_t3 150 (by decide +kernel) rfl, am_t3 151 (by decide +kernel) rfl⟩
theorem mm_yX1_held : am_MS yX1_held cX1_held 3 (some .int) 2 := ⟨⟨⟨am_t1 6 (by decide +kernel) rfl, am_t2 223 (by decide +kernel) rfl⟩, by decide +kernel, by decide⟩, am_t2 222 (by decide +kernel) rfl⟩
theorem mm_yX1_joined : am_MS yX1_joined cX1_joined 3 (some .int) 3 := ⟨⟨⟨am_t1 6 (by decide +kernel) rfl, am_t2 220 (by decide +kernel) rfl⟩, by decide +kernel, by decide⟩, am_t2 219 (by decide +kernel) rfl⟩
theorem mm_yX1_quotient : am_MS yX1_quotient cX1_quotient 2 (some .int) 2 := ⟨⟨⟨am_t1 6 (by decide +kernel) rfl, am_t2 217 (by decide +kernel) rfl⟩, by decide +kernel, by decide⟩, am_t2 216 (by decide +kernel) rfl⟩
theorem mm_yX1_run : am_MV yX1_run cX1_run 10 (some .int) 5 := ⟨⟨⟨am_t1 6 (by decide +kernel) rfl, am_t2 210 (by decide +kernel) rfl⟩, by decide +kernel, by decide⟩, am_t2 209 (by decide +kernel) rfl, am_tp 5 (by decide +kernel) rfl⟩
theorem mm_yX1_tells : am_MV yX1_tells cX1_tells 9 (some .int) 4 := ⟨⟨⟨am_t1 6 (by decide +kernel) rfl, am_t2 205 (by decide +kernel) rfl⟩, by decide +kernel, by decide⟩, am_t2 203 (by decide +kernel) rfl, am_t2 204 (by decide +kernel) rfl⟩
theorem mm_yX1_untold : am_MS yX1_untold cX1_untold 5 (some .int) 4 := ⟨⟨⟨am_t1 6 (by decide +kernel) rfl, am_t2 228 (by decide +kernel) rfl⟩, by decide +kernel, by decide⟩, am_t2 227 (by decide +kernel) rfl⟩
theorem mm_yX2_byRails : am_MS yX2_byRails cX2_byRails 6 (some .int) 3 := ⟨⟨⟨am_t1 14 (by decide +kernel) rfl, am_t4 41 (by decide +kernel) rfl⟩, by decide +kernel, by decide⟩, am_t4 40 (by decide +kernel) rfl⟩
theorem mm_yX2_common : am_MS yX2_common cX2_common 4 (some .int) 2 := ⟨⟨⟨am_t1 14 (by decide +kernel) rfl, am_t4 23 (by decide +kernel) rfl⟩, by decide +kernel, by decide⟩, am_t4 22 (by decide +kernel) rfl⟩
theorem mm_yX2_firstAlike : am_MS yX2_firstAlike cX2_firstAlike 3 (some .int) 2 := ⟨⟨⟨am_t1 14 (by decide +kernel) rfl, am_t4 64 (by decide +kernel) rfl⟩, by decide +kernel, by decide⟩, am_t4 63 (by decide +kernel) rfl⟩
theorem mm_yX2_fits : am_MS yX2_fits cX2_fits 5 (some .boolean) 2 := ⟨⟨⟨am_t1 14 (by decide +kernel) rfl, am_t4 16 (by decide +kernel) rfl⟩, by decide +kernel, by decide⟩, am_t4 15 (by decide +kernel) rfl⟩
theorem mm_yX2_isWord : am_MS yX2_isWord cX2_isWord 1 (some .boolean) 1 := ⟨⟨⟨am_t1 14 (by decide +kernel) rfl, am_t4 5 (by decide +kernel) rfl⟩, by decide +kernel, by decide⟩, am_t4 4 (by decide +kernel) rfl⟩
theorem mm_yX2_rail : am_MS yX2_rail cX2_rail 4 (some .int) 2 := ⟨⟨⟨am_t1 14 (by decide +kernel) rfl, am_t4 44 (by decide +kernel) rfl⟩, by decide +kernel, by decide⟩, am_t4 43 (by decide +kernel) rfl⟩
theorem mm_yX2_readsAlike : am_MS yX2_readsAlike cX2_readsAlike 4 (some .boolean) 3 := ⟨⟨⟨am_t1 14 (by decide +kernel) rfl, am_t4 67 (by decide +kernel) rfl⟩, by decide +kernel, by decide⟩, am_t4 66 (by decide +kernel) rfl⟩
theorem mm_yX2_right : am_MS yX2_right cX2_right 4 (some .int) 2 := ⟨⟨⟨am_t1 14 (by decide +kernel) rfl, am_t4 20 (by decide +kernel) rfl⟩, by decide +kernel, by decide⟩, am_t4 19 (by decide +kernel) rfl⟩
theorem mm_yX2_stand : am_MS yX2_stand cX2_stand 13 (some .int) 6 := ⟨⟨⟨am_t1 14 (by decide +kernel) rfl, am_t4 84 (by decide +kernel) rfl⟩, by decide +kernel, by decide⟩, am_t4 83 (by decide +kernel) rfl⟩
theorem mm_yX2_times : am_MS yX2_times cX2_times 4 (some .int) 2 := ⟨⟨⟨am_t1 14 (by decide +kernel) rfl, am_t4 26 (by decide +kernel) rfl⟩, by decide +kernel, by decide⟩, am_t4 25 (by decide +kernel) rfl⟩
theorem mm_yX2_toldOn : am_MS yX2_toldOn cX2_toldOn 5 (some .int) 3 := ⟨⟨⟨am_t1 14 (by decide +kernel) rfl, am_t4 87 (by decide +kernel) rfl⟩, by decide +kernel, by decide⟩, am_t4 86 (by decide +kernel) rfl⟩
theorem mm_yX2_word : am_MS yX2_word cX2_word 1 (some .int) 1 := ⟨⟨⟨am_t1 14 (by decide +kernel) rfl, am_t4 13 (by decide +kernel) rfl⟩, by decide +kernel, by decide⟩, am_t4 12 (by decide +kernel) rfl⟩
theorem mm_yX3_forget : am_MV yX3_forget cX3_forget 1 none 0 := ⟨⟨⟨am_t1 7 (by decide +kernel) rfl, am_t2 78 (by decide +kernel) rfl⟩, by decide +kernel, by decide⟩, am_t2 76 (by decide +kernel) rfl, am_t2 77 (by decide +kernel) rfl⟩
theorem mm_yX3_goBack : am_MV yX3_goBack cX3_goBack 3 (some .boolean) 1 := ⟨⟨⟨am_t1 7 (by decide +kernel) rfl, am_t4 226 (by decide +kernel) rfl⟩, by decide +kernel, by decide⟩, am_t4 224 (by decide +kernel) rfl, am_t4 225 (by decide +kernel) rfl⟩
theorem mm_yX3_keep : am_MV yX3_keep cX3_keep 4 none 2 := ⟨⟨⟨am_t1 7 (by decide +kernel) rfl, am_t2 132 (by decide +kernel) rfl⟩, by decide +kernel, by decide⟩, am_t2 130 (by decide +kernel) rfl, am_t2 131 (by decide +kernel) rfl⟩
theorem mm_yX4_behind : am_MV yX4_behind cX4_behind 4 (some .int) 2 := ⟨⟨⟨am_t1 8 (by decide +kernel) rfl, am_t3 30 (by decide +kernel) rfl⟩, by decide +kernel, by decide⟩, am_t3 29 (by decide +kernel) rfl, am_tp 8 (by decide +kernel) rfl⟩
theorem mm_yX4_canNeed : am_MS yX4_canNeed cX4_canNeed 3 (some .boolean) 3 := ⟨⟨⟨am_t1 8 (by decide +kernel) rfl, am_t3 183 (by decide +kernel) rfl⟩, by decide +kernel, by decide⟩, am_t3 182 (by decide +kernel) rfl⟩
theorem mm_yX4_canServe : am_MS yX4_canServe cX4_canServe 3 (some .boolean) 3 := ⟨⟨⟨am_t1 8 (by decide +kernel) rfl, am_t3 178 (by decide +kernel) rfl⟩, by decide +kernel, by decide⟩, am_t3 177 (by decide +kernel) rfl⟩
theorem mm_yX4_comparison : am_MV yX4_comparison cX4_comparison 5 (some .boolean) 1 := ⟨⟨⟨am_t1 8 (by decide +kernel) rfl, am_t3 144 (by decide +kernel) rfl⟩, by decide +kernel, by decide⟩, am_t3 143 (by decide +kernel) rfl, am_tp 21 (by decide +kernel) rfl⟩
theorem mm_yX4_condition : am_MV yX4_condition cX4_condition 5 (some .boolean) 1 := ⟨⟨⟨am_t1 8 (by decide +kernel) rfl, am_t3 140 (by decide +kernel) rfl⟩, by decide +kernel, by decide⟩, am_t3 139 (by decide +kernel) rfl, am_tp 20 (by decide +kernel) rfl⟩
theorem mm_yX4_cut : am_MV yX4_cut cX4_cut 6 none 0 := ⟨⟨⟨am_t1 8 (by decide +kernel) rfl, am_t3 19 (by decide +kernel) rfl⟩, by decide +kernel, by decide⟩, am_t3 17 (by decide +kernel) rfl, am_t3 18 (by decide +kernel) rfl⟩
theorem mm_yX4_fail : am_MV yX4_fail cX4_fail 3 (some .boolean) 2 := ⟨⟨⟨am_t1 8 (by decide +kernel) rfl, am_t3 111 (by decide +kernel) rfl⟩, by decide +kernel, by decide⟩, am_t3 110 (by decide +kernel) rfl, am_tp 13 (by decide +kernel) rfl⟩
theorem mm_yX4_isSign : am_MV yX4_isSign cX4_isSign 2 (some .boolean) 1 := ⟨⟨⟨am_t1 8 (by decide +kernel) rfl, am_t3 128 (by decide +kernel) rfl⟩, by decide +kernel, by decide⟩, am_t3 127 (by decide +kernel) rfl, am_tp 17 (by decide +kernel) rfl⟩
theorem mm_yX4_isWord : am_MV yX4_isWord cX4_isWord 2 (some .boolean) 1 := ⟨⟨⟨am_t1 8 (by decide +kernel) rfl, am_t3 136 (by decide +kernel) rfl⟩, by decide +kernel, by decide⟩, am_t3 135 (by decide +kernel) rfl, am_tp 19 (by decide +kernel) rfl⟩
theorem mm_yX4_keyword : am_MV yX4_keyword cX4_keyword 8 (some .int) 1 := ⟨⟨⟨am_t1 8 (by decide +kernel) rfl, am_t3 26 (by decide +kernel) rfl⟩, by decide +kernel, by decide⟩, am_t3 25 (by decide +kernel) rfl, am_tp 7 (by decide +kernel) rfl⟩
theorem mm_yX4_kind : am_MV yX4_kind cX4_kind 1 (some .int) 0 := ⟨⟨⟨am_t1 8 (by decide +kernel) rfl, am_t3 99 (by decide +kernel) rfl⟩, by decide +kernel, by decide⟩, am_t3 98 (by decide +kernel) rfl, am_tp 10 (by decide +kernel) rfl⟩
theorem mm_yX4_kindOf : am_MS yX4_kindOf cX4_kindOf 1 (some .int) 1 := ⟨⟨⟨am_t1 8 (by decide +kernel) rfl, am_t3 22 (by decide +kernel) rfl⟩, by decide +kernel, by decide⟩, am_t3 21 (by decide +kernel) rfl⟩
theorem mm_yX4_number : am_MV yX4_number cX4_number 5 (some .int) 1 := ⟨⟨⟨am_t1 8 (by decide +kernel) rfl, am_t3 83 (by decide +kernel) rfl⟩, by decide +kernel, by decide⟩, am_t3 82 (by decide +kernel) rfl, am_tp 9 (by decide +kernel) rfl⟩
theorem mm_yX4_opens : am_MV yX4_opens cX4_opens 4 (some .boolean) 3 := ⟨⟨⟨am_t1 8 (by decide +kernel) rfl, am_t3 103 (by decide +kernel) rfl⟩, by decide +kernel, by decide⟩, am_t3 102 (by decide +kernel) rfl, am_tp 11 (by decide +kernel) rfl⟩
theorem mm_yX4_product : am_MV yX4_product cX4_product 2 (some .boolean) 0 := ⟨⟨⟨am_t1 8 (by decide +kernel) rfl, am_t3 119 (by decide +kernel) rfl⟩, by decide +kernel, by decide⟩, am_t3 118 (by decide +kernel) rfl, am_tp 15 (by decide +kernel) rfl⟩
theorem mm_yX4_put : am_MV yX4_put cX4_put 3 none 1 := ⟨⟨⟨am_t1 8 (by decide +kernel) rfl, am_t3 7 (by decide +kernel) rfl⟩, by decide +kernel, by decide⟩, am_t3 5 (by decide +kernel) rfl, am_t3 6 (by decide +kernel) rfl⟩
theorem mm_yX4_readCouples : am_MV yX4_readCouples cX4_readCouples 5 (some .boolean) 2 := ⟨⟨⟨am_t1 8 (by decide +kernel) rfl, am_t3 171 (by decide +kernel) rfl⟩, by decide +kernel, by decide⟩, am_t3 169 (by decide +kernel) rfl, am_t3 170 (by decide +kernel) rfl⟩
theorem mm_yX4_readLaw : am_MV yX4_readLaw cX4_readLaw 5 (some .boolean) 0 := ⟨⟨⟨am_t1 8 (by decide +kernel) rfl, am_t3 87 (by decide +kernel) rfl⟩, by decide +kernel, by decide⟩, am_t3 85 (by decide +kernel) rfl, am_t3 86 (by decide +kernel) rfl⟩
theorem mm_yX4_readOrders : am_MV yX4_readOrders cX4_readOrders 7 (some .boolean) 1 := ⟨⟨⟨am_t1 8 (by decide +kernel) rfl, am_t3 161 (by decide +kernel) rfl⟩, by decide +kernel, by decide⟩, am_t3 159 (by decide +kernel) rfl, am_t3 160 (by decide +kernel) rfl⟩
theorem mm_yX4_sign : am_MV yX4_sign cX4_sign 2 (some .boolean) 1 := ⟨⟨⟨am_t1 8 (by decide +kernel) rfl, am_t3 148 (by decide +kernel) rfl⟩, by decide +kernel, by decide⟩, am_t3 147 (by decide +kernel) rfl, am_tp 22 (by decide +kernel) rfl⟩
theorem mm_yX4_sum : am_MV yX4_sum cX4_sum 3 (some .boolean) 0 := ⟨⟨⟨am_t1 8 (by decide +kernel) rfl, am_t3 115 (by decide +kernel) rfl⟩, by decide +kernel, by decide⟩, am_t3 114 (by decide +kernel) rfl, am_tp 14 (by decide +kernel) rfl⟩
theorem mm_yX4_takes : am_MV yX4_takes cX4_takes 3 (some .boolean) 2 := ⟨⟨⟨am_t1 8 (by decide +kernel) rfl, am_t3 132 (by decide +kernel) rfl⟩, by decide +kernel, by decide⟩, am_t3 131 (by decide +kernel) rfl, am_tp 18 (by decide +kernel) rfl⟩
theorem mm_yX4_unit : am_MV yX4_unit cX4_unit 3 (some .boolean) 0 := ⟨⟨⟨am_t1 8 (by decide +kernel) rfl, am_t3 123 (by decide +kernel) rfl⟩, by decide +kernel, by decide⟩, am_t3 122 (by decide +kernel) rfl, am_tp 16 (by decide +kernel) rfl⟩
theorem mm_yX4_value : am_MV yX4_value cX4_value 1 (some .int) 0 := ⟨⟨⟨am_t1 8 (by decide +kernel) rfl, am_t3 107 (by decide +kernel) rfl⟩, by decide +kernel, by decide⟩, am_t3 106 (by decide +kernel) rfl, am_tp 12 (by decide +kernel) rfl⟩
theorem mm_yX4_word : am_MV yX4_word cX4_word 2 (some .boolean) 1 := ⟨⟨⟨am_t1 8 (by decide +kernel) rfl, am_t3 175 (by decide +kernel) rfl⟩, by decide +kernel, by decide⟩, am_t3 174 (by decide +kernel) rfl, am_tp 24 (by decide +kernel) rfl⟩
theorem mm_yX5_bracketPlace : am_MS yX5_bracketPlace cX5_bracketPlace 6 (some .int) 2 := ⟨⟨⟨am_t1 15 (by decide +kernel) rfl, am_t4 208 (by decide +kernel) rfl⟩, by decide +kernel, by decide⟩, am_t4 207 (by decide +kernel) rfl⟩
theorem mm_yX5_bracketRow : am_MS yX5_bracketRow cX5_bracketRow 8 (some .int) 2 := ⟨⟨⟨am_t1 15 (by decide +kernel) rfl, am_t4 204 (by decide +kernel) rfl⟩, by decide +kernel, by decide⟩, am_t4 203 (by decide +kernel) rfl⟩
theorem mm_yX5_choose : am_MS yX5_choose cX5_choose 5 (some .int) 2 := ⟨⟨⟨am_t1 15 (by decide +kernel) rfl, am_t4 150 (by decide +kernel) rfl⟩, by decide +kernel, by decide⟩, am_t4 149 (by decide +kernel) rfl⟩
theorem mm_yX5_closings : am_MS yX5_closings cX5_closings 3 (some .int) 2 := ⟨⟨⟨am_t1 15 (by decide +kernel) rfl, am_t4 200 (by decide +kernel) rfl⟩, by decide +kernel, by decide⟩, am_t4 199 (by decide +kernel) rfl⟩
theorem mm_yX5_commonPart : am_MS yX5_commonPart cX5_commonPart 3 (some .int) 2 := ⟨⟨⟨am_t1 15 (by decide +kernel) rfl, am_t4 160 (by decide +kernel) rfl⟩, by decide +kernel, by decide⟩, am_t4 159 (by decide +kernel) rfl⟩
theorem mm_yX5_digitSquares : am_MS yX5_digitSquares cX5_digitSquares 3 (some .int) 1 := ⟨⟨⟨am_t1 15 (by decide +kernel) rfl, am_t4 179 (by decide +kernel) rfl⟩, by decide +kernel, by decide⟩, am_t4 178 (by decide +kernel) rfl⟩
theorem mm_yX5_feastDay : am_MS yX5_feastDay cX5_feastDay 13 (some .int) 1 := ⟨⟨⟨am_t1 15 (by decide +kernel) rfl, am_t4 168 (by decide +kernel) rfl⟩, by decide +kernel, by decide⟩, am_t4 167 (by decide +kernel) rfl⟩
theorem mm_yX5_greatestWithin : am_MS yX5_greatestWithin cX5_greatestWithin 5 (some .int) 1 := ⟨⟨⟨am_t1 15 (by decide +kernel) rfl, am_t4 218 (by decide +kernel) rfl⟩, by decide +kernel, by decide⟩, am_t4 217 (by decide +kernel) rfl⟩
theorem mm_yX5_happyEnd : am_MS yX5_happyEnd cX5_happyEnd 3 (some .int) 1 := ⟨⟨⟨am_t1 15 (by decide +kernel) rfl, am_t4 176 (by decide +kernel) rfl⟩, by decide +kernel, by decide⟩, am_t4 175 (by decide +kernel) rfl⟩
theorem mm_yX5_happySteps : am_MS yX5_happySteps cX5_happySteps 3 (some .int) 1 := ⟨⟨⟨am_t1 15 (by decide +kernel) rfl, am_t4 182 (by decide +kernel) rfl⟩, by decide +kernel, by decide⟩, am_t4 181 (by decide +kernel) rfl⟩
theorem mm_yX5_happyUpTo : am_MS yX5_happyUpTo cX5_happyUpTo 3 (some .int) 1 := ⟨⟨⟨am_t1 15 (by decide +kernel) rfl, am_t4 185 (by decide +kernel) rfl⟩, by decide +kernel, by decide⟩, am_t4 184 (by decide +kernel) rfl⟩
theorem mm_yX5_housed : am_MS yX5_housed cX5_housed 2 (some .int) 2 := ⟨⟨⟨am_t1 15 (by decide +kernel) rfl, am_t4 142 (by decide +kernel) rfl⟩, by decide +kernel, by decide⟩, am_t4 141 (by decide +kernel) rfl⟩
theorem mm_yX5_leastPart : am_MS yX5_leastPart cX5_leastPart 4 (some .int) 1 := ⟨⟨⟨am_t1 15 (by decide +kernel) rfl, am_t4 215 (by decide +kernel) rfl⟩, by decide +kernel, by decide⟩, am_t4 214 (by decide +kernel) rfl⟩
theorem mm_yX5_movesFrom : am_MS yX5_movesFrom cX5_movesFrom 7 (some .int) 2 := ⟨⟨⟨am_t1 15 (by decide +kernel) rfl, am_t4 135 (by decide +kernel) rfl⟩, by decide +kernel, by decide⟩, am_t4 134 (by decide +kernel) rfl⟩
theorem mm_yX5_movesLeft : am_MS yX5_movesLeft cX5_movesLeft 4 (some .int) 1 := ⟨⟨⟨am_t1 15 (by decide +kernel) rfl, am_t4 130 (by decide +kernel) rfl⟩, by decide +kernel, by decide⟩, am_t4 129 (by decide +kernel) rfl⟩
theorem mm_yX5_noneHisOwn : am_MS yX5_noneHisOwn cX5_noneHisOwn 3 (some .int) 1 := ⟨⟨⟨am_t1 15 (by decide +kernel) rfl, am_t4 153 (by decide +kernel) rfl⟩, by decide +kernel, by decide⟩, am_t4 152 (by decide +kernel) rfl⟩
theorem mm_yX5_ofPrimes : am_MS yX5_ofPrimes cX5_ofPrimes 10 (some .int) 2 := ⟨⟨⟨am_t1 15 (by decide +kernel) rfl, am_t4 193 (by decide +kernel) rfl⟩, by decide +kernel, by decide⟩, am_t4 192 (by decide +kernel) rfl⟩
theorem mm_yX5_peg : am_MS yX5_peg cX5_peg 7 (some .int) 3 := ⟨⟨⟨am_t1 15 (by decide +kernel) rfl, am_t4 123 (by decide +kernel) rfl⟩, by decide +kernel, by decide⟩, am_t4 122 (by decide +kernel) rfl⟩
theorem mm_yX6_add : am_MV yX6_add cX6_add 7 (some .int) 4 := ⟨⟨⟨am_t1 4 (by decide +kernel) rfl, am_t2 164 (by decide +kernel) rfl⟩, by decide +kernel, by decide⟩, am_t2 162 (by decide +kernel) rfl, am_t2 163 (by decide +kernel) rfl⟩
theorem mm_yX6_at : am_MV yX6_at cX6_at 4 (some .int) 2 := ⟨⟨⟨am_t1 4 (by decide +kernel) rfl, am_t2 172 (by decide +kernel) rfl⟩, by decide +kernel, by decide⟩, am_t2 170 (by decide +kernel) rfl, am_t2 171 (by decide +kernel) rfl⟩
theorem mm_yX6_clear : am_MV yX6_clear cX6_clear 1 (some .int) 0 := ⟨⟨⟨am_t1 4 (by decide +kernel) rfl, am_t3 95 (by decide +kernel) rfl⟩, by decide +kernel, by decide⟩, am_t3 93 (by decide +kernel) rfl, am_t3 94 (by decide +kernel) rfl⟩
theorem mm_yX6_copyFrom : am_MV yX6_copyFrom cX6_copyFrom 2 none 1 := ⟨⟨⟨am_t1 4 (by decide +kernel) rfl, am_t3 156 (by decide +kernel) rfl⟩, by decide +kernel, by decide⟩, am_t3 154 (by decide +kernel) rfl, am_t3 155 (by decide +kernel) rfl⟩
theorem mm_yX6_has : am_MV yX6_has cX6_has 4 (some .boolean) 2 := ⟨⟨⟨am_t1 4 (by decide +kernel) rfl, am_t4 76 (by decide +kernel) rfl⟩, by decide +kernel, by decide⟩, am_t4 74 (by decide +kernel) rfl, am_t4 75 (by decide +kernel) rfl⟩
theorem mm_yX6_keepFirst : am_MV yX6_keepFirst cX6_keepFirst 2 none 1 := ⟨⟨⟨am_t1 4 (by decide +kernel) rfl, am_t4 230 (by decide +kernel) rfl⟩, by decide +kernel, by decide⟩, am_t4 228 (by decide +kernel) rfl, am_t4 229 (by decide +kernel) rfl⟩
theorem mm_yX7_asks : am_MV yX7_asks cX7_asks 4 (some .int) 3 := ⟨⟨⟨am_t1 2 (by decide +kernel) rfl, am_t2 197 (by decide +kernel) rfl⟩, by decide +kernel, by decide⟩, am_t2 195 (by decide +kernel) rfl, am_t2 196 (by decide +kernel) rfl⟩
theorem mm_yX7_batmanOf : am_MV yX7_batmanOf cX7_batmanOf 3 (some .int) 1 := ⟨⟨⟨am_t1 2 (by decide +kernel) rfl, am_t2 201 (by decide +kernel) rfl⟩, by decide +kernel, by decide⟩, am_t2 199 (by decide +kernel) rfl, am_t2 200 (by decide +kernel) rfl⟩
theorem mm_yX7_canAct : am_MV yX7_canAct cX7_canAct 4 (some .boolean) 3 := ⟨⟨⟨am_t1 2 (by decide +kernel) rfl, am_t2 126 (by decide +kernel) rfl⟩, by decide +kernel, by decide⟩, am_t2 124 (by decide +kernel) rfl, am_t2 125 (by decide +kernel) rfl⟩
theorem mm_yX7_copyFrom : am_MV yX7_copyFrom cX7_copyFrom 2 none 1 := ⟨⟨⟨am_t1 2 (by decide +kernel) rfl, am_t4 238 (by decide +kernel) rfl⟩, by decide +kernel, by decide⟩, am_t4 236 (by decide +kernel) rfl, am_t4 237 (by decide +kernel) rfl⟩
theorem mm_yX7_follow : am_MV yX7_follow cX7_follow 6 (some .boolean) 2 := ⟨⟨⟨am_t1 2 (by decide +kernel) rfl, am_t2 189 (by decide +kernel) rfl⟩, by decide +kernel, by decide⟩, am_t2 188 (by decide +kernel) rfl, am_tp 3 (by decide +kernel) rfl⟩
theorem mm_yX7_hasHisNeeds : am_MV yX7_hasHisNeeds cX7_hasHisNeeds 4 (some .boolean) 2 := ⟨⟨⟨am_t1 2 (by decide +kernel) rfl, am_t2 168 (by decide +kernel) rfl⟩, by decide +kernel, by decide⟩, am_t2 166 (by decide +kernel) rfl, am_t2 167 (by decide +kernel) rfl⟩
theorem mm_yX7_march : am_MV yX7_march cX7_march 5 none 4 := ⟨⟨⟨am_t1 2 (by decide +kernel) rfl, am_t2 152 (by decide +kernel) rfl⟩, by decide +kernel, by decide⟩, am_t2 151 (by decide +kernel) rfl, am_tp 1 (by decide +kernel) rfl⟩
theorem mm_yX7_needed : am_MV yX7_needed cX7_needed 4 (some .int) 1 := ⟨⟨⟨am_t1 2 (by decide +kernel) rfl, am_t3 198 (by decide +kernel) rfl⟩, by decide +kernel, by decide⟩, am_t3 196 (by decide +kernel) rfl, am_t3 197 (by decide +kernel) rfl⟩
theorem mm_yX7_obey : am_MV yX7_obey cX7_obey 6 none 5 := ⟨⟨⟨am_t1 2 (by decide +kernel) rfl, am_t2 148 (by decide +kernel) rfl⟩, by decide +kernel, by decide⟩, am_t2 147 (by decide +kernel) rfl, am_tp 0 (by decide +kernel) rfl⟩
theorem mm_yX7_passDay : am_MV yX7_passDay cX7_passDay 6 (some .int) 2 := ⟨⟨⟨am_t1 2 (by decide +kernel) rfl, am_t2 185 (by decide +kernel) rfl⟩, by decide +kernel, by decide⟩, am_t2 183 (by decide +kernel) rfl, am_t2 184 (by decide +kernel) rfl⟩
theorem mm_yX7_perform : am_MV yX7_perform cX7_perform 5 none 3 := ⟨⟨⟨am_t1 2 (by decide +kernel) rfl, am_t2 144 (by decide +kernel) rfl⟩, by decide +kernel, by decide⟩, am_t2 142 (by decide +kernel) rfl, am_t2 143 (by decide +kernel) rfl⟩
theorem mm_yX7_press : am_MV yX7_press cX7_press 6 (some .int) 3 := ⟨⟨⟨am_t1 2 (by decide +kernel) rfl, am_t2 193 (by decide +kernel) rfl⟩, by decide +kernel, by decide⟩, am_t2 192 (by decide +kernel) rfl, am_tp 4 (by decide +kernel) rfl⟩
theorem mm_yX7_servedBy : am_MV yX7_servedBy cX7_servedBy 4 (some .int) 1 := ⟨⟨⟨am_t1 2 (by decide +kernel) rfl, am_t3 210 (by decide +kernel) rfl⟩, by decide +kernel, by decide⟩, am_t3 208 (by decide +kernel) rfl, am_t3 209 (by decide +kernel) rfl⟩
theorem mm_yX7_spendEvening : am_MV yX7_spendEvening cX7_spendEvening 7 none 3 := ⟨⟨⟨am_t1 2 (by decide +kernel) rfl, am_t2 233 (by decide +kernel) rfl⟩, by decide +kernel, by decide⟩, am_t2 232 (by decide +kernel) rfl, am_tp 6 (by decide +kernel) rfl⟩
theorem mm_yX7_write : am_MV yX7_write cX7_write 6 none 5 := ⟨⟨⟨am_t1 2 (by decide +kernel) rfl, am_t2 160 (by decide +kernel) rfl⟩, by decide +kernel, by decide⟩, am_t2 159 (by decide +kernel) rfl, am_tp 2 (by decide +kernel) rfl⟩
theorem mm_yX8_isBetween : am_MS yX8_isBetween cX8_isBetween 3 (some .boolean) 3 := ⟨⟨⟨am_t1 16 (by decide +kernel) rfl, am_t4 107 (by decide +kernel) rfl⟩, by decide +kernel, by decide⟩, am_t4 106 (by decide +kernel) rfl⟩
theorem mm_yX8_isPoint : am_MS yX8_isPoint cX8_isPoint 2 (some .boolean) 2 := ⟨⟨⟨am_t1 16 (by decide +kernel) rfl, am_t4 96 (by decide +kernel) rfl⟩, by decide +kernel, by decide⟩, am_t4 95 (by decide +kernel) rfl⟩
theorem mm_yX8_meets : am_MS yX8_meets cX8_meets 12 (some .int) 3 := ⟨⟨⟨am_t1 16 (by decide +kernel) rfl, am_t4 103 (by decide +kernel) rfl⟩, by decide +kernel, by decide⟩, am_t4 102 (by decide +kernel) rfl⟩
theorem mm_yX8_twiceArea : am_MS yX8_twiceArea cX8_twiceArea 4 (some .int) 1 := ⟨⟨⟨am_t1 16 (by decide +kernel) rfl, am_t4 116 (by decide +kernel) rfl⟩, by decide +kernel, by decide⟩, am_t4 115 (by decide +kernel) rfl⟩
theorem mm_yX9_copyRow : am_MS yX9_copyRow cX9_copyRow 3 none 2 := ⟨⟨⟨am_t1 1 (by decide +kernel) rfl, am_t2 140 (by decide +kernel) rfl⟩, by decide +kernel, by decide⟩, am_t2 139 (by decide +kernel) rfl⟩
theorem mm_yX9_tellRows : am_MV yX9_tellRows cX9_tellRows 2 (some .int) 1 := ⟨⟨⟨am_t1 1 (by decide +kernel) rfl, am_t3 166 (by decide +kernel) rfl⟩, by decide +kernel, by decide⟩, am_t3 165 (by decide +kernel) rfl, am_tp 23 (by decide +kernel) rfl⟩
theorem mm_yX10_asks : am_MV yX10_asks cX10_asks 3 none 1 := ⟨⟨⟨am_t1 9 (by decide +kernel) rfl, am_t6 217 (by decide +kernel) rfl⟩, by decide +kernel, by decide⟩, am_t6 216 (by decide +kernel) rfl, am_tp 75 (by decide +kernel) rfl⟩
theorem mm_yX10_byRails : am_MV yX10_byRails cX10_byRails 6 (some .int) 2 := ⟨⟨⟨am_t1 9 (by decide +kernel) rfl, am_t7 148 (by decide +kernel) rfl⟩, by decide +kernel, by decide⟩, am_t7 147 (by decide +kernel) rfl, am_tp 101 (by decide +kernel) rfl⟩
theorem mm_yX10_canAct : am_MV yX10_canAct cX10_canAct 4 (some .boolean) 3 := ⟨⟨⟨am_t1 9 (by decide +kernel) rfl, am_t6 165 (by decide +kernel) rfl⟩, by decide +kernel, by decide⟩, am_t6 164 (by decide +kernel) rfl, am_tp 63 (by decide +kernel) rfl⟩
theorem mm_yX10_canAsk : am_MV yX10_canAsk cX10_canAsk 2 (some .boolean) 1 := ⟨⟨⟨am_t1 9 (by decide +kernel) rfl, am_t6 113 (by decide +kernel) rfl⟩, by decide +kernel, by decide⟩, am_t6 112 (by decide +kernel) rfl, am_tp 52 (by decide +kernel) rfl⟩
theorem mm_yX10_canComeOn : am_MV yX10_canComeOn cX10_canComeOn 2 (some .boolean) 1 := ⟨⟨⟨am_t1 9 (by decide +kernel) rfl, am_t7 31 (by decide +kernel) rfl⟩, by decide +kernel, by decide⟩, am_t7 30 (by decide +kernel) rfl, am_tp 87 (by decide +kernel) rfl⟩
theorem mm_yX10_canSet : am_MV yX10_canSet cX10_canSet 4 (some .boolean) 3 := ⟨⟨⟨am_t1 9 (by decide +kernel) rfl, am_t5 237 (by decide +kernel) rfl⟩, by decide +kernel, by decide⟩, am_t5 236 (by decide +kernel) rfl, am_tp 26 (by decide +kernel) rfl⟩
theorem mm_yX10_chosen : am_MV yX10_chosen cX10_chosen 5 (some .int) 2 := ⟨⟨⟨am_t1 9 (by decide +kernel) rfl, am_t7 107 (by decide +kernel) rfl⟩, by decide +kernel, by decide⟩, am_t7 106 (by decide +kernel) rfl, am_tp 96 (by decide +kernel) rfl⟩
theorem mm_yX10_common : am_MV yX10_common cX10_common 6 (some .int) 2 := ⟨⟨⟨am_t1 9 (by decide +kernel) rfl, am_t7 115 (by decide +kernel) rfl⟩, by decide +kernel, by decide⟩, am_t7 114 (by decide +kernel) rfl, am_tp 97 (by decide +kernel) rfl⟩
theorem mm_yX10_cutPieces : am_MV yX10_cutPieces cX10_cutPieces 6 (some .int) 0 := ⟨⟨⟨am_t1 9 (by decide +kernel) rfl, am_t7 164 (by decide +kernel) rfl⟩, by decide +kernel, by decide⟩, am_t7 163 (by decide +kernel) rfl, am_tp 103 (by decide +kernel) rfl⟩
theorem mm_yX10_digitOf : am_MV yX10_digitOf cX10_digitOf 3 (some .int) 2 := ⟨⟨⟨am_t1 9 (by decide +kernel) rfl, am_t7 71 (by decide +kernel) rfl⟩, by decide +kernel, by decide⟩, am_t7 70 (by decide +kernel) rfl, am_tp 92 (by decide +kernel) rfl⟩
theorem mm_yX10_doStand : am_MV yX10_doStand cX10_doStand 5 (some .boolean) 1 := ⟨⟨⟨am_t1 9 (by decide +kernel) rfl, am_t7 180 (by decide +kernel) rfl⟩, by decide +kernel, by decide⟩, am_t7 179 (by decide +kernel) rfl, am_tp 105 (by decide +kernel) rfl⟩
theorem mm_yX10_does : am_MV yX10_does cX10_does 4 none 1 := ⟨⟨⟨am_t1 9 (by decide +kernel) rfl, am_t6 205 (by decide +kernel) rfl⟩, by decide +kernel, by decide⟩, am_t6 204 (by decide +kernel) rfl, am_tp 72 (by decide +kernel) rfl⟩
theorem mm_yX10_doesFit : am_MV yX10_doesFit cX10_doesFit 5 (some .boolean) 1 := ⟨⟨⟨am_t1 9 (by decide +kernel) rfl, am_t7 79 (by decide +kernel) rfl⟩, by decide +kernel, by decide⟩, am_t7 78 (by decide +kernel) rfl, am_tp 93 (by decide +kernel) rfl⟩
theorem mm_yX10_draw : am_MV yX10_draw cX10_draw 2 (some .int) 1 := ⟨⟨⟨am_t1 9 (by decide +kernel) rfl, am_t7 21 (by decide +kernel) rfl⟩, by decide +kernel, by decide⟩, am_t7 20 (by decide +kernel) rfl, am_tp 86 (by decide +kernel) rfl⟩
theorem mm_yX10_emits : am_MV yX10_emits cX10_emits 3 none 2 := ⟨⟨⟨am_t1 9 (by decide +kernel) rfl, am_t6 117 (by decide +kernel) rfl⟩, by decide +kernel, by decide⟩, am_t6 116 (by decide +kernel) rfl, am_tp 53 (by decide +kernel) rfl⟩
theorem mm_yX10_endsThought : am_MV yX10_endsThought cX10_endsThought 2 none 0 := ⟨⟨⟨am_t1 9 (by decide +kernel) rfl, am_t7 55 (by decide +kernel) rfl⟩, by decide +kernel, by decide⟩, am_t7 54 (by decide +kernel) rfl, am_tp 90 (by decide +kernel) rfl⟩
theorem mm_yX10_errs : am_MV yX10_errs cX10_errs 2 (some .int) 1 := ⟨⟨⟨am_t1 9 (by decide +kernel) rfl, am_t6 65 (by decide +kernel) rfl⟩, by decide +kernel, by decide⟩, am_t6 64 (by decide +kernel) rfl, am_tp 40 (by decide +kernel) rfl⟩
theorem mm_yX10_goesBy : am_MV yX10_goesBy cX10_goesBy 4 (some .int) 0 := ⟨⟨⟨am_t1 9 (by decide +kernel) rfl, am_t6 201 (by decide +kernel) rfl⟩, by decide +kernel, by decide⟩, am_t6 200 (by decide +kernel) rfl, am_tp 71 (by decide +kernel) rfl⟩
theorem mm_yX10_greater : am_MV yX10_greater cX10_greater 3 (some .int) 2 := ⟨⟨⟨am_t1 9 (by decide +kernel) rfl, am_t7 1 (by decide +kernel) rfl⟩, by decide +kernel, by decide⟩, am_t7 0 (by decide +kernel) rfl, am_tp 81 (by decide +kernel) rfl⟩
theorem mm_yX10_happens : am_MV yX10_happens cX10_happens 2 (some .boolean) 1 := ⟨⟨⟨am_t1 9 (by decide +kernel) rfl, am_t7 17 (by decide +kernel) rfl⟩, by decide +kernel, by decide⟩, am_t7 16 (by decide +kernel) rfl, am_tp 85 (by decide +kernel) rfl⟩
theorem mm_yX10_has : am_MV yX10_has cX10_has 3 (some .boolean) 2 := ⟨⟨⟨am_t1 9 (by decide +kernel) rfl, am_t6 189 (by decide +kernel) rfl⟩, by decide +kernel, by decide⟩, am_t6 188 (by decide +kernel) rfl, am_tp 69 (by decide +kernel) rfl⟩
theorem mm_yX10_hasNeeds : am_MV yX10_hasNeeds cX10_hasNeeds 3 (some .boolean) 1 := ⟨⟨⟨am_t1 9 (by decide +kernel) rfl, am_t6 185 (by decide +kernel) rfl⟩, by decide +kernel, by decide⟩, am_t6 184 (by decide +kernel) rfl, am_tp 68 (by decide +kernel) rfl⟩
theorem mm_yX10_held : am_MV yX10_held cX10_held 4 (some .int) 3 := ⟨⟨⟨am_t1 9 (by decide +kernel) rfl, am_t6 237 (by decide +kernel) rfl⟩, by decide +kernel, by decide⟩, am_t6 236 (by decide +kernel) rfl, am_tp 80 (by decide +kernel) rfl⟩
theorem mm_yX10_isBatman : am_MV yX10_isBatman cX10_isBatman 2 (some .boolean) 1 := ⟨⟨⟨am_t1 9 (by decide +kernel) rfl, am_t6 9 (by decide +kernel) rfl⟩, by decide +kernel, by decide⟩, am_t6 8 (by decide +kernel) rfl, am_tp 29 (by decide +kernel) rfl⟩
theorem mm_yX10_isDigit : am_MV yX10_isDigit cX10_isDigit 2 (some .boolean) 1 := ⟨⟨⟨am_t1 9 (by decide +kernel) rfl, am_t6 49 (by decide +kernel) rfl⟩, by decide +kernel, by decide⟩, am_t6 48 (by decide +kernel) rfl, am_tp 36 (by decide +kernel) rfl⟩
theorem mm_yX10_isGivenUp : am_MV yX10_isGivenUp cX10_isGivenUp 2 (some .boolean) 1 := ⟨⟨⟨am_t1 9 (by decide +kernel) rfl, am_t6 177 (by decide +kernel) rfl⟩, by decide +kernel, by decide⟩, am_t6 176 (by decide +kernel) rfl, am_tp 66 (by decide +kernel) rfl⟩
theorem mm_yX10_isHappy : am_MV yX10_isHappy cX10_isHappy 3 (some .boolean) 1 := ⟨⟨⟨am_t1 9 (by decide +kernel) rfl, am_t7 136 (by decide +kernel) rfl⟩, by decide +kernel, by decide⟩, am_t7 135 (by decide +kernel) rfl, am_tp 100 (by decide +kernel) rfl⟩
theorem mm_yX10_isIn : am_MV yX10_isIn cX10_isIn 4 (some .boolean) 3 := ⟨⟨⟨am_t1 9 (by decide +kernel) rfl, am_t5 225 (by decide +kernel) rfl⟩, by decide +kernel, by decide⟩, am_t5 224 (by decide +kernel) rfl, am_tp 25 (by decide +kernel) rfl⟩
theorem mm_yX10_isLetter : am_MV yX10_isLetter cX10_isLetter 2 (some .boolean) 1 := ⟨⟨⟨am_t1 9 (by decide +kernel) rfl, am_t6 41 (by decide +kernel) rfl⟩, by decide +kernel, by decide⟩, am_t6 40 (by decide +kernel) rfl, am_tp 34 (by decide +kernel) rfl⟩
theorem mm_yX10_isLineWord : am_MV yX10_isLineWord cX10_isLineWord 1 (some .boolean) 0 := ⟨⟨⟨am_t1 9 (by decide +kernel) rfl, am_t6 97 (by decide +kernel) rfl⟩, by decide +kernel, by decide⟩, am_t6 96 (by decide +kernel) rfl, am_tp 48 (by decide +kernel) rfl⟩
theorem mm_yX10_isMarkSign : am_MV yX10_isMarkSign cX10_isMarkSign 2 (some .boolean) 1 := ⟨⟨⟨am_t1 9 (by decide +kernel) rfl, am_t6 53 (by decide +kernel) rfl⟩, by decide +kernel, by decide⟩, am_t6 52 (by decide +kernel) rfl, am_tp 37 (by decide +kernel) rfl⟩
theorem mm_yX10_isMet : am_MV yX10_isMet cX10_isMet 5 (some .boolean) 3 := ⟨⟨⟨am_t1 9 (by decide +kernel) rfl, am_t7 204 (by decide +kernel) rfl⟩, by decide +kernel, by decide⟩, am_t7 203 (by decide +kernel) rfl, am_tp 109 (by decide +kernel) rfl⟩
theorem mm_yX10_isOfficer : am_MV yX10_isOfficer cX10_isOfficer 2 (some .boolean) 1 := ⟨⟨⟨am_t1 9 (by decide +kernel) rfl, am_t6 5 (by decide +kernel) rfl⟩, by decide +kernel, by decide⟩, am_t6 4 (by decide +kernel) rfl, am_tp 28 (by decide +kernel) rfl⟩
theorem mm_yX10_isOnEdge : am_MV yX10_isOnEdge cX10_isOnEdge 5 (some .boolean) 3 := ⟨⟨⟨am_t1 9 (by decide +kernel) rfl, am_t7 192 (by decide +kernel) rfl⟩, by decide +kernel, by decide⟩, am_t7 191 (by decide +kernel) rfl, am_tp 106 (by decide +kernel) rfl⟩
theorem mm_yX10_isSign : am_MV yX10_isSign cX10_isSign 2 (some .boolean) 1 := ⟨⟨⟨am_t1 9 (by decide +kernel) rfl, am_t6 89 (by decide +kernel) rfl⟩, by decide +kernel, by decide⟩, am_t6 88 (by decide +kernel) rfl, am_tp 46 (by decide +kernel) rfl⟩
theorem mm_yX10_isWellSet : am_MV yX10_isWellSet cX10_isWellSet 5 (some .boolean) 2 := ⟨⟨⟨am_t1 9 (by decide +kernel) rfl, am_t7 220 (by decide +kernel) rfl⟩, by decide +kernel, by decide⟩, am_t7 219 (by decide +kernel) rfl, am_tp 110 (by decide +kernel) rfl⟩
theorem mm_yX10_isWon : am_MV yX10_isWon cX10_isWon 1 (some .boolean) 0 := ⟨⟨⟨am_t1 9 (by decide +kernel) rfl, am_t6 1 (by decide +kernel) rfl⟩, by decide +kernel, by decide⟩, am_t6 0 (by decide +kernel) rfl, am_tp 27 (by decide +kernel) rfl⟩
theorem mm_yX10_isWord : am_MV yX10_isWord cX10_isWord 2 (some .boolean) 1 := ⟨⟨⟨am_t1 9 (by decide +kernel) rfl, am_t6 61 (by decide +kernel) rfl⟩, by decide +kernel, by decide⟩, am_t6 60 (by decide +kernel) rfl, am_tp 39 (by decide +kernel) rfl⟩
theorem mm_yX10_isWordOfNight : am_MV yX10_isWordOfNight cX10_isWordOfNight 3 (some .boolean) 1 := ⟨⟨⟨am_t1 9 (by decide +kernel) rfl, am_t7 67 (by decide +kernel) rfl⟩, by decide +kernel, by decide⟩, am_t7 66 (by decide +kernel) rfl, am_tp 91 (by decide +kernel) rfl⟩
theorem mm_yX10_keeps : am_MV yX10_keeps cX10_keeps 2 (some .int) 1 := ⟨⟨⟨am_t1 9 (by decide +kernel) rfl, am_t7 232 (by decide +kernel) rfl⟩, by decide +kernel, by decide⟩, am_t7 231 (by decide +kernel) rfl, am_tp 111 (by decide +kernel) rfl⟩
theorem mm_yX10_keepsAhead : am_MV yX10_keepsAhead cX10_keepsAhead 2 none 0 := ⟨⟨⟨am_t1 9 (by decide +kernel) rfl, am_t6 169 (by decide +kernel) rfl⟩, by decide +kernel, by decide⟩, am_t6 168 (by decide +kernel) rfl, am_tp 64 (by decide +kernel) rfl⟩
theorem mm_yX10_keepsLaw : am_MV yX10_keepsLaw cX10_keepsLaw 2 none 0 := ⟨⟨⟨am_t1 9 (by decide +kernel) rfl, am_t8 0 (by decide +kernel) rfl⟩, by decide +kernel, by decide⟩, am_t7 239 (by decide +kernel) rfl, am_tp 113 (by decide +kernel) rfl⟩
theorem mm_yX10_keepsTold : am_MV yX10_keepsTold cX10_keepsTold 2 none 0 := ⟨⟨⟨am_t1 9 (by decide +kernel) rfl, am_t7 236 (by decide +kernel) rfl⟩, by decide +kernel, by decide⟩, am_t7 235 (by decide +kernel) rfl, am_tp 112 (by decide +kernel) rfl⟩
theorem mm_yX10_kindOfOrder : am_MV yX10_kindOfOrder cX10_kindOfOrder 1 (some .int) 0 := ⟨⟨⟨am_t1 9 (by decide +kernel) rfl, am_t6 81 (by decide +kernel) rfl⟩, by decide +kernel, by decide⟩, am_t6 80 (by decide +kernel) rfl, am_tp 44 (by decide +kernel) rfl⟩
theorem mm_yX10_lawTells : am_MV yX10_lawTells cX10_lawTells 5 (some .int) 3 := ⟨⟨⟨am_t1 9 (by decide +kernel) rfl, am_t6 221 (by decide +kernel) rfl⟩, by decide +kernel, by decide⟩, am_t6 220 (by decide +kernel) rfl, am_tp 76 (by decide +kernel) rfl⟩
theorem mm_yX10_lesser : am_MV yX10_lesser cX10_lesser 3 (some .int) 2 := ⟨⟨⟨am_t1 9 (by decide +kernel) rfl, am_t6 193 (by decide +kernel) rfl⟩, by decide +kernel, by decide⟩, am_t6 192 (by decide +kernel) rfl, am_tp 70 (by decide +kernel) rfl⟩
theorem mm_yX10_lineOf : am_MV yX10_lineOf cX10_lineOf 3 (some .int) 1 := ⟨⟨⟨am_t1 9 (by decide +kernel) rfl, am_t6 225 (by decide +kernel) rfl⟩, by decide +kernel, by decide⟩, am_t6 224 (by decide +kernel) rfl, am_tp 77 (by decide +kernel) rfl⟩
theorem mm_yX10_manyOf : am_MV yX10_manyOf cX10_manyOf 5 (some .int) 2 := ⟨⟨⟨am_t1 9 (by decide +kernel) rfl, am_t7 83 (by decide +kernel) rfl⟩, by decide +kernel, by decide⟩, am_t7 82 (by decide +kernel) rfl, am_tp 94 (by decide +kernel) rfl⟩
theorem mm_yX10_marches : am_MV yX10_marches cX10_marches 3 none 2 := ⟨⟨⟨am_t1 9 (by decide +kernel) rfl, am_t6 173 (by decide +kernel) rfl⟩, by decide +kernel, by decide⟩, am_t6 172 (by decide +kernel) rfl, am_tp 65 (by decide +kernel) rfl⟩
theorem mm_yX10_nextCorner : am_MV yX10_nextCorner cX10_nextCorner 2 (some .int) 1 := ⟨⟨⟨am_t1 9 (by decide +kernel) rfl, am_t7 196 (by decide +kernel) rfl⟩, by decide +kernel, by decide⟩, am_t7 195 (by decide +kernel) rfl, am_tp 107 (by decide +kernel) rfl⟩
theorem mm_yX10_notes : am_MV yX10_notes cX10_notes 5 none 3 := ⟨⟨⟨am_t1 9 (by decide +kernel) rfl, am_t6 181 (by decide +kernel) rfl⟩, by decide +kernel, by decide⟩, am_t6 180 (by decide +kernel) rfl, am_tp 67 (by decide +kernel) rfl⟩
theorem mm_yX10_presses : am_MV yX10_presses cX10_presses 4 (some .boolean) 1 := ⟨⟨⟨am_t1 9 (by decide +kernel) rfl, am_t6 209 (by decide +kernel) rfl⟩, by decide +kernel, by decide⟩, am_t6 208 (by decide +kernel) rfl, am_tp 73 (by decide +kernel) rfl⟩
theorem mm_yX10_pressesOf : am_MV yX10_pressesOf cX10_pressesOf 2 (some .int) 1 := ⟨⟨⟨am_t1 9 (by decide +kernel) rfl, am_t6 213 (by decide +kernel) rfl⟩, by decide +kernel, by decide⟩, am_t6 212 (by decide +kernel) rfl, am_tp 74 (by decide +kernel) rfl⟩
theorem mm_yX10_railOf : am_MV yX10_railOf cX10_railOf 4 (some .int) 2 := ⟨⟨⟨am_t1 9 (by decide +kernel) rfl, am_t7 152 (by decide +kernel) rfl⟩, by decide +kernel, by decide⟩, am_t7 151 (by decide +kernel) rfl, am_tp 102 (by decide +kernel) rfl⟩
theorem mm_yX10_raw : am_MV yX10_raw cX10_raw 2 (some .int) 1 := ⟨⟨⟨am_t1 9 (by decide +kernel) rfl, am_t6 37 (by decide +kernel) rfl⟩, by decide +kernel, by decide⟩, am_t6 36 (by decide +kernel) rfl, am_tp 33 (by decide +kernel) rfl⟩
theorem mm_yX10_readAny : am_MV yX10_readAny cX10_readAny 4 (some .int) 0 := ⟨⟨⟨am_t1 9 (by decide +kernel) rfl, am_t6 121 (by decide +kernel) rfl⟩, by decide +kernel, by decide⟩, am_t6 120 (by decide +kernel) rfl, am_tp 54 (by decide +kernel) rfl⟩
theorem mm_yX10_readCompared : am_MV yX10_readCompared cX10_readCompared 2 (some .int) 0 := ⟨⟨⟨am_t1 9 (by decide +kernel) rfl, am_t6 129 (by decide +kernel) rfl⟩, by decide +kernel, by decide⟩, am_t6 128 (by decide +kernel) rfl, am_tp 56 (by decide +kernel) rfl⟩
theorem mm_yX10_readLaw : am_MV yX10_readLaw cX10_readLaw 3 (some .int) 0 := ⟨⟨⟨am_t1 9 (by decide +kernel) rfl, am_t6 93 (by decide +kernel) rfl⟩, by decide +kernel, by decide⟩, am_t6 92 (by decide +kernel) rfl, am_tp 47 (by decide +kernel) rfl⟩
theorem mm_yX10_readMark : am_MV yX10_readMark cX10_readMark 2 (some .int) 1 := ⟨⟨⟨am_t1 9 (by decide +kernel) rfl, am_t6 85 (by decide +kernel) rfl⟩, by decide +kernel, by decide⟩, am_t6 84 (by decide +kernel) rfl, am_tp 45 (by decide +kernel) rfl⟩
theorem mm_yX10_readNeed : am_MV yX10_readNeed cX10_readNeed 3 (some .int) 0 := ⟨⟨⟨am_t1 9 (by decide +kernel) rfl, am_t6 145 (by decide +kernel) rfl⟩, by decide +kernel, by decide⟩, am_t6 144 (by decide +kernel) rfl, am_tp 60 (by decide +kernel) rfl⟩
theorem mm_yX10_readNumber : am_MV yX10_readNumber cX10_readNumber 4 (some .int) 2 := ⟨⟨⟨am_t1 9 (by decide +kernel) rfl, am_t6 77 (by decide +kernel) rfl⟩, by decide +kernel, by decide⟩, am_t6 76 (by decide +kernel) rfl, am_tp 43 (by decide +kernel) rfl⟩
theorem mm_yX10_readOfficers : am_MV yX10_readOfficers cX10_readOfficers 4 (some .int) 1 := ⟨⟨⟨am_t1 9 (by decide +kernel) rfl, am_t6 137 (by decide +kernel) rfl⟩, by decide +kernel, by decide⟩, am_t6 136 (by decide +kernel) rfl, am_tp 58 (by decide +kernel) rfl⟩
theorem mm_yX10_readOrder : am_MV yX10_readOrder cX10_readOrder 3 (some .int) 1 := ⟨⟨⟨am_t1 9 (by decide +kernel) rfl, am_t6 69 (by decide +kernel) rfl⟩, by decide +kernel, by decide⟩, am_t6 68 (by decide +kernel) rfl, am_tp 41 (by decide +kernel) rfl⟩
theorem mm_yX10_readOrders : am_MV yX10_readOrders cX10_readOrders 2 (some .int) 0 := ⟨⟨⟨am_t1 9 (by decide +kernel) rfl, am_t6 57 (by decide +kernel) rfl⟩, by decide +kernel, by decide⟩, am_t6 56 (by decide +kernel) rfl, am_tp 38 (by decide +kernel) rfl⟩
theorem mm_yX10_readProduct : am_MV yX10_readProduct cX10_readProduct 2 (some .int) 0 := ⟨⟨⟨am_t1 9 (by decide +kernel) rfl, am_t6 105 (by decide +kernel) rfl⟩, by decide +kernel, by decide⟩, am_t6 104 (by decide +kernel) rfl, am_tp 50 (by decide +kernel) rfl⟩
theorem mm_yX10_readService : am_MV yX10_readService cX10_readService 3 (some .int) 0 := ⟨⟨⟨am_t1 9 (by decide +kernel) rfl, am_t6 141 (by decide +kernel) rfl⟩, by decide +kernel, by decide⟩, am_t6 140 (by decide +kernel) rfl, am_tp 59 (by decide +kernel) rfl⟩
theorem mm_yX10_readSet : am_MV yX10_readSet cX10_readSet 3 (some .int) 0 := ⟨⟨⟨am_t1 9 (by decide +kernel) rfl, am_t8 8 (by decide +kernel) rfl⟩, by decide +kernel, by decide⟩, am_t8 7 (by decide +kernel) rfl, am_tp 114 (by decide +kernel) rfl⟩
theorem mm_yX10_readSum : am_MV yX10_readSum cX10_readSum 2 (some .int) 0 := ⟨⟨⟨am_t1 9 (by decide +kernel) rfl, am_t6 101 (by decide +kernel) rfl⟩, by decide +kernel, by decide⟩, am_t6 100 (by decide +kernel) rfl, am_tp 49 (by decide +kernel) rfl⟩
theorem mm_yX10_readTold : am_MV yX10_readTold cX10_readTold 4 (some .int) 3 := ⟨⟨⟨am_t1 9 (by decide +kernel) rfl, am_t6 73 (by decide +kernel) rfl⟩, by decide +kernel, by decide⟩, am_t6 72 (by decide +kernel) rfl, am_tp 42 (by decide +kernel) rfl⟩
theorem mm_yX10_readUnit : am_MV yX10_readUnit cX10_readUnit 2 (some .int) 0 := ⟨⟨⟨am_t1 9 (by decide +kernel) rfl, am_t6 109 (by decide +kernel) rfl⟩, by decide +kernel, by decide⟩, am_t6 108 (by decide +kernel) rfl, am_tp 51 (by decide +kernel) rfl⟩
theorem mm_yX10_reads : am_MV yX10_reads cX10_reads 2 none 0 := ⟨⟨⟨am_t1 9 (by decide +kernel) rfl, am_t6 33 (by decide +kernel) rfl⟩, by decide +kernel, by decide⟩, am_t6 32 (by decide +kernel) rfl, am_tp 32 (by decide +kernel) rfl⟩
theorem mm_yX10_readsAlike : am_MV yX10_readsAlike cX10_readsAlike 4 (some .boolean) 2 := ⟨⟨⟨am_t1 9 (by decide +kernel) rfl, am_t7 168 (by decide +kernel) rfl⟩, by decide +kernel, by decide⟩, am_t7 167 (by decide +kernel) rfl, am_tp 104 (by decide +kernel) rfl⟩
theorem mm_yX10_readsOf : am_MV yX10_readsOf cX10_readsOf 2 (some .int) 1 := ⟨⟨⟨am_t1 9 (by decide +kernel) rfl, am_t7 13 (by decide +kernel) rfl⟩, by decide +kernel, by decide⟩, am_t7 12 (by decide +kernel) rfl, am_tp 84 (by decide +kernel) rfl⟩
theorem mm_yX10_readsText : am_MV yX10_readsText cX10_readsText 2 (some .int) 1 := ⟨⟨⟨am_t1 9 (by decide +kernel) rfl, am_t6 29 (by decide +kernel) rfl⟩, by decide +kernel, by decide⟩, am_t6 28 (by decide +kernel) rfl, am_tp 31 (by decide +kernel) rfl⟩
theorem mm_yX10_restsOf : am_MV yX10_restsOf cX10_restsOf 2 (some .int) 1 := ⟨⟨⟨am_t1 9 (by decide +kernel) rfl, am_t7 9 (by decide +kernel) rfl⟩, by decide +kernel, by decide⟩, am_t7 8 (by decide +kernel) rfl, am_tp 83 (by decide +kernel) rfl⟩
theorem mm_yX10_rightOf : am_MV yX10_rightOf cX10_rightOf 5 (some .int) 2 := ⟨⟨⟨am_t1 9 (by decide +kernel) rfl, am_t7 87 (by decide +kernel) rfl⟩, by decide +kernel, by decide⟩, am_t7 86 (by decide +kernel) rfl, am_tp 95 (by decide +kernel) rfl⟩
theorem mm_yX10_runs : am_MV yX10_runs cX10_runs 6 (some .int) 3 := ⟨⟨⟨am_t1 9 (by decide +kernel) rfl, am_t6 229 (by decide +kernel) rfl⟩, by decide +kernel, by decide⟩, am_t6 228 (by decide +kernel) rfl, am_tp 78 (by decide +kernel) rfl⟩
theorem mm_yX10_settles : am_MV yX10_settles cX10_settles 2 none 1 := ⟨⟨⟨am_t1 9 (by decide +kernel) rfl, am_t6 133 (by decide +kernel) rfl⟩, by decide +kernel, by decide⟩, am_t6 132 (by decide +kernel) rfl, am_tp 57 (by decide +kernel) rfl⟩
theorem mm_yX10_sideOf : am_MV yX10_sideOf cX10_sideOf 5 (some .int) 3 := ⟨⟨⟨am_t1 9 (by decide +kernel) rfl, am_t7 200 (by decide +kernel) rfl⟩, by decide +kernel, by decide⟩, am_t7 199 (by decide +kernel) rfl, am_tp 108 (by decide +kernel) rfl⟩
theorem mm_yX10_sleeps : am_MV yX10_sleeps cX10_sleeps 3 none 1 := ⟨⟨⟨am_t1 9 (by decide +kernel) rfl, am_t7 5 (by decide +kernel) rfl⟩, by decide +kernel, by decide⟩, am_t7 4 (by decide +kernel) rfl, am_tp 82 (by decide +kernel) rfl⟩
theorem mm_yX10_squares : am_MV yX10_squares cX10_squares 4 (some .int) 1 := ⟨⟨⟨am_t1 9 (by decide +kernel) rfl, am_t7 132 (by decide +kernel) rfl⟩, by decide +kernel, by decide⟩, am_t7 131 (by decide +kernel) rfl, am_tp 99 (by decide +kernel) rfl⟩
theorem mm_yX10_stepsToEnd : am_MV yX10_stepsToEnd cX10_stepsToEnd 4 (some .int) 1 := ⟨⟨⟨am_t1 9 (by decide +kernel) rfl, am_t7 128 (by decide +kernel) rfl⟩, by decide +kernel, by decide⟩, am_t7 127 (by decide +kernel) rfl, am_tp 98 (by decide +kernel) rfl⟩
theorem mm_yX10_sumOf : am_MV yX10_sumOf cX10_sumOf 4 (some .int) 1 := ⟨⟨⟨am_t1 9 (by decide +kernel) rfl, am_t7 51 (by decide +kernel) rfl⟩, by decide +kernel, by decide⟩, am_t7 50 (by decide +kernel) rfl, am_tp 89 (by decide +kernel) rfl⟩
theorem mm_yX10_takesLaw : am_MV yX10_takesLaw cX10_takesLaw 3 none 1 := ⟨⟨⟨am_t1 9 (by decide +kernel) rfl, am_t6 149 (by decide +kernel) rfl⟩, by decide +kernel, by decide⟩, am_t6 148 (by decide +kernel) rfl, am_tp 61 (by decide +kernel) rfl⟩
theorem mm_yX10_takesOther : am_MV yX10_takesOther cX10_takesOther 4 none 2 := ⟨⟨⟨am_t1 9 (by decide +kernel) rfl, am_t6 153 (by decide +kernel) rfl⟩, by decide +kernel, by decide⟩, am_t6 152 (by decide +kernel) rfl, am_tp 62 (by decide +kernel) rfl⟩
theorem mm_yX10_thinks : am_MV yX10_thinks cX10_thinks 2 none 0 := ⟨⟨⟨am_t1 9 (by decide +kernel) rfl, am_t7 47 (by decide +kernel) rfl⟩, by decide +kernel, by decide⟩, am_t7 46 (by decide +kernel) rfl, am_tp 88 (by decide +kernel) rfl⟩
theorem mm_yX10_twoOf : am_MV yX10_twoOf cX10_twoOf 4 (some .int) 3 := ⟨⟨⟨am_t1 9 (by decide +kernel) rfl, am_t6 233 (by decide +kernel) rfl⟩, by decide +kernel, by decide⟩, am_t6 232 (by decide +kernel) rfl, am_tp 79 (by decide +kernel) rfl⟩
theorem mm_yX10_types : am_MV yX10_types cX10_types 3 none 1 := ⟨⟨⟨am_t1 9 (by decide +kernel) rfl, am_t6 17 (by decide +kernel) rfl⟩, by decide +kernel, by decide⟩, am_t6 16 (by decide +kernel) rfl, am_tp 30 (by decide +kernel) rfl⟩
theorem mm_yX10_waits : am_MV yX10_waits cX10_waits 2 none 1 := ⟨⟨⟨am_t1 9 (by decide +kernel) rfl, am_t6 125 (by decide +kernel) rfl⟩, by decide +kernel, by decide⟩, am_t6 124 (by decide +kernel) rfl, am_tp 55 (by decide +kernel) rfl⟩
theorem mm_yX10_wordAt : am_MV yX10_wordAt cX10_wordAt 6 (some .int) 2 := ⟨⟨⟨am_t1 9 (by decide +kernel) rfl, am_t6 45 (by decide +kernel) rfl⟩, by decide +kernel, by decide⟩, am_t6 44 (by decide +kernel) rfl, am_tp 35 (by decide +kernel) rfl⟩
theorem mm_yJ9_floorMod_7cf53 : am_MS yJ9_floorMod_7cf53 cJ9_floorMod_7cf53 3 (some .int) 2 := ⟨⟨⟨am_t1 5 (by decide +kernel) rfl, am_t4 38 (by decide +kernel) rfl⟩, by decide +kernel, by decide⟩, am_t4 37 (by decide +kernel) rfl⟩
theorem mm_yJ9_max_7cf53 : am_MS yJ9_max_7cf53 cJ9_max_7cf53 2 (some .int) 2 := ⟨⟨⟨am_t1 5 (by decide +kernel) rfl, am_t1 129 (by decide +kernel) rfl⟩, by decide +kernel, by decide⟩, am_t1 128 (by decide +kernel) rfl⟩
theorem mm_yJ9_min_7cf53 : am_MS yJ9_min_7cf53 cJ9_min_7cf53 2 (some .int) 2 := ⟨⟨⟨am_t1 5 (by decide +kernel) rfl, am_t1 126 (by decide +kernel) rfl⟩, by decide +kernel, by decide⟩, am_t1 125 (by decide +kernel) rfl⟩
theorem mm_yJ0_charAt_5068e : am_MV yJ0_charAt_5068e cJ0_charAt_5068e 2 (some .char) 1 := ⟨⟨⟨am_t1 10 (by decide +kernel) rfl, am_t3 45 (by decide +kernel) rfl⟩, by decide +kernel, by decide⟩, am_t3 43 (by decide +kernel) rfl, am_t3 44 (by decide +kernel) rfl⟩
theorem mm_yJ0_length_8abf5 : am_MV yJ0_length_8abf5 cJ0_length_8abf5 1 (some .int) 0 := ⟨⟨⟨am_t1 10 (by decide +kernel) rfl, am_t3 35 (by decide +kernel) rfl⟩, by decide +kernel, by decide⟩, am_t3 33 (by decide +kernel) rfl, am_t3 34 (by decide +kernel) rfl⟩
theorem nl_RX0_70 : (RX0, 70, yX9_copyRow) ∈ am_nl := List.mem_of_getElem? (i := 5) rfl
theorem nl_RX6_34 : (RX6, 34, yX9_copyRow) ∈ am_nl := List.mem_of_getElem? (i := 8) rfl
theorem nl_RX9_304 : (RX9, 304, yX2_stand) ∈ am_nl := List.mem_of_getElem? (i := 1) rfl
theorem nl_RX9_331 : (RX9, 331, yX5_housed) ∈ am_nl := List.mem_of_getElem? (i := 2) rfl
theorem fp_RX0_37 : am_FP RX0 37 0 8 16 .int := ⟨_, _, cb_0, by decide, Or.inl (am_t1 62 (by decide +kernel) rfl), rfl, by decide +kernel⟩
theorem fp_RX0_49 : am_FP RX0 49 0 12 16 .int := ⟨_, _, cb_0, by decide, Or.inl (am_t1 73 (by decide +kernel) rfl), rfl, by decide +kernel⟩
theorem fp_RX0_52 : am_FP RX0 52 0 13 16 .int := ⟨_, _, cb_0, by decide, Or.inl (am_t1 76 (by decide +kernel) rfl), rfl, by decide +kernel⟩
theorem fp_RX0_55 : am_FP RX0 55 0 14 16 .int := ⟨_, _, cb_0, by decide, Or.inl (am_t1 79 (by decide +kernel) rfl), rfl, by decide +kernel⟩
theorem fp_RX0_58 : am_FP RX0 58 0 15 16 .int := ⟨_, _, cb_0, by decide, Or.inl (am_t1 82 (by decide +kernel) rfl), rfl, by decide +kernel⟩
theorem fp_RX0_9 : am_FP RX0 9 0 0 16 .int := ⟨_, _, cb_0, by decide, Or.inl (am_t1 37 (by decide +kernel) rfl), rfl, by decide +kernel⟩
theorem fp_RX3_21 : am_FP RX3 21 2 2 4 .int := ⟨_, _, cb_2, by decide, Or.inl (am_t1 231 (by decide +kernel) rfl), rfl, by decide +kernel⟩
theorem fp_RX3_25 : am_FP RX3 25 2 3 4 .int := ⟨_, _, cb_2, by decide, Or.inl (am_t1 232 (by decide +kernel) rfl), rfl, by decide +kernel⟩
theorem fp_RX4_15 : am_FP RX4 15 3 1 11 .int := ⟨_, _, cb_3, by decide, Or.inl (am_t2 14 (by decide +kernel) rfl), rfl, by decide +kernel⟩
theorem fp_RX4_28 : am_FP RX4 28 3 5 11 .int := ⟨_, _, cb_3, by decide, Or.inl (am_t2 19 (by decide +kernel) rfl), rfl, by decide +kernel⟩
theorem fp_RX4_31 : am_FP RX4 31 3 6 11 .int := ⟨_, _, cb_3, by decide, Or.inl (am_t2 20 (by decide +kernel) rfl), rfl, by decide +kernel⟩
theorem fp_RX4_34 : am_FP RX4 34 3 7 11 .int := ⟨_, _, cb_3, by decide, Or.inl (am_t2 21 (by decide +kernel) rfl), rfl, by decide +kernel⟩
theorem fp_RX4_37 : am_FP RX4 37 3 8 11 .int := ⟨_, _, cb_3, by decide, Or.inl (am_t2 23 (by decide +kernel) rfl), rfl, by decide +kernel⟩
theorem fp_RX6_9 : am_FP RX6 9 4 2 3 .int := ⟨_, _, cb_4, by decide, Or.inl (am_t1 132 (by decide +kernel) rfl), rfl, by decide +kernel⟩
theorem fp_RX7_101 : am_FP RX7 101 0 13 16 .int := ⟨_, _, cb_0, by decide, Or.inr (List.mem_of_getElem? (i := 26) rfl), rfl, by decide +kernel⟩
theorem fp_RX7_174 : am_FP RX7 174 0 12 16 .int := ⟨_, _, cb_0, by decide, Or.inr (List.mem_of_getElem? (i := 24) rfl), rfl, by decide +kernel⟩
theorem fp_RX7_94 : am_FP RX7 94 0 14 16 .int := ⟨_, _, cb_0, by decide, Or.inr (List.mem_of_getElem? (i := 29) rfl), rfl, by decide +kernel⟩
theorem fp_RX9_19 : am_FP RX9 19 6 2 6 .boolean := ⟨_, _, cb_6, by decide, Or.inl (am_t2 54 (by decide +kernel) rfl), rfl, by decide +kernel⟩
theorem fp_RX9_47 : am_FP RX9 47 0 15 16 .int := ⟨_, _, cb_0, by decide, Or.inr (List.mem_of_getElem? (i := 30) rfl), rfl, by decide +kernel⟩
theorem fp_RX9_99 : am_FP RX9 99 3 1 11 .int := ⟨_, _, cb_3, by decide, Or.inr (List.mem_of_getElem? (i := 55) rfl), rfl, by decide +kernel⟩
theorem fp_RX10_131 : am_FP RX10 131 7 0 67 .int := ⟨_, _, cb_7, by decide, Or.inl (am_t5 8 (by decide +kernel) rfl), rfl, by decide +kernel⟩
theorem fp_RX10_134 : am_FP RX10 134 7 3 67 .int := ⟨_, _, cb_7, by decide, Or.inl (am_t5 11 (by decide +kernel) rfl), rfl, by decide +kernel⟩
theorem fp_RX10_137 : am_FP RX10 137 7 5 67 .boolean := ⟨_, _, cb_7, by decide, Or.inl (am_t5 13 (by decide +kernel) rfl), rfl, by decide +kernel⟩
theorem fp_RX10_143 : am_FP RX10 143 7 6 67 .int := ⟨_, _, cb_7, by decide, Or.inl (am_t5 14 (by decide +kernel) rfl), rfl, by decide +kernel⟩
theorem fp_RX10_146 : am_FP RX10 146 7 7 67 .int := ⟨_, _, cb_7, by decide, Or.inl (am_t5 15 (by decide +kernel) rfl), rfl, by decide +kernel⟩
theorem fp_RX10_167 : am_FP RX10 167 7 14 67 .int := ⟨_, _, cb_7, by decide, Or.inl (am_t5 22 (by decide +kernel) rfl), rfl, by decide +kernel⟩
theorem fp_RX10_174 : am_FP RX10 174 7 15 67 .int := ⟨_, _, cb_7, by decide, Or.inl (am_t5 23 (by decide +kernel) rfl), rfl, by decide +kernel⟩
theorem fp_RX10_181 : am_FP RX10 181 7 16 67 .int := ⟨_, _, cb_7, by decide, Or.inl (am_t5 24 (by decide +kernel) rfl), rfl, by decide +kernel⟩
theorem fp_RX10_184 : am_FP RX10 184 7 17 67 .int := ⟨_, _, cb_7, by decide, Or.inl (am_t5 25 (by decide +kernel) rfl), rfl, by decide +kernel⟩
theorem fp_RX10_187 : am_FP RX10 187 7 18 67 .int := ⟨_, _, cb_7, by decide, Or.inl (am_t5 26 (by decide +kernel) rfl), rfl, by decide +kernel⟩
theorem fp_RX10_203 : am_FP RX10 203 7 32 67 .int := ⟨_, _, cb_7, by decide, Or.inl (am_t5 40 (by decide +kernel) rfl), rfl, by decide +kernel⟩
theorem fp_RX10_206 : am_FP RX10 206 7 33 67 .int := ⟨_, _, cb_7, by decide, Or.inl (am_t5 41 (by decide +kernel) rfl), rfl, by decide +kernel⟩
theorem fp_RX10_209 : am_FP RX10 209 7 28 67 .int := ⟨_, _, cb_7, by decide, Or.inl (am_t5 36 (by decide +kernel) rfl), rfl, by decide +kernel⟩
theorem fp_RX10_238 : am_FP RX10 238 7 31 67 .int := ⟨_, _, cb_7, by decide, Or.inl (am_t5 39 (by decide +kernel) rfl), rfl, by decide +kernel⟩
theorem fp_RX10_241 : am_FP RX10 241 7 29 67 .int := ⟨_, _, cb_7, by decide, Or.inl (am_t5 37 (by decide +kernel) rfl), rfl, by decide +kernel⟩
theorem fp_RX10_262 : am_FP RX10 262 7 27 67 .int := ⟨_, _, cb_7, by decide, Or.inl (am_t5 35 (by decide +kernel) rfl), rfl, by decide +kernel⟩
theorem fp_RX10_297 : am_FP RX10 297 7 36 67 .int := ⟨_, _, cb_7, by decide, Or.inl (am_t5 44 (by decide +kernel) rfl), rfl, by decide +kernel⟩
theorem fp_RX10_300 : am_FP RX10 300 7 38 67 .int := ⟨_, _, cb_7, by decide, Or.inl (am_t5 46 (by decide +kernel) rfl), rfl, by decide +kernel⟩
theorem fp_RX10_303 : am_FP RX10 303 7 40 67 .int := ⟨_, _, cb_7, by decide, Or.inl (am_t5 48 (by decide +kernel) rfl), rfl, by decide +kernel⟩
theorem fp_RX10_306 : am_FP RX10 306 7 34 67 .int := ⟨_, _, cb_7, by decide, Or.inl (am_t5 42 (by decide +kernel) rfl), rfl, by decide +kernel⟩
theorem fp_RX10_407 : am_FP RX10 407 7 44 67 .int := ⟨_, _, cb_7, by decide, Or.inl (am_t5 52 (by decide +kernel) rfl), rfl, by decide +kernel⟩
theorem fp_RX10_444 : am_FP RX10 444 7 53 67 .int := ⟨_, _, cb_7, by decide, Or.inl (am_t5 61 (by decide +kernel) rfl), rfl, by decide +kernel⟩
theorem fp_RX10_453 : am_FP RX10 453 7 56 67 .int := ⟨_, _, cb_7, by decide, Or.inl (am_t5 64 (by decide +kernel) rfl), rfl, by decide +kernel⟩
theorem fp_RX10_459 : am_FP RX10 459 7 59 67 .int := ⟨_, _, cb_7, by decide, Or.inl (am_t5 67 (by decide +kernel) rfl), rfl, by decide +kernel⟩
theorem fp_RX10_477 : am_FP RX10 477 7 65 67 .int := ⟨_, _, cb_7, by decide, Or.inl (am_t5 73 (by decide +kernel) rfl), rfl, by decide +kernel⟩
theorem fp_RX10_480 : am_FP RX10 480 7 63 67 .boolean := ⟨_, _, cb_7, by decide, Or.inl (am_t5 71 (by decide +kernel) rfl), rfl, by decide +kernel⟩
theorem fp_RX10_486 : am_FP RX10 486 7 64 67 .boolean := ⟨_, _, cb_7, by decide, Or.inl (am_t5 72 (by decide +kernel) rfl), rfl, by decide +kernel⟩
theorem fp_RX10_64 : am_FP RX10 64 7 35 67 .int := ⟨_, _, cb_7, by decide, Or.inl (am_t5 43 (by decide +kernel) rfl), rfl, by decide +kernel⟩
