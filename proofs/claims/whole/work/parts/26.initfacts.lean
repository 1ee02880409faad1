theorem ak_slots {G : am_T} {nL cells slots slots1 pc : Nat} {lv : List (Nat × Value)} {st : List Value} {L : va_W} (e : slots = slots1) (k : ak_K G nL cells slots1 pc lv st L) : ak_K G nL cells slots pc lv st L := by
  subst e; exact k
def nWl : List Int32 := [32, 112, 114, 101, 115, 115, 101, 115, 32, 114, 101, 115, 116, 115, 32, 114, 101, 97, 100, 115, 32, 119, 104, 101, 110, 32, 111, 114, 32, 97, 110, 100, 32, 110, 111, 116, 32, 115, 107, 105, 108, 108, 32, 115, 108, 101, 101, 112, 32, 112, 108, 97, 110, 32, 104, 111, 108, 101, 32, 99, 97, 114, 101, 32, 119, 101, 97, 114, 32, 108, 105, 110, 101, 32, 115, 105, 100, 101, 32, 100, 111, 110, 101, 32, 100, 97, 121, 32, 111, 110, 32, 109, 97, 114, 99, 104, 32, 115, 111, 108, 101, 32, 110, 101, 119, 32, 116, 114, 117, 99, 101, 32, 111, 102, 102, 105, 99, 101, 114, 32, 98, 97, 116, 109, 97, 110, 32, 110, 101, 101, 100, 115, 32]
def nW : Nat → (Nat → Int32)
  | 0 => fun _ => 0
  | k + 1 => upd (nW k) k (nWl.getD k 0)
theorem jl_RX6_3 : Cond.methodLink RX6 3 objectInit ∈ am_WL := am_t1 123 (by decide +kernel) rfl
theorem jo_1 : Cond.instanceMethod objectInit ∈ am_WL := am_t1 23 (by decide +kernel) rfl
theorem jo_2 : Cond.code objectInit ⟨#[0xb1]⟩ 1 none ∈ am_WL := am_t1 24 (by decide +kernel) rfl
theorem jci_0 : Int32.ofInt 0 = 0 := by decide
theorem fk_RX6_9 : ∃ (C : String) (T : u_T), am_CB 4 C T 3 ∧ 2 < 3 ∧ Cond.fieldLink RX6 9 (T 2).1 (T 2).2.1 (T 2).2.2.1 ∈ am_WL ∧ (T 2).2.2.2 = false ∧ parseFieldDescriptor (T 2).2.2.1 = some .int := ⟨_, _, cb_4, by decide, am_t1 132 (by decide +kernel) rfl, rfl, by decide +kernel⟩
theorem jci_1 : Int32.ofInt 1 = 1 := by decide
theorem jci_4 : Int32.ofInt 4 = 4 := by decide
theorem jl_RX6_15 : Cond.methodLink RX6 15 Lib.Math.min.name ∈ am_WL := am_t1 124 (by decide +kernel) rfl
theorem js_min : Cond.static Lib.Math.min.name ∈ am_WL := am_t1 125 (by decide +kernel) rfl
theorem jc_min : Cond.code Lib.Math.min.name Lib.Math.min.code 2 (some .int) ∈ am_WL := am_t1 126 (by decide +kernel) rfl
theorem ji_Math : Cond.initialized "java/lang/Math" ∈ am_WL := am_t1 5 (by decide +kernel) rfl
theorem jl_RX6_21 : Cond.methodLink RX6 21 Lib.Math.max.name ∈ am_WL := am_t1 127 (by decide +kernel) rfl
theorem js_max : Cond.static Lib.Math.max.name ∈ am_WL := am_t1 128 (by decide +kernel) rfl
theorem jc_max : Cond.code Lib.Math.max.name Lib.Math.max.code 2 (some .int) ∈ am_WL := am_t1 129 (by decide +kernel) rfl
theorem fk_RX6_24 : ∃ (C : String) (T : u_T), am_CB 4 C T 3 ∧ 0 < 3 ∧ Cond.fieldLink RX6 24 (T 0).1 (T 0).2.1 (T 0).2.2.1 ∈ am_WL ∧ (T 0).2.2.2 = true ∧ parseFieldDescriptor (T 0).2.2.1 = some .int ∧ (T 0).1 = RX6 := ⟨_, _, cb_4, by decide, am_t1 130 (by decide +kernel) rfl, rfl, by decide +kernel, rfl⟩
theorem fk_RX6_27 : ∃ (C : String) (T : u_T), am_CB 4 C T 3 ∧ 1 < 3 ∧ Cond.fieldLink RX6 27 (T 1).1 (T 1).2.1 (T 1).2.2.1 ∈ am_WL ∧ (T 1).2.2.2 = true ∧ parseFieldDescriptor (T 1).2.2.1 = some (.array .int) ∧ (T 1).1 = RX6 := ⟨_, _, cb_4, by decide, am_t1 131 (by decide +kernel) rfl, rfl, by decide +kernel, rfl⟩
theorem jl_RX0_3 : Cond.methodLink RX0 3 objectInit ∈ am_WL := am_t1 36 (by decide +kernel) rfl
theorem fk_RX0_9 : ∃ (C : String) (T : u_T), am_CB 0 C T 16 ∧ 0 < 16 ∧ Cond.fieldLink RX0 9 (T 0).1 (T 0).2.1 (T 0).2.2.1 ∈ am_WL ∧ (T 0).2.2.2 = false ∧ parseFieldDescriptor (T 0).2.2.1 = some .int := ⟨_, _, cb_0, by decide, am_t1 37 (by decide +kernel) rfl, rfl, by decide +kernel⟩
theorem jcb_12 : (Int8.ofInt 12).toInt32 = 12 := by decide
theorem fk_RX0_15 : ∃ (C : String) (T : u_T), am_CB 0 C T 16 ∧ 1 < 16 ∧ Cond.fieldLink RX0 15 (T 1).1 (T 1).2.1 (T 1).2.2.1 ∈ am_WL ∧ (T 1).2.2.2 = true ∧ parseFieldDescriptor (T 1).2.2.1 = some (.array .int) ∧ (T 1).1 = RX0 := ⟨_, _, cb_0, by decide, am_t1 41 (by decide +kernel) rfl, rfl, by decide +kernel, rfl⟩
theorem fk_RX0_19 : ∃ (C : String) (T : u_T), am_CB 0 C T 16 ∧ 2 < 16 ∧ Cond.fieldLink RX0 19 (T 2).1 (T 2).2.1 (T 2).2.2.1 ∈ am_WL ∧ (T 2).2.2.2 = true ∧ parseFieldDescriptor (T 2).2.2.1 = some (.array .int) ∧ (T 2).1 = RX0 := ⟨_, _, cb_0, by decide, am_t1 45 (by decide +kernel) rfl, rfl, by decide +kernel, rfl⟩
theorem fk_RX0_22 : ∃ (C : String) (T : u_T), am_CB 0 C T 16 ∧ 3 < 16 ∧ Cond.fieldLink RX0 22 (T 3).1 (T 3).2.1 (T 3).2.2.1 ∈ am_WL ∧ (T 3).2.2.2 = true ∧ parseFieldDescriptor (T 3).2.2.1 = some (.array .int) ∧ (T 3).1 = RX0 := ⟨_, _, cb_0, by decide, am_t1 47 (by decide +kernel) rfl, rfl, by decide +kernel, rfl⟩
theorem fk_RX0_25 : ∃ (C : String) (T : u_T), am_CB 0 C T 16 ∧ 4 < 16 ∧ Cond.fieldLink RX0 25 (T 4).1 (T 4).2.1 (T 4).2.2.1 ∈ am_WL ∧ (T 4).2.2.2 = true ∧ parseFieldDescriptor (T 4).2.2.1 = some (.array .int) ∧ (T 4).1 = RX0 := ⟨_, _, cb_0, by decide, am_t1 50 (by decide +kernel) rfl, rfl, by decide +kernel, rfl⟩
theorem fk_RX0_28 : ∃ (C : String) (T : u_T), am_CB 0 C T 16 ∧ 5 < 16 ∧ Cond.fieldLink RX0 28 (T 5).1 (T 5).2.1 (T 5).2.2.1 ∈ am_WL ∧ (T 5).2.2.2 = true ∧ parseFieldDescriptor (T 5).2.2.1 = some (.array .int) ∧ (T 5).1 = RX0 := ⟨_, _, cb_0, by decide, am_t1 53 (by decide +kernel) rfl, rfl, by decide +kernel, rfl⟩
theorem fk_RX0_31 : ∃ (C : String) (T : u_T), am_CB 0 C T 16 ∧ 6 < 16 ∧ Cond.fieldLink RX0 31 (T 6).1 (T 6).2.1 (T 6).2.2.1 ∈ am_WL ∧ (T 6).2.2.2 = true ∧ parseFieldDescriptor (T 6).2.2.1 = some (.array .int) ∧ (T 6).1 = RX0 := ⟨_, _, cb_0, by decide, am_t1 56 (by decide +kernel) rfl, rfl, by decide +kernel, rfl⟩
theorem fk_RX0_34 : ∃ (C : String) (T : u_T), am_CB 0 C T 16 ∧ 7 < 16 ∧ Cond.fieldLink RX0 34 (T 7).1 (T 7).2.1 (T 7).2.2.1 ∈ am_WL ∧ (T 7).2.2.2 = true ∧ parseFieldDescriptor (T 7).2.2.1 = some (.array .int) ∧ (T 7).1 = RX0 := ⟨_, _, cb_0, by decide, am_t1 59 (by decide +kernel) rfl, rfl, by decide +kernel, rfl⟩
theorem fk_RX0_37 : ∃ (C : String) (T : u_T), am_CB 0 C T 16 ∧ 8 < 16 ∧ Cond.fieldLink RX0 37 (T 8).1 (T 8).2.1 (T 8).2.2.1 ∈ am_WL ∧ (T 8).2.2.2 = false ∧ parseFieldDescriptor (T 8).2.2.1 = some .int := ⟨_, _, cb_0, by decide, am_t1 62 (by decide +kernel) rfl, rfl, by decide +kernel⟩
theorem fk_RX0_40 : ∃ (C : String) (T : u_T), am_CB 0 C T 16 ∧ 9 < 16 ∧ Cond.fieldLink RX0 40 (T 9).1 (T 9).2.1 (T 9).2.2.1 ∈ am_WL ∧ (T 9).2.2.2 = true ∧ parseFieldDescriptor (T 9).2.2.1 = some (.array .int) ∧ (T 9).1 = RX0 := ⟨_, _, cb_0, by decide, am_t1 65 (by decide +kernel) rfl, rfl, by decide +kernel, rfl⟩
theorem fk_RX0_43 : ∃ (C : String) (T : u_T), am_CB 0 C T 16 ∧ 10 < 16 ∧ Cond.fieldLink RX0 43 (T 10).1 (T 10).2.1 (T 10).2.2.1 ∈ am_WL ∧ (T 10).2.2.2 = true ∧ parseFieldDescriptor (T 10).2.2.1 = some (.array .int) ∧ (T 10).1 = RX0 := ⟨_, _, cb_0, by decide, am_t1 68 (by decide +kernel) rfl, rfl, by decide +kernel, rfl⟩
theorem fk_RX0_46 : ∃ (C : String) (T : u_T), am_CB 0 C T 16 ∧ 11 < 16 ∧ Cond.fieldLink RX0 46 (T 11).1 (T 11).2.1 (T 11).2.2.1 ∈ am_WL ∧ (T 11).2.2.2 = true ∧ parseFieldDescriptor (T 11).2.2.1 = some (.array .int) ∧ (T 11).1 = RX0 := ⟨_, _, cb_0, by decide, am_t1 70 (by decide +kernel) rfl, rfl, by decide +kernel, rfl⟩
theorem fk_RX0_49 : ∃ (C : String) (T : u_T), am_CB 0 C T 16 ∧ 12 < 16 ∧ Cond.fieldLink RX0 49 (T 12).1 (T 12).2.1 (T 12).2.2.1 ∈ am_WL ∧ (T 12).2.2.2 = false ∧ parseFieldDescriptor (T 12).2.2.1 = some .int := ⟨_, _, cb_0, by decide, am_t1 73 (by decide +kernel) rfl, rfl, by decide +kernel⟩
theorem jci_m1 : Int32.ofInt (-1) = (-1) := by decide
theorem fk_RX0_52 : ∃ (C : String) (T : u_T), am_CB 0 C T 16 ∧ 13 < 16 ∧ Cond.fieldLink RX0 52 (T 13).1 (T 13).2.1 (T 13).2.2.1 ∈ am_WL ∧ (T 13).2.2.2 = false ∧ parseFieldDescriptor (T 13).2.2.1 = some .int := ⟨_, _, cb_0, by decide, am_t1 76 (by decide +kernel) rfl, rfl, by decide +kernel⟩
theorem fk_RX0_55 : ∃ (C : String) (T : u_T), am_CB 0 C T 16 ∧ 14 < 16 ∧ Cond.fieldLink RX0 55 (T 14).1 (T 14).2.1 (T 14).2.2.1 ∈ am_WL ∧ (T 14).2.2.2 = false ∧ parseFieldDescriptor (T 14).2.2.1 = some .int := ⟨_, _, cb_0, by decide, am_t1 79 (by decide +kernel) rfl, rfl, by decide +kernel⟩
theorem fk_RX0_58 : ∃ (C : String) (T : u_T), am_CB 0 C T 16 ∧ 15 < 16 ∧ Cond.fieldLink RX0 58 (T 15).1 (T 15).2.1 (T 15).2.2.1 ∈ am_WL ∧ (T 15).2.2.2 = false ∧ parseFieldDescriptor (T 15).2.2.1 = some .int := ⟨_, _, cb_0, by decide, am_t1 82 (by decide +kernel) rfl, rfl, by decide +kernel⟩
theorem jl_RX1_3 : Cond.methodLink RX1 3 objectInit ∈ am_WL := am_t1 151 (by decide +kernel) rfl
theorem jn_RX1_9 : Cond.classLink RX1 9 RX6 ∈ am_WL := am_t1 152 (by decide +kernel) rfl
theorem jins_4 : Cond.instantiable RX6 3 ∈ am_WL := am_t1 119 (by decide +kernel) rfl
theorem jini_4 : Cond.initialized RX6 ∈ am_WL := am_t1 4 (by decide +kernel) rfl
theorem jdf_4 : ∀ j, j < 3 → defaultValue (tyX6 j) = vp_V [.int 0, .null, .int 0] j
  | 0, _ => rfl
  | 1, _ => rfl
  | 2, _ => rfl
  | j + 3, h => absurd h (by omega)
theorem jcb_16 : (Int8.ofInt 16).toInt32 = 16 := by decide
theorem mi_yX6_init : ak_MI yX6_init cX6_init 3 2 := ⟨⟨⟨am_t1 4 (by decide +kernel) rfl, am_t1 122 (by decide +kernel) rfl⟩, by decide +kernel, by decide⟩, am_t1 121 (by decide +kernel) rfl, rfl⟩
theorem jm_RX1_11 : Cond.methodLink RX1 11 yX6_init ∈ am_WL := am_t1 153 (by decide +kernel) rfl
theorem fk_RX1_14 : ∃ (C : String) (T : u_T), am_CB 1 C T 3 ∧ 0 < 3 ∧ Cond.fieldLink RX1 14 (T 0).1 (T 0).2.1 (T 0).2.2.1 ∈ am_WL ∧ (T 0).2.2.2 = true ∧ parseFieldDescriptor (T 0).2.2.1 = some (.object "SlipperTruce$Table") ∧ (T 0).1 = RX1 := ⟨_, _, cb_1, by decide, am_t1 154 (by decide +kernel) rfl, rfl, by decide +kernel, rfl⟩
theorem jcs_400 : (Int16.ofInt 400).toInt32 = 400 := by decide
theorem jci_2 : Int32.ofInt 2 = 2 := by decide
theorem fk_RX1_20 : ∃ (C : String) (T : u_T), am_CB 1 C T 3 ∧ 1 < 3 ∧ Cond.fieldLink RX1 20 (T 1).1 (T 1).2.1 (T 1).2.2.1 ∈ am_WL ∧ (T 1).2.2.2 = true ∧ parseFieldDescriptor (T 1).2.2.1 = some (.object "SlipperTruce$Table") ∧ (T 1).1 = RX1 := ⟨_, _, cb_1, by decide, am_t1 157 (by decide +kernel) rfl, rfl, by decide +kernel, rfl⟩
theorem jcb_64 : (Int8.ofInt 64).toInt32 = 64 := by decide
theorem fk_RX1_23 : ∃ (C : String) (T : u_T), am_CB 1 C T 3 ∧ 2 < 3 ∧ Cond.fieldLink RX1 23 (T 2).1 (T 2).2.1 (T 2).2.2.1 ∈ am_WL ∧ (T 2).2.2.2 = true ∧ parseFieldDescriptor (T 2).2.2.1 = some (.array .int) ∧ (T 2).1 = RX1 := ⟨_, _, cb_1, by decide, am_t1 159 (by decide +kernel) rfl, rfl, by decide +kernel, rfl⟩
theorem jl_RX7_3 : Cond.methodLink RX7 3 objectInit ∈ am_WL := am_t1 30 (by decide +kernel) rfl
theorem jn_RX7_9 : Cond.classLink RX7 9 RX0 ∈ am_WL := am_t1 31 (by decide +kernel) rfl
theorem jins_0 : Cond.instantiable RX0 16 ∈ am_WL := am_t1 32 (by decide +kernel) rfl
theorem jini_0 : Cond.initialized RX0 ∈ am_WL := am_t1 3 (by decide +kernel) rfl
theorem jdf_0 : ∀ j, j < 16 → defaultValue (tyX0 j) = vp_V [.int 0, .null, .null, .null, .null, .null, .null, .null, .int 0, .null, .null, .null, .int 0, .int 0, .int 0, .int 0] j
  | 0, _ => rfl
  | 1, _ => rfl
  | 2, _ => rfl
  | 3, _ => rfl
  | 4, _ => rfl
  | 5, _ => rfl
  | 6, _ => rfl
  | 7, _ => rfl
  | 8, _ => rfl
  | 9, _ => rfl
  | 10, _ => rfl
  | 11, _ => rfl
  | 12, _ => rfl
  | 13, _ => rfl
  | 14, _ => rfl
  | 15, _ => rfl
  | j + 16, h => absurd h (by omega)
theorem mi_yX0_init : ak_MI yX0_init cX0_init 1 0 := ⟨⟨⟨am_t1 3 (by decide +kernel) rfl, am_t1 35 (by decide +kernel) rfl⟩, by decide +kernel, by decide⟩, am_t1 34 (by decide +kernel) rfl, rfl⟩
theorem nn_RX7_11 : (RX7, 11, yX0_init) ∈ am_nl := List.mem_of_getElem? (i := 9) rfl
theorem fk_RX7_12 : ∃ (C : String) (T : u_T), am_CB 5 C T 12 ∧ 0 < 12 ∧ Cond.fieldLink RX7 12 (T 0).1 (T 0).2.1 (T 0).2.2.1 ∈ am_WL ∧ (T 0).2.2.2 = true ∧ parseFieldDescriptor (T 0).2.2.1 = some (.object "SlipperTruce$Front") ∧ (T 0).1 = RX7 := ⟨_, _, cb_5, by decide, am_t1 167 (by decide +kernel) rfl, rfl, by decide +kernel, rfl⟩
theorem jn_RX7_18 : Cond.classLink RX7 18 RX6 ∈ am_WL := am_t1 118 (by decide +kernel) rfl
theorem jcs_150 : (Int16.ofInt 150).toInt32 = 150 := by decide
theorem jm_RX7_20 : Cond.methodLink RX7 20 yX6_init ∈ am_WL := am_t1 120 (by decide +kernel) rfl
theorem fk_RX7_23 : ∃ (C : String) (T : u_T), am_CB 5 C T 12 ∧ 1 < 12 ∧ Cond.fieldLink RX7 23 (T 1).1 (T 1).2.1 (T 1).2.2.1 ∈ am_WL ∧ (T 1).2.2.2 = true ∧ parseFieldDescriptor (T 1).2.2.1 = some (.object "SlipperTruce$Table") ∧ (T 1).1 = RX7 := ⟨_, _, cb_5, by decide, am_t1 170 (by decide +kernel) rfl, rfl, by decide +kernel, rfl⟩
theorem jn_RX7_27 : Cond.classLink RX7 27 RX1 ∈ am_WL := am_t1 146 (by decide +kernel) rfl
theorem jins_1 : Cond.instantiable RX1 3 ∈ am_WL := am_t1 147 (by decide +kernel) rfl
theorem jini_1 : Cond.initialized RX1 ∈ am_WL := am_t1 6 (by decide +kernel) rfl
theorem jdf_1 : ∀ j, j < 3 → defaultValue (tyX1 j) = vp_V [.null, .null, .null] j
  | 0, _ => rfl
  | 1, _ => rfl
  | 2, _ => rfl
  | j + 3, h => absurd h (by omega)
theorem mi_yX1_init : ak_MI yX1_init cX1_init 1 0 := ⟨⟨⟨am_t1 6 (by decide +kernel) rfl, am_t1 150 (by decide +kernel) rfl⟩, by decide +kernel, by decide⟩, am_t1 149 (by decide +kernel) rfl, rfl⟩
theorem nn_RX7_29 : (RX7, 29, yX1_init) ∈ am_nl := List.mem_of_getElem? (i := 10) rfl
theorem fk_RX7_30 : ∃ (C : String) (T : u_T), am_CB 5 C T 12 ∧ 2 < 12 ∧ Cond.fieldLink RX7 30 (T 2).1 (T 2).2.1 (T 2).2.2.1 ∈ am_WL ∧ (T 2).2.2.2 = true ∧ parseFieldDescriptor (T 2).2.2.1 = some (.object "SlipperTruce$Law") ∧ (T 2).1 = RX7 := ⟨_, _, cb_5, by decide, am_t1 173 (by decide +kernel) rfl, rfl, by decide +kernel, rfl⟩
theorem fk_RX7_34 : ∃ (C : String) (T : u_T), am_CB 5 C T 12 ∧ 3 < 12 ∧ Cond.fieldLink RX7 34 (T 3).1 (T 3).2.1 (T 3).2.2.1 ∈ am_WL ∧ (T 3).2.2.2 = true ∧ parseFieldDescriptor (T 3).2.2.1 = some (.object "SlipperTruce$Table") ∧ (T 3).1 = RX7 := ⟨_, _, cb_5, by decide, am_t1 175 (by decide +kernel) rfl, rfl, by decide +kernel, rfl⟩
theorem fk_RX7_37 : ∃ (C : String) (T : u_T), am_CB 5 C T 12 ∧ 4 < 12 ∧ Cond.fieldLink RX7 37 (T 4).1 (T 4).2.1 (T 4).2.2.1 ∈ am_WL ∧ (T 4).2.2.2 = true ∧ parseFieldDescriptor (T 4).2.2.1 = some (.object "SlipperTruce$Table") ∧ (T 4).1 = RX7 := ⟨_, _, cb_5, by decide, am_t1 177 (by decide +kernel) rfl, rfl, by decide +kernel, rfl⟩
theorem fk_RX7_40 : ∃ (C : String) (T : u_T), am_CB 5 C T 12 ∧ 5 < 12 ∧ Cond.fieldLink RX7 40 (T 5).1 (T 5).2.1 (T 5).2.2.1 ∈ am_WL ∧ (T 5).2.2.2 = true ∧ parseFieldDescriptor (T 5).2.2.1 = some (.object "SlipperTruce$Table") ∧ (T 5).1 = RX7 := ⟨_, _, cb_5, by decide, am_t1 179 (by decide +kernel) rfl, rfl, by decide +kernel, rfl⟩
theorem jcb_8 : (Int8.ofInt 8).toInt32 = 8 := by decide
theorem jci_3 : Int32.ofInt 3 = 3 := by decide
theorem fk_RX7_43 : ∃ (C : String) (T : u_T), am_CB 5 C T 12 ∧ 6 < 12 ∧ Cond.fieldLink RX7 43 (T 6).1 (T 6).2.1 (T 6).2.2.1 ∈ am_WL ∧ (T 6).2.2.2 = true ∧ parseFieldDescriptor (T 6).2.2.1 = some (.object "SlipperTruce$Table") ∧ (T 6).1 = RX7 := ⟨_, _, cb_5, by decide, am_t1 181 (by decide +kernel) rfl, rfl, by decide +kernel, rfl⟩
theorem fk_RX7_46 : ∃ (C : String) (T : u_T), am_CB 5 C T 12 ∧ 7 < 12 ∧ Cond.fieldLink RX7 46 (T 7).1 (T 7).2.1 (T 7).2.2.1 ∈ am_WL ∧ (T 7).2.2.2 = true ∧ parseFieldDescriptor (T 7).2.2.1 = some (.object "SlipperTruce$Table") ∧ (T 7).1 = RX7 := ⟨_, _, cb_5, by decide, am_t1 183 (by decide +kernel) rfl, rfl, by decide +kernel, rfl⟩
theorem fk_RX7_49 : ∃ (C : String) (T : u_T), am_CB 5 C T 12 ∧ 8 < 12 ∧ Cond.fieldLink RX7 49 (T 8).1 (T 8).2.1 (T 8).2.2.1 ∈ am_WL ∧ (T 8).2.2.2 = true ∧ parseFieldDescriptor (T 8).2.2.1 = some (.object "SlipperTruce$Table") ∧ (T 8).1 = RX7 := ⟨_, _, cb_5, by decide, am_t1 185 (by decide +kernel) rfl, rfl, by decide +kernel, rfl⟩
theorem fk_RX7_52 : ∃ (C : String) (T : u_T), am_CB 5 C T 12 ∧ 9 < 12 ∧ Cond.fieldLink RX7 52 (T 9).1 (T 9).2.1 (T 9).2.2.1 ∈ am_WL ∧ (T 9).2.2.2 = true ∧ parseFieldDescriptor (T 9).2.2.1 = some (.object "SlipperTruce$Table") ∧ (T 9).1 = RX7 := ⟨_, _, cb_5, by decide, am_t1 187 (by decide +kernel) rfl, rfl, by decide +kernel, rfl⟩
theorem jcb_7 : (Int8.ofInt 7).toInt32 = 7 := by decide
theorem fk_RX7_55 : ∃ (C : String) (T : u_T), am_CB 5 C T 12 ∧ 10 < 12 ∧ Cond.fieldLink RX7 55 (T 10).1 (T 10).2.1 (T 10).2.2.1 ∈ am_WL ∧ (T 10).2.2.2 = true ∧ parseFieldDescriptor (T 10).2.2.1 = some (.object "SlipperTruce$Table") ∧ (T 10).1 = RX7 := ⟨_, _, cb_5, by decide, am_t1 189 (by decide +kernel) rfl, rfl, by decide +kernel, rfl⟩
theorem fk_RX7_58 : ∃ (C : String) (T : u_T), am_CB 5 C T 12 ∧ 11 < 12 ∧ Cond.fieldLink RX7 58 (T 11).1 (T 11).2.1 (T 11).2.2.1 ∈ am_WL ∧ (T 11).2.2.2 = true ∧ parseFieldDescriptor (T 11).2.2.1 = some (.object "SlipperTruce$Table") ∧ (T 11).1 = RX7 := ⟨_, _, cb_5, by decide, am_t1 191 (by decide +kernel) rfl, rfl, by decide +kernel, rfl⟩
theorem jl_RX3_3 : Cond.methodLink RX3 3 objectInit ∈ am_WL := am_t1 225 (by decide +kernel) rfl
theorem jcb_6 : (Int8.ofInt 6).toInt32 = 6 := by decide
theorem jn_RX3_9 : Cond.classLink RX3 9 RX0 ∈ am_WL := am_t1 226 (by decide +kernel) rfl
theorem fk_RX3_11 : ∃ (C : String) (T : u_T), am_CB 2 C T 4 ∧ 0 < 4 ∧ Cond.fieldLink RX3 11 (T 0).1 (T 0).2.1 (T 0).2.2.1 ∈ am_WL ∧ (T 0).2.2.2 = true ∧ parseFieldDescriptor (T 0).2.2.1 = some (.array (.object "SlipperTruce$Front")) ∧ (T 0).1 = RX3 := ⟨_, _, cb_2, by decide, am_t1 229 (by decide +kernel) rfl, rfl, by decide +kernel, rfl⟩
theorem fk_RX3_17 : ∃ (C : String) (T : u_T), am_CB 2 C T 4 ∧ 1 < 4 ∧ Cond.fieldLink RX3 17 (T 1).1 (T 1).2.1 (T 1).2.2.1 ∈ am_WL ∧ (T 1).2.2.2 = true ∧ parseFieldDescriptor (T 1).2.2.1 = some (.array .int) ∧ (T 1).1 = RX3 := ⟨_, _, cb_2, by decide, am_t1 230 (by decide +kernel) rfl, rfl, by decide +kernel, rfl⟩
theorem fk_RX3_21 : ∃ (C : String) (T : u_T), am_CB 2 C T 4 ∧ 2 < 4 ∧ Cond.fieldLink RX3 21 (T 2).1 (T 2).2.1 (T 2).2.2.1 ∈ am_WL ∧ (T 2).2.2.2 = false ∧ parseFieldDescriptor (T 2).2.2.1 = some .int := ⟨_, _, cb_2, by decide, am_t1 231 (by decide +kernel) rfl, rfl, by decide +kernel⟩
theorem fk_RX3_25 : ∃ (C : String) (T : u_T), am_CB 2 C T 4 ∧ 3 < 4 ∧ Cond.fieldLink RX3 25 (T 3).1 (T 3).2.1 (T 3).2.2.1 ∈ am_WL ∧ (T 3).2.2.2 = false ∧ parseFieldDescriptor (T 3).2.2.1 = some .int := ⟨_, _, cb_2, by decide, am_t1 232 (by decide +kernel) rfl, rfl, by decide +kernel⟩
theorem nn_RX3_28 : (RX3, 28, yX0_init) ∈ am_nl := List.mem_of_getElem? (i := 6) rfl
theorem jy_0 : vp_in (0 : Int32) 6 ∧ (0 : Int32).toNatClampNeg = 0 := ⟨vp_in_nI (n := 0) (by decide) (by decide), by decide⟩
theorem jy_1 : vp_in (1 : Int32) 6 ∧ (1 : Int32).toNatClampNeg = 1 := ⟨vp_in_nI (n := 1) (by decide) (by decide), by decide⟩
theorem jy_2 : vp_in (2 : Int32) 6 ∧ (2 : Int32).toNatClampNeg = 2 := ⟨vp_in_nI (n := 2) (by decide) (by decide), by decide⟩
theorem jy_3 : vp_in (3 : Int32) 6 ∧ (3 : Int32).toNatClampNeg = 3 := ⟨vp_in_nI (n := 3) (by decide) (by decide), by decide⟩
theorem jy_4 : vp_in (4 : Int32) 6 ∧ (4 : Int32).toNatClampNeg = 4 := ⟨vp_in_nI (n := 4) (by decide) (by decide), by decide⟩
theorem jy_5 : vp_in (5 : Int32) 6 ∧ (5 : Int32).toNatClampNeg = 5 := ⟨vp_in_nI (n := 5) (by decide) (by decide), by decide⟩
theorem jl_RX4_3 : Cond.methodLink RX4 3 objectInit ∈ am_WL := am_t2 8 (by decide +kernel) rfl
theorem fk_RX4_9 : ∃ (C : String) (T : u_T), am_CB 3 C T 11 ∧ 0 < 11 ∧ Cond.fieldLink RX4 9 (T 0).1 (T 0).2.1 (T 0).2.2.1 ∈ am_WL ∧ (T 0).2.2.2 = true ∧ parseFieldDescriptor (T 0).2.2.1 = some (.array .int) ∧ (T 0).1 = RX4 := ⟨_, _, cb_3, by decide, am_t2 13 (by decide +kernel) rfl, rfl, by decide +kernel, rfl⟩
theorem fk_RX4_15 : ∃ (C : String) (T : u_T), am_CB 3 C T 11 ∧ 1 < 11 ∧ Cond.fieldLink RX4 15 (T 1).1 (T 1).2.1 (T 1).2.2.1 ∈ am_WL ∧ (T 1).2.2.2 = false ∧ parseFieldDescriptor (T 1).2.2.1 = some .int := ⟨_, _, cb_3, by decide, am_t2 14 (by decide +kernel) rfl, rfl, by decide +kernel⟩
theorem jcs_401 : (Int16.ofInt 401).toInt32 = 401 := by decide
theorem fk_RX4_19 : ∃ (C : String) (T : u_T), am_CB 3 C T 11 ∧ 2 < 11 ∧ Cond.fieldLink RX4 19 (T 2).1 (T 2).2.1 (T 2).2.2.1 ∈ am_WL ∧ (T 2).2.2.2 = true ∧ parseFieldDescriptor (T 2).2.2.1 = some (.array .int) ∧ (T 2).1 = RX4 := ⟨_, _, cb_3, by decide, am_t2 16 (by decide +kernel) rfl, rfl, by decide +kernel, rfl⟩
theorem fk_RX4_22 : ∃ (C : String) (T : u_T), am_CB 3 C T 11 ∧ 3 < 11 ∧ Cond.fieldLink RX4 22 (T 3).1 (T 3).2.1 (T 3).2.2.1 ∈ am_WL ∧ (T 3).2.2.2 = true ∧ parseFieldDescriptor (T 3).2.2.1 = some (.array .int) ∧ (T 3).1 = RX4 := ⟨_, _, cb_3, by decide, am_t2 17 (by decide +kernel) rfl, rfl, by decide +kernel, rfl⟩
theorem fk_RX4_25 : ∃ (C : String) (T : u_T), am_CB 3 C T 11 ∧ 4 < 11 ∧ Cond.fieldLink RX4 25 (T 4).1 (T 4).2.1 (T 4).2.2.1 ∈ am_WL ∧ (T 4).2.2.2 = true ∧ parseFieldDescriptor (T 4).2.2.1 = some (.array .int) ∧ (T 4).1 = RX4 := ⟨_, _, cb_3, by decide, am_t2 18 (by decide +kernel) rfl, rfl, by decide +kernel, rfl⟩
theorem fk_RX4_28 : ∃ (C : String) (T : u_T), am_CB 3 C T 11 ∧ 5 < 11 ∧ Cond.fieldLink RX4 28 (T 5).1 (T 5).2.1 (T 5).2.2.1 ∈ am_WL ∧ (T 5).2.2.2 = false ∧ parseFieldDescriptor (T 5).2.2.1 = some .int := ⟨_, _, cb_3, by decide, am_t2 19 (by decide +kernel) rfl, rfl, by decide +kernel⟩
theorem fk_RX4_31 : ∃ (C : String) (T : u_T), am_CB 3 C T 11 ∧ 6 < 11 ∧ Cond.fieldLink RX4 31 (T 6).1 (T 6).2.1 (T 6).2.2.1 ∈ am_WL ∧ (T 6).2.2.2 = false ∧ parseFieldDescriptor (T 6).2.2.1 = some .int := ⟨_, _, cb_3, by decide, am_t2 20 (by decide +kernel) rfl, rfl, by decide +kernel⟩
theorem fk_RX4_34 : ∃ (C : String) (T : u_T), am_CB 3 C T 11 ∧ 7 < 11 ∧ Cond.fieldLink RX4 34 (T 7).1 (T 7).2.1 (T 7).2.2.1 ∈ am_WL ∧ (T 7).2.2.2 = false ∧ parseFieldDescriptor (T 7).2.2.1 = some .int := ⟨_, _, cb_3, by decide, am_t2 21 (by decide +kernel) rfl, rfl, by decide +kernel⟩
theorem fk_RX4_37 : ∃ (C : String) (T : u_T), am_CB 3 C T 11 ∧ 8 < 11 ∧ Cond.fieldLink RX4 37 (T 8).1 (T 8).2.1 (T 8).2.2.1 ∈ am_WL ∧ (T 8).2.2.2 = false ∧ parseFieldDescriptor (T 8).2.2.1 = some .int := ⟨_, _, cb_3, by decide, am_t2 23 (by decide +kernel) rfl, rfl, by decide +kernel⟩
theorem jn_RX4_40 : Cond.classLink RX4 40 RX1 ∈ am_WL := am_t2 9 (by decide +kernel) rfl
theorem nn_RX4_42 : (RX4, 42, yX1_init) ∈ am_nl := List.mem_of_getElem? (i := 7) rfl
theorem fk_RX4_43 : ∃ (C : String) (T : u_T), am_CB 3 C T 11 ∧ 9 < 11 ∧ Cond.fieldLink RX4 43 (T 9).1 (T 9).2.1 (T 9).2.2.1 ∈ am_WL ∧ (T 9).2.2.2 = true ∧ parseFieldDescriptor (T 9).2.2.1 = some (.object "SlipperTruce$Law") ∧ (T 9).1 = RX4 := ⟨_, _, cb_3, by decide, am_t2 25 (by decide +kernel) rfl, rfl, by decide +kernel, rfl⟩
theorem jn_RX4_47 : Cond.classLink RX4 47 RX6 ∈ am_WL := am_t2 11 (by decide +kernel) rfl
theorem jm_RX4_49 : Cond.methodLink RX4 49 yX6_init ∈ am_WL := am_t2 12 (by decide +kernel) rfl
theorem fk_RX4_52 : ∃ (C : String) (T : u_T), am_CB 3 C T 11 ∧ 10 < 11 ∧ Cond.fieldLink RX4 52 (T 10).1 (T 10).2.1 (T 10).2.2.1 ∈ am_WL ∧ (T 10).2.2.2 = true ∧ parseFieldDescriptor (T 10).2.2.1 = some (.object "SlipperTruce$Table") ∧ (T 10).1 = RX4 := ⟨_, _, cb_3, by decide, am_t2 27 (by decide +kernel) rfl, rfl, by decide +kernel, rfl⟩
theorem jl_RX9_1 : Cond.methodLink RX9 1 objectInit ∈ am_WL := am_t1 22 (by decide +kernel) rfl
theorem jn_RX9_7 : Cond.classLink RX9 7 RX7 ∈ am_WL := am_t1 25 (by decide +kernel) rfl
theorem jins_5 : Cond.instantiable RX7 12 ∈ am_WL := am_t1 26 (by decide +kernel) rfl
theorem jini_5 : Cond.initialized RX7 ∈ am_WL := am_t1 2 (by decide +kernel) rfl
theorem jdf_5 : ∀ j, j < 12 → defaultValue (tyX7 j) = vp_V [.null, .null, .null, .null, .null, .null, .null, .null, .null, .null, .null, .null] j
  | 0, _ => rfl
  | 1, _ => rfl
  | 2, _ => rfl
  | 3, _ => rfl
  | 4, _ => rfl
  | 5, _ => rfl
  | 6, _ => rfl
  | 7, _ => rfl
  | 8, _ => rfl
  | 9, _ => rfl
  | 10, _ => rfl
  | 11, _ => rfl
  | j + 12, h => absurd h (by omega)
theorem mi_yX7_init : ak_MI yX7_init cX7_init 1 0 := ⟨⟨⟨am_t1 2 (by decide +kernel) rfl, am_t1 29 (by decide +kernel) rfl⟩, by decide +kernel, by decide⟩, am_t1 28 (by decide +kernel) rfl, rfl⟩
theorem nn_RX9_9 : (RX9, 9, yX7_init) ∈ am_nl := List.mem_of_getElem? (i := 4) rfl
theorem fk_RX9_10 : ∃ (C : String) (T : u_T), am_CB 6 C T 6 ∧ 0 < 6 ∧ Cond.fieldLink RX9 10 (T 0).1 (T 0).2.1 (T 0).2.2.1 ∈ am_WL ∧ (T 0).2.2.2 = true ∧ parseFieldDescriptor (T 0).2.2.1 = some (.object "SlipperTruce$War") ∧ (T 0).1 = RX9 := ⟨_, _, cb_6, by decide, am_t2 52 (by decide +kernel) rfl, rfl, by decide +kernel, rfl⟩
theorem fk_RX9_16 : ∃ (C : String) (T : u_T), am_CB 6 C T 6 ∧ 1 < 6 ∧ Cond.fieldLink RX9 16 (T 1).1 (T 1).2.1 (T 1).2.2.1 ∈ am_WL ∧ (T 1).2.2.2 = true ∧ parseFieldDescriptor (T 1).2.2.1 = some (.object "SlipperTruce$War") ∧ (T 1).1 = RX9 := ⟨_, _, cb_6, by decide, am_t2 53 (by decide +kernel) rfl, rfl, by decide +kernel, rfl⟩
theorem fk_RX9_19 : ∃ (C : String) (T : u_T), am_CB 6 C T 6 ∧ 2 < 6 ∧ Cond.fieldLink RX9 19 (T 2).1 (T 2).2.1 (T 2).2.2.1 ∈ am_WL ∧ (T 2).2.2.2 = false ∧ parseFieldDescriptor (T 2).2.2.1 = some .boolean := ⟨_, _, cb_6, by decide, am_t2 54 (by decide +kernel) rfl, rfl, by decide +kernel⟩
theorem jn_RX9_23 : Cond.classLink RX9 23 RX0 ∈ am_WL := am_t1 218 (by decide +kernel) rfl
theorem nn_RX9_25 : (RX9, 25, yX0_init) ∈ am_nl := List.mem_of_getElem? (i := 0) rfl
theorem fk_RX9_26 : ∃ (C : String) (T : u_T), am_CB 6 C T 6 ∧ 3 < 6 ∧ Cond.fieldLink RX9 26 (T 3).1 (T 3).2.1 (T 3).2.2.1 ∈ am_WL ∧ (T 3).2.2.2 = true ∧ parseFieldDescriptor (T 3).2.2.1 = some (.object "SlipperTruce$Front") ∧ (T 3).1 = RX9 := ⟨_, _, cb_6, by decide, am_t2 55 (by decide +kernel) rfl, rfl, by decide +kernel, rfl⟩
theorem jn_RX9_30 : Cond.classLink RX9 30 RX3 ∈ am_WL := am_t1 220 (by decide +kernel) rfl
theorem jins_2 : Cond.instantiable RX3 4 ∈ am_WL := am_t1 221 (by decide +kernel) rfl
theorem jini_2 : Cond.initialized RX3 ∈ am_WL := am_t1 7 (by decide +kernel) rfl
theorem jdf_2 : ∀ j, j < 4 → defaultValue (tyX3 j) = vp_V [.null, .null, .int 0, .int 0] j
  | 0, _ => rfl
  | 1, _ => rfl
  | 2, _ => rfl
  | 3, _ => rfl
  | j + 4, h => absurd h (by omega)
theorem mi_yX3_init : ak_MI yX3_init cX3_init 2 0 := ⟨⟨⟨am_t1 7 (by decide +kernel) rfl, am_t1 224 (by decide +kernel) rfl⟩, by decide +kernel, by decide⟩, am_t1 223 (by decide +kernel) rfl, rfl⟩
theorem jm_RX9_32 : Cond.methodLink RX9 32 yX3_init ∈ am_WL := am_t1 222 (by decide +kernel) rfl
theorem fk_RX9_33 : ∃ (C : String) (T : u_T), am_CB 6 C T 6 ∧ 4 < 6 ∧ Cond.fieldLink RX9 33 (T 4).1 (T 4).2.1 (T 4).2.2.1 ∈ am_WL ∧ (T 4).2.2.2 = true ∧ parseFieldDescriptor (T 4).2.2.1 = some (.object "SlipperTruce$Past") ∧ (T 4).1 = RX9 := ⟨_, _, cb_6, by decide, am_t2 56 (by decide +kernel) rfl, rfl, by decide +kernel, rfl⟩
theorem jn_RX9_37 : Cond.classLink RX9 37 RX4 ∈ am_WL := am_t2 3 (by decide +kernel) rfl
theorem jins_3 : Cond.instantiable RX4 11 ∈ am_WL := am_t2 4 (by decide +kernel) rfl
theorem jini_3 : Cond.initialized RX4 ∈ am_WL := am_t1 8 (by decide +kernel) rfl
theorem jdf_3 : ∀ j, j < 11 → defaultValue (tyX4 j) = vp_V [.null, .int 0, .null, .null, .null, .int 0, .int 0, .int 0, .int 0, .null, .null] j
  | 0, _ => rfl
  | 1, _ => rfl
  | 2, _ => rfl
  | 3, _ => rfl
  | 4, _ => rfl
  | 5, _ => rfl
  | 6, _ => rfl
  | 7, _ => rfl
  | 8, _ => rfl
  | 9, _ => rfl
  | 10, _ => rfl
  | j + 11, h => absurd h (by omega)
theorem mi_yX4_init : ak_MI yX4_init cX4_init 1 0 := ⟨⟨⟨am_t1 8 (by decide +kernel) rfl, am_t2 7 (by decide +kernel) rfl⟩, by decide +kernel, by decide⟩, am_t2 6 (by decide +kernel) rfl, rfl⟩
theorem nn_RX9_39 : (RX9, 39, yX4_init) ∈ am_nl := List.mem_of_getElem? (i := 3) rfl
theorem fk_RX9_40 : ∃ (C : String) (T : u_T), am_CB 6 C T 6 ∧ 5 < 6 ∧ Cond.fieldLink RX9 40 (T 5).1 (T 5).2.1 (T 5).2.2.1 ∈ am_WL ∧ (T 5).2.2.2 = true ∧ parseFieldDescriptor (T 5).2.2.1 = some (.object "SlipperTruce$Reader") ∧ (T 5).1 = RX9 := ⟨_, _, cb_6, by decide, am_t2 57 (by decide +kernel) rfl, rfl, by decide +kernel, rfl⟩
theorem jl_RX10_1 : Cond.methodLink RX10 1 objectInit ∈ am_WL := am_t5 7 (by decide +kernel) rfl
theorem jcb_77 : (Int8.ofInt 77).toInt32 = 77 := by decide
theorem fk_RX10_7 : ∃ (C : String) (T : u_T), am_CB 7 C T 67 ∧ 1 < 67 ∧ Cond.fieldLink RX10 7 (T 1).1 (T 1).2.1 (T 1).2.2.1 ∈ am_WL ∧ (T 1).2.2.2 = true ∧ parseFieldDescriptor (T 1).2.2.1 = some (.array .int) ∧ (T 1).1 = RX10 := ⟨_, _, cb_7, by decide, am_t5 9 (by decide +kernel) rfl, rfl, by decide +kernel, rfl⟩
theorem jcs_462 : (Int16.ofInt 462).toInt32 = 462 := by decide
theorem fk_RX10_13 : ∃ (C : String) (T : u_T), am_CB 7 C T 67 ∧ 2 < 67 ∧ Cond.fieldLink RX10 13 (T 2).1 (T 2).2.1 (T 2).2.2.1 ∈ am_WL ∧ (T 2).2.2.2 = true ∧ parseFieldDescriptor (T 2).2.2.1 = some (.array .int) ∧ (T 2).1 = RX10 := ⟨_, _, cb_7, by decide, am_t5 10 (by decide +kernel) rfl, rfl, by decide +kernel, rfl⟩
theorem fk_RX10_16 : ∃ (C : String) (T : u_T), am_CB 7 C T 67 ∧ 4 < 67 ∧ Cond.fieldLink RX10 16 (T 4).1 (T 4).2.1 (T 4).2.2.1 ∈ am_WL ∧ (T 4).2.2.2 = true ∧ parseFieldDescriptor (T 4).2.2.1 = some (.array .int) ∧ (T 4).1 = RX10 := ⟨_, _, cb_7, by decide, am_t5 12 (by decide +kernel) rfl, rfl, by decide +kernel, rfl⟩
theorem fk_RX10_19 : ∃ (C : String) (T : u_T), am_CB 7 C T 67 ∧ 8 < 67 ∧ Cond.fieldLink RX10 19 (T 8).1 (T 8).2.1 (T 8).2.2.1 ∈ am_WL ∧ (T 8).2.2.2 = true ∧ parseFieldDescriptor (T 8).2.2.1 = some (.array .int) ∧ (T 8).1 = RX10 := ⟨_, _, cb_7, by decide, am_t5 16 (by decide +kernel) rfl, rfl, by decide +kernel, rfl⟩
theorem fk_RX10_22 : ∃ (C : String) (T : u_T), am_CB 7 C T 67 ∧ 9 < 67 ∧ Cond.fieldLink RX10 22 (T 9).1 (T 9).2.1 (T 9).2.2.1 ∈ am_WL ∧ (T 9).2.2.2 = true ∧ parseFieldDescriptor (T 9).2.2.1 = some (.array .int) ∧ (T 9).1 = RX10 := ⟨_, _, cb_7, by decide, am_t5 17 (by decide +kernel) rfl, rfl, by decide +kernel, rfl⟩
theorem fk_RX10_25 : ∃ (C : String) (T : u_T), am_CB 7 C T 67 ∧ 10 < 67 ∧ Cond.fieldLink RX10 25 (T 10).1 (T 10).2.1 (T 10).2.2.1 ∈ am_WL ∧ (T 10).2.2.2 = true ∧ parseFieldDescriptor (T 10).2.2.1 = some (.array .int) ∧ (T 10).1 = RX10 := ⟨_, _, cb_7, by decide, am_t5 18 (by decide +kernel) rfl, rfl, by decide +kernel, rfl⟩
theorem fk_RX10_28 : ∃ (C : String) (T : u_T), am_CB 7 C T 67 ∧ 11 < 67 ∧ Cond.fieldLink RX10 28 (T 11).1 (T 11).2.1 (T 11).2.2.1 ∈ am_WL ∧ (T 11).2.2.2 = true ∧ parseFieldDescriptor (T 11).2.2.1 = some (.array .int) ∧ (T 11).1 = RX10 := ⟨_, _, cb_7, by decide, am_t5 19 (by decide +kernel) rfl, rfl, by decide +kernel, rfl⟩
theorem jcs_600 : (Int16.ofInt 600).toInt32 = 600 := by decide
theorem fk_RX10_31 : ∃ (C : String) (T : u_T), am_CB 7 C T 67 ∧ 12 < 67 ∧ Cond.fieldLink RX10 31 (T 12).1 (T 12).2.1 (T 12).2.2.1 ∈ am_WL ∧ (T 12).2.2.2 = true ∧ parseFieldDescriptor (T 12).2.2.1 = some (.array .int) ∧ (T 12).1 = RX10 := ⟨_, _, cb_7, by decide, am_t5 20 (by decide +kernel) rfl, rfl, by decide +kernel, rfl⟩
theorem fk_RX10_34 : ∃ (C : String) (T : u_T), am_CB 7 C T 67 ∧ 13 < 67 ∧ Cond.fieldLink RX10 34 (T 13).1 (T 13).2.1 (T 13).2.2.1 ∈ am_WL ∧ (T 13).2.2.2 = true ∧ parseFieldDescriptor (T 13).2.2.1 = some (.array .int) ∧ (T 13).1 = RX10 := ⟨_, _, cb_7, by decide, am_t5 21 (by decide +kernel) rfl, rfl, by decide +kernel, rfl⟩
theorem jcs_133 : (Int16.ofInt 133).toInt32 = 133 := by decide
theorem jcb_32 : (Int8.ofInt 32).toInt32 = 32 := by decide
theorem jz_0 : vp_in (0 : Int32) 133 ∧ upd (nW 0) ((0 : Int32).toNatClampNeg) 32 = nW 1 := ⟨vp_in_nI (n := 0) (by decide) (by decide), by rw [show (0 : Int32).toNatClampNeg = 0 from by decide]; rfl⟩
theorem jcb_112 : (Int8.ofInt 112).toInt32 = 112 := by decide
theorem jz_1 : vp_in (1 : Int32) 133 ∧ upd (nW 1) ((1 : Int32).toNatClampNeg) 112 = nW 2 := ⟨vp_in_nI (n := 1) (by decide) (by decide), by rw [show (1 : Int32).toNatClampNeg = 1 from by decide]; rfl⟩
theorem jcb_114 : (Int8.ofInt 114).toInt32 = 114 := by decide
theorem jz_2 : vp_in (2 : Int32) 133 ∧ upd (nW 2) ((2 : Int32).toNatClampNeg) 114 = nW 3 := ⟨vp_in_nI (n := 2) (by decide) (by decide), by rw [show (2 : Int32).toNatClampNeg = 2 from by decide]; rfl⟩
theorem jcb_101 : (Int8.ofInt 101).toInt32 = 101 := by decide
theorem jz_3 : vp_in (3 : Int32) 133 ∧ upd (nW 3) ((3 : Int32).toNatClampNeg) 101 = nW 4 := ⟨vp_in_nI (n := 3) (by decide) (by decide), by rw [show (3 : Int32).toNatClampNeg = 3 from by decide]; rfl⟩
theorem jcb_115 : (Int8.ofInt 115).toInt32 = 115 := by decide
theorem jz_4 : vp_in (4 : Int32) 133 ∧ upd (nW 4) ((4 : Int32).toNatClampNeg) 115 = nW 5 := ⟨vp_in_nI (n := 4) (by decide) (by decide), by rw [show (4 : Int32).toNatClampNeg = 4 from by decide]; rfl⟩
theorem jci_5 : Int32.ofInt 5 = 5 := by decide
theorem jz_5 : vp_in (5 : Int32) 133 ∧ upd (nW 5) ((5 : Int32).toNatClampNeg) 115 = nW 6 := ⟨vp_in_nI (n := 5) (by decide) (by decide), by rw [show (5 : Int32).toNatClampNeg = 5 from by decide]; rfl⟩
theorem jz_6 : vp_in (6 : Int32) 133 ∧ upd (nW 6) ((6 : Int32).toNatClampNeg) 101 = nW 7 := ⟨vp_in_nI (n := 6) (by decide) (by decide), by rw [show (6 : Int32).toNatClampNeg = 6 from by decide]; rfl⟩
theorem jz_7 : vp_in (7 : Int32) 133 ∧ upd (nW 7) ((7 : Int32).toNatClampNeg) 115 = nW 8 := ⟨vp_in_nI (n := 7) (by decide) (by decide), by rw [show (7 : Int32).toNatClampNeg = 7 from by decide]; rfl⟩
theorem jz_8 : vp_in (8 : Int32) 133 ∧ upd (nW 8) ((8 : Int32).toNatClampNeg) 32 = nW 9 := ⟨vp_in_nI (n := 8) (by decide) (by decide), by rw [show (8 : Int32).toNatClampNeg = 8 from by decide]; rfl⟩
theorem jcb_9 : (Int8.ofInt 9).toInt32 = 9 := by decide
theorem jz_9 : vp_in (9 : Int32) 133 ∧ upd (nW 9) ((9 : Int32).toNatClampNeg) 114 = nW 10 := ⟨vp_in_nI (n := 9) (by decide) (by decide), by rw [show (9 : Int32).toNatClampNeg = 9 from by decide]; rfl⟩
theorem jcb_10 : (Int8.ofInt 10).toInt32 = 10 := by decide
theorem jz_10 : vp_in (10 : Int32) 133 ∧ upd (nW 10) ((10 : Int32).toNatClampNeg) 101 = nW 11 := ⟨vp_in_nI (n := 10) (by decide) (by decide), by rw [show (10 : Int32).toNatClampNeg = 10 from by decide]; rfl⟩
theorem jcb_11 : (Int8.ofInt 11).toInt32 = 11 := by decide
theorem jz_11 : vp_in (11 : Int32) 133 ∧ upd (nW 11) ((11 : Int32).toNatClampNeg) 115 = nW 12 := ⟨vp_in_nI (n := 11) (by decide) (by decide), by rw [show (11 : Int32).toNatClampNeg = 11 from by decide]; rfl⟩
theorem jcb_116 : (Int8.ofInt 116).toInt32 = 116 := by decide
theorem jz_12 : vp_in (12 : Int32) 133 ∧ upd (nW 12) ((12 : Int32).toNatClampNeg) 116 = nW 13 := ⟨vp_in_nI (n := 12) (by decide) (by decide), by rw [show (12 : Int32).toNatClampNeg = 12 from by decide]; rfl⟩
theorem jcb_13 : (Int8.ofInt 13).toInt32 = 13 := by decide
theorem jz_13 : vp_in (13 : Int32) 133 ∧ upd (nW 13) ((13 : Int32).toNatClampNeg) 115 = nW 14 := ⟨vp_in_nI (n := 13) (by decide) (by decide), by rw [show (13 : Int32).toNatClampNeg = 13 from by decide]; rfl⟩
theorem jcb_14 : (Int8.ofInt 14).toInt32 = 14 := by decide
theorem jz_14 : vp_in (14 : Int32) 133 ∧ upd (nW 14) ((14 : Int32).toNatClampNeg) 32 = nW 15 := ⟨vp_in_nI (n := 14) (by decide) (by decide), by rw [show (14 : Int32).toNatClampNeg = 14 from by decide]; rfl⟩
theorem jcb_15 : (Int8.ofInt 15).toInt32 = 15 := by decide
theorem jz_15 : vp_in (15 : Int32) 133 ∧ upd (nW 15) ((15 : Int32).toNatClampNeg) 114 = nW 16 := ⟨vp_in_nI (n := 15) (by decide) (by decide), by rw [show (15 : Int32).toNatClampNeg = 15 from by decide]; rfl⟩
theorem jz_16 : vp_in (16 : Int32) 133 ∧ upd (nW 16) ((16 : Int32).toNatClampNeg) 101 = nW 17 := ⟨vp_in_nI (n := 16) (by decide) (by decide), by rw [show (16 : Int32).toNatClampNeg = 16 from by decide]; rfl⟩
theorem jcb_17 : (Int8.ofInt 17).toInt32 = 17 := by decide
theorem jcb_97 : (Int8.ofInt 97).toInt32 = 97 := by decide
theorem jz_17 : vp_in (17 : Int32) 133 ∧ upd (nW 17) ((17 : Int32).toNatClampNeg) 97 = nW 18 := ⟨vp_in_nI (n := 17) (by decide) (by decide), by rw [show (17 : Int32).toNatClampNeg = 17 from by decide]; rfl⟩
theorem jcb_18 : (Int8.ofInt 18).toInt32 = 18 := by decide
theorem jcb_100 : (Int8.ofInt 100).toInt32 = 100 := by decide
theorem jz_18 : vp_in (18 : Int32) 133 ∧ upd (nW 18) ((18 : Int32).toNatClampNeg) 100 = nW 19 := ⟨vp_in_nI (n := 18) (by decide) (by decide), by rw [show (18 : Int32).toNatClampNeg = 18 from by decide]; rfl⟩
theorem jcb_19 : (Int8.ofInt 19).toInt32 = 19 := by decide
theorem jz_19 : vp_in (19 : Int32) 133 ∧ upd (nW 19) ((19 : Int32).toNatClampNeg) 115 = nW 20 := ⟨vp_in_nI (n := 19) (by decide) (by decide), by rw [show (19 : Int32).toNatClampNeg = 19 from by decide]; rfl⟩
theorem jcb_20 : (Int8.ofInt 20).toInt32 = 20 := by decide
theorem jz_20 : vp_in (20 : Int32) 133 ∧ upd (nW 20) ((20 : Int32).toNatClampNeg) 32 = nW 21 := ⟨vp_in_nI (n := 20) (by decide) (by decide), by rw [show (20 : Int32).toNatClampNeg = 20 from by decide]; rfl⟩
theorem jcb_21 : (Int8.ofInt 21).toInt32 = 21 := by decide
theorem jcb_119 : (Int8.ofInt 119).toInt32 = 119 := by decide
theorem jz_21 : vp_in (21 : Int32) 133 ∧ upd (nW 21) ((21 : Int32).toNatClampNeg) 119 = nW 22 := ⟨vp_in_nI (n := 21) (by decide) (by decide), by rw [show (21 : Int32).toNatClampNeg = 21 from by decide]; rfl⟩
theorem jcb_22 : (Int8.ofInt 22).toInt32 = 22 := by decide
theorem jcb_104 : (Int8.ofInt 104).toInt32 = 104 := by decide
theorem jz_22 : vp_in (22 : Int32) 133 ∧ upd (nW 22) ((22 : Int32).toNatClampNeg) 104 = nW 23 := ⟨vp_in_nI (n := 22) (by decide) (by decide), by rw [show (22 : Int32).toNatClampNeg = 22 from by decide]; rfl⟩
theorem jcb_23 : (Int8.ofInt 23).toInt32 = 23 := by decide
theorem jz_23 : vp_in (23 : Int32) 133 ∧ upd (nW 23) ((23 : Int32).toNatClampNeg) 101 = nW 24 := ⟨vp_in_nI (n := 23) (by decide) (by decide), by rw [show (23 : Int32).toNatClampNeg = 23 from by decide]; rfl⟩
theorem jcb_24 : (Int8.ofInt 24).toInt32 = 24 := by decide
theorem jcb_110 : (Int8.ofInt 110).toInt32 = 110 := by decide
theorem jz_24 : vp_in (24 : Int32) 133 ∧ upd (nW 24) ((24 : Int32).toNatClampNeg) 110 = nW 25 := ⟨vp_in_nI (n := 24) (by decide) (by decide), by rw [show (24 : Int32).toNatClampNeg = 24 from by decide]; rfl⟩
theorem jcb_25 : (Int8.ofInt 25).toInt32 = 25 := by decide
theorem jz_25 : vp_in (25 : Int32) 133 ∧ upd (nW 25) ((25 : Int32).toNatClampNeg) 32 = nW 26 := ⟨vp_in_nI (n := 25) (by decide) (by decide), by rw [show (25 : Int32).toNatClampNeg = 25 from by decide]; rfl⟩
theorem jcb_26 : (Int8.ofInt 26).toInt32 = 26 := by decide
theorem jcb_111 : (Int8.ofInt 111).toInt32 = 111 := by decide
theorem jz_26 : vp_in (26 : Int32) 133 ∧ upd (nW 26) ((26 : Int32).toNatClampNeg) 111 = nW 27 := ⟨vp_in_nI (n := 26) (by decide) (by decide), by rw [show (26 : Int32).toNatClampNeg = 26 from by decide]; rfl⟩
theorem jcb_27 : (Int8.ofInt 27).toInt32 = 27 := by decide
theorem jz_27 : vp_in (27 : Int32) 133 ∧ upd (nW 27) ((27 : Int32).toNatClampNeg) 114 = nW 28 := ⟨vp_in_nI (n := 27) (by decide) (by decide), by rw [show (27 : Int32).toNatClampNeg = 27 from by decide]; rfl⟩
theorem jcb_28 : (Int8.ofInt 28).toInt32 = 28 := by decide
theorem jz_28 : vp_in (28 : Int32) 133 ∧ upd (nW 28) ((28 : Int32).toNatClampNeg) 32 = nW 29 := ⟨vp_in_nI (n := 28) (by decide) (by decide), by rw [show (28 : Int32).toNatClampNeg = 28 from by decide]; rfl⟩
theorem jcb_29 : (Int8.ofInt 29).toInt32 = 29 := by decide
theorem jz_29 : vp_in (29 : Int32) 133 ∧ upd (nW 29) ((29 : Int32).toNatClampNeg) 97 = nW 30 := ⟨vp_in_nI (n := 29) (by decide) (by decide), by rw [show (29 : Int32).toNatClampNeg = 29 from by decide]; rfl⟩
theorem jcb_30 : (Int8.ofInt 30).toInt32 = 30 := by decide
theorem jz_30 : vp_in (30 : Int32) 133 ∧ upd (nW 30) ((30 : Int32).toNatClampNeg) 110 = nW 31 := ⟨vp_in_nI (n := 30) (by decide) (by decide), by rw [show (30 : Int32).toNatClampNeg = 30 from by decide]; rfl⟩
theorem jcb_31 : (Int8.ofInt 31).toInt32 = 31 := by decide
theorem jz_31 : vp_in (31 : Int32) 133 ∧ upd (nW 31) ((31 : Int32).toNatClampNeg) 100 = nW 32 := ⟨vp_in_nI (n := 31) (by decide) (by decide), by rw [show (31 : Int32).toNatClampNeg = 31 from by decide]; rfl⟩
theorem jz_32 : vp_in (32 : Int32) 133 ∧ upd (nW 32) ((32 : Int32).toNatClampNeg) 32 = nW 33 := ⟨vp_in_nI (n := 32) (by decide) (by decide), by rw [show (32 : Int32).toNatClampNeg = 32 from by decide]; rfl⟩
theorem jcb_33 : (Int8.ofInt 33).toInt32 = 33 := by decide
theorem jz_33 : vp_in (33 : Int32) 133 ∧ upd (nW 33) ((33 : Int32).toNatClampNeg) 110 = nW 34 := ⟨vp_in_nI (n := 33) (by decide) (by decide), by rw [show (33 : Int32).toNatClampNeg = 33 from by decide]; rfl⟩
theorem jcb_34 : (Int8.ofInt 34).toInt32 = 34 := by decide
theorem jz_34 : vp_in (34 : Int32) 133 ∧ upd (nW 34) ((34 : Int32).toNatClampNeg) 111 = nW 35 := ⟨vp_in_nI (n := 34) (by decide) (by decide), by rw [show (34 : Int32).toNatClampNeg = 34 from by decide]; rfl⟩
theorem jcb_35 : (Int8.ofInt 35).toInt32 = 35 := by decide
theorem jz_35 : vp_in (35 : Int32) 133 ∧ upd (nW 35) ((35 : Int32).toNatClampNeg) 116 = nW 36 := ⟨vp_in_nI (n := 35) (by decide) (by decide), by rw [show (35 : Int32).toNatClampNeg = 35 from by decide]; rfl⟩
theorem jcb_36 : (Int8.ofInt 36).toInt32 = 36 := by decide
theorem jz_36 : vp_in (36 : Int32) 133 ∧ upd (nW 36) ((36 : Int32).toNatClampNeg) 32 = nW 37 := ⟨vp_in_nI (n := 36) (by decide) (by decide), by rw [show (36 : Int32).toNatClampNeg = 36 from by decide]; rfl⟩
theorem jcb_37 : (Int8.ofInt 37).toInt32 = 37 := by decide
theorem jz_37 : vp_in (37 : Int32) 133 ∧ upd (nW 37) ((37 : Int32).toNatClampNeg) 115 = nW 38 := ⟨vp_in_nI (n := 37) (by decide) (by decide), by rw [show (37 : Int32).toNatClampNeg = 37 from by decide]; rfl⟩
theorem jcb_38 : (Int8.ofInt 38).toInt32 = 38 := by decide
theorem jcb_107 : (Int8.ofInt 107).toInt32 = 107 := by decide
theorem jz_38 : vp_in (38 : Int32) 133 ∧ upd (nW 38) ((38 : Int32).toNatClampNeg) 107 = nW 39 := ⟨vp_in_nI (n := 38) (by decide) (by decide), by rw [show (38 : Int32).toNatClampNeg = 38 from by decide]; rfl⟩
theorem jcb_39 : (Int8.ofInt 39).toInt32 = 39 := by decide
theorem jcb_105 : (Int8.ofInt 105).toInt32 = 105 := by decide
theorem jz_39 : vp_in (39 : Int32) 133 ∧ upd (nW 39) ((39 : Int32).toNatClampNeg) 105 = nW 40 := ⟨vp_in_nI (n := 39) (by decide) (by decide), by rw [show (39 : Int32).toNatClampNeg = 39 from by decide]; rfl⟩
theorem jcb_40 : (Int8.ofInt 40).toInt32 = 40 := by decide
theorem jcb_108 : (Int8.ofInt 108).toInt32 = 108 := by decide
theorem jz_40 : vp_in (40 : Int32) 133 ∧ upd (nW 40) ((40 : Int32).toNatClampNeg) 108 = nW 41 := ⟨vp_in_nI (n := 40) (by decide) (by decide), by rw [show (40 : Int32).toNatClampNeg = 40 from by decide]; rfl⟩
theorem jcb_41 : (Int8.ofInt 41).toInt32 = 41 := by decide
theorem jz_41 : vp_in (41 : Int32) 133 ∧ upd (nW 41) ((41 : Int32).toNatClampNeg) 108 = nW 42 := ⟨vp_in_nI (n := 41) (by decide) (by decide), by rw [show (41 : Int32).toNatClampNeg = 41 from by decide]; rfl⟩
theorem jcb_42 : (Int8.ofInt 42).toInt32 = 42 := by decide
theorem jz_42 : vp_in (42 : Int32) 133 ∧ upd (nW 42) ((42 : Int32).toNatClampNeg) 32 = nW 43 := ⟨vp_in_nI (n := 42) (by decide) (by decide), by rw [show (42 : Int32).toNatClampNeg = 42 from by decide]; rfl⟩
theorem jcb_43 : (Int8.ofInt 43).toInt32 = 43 := by decide
theorem jz_43 : vp_in (43 : Int32) 133 ∧ upd (nW 43) ((43 : Int32).toNatClampNeg) 115 = nW 44 := ⟨vp_in_nI (n := 43) (by decide) (by decide), by rw [show (43 : Int32).toNatClampNeg = 43 from by decide]; rfl⟩
theorem jcb_44 : (Int8.ofInt 44).toInt32 = 44 := by decide
theorem jz_44 : vp_in (44 : Int32) 133 ∧ upd (nW 44) ((44 : Int32).toNatClampNeg) 108 = nW 45 := ⟨vp_in_nI (n := 44) (by decide) (by decide), by rw [show (44 : Int32).toNatClampNeg = 44 from by decide]; rfl⟩
theorem jcb_45 : (Int8.ofInt 45).toInt32 = 45 := by decide
theorem jz_45 : vp_in (45 : Int32) 133 ∧ upd (nW 45) ((45 : Int32).toNatClampNeg) 101 = nW 46 := ⟨vp_in_nI (n := 45) (by decide) (by decide), by rw [show (45 : Int32).toNatClampNeg = 45 from by decide]; rfl⟩
theorem jcb_46 : (Int8.ofInt 46).toInt32 = 46 := by decide
theorem jz_46 : vp_in (46 : Int32) 133 ∧ upd (nW 46) ((46 : Int32).toNatClampNeg) 101 = nW 47 := ⟨vp_in_nI (n := 46) (by decide) (by decide), by rw [show (46 : Int32).toNatClampNeg = 46 from by decide]; rfl⟩
theorem jcb_47 : (Int8.ofInt 47).toInt32 = 47 := by decide
theorem jz_47 : vp_in (47 : Int32) 133 ∧ upd (nW 47) ((47 : Int32).toNatClampNeg) 112 = nW 48 := ⟨vp_in_nI (n := 47) (by decide) (by decide), by rw [show (47 : Int32).toNatClampNeg = 47 from by decide]; rfl⟩
theorem jcb_48 : (Int8.ofInt 48).toInt32 = 48 := by decide
theorem jz_48 : vp_in (48 : Int32) 133 ∧ upd (nW 48) ((48 : Int32).toNatClampNeg) 32 = nW 49 := ⟨vp_in_nI (n := 48) (by decide) (by decide), by rw [show (48 : Int32).toNatClampNeg = 48 from by decide]; rfl⟩
theorem jcb_49 : (Int8.ofInt 49).toInt32 = 49 := by decide
theorem jz_49 : vp_in (49 : Int32) 133 ∧ upd (nW 49) ((49 : Int32).toNatClampNeg) 112 = nW 50 := ⟨vp_in_nI (n := 49) (by decide) (by decide), by rw [show (49 : Int32).toNatClampNeg = 49 from by decide]; rfl⟩
theorem jcb_50 : (Int8.ofInt 50).toInt32 = 50 := by decide
theorem jz_50 : vp_in (50 : Int32) 133 ∧ upd (nW 50) ((50 : Int32).toNatClampNeg) 108 = nW 51 := ⟨vp_in_nI (n := 50) (by decide) (by decide), by rw [show (50 : Int32).toNatClampNeg = 50 from by decide]; rfl⟩
theorem jcb_51 : (Int8.ofInt 51).toInt32 = 51 := by decide
theorem jz_51 : vp_in (51 : Int32) 133 ∧ upd (nW 51) ((51 : Int32).toNatClampNeg) 97 = nW 52 := ⟨vp_in_nI (n := 51) (by decide) (by decide), by rw [show (51 : Int32).toNatClampNeg = 51 from by decide]; rfl⟩
theorem jcb_52 : (Int8.ofInt 52).toInt32 = 52 := by decide
theorem jz_52 : vp_in (52 : Int32) 133 ∧ upd (nW 52) ((52 : Int32).toNatClampNeg) 110 = nW 53 := ⟨vp_in_nI (n := 52) (by decide) (by decide), by rw [show (52 : Int32).toNatClampNeg = 52 from by decide]; rfl⟩
theorem jcb_53 : (Int8.ofInt 53).toInt32 = 53 := by decide
theorem jz_53 : vp_in (53 : Int32) 133 ∧ upd (nW 53) ((53 : Int32).toNatClampNeg) 32 = nW 54 := ⟨vp_in_nI (n := 53) (by decide) (by decide), by rw [show (53 : Int32).toNatClampNeg = 53 from by decide]; rfl⟩
theorem jcb_54 : (Int8.ofInt 54).toInt32 = 54 := by decide
theorem jz_54 : vp_in (54 : Int32) 133 ∧ upd (nW 54) ((54 : Int32).toNatClampNeg) 104 = nW 55 := ⟨vp_in_nI (n := 54) (by decide) (by decide), by rw [show (54 : Int32).toNatClampNeg = 54 from by decide]; rfl⟩
theorem jcb_55 : (Int8.ofInt 55).toInt32 = 55 := by decide
theorem jz_55 : vp_in (55 : Int32) 133 ∧ upd (nW 55) ((55 : Int32).toNatClampNeg) 111 = nW 56 := ⟨vp_in_nI (n := 55) (by decide) (by decide), by rw [show (55 : Int32).toNatClampNeg = 55 from by decide]; rfl⟩
theorem jcb_56 : (Int8.ofInt 56).toInt32 = 56 := by decide
theorem jz_56 : vp_in (56 : Int32) 133 ∧ upd (nW 56) ((56 : Int32).toNatClampNeg) 108 = nW 57 := ⟨vp_in_nI (n := 56) (by decide) (by decide), by rw [show (56 : Int32).toNatClampNeg = 56 from by decide]; rfl⟩
theorem jcb_57 : (Int8.ofInt 57).toInt32 = 57 := by decide
theorem jz_57 : vp_in (57 : Int32) 133 ∧ upd (nW 57) ((57 : Int32).toNatClampNeg) 101 = nW 58 := ⟨vp_in_nI (n := 57) (by decide) (by decide), by rw [show (57 : Int32).toNatClampNeg = 57 from by decide]; rfl⟩
theorem jcb_58 : (Int8.ofInt 58).toInt32 = 58 := by decide
theorem jz_58 : vp_in (58 : Int32) 133 ∧ upd (nW 58) ((58 : Int32).toNatClampNeg) 32 = nW 59 := ⟨vp_in_nI (n := 58) (by decide) (by decide), by rw [show (58 : Int32).toNatClampNeg = 58 from by decide]; rfl⟩
theorem jcb_59 : (Int8.ofInt 59).toInt32 = 59 := by decide
theorem jcb_99 : (Int8.ofInt 99).toInt32 = 99 := by decide
theorem jz_59 : vp_in (59 : Int32) 133 ∧ upd (nW 59) ((59 : Int32).toNatClampNeg) 99 = nW 60 := ⟨vp_in_nI (n := 59) (by decide) (by decide), by rw [show (59 : Int32).toNatClampNeg = 59 from by decide]; rfl⟩
theorem jcb_60 : (Int8.ofInt 60).toInt32 = 60 := by decide
theorem jz_60 : vp_in (60 : Int32) 133 ∧ upd (nW 60) ((60 : Int32).toNatClampNeg) 97 = nW 61 := ⟨vp_in_nI (n := 60) (by decide) (by decide), by rw [show (60 : Int32).toNatClampNeg = 60 from by decide]; rfl⟩
theorem jcb_61 : (Int8.ofInt 61).toInt32 = 61 := by decide
theorem jz_61 : vp_in (61 : Int32) 133 ∧ upd (nW 61) ((61 : Int32).toNatClampNeg) 114 = nW 62 := ⟨vp_in_nI (n := 61) (by decide) (by decide), by rw [show (61 : Int32).toNatClampNeg = 61 from by decide]; rfl⟩
theorem jcb_62 : (Int8.ofInt 62).toInt32 = 62 := by decide
theorem jz_62 : vp_in (62 : Int32) 133 ∧ upd (nW 62) ((62 : Int32).toNatClampNeg) 101 = nW 63 := ⟨vp_in_nI (n := 62) (by decide) (by decide), by rw [show (62 : Int32).toNatClampNeg = 62 from by decide]; rfl⟩
theorem jcb_63 : (Int8.ofInt 63).toInt32 = 63 := by decide
theorem jz_63 : vp_in (63 : Int32) 133 ∧ upd (nW 63) ((63 : Int32).toNatClampNeg) 32 = nW 64 := ⟨vp_in_nI (n := 63) (by decide) (by decide), by rw [show (63 : Int32).toNatClampNeg = 63 from by decide]; rfl⟩
theorem jz_64 : vp_in (64 : Int32) 133 ∧ upd (nW 64) ((64 : Int32).toNatClampNeg) 119 = nW 65 := ⟨vp_in_nI (n := 64) (by decide) (by decide), by rw [show (64 : Int32).toNatClampNeg = 64 from by decide]; rfl⟩
theorem jcb_65 : (Int8.ofInt 65).toInt32 = 65 := by decide
theorem jz_65 : vp_in (65 : Int32) 133 ∧ upd (nW 65) ((65 : Int32).toNatClampNeg) 101 = nW 66 := ⟨vp_in_nI (n := 65) (by decide) (by decide), by rw [show (65 : Int32).toNatClampNeg = 65 from by decide]; rfl⟩
theorem jcb_66 : (Int8.ofInt 66).toInt32 = 66 := by decide
theorem jz_66 : vp_in (66 : Int32) 133 ∧ upd (nW 66) ((66 : Int32).toNatClampNeg) 97 = nW 67 := ⟨vp_in_nI (n := 66) (by decide) (by decide), by rw [show (66 : Int32).toNatClampNeg = 66 from by decide]; rfl⟩
theorem jcb_67 : (Int8.ofInt 67).toInt32 = 67 := by decide
theorem jz_67 : vp_in (67 : Int32) 133 ∧ upd (nW 67) ((67 : Int32).toNatClampNeg) 114 = nW 68 := ⟨vp_in_nI (n := 67) (by decide) (by decide), by rw [show (67 : Int32).toNatClampNeg = 67 from by decide]; rfl⟩
theorem jcb_68 : (Int8.ofInt 68).toInt32 = 68 := by decide
theorem jz_68 : vp_in (68 : Int32) 133 ∧ upd (nW 68) ((68 : Int32).toNatClampNeg) 32 = nW 69 := ⟨vp_in_nI (n := 68) (by decide) (by decide), by rw [show (68 : Int32).toNatClampNeg = 68 from by decide]; rfl⟩
theorem jcb_69 : (Int8.ofInt 69).toInt32 = 69 := by decide
theorem jz_69 : vp_in (69 : Int32) 133 ∧ upd (nW 69) ((69 : Int32).toNatClampNeg) 108 = nW 70 := ⟨vp_in_nI (n := 69) (by decide) (by decide), by rw [show (69 : Int32).toNatClampNeg = 69 from by decide]; rfl⟩
theorem jcb_70 : (Int8.ofInt 70).toInt32 = 70 := by decide
theorem jz_70 : vp_in (70 : Int32) 133 ∧ upd (nW 70) ((70 : Int32).toNatClampNeg) 105 = nW 71 := ⟨vp_in_nI (n := 70) (by decide) (by decide), by rw [show (70 : Int32).toNatClampNeg = 70 from by decide]; rfl⟩
theorem jcb_71 : (Int8.ofInt 71).toInt32 = 71 := by decide
theorem jz_71 : vp_in (71 : Int32) 133 ∧ upd (nW 71) ((71 : Int32).toNatClampNeg) 110 = nW 72 := ⟨vp_in_nI (n := 71) (by decide) (by decide), by rw [show (71 : Int32).toNatClampNeg = 71 from by decide]; rfl⟩
theorem jcb_72 : (Int8.ofInt 72).toInt32 = 72 := by decide
theorem jz_72 : vp_in (72 : Int32) 133 ∧ upd (nW 72) ((72 : Int32).toNatClampNeg) 101 = nW 73 := ⟨vp_in_nI (n := 72) (by decide) (by decide), by rw [show (72 : Int32).toNatClampNeg = 72 from by decide]; rfl⟩
theorem jcb_73 : (Int8.ofInt 73).toInt32 = 73 := by decide
theorem jz_73 : vp_in (73 : Int32) 133 ∧ upd (nW 73) ((73 : Int32).toNatClampNeg) 32 = nW 74 := ⟨vp_in_nI (n := 73) (by decide) (by decide), by rw [show (73 : Int32).toNatClampNeg = 73 from by decide]; rfl⟩
theorem jcb_74 : (Int8.ofInt 74).toInt32 = 74 := by decide
theorem jz_74 : vp_in (74 : Int32) 133 ∧ upd (nW 74) ((74 : Int32).toNatClampNeg) 115 = nW 75 := ⟨vp_in_nI (n := 74) (by decide) (by decide), by rw [show (74 : Int32).toNatClampNeg = 74 from by decide]; rfl⟩
theorem jcb_75 : (Int8.ofInt 75).toInt32 = 75 := by decide
theorem jz_75 : vp_in (75 : Int32) 133 ∧ upd (nW 75) ((75 : Int32).toNatClampNeg) 105 = nW 76 := ⟨vp_in_nI (n := 75) (by decide) (by decide), by rw [show (75 : Int32).toNatClampNeg = 75 from by decide]; rfl⟩
theorem jcb_76 : (Int8.ofInt 76).toInt32 = 76 := by decide
theorem jz_76 : vp_in (76 : Int32) 133 ∧ upd (nW 76) ((76 : Int32).toNatClampNeg) 100 = nW 77 := ⟨vp_in_nI (n := 76) (by decide) (by decide), by rw [show (76 : Int32).toNatClampNeg = 76 from by decide]; rfl⟩
theorem jz_77 : vp_in (77 : Int32) 133 ∧ upd (nW 77) ((77 : Int32).toNatClampNeg) 101 = nW 78 := ⟨vp_in_nI (n := 77) (by decide) (by decide), by rw [show (77 : Int32).toNatClampNeg = 77 from by decide]; rfl⟩
theorem jcb_78 : (Int8.ofInt 78).toInt32 = 78 := by decide
theorem jz_78 : vp_in (78 : Int32) 133 ∧ upd (nW 78) ((78 : Int32).toNatClampNeg) 32 = nW 79 := ⟨vp_in_nI (n := 78) (by decide) (by decide), by rw [show (78 : Int32).toNatClampNeg = 78 from by decide]; rfl⟩
theorem jcb_79 : (Int8.ofInt 79).toInt32 = 79 := by decide
theorem jz_79 : vp_in (79 : Int32) 133 ∧ upd (nW 79) ((79 : Int32).toNatClampNeg) 100 = nW 80 := ⟨vp_in_nI (n := 79) (by decide) (by decide), by rw [show (79 : Int32).toNatClampNeg = 79 from by decide]; rfl⟩
theorem jcb_80 : (Int8.ofInt 80).toInt32 = 80 := by decide
theorem jz_80 : vp_in (80 : Int32) 133 ∧ upd (nW 80) ((80 : Int32).toNatClampNeg) 111 = nW 81 := ⟨vp_in_nI (n := 80) (by decide) (by decide), by rw [show (80 : Int32).toNatClampNeg = 80 from by decide]; rfl⟩
theorem jcb_81 : (Int8.ofInt 81).toInt32 = 81 := by decide
theorem jz_81 : vp_in (81 : Int32) 133 ∧ upd (nW 81) ((81 : Int32).toNatClampNeg) 110 = nW 82 := ⟨vp_in_nI (n := 81) (by decide) (by decide), by rw [show (81 : Int32).toNatClampNeg = 81 from by decide]; rfl⟩
theorem jcb_82 : (Int8.ofInt 82).toInt32 = 82 := by decide
theorem jz_82 : vp_in (82 : Int32) 133 ∧ upd (nW 82) ((82 : Int32).toNatClampNeg) 101 = nW 83 := ⟨vp_in_nI (n := 82) (by decide) (by decide), by rw [show (82 : Int32).toNatClampNeg = 82 from by decide]; rfl⟩
theorem jcb_83 : (Int8.ofInt 83).toInt32 = 83 := by decide
theorem jz_83 : vp_in (83 : Int32) 133 ∧ upd (nW 83) ((83 : Int32).toNatClampNeg) 32 = nW 84 := ⟨vp_in_nI (n := 83) (by decide) (by decide), by rw [show (83 : Int32).toNatClampNeg = 83 from by decide]; rfl⟩
theorem jcb_84 : (Int8.ofInt 84).toInt32 = 84 := by decide
theorem jz_84 : vp_in (84 : Int32) 133 ∧ upd (nW 84) ((84 : Int32).toNatClampNeg) 100 = nW 85 := ⟨vp_in_nI (n := 84) (by decide) (by decide), by rw [show (84 : Int32).toNatClampNeg = 84 from by decide]; rfl⟩
theorem jcb_85 : (Int8.ofInt 85).toInt32 = 85 := by decide
theorem jz_85 : vp_in (85 : Int32) 133 ∧ upd (nW 85) ((85 : Int32).toNatClampNeg) 97 = nW 86 := ⟨vp_in_nI (n := 85) (by decide) (by decide), by rw [show (85 : Int32).toNatClampNeg = 85 from by decide]; rfl⟩
theorem jcb_86 : (Int8.ofInt 86).toInt32 = 86 := by decide
theorem jcb_121 : (Int8.ofInt 121).toInt32 = 121 := by decide
theorem jz_86 : vp_in (86 : Int32) 133 ∧ upd (nW 86) ((86 : Int32).toNatClampNeg) 121 = nW 87 := ⟨vp_in_nI (n := 86) (by decide) (by decide), by rw [show (86 : Int32).toNatClampNeg = 86 from by decide]; rfl⟩
theorem jcb_87 : (Int8.ofInt 87).toInt32 = 87 := by decide
theorem jz_87 : vp_in (87 : Int32) 133 ∧ upd (nW 87) ((87 : Int32).toNatClampNeg) 32 = nW 88 := ⟨vp_in_nI (n := 87) (by decide) (by decide), by rw [show (87 : Int32).toNatClampNeg = 87 from by decide]; rfl⟩
theorem jcb_88 : (Int8.ofInt 88).toInt32 = 88 := by decide
theorem jz_88 : vp_in (88 : Int32) 133 ∧ upd (nW 88) ((88 : Int32).toNatClampNeg) 111 = nW 89 := ⟨vp_in_nI (n := 88) (by decide) (by decide), by rw [show (88 : Int32).toNatClampNeg = 88 from by decide]; rfl⟩
theorem jcb_89 : (Int8.ofInt 89).toInt32 = 89 := by decide
theorem jz_89 : vp_in (89 : Int32) 133 ∧ upd (nW 89) ((89 : Int32).toNatClampNeg) 110 = nW 90 := ⟨vp_in_nI (n := 89) (by decide) (by decide), by rw [show (89 : Int32).toNatClampNeg = 89 from by decide]; rfl⟩
theorem jcb_90 : (Int8.ofInt 90).toInt32 = 90 := by decide
theorem jz_90 : vp_in (90 : Int32) 133 ∧ upd (nW 90) ((90 : Int32).toNatClampNeg) 32 = nW 91 := ⟨vp_in_nI (n := 90) (by decide) (by decide), by rw [show (90 : Int32).toNatClampNeg = 90 from by decide]; rfl⟩
theorem jcb_91 : (Int8.ofInt 91).toInt32 = 91 := by decide
theorem jcb_109 : (Int8.ofInt 109).toInt32 = 109 := by decide
theorem jz_91 : vp_in (91 : Int32) 133 ∧ upd (nW 91) ((91 : Int32).toNatClampNeg) 109 = nW 92 := ⟨vp_in_nI (n := 91) (by decide) (by decide), by rw [show (91 : Int32).toNatClampNeg = 91 from by decide]; rfl⟩
theorem jcb_92 : (Int8.ofInt 92).toInt32 = 92 := by decide
theorem jz_92 : vp_in (92 : Int32) 133 ∧ upd (nW 92) ((92 : Int32).toNatClampNeg) 97 = nW 93 := ⟨vp_in_nI (n := 92) (by decide) (by decide), by rw [show (92 : Int32).toNatClampNeg = 92 from by decide]; rfl⟩
theorem jcb_93 : (Int8.ofInt 93).toInt32 = 93 := by decide
theorem jz_93 : vp_in (93 : Int32) 133 ∧ upd (nW 93) ((93 : Int32).toNatClampNeg) 114 = nW 94 := ⟨vp_in_nI (n := 93) (by decide) (by decide), by rw [show (93 : Int32).toNatClampNeg = 93 from by decide]; rfl⟩
theorem jcb_94 : (Int8.ofInt 94).toInt32 = 94 := by decide
theorem jz_94 : vp_in (94 : Int32) 133 ∧ upd (nW 94) ((94 : Int32).toNatClampNeg) 99 = nW 95 := ⟨vp_in_nI (n := 94) (by decide) (by decide), by rw [show (94 : Int32).toNatClampNeg = 94 from by decide]; rfl⟩
theorem jcb_95 : (Int8.ofInt 95).toInt32 = 95 := by decide
theorem jz_95 : vp_in (95 : Int32) 133 ∧ upd (nW 95) ((95 : Int32).toNatClampNeg) 104 = nW 96 := ⟨vp_in_nI (n := 95) (by decide) (by decide), by rw [show (95 : Int32).toNatClampNeg = 95 from by decide]; rfl⟩
theorem jcb_96 : (Int8.ofInt 96).toInt32 = 96 := by decide
theorem jz_96 : vp_in (96 : Int32) 133 ∧ upd (nW 96) ((96 : Int32).toNatClampNeg) 32 = nW 97 := ⟨vp_in_nI (n := 96) (by decide) (by decide), by rw [show (96 : Int32).toNatClampNeg = 96 from by decide]; rfl⟩
theorem jz_97 : vp_in (97 : Int32) 133 ∧ upd (nW 97) ((97 : Int32).toNatClampNeg) 115 = nW 98 := ⟨vp_in_nI (n := 97) (by decide) (by decide), by rw [show (97 : Int32).toNatClampNeg = 97 from by decide]; rfl⟩
theorem jcb_98 : (Int8.ofInt 98).toInt32 = 98 := by decide
theorem jz_98 : vp_in (98 : Int32) 133 ∧ upd (nW 98) ((98 : Int32).toNatClampNeg) 111 = nW 99 := ⟨vp_in_nI (n := 98) (by decide) (by decide), by rw [show (98 : Int32).toNatClampNeg = 98 from by decide]; rfl⟩
theorem jz_99 : vp_in (99 : Int32) 133 ∧ upd (nW 99) ((99 : Int32).toNatClampNeg) 108 = nW 100 := ⟨vp_in_nI (n := 99) (by decide) (by decide), by rw [show (99 : Int32).toNatClampNeg = 99 from by decide]; rfl⟩
theorem jz_100 : vp_in (100 : Int32) 133 ∧ upd (nW 100) ((100 : Int32).toNatClampNeg) 101 = nW 101 := ⟨vp_in_nI (n := 100) (by decide) (by decide), by rw [show (100 : Int32).toNatClampNeg = 100 from by decide]; rfl⟩
theorem jz_101 : vp_in (101 : Int32) 133 ∧ upd (nW 101) ((101 : Int32).toNatClampNeg) 32 = nW 102 := ⟨vp_in_nI (n := 101) (by decide) (by decide), by rw [show (101 : Int32).toNatClampNeg = 101 from by decide]; rfl⟩
theorem jcb_102 : (Int8.ofInt 102).toInt32 = 102 := by decide
theorem jz_102 : vp_in (102 : Int32) 133 ∧ upd (nW 102) ((102 : Int32).toNatClampNeg) 110 = nW 103 := ⟨vp_in_nI (n := 102) (by decide) (by decide), by rw [show (102 : Int32).toNatClampNeg = 102 from by decide]; rfl⟩
theorem jcb_103 : (Int8.ofInt 103).toInt32 = 103 := by decide
theorem jz_103 : vp_in (103 : Int32) 133 ∧ upd (nW 103) ((103 : Int32).toNatClampNeg) 101 = nW 104 := ⟨vp_in_nI (n := 103) (by decide) (by decide), by rw [show (103 : Int32).toNatClampNeg = 103 from by decide]; rfl⟩
theorem jz_104 : vp_in (104 : Int32) 133 ∧ upd (nW 104) ((104 : Int32).toNatClampNeg) 119 = nW 105 := ⟨vp_in_nI (n := 104) (by decide) (by decide), by rw [show (104 : Int32).toNatClampNeg = 104 from by decide]; rfl⟩
theorem jz_105 : vp_in (105 : Int32) 133 ∧ upd (nW 105) ((105 : Int32).toNatClampNeg) 32 = nW 106 := ⟨vp_in_nI (n := 105) (by decide) (by decide), by rw [show (105 : Int32).toNatClampNeg = 105 from by decide]; rfl⟩
theorem jcb_106 : (Int8.ofInt 106).toInt32 = 106 := by decide
theorem jz_106 : vp_in (106 : Int32) 133 ∧ upd (nW 106) ((106 : Int32).toNatClampNeg) 116 = nW 107 := ⟨vp_in_nI (n := 106) (by decide) (by decide), by rw [show (106 : Int32).toNatClampNeg = 106 from by decide]; rfl⟩
theorem jz_107 : vp_in (107 : Int32) 133 ∧ upd (nW 107) ((107 : Int32).toNatClampNeg) 114 = nW 108 := ⟨vp_in_nI (n := 107) (by decide) (by decide), by rw [show (107 : Int32).toNatClampNeg = 107 from by decide]; rfl⟩
theorem jcb_117 : (Int8.ofInt 117).toInt32 = 117 := by decide
theorem jz_108 : vp_in (108 : Int32) 133 ∧ upd (nW 108) ((108 : Int32).toNatClampNeg) 117 = nW 109 := ⟨vp_in_nI (n := 108) (by decide) (by decide), by rw [show (108 : Int32).toNatClampNeg = 108 from by decide]; rfl⟩
theorem jz_109 : vp_in (109 : Int32) 133 ∧ upd (nW 109) ((109 : Int32).toNatClampNeg) 99 = nW 110 := ⟨vp_in_nI (n := 109) (by decide) (by decide), by rw [show (109 : Int32).toNatClampNeg = 109 from by decide]; rfl⟩
theorem jz_110 : vp_in (110 : Int32) 133 ∧ upd (nW 110) ((110 : Int32).toNatClampNeg) 101 = nW 111 := ⟨vp_in_nI (n := 110) (by decide) (by decide), by rw [show (110 : Int32).toNatClampNeg = 110 from by decide]; rfl⟩
theorem jz_111 : vp_in (111 : Int32) 133 ∧ upd (nW 111) ((111 : Int32).toNatClampNeg) 32 = nW 112 := ⟨vp_in_nI (n := 111) (by decide) (by decide), by rw [show (111 : Int32).toNatClampNeg = 111 from by decide]; rfl⟩
theorem jz_112 : vp_in (112 : Int32) 133 ∧ upd (nW 112) ((112 : Int32).toNatClampNeg) 111 = nW 113 := ⟨vp_in_nI (n := 112) (by decide) (by decide), by rw [show (112 : Int32).toNatClampNeg = 112 from by decide]; rfl⟩
theorem jcb_113 : (Int8.ofInt 113).toInt32 = 113 := by decide
theorem jz_113 : vp_in (113 : Int32) 133 ∧ upd (nW 113) ((113 : Int32).toNatClampNeg) 102 = nW 114 := ⟨vp_in_nI (n := 113) (by decide) (by decide), by rw [show (113 : Int32).toNatClampNeg = 113 from by decide]; rfl⟩
theorem jz_114 : vp_in (114 : Int32) 133 ∧ upd (nW 114) ((114 : Int32).toNatClampNeg) 102 = nW 115 := ⟨vp_in_nI (n := 114) (by decide) (by decide), by rw [show (114 : Int32).toNatClampNeg = 114 from by decide]; rfl⟩
theorem jz_115 : vp_in (115 : Int32) 133 ∧ upd (nW 115) ((115 : Int32).toNatClampNeg) 105 = nW 116 := ⟨vp_in_nI (n := 115) (by decide) (by decide), by rw [show (115 : Int32).toNatClampNeg = 115 from by decide]; rfl⟩
theorem jz_116 : vp_in (116 : Int32) 133 ∧ upd (nW 116) ((116 : Int32).toNatClampNeg) 99 = nW 117 := ⟨vp_in_nI (n := 116) (by decide) (by decide), by rw [show (116 : Int32).toNatClampNeg = 116 from by decide]; rfl⟩
theorem jz_117 : vp_in (117 : Int32) 133 ∧ upd (nW 117) ((117 : Int32).toNatClampNeg) 101 = nW 118 := ⟨vp_in_nI (n := 117) (by decide) (by decide), by rw [show (117 : Int32).toNatClampNeg = 117 from by decide]; rfl⟩
theorem jcb_118 : (Int8.ofInt 118).toInt32 = 118 := by decide
theorem jz_118 : vp_in (118 : Int32) 133 ∧ upd (nW 118) ((118 : Int32).toNatClampNeg) 114 = nW 119 := ⟨vp_in_nI (n := 118) (by decide) (by decide), by rw [show (118 : Int32).toNatClampNeg = 118 from by decide]; rfl⟩
theorem jz_119 : vp_in (119 : Int32) 133 ∧ upd (nW 119) ((119 : Int32).toNatClampNeg) 32 = nW 120 := ⟨vp_in_nI (n := 119) (by decide) (by decide), by rw [show (119 : Int32).toNatClampNeg = 119 from by decide]; rfl⟩
theorem jcb_120 : (Int8.ofInt 120).toInt32 = 120 := by decide
theorem jz_120 : vp_in (120 : Int32) 133 ∧ upd (nW 120) ((120 : Int32).toNatClampNeg) 98 = nW 121 := ⟨vp_in_nI (n := 120) (by decide) (by decide), by rw [show (120 : Int32).toNatClampNeg = 120 from by decide]; rfl⟩
theorem jz_121 : vp_in (121 : Int32) 133 ∧ upd (nW 121) ((121 : Int32).toNatClampNeg) 97 = nW 122 := ⟨vp_in_nI (n := 121) (by decide) (by decide), by rw [show (121 : Int32).toNatClampNeg = 121 from by decide]; rfl⟩
theorem jcb_122 : (Int8.ofInt 122).toInt32 = 122 := by decide
theorem jz_122 : vp_in (122 : Int32) 133 ∧ upd (nW 122) ((122 : Int32).toNatClampNeg) 116 = nW 123 := ⟨vp_in_nI (n := 122) (by decide) (by decide), by rw [show (122 : Int32).toNatClampNeg = 122 from by decide]; rfl⟩
theorem jcb_123 : (Int8.ofInt 123).toInt32 = 123 := by decide
theorem jz_123 : vp_in (123 : Int32) 133 ∧ upd (nW 123) ((123 : Int32).toNatClampNeg) 109 = nW 124 := ⟨vp_in_nI (n := 123) (by decide) (by decide), by rw [show (123 : Int32).toNatClampNeg = 123 from by decide]; rfl⟩
theorem jcb_124 : (Int8.ofInt 124).toInt32 = 124 := by decide
theorem jz_124 : vp_in (124 : Int32) 133 ∧ upd (nW 124) ((124 : Int32).toNatClampNeg) 97 = nW 125 := ⟨vp_in_nI (n := 124) (by decide) (by decide), by rw [show (124 : Int32).toNatClampNeg = 124 from by decide]; rfl⟩
theorem jcb_125 : (Int8.ofInt 125).toInt32 = 125 := by decide
theorem jz_125 : vp_in (125 : Int32) 133 ∧ upd (nW 125) ((125 : Int32).toNatClampNeg) 110 = nW 126 := ⟨vp_in_nI (n := 125) (by decide) (by decide), by rw [show (125 : Int32).toNatClampNeg = 125 from by decide]; rfl⟩
theorem jcb_126 : (Int8.ofInt 126).toInt32 = 126 := by decide
theorem jz_126 : vp_in (126 : Int32) 133 ∧ upd (nW 126) ((126 : Int32).toNatClampNeg) 32 = nW 127 := ⟨vp_in_nI (n := 126) (by decide) (by decide), by rw [show (126 : Int32).toNatClampNeg = 126 from by decide]; rfl⟩
theorem jcb_127 : (Int8.ofInt 127).toInt32 = 127 := by decide
theorem jz_127 : vp_in (127 : Int32) 133 ∧ upd (nW 127) ((127 : Int32).toNatClampNeg) 110 = nW 128 := ⟨vp_in_nI (n := 127) (by decide) (by decide), by rw [show (127 : Int32).toNatClampNeg = 127 from by decide]; rfl⟩
theorem jcs_128 : (Int16.ofInt 128).toInt32 = 128 := by decide
theorem jz_128 : vp_in (128 : Int32) 133 ∧ upd (nW 128) ((128 : Int32).toNatClampNeg) 101 = nW 129 := ⟨vp_in_nI (n := 128) (by decide) (by decide), by rw [show (128 : Int32).toNatClampNeg = 128 from by decide]; rfl⟩
theorem jcs_129 : (Int16.ofInt 129).toInt32 = 129 := by decide
theorem jz_129 : vp_in (129 : Int32) 133 ∧ upd (nW 129) ((129 : Int32).toNatClampNeg) 101 = nW 130 := ⟨vp_in_nI (n := 129) (by decide) (by decide), by rw [show (129 : Int32).toNatClampNeg = 129 from by decide]; rfl⟩
theorem jcs_130 : (Int16.ofInt 130).toInt32 = 130 := by decide
theorem jz_130 : vp_in (130 : Int32) 133 ∧ upd (nW 130) ((130 : Int32).toNatClampNeg) 100 = nW 131 := ⟨vp_in_nI (n := 130) (by decide) (by decide), by rw [show (130 : Int32).toNatClampNeg = 130 from by decide]; rfl⟩
theorem jcs_131 : (Int16.ofInt 131).toInt32 = 131 := by decide
theorem jz_131 : vp_in (131 : Int32) 133 ∧ upd (nW 131) ((131 : Int32).toNatClampNeg) 115 = nW 132 := ⟨vp_in_nI (n := 131) (by decide) (by decide), by rw [show (131 : Int32).toNatClampNeg = 131 from by decide]; rfl⟩
theorem jcs_132 : (Int16.ofInt 132).toInt32 = 132 := by decide
theorem jz_132 : vp_in (132 : Int32) 133 ∧ upd (nW 132) ((132 : Int32).toNatClampNeg) 32 = nW 133 := ⟨vp_in_nI (n := 132) (by decide) (by decide), by rw [show (132 : Int32).toNatClampNeg = 132 from by decide]; rfl⟩
theorem fk_RX10_37 : ∃ (C : String) (T : u_T), am_CB 7 C T 67 ∧ 19 < 67 ∧ Cond.fieldLink RX10 37 (T 19).1 (T 19).2.1 (T 19).2.2.1 ∈ am_WL ∧ (T 19).2.2.2 = true ∧ parseFieldDescriptor (T 19).2.2.1 = some (.array .int) ∧ (T 19).1 = RX10 := ⟨_, _, cb_7, by decide, am_t5 27 (by decide +kernel) rfl, rfl, by decide +kernel, rfl⟩
theorem fk_RX10_40 : ∃ (C : String) (T : u_T), am_CB 7 C T 67 ∧ 20 < 67 ∧ Cond.fieldLink RX10 40 (T 20).1 (T 20).2.1 (T 20).2.2.1 ∈ am_WL ∧ (T 20).2.2.2 = true ∧ parseFieldDescriptor (T 20).2.2.1 = some (.array .int) ∧ (T 20).1 = RX10 := ⟨_, _, cb_7, by decide, am_t5 28 (by decide +kernel) rfl, rfl, by decide +kernel, rfl⟩
theorem fk_RX10_43 : ∃ (C : String) (T : u_T), am_CB 7 C T 67 ∧ 21 < 67 ∧ Cond.fieldLink RX10 43 (T 21).1 (T 21).2.1 (T 21).2.2.1 ∈ am_WL ∧ (T 21).2.2.2 = true ∧ parseFieldDescriptor (T 21).2.2.1 = some (.array .int) ∧ (T 21).1 = RX10 := ⟨_, _, cb_7, by decide, am_t5 29 (by decide +kernel) rfl, rfl, by decide +kernel, rfl⟩
theorem fk_RX10_46 : ∃ (C : String) (T : u_T), am_CB 7 C T 67 ∧ 22 < 67 ∧ Cond.fieldLink RX10 46 (T 22).1 (T 22).2.1 (T 22).2.2.1 ∈ am_WL ∧ (T 22).2.2.2 = true ∧ parseFieldDescriptor (T 22).2.2.1 = some (.array .int) ∧ (T 22).1 = RX10 := ⟨_, _, cb_7, by decide, am_t5 30 (by decide +kernel) rfl, rfl, by decide +kernel, rfl⟩
theorem fk_RX10_49 : ∃ (C : String) (T : u_T), am_CB 7 C T 67 ∧ 23 < 67 ∧ Cond.fieldLink RX10 49 (T 23).1 (T 23).2.1 (T 23).2.2.1 ∈ am_WL ∧ (T 23).2.2.2 = true ∧ parseFieldDescriptor (T 23).2.2.1 = some (.array .int) ∧ (T 23).1 = RX10 := ⟨_, _, cb_7, by decide, am_t5 31 (by decide +kernel) rfl, rfl, by decide +kernel, rfl⟩
theorem fk_RX10_52 : ∃ (C : String) (T : u_T), am_CB 7 C T 67 ∧ 24 < 67 ∧ Cond.fieldLink RX10 52 (T 24).1 (T 24).2.1 (T 24).2.2.1 ∈ am_WL ∧ (T 24).2.2.2 = true ∧ parseFieldDescriptor (T 24).2.2.1 = some (.array .int) ∧ (T 24).1 = RX10 := ⟨_, _, cb_7, by decide, am_t5 32 (by decide +kernel) rfl, rfl, by decide +kernel, rfl⟩
theorem jcs_1200 : (Int16.ofInt 1200).toInt32 = 1200 := by decide
theorem fk_RX10_55 : ∃ (C : String) (T : u_T), am_CB 7 C T 67 ∧ 25 < 67 ∧ Cond.fieldLink RX10 55 (T 25).1 (T 25).2.1 (T 25).2.2.1 ∈ am_WL ∧ (T 25).2.2.2 = true ∧ parseFieldDescriptor (T 25).2.2.1 = some (.array .int) ∧ (T 25).1 = RX10 := ⟨_, _, cb_7, by decide, am_t5 33 (by decide +kernel) rfl, rfl, by decide +kernel, rfl⟩
theorem fk_RX10_58 : ∃ (C : String) (T : u_T), am_CB 7 C T 67 ∧ 26 < 67 ∧ Cond.fieldLink RX10 58 (T 26).1 (T 26).2.1 (T 26).2.2.1 ∈ am_WL ∧ (T 26).2.2.2 = true ∧ parseFieldDescriptor (T 26).2.2.1 = some (.array .int) ∧ (T 26).1 = RX10 := ⟨_, _, cb_7, by decide, am_t5 34 (by decide +kernel) rfl, rfl, by decide +kernel, rfl⟩
theorem fk_RX10_61 : ∃ (C : String) (T : u_T), am_CB 7 C T 67 ∧ 30 < 67 ∧ Cond.fieldLink RX10 61 (T 30).1 (T 30).2.1 (T 30).2.2.1 ∈ am_WL ∧ (T 30).2.2.2 = true ∧ parseFieldDescriptor (T 30).2.2.1 = some (.array .int) ∧ (T 30).1 = RX10 := ⟨_, _, cb_7, by decide, am_t5 38 (by decide +kernel) rfl, rfl, by decide +kernel, rfl⟩
theorem fk_RX10_64 : ∃ (C : String) (T : u_T), am_CB 7 C T 67 ∧ 35 < 67 ∧ Cond.fieldLink RX10 64 (T 35).1 (T 35).2.1 (T 35).2.2.1 ∈ am_WL ∧ (T 35).2.2.2 = false ∧ parseFieldDescriptor (T 35).2.2.1 = some .int := ⟨_, _, cb_7, by decide, am_t5 43 (by decide +kernel) rfl, rfl, by decide +kernel⟩
theorem fk_RX10_68 : ∃ (C : String) (T : u_T), am_CB 7 C T 67 ∧ 37 < 67 ∧ Cond.fieldLink RX10 68 (T 37).1 (T 37).2.1 (T 37).2.2.1 ∈ am_WL ∧ (T 37).2.2.2 = true ∧ parseFieldDescriptor (T 37).2.2.1 = some (.array .int) ∧ (T 37).1 = RX10 := ⟨_, _, cb_7, by decide, am_t5 45 (by decide +kernel) rfl, rfl, by decide +kernel, rfl⟩
theorem fk_RX10_71 : ∃ (C : String) (T : u_T), am_CB 7 C T 67 ∧ 39 < 67 ∧ Cond.fieldLink RX10 71 (T 39).1 (T 39).2.1 (T 39).2.2.1 ∈ am_WL ∧ (T 39).2.2.2 = true ∧ parseFieldDescriptor (T 39).2.2.1 = some (.array .int) ∧ (T 39).1 = RX10 := ⟨_, _, cb_7, by decide, am_t5 47 (by decide +kernel) rfl, rfl, by decide +kernel, rfl⟩
theorem fk_RX10_74 : ∃ (C : String) (T : u_T), am_CB 7 C T 67 ∧ 41 < 67 ∧ Cond.fieldLink RX10 74 (T 41).1 (T 41).2.1 (T 41).2.2.1 ∈ am_WL ∧ (T 41).2.2.2 = true ∧ parseFieldDescriptor (T 41).2.2.1 = some (.array .int) ∧ (T 41).1 = RX10 := ⟨_, _, cb_7, by decide, am_t5 49 (by decide +kernel) rfl, rfl, by decide +kernel, rfl⟩
theorem fk_RX10_77 : ∃ (C : String) (T : u_T), am_CB 7 C T 67 ∧ 42 < 67 ∧ Cond.fieldLink RX10 77 (T 42).1 (T 42).2.1 (T 42).2.2.1 ∈ am_WL ∧ (T 42).2.2.2 = true ∧ parseFieldDescriptor (T 42).2.2.1 = some (.array .int) ∧ (T 42).1 = RX10 := ⟨_, _, cb_7, by decide, am_t5 50 (by decide +kernel) rfl, rfl, by decide +kernel, rfl⟩
theorem jcs_420 : (Int16.ofInt 420).toInt32 = 420 := by decide
theorem fk_RX10_80 : ∃ (C : String) (T : u_T), am_CB 7 C T 67 ∧ 43 < 67 ∧ Cond.fieldLink RX10 80 (T 43).1 (T 43).2.1 (T 43).2.2.1 ∈ am_WL ∧ (T 43).2.2.2 = true ∧ parseFieldDescriptor (T 43).2.2.1 = some (.array .int) ∧ (T 43).1 = RX10 := ⟨_, _, cb_7, by decide, am_t5 51 (by decide +kernel) rfl, rfl, by decide +kernel, rfl⟩
theorem fk_RX10_83 : ∃ (C : String) (T : u_T), am_CB 7 C T 67 ∧ 45 < 67 ∧ Cond.fieldLink RX10 83 (T 45).1 (T 45).2.1 (T 45).2.2.1 ∈ am_WL ∧ (T 45).2.2.2 = true ∧ parseFieldDescriptor (T 45).2.2.1 = some (.array .int) ∧ (T 45).1 = RX10 := ⟨_, _, cb_7, by decide, am_t5 53 (by decide +kernel) rfl, rfl, by decide +kernel, rfl⟩
theorem fk_RX10_86 : ∃ (C : String) (T : u_T), am_CB 7 C T 67 ∧ 46 < 67 ∧ Cond.fieldLink RX10 86 (T 46).1 (T 46).2.1 (T 46).2.2.1 ∈ am_WL ∧ (T 46).2.2.2 = true ∧ parseFieldDescriptor (T 46).2.2.1 = some (.array .int) ∧ (T 46).1 = RX10 := ⟨_, _, cb_7, by decide, am_t5 54 (by decide +kernel) rfl, rfl, by decide +kernel, rfl⟩
theorem fk_RX10_89 : ∃ (C : String) (T : u_T), am_CB 7 C T 67 ∧ 47 < 67 ∧ Cond.fieldLink RX10 89 (T 47).1 (T 47).2.1 (T 47).2.2.1 ∈ am_WL ∧ (T 47).2.2.2 = true ∧ parseFieldDescriptor (T 47).2.2.1 = some (.array .int) ∧ (T 47).1 = RX10 := ⟨_, _, cb_7, by decide, am_t5 55 (by decide +kernel) rfl, rfl, by decide +kernel, rfl⟩
theorem fk_RX10_92 : ∃ (C : String) (T : u_T), am_CB 7 C T 67 ∧ 48 < 67 ∧ Cond.fieldLink RX10 92 (T 48).1 (T 48).2.1 (T 48).2.2.1 ∈ am_WL ∧ (T 48).2.2.2 = true ∧ parseFieldDescriptor (T 48).2.2.1 = some (.array .int) ∧ (T 48).1 = RX10 := ⟨_, _, cb_7, by decide, am_t5 56 (by decide +kernel) rfl, rfl, by decide +kernel, rfl⟩
theorem fk_RX10_95 : ∃ (C : String) (T : u_T), am_CB 7 C T 67 ∧ 49 < 67 ∧ Cond.fieldLink RX10 95 (T 49).1 (T 49).2.1 (T 49).2.2.1 ∈ am_WL ∧ (T 49).2.2.2 = true ∧ parseFieldDescriptor (T 49).2.2.1 = some (.array .int) ∧ (T 49).1 = RX10 := ⟨_, _, cb_7, by decide, am_t5 57 (by decide +kernel) rfl, rfl, by decide +kernel, rfl⟩
theorem jcs_169 : (Int16.ofInt 169).toInt32 = 169 := by decide
theorem fk_RX10_98 : ∃ (C : String) (T : u_T), am_CB 7 C T 67 ∧ 50 < 67 ∧ Cond.fieldLink RX10 98 (T 50).1 (T 50).2.1 (T 50).2.2.1 ∈ am_WL ∧ (T 50).2.2.2 = true ∧ parseFieldDescriptor (T 50).2.2.1 = some (.array .int) ∧ (T 50).1 = RX10 := ⟨_, _, cb_7, by decide, am_t5 58 (by decide +kernel) rfl, rfl, by decide +kernel, rfl⟩
theorem fk_RX10_101 : ∃ (C : String) (T : u_T), am_CB 7 C T 67 ∧ 51 < 67 ∧ Cond.fieldLink RX10 101 (T 51).1 (T 51).2.1 (T 51).2.2.1 ∈ am_WL ∧ (T 51).2.2.2 = true ∧ parseFieldDescriptor (T 51).2.2.1 = some (.array .int) ∧ (T 51).1 = RX10 := ⟨_, _, cb_7, by decide, am_t5 59 (by decide +kernel) rfl, rfl, by decide +kernel, rfl⟩
theorem fk_RX10_104 : ∃ (C : String) (T : u_T), am_CB 7 C T 67 ∧ 52 < 67 ∧ Cond.fieldLink RX10 104 (T 52).1 (T 52).2.1 (T 52).2.2.1 ∈ am_WL ∧ (T 52).2.2.2 = true ∧ parseFieldDescriptor (T 52).2.2.1 = some (.array .int) ∧ (T 52).1 = RX10 := ⟨_, _, cb_7, by decide, am_t5 60 (by decide +kernel) rfl, rfl, by decide +kernel, rfl⟩
theorem fk_RX10_107 : ∃ (C : String) (T : u_T), am_CB 7 C T 67 ∧ 54 < 67 ∧ Cond.fieldLink RX10 107 (T 54).1 (T 54).2.1 (T 54).2.2.1 ∈ am_WL ∧ (T 54).2.2.2 = true ∧ parseFieldDescriptor (T 54).2.2.1 = some (.array .int) ∧ (T 54).1 = RX10 := ⟨_, _, cb_7, by decide, am_t5 62 (by decide +kernel) rfl, rfl, by decide +kernel, rfl⟩
theorem fk_RX10_110 : ∃ (C : String) (T : u_T), am_CB 7 C T 67 ∧ 55 < 67 ∧ Cond.fieldLink RX10 110 (T 55).1 (T 55).2.1 (T 55).2.2.1 ∈ am_WL ∧ (T 55).2.2.2 = true ∧ parseFieldDescriptor (T 55).2.2.1 = some (.array .int) ∧ (T 55).1 = RX10 := ⟨_, _, cb_7, by decide, am_t5 63 (by decide +kernel) rfl, rfl, by decide +kernel, rfl⟩
theorem fk_RX10_113 : ∃ (C : String) (T : u_T), am_CB 7 C T 67 ∧ 57 < 67 ∧ Cond.fieldLink RX10 113 (T 57).1 (T 57).2.1 (T 57).2.2.1 ∈ am_WL ∧ (T 57).2.2.2 = true ∧ parseFieldDescriptor (T 57).2.2.1 = some (.array .int) ∧ (T 57).1 = RX10 := ⟨_, _, cb_7, by decide, am_t5 65 (by decide +kernel) rfl, rfl, by decide +kernel, rfl⟩
theorem fk_RX10_116 : ∃ (C : String) (T : u_T), am_CB 7 C T 67 ∧ 58 < 67 ∧ Cond.fieldLink RX10 116 (T 58).1 (T 58).2.1 (T 58).2.2.1 ∈ am_WL ∧ (T 58).2.2.2 = true ∧ parseFieldDescriptor (T 58).2.2.1 = some (.array .int) ∧ (T 58).1 = RX10 := ⟨_, _, cb_7, by decide, am_t5 66 (by decide +kernel) rfl, rfl, by decide +kernel, rfl⟩
theorem fk_RX10_119 : ∃ (C : String) (T : u_T), am_CB 7 C T 67 ∧ 60 < 67 ∧ Cond.fieldLink RX10 119 (T 60).1 (T 60).2.1 (T 60).2.2.1 ∈ am_WL ∧ (T 60).2.2.2 = true ∧ parseFieldDescriptor (T 60).2.2.1 = some (.array .int) ∧ (T 60).1 = RX10 := ⟨_, _, cb_7, by decide, am_t5 68 (by decide +kernel) rfl, rfl, by decide +kernel, rfl⟩
theorem fk_RX10_122 : ∃ (C : String) (T : u_T), am_CB 7 C T 67 ∧ 61 < 67 ∧ Cond.fieldLink RX10 122 (T 61).1 (T 61).2.1 (T 61).2.2.1 ∈ am_WL ∧ (T 61).2.2.2 = true ∧ parseFieldDescriptor (T 61).2.2.1 = some (.array .int) ∧ (T 61).1 = RX10 := ⟨_, _, cb_7, by decide, am_t5 69 (by decide +kernel) rfl, rfl, by decide +kernel, rfl⟩
theorem fk_RX10_125 : ∃ (C : String) (T : u_T), am_CB 7 C T 67 ∧ 62 < 67 ∧ Cond.fieldLink RX10 125 (T 62).1 (T 62).2.1 (T 62).2.2.1 ∈ am_WL ∧ (T 62).2.2.2 = true ∧ parseFieldDescriptor (T 62).2.2.1 = some (.array .int) ∧ (T 62).1 = RX10 := ⟨_, _, cb_7, by decide, am_t5 70 (by decide +kernel) rfl, rfl, by decide +kernel, rfl⟩
theorem jcs_2200 : (Int16.ofInt 2200).toInt32 = 2200 := by decide
theorem fk_RX10_128 : ∃ (C : String) (T : u_T), am_CB 7 C T 67 ∧ 66 < 67 ∧ Cond.fieldLink RX10 128 (T 66).1 (T 66).2.1 (T 66).2.2.1 ∈ am_WL ∧ (T 66).2.2.2 = true ∧ parseFieldDescriptor (T 66).2.2.1 = some (.array .int) ∧ (T 66).1 = RX10 := ⟨_, _, cb_7, by decide, am_t5 74 (by decide +kernel) rfl, rfl, by decide +kernel, rfl⟩
