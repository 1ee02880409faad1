theorem ec_0 (cI cF : ClassId) (h : Nat) (ad : Nat → Nat) : ((st_b h ad 0, am_ent LC cI cF (st_b h ad) (sC0 0) 0) : Nat × va_E) = (h, .inr (6, [.ref (ad 0), .ref (ad 38), .int 0, .ref (ad 76), .ref (ad 87), .ref (ad 156)])) := rfl
theorem ec_1 (cI cF : ClassId) (h : Nat) (ad : Nat → Nat) : ((st_b h ad 1, am_ent LC cI cF (st_b h ad) (sC0 1) 1) : Nat × va_E) = ((ad 0), .inr (5, [.ref (ad 1), .ref (ad 12), .ref (ad 14), .ref (ad 20), .ref (ad 22), .ref (ad 24), .ref (ad 26), .ref (ad 28), .ref (ad 30), .ref (ad 32), .ref (ad 34), .ref (ad 36)])) := rfl
theorem ec_2 (cI cF : ClassId) (h : Nat) (ad : Nat → Nat) : ((st_b h ad 2, am_ent LC cI cF (st_b h ad) (sC0 2) 2) : Nat × va_E) = ((ad 1), .inr (0, [.int 0, .ref (ad 2), .ref (ad 3), .ref (ad 4), .ref (ad 5), .ref (ad 6), .ref (ad 7), .ref (ad 8), .int 0, .ref (ad 9), .ref (ad 10), .ref (ad 11), .int 0, .int (-1), .int 0, .int 0])) := rfl
theorem ec_3 (cI cF : ClassId) (h : Nat) (ad : Nat → Nat) : ((st_b h ad 3, am_ent LC cI cF (st_b h ad) (sC0 3) 3) : Nat × va_E) = ((ad 2), .inl (cI, (12, .inl (fun _ => 0)))) := rfl
theorem ec_4 (cI cF : ClassId) (h : Nat) (ad : Nat → Nat) : ((st_b h ad 4, am_ent LC cI cF (st_b h ad) (sC0 4) 4) : Nat × va_E) = ((ad 3), .inl (cI, (12, .inl (fun _ => 0)))) := rfl
theorem ec_5 (cI cF : ClassId) (h : Nat) (ad : Nat → Nat) : ((st_b h ad 5, am_ent LC cI cF (st_b h ad) (sC0 5) 5) : Nat × va_E) = ((ad 4), .inl (cI, (12, .inl (fun _ => 0)))) := rfl
theorem ec_6 (cI cF : ClassId) (h : Nat) (ad : Nat → Nat) : ((st_b h ad 6, am_ent LC cI cF (st_b h ad) (sC0 6) 6) : Nat × va_E) = ((ad 5), .inl (cI, (12, .inl (fun _ => 0)))) := rfl
theorem ec_7 (cI cF : ClassId) (h : Nat) (ad : Nat → Nat) : ((st_b h ad 7, am_ent LC cI cF (st_b h ad) (sC0 7) 7) : Nat × va_E) = ((ad 6), .inl (cI, (12, .inl (fun _ => 0)))) := rfl
theorem ec_8 (cI cF : ClassId) (h : Nat) (ad : Nat → Nat) : ((st_b h ad 8, am_ent LC cI cF (st_b h ad) (sC0 8) 8) : Nat × va_E) = ((ad 7), .inl (cI, (12, .inl (fun _ => 0)))) := rfl
theorem ec_9 (cI cF : ClassId) (h : Nat) (ad : Nat → Nat) : ((st_b h ad 9, am_ent LC cI cF (st_b h ad) (sC0 9) 9) : Nat × va_E) = ((ad 8), .inl (cI, (12, .inl (fun _ => 0)))) := rfl
theorem ec_10 (cI cF : ClassId) (h : Nat) (ad : Nat → Nat) : ((st_b h ad 10, am_ent LC cI cF (st_b h ad) (sC0 10) 10) : Nat × va_E) = ((ad 9), .inl (cI, (12, .inl (fun _ => 0)))) := rfl
theorem ec_11 (cI cF : ClassId) (h : Nat) (ad : Nat → Nat) : ((st_b h ad 11, am_ent LC cI cF (st_b h ad) (sC0 11) 11) : Nat × va_E) = ((ad 10), .inl (cI, (12, .inl (fun _ => 0)))) := rfl
theorem ec_12 (cI cF : ClassId) (h : Nat) (ad : Nat → Nat) : ((st_b h ad 12, am_ent LC cI cF (st_b h ad) (sC0 12) 12) : Nat × va_E) = ((ad 11), .inl (cI, (12, .inl (fun _ => 0)))) := rfl
theorem ec_13 (cI cF : ClassId) (h : Nat) (ad : Nat → Nat) : ((st_b h ad 13, am_ent LC cI cF (st_b h ad) (sC0 13) 13) : Nat × va_E) = ((ad 12), .inr (4, [.int 4, .ref (ad 13), .int 0])) := rfl
theorem ec_14 (cI cF : ClassId) (h : Nat) (ad : Nat → Nat) : ((st_b h ad 14, am_ent LC cI cF (st_b h ad) (sC0 14) 14) : Nat × va_E) = ((ad 13), .inl (cI, (600, .inl (fun _ => 0)))) := rfl
theorem ec_15 (cI cF : ClassId) (h : Nat) (ad : Nat → Nat) : ((st_b h ad 15, am_ent LC cI cF (st_b h ad) (sC0 15) 15) : Nat × va_E) = ((ad 14), .inr (1, [.ref (ad 15), .ref (ad 17), .ref (ad 19)])) := rfl
theorem ec_16 (cI cF : ClassId) (h : Nat) (ad : Nat → Nat) : ((st_b h ad 16, am_ent LC cI cF (st_b h ad) (sC0 16) 16) : Nat × va_E) = ((ad 15), .inr (4, [.int 4, .ref (ad 16), .int 0])) := rfl
theorem ec_17 (cI cF : ClassId) (h : Nat) (ad : Nat → Nat) : ((st_b h ad 17, am_ent LC cI cF (st_b h ad) (sC0 17) 17) : Nat × va_E) = ((ad 16), .inl (cI, (64, .inl (fun _ => 0)))) := rfl
theorem ec_18 (cI cF : ClassId) (h : Nat) (ad : Nat → Nat) : ((st_b h ad 18, am_ent LC cI cF (st_b h ad) (sC0 18) 18) : Nat × va_E) = ((ad 17), .inr (4, [.int 2, .ref (ad 18), .int 0])) := rfl
theorem ec_19 (cI cF : ClassId) (h : Nat) (ad : Nat → Nat) : ((st_b h ad 19, am_ent LC cI cF (st_b h ad) (sC0 19) 19) : Nat × va_E) = ((ad 18), .inl (cI, (800, .inl (fun _ => 0)))) := rfl
theorem ec_20 (cI cF : ClassId) (h : Nat) (ad : Nat → Nat) : ((st_b h ad 20, am_ent LC cI cF (st_b h ad) (sC0 20) 20) : Nat × va_E) = ((ad 19), .inl (cI, (64, .inl (fun _ => 0)))) := rfl
theorem ec_21 (cI cF : ClassId) (h : Nat) (ad : Nat → Nat) : ((st_b h ad 21, am_ent LC cI cF (st_b h ad) (sC0 21) 21) : Nat × va_E) = ((ad 20), .inr (4, [.int 4, .ref (ad 21), .int 0])) := rfl
theorem ec_22 (cI cF : ClassId) (h : Nat) (ad : Nat → Nat) : ((st_b h ad 22, am_ent LC cI cF (st_b h ad) (sC0 22) 22) : Nat × va_E) = ((ad 21), .inl (cI, (64, .inl (fun _ => 0)))) := rfl
theorem ec_23 (cI cF : ClassId) (h : Nat) (ad : Nat → Nat) : ((st_b h ad 23, am_ent LC cI cF (st_b h ad) (sC0 23) 23) : Nat × va_E) = ((ad 22), .inr (4, [.int 4, .ref (ad 23), .int 0])) := rfl
theorem ec_24 (cI cF : ClassId) (h : Nat) (ad : Nat → Nat) : ((st_b h ad 24, am_ent LC cI cF (st_b h ad) (sC0 24) 24) : Nat × va_E) = ((ad 23), .inl (cI, (64, .inl (fun _ => 0)))) := rfl
theorem ec_25 (cI cF : ClassId) (h : Nat) (ad : Nat → Nat) : ((st_b h ad 25, am_ent LC cI cF (st_b h ad) (sC0 25) 25) : Nat × va_E) = ((ad 24), .inr (4, [.int 4, .ref (ad 25), .int 0])) := rfl
theorem ec_26 (cI cF : ClassId) (h : Nat) (ad : Nat → Nat) : ((st_b h ad 26, am_ent LC cI cF (st_b h ad) (sC0 26) 26) : Nat × va_E) = ((ad 25), .inl (cI, (64, .inl (fun _ => 0)))) := rfl
theorem ec_27 (cI cF : ClassId) (h : Nat) (ad : Nat → Nat) : ((st_b h ad 27, am_ent LC cI cF (st_b h ad) (sC0 27) 27) : Nat × va_E) = ((ad 26), .inr (4, [.int 3, .ref (ad 27), .int 0])) := rfl
theorem ec_28 (cI cF : ClassId) (h : Nat) (ad : Nat → Nat) : ((st_b h ad 28, am_ent LC cI cF (st_b h ad) (sC0 28) 28) : Nat × va_E) = ((ad 27), .inl (cI, (24, .inl (fun _ => 0)))) := rfl
theorem ec_29 (cI cF : ClassId) (h : Nat) (ad : Nat → Nat) : ((st_b h ad 29, am_ent LC cI cF (st_b h ad) (sC0 29) 29) : Nat × va_E) = ((ad 28), .inr (4, [.int 1, .ref (ad 29), .int 0])) := rfl
theorem ec_30 (cI cF : ClassId) (h : Nat) (ad : Nat → Nat) : ((st_b h ad 30, am_ent LC cI cF (st_b h ad) (sC0 30) 30) : Nat × va_E) = ((ad 29), .inl (cI, (12, .inl (fun _ => 0)))) := rfl
theorem ec_31 (cI cF : ClassId) (h : Nat) (ad : Nat → Nat) : ((st_b h ad 31, am_ent LC cI cF (st_b h ad) (sC0 31) 31) : Nat × va_E) = ((ad 30), .inr (4, [.int 1, .ref (ad 31), .int 0])) := rfl
theorem ec_32 (cI cF : ClassId) (h : Nat) (ad : Nat → Nat) : ((st_b h ad 32, am_ent LC cI cF (st_b h ad) (sC0 32) 32) : Nat × va_E) = ((ad 31), .inl (cI, (4, .inl (fun _ => 0)))) := rfl
theorem ec_33 (cI cF : ClassId) (h : Nat) (ad : Nat → Nat) : ((st_b h ad 33, am_ent LC cI cF (st_b h ad) (sC0 33) 33) : Nat × va_E) = ((ad 32), .inr (4, [.int 1, .ref (ad 33), .int 0])) := rfl
theorem ec_34 (cI cF : ClassId) (h : Nat) (ad : Nat → Nat) : ((st_b h ad 34, am_ent LC cI cF (st_b h ad) (sC0 34) 34) : Nat × va_E) = ((ad 33), .inl (cI, (16, .inl (fun _ => 0)))) := rfl
theorem ec_35 (cI cF : ClassId) (h : Nat) (ad : Nat → Nat) : ((st_b h ad 35, am_ent LC cI cF (st_b h ad) (sC0 35) 35) : Nat × va_E) = ((ad 34), .inr (4, [.int 2, .ref (ad 35), .int 0])) := rfl
theorem ec_36 (cI cF : ClassId) (h : Nat) (ad : Nat → Nat) : ((st_b h ad 36, am_ent LC cI cF (st_b h ad) (sC0 36) 36) : Nat × va_E) = ((ad 35), .inl (cI, (14, .inl (fun _ => 0)))) := rfl
theorem ec_37 (cI cF : ClassId) (h : Nat) (ad : Nat → Nat) : ((st_b h ad 37, am_ent LC cI cF (st_b h ad) (sC0 37) 37) : Nat × va_E) = ((ad 36), .inr (4, [.int 2, .ref (ad 37), .int 0])) := rfl
theorem ec_38 (cI cF : ClassId) (h : Nat) (ad : Nat → Nat) : ((st_b h ad 38, am_ent LC cI cF (st_b h ad) (sC0 38) 38) : Nat × va_E) = ((ad 37), .inl (cI, (16, .inl (fun _ => 0)))) := rfl
theorem ec_39 (cI cF : ClassId) (h : Nat) (ad : Nat → Nat) : ((st_b h ad 39, am_ent LC cI cF (st_b h ad) (sC0 39) 39) : Nat × va_E) = ((ad 38), .inr (5, [.ref (ad 39), .ref (ad 50), .ref (ad 52), .ref (ad 58), .ref (ad 60), .ref (ad 62), .ref (ad 64), .ref (ad 66), .ref (ad 68), .ref (ad 70), .ref (ad 72), .ref (ad 74)])) := rfl
theorem ec_40 (cI cF : ClassId) (h : Nat) (ad : Nat → Nat) : ((st_b h ad 40, am_ent LC cI cF (st_b h ad) (sC0 40) 40) : Nat × va_E) = ((ad 39), .inr (0, [.int 0, .ref (ad 40), .ref (ad 41), .ref (ad 42), .ref (ad 43), .ref (ad 44), .ref (ad 45), .ref (ad 46), .int 0, .ref (ad 47), .ref (ad 48), .ref (ad 49), .int 0, .int (-1), .int 0, .int 0])) := rfl
theorem ec_41 (cI cF : ClassId) (h : Nat) (ad : Nat → Nat) : ((st_b h ad 41, am_ent LC cI cF (st_b h ad) (sC0 41) 41) : Nat × va_E) = ((ad 40), .inl (cI, (12, .inl (fun _ => 0)))) := rfl
theorem ec_42 (cI cF : ClassId) (h : Nat) (ad : Nat → Nat) : ((st_b h ad 42, am_ent LC cI cF (st_b h ad) (sC0 42) 42) : Nat × va_E) = ((ad 41), .inl (cI, (12, .inl (fun _ => 0)))) := rfl
theorem ec_43 (cI cF : ClassId) (h : Nat) (ad : Nat → Nat) : ((st_b h ad 43, am_ent LC cI cF (st_b h ad) (sC0 43) 43) : Nat × va_E) = ((ad 42), .inl (cI, (12, .inl (fun _ => 0)))) := rfl
theorem ec_44 (cI cF : ClassId) (h : Nat) (ad : Nat → Nat) : ((st_b h ad 44, am_ent LC cI cF (st_b h ad) (sC0 44) 44) : Nat × va_E) = ((ad 43), .inl (cI, (12, .inl (fun _ => 0)))) := rfl
theorem ec_45 (cI cF : ClassId) (h : Nat) (ad : Nat → Nat) : ((st_b h ad 45, am_ent LC cI cF (st_b h ad) (sC0 45) 45) : Nat × va_E) = ((ad 44), .inl (cI, (12, .inl (fun _ => 0)))) := rfl
theorem ec_46 (cI cF : ClassId) (h : Nat) (ad : Nat → Nat) : ((st_b h ad 46, am_ent LC cI cF (st_b h ad) (sC0 46) 46) : Nat × va_E) = ((ad 45), .inl (cI, (12, .inl (fun _ => 0)))) := rfl
theorem ec_47 (cI cF : ClassId) (h : Nat) (ad : Nat → Nat) : ((st_b h ad 47, am_ent LC cI cF (st_b h ad) (sC0 47) 47) : Nat × va_E) = ((ad 46), .inl (cI, (12, .inl (fun _ => 0)))) := rfl
theorem ec_48 (cI cF : ClassId) (h : Nat) (ad : Nat → Nat) : ((st_b h ad 48, am_ent LC cI cF (st_b h ad) (sC0 48) 48) : Nat × va_E) = ((ad 47), .inl (cI, (12, .inl (fun _ => 0)))) := rfl
theorem ec_49 (cI cF : ClassId) (h : Nat) (ad : Nat → Nat) : ((st_b h ad 49, am_ent LC cI cF (st_b h ad) (sC0 49) 49) : Nat × va_E) = ((ad 48), .inl (cI, (12, .inl (fun _ => 0)))) := rfl
theorem ec_50 (cI cF : ClassId) (h : Nat) (ad : Nat → Nat) : ((st_b h ad 50, am_ent LC cI cF (st_b h ad) (sC0 50) 50) : Nat × va_E) = ((ad 49), .inl (cI, (12, .inl (fun _ => 0)))) := rfl
theorem ec_51 (cI cF : ClassId) (h : Nat) (ad : Nat → Nat) : ((st_b h ad 51, am_ent LC cI cF (st_b h ad) (sC0 51) 51) : Nat × va_E) = ((ad 50), .inr (4, [.int 4, .ref (ad 51), .int 0])) := rfl
theorem ec_52 (cI cF : ClassId) (h : Nat) (ad : Nat → Nat) : ((st_b h ad 52, am_ent LC cI cF (st_b h ad) (sC0 52) 52) : Nat × va_E) = ((ad 51), .inl (cI, (600, .inl (fun _ => 0)))) := rfl
theorem ec_53 (cI cF : ClassId) (h : Nat) (ad : Nat → Nat) : ((st_b h ad 53, am_ent LC cI cF (st_b h ad) (sC0 53) 53) : Nat × va_E) = ((ad 52), .inr (1, [.ref (ad 53), .ref (ad 55), .ref (ad 57)])) := rfl
theorem ec_54 (cI cF : ClassId) (h : Nat) (ad : Nat → Nat) : ((st_b h ad 54, am_ent LC cI cF (st_b h ad) (sC0 54) 54) : Nat × va_E) = ((ad 53), .inr (4, [.int 4, .ref (ad 54), .int 0])) := rfl
theorem ec_55 (cI cF : ClassId) (h : Nat) (ad : Nat → Nat) : ((st_b h ad 55, am_ent LC cI cF (st_b h ad) (sC0 55) 55) : Nat × va_E) = ((ad 54), .inl (cI, (64, .inl (fun _ => 0)))) := rfl
theorem ec_56 (cI cF : ClassId) (h : Nat) (ad : Nat → Nat) : ((st_b h ad 56, am_ent LC cI cF (st_b h ad) (sC0 56) 56) : Nat × va_E) = ((ad 55), .inr (4, [.int 2, .ref (ad 56), .int 0])) := rfl
theorem ec_57 (cI cF : ClassId) (h : Nat) (ad : Nat → Nat) : ((st_b h ad 57, am_ent LC cI cF (st_b h ad) (sC0 57) 57) : Nat × va_E) = ((ad 56), .inl (cI, (800, .inl (fun _ => 0)))) := rfl
theorem ec_58 (cI cF : ClassId) (h : Nat) (ad : Nat → Nat) : ((st_b h ad 58, am_ent LC cI cF (st_b h ad) (sC0 58) 58) : Nat × va_E) = ((ad 57), .inl (cI, (64, .inl (fun _ => 0)))) := rfl
theorem ec_59 (cI cF : ClassId) (h : Nat) (ad : Nat → Nat) : ((st_b h ad 59, am_ent LC cI cF (st_b h ad) (sC0 59) 59) : Nat × va_E) = ((ad 58), .inr (4, [.int 4, .ref (ad 59), .int 0])) := rfl
theorem ec_60 (cI cF : ClassId) (h : Nat) (ad : Nat → Nat) : ((st_b h ad 60, am_ent LC cI cF (st_b h ad) (sC0 60) 60) : Nat × va_E) = ((ad 59), .inl (cI, (64, .inl (fun _ => 0)))) := rfl
theorem ec_61 (cI cF : ClassId) (h : Nat) (ad : Nat → Nat) : ((st_b h ad 61, am_ent LC cI cF (st_b h ad) (sC0 61) 61) : Nat × va_E) = ((ad 60), .inr (4, [.int 4, .ref (ad 61), .int 0])) := rfl
theorem ec_62 (cI cF : ClassId) (h : Nat) (ad : Nat → Nat) : ((st_b h ad 62, am_ent LC cI cF (st_b h ad) (sC0 62) 62) : Nat × va_E) = ((ad 61), .inl (cI, (64, .inl (fun _ => 0)))) := rfl
theorem ec_63 (cI cF : ClassId) (h : Nat) (ad : Nat → Nat) : ((st_b h ad 63, am_ent LC cI cF (st_b h ad) (sC0 63) 63) : Nat × va_E) = ((ad 62), .inr (4, [.int 4, .ref (ad 63), .int 0])) := rfl
theorem ec_64 (cI cF : ClassId) (h : Nat) (ad : Nat → Nat) : ((st_b h ad 64, am_ent LC cI cF (st_b h ad) (sC0 64) 64) : Nat × va_E) = ((ad 63), .inl (cI, (64, .inl (fun _ => 0)))) := rfl
theorem ec_65 (cI cF : ClassId) (h : Nat) (ad : Nat → Nat) : ((st_b h ad 65, am_ent LC cI cF (st_b h ad) (sC0 65) 65) : Nat × va_E) = ((ad 64), .inr (4, [.int 3, .ref (ad 65), .int 0])) := rfl
theorem ec_66 (cI cF : ClassId) (h : Nat) (ad : Nat → Nat) : ((st_b h ad 66, am_ent LC cI cF (st_b h ad) (sC0 66) 66) : Nat × va_E) = ((ad 65), .inl (cI, (24, .inl (fun _ => 0)))) := rfl
theorem ec_67 (cI cF : ClassId) (h : Nat) (ad : Nat → Nat) : ((st_b h ad 67, am_ent LC cI cF (st_b h ad) (sC0 67) 67) : Nat × va_E) = ((ad 66), .inr (4, [.int 1, .ref (ad 67), .int 0])) := rfl
theorem ec_68 (cI cF : ClassId) (h : Nat) (ad : Nat → Nat) : ((st_b h ad 68, am_ent LC cI cF (st_b h ad) (sC0 68) 68) : Nat × va_E) = ((ad 67), .inl (cI, (12, .inl (fun _ => 0)))) := rfl
theorem ec_69 (cI cF : ClassId) (h : Nat) (ad : Nat → Nat) : ((st_b h ad 69, am_ent LC cI cF (st_b h ad) (sC0 69) 69) : Nat × va_E) = ((ad 68), .inr (4, [.int 1, .ref (ad 69), .int 0])) := rfl
theorem ec_70 (cI cF : ClassId) (h : Nat) (ad : Nat → Nat) : ((st_b h ad 70, am_ent LC cI cF (st_b h ad) (sC0 70) 70) : Nat × va_E) = ((ad 69), .inl (cI, (4, .inl (fun _ => 0)))) := rfl
theorem ec_71 (cI cF : ClassId) (h : Nat) (ad : Nat → Nat) : ((st_b h ad 71, am_ent LC cI cF (st_b h ad) (sC0 71) 71) : Nat × va_E) = ((ad 70), .inr (4, [.int 1, .ref (ad 71), .int 0])) := rfl
theorem ec_72 (cI cF : ClassId) (h : Nat) (ad : Nat → Nat) : ((st_b h ad 72, am_ent LC cI cF (st_b h ad) (sC0 72) 72) : Nat × va_E) = ((ad 71), .inl (cI, (16, .inl (fun _ => 0)))) := rfl
theorem ec_73 (cI cF : ClassId) (h : Nat) (ad : Nat → Nat) : ((st_b h ad 73, am_ent LC cI cF (st_b h ad) (sC0 73) 73) : Nat × va_E) = ((ad 72), .inr (4, [.int 2, .ref (ad 73), .int 0])) := rfl
theorem ec_74 (cI cF : ClassId) (h : Nat) (ad : Nat → Nat) : ((st_b h ad 74, am_ent LC cI cF (st_b h ad) (sC0 74) 74) : Nat × va_E) = ((ad 73), .inl (cI, (14, .inl (fun _ => 0)))) := rfl
theorem ec_75 (cI cF : ClassId) (h : Nat) (ad : Nat → Nat) : ((st_b h ad 75, am_ent LC cI cF (st_b h ad) (sC0 75) 75) : Nat × va_E) = ((ad 74), .inr (4, [.int 2, .ref (ad 75), .int 0])) := rfl
theorem ec_76 (cI cF : ClassId) (h : Nat) (ad : Nat → Nat) : ((st_b h ad 76, am_ent LC cI cF (st_b h ad) (sC0 76) 76) : Nat × va_E) = ((ad 75), .inl (cI, (16, .inl (fun _ => 0)))) := rfl
theorem ec_77 (cI cF : ClassId) (h : Nat) (ad : Nat → Nat) : ((st_b h ad 77, am_ent LC cI cF (st_b h ad) (sC0 77) 77) : Nat × va_E) = ((ad 76), .inr (0, [.int 0, .ref (ad 77), .ref (ad 78), .ref (ad 79), .ref (ad 80), .ref (ad 81), .ref (ad 82), .ref (ad 83), .int 0, .ref (ad 84), .ref (ad 85), .ref (ad 86), .int 0, .int (-1), .int 0, .int 0])) := rfl
theorem ec_78 (cI cF : ClassId) (h : Nat) (ad : Nat → Nat) : ((st_b h ad 78, am_ent LC cI cF (st_b h ad) (sC0 78) 78) : Nat × va_E) = ((ad 77), .inl (cI, (12, .inl (fun _ => 0)))) := rfl
theorem ec_79 (cI cF : ClassId) (h : Nat) (ad : Nat → Nat) : ((st_b h ad 79, am_ent LC cI cF (st_b h ad) (sC0 79) 79) : Nat × va_E) = ((ad 78), .inl (cI, (12, .inl (fun _ => 0)))) := rfl
theorem ec_80 (cI cF : ClassId) (h : Nat) (ad : Nat → Nat) : ((st_b h ad 80, am_ent LC cI cF (st_b h ad) (sC0 80) 80) : Nat × va_E) = ((ad 79), .inl (cI, (12, .inl (fun _ => 0)))) := rfl
theorem ec_81 (cI cF : ClassId) (h : Nat) (ad : Nat → Nat) : ((st_b h ad 81, am_ent LC cI cF (st_b h ad) (sC0 81) 81) : Nat × va_E) = ((ad 80), .inl (cI, (12, .inl (fun _ => 0)))) := rfl
theorem ec_82 (cI cF : ClassId) (h : Nat) (ad : Nat → Nat) : ((st_b h ad 82, am_ent LC cI cF (st_b h ad) (sC0 82) 82) : Nat × va_E) = ((ad 81), .inl (cI, (12, .inl (fun _ => 0)))) := rfl
theorem ec_83 (cI cF : ClassId) (h : Nat) (ad : Nat → Nat) : ((st_b h ad 83, am_ent LC cI cF (st_b h ad) (sC0 83) 83) : Nat × va_E) = ((ad 82), .inl (cI, (12, .inl (fun _ => 0)))) := rfl
theorem ec_84 (cI cF : ClassId) (h : Nat) (ad : Nat → Nat) : ((st_b h ad 84, am_ent LC cI cF (st_b h ad) (sC0 84) 84) : Nat × va_E) = ((ad 83), .inl (cI, (12, .inl (fun _ => 0)))) := rfl
theorem ec_85 (cI cF : ClassId) (h : Nat) (ad : Nat → Nat) : ((st_b h ad 85, am_ent LC cI cF (st_b h ad) (sC0 85) 85) : Nat × va_E) = ((ad 84), .inl (cI, (12, .inl (fun _ => 0)))) := rfl
theorem ec_86 (cI cF : ClassId) (h : Nat) (ad : Nat → Nat) : ((st_b h ad 86, am_ent LC cI cF (st_b h ad) (sC0 86) 86) : Nat × va_E) = ((ad 85), .inl (cI, (12, .inl (fun _ => 0)))) := rfl
theorem ec_87 (cI cF : ClassId) (h : Nat) (ad : Nat → Nat) : ((st_b h ad 87, am_ent LC cI cF (st_b h ad) (sC0 87) 87) : Nat × va_E) = ((ad 86), .inl (cI, (12, .inl (fun _ => 0)))) := rfl
theorem ec_88 (cI cF : ClassId) (h : Nat) (ad : Nat → Nat) : ((st_b h ad 88, am_ent LC cI cF (st_b h ad) (sC0 88) 88) : Nat × va_E) = ((ad 87), .inr (2, [.ref (ad 88), .ref (ad 89), .int 0, .int 0])) := rfl
theorem ec_89f (h : Nat) (ad : Nat → Nat) : (fun j => ((LC.2.2.1 89 j).map (st_b h ad))) = (va_up (va_up (va_up (va_up (va_up (va_up (fun _ => none) 0 (some (ad 90))) 1 (some (ad 101))) 2 (some (ad 112))) 3 (some (ad 123))) 4 (some (ad 134))) 5 (some (ad 145))) := by
  funext j
  match j with
  | 0 => rfl
  | 1 => rfl
  | 2 => rfl
  | 3 => rfl
  | 4 => rfl
  | 5 => rfl
  | n + 6 =>
    show ((if n + 6 < 6 then some (89 + 2 + 11 * (n + 6)) else none : Option Nat).map (st_b h ad)) = _
    rw [if_neg (by omega)]
    simp [va_up]
theorem ec_89 (cI cF : ClassId) (h : Nat) (ad : Nat → Nat) : ((st_b h ad 89, am_ent LC cI cF (st_b h ad) (sC0 89) 89) : Nat × va_E) = ((ad 88), .inl (cF, (6, .inr (.inr (.inr (.inr (va_up (va_up (va_up (va_up (va_up (va_up (fun _ => none) 0 (some (ad 90))) 1 (some (ad 101))) 2 (some (ad 112))) 3 (some (ad 123))) 4 (some (ad 134))) 5 (some (ad 145))))))))) := by
  rw [← ec_89f h ad]; rfl
theorem ec_90 (cI cF : ClassId) (h : Nat) (ad : Nat → Nat) : ((st_b h ad 90, am_ent LC cI cF (st_b h ad) (sC0 90) 90) : Nat × va_E) = ((ad 89), .inl (cI, (6, .inl (fun _ => 0)))) := rfl
theorem ec_91 (cI cF : ClassId) (h : Nat) (ad : Nat → Nat) : ((st_b h ad 91, am_ent LC cI cF (st_b h ad) (sC0 91) 91) : Nat × va_E) = ((ad 90), .inr (0, [.int 0, .ref (ad 91), .ref (ad 92), .ref (ad 93), .ref (ad 94), .ref (ad 95), .ref (ad 96), .ref (ad 97), .int 0, .ref (ad 98), .ref (ad 99), .ref (ad 100), .int 0, .int (-1), .int 0, .int 0])) := rfl
theorem ec_92 (cI cF : ClassId) (h : Nat) (ad : Nat → Nat) : ((st_b h ad 92, am_ent LC cI cF (st_b h ad) (sC0 92) 92) : Nat × va_E) = ((ad 91), .inl (cI, (12, .inl (fun _ => 0)))) := rfl
theorem ec_93 (cI cF : ClassId) (h : Nat) (ad : Nat → Nat) : ((st_b h ad 93, am_ent LC cI cF (st_b h ad) (sC0 93) 93) : Nat × va_E) = ((ad 92), .inl (cI, (12, .inl (fun _ => 0)))) := rfl
theorem ec_94 (cI cF : ClassId) (h : Nat) (ad : Nat → Nat) : ((st_b h ad 94, am_ent LC cI cF (st_b h ad) (sC0 94) 94) : Nat × va_E) = ((ad 93), .inl (cI, (12, .inl (fun _ => 0)))) := rfl
theorem ec_95 (cI cF : ClassId) (h : Nat) (ad : Nat → Nat) : ((st_b h ad 95, am_ent LC cI cF (st_b h ad) (sC0 95) 95) : Nat × va_E) = ((ad 94), .inl (cI, (12, .inl (fun _ => 0)))) := rfl
theorem ec_96 (cI cF : ClassId) (h : Nat) (ad : Nat → Nat) : ((st_b h ad 96, am_ent LC cI cF (st_b h ad) (sC0 96) 96) : Nat × va_E) = ((ad 95), .inl (cI, (12, .inl (fun _ => 0)))) := rfl
theorem ec_97 (cI cF : ClassId) (h : Nat) (ad : Nat → Nat) : ((st_b h ad 97, am_ent LC cI cF (st_b h ad) (sC0 97) 97) : Nat × va_E) = ((ad 96), .inl (cI, (12, .inl (fun _ => 0)))) := rfl
theorem ec_98 (cI cF : ClassId) (h : Nat) (ad : Nat → Nat) : ((st_b h ad 98, am_ent LC cI cF (st_b h ad) (sC0 98) 98) : Nat × va_E) = ((ad 97), .inl (cI, (12, .inl (fun _ => 0)))) := rfl
theorem ec_99 (cI cF : ClassId) (h : Nat) (ad : Nat → Nat) : ((st_b h ad 99, am_ent LC cI cF (st_b h ad) (sC0 99) 99) : Nat × va_E) = ((ad 98), .inl (cI, (12, .inl (fun _ => 0)))) := rfl
theorem ec_100 (cI cF : ClassId) (h : Nat) (ad : Nat → Nat) : ((st_b h ad 100, am_ent LC cI cF (st_b h ad) (sC0 100) 100) : Nat × va_E) = ((ad 99), .inl (cI, (12, .inl (fun _ => 0)))) := rfl
theorem ec_101 (cI cF : ClassId) (h : Nat) (ad : Nat → Nat) : ((st_b h ad 101, am_ent LC cI cF (st_b h ad) (sC0 101) 101) : Nat × va_E) = ((ad 100), .inl (cI, (12, .inl (fun _ => 0)))) := rfl
theorem ec_102 (cI cF : ClassId) (h : Nat) (ad : Nat → Nat) : ((st_b h ad 102, am_ent LC cI cF (st_b h ad) (sC0 102) 102) : Nat × va_E) = ((ad 101), .inr (0, [.int 0, .ref (ad 102), .ref (ad 103), .ref (ad 104), .ref (ad 105), .ref (ad 106), .ref (ad 107), .ref (ad 108), .int 0, .ref (ad 109), .ref (ad 110), .ref (ad 111), .int 0, .int (-1), .int 0, .int 0])) := rfl
theorem ec_103 (cI cF : ClassId) (h : Nat) (ad : Nat → Nat) : ((st_b h ad 103, am_ent LC cI cF (st_b h ad) (sC0 103) 103) : Nat × va_E) = ((ad 102), .inl (cI, (12, .inl (fun _ => 0)))) := rfl
theorem ec_104 (cI cF : ClassId) (h : Nat) (ad : Nat → Nat) : ((st_b h ad 104, am_ent LC cI cF (st_b h ad) (sC0 104) 104) : Nat × va_E) = ((ad 103), .inl (cI, (12, .inl (fun _ => 0)))) := rfl
theorem ec_105 (cI cF : ClassId) (h : Nat) (ad : Nat → Nat) : ((st_b h ad 105, am_ent LC cI cF (st_b h ad) (sC0 105) 105) : Nat × va_E) = ((ad 104), .inl (cI, (12, .inl (fun _ => 0)))) := rfl
theorem ec_106 (cI cF : ClassId) (h : Nat) (ad : Nat → Nat) : ((st_b h ad 106, am_ent LC cI cF (st_b h ad) (sC0 106) 106) : Nat × va_E) = ((ad 105), .inl (cI, (12, .inl (fun _ => 0)))) := rfl
theorem ec_107 (cI cF : ClassId) (h : Nat) (ad : Nat → Nat) : ((st_b h ad 107, am_ent LC cI cF (st_b h ad) (sC0 107) 107) : Nat × va_E) = ((ad 106), .inl (cI, (12, .inl (fun _ => 0)))) := rfl
theorem ec_108 (cI cF : ClassId) (h : Nat) (ad : Nat → Nat) : ((st_b h ad 108, am_ent LC cI cF (st_b h ad) (sC0 108) 108) : Nat × va_E) = ((ad 107), .inl (cI, (12, .inl (fun _ => 0)))) := rfl
theorem ec_109 (cI cF : ClassId) (h : Nat) (ad : Nat → Nat) : ((st_b h ad 109, am_ent LC cI cF (st_b h ad) (sC0 109) 109) : Nat × va_E) = ((ad 108), .inl (cI, (12, .inl (fun _ => 0)))) := rfl
theorem ec_110 (cI cF : ClassId) (h : Nat) (ad : Nat → Nat) : ((st_b h ad 110, am_ent LC cI cF (st_b h ad) (sC0 110) 110) : Nat × va_E) = ((ad 109), .inl (cI, (12, .inl (fun _ => 0)))) := rfl
theorem ec_111 (cI cF : ClassId) (h : Nat) (ad : Nat → Nat) : ((st_b h ad 111, am_ent LC cI cF (st_b h ad) (sC0 111) 111) : Nat × va_E) = ((ad 110), .inl (cI, (12, .inl (fun _ => 0)))) := rfl
theorem ec_112 (cI cF : ClassId) (h : Nat) (ad : Nat → Nat) : ((st_b h ad 112, am_ent LC cI cF (st_b h ad) (sC0 112) 112) : Nat × va_E) = ((ad 111), .inl (cI, (12, .inl (fun _ => 0)))) := rfl
theorem ec_113 (cI cF : ClassId) (h : Nat) (ad : Nat → Nat) : ((st_b h ad 113, am_ent LC cI cF (st_b h ad) (sC0 113) 113) : Nat × va_E) = ((ad 112), .inr (0, [.int 0, .ref (ad 113), .ref (ad 114), .ref (ad 115), .ref (ad 116), .ref (ad 117), .ref (ad 118), .ref (ad 119), .int 0, .ref (ad 120), .ref (ad 121), .ref (ad 122), .int 0, .int (-1), .int 0, .int 0])) := rfl
theorem ec_114 (cI cF : ClassId) (h : Nat) (ad : Nat → Nat) : ((st_b h ad 114, am_ent LC cI cF (st_b h ad) (sC0 114) 114) : Nat × va_E) = ((ad 113), .inl (cI, (12, .inl (fun _ => 0)))) := rfl
theorem ec_115 (cI cF : ClassId) (h : Nat) (ad : Nat → Nat) : ((st_b h ad 115, am_ent LC cI cF (st_b h ad) (sC0 115) 115) : Nat × va_E) = ((ad 114), .inl (cI, (12, .inl (fun _ => 0)))) := rfl
theorem ec_116 (cI cF : ClassId) (h : Nat) (ad : Nat → Nat) : ((st_b h ad 116, am_ent LC cI cF (st_b h ad) (sC0 116) 116) : Nat × va_E) = ((ad 115), .inl (cI, (12, .inl (fun _ => 0)))) := rfl
theorem ec_117 (cI cF : ClassId) (h : Nat) (ad : Nat → Nat) : ((st_b h ad 117, am_ent LC cI cF (st_b h ad) (sC0 117) 117) : Nat × va_E) = ((ad 116), .inl (cI, (12, .inl (fun _ => 0)))) := rfl
theorem ec_118 (cI cF : ClassId) (h : Nat) (ad : Nat → Nat) : ((st_b h ad 118, am_ent LC cI cF (st_b h ad) (sC0 118) 118) : Nat × va_E) = ((ad 117), .inl (cI, (12, .inl (fun _ => 0)))) := rfl
theorem ec_119 (cI cF : ClassId) (h : Nat) (ad : Nat → Nat) : ((st_b h ad 119, am_ent LC cI cF (st_b h ad) (sC0 119) 119) : Nat × va_E) = ((ad 118), .inl (cI, (12, .inl (fun _ => 0)))) := rfl
theorem ec_120 (cI cF : ClassId) (h : Nat) (ad : Nat → Nat) : ((st_b h ad 120, am_ent LC cI cF (st_b h ad) (sC0 120) 120) : Nat × va_E) = ((ad 119), .inl (cI, (12, .inl (fun _ => 0)))) := rfl
theorem ec_121 (cI cF : ClassId) (h : Nat) (ad : Nat → Nat) : ((st_b h ad 121, am_ent LC cI cF (st_b h ad) (sC0 121) 121) : Nat × va_E) = ((ad 120), .inl (cI, (12, .inl (fun _ => 0)))) := rfl
theorem ec_122 (cI cF : ClassId) (h : Nat) (ad : Nat → Nat) : ((st_b h ad 122, am_ent LC cI cF (st_b h ad) (sC0 122) 122) : Nat × va_E) = ((ad 121), .inl (cI, (12, .inl (fun _ => 0)))) := rfl
theorem ec_123 (cI cF : ClassId) (h : Nat) (ad : Nat → Nat) : ((st_b h ad 123, am_ent LC cI cF (st_b h ad) (sC0 123) 123) : Nat × va_E) = ((ad 122), .inl (cI, (12, .inl (fun _ => 0)))) := rfl
theorem ec_124 (cI cF : ClassId) (h : Nat) (ad : Nat → Nat) : ((st_b h ad 124, am_ent LC cI cF (st_b h ad) (sC0 124) 124) : Nat × va_E) = ((ad 123), .inr (0, [.int 0, .ref (ad 124), .ref (ad 125), .ref (ad 126), .ref (ad 127), .ref (ad 128), .ref (ad 129), .ref (ad 130), .int 0, .ref (ad 131), .ref (ad 132), .ref (ad 133), .int 0, .int (-1), .int 0, .int 0])) := rfl
theorem ec_125 (cI cF : ClassId) (h : Nat) (ad : Nat → Nat) : ((st_b h ad 125, am_ent LC cI cF (st_b h ad) (sC0 125) 125) : Nat × va_E) = ((ad 124), .inl (cI, (12, .inl (fun _ => 0)))) := rfl
theorem ec_126 (cI cF : ClassId) (h : Nat) (ad : Nat → Nat) : ((st_b h ad 126, am_ent LC cI cF (st_b h ad) (sC0 126) 126) : Nat × va_E) = ((ad 125), .inl (cI, (12, .inl (fun _ => 0)))) := rfl
theorem ec_127 (cI cF : ClassId) (h : Nat) (ad : Nat → Nat) : ((st_b h ad 127, am_ent LC cI cF (st_b h ad) (sC0 127) 127) : Nat × va_E) = ((ad 126), .inl (cI, (12, .inl (fun _ => 0)))) := rfl
theorem ec_128 (cI cF : ClassId) (h : Nat) (ad : Nat → Nat) : ((st_b h ad 128, am_ent LC cI cF (st_b h ad) (sC0 128) 128) : Nat × va_E) = ((ad 127), .inl (cI, (12, .inl (fun _ => 0)))) := rfl
theorem ec_129 (cI cF : ClassId) (h : Nat) (ad : Nat → Nat) : ((st_b h ad 129, am_ent LC cI cF (st_b h ad) (sC0 129) 129) : Nat × va_E) = ((ad 128), .inl (cI, (12, .inl (fun _ => 0)))) := rfl
theorem ec_130 (cI cF : ClassId) (h : Nat) (ad : Nat → Nat) : ((st_b h ad 130, am_ent LC cI cF (st_b h ad) (sC0 130) 130) : Nat × va_E) = ((ad 129), .inl (cI, (12, .inl (fun _ => 0)))) := rfl
theorem ec_131 (cI cF : ClassId) (h : Nat) (ad : Nat → Nat) : ((st_b h ad 131, am_ent LC cI cF (st_b h ad) (sC0 131) 131) : Nat × va_E) = ((ad 130), .inl (cI, (12, .inl (fun _ => 0)))) := rfl
theorem ec_132 (cI cF : ClassId) (h : Nat) (ad : Nat → Nat) : ((st_b h ad 132, am_ent LC cI cF (st_b h ad) (sC0 132) 132) : Nat × va_E) = ((ad 131), .inl (cI, (12, .inl (fun _ => 0)))) := rfl
theorem ec_133 (cI cF : ClassId) (h : Nat) (ad : Nat → Nat) : ((st_b h ad 133, am_ent LC cI cF (st_b h ad) (sC0 133) 133) : Nat × va_E) = ((ad 132), .inl (cI, (12, .inl (fun _ => 0)))) := rfl
theorem ec_134 (cI cF : ClassId) (h : Nat) (ad : Nat → Nat) : ((st_b h ad 134, am_ent LC cI cF (st_b h ad) (sC0 134) 134) : Nat × va_E) = ((ad 133), .inl (cI, (12, .inl (fun _ => 0)))) := rfl
theorem ec_135 (cI cF : ClassId) (h : Nat) (ad : Nat → Nat) : ((st_b h ad 135, am_ent LC cI cF (st_b h ad) (sC0 135) 135) : Nat × va_E) = ((ad 134), .inr (0, [.int 0, .ref (ad 135), .ref (ad 136), .ref (ad 137), .ref (ad 138), .ref (ad 139), .ref (ad 140), .ref (ad 141), .int 0, .ref (ad 142), .ref (ad 143), .ref (ad 144), .int 0, .int (-1), .int 0, .int 0])) := rfl
theorem ec_136 (cI cF : ClassId) (h : Nat) (ad : Nat → Nat) : ((st_b h ad 136, am_ent LC cI cF (st_b h ad) (sC0 136) 136) : Nat × va_E) = ((ad 135), .inl (cI, (12, .inl (fun _ => 0)))) := rfl
theorem ec_137 (cI cF : ClassId) (h : Nat) (ad : Nat → Nat) : ((st_b h ad 137, am_ent LC cI cF (st_b h ad) (sC0 137) 137) : Nat × va_E) = ((ad 136), .inl (cI, (12, .inl (fun _ => 0)))) := rfl
theorem ec_138 (cI cF : ClassId) (h : Nat) (ad : Nat → Nat) : ((st_b h ad 138, am_ent LC cI cF (st_b h ad) (sC0 138) 138) : Nat × va_E) = ((ad 137), .inl (cI, (12, .inl (fun _ => 0)))) := rfl
theorem ec_139 (cI cF : ClassId) (h : Nat) (ad : Nat → Nat) : ((st_b h ad 139, am_ent LC cI cF (st_b h ad) (sC0 139) 139) : Nat × va_E) = ((ad 138), .inl (cI, (12, .inl (fun _ => 0)))) := rfl
theorem ec_140 (cI cF : ClassId) (h : Nat) (ad : Nat → Nat) : ((st_b h ad 140, am_ent LC cI cF (st_b h ad) (sC0 140) 140) : Nat × va_E) = ((ad 139), .inl (cI, (12, .inl (fun _ => 0)))) := rfl
theorem ec_141 (cI cF : ClassId) (h : Nat) (ad : Nat → Nat) : ((st_b h ad 141, am_ent LC cI cF (st_b h ad) (sC0 141) 141) : Nat × va_E) = ((ad 140), .inl (cI, (12, .inl (fun _ => 0)))) := rfl
theorem ec_142 (cI cF : ClassId) (h : Nat) (ad : Nat → Nat) : ((st_b h ad 142, am_ent LC cI cF (st_b h ad) (sC0 142) 142) : Nat × va_E) = ((ad 141), .inl (cI, (12, .inl (fun _ => 0)))) := rfl
theorem ec_143 (cI cF : ClassId) (h : Nat) (ad : Nat → Nat) : ((st_b h ad 143, am_ent LC cI cF (st_b h ad) (sC0 143) 143) : Nat × va_E) = ((ad 142), .inl (cI, (12, .inl (fun _ => 0)))) := rfl
theorem ec_144 (cI cF : ClassId) (h : Nat) (ad : Nat → Nat) : ((st_b h ad 144, am_ent LC cI cF (st_b h ad) (sC0 144) 144) : Nat × va_E) = ((ad 143), .inl (cI, (12, .inl (fun _ => 0)))) := rfl
theorem ec_145 (cI cF : ClassId) (h : Nat) (ad : Nat → Nat) : ((st_b h ad 145, am_ent LC cI cF (st_b h ad) (sC0 145) 145) : Nat × va_E) = ((ad 144), .inl (cI, (12, .inl (fun _ => 0)))) := rfl
theorem ec_146 (cI cF : ClassId) (h : Nat) (ad : Nat → Nat) : ((st_b h ad 146, am_ent LC cI cF (st_b h ad) (sC0 146) 146) : Nat × va_E) = ((ad 145), .inr (0, [.int 0, .ref (ad 146), .ref (ad 147), .ref (ad 148), .ref (ad 149), .ref (ad 150), .ref (ad 151), .ref (ad 152), .int 0, .ref (ad 153), .ref (ad 154), .ref (ad 155), .int 0, .int (-1), .int 0, .int 0])) := rfl
theorem ec_147 (cI cF : ClassId) (h : Nat) (ad : Nat → Nat) : ((st_b h ad 147, am_ent LC cI cF (st_b h ad) (sC0 147) 147) : Nat × va_E) = ((ad 146), .inl (cI, (12, .inl (fun _ => 0)))) := rfl
theorem ec_148 (cI cF : ClassId) (h : Nat) (ad : Nat → Nat) : ((st_b h ad 148, am_ent LC cI cF (st_b h ad) (sC0 148) 148) : Nat × va_E) = ((ad 147), .inl (cI, (12, .inl (fun _ => 0)))) := rfl
theorem ec_149 (cI cF : ClassId) (h : Nat) (ad : Nat → Nat) : ((st_b h ad 149, am_ent LC cI cF (st_b h ad) (sC0 149) 149) : Nat × va_E) = ((ad 148), .inl (cI, (12, .inl (fun _ => 0)))) := rfl
theorem ec_150 (cI cF : ClassId) (h : Nat) (ad : Nat → Nat) : ((st_b h ad 150, am_ent LC cI cF (st_b h ad) (sC0 150) 150) : Nat × va_E) = ((ad 149), .inl (cI, (12, .inl (fun _ => 0)))) := rfl
theorem ec_151 (cI cF : ClassId) (h : Nat) (ad : Nat → Nat) : ((st_b h ad 151, am_ent LC cI cF (st_b h ad) (sC0 151) 151) : Nat × va_E) = ((ad 150), .inl (cI, (12, .inl (fun _ => 0)))) := rfl
theorem ec_152 (cI cF : ClassId) (h : Nat) (ad : Nat → Nat) : ((st_b h ad 152, am_ent LC cI cF (st_b h ad) (sC0 152) 152) : Nat × va_E) = ((ad 151), .inl (cI, (12, .inl (fun _ => 0)))) := rfl
theorem ec_153 (cI cF : ClassId) (h : Nat) (ad : Nat → Nat) : ((st_b h ad 153, am_ent LC cI cF (st_b h ad) (sC0 153) 153) : Nat × va_E) = ((ad 152), .inl (cI, (12, .inl (fun _ => 0)))) := rfl
theorem ec_154 (cI cF : ClassId) (h : Nat) (ad : Nat → Nat) : ((st_b h ad 154, am_ent LC cI cF (st_b h ad) (sC0 154) 154) : Nat × va_E) = ((ad 153), .inl (cI, (12, .inl (fun _ => 0)))) := rfl
theorem ec_155 (cI cF : ClassId) (h : Nat) (ad : Nat → Nat) : ((st_b h ad 155, am_ent LC cI cF (st_b h ad) (sC0 155) 155) : Nat × va_E) = ((ad 154), .inl (cI, (12, .inl (fun _ => 0)))) := rfl
theorem ec_156 (cI cF : ClassId) (h : Nat) (ad : Nat → Nat) : ((st_b h ad 156, am_ent LC cI cF (st_b h ad) (sC0 156) 156) : Nat × va_E) = ((ad 155), .inl (cI, (12, .inl (fun _ => 0)))) := rfl
theorem ec_157 (cI cF : ClassId) (h : Nat) (ad : Nat → Nat) : ((st_b h ad 157, am_ent LC cI cF (st_b h ad) (sC0 157) 157) : Nat × va_E) = ((ad 156), .inr (3, [.ref (ad 157), .int 0, .ref (ad 158), .ref (ad 159), .ref (ad 160), .int 0, .int 0, .int 0, .int (-1), .ref (ad 161), .ref (ad 167)])) := rfl
theorem ec_158 (cI cF : ClassId) (h : Nat) (ad : Nat → Nat) : ((st_b h ad 158, am_ent LC cI cF (st_b h ad) (sC0 158) 158) : Nat × va_E) = ((ad 157), .inl (cI, (400, .inl (fun _ => 0)))) := rfl
theorem ec_159 (cI cF : ClassId) (h : Nat) (ad : Nat → Nat) : ((st_b h ad 159, am_ent LC cI cF (st_b h ad) (sC0 159) 159) : Nat × va_E) = ((ad 158), .inl (cI, (401, .inl (fun _ => 0)))) := rfl
theorem ec_160 (cI cF : ClassId) (h : Nat) (ad : Nat → Nat) : ((st_b h ad 160, am_ent LC cI cF (st_b h ad) (sC0 160) 160) : Nat × va_E) = ((ad 159), .inl (cI, (401, .inl (fun _ => 0)))) := rfl
theorem ec_161 (cI cF : ClassId) (h : Nat) (ad : Nat → Nat) : ((st_b h ad 161, am_ent LC cI cF (st_b h ad) (sC0 161) 161) : Nat × va_E) = ((ad 160), .inl (cI, (401, .inl (fun _ => 0)))) := rfl
theorem ec_162 (cI cF : ClassId) (h : Nat) (ad : Nat → Nat) : ((st_b h ad 162, am_ent LC cI cF (st_b h ad) (sC0 162) 162) : Nat × va_E) = ((ad 161), .inr (1, [.ref (ad 162), .ref (ad 164), .ref (ad 166)])) := rfl
theorem ec_163 (cI cF : ClassId) (h : Nat) (ad : Nat → Nat) : ((st_b h ad 163, am_ent LC cI cF (st_b h ad) (sC0 163) 163) : Nat × va_E) = ((ad 162), .inr (4, [.int 4, .ref (ad 163), .int 0])) := rfl
theorem ec_164 (cI cF : ClassId) (h : Nat) (ad : Nat → Nat) : ((st_b h ad 164, am_ent LC cI cF (st_b h ad) (sC0 164) 164) : Nat × va_E) = ((ad 163), .inl (cI, (64, .inl (fun _ => 0)))) := rfl
theorem ec_165 (cI cF : ClassId) (h : Nat) (ad : Nat → Nat) : ((st_b h ad 165, am_ent LC cI cF (st_b h ad) (sC0 165) 165) : Nat × va_E) = ((ad 164), .inr (4, [.int 2, .ref (ad 165), .int 0])) := rfl
theorem ec_166 (cI cF : ClassId) (h : Nat) (ad : Nat → Nat) : ((st_b h ad 166, am_ent LC cI cF (st_b h ad) (sC0 166) 166) : Nat × va_E) = ((ad 165), .inl (cI, (800, .inl (fun _ => 0)))) := rfl
theorem ec_167 (cI cF : ClassId) (h : Nat) (ad : Nat → Nat) : ((st_b h ad 167, am_ent LC cI cF (st_b h ad) (sC0 167) 167) : Nat × va_E) = ((ad 166), .inl (cI, (64, .inl (fun _ => 0)))) := rfl
theorem ec_168 (cI cF : ClassId) (h : Nat) (ad : Nat → Nat) : ((st_b h ad 168, am_ent LC cI cF (st_b h ad) (sC0 168) 168) : Nat × va_E) = ((ad 167), .inr (4, [.int 4, .ref (ad 168), .int 0])) := rfl
theorem ec_169 (cI cF : ClassId) (h : Nat) (ad : Nat → Nat) : ((st_b h ad 169, am_ent LC cI cF (st_b h ad) (sC0 169) 169) : Nat × va_E) = ((ad 168), .inl (cI, (64, .inl (fun _ => 0)))) := rfl
set_option maxRecDepth 100000 in
set_option maxHeartbeats 4000000 in
theorem ec_all (cI cF : ClassId) (h : Nat) (ad : Nat → Nat) : p_SlipperTruce cI cF h ad = am_pl LC cI cF (st_b h ad) sC0 := by
  show _ = (List.range 170).map (fun a => (st_b h ad a, am_ent LC cI cF (st_b h ad) (sC0 a) a))
  rw [show List.range 170 = [0, 1, 2, 3, 4, 5, 6, 7, 8, 9, 10, 11, 12, 13, 14, 15, 16, 17, 18, 19, 20, 21, 22, 23, 24, 25, 26, 27, 28, 29, 30, 31, 32, 33, 34, 35, 36, 37, 38, 39, 40, 41, 42, 43, 44, 45, 46, 47, 48, 49, 50, 51, 52, 53, 54, 55, 56, 57, 58, 59, 60, 61, 62, 63, 64, 65, 66, 67, 68, 69, 70, 71, 72, 73, 74, 75, 76, 77, 78, 79, 80, 81, 82, 83, 84, 85, 86, 87, 88, 89, 90, 91, 92, 93, 94, 95, 96, 97, 98, 99, 100, 101, 102, 103, 104, 105, 106, 107, 108, 109, 110, 111, 112, 113, 114, 115, 116, 117, 118, 119, 120, 121, 122, 123, 124, 125, 126, 127, 128, 129, 130, 131, 132, 133, 134, 135, 136, 137, 138, 139, 140, 141, 142, 143, 144, 145, 146, 147, 148, 149, 150, 151, 152, 153, 154, 155, 156, 157, 158, 159, 160, 161, 162, 163, 164, 165, 166, 167, 168, 169] from by decide +kernel]
  simp only [List.map_cons, List.map_nil]
  rw [ec_0, ec_1, ec_2, ec_3, ec_4, ec_5, ec_6, ec_7, ec_8, ec_9, ec_10, ec_11, ec_12, ec_13, ec_14, ec_15, ec_16, ec_17, ec_18, ec_19, ec_20, ec_21, ec_22, ec_23, ec_24, ec_25, ec_26, ec_27, ec_28, ec_29, ec_30, ec_31, ec_32, ec_33, ec_34, ec_35, ec_36, ec_37, ec_38, ec_39, ec_40, ec_41, ec_42, ec_43, ec_44, ec_45, ec_46, ec_47, ec_48, ec_49, ec_50, ec_51, ec_52, ec_53, ec_54, ec_55, ec_56, ec_57, ec_58, ec_59, ec_60, ec_61, ec_62, ec_63, ec_64, ec_65, ec_66, ec_67, ec_68, ec_69, ec_70, ec_71, ec_72, ec_73, ec_74, ec_75, ec_76, ec_77, ec_78, ec_79, ec_80, ec_81, ec_82, ec_83, ec_84, ec_85, ec_86, ec_87, ec_88, ec_89, ec_90, ec_91, ec_92, ec_93, ec_94, ec_95, ec_96, ec_97, ec_98, ec_99, ec_100, ec_101, ec_102, ec_103, ec_104, ec_105, ec_106, ec_107, ec_108, ec_109, ec_110, ec_111, ec_112, ec_113, ec_114, ec_115, ec_116, ec_117, ec_118, ec_119, ec_120, ec_121, ec_122, ec_123, ec_124, ec_125, ec_126, ec_127, ec_128, ec_129, ec_130, ec_131, ec_132, ec_133, ec_134, ec_135, ec_136, ec_137, ec_138, ec_139, ec_140, ec_141, ec_142, ec_143, ec_144, ec_145, ec_146, ec_147, ec_148, ec_149, ec_150, ec_151, ec_152, ec_153, ec_154, ec_155, ec_156, ec_157, ec_158, ec_159, ec_160, ec_161, ec_162, ec_163, ec_164, ec_165, ec_166, ec_167, ec_168, ec_169]
  rfl
theorem em_0 (cI cF : ClassId) (h : Nat) (ad : Nat → Nat) : ((st_b h ad 0, am_ent LM cI cF (st_b h ad) (sM0 0) 0) : Nat × va_E) = (h, .inr (7, [.int 0, .ref (ad 0), .ref (ad 1), .int 0, .ref (ad 2), .int 0, .int 0, .int 0, .ref (ad 3), .ref (ad 4), .ref (ad 5), .ref (ad 6), .ref (ad 7), .ref (ad 8), .int 0, .int 0, .int 0, .int 0, .int 0, .ref (ad 9), .ref (ad 10), .ref (ad 11), .ref (ad 12), .ref (ad 13), .ref (ad 14), .ref (ad 15), .ref (ad 16), .int 0, .int 0, .int 0, .ref (ad 17), .int 0, .int 0, .int 0, .int 0, .int (-1), .int 0, .ref (ad 18), .int 0, .ref (ad 19), .int 0, .ref (ad 20), .ref (ad 21), .ref (ad 22), .int 0, .ref (ad 23), .ref (ad 24), .ref (ad 25), .ref (ad 26), .ref (ad 27), .ref (ad 28), .ref (ad 29), .ref (ad 30), .int 0, .ref (ad 31), .ref (ad 32), .int 0, .ref (ad 33), .ref (ad 34), .int 0, .ref (ad 35), .ref (ad 36), .ref (ad 37), .int 0, .int 0, .int 0, .ref (ad 38)])) := rfl
theorem em_1 (cI cF : ClassId) (h : Nat) (ad : Nat → Nat) : ((st_b h ad 1, am_ent LM cI cF (st_b h ad) (sM0 1) 1) : Nat × va_E) = ((ad 0), .inl (cI, (77, .inl (fun _ => 0)))) := rfl
theorem em_2 (cI cF : ClassId) (h : Nat) (ad : Nat → Nat) : ((st_b h ad 2, am_ent LM cI cF (st_b h ad) (sM0 2) 2) : Nat × va_E) = ((ad 1), .inl (cI, (462, .inl (fun _ => 0)))) := rfl
theorem em_3 (cI cF : ClassId) (h : Nat) (ad : Nat → Nat) : ((st_b h ad 3, am_ent LM cI cF (st_b h ad) (sM0 3) 3) : Nat × va_E) = ((ad 2), .inl (cI, (77, .inl (fun _ => 0)))) := rfl
theorem em_4 (cI cF : ClassId) (h : Nat) (ad : Nat → Nat) : ((st_b h ad 4, am_ent LM cI cF (st_b h ad) (sM0 4) 4) : Nat × va_E) = ((ad 3), .inl (cI, (12, .inl (fun _ => 0)))) := rfl
theorem em_5 (cI cF : ClassId) (h : Nat) (ad : Nat → Nat) : ((st_b h ad 5, am_ent LM cI cF (st_b h ad) (sM0 5) 5) : Nat × va_E) = ((ad 4), .inl (cI, (12, .inl (fun _ => 0)))) := rfl
theorem em_6 (cI cF : ClassId) (h : Nat) (ad : Nat → Nat) : ((st_b h ad 6, am_ent LM cI cF (st_b h ad) (sM0 6) 6) : Nat × va_E) = ((ad 5), .inl (cI, (12, .inl (fun _ => 0)))) := rfl
theorem em_7 (cI cF : ClassId) (h : Nat) (ad : Nat → Nat) : ((st_b h ad 7, am_ent LM cI cF (st_b h ad) (sM0 7) 7) : Nat × va_E) = ((ad 6), .inl (cI, (12, .inl (fun _ => 0)))) := rfl
theorem em_8 (cI cF : ClassId) (h : Nat) (ad : Nat → Nat) : ((st_b h ad 8, am_ent LM cI cF (st_b h ad) (sM0 8) 8) : Nat × va_E) = ((ad 7), .inl (cI, (600, .inl (fun _ => 0)))) := rfl
theorem em_9 (cI cF : ClassId) (h : Nat) (ad : Nat → Nat) : ((st_b h ad 9, am_ent LM cI cF (st_b h ad) (sM0 9) 9) : Nat × va_E) = ((ad 8), .inl (cI, (400, .inl (fun _ => 0)))) := rfl
theorem em_10 (cI cF : ClassId) (h : Nat) (ad : Nat → Nat) : ((st_b h ad 10, am_ent LM cI cF (st_b h ad) (sM0 10) 10) : Nat × va_E) = ((ad 9), .inl (cI, (133, .inl (nW 133)))) := by
  rw [nW_get]; rfl
theorem em_11 (cI cF : ClassId) (h : Nat) (ad : Nat → Nat) : ((st_b h ad 11, am_ent LM cI cF (st_b h ad) (sM0 11) 11) : Nat × va_E) = ((ad 10), .inl (cI, (2, .inl (fun _ => 0)))) := rfl
theorem em_12 (cI cF : ClassId) (h : Nat) (ad : Nat → Nat) : ((st_b h ad 12, am_ent LM cI cF (st_b h ad) (sM0 12) 12) : Nat × va_E) = ((ad 11), .inl (cI, (48, .inl (fun _ => 0)))) := rfl
theorem em_13 (cI cF : ClassId) (h : Nat) (ad : Nat → Nat) : ((st_b h ad 13, am_ent LM cI cF (st_b h ad) (sM0 13) 13) : Nat × va_E) = ((ad 12), .inl (cI, (48, .inl (fun _ => 0)))) := rfl
theorem em_14 (cI cF : ClassId) (h : Nat) (ad : Nat → Nat) : ((st_b h ad 14, am_ent LM cI cF (st_b h ad) (sM0 14) 14) : Nat × va_E) = ((ad 13), .inl (cI, (48, .inl (fun _ => 0)))) := rfl
theorem em_15 (cI cF : ClassId) (h : Nat) (ad : Nat → Nat) : ((st_b h ad 15, am_ent LM cI cF (st_b h ad) (sM0 15) 15) : Nat × va_E) = ((ad 14), .inl (cI, (48, .inl (fun _ => 0)))) := rfl
theorem em_16 (cI cF : ClassId) (h : Nat) (ad : Nat → Nat) : ((st_b h ad 16, am_ent LM cI cF (st_b h ad) (sM0 16) 16) : Nat × va_E) = ((ad 15), .inl (cI, (1200, .inl (fun _ => 0)))) := rfl
theorem em_17 (cI cF : ClassId) (h : Nat) (ad : Nat → Nat) : ((st_b h ad 17, am_ent LM cI cF (st_b h ad) (sM0 17) 17) : Nat × va_E) = ((ad 16), .inl (cI, (1200, .inl (fun _ => 0)))) := rfl
theorem em_18 (cI cF : ClassId) (h : Nat) (ad : Nat → Nat) : ((st_b h ad 18, am_ent LM cI cF (st_b h ad) (sM0 18) 18) : Nat × va_E) = ((ad 17), .inl (cI, (40, .inl (fun _ => 0)))) := rfl
theorem em_19 (cI cF : ClassId) (h : Nat) (ad : Nat → Nat) : ((st_b h ad 19, am_ent LM cI cF (st_b h ad) (sM0 19) 19) : Nat × va_E) = ((ad 18), .inl (cI, (128, .inl (fun _ => 0)))) := rfl
theorem em_20 (cI cF : ClassId) (h : Nat) (ad : Nat → Nat) : ((st_b h ad 20, am_ent LM cI cF (st_b h ad) (sM0 20) 20) : Nat × va_E) = ((ad 19), .inl (cI, (24, .inl (fun _ => 0)))) := rfl
theorem em_21 (cI cF : ClassId) (h : Nat) (ad : Nat → Nat) : ((st_b h ad 21, am_ent LM cI cF (st_b h ad) (sM0 21) 21) : Nat × va_E) = ((ad 20), .inl (cI, (24, .inl (fun _ => 0)))) := rfl
theorem em_22 (cI cF : ClassId) (h : Nat) (ad : Nat → Nat) : ((st_b h ad 22, am_ent LM cI cF (st_b h ad) (sM0 22) 22) : Nat × va_E) = ((ad 21), .inl (cI, (10, .inl (fun _ => 0)))) := rfl
theorem em_23 (cI cF : ClassId) (h : Nat) (ad : Nat → Nat) : ((st_b h ad 23, am_ent LM cI cF (st_b h ad) (sM0 23) 23) : Nat × va_E) = ((ad 22), .inl (cI, (420, .inl (fun _ => 0)))) := rfl
theorem em_24 (cI cF : ClassId) (h : Nat) (ad : Nat → Nat) : ((st_b h ad 24, am_ent LM cI cF (st_b h ad) (sM0 24) 24) : Nat × va_E) = ((ad 23), .inl (cI, (8, .inl (fun _ => 0)))) := rfl
theorem em_25 (cI cF : ClassId) (h : Nat) (ad : Nat → Nat) : ((st_b h ad 25, am_ent LM cI cF (st_b h ad) (sM0 25) 25) : Nat × va_E) = ((ad 24), .inl (cI, (8, .inl (fun _ => 0)))) := rfl
theorem em_26 (cI cF : ClassId) (h : Nat) (ad : Nat → Nat) : ((st_b h ad 26, am_ent LM cI cF (st_b h ad) (sM0 26) 26) : Nat × va_E) = ((ad 25), .inl (cI, (8, .inl (fun _ => 0)))) := rfl
theorem em_27 (cI cF : ClassId) (h : Nat) (ad : Nat → Nat) : ((st_b h ad 27, am_ent LM cI cF (st_b h ad) (sM0 27) 27) : Nat × va_E) = ((ad 26), .inl (cI, (10, .inl (fun _ => 0)))) := rfl
theorem em_28 (cI cF : ClassId) (h : Nat) (ad : Nat → Nat) : ((st_b h ad 28, am_ent LM cI cF (st_b h ad) (sM0 28) 28) : Nat × va_E) = ((ad 27), .inl (cI, (121, .inl (fun _ => 0)))) := rfl
theorem em_29 (cI cF : ClassId) (h : Nat) (ad : Nat → Nat) : ((st_b h ad 29, am_ent LM cI cF (st_b h ad) (sM0 29) 29) : Nat × va_E) = ((ad 28), .inl (cI, (169, .inl (fun _ => 0)))) := rfl
theorem em_30 (cI cF : ClassId) (h : Nat) (ad : Nat → Nat) : ((st_b h ad 30, am_ent LM cI cF (st_b h ad) (sM0 30) 30) : Nat × va_E) = ((ad 29), .inl (cI, (2, .inl (fun _ => 0)))) := rfl
theorem em_31 (cI cF : ClassId) (h : Nat) (ad : Nat → Nat) : ((st_b h ad 31, am_ent LM cI cF (st_b h ad) (sM0 31) 31) : Nat × va_E) = ((ad 30), .inl (cI, (24, .inl (fun _ => 0)))) := rfl
theorem em_32 (cI cF : ClassId) (h : Nat) (ad : Nat → Nat) : ((st_b h ad 32, am_ent LM cI cF (st_b h ad) (sM0 32) 32) : Nat × va_E) = ((ad 31), .inl (cI, (16, .inl (fun _ => 0)))) := rfl
theorem em_33 (cI cF : ClassId) (h : Nat) (ad : Nat → Nat) : ((st_b h ad 33, am_ent LM cI cF (st_b h ad) (sM0 33) 33) : Nat × va_E) = ((ad 32), .inl (cI, (16, .inl (fun _ => 0)))) := rfl
theorem em_34 (cI cF : ClassId) (h : Nat) (ad : Nat → Nat) : ((st_b h ad 34, am_ent LM cI cF (st_b h ad) (sM0 34) 34) : Nat × va_E) = ((ad 33), .inl (cI, (7, .inl (fun _ => 0)))) := rfl
theorem em_35 (cI cF : ClassId) (h : Nat) (ad : Nat → Nat) : ((st_b h ad 35, am_ent LM cI cF (st_b h ad) (sM0 35) 35) : Nat × va_E) = ((ad 34), .inl (cI, (7, .inl (fun _ => 0)))) := rfl
theorem em_36 (cI cF : ClassId) (h : Nat) (ad : Nat → Nat) : ((st_b h ad 36, am_ent LM cI cF (st_b h ad) (sM0 36) 36) : Nat × va_E) = ((ad 35), .inl (cI, (8, .inl (fun _ => 0)))) := rfl
theorem em_37 (cI cF : ClassId) (h : Nat) (ad : Nat → Nat) : ((st_b h ad 37, am_ent LM cI cF (st_b h ad) (sM0 37) 37) : Nat × va_E) = ((ad 36), .inl (cI, (8, .inl (fun _ => 0)))) := rfl
theorem em_38 (cI cF : ClassId) (h : Nat) (ad : Nat → Nat) : ((st_b h ad 38, am_ent LM cI cF (st_b h ad) (sM0 38) 38) : Nat × va_E) = ((ad 37), .inl (cI, (121, .inl (fun _ => 0)))) := rfl
theorem em_39 (cI cF : ClassId) (h : Nat) (ad : Nat → Nat) : ((st_b h ad 39, am_ent LM cI cF (st_b h ad) (sM0 39) 39) : Nat × va_E) = ((ad 38), .inl (cI, (2200, .inl (fun _ => 0)))) := rfl
set_option maxRecDepth 100000 in
set_option maxHeartbeats 4000000 in
theorem em_all (cI cF : ClassId) (h : Nat) (ad : Nat → Nat) : p_SlipperTruceModel cI cF h ad = am_pl LM cI cF (st_b h ad) sM0 := by
  show _ = (List.range 40).map (fun a => (st_b h ad a, am_ent LM cI cF (st_b h ad) (sM0 a) a))
  rw [show List.range 40 = [0, 1, 2, 3, 4, 5, 6, 7, 8, 9, 10, 11, 12, 13, 14, 15, 16, 17, 18, 19, 20, 21, 22, 23, 24, 25, 26, 27, 28, 29, 30, 31, 32, 33, 34, 35, 36, 37, 38, 39] from by decide +kernel]
  simp only [List.map_cons, List.map_nil]
  rw [em_0, em_1, em_2, em_3, em_4, em_5, em_6, em_7, em_8, em_9, em_10, em_11, em_12, em_13, em_14, em_15, em_16, em_17, em_18, em_19, em_20, em_21, em_22, em_23, em_24, em_25, em_26, em_27, em_28, em_29, em_30, em_31, em_32, em_33, em_34, em_35, em_36, em_37, em_38, em_39]
  rfl
