theorem dX0_init_0 : decode cX0_init 0 = .ok (.aload_n 0, 1) := by decide +kernel
theorem dX0_init_1 : decode cX0_init 1 = .ok (.invokespecial 3, 3) := by decide +kernel
theorem dX0_init_4 : decode cX0_init 4 = .ok (.aload_n 0, 1) := by decide +kernel
theorem dX0_init_5 : decode cX0_init 5 = .ok (.iconst 0, 1) := by decide +kernel
theorem dX0_init_6 : decode cX0_init 6 = .ok (.putfield 9, 3) := by decide +kernel
theorem dX0_init_9 : decode cX0_init 9 = .ok (.aload_n 0, 1) := by decide +kernel
theorem dX0_init_10 : decode cX0_init 10 = .ok (.bipush 12, 2) := by decide +kernel
theorem dX0_init_12 : decode cX0_init 12 = .ok (.newarray .int, 2) := by decide +kernel
theorem dX0_init_14 : decode cX0_init 14 = .ok (.putfield 15, 3) := by decide +kernel
theorem dX0_init_17 : decode cX0_init 17 = .ok (.aload_n 0, 1) := by decide +kernel
theorem dX0_init_18 : decode cX0_init 18 = .ok (.bipush 12, 2) := by decide +kernel
theorem dX0_init_20 : decode cX0_init 20 = .ok (.newarray .int, 2) := by decide +kernel
theorem dX0_init_22 : decode cX0_init 22 = .ok (.putfield 19, 3) := by decide +kernel
theorem dX0_init_25 : decode cX0_init 25 = .ok (.aload_n 0, 1) := by decide +kernel
theorem dX0_init_26 : decode cX0_init 26 = .ok (.bipush 12, 2) := by decide +kernel
theorem dX0_init_28 : decode cX0_init 28 = .ok (.newarray .int, 2) := by decide +kernel
theorem dX0_init_30 : decode cX0_init 30 = .ok (.putfield 22, 3) := by decide +kernel
theorem dX0_init_33 : decode cX0_init 33 = .ok (.aload_n 0, 1) := by decide +kernel
theorem dX0_init_34 : decode cX0_init 34 = .ok (.bipush 12, 2) := by decide +kernel
theorem dX0_init_36 : decode cX0_init 36 = .ok (.newarray .int, 2) := by decide +kernel
theorem dX0_init_38 : decode cX0_init 38 = .ok (.putfield 25, 3) := by decide +kernel
theorem dX0_init_41 : decode cX0_init 41 = .ok (.aload_n 0, 1) := by decide +kernel
theorem dX0_init_42 : decode cX0_init 42 = .ok (.bipush 12, 2) := by decide +kernel
theorem dX0_init_44 : decode cX0_init 44 = .ok (.newarray .int, 2) := by decide +kernel
theorem dX0_init_46 : decode cX0_init 46 = .ok (.putfield 28, 3) := by decide +kernel
theorem dX0_init_49 : decode cX0_init 49 = .ok (.aload_n 0, 1) := by decide +kernel
theorem dX0_init_50 : decode cX0_init 50 = .ok (.bipush 12, 2) := by decide +kernel
theorem dX0_init_52 : decode cX0_init 52 = .ok (.newarray .int, 2) := by decide +kernel
theorem dX0_init_54 : decode cX0_init 54 = .ok (.putfield 31, 3) := by decide +kernel
theorem dX0_init_57 : decode cX0_init 57 = .ok (.aload_n 0, 1) := by decide +kernel
theorem dX0_init_58 : decode cX0_init 58 = .ok (.bipush 12, 2) := by decide +kernel
theorem dX0_init_60 : decode cX0_init 60 = .ok (.newarray .int, 2) := by decide +kernel
theorem dX0_init_62 : decode cX0_init 62 = .ok (.putfield 34, 3) := by decide +kernel
theorem dX0_init_65 : decode cX0_init 65 = .ok (.aload_n 0, 1) := by decide +kernel
theorem dX0_init_66 : decode cX0_init 66 = .ok (.iconst 0, 1) := by decide +kernel
theorem dX0_init_67 : decode cX0_init 67 = .ok (.putfield 37, 3) := by decide +kernel
theorem dX0_init_70 : decode cX0_init 70 = .ok (.aload_n 0, 1) := by decide +kernel
theorem dX0_init_71 : decode cX0_init 71 = .ok (.bipush 12, 2) := by decide +kernel
theorem dX0_init_73 : decode cX0_init 73 = .ok (.newarray .int, 2) := by decide +kernel
theorem dX0_init_75 : decode cX0_init 75 = .ok (.putfield 40, 3) := by decide +kernel
theorem dX0_init_78 : decode cX0_init 78 = .ok (.aload_n 0, 1) := by decide +kernel
theorem dX0_init_79 : decode cX0_init 79 = .ok (.bipush 12, 2) := by decide +kernel
theorem dX0_init_81 : decode cX0_init 81 = .ok (.newarray .int, 2) := by decide +kernel
theorem dX0_init_83 : decode cX0_init 83 = .ok (.putfield 43, 3) := by decide +kernel
theorem dX0_init_86 : decode cX0_init 86 = .ok (.aload_n 0, 1) := by decide +kernel
theorem dX0_init_87 : decode cX0_init 87 = .ok (.bipush 12, 2) := by decide +kernel
theorem dX0_init_89 : decode cX0_init 89 = .ok (.newarray .int, 2) := by decide +kernel
theorem dX0_init_91 : decode cX0_init 91 = .ok (.putfield 46, 3) := by decide +kernel
theorem dX0_init_94 : decode cX0_init 94 = .ok (.aload_n 0, 1) := by decide +kernel
theorem dX0_init_95 : decode cX0_init 95 = .ok (.iconst 0, 1) := by decide +kernel
theorem dX0_init_96 : decode cX0_init 96 = .ok (.putfield 49, 3) := by decide +kernel
theorem dX0_init_99 : decode cX0_init 99 = .ok (.aload_n 0, 1) := by decide +kernel
theorem dX0_init_100 : decode cX0_init 100 = .ok (.iconst (-1), 1) := by decide +kernel
theorem dX0_init_101 : decode cX0_init 101 = .ok (.putfield 52, 3) := by decide +kernel
theorem dX0_init_104 : decode cX0_init 104 = .ok (.aload_n 0, 1) := by decide +kernel
theorem dX0_init_105 : decode cX0_init 105 = .ok (.iconst 0, 1) := by decide +kernel
theorem dX0_init_106 : decode cX0_init 106 = .ok (.putfield 55, 3) := by decide +kernel
theorem dX0_init_109 : decode cX0_init 109 = .ok (.aload_n 0, 1) := by decide +kernel
theorem dX0_init_110 : decode cX0_init 110 = .ok (.iconst 0, 1) := by decide +kernel
theorem dX0_init_111 : decode cX0_init 111 = .ok (.putfield 58, 3) := by decide +kernel
theorem dX0_init_114 : decode cX0_init 114 = .ok (.return_, 1) := by decide +kernel
theorem dX0_hasOfficer_0 : decode cX0_hasOfficer 0 = .ok (.iload_n 1, 1) := by decide +kernel
theorem dX0_hasOfficer_1 : decode cX0_hasOfficer 1 = .ok (.ifCond .lt 21, 3) := by decide +kernel
theorem dX0_hasOfficer_4 : decode cX0_hasOfficer 4 = .ok (.iload_n 1, 1) := by decide +kernel
theorem dX0_hasOfficer_5 : decode cX0_hasOfficer 5 = .ok (.aload_n 0, 1) := by decide +kernel
theorem dX0_hasOfficer_6 : decode cX0_hasOfficer 6 = .ok (.getfield 9, 3) := by decide +kernel
theorem dX0_hasOfficer_9 : decode cX0_hasOfficer 9 = .ok (.if_icmp .ge 13, 3) := by decide +kernel
theorem dX0_hasOfficer_12 : decode cX0_hasOfficer 12 = .ok (.iload_n 1, 1) := by decide +kernel
theorem dX0_hasOfficer_13 : decode cX0_hasOfficer 13 = .ok (.bipush 12, 2) := by decide +kernel
theorem dX0_hasOfficer_15 : decode cX0_hasOfficer 15 = .ok (.if_icmp .ge 7, 3) := by decide +kernel
theorem dX0_hasOfficer_18 : decode cX0_hasOfficer 18 = .ok (.iconst 1, 1) := by decide +kernel
theorem dX0_hasOfficer_19 : decode cX0_hasOfficer 19 = .ok (.goto 4, 3) := by decide +kernel
theorem dX0_hasOfficer_22 : decode cX0_hasOfficer 22 = .ok (.iconst 0, 1) := by decide +kernel
theorem dX0_hasOfficer_23 : decode cX0_hasOfficer 23 = .ok (.ireturn, 1) := by decide +kernel
theorem dX0_hasBatman_0 : decode cX0_hasBatman 0 = .ok (.iload_n 1, 1) := by decide +kernel
theorem dX0_hasBatman_1 : decode cX0_hasBatman 1 = .ok (.ifCond .lt 21, 3) := by decide +kernel
theorem dX0_hasBatman_4 : decode cX0_hasBatman 4 = .ok (.iload_n 1, 1) := by decide +kernel
theorem dX0_hasBatman_5 : decode cX0_hasBatman 5 = .ok (.aload_n 0, 1) := by decide +kernel
theorem dX0_hasBatman_6 : decode cX0_hasBatman 6 = .ok (.getfield 37, 3) := by decide +kernel
theorem dX0_hasBatman_9 : decode cX0_hasBatman 9 = .ok (.if_icmp .ge 13, 3) := by decide +kernel
theorem dX0_hasBatman_12 : decode cX0_hasBatman 12 = .ok (.iload_n 1, 1) := by decide +kernel
theorem dX0_hasBatman_13 : decode cX0_hasBatman 13 = .ok (.bipush 12, 2) := by decide +kernel
theorem dX0_hasBatman_15 : decode cX0_hasBatman 15 = .ok (.if_icmp .ge 7, 3) := by decide +kernel
theorem dX0_hasBatman_18 : decode cX0_hasBatman 18 = .ok (.iconst 1, 1) := by decide +kernel
theorem dX0_hasBatman_19 : decode cX0_hasBatman 19 = .ok (.goto 4, 3) := by decide +kernel
theorem dX0_hasBatman_22 : decode cX0_hasBatman 22 = .ok (.iconst 0, 1) := by decide +kernel
theorem dX0_hasBatman_23 : decode cX0_hasBatman 23 = .ok (.ireturn, 1) := by decide +kernel
theorem dX0_addOfficer_0 : decode cX0_addOfficer 0 = .ok (.aload_n 0, 1) := by decide +kernel
theorem dX0_addOfficer_1 : decode cX0_addOfficer 1 = .ok (.getfield 9, 3) := by decide +kernel
theorem dX0_addOfficer_4 : decode cX0_addOfficer 4 = .ok (.istore_n 3, 1) := by decide +kernel
theorem dX0_addOfficer_5 : decode cX0_addOfficer 5 = .ok (.iload_n 3, 1) := by decide +kernel
theorem dX0_addOfficer_6 : decode cX0_addOfficer 6 = .ok (.ifCond .lt 9, 3) := by decide +kernel
theorem dX0_addOfficer_9 : decode cX0_addOfficer 9 = .ok (.iload_n 3, 1) := by decide +kernel
theorem dX0_addOfficer_10 : decode cX0_addOfficer 10 = .ok (.bipush 12, 2) := by decide +kernel
theorem dX0_addOfficer_12 : decode cX0_addOfficer 12 = .ok (.if_icmp .lt 5, 3) := by decide +kernel
theorem dX0_addOfficer_15 : decode cX0_addOfficer 15 = .ok (.iconst (-1), 1) := by decide +kernel
theorem dX0_addOfficer_16 : decode cX0_addOfficer 16 = .ok (.ireturn, 1) := by decide +kernel
theorem dX0_addOfficer_17 : decode cX0_addOfficer 17 = .ok (.aload_n 0, 1) := by decide +kernel
theorem dX0_addOfficer_18 : decode cX0_addOfficer 18 = .ok (.getfield 15, 3) := by decide +kernel
theorem dX0_addOfficer_21 : decode cX0_addOfficer 21 = .ok (.iload_n 3, 1) := by decide +kernel
theorem dX0_addOfficer_22 : decode cX0_addOfficer 22 = .ok (.iload_n 1, 1) := by decide +kernel
theorem dX0_addOfficer_23 : decode cX0_addOfficer 23 = .ok (.iastore, 1) := by decide +kernel
theorem dX0_addOfficer_24 : decode cX0_addOfficer 24 = .ok (.aload_n 0, 1) := by decide +kernel
theorem dX0_addOfficer_25 : decode cX0_addOfficer 25 = .ok (.getfield 19, 3) := by decide +kernel
theorem dX0_addOfficer_28 : decode cX0_addOfficer 28 = .ok (.iload_n 3, 1) := by decide +kernel
theorem dX0_addOfficer_29 : decode cX0_addOfficer 29 = .ok (.iload_n 2, 1) := by decide +kernel
theorem dX0_addOfficer_30 : decode cX0_addOfficer 30 = .ok (.iastore, 1) := by decide +kernel
theorem dX0_addOfficer_31 : decode cX0_addOfficer 31 = .ok (.aload_n 0, 1) := by decide +kernel
theorem dX0_addOfficer_32 : decode cX0_addOfficer 32 = .ok (.getfield 22, 3) := by decide +kernel
theorem dX0_addOfficer_35 : decode cX0_addOfficer 35 = .ok (.iload_n 3, 1) := by decide +kernel
theorem dX0_addOfficer_36 : decode cX0_addOfficer 36 = .ok (.bipush 50, 2) := by decide +kernel
theorem dX0_addOfficer_38 : decode cX0_addOfficer 38 = .ok (.iastore, 1) := by decide +kernel
theorem dX0_addOfficer_39 : decode cX0_addOfficer 39 = .ok (.aload_n 0, 1) := by decide +kernel
theorem dX0_addOfficer_40 : decode cX0_addOfficer 40 = .ok (.iload_n 3, 1) := by decide +kernel
theorem dX0_addOfficer_41 : decode cX0_addOfficer 41 = .ok (.iconst 1, 1) := by decide +kernel
theorem dX0_addOfficer_42 : decode cX0_addOfficer 42 = .ok (.iadd, 1) := by decide +kernel
theorem dX0_addOfficer_43 : decode cX0_addOfficer 43 = .ok (.putfield 9, 3) := by decide +kernel
theorem dX0_addOfficer_46 : decode cX0_addOfficer 46 = .ok (.iload_n 3, 1) := by decide +kernel
theorem dX0_addOfficer_47 : decode cX0_addOfficer 47 = .ok (.ireturn, 1) := by decide +kernel
theorem dX0_addBatman_0 : decode cX0_addBatman 0 = .ok (.aload_n 0, 1) := by decide +kernel
theorem dX0_addBatman_1 : decode cX0_addBatman 1 = .ok (.getfield 37, 3) := by decide +kernel
theorem dX0_addBatman_4 : decode cX0_addBatman 4 = .ok (.istore_n 3, 1) := by decide +kernel
theorem dX0_addBatman_5 : decode cX0_addBatman 5 = .ok (.iload_n 3, 1) := by decide +kernel
theorem dX0_addBatman_6 : decode cX0_addBatman 6 = .ok (.ifCond .lt 9, 3) := by decide +kernel
theorem dX0_addBatman_9 : decode cX0_addBatman 9 = .ok (.iload_n 3, 1) := by decide +kernel
theorem dX0_addBatman_10 : decode cX0_addBatman 10 = .ok (.bipush 12, 2) := by decide +kernel
theorem dX0_addBatman_12 : decode cX0_addBatman 12 = .ok (.if_icmp .lt 5, 3) := by decide +kernel
theorem dX0_addBatman_15 : decode cX0_addBatman 15 = .ok (.iconst (-1), 1) := by decide +kernel
theorem dX0_addBatman_16 : decode cX0_addBatman 16 = .ok (.ireturn, 1) := by decide +kernel
theorem dX0_addBatman_17 : decode cX0_addBatman 17 = .ok (.aload_n 0, 1) := by decide +kernel
theorem dX0_addBatman_18 : decode cX0_addBatman 18 = .ok (.getfield 40, 3) := by decide +kernel
theorem dX0_addBatman_21 : decode cX0_addBatman 21 = .ok (.iload_n 3, 1) := by decide +kernel
theorem dX0_addBatman_22 : decode cX0_addBatman 22 = .ok (.iload_n 1, 1) := by decide +kernel
theorem dX0_addBatman_23 : decode cX0_addBatman 23 = .ok (.iastore, 1) := by decide +kernel
theorem dX0_addBatman_24 : decode cX0_addBatman 24 = .ok (.aload_n 0, 1) := by decide +kernel
theorem dX0_addBatman_25 : decode cX0_addBatman 25 = .ok (.getfield 43, 3) := by decide +kernel
theorem dX0_addBatman_28 : decode cX0_addBatman 28 = .ok (.iload_n 3, 1) := by decide +kernel
theorem dX0_addBatman_29 : decode cX0_addBatman 29 = .ok (.iload_n 2, 1) := by decide +kernel
theorem dX0_addBatman_30 : decode cX0_addBatman 30 = .ok (.iastore, 1) := by decide +kernel
theorem dX0_addBatman_31 : decode cX0_addBatman 31 = .ok (.aload_n 0, 1) := by decide +kernel
theorem dX0_addBatman_32 : decode cX0_addBatman 32 = .ok (.iload_n 3, 1) := by decide +kernel
theorem dX0_addBatman_33 : decode cX0_addBatman 33 = .ok (.iconst 1, 1) := by decide +kernel
theorem dX0_addBatman_34 : decode cX0_addBatman 34 = .ok (.iadd, 1) := by decide +kernel
theorem dX0_addBatman_35 : decode cX0_addBatman 35 = .ok (.putfield 37, 3) := by decide +kernel
theorem dX0_addBatman_38 : decode cX0_addBatman 38 = .ok (.iload_n 3, 1) := by decide +kernel
theorem dX0_addBatman_39 : decode cX0_addBatman 39 = .ok (.ireturn, 1) := by decide +kernel
theorem dX0_putOfficer_0 : decode cX0_putOfficer 0 = .ok (.aload_n 0, 1) := by decide +kernel
theorem dX0_putOfficer_1 : decode cX0_putOfficer 1 = .ok (.iload_n 2, 1) := by decide +kernel
theorem dX0_putOfficer_2 : decode cX0_putOfficer 2 = .ok (.invokevirtual 61, 3) := by decide +kernel
theorem dX0_putOfficer_5 : decode cX0_putOfficer 5 = .ok (.ifCond .eq 22, 3) := by decide +kernel
theorem dX0_putOfficer_8 : decode cX0_putOfficer 8 = .ok (.iload_n 3, 1) := by decide +kernel
theorem dX0_putOfficer_9 : decode cX0_putOfficer 9 = .ok (.ifCond .lt 18, 3) := by decide +kernel
theorem dX0_putOfficer_12 : decode cX0_putOfficer 12 = .ok (.iload_n 3, 1) := by decide +kernel
theorem dX0_putOfficer_13 : decode cX0_putOfficer 13 = .ok (.iload_n 1, 1) := by decide +kernel
theorem dX0_putOfficer_14 : decode cX0_putOfficer 14 = .ok (.ifCond .ne 8, 3) := by decide +kernel
theorem dX0_putOfficer_17 : decode cX0_putOfficer 17 = .ok (.bipush 9, 2) := by decide +kernel
theorem dX0_putOfficer_19 : decode cX0_putOfficer 19 = .ok (.goto 5, 3) := by decide +kernel
theorem dX0_putOfficer_22 : decode cX0_putOfficer 22 = .ok (.bipush 99, 2) := by decide +kernel
theorem dX0_putOfficer_24 : decode cX0_putOfficer 24 = .ok (.if_icmp .le 5, 3) := by decide +kernel
theorem dX0_putOfficer_27 : decode cX0_putOfficer 27 = .ok (.iconst 0, 1) := by decide +kernel
theorem dX0_putOfficer_28 : decode cX0_putOfficer 28 = .ok (.ireturn, 1) := by decide +kernel
theorem dX0_putOfficer_29 : decode cX0_putOfficer 29 = .ok (.iload_n 1, 1) := by decide +kernel
theorem dX0_putOfficer_30 : decode cX0_putOfficer 30 = .ok (.ifCond .ne 10, 3) := by decide +kernel
theorem dX0_putOfficer_33 : decode cX0_putOfficer 33 = .ok (.aload_n 0, 1) := by decide +kernel
theorem dX0_putOfficer_34 : decode cX0_putOfficer 34 = .ok (.getfield 19, 3) := by decide +kernel
theorem dX0_putOfficer_37 : decode cX0_putOfficer 37 = .ok (.goto 19, 3) := by decide +kernel
theorem dX0_putOfficer_40 : decode cX0_putOfficer 40 = .ok (.iload_n 1, 1) := by decide +kernel
theorem dX0_putOfficer_41 : decode cX0_putOfficer 41 = .ok (.iconst 1, 1) := by decide +kernel
theorem dX0_putOfficer_42 : decode cX0_putOfficer 42 = .ok (.if_icmp .ne 10, 3) := by decide +kernel
theorem dX0_putOfficer_45 : decode cX0_putOfficer 45 = .ok (.aload_n 0, 1) := by decide +kernel
theorem dX0_putOfficer_46 : decode cX0_putOfficer 46 = .ok (.getfield 22, 3) := by decide +kernel
theorem dX0_putOfficer_49 : decode cX0_putOfficer 49 = .ok (.goto 7, 3) := by decide +kernel
theorem dX0_putOfficer_52 : decode cX0_putOfficer 52 = .ok (.aload_n 0, 1) := by decide +kernel
theorem dX0_putOfficer_53 : decode cX0_putOfficer 53 = .ok (.getfield 25, 3) := by decide +kernel
theorem dX0_putOfficer_56 : decode cX0_putOfficer 56 = .ok (.astore 4, 2) := by decide +kernel
theorem dX0_putOfficer_58 : decode cX0_putOfficer 58 = .ok (.aload 4, 2) := by decide +kernel
theorem dX0_putOfficer_60 : decode cX0_putOfficer 60 = .ok (.iload_n 2, 1) := by decide +kernel
theorem dX0_putOfficer_61 : decode cX0_putOfficer 61 = .ok (.iload_n 3, 1) := by decide +kernel
theorem dX0_putOfficer_62 : decode cX0_putOfficer 62 = .ok (.iastore, 1) := by decide +kernel
theorem dX0_putOfficer_63 : decode cX0_putOfficer 63 = .ok (.iconst 1, 1) := by decide +kernel
theorem dX0_putOfficer_64 : decode cX0_putOfficer 64 = .ok (.ireturn, 1) := by decide +kernel
theorem dX0_putBatman_0 : decode cX0_putBatman 0 = .ok (.aload_n 0, 1) := by decide +kernel
theorem dX0_putBatman_1 : decode cX0_putBatman 1 = .ok (.iload_n 2, 1) := by decide +kernel
theorem dX0_putBatman_2 : decode cX0_putBatman 2 = .ok (.invokevirtual 65, 3) := by decide +kernel
theorem dX0_putBatman_5 : decode cX0_putBatman 5 = .ok (.ifCond .eq 23, 3) := by decide +kernel
theorem dX0_putBatman_8 : decode cX0_putBatman 8 = .ok (.iload_n 3, 1) := by decide +kernel
theorem dX0_putBatman_9 : decode cX0_putBatman 9 = .ok (.ifCond .lt 19, 3) := by decide +kernel
theorem dX0_putBatman_12 : decode cX0_putBatman 12 = .ok (.iload_n 3, 1) := by decide +kernel
theorem dX0_putBatman_13 : decode cX0_putBatman 13 = .ok (.iload_n 1, 1) := by decide +kernel
theorem dX0_putBatman_14 : decode cX0_putBatman 14 = .ok (.iconst 3, 1) := by decide +kernel
theorem dX0_putBatman_15 : decode cX0_putBatman 15 = .ok (.if_icmp .ne 8, 3) := by decide +kernel
theorem dX0_putBatman_18 : decode cX0_putBatman 18 = .ok (.bipush 9, 2) := by decide +kernel
theorem dX0_putBatman_20 : decode cX0_putBatman 20 = .ok (.goto 5, 3) := by decide +kernel
theorem dX0_putBatman_23 : decode cX0_putBatman 23 = .ok (.bipush 99, 2) := by decide +kernel
theorem dX0_putBatman_25 : decode cX0_putBatman 25 = .ok (.if_icmp .le 5, 3) := by decide +kernel
theorem dX0_putBatman_28 : decode cX0_putBatman 28 = .ok (.iconst 0, 1) := by decide +kernel
theorem dX0_putBatman_29 : decode cX0_putBatman 29 = .ok (.ireturn, 1) := by decide +kernel
theorem dX0_putBatman_30 : decode cX0_putBatman 30 = .ok (.iload_n 1, 1) := by decide +kernel
theorem dX0_putBatman_31 : decode cX0_putBatman 31 = .ok (.iconst 3, 1) := by decide +kernel
theorem dX0_putBatman_32 : decode cX0_putBatman 32 = .ok (.if_icmp .ne 10, 3) := by decide +kernel
theorem dX0_putBatman_35 : decode cX0_putBatman 35 = .ok (.aload_n 0, 1) := by decide +kernel
theorem dX0_putBatman_36 : decode cX0_putBatman 36 = .ok (.getfield 43, 3) := by decide +kernel
theorem dX0_putBatman_39 : decode cX0_putBatman 39 = .ok (.goto 7, 3) := by decide +kernel
theorem dX0_putBatman_42 : decode cX0_putBatman 42 = .ok (.aload_n 0, 1) := by decide +kernel
theorem dX0_putBatman_43 : decode cX0_putBatman 43 = .ok (.getfield 46, 3) := by decide +kernel
theorem dX0_putBatman_46 : decode cX0_putBatman 46 = .ok (.astore 4, 2) := by decide +kernel
theorem dX0_putBatman_48 : decode cX0_putBatman 48 = .ok (.aload 4, 2) := by decide +kernel
theorem dX0_putBatman_50 : decode cX0_putBatman 50 = .ok (.iload_n 2, 1) := by decide +kernel
theorem dX0_putBatman_51 : decode cX0_putBatman 51 = .ok (.iload_n 3, 1) := by decide +kernel
theorem dX0_putBatman_52 : decode cX0_putBatman 52 = .ok (.iastore, 1) := by decide +kernel
theorem dX0_putBatman_53 : decode cX0_putBatman 53 = .ok (.iconst 1, 1) := by decide +kernel
theorem dX0_putBatman_54 : decode cX0_putBatman 54 = .ok (.ireturn, 1) := by decide +kernel
theorem dX0_putLine_0 : decode cX0_putLine 0 = .ok (.aload_n 0, 1) := by decide +kernel
theorem dX0_putLine_1 : decode cX0_putLine 1 = .ok (.getfield 52, 3) := by decide +kernel
theorem dX0_putLine_4 : decode cX0_putLine 4 = .ok (.iconst (-1), 1) := by decide +kernel
theorem dX0_putLine_5 : decode cX0_putLine 5 = .ok (.if_icmp .ne 15, 3) := by decide +kernel
theorem dX0_putLine_8 : decode cX0_putLine 8 = .ok (.iload_n 1, 1) := by decide +kernel
theorem dX0_putLine_9 : decode cX0_putLine 9 = .ok (.bipush (-99), 2) := by decide +kernel
theorem dX0_putLine_11 : decode cX0_putLine 11 = .ok (.if_icmp .le 9, 3) := by decide +kernel
theorem dX0_putLine_14 : decode cX0_putLine 14 = .ok (.iload_n 1, 1) := by decide +kernel
theorem dX0_putLine_15 : decode cX0_putLine 15 = .ok (.bipush 99, 2) := by decide +kernel
theorem dX0_putLine_17 : decode cX0_putLine 17 = .ok (.if_icmp .lt 5, 3) := by decide +kernel
theorem dX0_putLine_20 : decode cX0_putLine 20 = .ok (.iconst 0, 1) := by decide +kernel
theorem dX0_putLine_21 : decode cX0_putLine 21 = .ok (.ireturn, 1) := by decide +kernel
theorem dX0_putLine_22 : decode cX0_putLine 22 = .ok (.aload_n 0, 1) := by decide +kernel
theorem dX0_putLine_23 : decode cX0_putLine 23 = .ok (.iload_n 1, 1) := by decide +kernel
theorem dX0_putLine_24 : decode cX0_putLine 24 = .ok (.putfield 49, 3) := by decide +kernel
theorem dX0_putLine_27 : decode cX0_putLine 27 = .ok (.iconst 1, 1) := by decide +kernel
theorem dX0_putLine_28 : decode cX0_putLine 28 = .ok (.ireturn, 1) := by decide +kernel
theorem dX0_mustGiveUp_0 : decode cX0_mustGiveUp 0 = .ok (.aload_n 0, 1) := by decide +kernel
theorem dX0_mustGiveUp_1 : decode cX0_mustGiveUp 1 = .ok (.iload_n 1, 1) := by decide +kernel
theorem dX0_mustGiveUp_2 : decode cX0_mustGiveUp 2 = .ok (.invokevirtual 61, 3) := by decide +kernel
theorem dX0_mustGiveUp_5 : decode cX0_mustGiveUp 5 = .ok (.ifCond .eq 27, 3) := by decide +kernel
theorem dX0_mustGiveUp_8 : decode cX0_mustGiveUp 8 = .ok (.aload_n 0, 1) := by decide +kernel
theorem dX0_mustGiveUp_9 : decode cX0_mustGiveUp 9 = .ok (.getfield 31, 3) := by decide +kernel
theorem dX0_mustGiveUp_12 : decode cX0_mustGiveUp 12 = .ok (.iload_n 1, 1) := by decide +kernel
theorem dX0_mustGiveUp_13 : decode cX0_mustGiveUp 13 = .ok (.iaload, 1) := by decide +kernel
theorem dX0_mustGiveUp_14 : decode cX0_mustGiveUp 14 = .ok (.iconst 1, 1) := by decide +kernel
theorem dX0_mustGiveUp_15 : decode cX0_mustGiveUp 15 = .ok (.if_icmp .eq 13, 3) := by decide +kernel
theorem dX0_mustGiveUp_18 : decode cX0_mustGiveUp 18 = .ok (.aload_n 0, 1) := by decide +kernel
theorem dX0_mustGiveUp_19 : decode cX0_mustGiveUp 19 = .ok (.getfield 28, 3) := by decide +kernel
theorem dX0_mustGiveUp_22 : decode cX0_mustGiveUp 22 = .ok (.iload_n 1, 1) := by decide +kernel
theorem dX0_mustGiveUp_23 : decode cX0_mustGiveUp 23 = .ok (.iaload, 1) := by decide +kernel
theorem dX0_mustGiveUp_24 : decode cX0_mustGiveUp 24 = .ok (.iconst 1, 1) := by decide +kernel
theorem dX0_mustGiveUp_25 : decode cX0_mustGiveUp 25 = .ok (.if_icmp .ne 7, 3) := by decide +kernel
theorem dX0_mustGiveUp_28 : decode cX0_mustGiveUp 28 = .ok (.iconst 1, 1) := by decide +kernel
theorem dX0_mustGiveUp_29 : decode cX0_mustGiveUp 29 = .ok (.goto 4, 3) := by decide +kernel
theorem dX0_mustGiveUp_32 : decode cX0_mustGiveUp 32 = .ok (.iconst 0, 1) := by decide +kernel
theorem dX0_mustGiveUp_33 : decode cX0_mustGiveUp 33 = .ok (.ireturn, 1) := by decide +kernel
theorem dX0_hasTen_0 : decode cX0_hasTen 0 = .ok (.aload_n 0, 1) := by decide +kernel
theorem dX0_hasTen_1 : decode cX0_hasTen 1 = .ok (.iload_n 1, 1) := by decide +kernel
theorem dX0_hasTen_2 : decode cX0_hasTen 2 = .ok (.invokevirtual 61, 3) := by decide +kernel
theorem dX0_hasTen_5 : decode cX0_hasTen 5 = .ok (.ifCond .eq 18, 3) := by decide +kernel
theorem dX0_hasTen_8 : decode cX0_hasTen 8 = .ok (.aload_n 0, 1) := by decide +kernel
theorem dX0_hasTen_9 : decode cX0_hasTen 9 = .ok (.getfield 25, 3) := by decide +kernel
theorem dX0_hasTen_12 : decode cX0_hasTen 12 = .ok (.iload_n 1, 1) := by decide +kernel
theorem dX0_hasTen_13 : decode cX0_hasTen 13 = .ok (.iaload, 1) := by decide +kernel
theorem dX0_hasTen_14 : decode cX0_hasTen 14 = .ok (.bipush 10, 2) := by decide +kernel
theorem dX0_hasTen_16 : decode cX0_hasTen 16 = .ok (.if_icmp .lt 7, 3) := by decide +kernel
theorem dX0_hasTen_19 : decode cX0_hasTen 19 = .ok (.iconst 1, 1) := by decide +kernel
theorem dX0_hasTen_20 : decode cX0_hasTen 20 = .ok (.goto 4, 3) := by decide +kernel
theorem dX0_hasTen_23 : decode cX0_hasTen 23 = .ok (.iconst 0, 1) := by decide +kernel
theorem dX0_hasTen_24 : decode cX0_hasTen 24 = .ok (.ireturn, 1) := by decide +kernel
theorem dX0_draw_0 : decode cX0_draw 0 = .ok (.aload_n 0, 1) := by decide +kernel
theorem dX0_draw_1 : decode cX0_draw 1 = .ok (.aload_n 0, 1) := by decide +kernel
theorem dX0_draw_2 : decode cX0_draw 2 = .ok (.getfield 58, 3) := by decide +kernel
theorem dX0_draw_5 : decode cX0_draw 5 = .ok (.ldc 68, 2) := by decide +kernel
theorem dX0_draw_7 : decode cX0_draw 7 = .ok (.imul, 1) := by decide +kernel
theorem dX0_draw_8 : decode cX0_draw 8 = .ok (.ldc 69, 2) := by decide +kernel
theorem dX0_draw_10 : decode cX0_draw 10 = .ok (.iadd, 1) := by decide +kernel
theorem dX0_draw_11 : decode cX0_draw 11 = .ok (.putfield 58, 3) := by decide +kernel
theorem dX0_draw_14 : decode cX0_draw 14 = .ok (.iload_n 1, 1) := by decide +kernel
theorem dX0_draw_15 : decode cX0_draw 15 = .ok (.iconst 1, 1) := by decide +kernel
theorem dX0_draw_16 : decode cX0_draw 16 = .ok (.if_icmp .ge 7, 3) := by decide +kernel
theorem dX0_draw_19 : decode cX0_draw 19 = .ok (.iconst 0, 1) := by decide +kernel
theorem dX0_draw_20 : decode cX0_draw 20 = .ok (.goto 12, 3) := by decide +kernel
theorem dX0_draw_23 : decode cX0_draw 23 = .ok (.aload_n 0, 1) := by decide +kernel
theorem dX0_draw_24 : decode cX0_draw 24 = .ok (.getfield 58, 3) := by decide +kernel
theorem dX0_draw_27 : decode cX0_draw 27 = .ok (.bipush 8, 2) := by decide +kernel
theorem dX0_draw_29 : decode cX0_draw 29 = .ok (.iushr, 1) := by decide +kernel
theorem dX0_draw_30 : decode cX0_draw 30 = .ok (.iload_n 1, 1) := by decide +kernel
theorem dX0_draw_31 : decode cX0_draw 31 = .ok (.irem, 1) := by decide +kernel
theorem dX0_draw_32 : decode cX0_draw 32 = .ok (.ireturn, 1) := by decide +kernel
theorem dX0_value_0 : decode cX0_value 0 = .ok (.aload_n 0, 1) := by decide +kernel
theorem dX0_value_1 : decode cX0_value 1 = .ok (.iload_n 2, 1) := by decide +kernel
theorem dX0_value_2 : decode cX0_value 2 = .ok (.invokevirtual 61, 3) := by decide +kernel
theorem dX0_value_5 : decode cX0_value 5 = .ok (.ifCond .ne 5, 3) := by decide +kernel
theorem dX0_value_8 : decode cX0_value 8 = .ok (.iconst 0, 1) := by decide +kernel
theorem dX0_value_9 : decode cX0_value 9 = .ok (.ireturn, 1) := by decide +kernel
theorem dX0_value_10 : decode cX0_value 10 = .ok (.iload_n 1, 1) := by decide +kernel
theorem dX0_value_11 : decode cX0_value 11 = .ok (.tableswitch 143 7 16 #[53, 60, 67, 74, 81, 100, 119, 124, 131, 138], 53) := by decide +kernel
theorem dX0_value_64 : decode cX0_value 64 = .ok (.aload_n 0, 1) := by decide +kernel
theorem dX0_value_65 : decode cX0_value 65 = .ok (.getfield 19, 3) := by decide +kernel
theorem dX0_value_68 : decode cX0_value 68 = .ok (.iload_n 2, 1) := by decide +kernel
theorem dX0_value_69 : decode cX0_value 69 = .ok (.iaload, 1) := by decide +kernel
theorem dX0_value_70 : decode cX0_value 70 = .ok (.ireturn, 1) := by decide +kernel
theorem dX0_value_71 : decode cX0_value 71 = .ok (.aload_n 0, 1) := by decide +kernel
theorem dX0_value_72 : decode cX0_value 72 = .ok (.getfield 22, 3) := by decide +kernel
theorem dX0_value_75 : decode cX0_value 75 = .ok (.iload_n 2, 1) := by decide +kernel
theorem dX0_value_76 : decode cX0_value 76 = .ok (.iaload, 1) := by decide +kernel
theorem dX0_value_77 : decode cX0_value 77 = .ok (.ireturn, 1) := by decide +kernel
theorem dX0_value_78 : decode cX0_value 78 = .ok (.aload_n 0, 1) := by decide +kernel
theorem dX0_value_79 : decode cX0_value 79 = .ok (.getfield 25, 3) := by decide +kernel
theorem dX0_value_82 : decode cX0_value 82 = .ok (.iload_n 2, 1) := by decide +kernel
theorem dX0_value_83 : decode cX0_value 83 = .ok (.iaload, 1) := by decide +kernel
theorem dX0_value_84 : decode cX0_value 84 = .ok (.ireturn, 1) := by decide +kernel
theorem dX0_value_85 : decode cX0_value 85 = .ok (.aload_n 0, 1) := by decide +kernel
theorem dX0_value_86 : decode cX0_value 86 = .ok (.getfield 31, 3) := by decide +kernel
theorem dX0_value_89 : decode cX0_value 89 = .ok (.iload_n 2, 1) := by decide +kernel
theorem dX0_value_90 : decode cX0_value 90 = .ok (.iaload, 1) := by decide +kernel
theorem dX0_value_91 : decode cX0_value 91 = .ok (.ireturn, 1) := by decide +kernel
theorem dX0_value_92 : decode cX0_value 92 = .ok (.aload_n 0, 1) := by decide +kernel
theorem dX0_value_93 : decode cX0_value 93 = .ok (.iload_n 3, 1) := by decide +kernel
theorem dX0_value_94 : decode cX0_value 94 = .ok (.invokevirtual 65, 3) := by decide +kernel
theorem dX0_value_97 : decode cX0_value 97 = .ok (.ifCond .eq 12, 3) := by decide +kernel
theorem dX0_value_100 : decode cX0_value 100 = .ok (.aload_n 0, 1) := by decide +kernel
theorem dX0_value_101 : decode cX0_value 101 = .ok (.getfield 43, 3) := by decide +kernel
theorem dX0_value_104 : decode cX0_value 104 = .ok (.iload_n 3, 1) := by decide +kernel
theorem dX0_value_105 : decode cX0_value 105 = .ok (.iaload, 1) := by decide +kernel
theorem dX0_value_106 : decode cX0_value 106 = .ok (.goto 4, 3) := by decide +kernel
theorem dX0_value_109 : decode cX0_value 109 = .ok (.iconst 0, 1) := by decide +kernel
theorem dX0_value_110 : decode cX0_value 110 = .ok (.ireturn, 1) := by decide +kernel
theorem dX0_value_111 : decode cX0_value 111 = .ok (.aload_n 0, 1) := by decide +kernel
theorem dX0_value_112 : decode cX0_value 112 = .ok (.iload_n 3, 1) := by decide +kernel
theorem dX0_value_113 : decode cX0_value 113 = .ok (.invokevirtual 65, 3) := by decide +kernel
theorem dX0_value_116 : decode cX0_value 116 = .ok (.ifCond .eq 12, 3) := by decide +kernel
theorem dX0_value_119 : decode cX0_value 119 = .ok (.aload_n 0, 1) := by decide +kernel
theorem dX0_value_120 : decode cX0_value 120 = .ok (.getfield 46, 3) := by decide +kernel
theorem dX0_value_123 : decode cX0_value 123 = .ok (.iload_n 3, 1) := by decide +kernel
theorem dX0_value_124 : decode cX0_value 124 = .ok (.iaload, 1) := by decide +kernel
theorem dX0_value_125 : decode cX0_value 125 = .ok (.goto 4, 3) := by decide +kernel
theorem dX0_value_128 : decode cX0_value 128 = .ok (.iconst 0, 1) := by decide +kernel
theorem dX0_value_129 : decode cX0_value 129 = .ok (.ireturn, 1) := by decide +kernel
theorem dX0_value_130 : decode cX0_value 130 = .ok (.aload_n 0, 1) := by decide +kernel
theorem dX0_value_131 : decode cX0_value 131 = .ok (.getfield 49, 3) := by decide +kernel
theorem dX0_value_134 : decode cX0_value 134 = .ok (.ireturn, 1) := by decide +kernel
theorem dX0_value_135 : decode cX0_value 135 = .ok (.aload_n 0, 1) := by decide +kernel
theorem dX0_value_136 : decode cX0_value 136 = .ok (.getfield 15, 3) := by decide +kernel
theorem dX0_value_139 : decode cX0_value 139 = .ok (.iload_n 2, 1) := by decide +kernel
theorem dX0_value_140 : decode cX0_value 140 = .ok (.iaload, 1) := by decide +kernel
theorem dX0_value_141 : decode cX0_value 141 = .ok (.ireturn, 1) := by decide +kernel
theorem dX0_value_142 : decode cX0_value 142 = .ok (.aload_n 0, 1) := by decide +kernel
theorem dX0_value_143 : decode cX0_value 143 = .ok (.getfield 34, 3) := by decide +kernel
theorem dX0_value_146 : decode cX0_value 146 = .ok (.iload_n 2, 1) := by decide +kernel
theorem dX0_value_147 : decode cX0_value 147 = .ok (.iaload, 1) := by decide +kernel
theorem dX0_value_148 : decode cX0_value 148 = .ok (.ireturn, 1) := by decide +kernel
theorem dX0_value_149 : decode cX0_value 149 = .ok (.aload_n 0, 1) := by decide +kernel
theorem dX0_value_150 : decode cX0_value 150 = .ok (.getfield 55, 3) := by decide +kernel
theorem dX0_value_153 : decode cX0_value 153 = .ok (.ireturn, 1) := by decide +kernel
theorem dX0_value_154 : decode cX0_value 154 = .ok (.iconst 0, 1) := by decide +kernel
theorem dX0_value_155 : decode cX0_value 155 = .ok (.ireturn, 1) := by decide +kernel
theorem dX0_total_0 : decode cX0_total 0 = .ok (.iconst 0, 1) := by decide +kernel
theorem dX0_total_1 : decode cX0_total 1 = .ok (.istore_n 2, 1) := by decide +kernel
theorem dX0_total_2 : decode cX0_total 2 = .ok (.iconst 0, 1) := by decide +kernel
theorem dX0_total_3 : decode cX0_total 3 = .ok (.istore_n 3, 1) := by decide +kernel
theorem dX0_total_4 : decode cX0_total 4 = .ok (.iload_n 3, 1) := by decide +kernel
theorem dX0_total_5 : decode cX0_total 5 = .ok (.aload_n 0, 1) := by decide +kernel
theorem dX0_total_6 : decode cX0_total 6 = .ok (.getfield 9, 3) := by decide +kernel
theorem dX0_total_9 : decode cX0_total 9 = .ok (.if_icmp .ge 21, 3) := by decide +kernel
theorem dX0_total_12 : decode cX0_total 12 = .ok (.iload_n 3, 1) := by decide +kernel
theorem dX0_total_13 : decode cX0_total 13 = .ok (.aload_n 1, 1) := by decide +kernel
theorem dX0_total_14 : decode cX0_total 14 = .ok (.arraylength, 1) := by decide +kernel
theorem dX0_total_15 : decode cX0_total 15 = .ok (.if_icmp .ge 15, 3) := by decide +kernel
theorem dX0_total_18 : decode cX0_total 18 = .ok (.iload_n 2, 1) := by decide +kernel
theorem dX0_total_19 : decode cX0_total 19 = .ok (.aload_n 1, 1) := by decide +kernel
theorem dX0_total_20 : decode cX0_total 20 = .ok (.iload_n 3, 1) := by decide +kernel
theorem dX0_total_21 : decode cX0_total 21 = .ok (.iaload, 1) := by decide +kernel
theorem dX0_total_22 : decode cX0_total 22 = .ok (.iadd, 1) := by decide +kernel
theorem dX0_total_23 : decode cX0_total 23 = .ok (.istore_n 2, 1) := by decide +kernel
theorem dX0_total_24 : decode cX0_total 24 = .ok (.iinc 3 1, 3) := by decide +kernel
theorem dX0_total_27 : decode cX0_total 27 = .ok (.goto (-23), 3) := by decide +kernel
theorem dX0_total_30 : decode cX0_total 30 = .ok (.iload_n 2, 1) := by decide +kernel
theorem dX0_total_31 : decode cX0_total 31 = .ok (.ireturn, 1) := by decide +kernel
theorem dX0_whoIsRead_0 : decode cX0_whoIsRead 0 = .ok (.iconst 0, 1) := by decide +kernel
theorem dX0_whoIsRead_1 : decode cX0_whoIsRead 1 = .ok (.istore_n 1, 1) := by decide +kernel
theorem dX0_whoIsRead_2 : decode cX0_whoIsRead 2 = .ok (.iconst 0, 1) := by decide +kernel
theorem dX0_whoIsRead_3 : decode cX0_whoIsRead 3 = .ok (.istore_n 2, 1) := by decide +kernel
theorem dX0_whoIsRead_4 : decode cX0_whoIsRead 4 = .ok (.iload_n 2, 1) := by decide +kernel
theorem dX0_whoIsRead_5 : decode cX0_whoIsRead 5 = .ok (.aload_n 0, 1) := by decide +kernel
theorem dX0_whoIsRead_6 : decode cX0_whoIsRead 6 = .ok (.getfield 9, 3) := by decide +kernel
theorem dX0_whoIsRead_9 : decode cX0_whoIsRead 9 = .ok (.if_icmp .ge 26, 3) := by decide +kernel
theorem dX0_whoIsRead_12 : decode cX0_whoIsRead 12 = .ok (.iload_n 2, 1) := by decide +kernel
theorem dX0_whoIsRead_13 : decode cX0_whoIsRead 13 = .ok (.bipush 12, 2) := by decide +kernel
theorem dX0_whoIsRead_15 : decode cX0_whoIsRead 15 = .ok (.if_icmp .ge 20, 3) := by decide +kernel
theorem dX0_whoIsRead_18 : decode cX0_whoIsRead 18 = .ok (.iload_n 1, 1) := by decide +kernel
theorem dX0_whoIsRead_19 : decode cX0_whoIsRead 19 = .ok (.aload_n 0, 1) := by decide +kernel
theorem dX0_whoIsRead_20 : decode cX0_whoIsRead 20 = .ok (.getfield 28, 3) := by decide +kernel
theorem dX0_whoIsRead_23 : decode cX0_whoIsRead 23 = .ok (.iload_n 2, 1) := by decide +kernel
theorem dX0_whoIsRead_24 : decode cX0_whoIsRead 24 = .ok (.iaload, 1) := by decide +kernel
theorem dX0_whoIsRead_25 : decode cX0_whoIsRead 25 = .ok (.iload_n 2, 1) := by decide +kernel
theorem dX0_whoIsRead_26 : decode cX0_whoIsRead 26 = .ok (.ishl, 1) := by decide +kernel
theorem dX0_whoIsRead_27 : decode cX0_whoIsRead 27 = .ok (.ior, 1) := by decide +kernel
theorem dX0_whoIsRead_28 : decode cX0_whoIsRead 28 = .ok (.istore_n 1, 1) := by decide +kernel
theorem dX0_whoIsRead_29 : decode cX0_whoIsRead 29 = .ok (.iinc 2 1, 3) := by decide +kernel
theorem dX0_whoIsRead_32 : decode cX0_whoIsRead 32 = .ok (.goto (-28), 3) := by decide +kernel
theorem dX0_whoIsRead_35 : decode cX0_whoIsRead 35 = .ok (.iload_n 1, 1) := by decide +kernel
theorem dX0_whoIsRead_36 : decode cX0_whoIsRead 36 = .ok (.ireturn, 1) := by decide +kernel
theorem dX0_copyFrom_0 : decode cX0_copyFrom 0 = .ok (.aload_n 0, 1) := by decide +kernel
theorem dX0_copyFrom_1 : decode cX0_copyFrom 1 = .ok (.aload_n 1, 1) := by decide +kernel
theorem dX0_copyFrom_2 : decode cX0_copyFrom 2 = .ok (.getfield 9, 3) := by decide +kernel
theorem dX0_copyFrom_5 : decode cX0_copyFrom 5 = .ok (.putfield 9, 3) := by decide +kernel
theorem dX0_copyFrom_8 : decode cX0_copyFrom 8 = .ok (.aload_n 1, 1) := by decide +kernel
theorem dX0_copyFrom_9 : decode cX0_copyFrom 9 = .ok (.getfield 15, 3) := by decide +kernel
theorem dX0_copyFrom_12 : decode cX0_copyFrom 12 = .ok (.aload_n 0, 1) := by decide +kernel
theorem dX0_copyFrom_13 : decode cX0_copyFrom 13 = .ok (.getfield 15, 3) := by decide +kernel
theorem dX0_copyFrom_16 : decode cX0_copyFrom 16 = .ok (.invokestatic 70, 3) := by decide +kernel
theorem dX0_copyFrom_19 : decode cX0_copyFrom 19 = .ok (.aload_n 1, 1) := by decide +kernel
theorem dX0_copyFrom_20 : decode cX0_copyFrom 20 = .ok (.getfield 19, 3) := by decide +kernel
theorem dX0_copyFrom_23 : decode cX0_copyFrom 23 = .ok (.aload_n 0, 1) := by decide +kernel
theorem dX0_copyFrom_24 : decode cX0_copyFrom 24 = .ok (.getfield 19, 3) := by decide +kernel
theorem dX0_copyFrom_27 : decode cX0_copyFrom 27 = .ok (.invokestatic 70, 3) := by decide +kernel
theorem dX0_copyFrom_30 : decode cX0_copyFrom 30 = .ok (.aload_n 1, 1) := by decide +kernel
theorem dX0_copyFrom_31 : decode cX0_copyFrom 31 = .ok (.getfield 22, 3) := by decide +kernel
theorem dX0_copyFrom_34 : decode cX0_copyFrom 34 = .ok (.aload_n 0, 1) := by decide +kernel
theorem dX0_copyFrom_35 : decode cX0_copyFrom 35 = .ok (.getfield 22, 3) := by decide +kernel
theorem dX0_copyFrom_38 : decode cX0_copyFrom 38 = .ok (.invokestatic 70, 3) := by decide +kernel
theorem dX0_copyFrom_41 : decode cX0_copyFrom 41 = .ok (.aload_n 1, 1) := by decide +kernel
theorem dX0_copyFrom_42 : decode cX0_copyFrom 42 = .ok (.getfield 25, 3) := by decide +kernel
theorem dX0_copyFrom_45 : decode cX0_copyFrom 45 = .ok (.aload_n 0, 1) := by decide +kernel
theorem dX0_copyFrom_46 : decode cX0_copyFrom 46 = .ok (.getfield 25, 3) := by decide +kernel
theorem dX0_copyFrom_49 : decode cX0_copyFrom 49 = .ok (.invokestatic 70, 3) := by decide +kernel
theorem dX0_copyFrom_52 : decode cX0_copyFrom 52 = .ok (.aload_n 1, 1) := by decide +kernel
theorem dX0_copyFrom_53 : decode cX0_copyFrom 53 = .ok (.getfield 28, 3) := by decide +kernel
theorem dX0_copyFrom_56 : decode cX0_copyFrom 56 = .ok (.aload_n 0, 1) := by decide +kernel
theorem dX0_copyFrom_57 : decode cX0_copyFrom 57 = .ok (.getfield 28, 3) := by decide +kernel
theorem dX0_copyFrom_60 : decode cX0_copyFrom 60 = .ok (.invokestatic 70, 3) := by decide +kernel
theorem dX0_copyFrom_63 : decode cX0_copyFrom 63 = .ok (.aload_n 1, 1) := by decide +kernel
theorem dX0_copyFrom_64 : decode cX0_copyFrom 64 = .ok (.getfield 31, 3) := by decide +kernel
theorem dX0_copyFrom_67 : decode cX0_copyFrom 67 = .ok (.aload_n 0, 1) := by decide +kernel
theorem dX0_copyFrom_68 : decode cX0_copyFrom 68 = .ok (.getfield 31, 3) := by decide +kernel
theorem dX0_copyFrom_71 : decode cX0_copyFrom 71 = .ok (.invokestatic 70, 3) := by decide +kernel
theorem dX0_copyFrom_74 : decode cX0_copyFrom 74 = .ok (.aload_n 1, 1) := by decide +kernel
theorem dX0_copyFrom_75 : decode cX0_copyFrom 75 = .ok (.getfield 34, 3) := by decide +kernel
theorem dX0_copyFrom_78 : decode cX0_copyFrom 78 = .ok (.aload_n 0, 1) := by decide +kernel
theorem dX0_copyFrom_79 : decode cX0_copyFrom 79 = .ok (.getfield 34, 3) := by decide +kernel
theorem dX0_copyFrom_82 : decode cX0_copyFrom 82 = .ok (.invokestatic 70, 3) := by decide +kernel
theorem dX0_copyFrom_85 : decode cX0_copyFrom 85 = .ok (.aload_n 0, 1) := by decide +kernel
theorem dX0_copyFrom_86 : decode cX0_copyFrom 86 = .ok (.aload_n 1, 1) := by decide +kernel
theorem dX0_copyFrom_87 : decode cX0_copyFrom 87 = .ok (.getfield 37, 3) := by decide +kernel
theorem dX0_copyFrom_90 : decode cX0_copyFrom 90 = .ok (.putfield 37, 3) := by decide +kernel
theorem dX0_copyFrom_93 : decode cX0_copyFrom 93 = .ok (.aload_n 1, 1) := by decide +kernel
theorem dX0_copyFrom_94 : decode cX0_copyFrom 94 = .ok (.getfield 40, 3) := by decide +kernel
theorem dX0_copyFrom_97 : decode cX0_copyFrom 97 = .ok (.aload_n 0, 1) := by decide +kernel
theorem dX0_copyFrom_98 : decode cX0_copyFrom 98 = .ok (.getfield 40, 3) := by decide +kernel
theorem dX0_copyFrom_101 : decode cX0_copyFrom 101 = .ok (.invokestatic 70, 3) := by decide +kernel
theorem dX0_copyFrom_104 : decode cX0_copyFrom 104 = .ok (.aload_n 1, 1) := by decide +kernel
theorem dX0_copyFrom_105 : decode cX0_copyFrom 105 = .ok (.getfield 43, 3) := by decide +kernel
theorem dX0_copyFrom_108 : decode cX0_copyFrom 108 = .ok (.aload_n 0, 1) := by decide +kernel
theorem dX0_copyFrom_109 : decode cX0_copyFrom 109 = .ok (.getfield 43, 3) := by decide +kernel
theorem dX0_copyFrom_112 : decode cX0_copyFrom 112 = .ok (.invokestatic 70, 3) := by decide +kernel
theorem dX0_copyFrom_115 : decode cX0_copyFrom 115 = .ok (.aload_n 1, 1) := by decide +kernel
theorem dX0_copyFrom_116 : decode cX0_copyFrom 116 = .ok (.getfield 46, 3) := by decide +kernel
theorem dX0_copyFrom_119 : decode cX0_copyFrom 119 = .ok (.aload_n 0, 1) := by decide +kernel
theorem dX0_copyFrom_120 : decode cX0_copyFrom 120 = .ok (.getfield 46, 3) := by decide +kernel
theorem dX0_copyFrom_123 : decode cX0_copyFrom 123 = .ok (.invokestatic 70, 3) := by decide +kernel
theorem dX0_copyFrom_126 : decode cX0_copyFrom 126 = .ok (.aload_n 0, 1) := by decide +kernel
theorem dX0_copyFrom_127 : decode cX0_copyFrom 127 = .ok (.aload_n 1, 1) := by decide +kernel
theorem dX0_copyFrom_128 : decode cX0_copyFrom 128 = .ok (.getfield 49, 3) := by decide +kernel
theorem dX0_copyFrom_131 : decode cX0_copyFrom 131 = .ok (.putfield 49, 3) := by decide +kernel
theorem dX0_copyFrom_134 : decode cX0_copyFrom 134 = .ok (.aload_n 0, 1) := by decide +kernel
theorem dX0_copyFrom_135 : decode cX0_copyFrom 135 = .ok (.aload_n 1, 1) := by decide +kernel
theorem dX0_copyFrom_136 : decode cX0_copyFrom 136 = .ok (.getfield 52, 3) := by decide +kernel
theorem dX0_copyFrom_139 : decode cX0_copyFrom 139 = .ok (.putfield 52, 3) := by decide +kernel
theorem dX0_copyFrom_142 : decode cX0_copyFrom 142 = .ok (.aload_n 0, 1) := by decide +kernel
theorem dX0_copyFrom_143 : decode cX0_copyFrom 143 = .ok (.aload_n 1, 1) := by decide +kernel
theorem dX0_copyFrom_144 : decode cX0_copyFrom 144 = .ok (.getfield 55, 3) := by decide +kernel
theorem dX0_copyFrom_147 : decode cX0_copyFrom 147 = .ok (.putfield 55, 3) := by decide +kernel
theorem dX0_copyFrom_150 : decode cX0_copyFrom 150 = .ok (.aload_n 0, 1) := by decide +kernel
theorem dX0_copyFrom_151 : decode cX0_copyFrom 151 = .ok (.aload_n 1, 1) := by decide +kernel
theorem dX0_copyFrom_152 : decode cX0_copyFrom 152 = .ok (.getfield 58, 3) := by decide +kernel
theorem dX0_copyFrom_155 : decode cX0_copyFrom 155 = .ok (.putfield 58, 3) := by decide +kernel
theorem dX0_copyFrom_158 : decode cX0_copyFrom 158 = .ok (.return_, 1) := by decide +kernel
theorem dX1_init_0 : decode cX1_init 0 = .ok (.aload_n 0, 1) := by decide +kernel
theorem dX1_init_1 : decode cX1_init 1 = .ok (.invokespecial 3, 3) := by decide +kernel
theorem dX1_init_4 : decode cX1_init 4 = .ok (.aload_n 0, 1) := by decide +kernel
theorem dX1_init_5 : decode cX1_init 5 = .ok (.new 9, 3) := by decide +kernel
theorem dX1_init_8 : decode cX1_init 8 = .ok (.dup, 1) := by decide +kernel
theorem dX1_init_9 : decode cX1_init 9 = .ok (.bipush 16, 2) := by decide +kernel
theorem dX1_init_11 : decode cX1_init 11 = .ok (.iconst 4, 1) := by decide +kernel
theorem dX1_init_12 : decode cX1_init 12 = .ok (.invokespecial 11, 3) := by decide +kernel
theorem dX1_init_15 : decode cX1_init 15 = .ok (.putfield 14, 3) := by decide +kernel
theorem dX1_init_18 : decode cX1_init 18 = .ok (.aload_n 0, 1) := by decide +kernel
theorem dX1_init_19 : decode cX1_init 19 = .ok (.new 9, 3) := by decide +kernel
theorem dX1_init_22 : decode cX1_init 22 = .ok (.dup, 1) := by decide +kernel
theorem dX1_init_23 : decode cX1_init 23 = .ok (.sipush 400, 3) := by decide +kernel
theorem dX1_init_26 : decode cX1_init 26 = .ok (.iconst 2, 1) := by decide +kernel
theorem dX1_init_27 : decode cX1_init 27 = .ok (.invokespecial 11, 3) := by decide +kernel
theorem dX1_init_30 : decode cX1_init 30 = .ok (.putfield 20, 3) := by decide +kernel
theorem dX1_init_33 : decode cX1_init 33 = .ok (.aload_n 0, 1) := by decide +kernel
theorem dX1_init_34 : decode cX1_init 34 = .ok (.bipush 64, 2) := by decide +kernel
theorem dX1_init_36 : decode cX1_init 36 = .ok (.newarray .int, 2) := by decide +kernel
theorem dX1_init_38 : decode cX1_init 38 = .ok (.putfield 23, 3) := by decide +kernel
theorem dX1_init_41 : decode cX1_init 41 = .ok (.return_, 1) := by decide +kernel
theorem dX1_clear_0 : decode cX1_clear 0 = .ok (.aload_n 0, 1) := by decide +kernel
theorem dX1_clear_1 : decode cX1_clear 1 = .ok (.getfield 14, 3) := by decide +kernel
theorem dX1_clear_4 : decode cX1_clear 4 = .ok (.invokevirtual 27, 3) := by decide +kernel
theorem dX1_clear_7 : decode cX1_clear 7 = .ok (.pop, 1) := by decide +kernel
theorem dX1_clear_8 : decode cX1_clear 8 = .ok (.aload_n 0, 1) := by decide +kernel
theorem dX1_clear_9 : decode cX1_clear 9 = .ok (.getfield 20, 3) := by decide +kernel
theorem dX1_clear_12 : decode cX1_clear 12 = .ok (.invokevirtual 27, 3) := by decide +kernel
theorem dX1_clear_15 : decode cX1_clear 15 = .ok (.pop, 1) := by decide +kernel
theorem dX1_clear_16 : decode cX1_clear 16 = .ok (.return_, 1) := by decide +kernel
theorem dX1_copyFrom_0 : decode cX1_copyFrom 0 = .ok (.aload_n 0, 1) := by decide +kernel
theorem dX1_copyFrom_1 : decode cX1_copyFrom 1 = .ok (.getfield 14, 3) := by decide +kernel
theorem dX1_copyFrom_4 : decode cX1_copyFrom 4 = .ok (.aload_n 1, 1) := by decide +kernel
theorem dX1_copyFrom_5 : decode cX1_copyFrom 5 = .ok (.getfield 14, 3) := by decide +kernel
theorem dX1_copyFrom_8 : decode cX1_copyFrom 8 = .ok (.invokevirtual 31, 3) := by decide +kernel
theorem dX1_copyFrom_11 : decode cX1_copyFrom 11 = .ok (.aload_n 0, 1) := by decide +kernel
theorem dX1_copyFrom_12 : decode cX1_copyFrom 12 = .ok (.getfield 20, 3) := by decide +kernel
theorem dX1_copyFrom_15 : decode cX1_copyFrom 15 = .ok (.aload_n 1, 1) := by decide +kernel
theorem dX1_copyFrom_16 : decode cX1_copyFrom 16 = .ok (.getfield 20, 3) := by decide +kernel
theorem dX1_copyFrom_19 : decode cX1_copyFrom 19 = .ok (.invokevirtual 31, 3) := by decide +kernel
theorem dX1_copyFrom_22 : decode cX1_copyFrom 22 = .ok (.return_, 1) := by decide +kernel
theorem dX1_tells_0 : decode cX1_tells 0 = .ok (.iconst 0, 1) := by decide +kernel
theorem dX1_tells_1 : decode cX1_tells 1 = .ok (.istore 5, 2) := by decide +kernel
theorem dX1_tells_3 : decode cX1_tells 3 = .ok (.iload 5, 2) := by decide +kernel
theorem dX1_tells_5 : decode cX1_tells 5 = .ok (.aload_n 0, 1) := by decide +kernel
theorem dX1_tells_6 : decode cX1_tells 6 = .ok (.getfield 14, 3) := by decide +kernel
theorem dX1_tells_9 : decode cX1_tells 9 = .ok (.getfield 35, 3) := by decide +kernel
theorem dX1_tells_12 : decode cX1_tells 12 = .ok (.if_icmp .ge 98, 3) := by decide +kernel
theorem dX1_tells_15 : decode cX1_tells 15 = .ok (.aload_n 0, 1) := by decide +kernel
theorem dX1_tells_16 : decode cX1_tells 16 = .ok (.getfield 14, 3) := by decide +kernel
theorem dX1_tells_19 : decode cX1_tells 19 = .ok (.iload 5, 2) := by decide +kernel
theorem dX1_tells_21 : decode cX1_tells 21 = .ok (.iconst 1, 1) := by decide +kernel
theorem dX1_tells_22 : decode cX1_tells 22 = .ok (.invokevirtual 39, 3) := by decide +kernel
theorem dX1_tells_25 : decode cX1_tells 25 = .ok (.istore 6, 2) := by decide +kernel
theorem dX1_tells_27 : decode cX1_tells 27 = .ok (.aload_n 0, 1) := by decide +kernel
theorem dX1_tells_28 : decode cX1_tells 28 = .ok (.getfield 14, 3) := by decide +kernel
theorem dX1_tells_31 : decode cX1_tells 31 = .ok (.iload 5, 2) := by decide +kernel
theorem dX1_tells_33 : decode cX1_tells 33 = .ok (.iconst 2, 1) := by decide +kernel
theorem dX1_tells_34 : decode cX1_tells 34 = .ok (.invokevirtual 39, 3) := by decide +kernel
theorem dX1_tells_37 : decode cX1_tells 37 = .ok (.istore 7, 2) := by decide +kernel
theorem dX1_tells_39 : decode cX1_tells 39 = .ok (.aload_n 0, 1) := by decide +kernel
theorem dX1_tells_40 : decode cX1_tells 40 = .ok (.getfield 14, 3) := by decide +kernel
theorem dX1_tells_43 : decode cX1_tells 43 = .ok (.iload 5, 2) := by decide +kernel
theorem dX1_tells_45 : decode cX1_tells 45 = .ok (.iconst 3, 1) := by decide +kernel
theorem dX1_tells_46 : decode cX1_tells 46 = .ok (.invokevirtual 39, 3) := by decide +kernel
theorem dX1_tells_49 : decode cX1_tells 49 = .ok (.istore 8, 2) := by decide +kernel
theorem dX1_tells_51 : decode cX1_tells 51 = .ok (.aload_n 0, 1) := by decide +kernel
theorem dX1_tells_52 : decode cX1_tells 52 = .ok (.getfield 14, 3) := by decide +kernel
theorem dX1_tells_55 : decode cX1_tells 55 = .ok (.iload 5, 2) := by decide +kernel
theorem dX1_tells_57 : decode cX1_tells 57 = .ok (.iconst 0, 1) := by decide +kernel
theorem dX1_tells_58 : decode cX1_tells 58 = .ok (.invokevirtual 39, 3) := by decide +kernel
theorem dX1_tells_61 : decode cX1_tells 61 = .ok (.iload 4, 2) := by decide +kernel
theorem dX1_tells_63 : decode cX1_tells 63 = .ok (.if_icmp .ne 41, 3) := by decide +kernel
theorem dX1_tells_66 : decode cX1_tells 66 = .ok (.iload 7, 2) := by decide +kernel
theorem dX1_tells_68 : decode cX1_tells 68 = .ok (.iload 8, 2) := by decide +kernel
theorem dX1_tells_70 : decode cX1_tells 70 = .ok (.if_icmp .eq 17, 3) := by decide +kernel
theorem dX1_tells_73 : decode cX1_tells 73 = .ok (.aload_n 0, 1) := by decide +kernel
theorem dX1_tells_74 : decode cX1_tells 74 = .ok (.aload_n 1, 1) := by decide +kernel
theorem dX1_tells_75 : decode cX1_tells 75 = .ok (.iload_n 2, 1) := by decide +kernel
theorem dX1_tells_76 : decode cX1_tells 76 = .ok (.iload_n 3, 1) := by decide +kernel
theorem dX1_tells_77 : decode cX1_tells 77 = .ok (.iload 7, 2) := by decide +kernel
theorem dX1_tells_79 : decode cX1_tells 79 = .ok (.iload 8, 2) := by decide +kernel
theorem dX1_tells_81 : decode cX1_tells 81 = .ok (.invokevirtual 43, 3) := by decide +kernel
theorem dX1_tells_84 : decode cX1_tells 84 = .ok (.ifCond .eq 20, 3) := by decide +kernel
theorem dX1_tells_87 : decode cX1_tells 87 = .ok (.iload 4, 2) := by decide +kernel
theorem dX1_tells_89 : decode cX1_tells 89 = .ok (.aload_n 0, 1) := by decide +kernel
theorem dX1_tells_90 : decode cX1_tells 90 = .ok (.aload_n 1, 1) := by decide +kernel
theorem dX1_tells_91 : decode cX1_tells 91 = .ok (.iload_n 2, 1) := by decide +kernel
theorem dX1_tells_92 : decode cX1_tells 92 = .ok (.iload_n 3, 1) := by decide +kernel
theorem dX1_tells_93 : decode cX1_tells 93 = .ok (.iload 6, 2) := by decide +kernel
theorem dX1_tells_95 : decode cX1_tells 95 = .ok (.iload 7, 2) := by decide +kernel
theorem dX1_tells_97 : decode cX1_tells 97 = .ok (.invokevirtual 43, 3) := by decide +kernel
theorem dX1_tells_100 : decode cX1_tells 100 = .ok (.invokestatic 47, 3) := by decide +kernel
theorem dX1_tells_103 : decode cX1_tells 103 = .ok (.ireturn, 1) := by decide +kernel
theorem dX1_tells_104 : decode cX1_tells 104 = .ok (.iinc 5 1, 3) := by decide +kernel
theorem dX1_tells_107 : decode cX1_tells 107 = .ok (.goto (-104), 3) := by decide +kernel
theorem dX1_tells_110 : decode cX1_tells 110 = .ok (.iload 4, 2) := by decide +kernel
theorem dX1_tells_112 : decode cX1_tells 112 = .ok (.aload_n 1, 1) := by decide +kernel
theorem dX1_tells_113 : decode cX1_tells 113 = .ok (.iload_n 2, 1) := by decide +kernel
theorem dX1_tells_114 : decode cX1_tells 114 = .ok (.iload_n 3, 1) := by decide +kernel
theorem dX1_tells_115 : decode cX1_tells 115 = .ok (.iload 4, 2) := by decide +kernel
theorem dX1_tells_117 : decode cX1_tells 117 = .ok (.invokestatic 50, 3) := by decide +kernel
theorem dX1_tells_120 : decode cX1_tells 120 = .ok (.invokestatic 47, 3) := by decide +kernel
theorem dX1_tells_123 : decode cX1_tells 123 = .ok (.ireturn, 1) := by decide +kernel
theorem dX1_untold_0 : decode cX1_untold 0 = .ok (.aload_n 0, 1) := by decide +kernel
theorem dX1_untold_1 : decode cX1_untold 1 = .ok (.bipush 11, 2) := by decide +kernel
theorem dX1_untold_3 : decode cX1_untold 3 = .ok (.iload_n 1, 1) := by decide +kernel
theorem dX1_untold_4 : decode cX1_untold 4 = .ok (.iload_n 2, 1) := by decide +kernel
theorem dX1_untold_5 : decode cX1_untold 5 = .ok (.invokevirtual 54, 3) := by decide +kernel
theorem dX1_untold_8 : decode cX1_untold 8 = .ok (.istore 4, 2) := by decide +kernel
theorem dX1_untold_10 : decode cX1_untold 10 = .ok (.iload_n 3, 1) := by decide +kernel
theorem dX1_untold_11 : decode cX1_untold 11 = .ok (.lookupswitch 42 #[(0, 25), (1, 34)], 25) := by decide +kernel
theorem dX1_untold_36 : decode cX1_untold 36 = .ok (.aload_n 0, 1) := by decide +kernel
theorem dX1_untold_37 : decode cX1_untold 37 = .ok (.bipush 7, 2) := by decide +kernel
theorem dX1_untold_39 : decode cX1_untold 39 = .ok (.iload_n 1, 1) := by decide +kernel
theorem dX1_untold_40 : decode cX1_untold 40 = .ok (.iload_n 2, 1) := by decide +kernel
theorem dX1_untold_41 : decode cX1_untold 41 = .ok (.invokevirtual 54, 3) := by decide +kernel
theorem dX1_untold_44 : decode cX1_untold 44 = .ok (.ireturn, 1) := by decide +kernel
theorem dX1_untold_45 : decode cX1_untold 45 = .ok (.bipush 10, 2) := by decide +kernel
theorem dX1_untold_47 : decode cX1_untold 47 = .ok (.iconst 5, 1) := by decide +kernel
theorem dX1_untold_48 : decode cX1_untold 48 = .ok (.iload 4, 2) := by decide +kernel
theorem dX1_untold_50 : decode cX1_untold 50 = .ok (.imul, 1) := by decide +kernel
theorem dX1_untold_51 : decode cX1_untold 51 = .ok (.iadd, 1) := by decide +kernel
theorem dX1_untold_52 : decode cX1_untold 52 = .ok (.ireturn, 1) := by decide +kernel
theorem dX1_untold_53 : decode cX1_untold 53 = .ok (.bipush 40, 2) := by decide +kernel
theorem dX1_untold_55 : decode cX1_untold 55 = .ok (.iload 4, 2) := by decide +kernel
theorem dX1_untold_57 : decode cX1_untold 57 = .ok (.imul, 1) := by decide +kernel
theorem dX1_untold_58 : decode cX1_untold 58 = .ok (.aload_n 0, 1) := by decide +kernel
theorem dX1_untold_59 : decode cX1_untold 59 = .ok (.bipush 12, 2) := by decide +kernel
theorem dX1_untold_61 : decode cX1_untold 61 = .ok (.iload_n 1, 1) := by decide +kernel
theorem dX1_untold_62 : decode cX1_untold 62 = .ok (.iload_n 2, 1) := by decide +kernel
theorem dX1_untold_63 : decode cX1_untold 63 = .ok (.invokevirtual 54, 3) := by decide +kernel
theorem dX1_untold_66 : decode cX1_untold 66 = .ok (.iadd, 1) := by decide +kernel
theorem dX1_untold_67 : decode cX1_untold 67 = .ok (.ireturn, 1) := by decide +kernel
theorem dX1_held_0 : decode cX1_held 0 = .ok (.iload_n 0, 1) := by decide +kernel
theorem dX1_held_1 : decode cX1_held 1 = .ok (.ifCond .ne 8, 3) := by decide +kernel
theorem dX1_held_4 : decode cX1_held 4 = .ok (.bipush 20, 2) := by decide +kernel
theorem dX1_held_6 : decode cX1_held 6 = .ok (.goto 16, 3) := by decide +kernel
theorem dX1_held_9 : decode cX1_held 9 = .ok (.iload_n 0, 1) := by decide +kernel
theorem dX1_held_10 : decode cX1_held 10 = .ok (.iconst 1, 1) := by decide +kernel
theorem dX1_held_11 : decode cX1_held 11 = .ok (.if_icmp .ne 8, 3) := by decide +kernel
theorem dX1_held_14 : decode cX1_held 14 = .ok (.bipush 99, 2) := by decide +kernel
theorem dX1_held_16 : decode cX1_held 16 = .ok (.goto 6, 3) := by decide +kernel
theorem dX1_held_19 : decode cX1_held 19 = .ok (.sipush 1000, 3) := by decide +kernel
theorem dX1_held_22 : decode cX1_held 22 = .ok (.istore_n 2, 1) := by decide +kernel
theorem dX1_held_23 : decode cX1_held 23 = .ok (.iconst 0, 1) := by decide +kernel
theorem dX1_held_24 : decode cX1_held 24 = .ok (.iload_n 2, 1) := by decide +kernel
theorem dX1_held_25 : decode cX1_held 25 = .ok (.iload_n 1, 1) := by decide +kernel
theorem dX1_held_26 : decode cX1_held 26 = .ok (.invokestatic 60, 3) := by decide +kernel
theorem dX1_held_29 : decode cX1_held 29 = .ok (.invokestatic 65, 3) := by decide +kernel
theorem dX1_held_32 : decode cX1_held 32 = .ok (.ireturn, 1) := by decide +kernel
theorem dX1_run_0 : decode cX1_run 0 = .ok (.iconst 0, 1) := by decide +kernel
theorem dX1_run_1 : decode cX1_run 1 = .ok (.istore 6, 2) := by decide +kernel
theorem dX1_run_3 : decode cX1_run 3 = .ok (.iload 4, 2) := by decide +kernel
theorem dX1_run_5 : decode cX1_run 5 = .ok (.istore 7, 2) := by decide +kernel
theorem dX1_run_7 : decode cX1_run 7 = .ok (.iload 7, 2) := by decide +kernel
theorem dX1_run_9 : decode cX1_run 9 = .ok (.iload 5, 2) := by decide +kernel
theorem dX1_run_11 : decode cX1_run 11 = .ok (.if_icmp .ge 215, 3) := by decide +kernel
theorem dX1_run_14 : decode cX1_run 14 = .ok (.aload_n 0, 1) := by decide +kernel
theorem dX1_run_15 : decode cX1_run 15 = .ok (.getfield 20, 3) := by decide +kernel
theorem dX1_run_18 : decode cX1_run 18 = .ok (.iload 7, 2) := by decide +kernel
theorem dX1_run_20 : decode cX1_run 20 = .ok (.iconst 0, 1) := by decide +kernel
theorem dX1_run_21 : decode cX1_run 21 = .ok (.invokevirtual 39, 3) := by decide +kernel
theorem dX1_run_24 : decode cX1_run 24 = .ok (.istore 8, 2) := by decide +kernel
theorem dX1_run_26 : decode cX1_run 26 = .ok (.aload_n 0, 1) := by decide +kernel
theorem dX1_run_27 : decode cX1_run 27 = .ok (.getfield 20, 3) := by decide +kernel
theorem dX1_run_30 : decode cX1_run 30 = .ok (.iload 7, 2) := by decide +kernel
theorem dX1_run_32 : decode cX1_run 32 = .ok (.iconst 1, 1) := by decide +kernel
theorem dX1_run_33 : decode cX1_run 33 = .ok (.invokevirtual 39, 3) := by decide +kernel
theorem dX1_run_36 : decode cX1_run 36 = .ok (.istore 9, 2) := by decide +kernel
theorem dX1_run_38 : decode cX1_run 38 = .ok (.iload 8, 2) := by decide +kernel
theorem dX1_run_40 : decode cX1_run 40 = .ok (.sipush 1000, 3) := by decide +kernel
theorem dX1_run_43 : decode cX1_run 43 = .ok (.if_icmp .eq 17, 3) := by decide +kernel
theorem dX1_run_46 : decode cX1_run 46 = .ok (.iload 8, 2) := by decide +kernel
theorem dX1_run_48 : decode cX1_run 48 = .ok (.bipush 7, 2) := by decide +kernel
theorem dX1_run_50 : decode cX1_run 50 = .ok (.if_icmp .lt 51, 3) := by decide +kernel
theorem dX1_run_53 : decode cX1_run 53 = .ok (.iload 8, 2) := by decide +kernel
theorem dX1_run_55 : decode cX1_run 55 = .ok (.bipush 16, 2) := by decide +kernel
theorem dX1_run_57 : decode cX1_run 57 = .ok (.if_icmp .gt 44, 3) := by decide +kernel
theorem dX1_run_60 : decode cX1_run 60 = .ok (.iload 6, 2) := by decide +kernel
theorem dX1_run_62 : decode cX1_run 62 = .ok (.bipush 64, 2) := by decide +kernel
theorem dX1_run_64 : decode cX1_run 64 = .ok (.if_icmp .ge 156, 3) := by decide +kernel
theorem dX1_run_67 : decode cX1_run 67 = .ok (.aload_n 0, 1) := by decide +kernel
theorem dX1_run_68 : decode cX1_run 68 = .ok (.getfield 23, 3) := by decide +kernel
theorem dX1_run_71 : decode cX1_run 71 = .ok (.iload 6, 2) := by decide +kernel
theorem dX1_run_73 : decode cX1_run 73 = .ok (.iload 8, 2) := by decide +kernel
theorem dX1_run_75 : decode cX1_run 75 = .ok (.sipush 1000, 3) := by decide +kernel
theorem dX1_run_78 : decode cX1_run 78 = .ok (.if_icmp .ne 8, 3) := by decide +kernel
theorem dX1_run_81 : decode cX1_run 81 = .ok (.iload 9, 2) := by decide +kernel
theorem dX1_run_83 : decode cX1_run 83 = .ok (.goto 11, 3) := by decide +kernel
theorem dX1_run_86 : decode cX1_run 86 = .ok (.aload_n 1, 1) := by decide +kernel
theorem dX1_run_87 : decode cX1_run 87 = .ok (.iload 8, 2) := by decide +kernel
theorem dX1_run_89 : decode cX1_run 89 = .ok (.iload_n 2, 1) := by decide +kernel
theorem dX1_run_90 : decode cX1_run 90 = .ok (.iload_n 3, 1) := by decide +kernel
theorem dX1_run_91 : decode cX1_run 91 = .ok (.invokevirtual 54, 3) := by decide +kernel
theorem dX1_run_94 : decode cX1_run 94 = .ok (.iastore, 1) := by decide +kernel
theorem dX1_run_95 : decode cX1_run 95 = .ok (.iinc 6 1, 3) := by decide +kernel
theorem dX1_run_98 : decode cX1_run 98 = .ok (.goto 122, 3) := by decide +kernel
theorem dX1_run_101 : decode cX1_run 101 = .ok (.iload 8, 2) := by decide +kernel
theorem dX1_run_103 : decode cX1_run 103 = .ok (.bipush 6, 2) := by decide +kernel
theorem dX1_run_105 : decode cX1_run 105 = .ok (.if_icmp .eq 10, 3) := by decide +kernel
theorem dX1_run_108 : decode cX1_run 108 = .ok (.iload 8, 2) := by decide +kernel
theorem dX1_run_110 : decode cX1_run 110 = .ok (.bipush 47, 2) := by decide +kernel
theorem dX1_run_112 : decode cX1_run 112 = .ok (.if_icmp .ne 62, 3) := by decide +kernel
theorem dX1_run_115 : decode cX1_run 115 = .ok (.iload 6, 2) := by decide +kernel
theorem dX1_run_117 : decode cX1_run 117 = .ok (.ifCond .le 103, 3) := by decide +kernel
theorem dX1_run_120 : decode cX1_run 120 = .ok (.iload 6, 2) := by decide +kernel
theorem dX1_run_122 : decode cX1_run 122 = .ok (.bipush 64, 2) := by decide +kernel
theorem dX1_run_124 : decode cX1_run 124 = .ok (.if_icmp .gt 96, 3) := by decide +kernel
theorem dX1_run_127 : decode cX1_run 127 = .ok (.aload_n 0, 1) := by decide +kernel
theorem dX1_run_128 : decode cX1_run 128 = .ok (.getfield 23, 3) := by decide +kernel
theorem dX1_run_131 : decode cX1_run 131 = .ok (.iload 6, 2) := by decide +kernel
theorem dX1_run_133 : decode cX1_run 133 = .ok (.iconst 1, 1) := by decide +kernel
theorem dX1_run_134 : decode cX1_run 134 = .ok (.isub, 1) := by decide +kernel
theorem dX1_run_135 : decode cX1_run 135 = .ok (.iload 8, 2) := by decide +kernel
theorem dX1_run_137 : decode cX1_run 137 = .ok (.bipush 6, 2) := by decide +kernel
theorem dX1_run_139 : decode cX1_run 139 = .ok (.if_icmp .ne 17, 3) := by decide +kernel
theorem dX1_run_142 : decode cX1_run 142 = .ok (.iconst 1, 1) := by decide +kernel
theorem dX1_run_143 : decode cX1_run 143 = .ok (.aload_n 0, 1) := by decide +kernel
theorem dX1_run_144 : decode cX1_run 144 = .ok (.getfield 23, 3) := by decide +kernel
theorem dX1_run_147 : decode cX1_run 147 = .ok (.iload 6, 2) := by decide +kernel
theorem dX1_run_149 : decode cX1_run 149 = .ok (.iconst 1, 1) := by decide +kernel
theorem dX1_run_150 : decode cX1_run 150 = .ok (.isub, 1) := by decide +kernel
theorem dX1_run_151 : decode cX1_run 151 = .ok (.iaload, 1) := by decide +kernel
theorem dX1_run_152 : decode cX1_run 152 = .ok (.isub, 1) := by decide +kernel
theorem dX1_run_153 : decode cX1_run 153 = .ok (.goto 17, 3) := by decide +kernel
theorem dX1_run_156 : decode cX1_run 156 = .ok (.aload_n 0, 1) := by decide +kernel
theorem dX1_run_157 : decode cX1_run 157 = .ok (.getfield 23, 3) := by decide +kernel
theorem dX1_run_160 : decode cX1_run 160 = .ok (.iload 6, 2) := by decide +kernel
theorem dX1_run_162 : decode cX1_run 162 = .ok (.iconst 1, 1) := by decide +kernel
theorem dX1_run_163 : decode cX1_run 163 = .ok (.isub, 1) := by decide +kernel
theorem dX1_run_164 : decode cX1_run 164 = .ok (.iaload, 1) := by decide +kernel
theorem dX1_run_165 : decode cX1_run 165 = .ok (.iload 9, 2) := by decide +kernel
theorem dX1_run_167 : decode cX1_run 167 = .ok (.invokestatic 68, 3) := by decide +kernel
theorem dX1_run_170 : decode cX1_run 170 = .ok (.iastore, 1) := by decide +kernel
theorem dX1_run_171 : decode cX1_run 171 = .ok (.goto 49, 3) := by decide +kernel
theorem dX1_run_174 : decode cX1_run 174 = .ok (.iload 6, 2) := by decide +kernel
theorem dX1_run_176 : decode cX1_run 176 = .ok (.iconst 1, 1) := by decide +kernel
theorem dX1_run_177 : decode cX1_run 177 = .ok (.if_icmp .le 43, 3) := by decide +kernel
theorem dX1_run_180 : decode cX1_run 180 = .ok (.iload 6, 2) := by decide +kernel
theorem dX1_run_182 : decode cX1_run 182 = .ok (.bipush 64, 2) := by decide +kernel
theorem dX1_run_184 : decode cX1_run 184 = .ok (.if_icmp .gt 36, 3) := by decide +kernel
theorem dX1_run_187 : decode cX1_run 187 = .ok (.iinc 6 (-1), 3) := by decide +kernel
theorem dX1_run_190 : decode cX1_run 190 = .ok (.aload_n 0, 1) := by decide +kernel
theorem dX1_run_191 : decode cX1_run 191 = .ok (.getfield 23, 3) := by decide +kernel
theorem dX1_run_194 : decode cX1_run 194 = .ok (.iload 6, 2) := by decide +kernel
theorem dX1_run_196 : decode cX1_run 196 = .ok (.iconst 1, 1) := by decide +kernel
theorem dX1_run_197 : decode cX1_run 197 = .ok (.isub, 1) := by decide +kernel
theorem dX1_run_198 : decode cX1_run 198 = .ok (.iload 8, 2) := by decide +kernel
theorem dX1_run_200 : decode cX1_run 200 = .ok (.aload_n 0, 1) := by decide +kernel
theorem dX1_run_201 : decode cX1_run 201 = .ok (.getfield 23, 3) := by decide +kernel
theorem dX1_run_204 : decode cX1_run 204 = .ok (.iload 6, 2) := by decide +kernel
theorem dX1_run_206 : decode cX1_run 206 = .ok (.iconst 1, 1) := by decide +kernel
theorem dX1_run_207 : decode cX1_run 207 = .ok (.isub, 1) := by decide +kernel
theorem dX1_run_208 : decode cX1_run 208 = .ok (.iaload, 1) := by decide +kernel
theorem dX1_run_209 : decode cX1_run 209 = .ok (.aload_n 0, 1) := by decide +kernel
theorem dX1_run_210 : decode cX1_run 210 = .ok (.getfield 23, 3) := by decide +kernel
theorem dX1_run_213 : decode cX1_run 213 = .ok (.iload 6, 2) := by decide +kernel
theorem dX1_run_215 : decode cX1_run 215 = .ok (.iaload, 1) := by decide +kernel
theorem dX1_run_216 : decode cX1_run 216 = .ok (.invokestatic 71, 3) := by decide +kernel
theorem dX1_run_219 : decode cX1_run 219 = .ok (.iastore, 1) := by decide +kernel
theorem dX1_run_220 : decode cX1_run 220 = .ok (.iinc 7 1, 3) := by decide +kernel
theorem dX1_run_223 : decode cX1_run 223 = .ok (.goto (-216), 3) := by decide +kernel
theorem dX1_run_226 : decode cX1_run 226 = .ok (.iload 6, 2) := by decide +kernel
theorem dX1_run_228 : decode cX1_run 228 = .ok (.ifCond .le 12, 3) := by decide +kernel
theorem dX1_run_231 : decode cX1_run 231 = .ok (.aload_n 0, 1) := by decide +kernel
theorem dX1_run_232 : decode cX1_run 232 = .ok (.getfield 23, 3) := by decide +kernel
theorem dX1_run_235 : decode cX1_run 235 = .ok (.iconst 0, 1) := by decide +kernel
theorem dX1_run_236 : decode cX1_run 236 = .ok (.iaload, 1) := by decide +kernel
theorem dX1_run_237 : decode cX1_run 237 = .ok (.goto 4, 3) := by decide +kernel
theorem dX1_run_240 : decode cX1_run 240 = .ok (.iconst 0, 1) := by decide +kernel
theorem dX1_run_241 : decode cX1_run 241 = .ok (.ireturn, 1) := by decide +kernel
theorem dX1_quotient_0 : decode cX1_quotient 0 = .ok (.iload_n 1, 1) := by decide +kernel
theorem dX1_quotient_1 : decode cX1_quotient 1 = .ok (.ifCond .ne 7, 3) := by decide +kernel
theorem dX1_quotient_4 : decode cX1_quotient 4 = .ok (.iconst 0, 1) := by decide +kernel
theorem dX1_quotient_5 : decode cX1_quotient 5 = .ok (.goto 6, 3) := by decide +kernel
theorem dX1_quotient_8 : decode cX1_quotient 8 = .ok (.iload_n 0, 1) := by decide +kernel
theorem dX1_quotient_9 : decode cX1_quotient 9 = .ok (.iload_n 1, 1) := by decide +kernel
theorem dX1_quotient_10 : decode cX1_quotient 10 = .ok (.idiv, 1) := by decide +kernel
theorem dX1_quotient_11 : decode cX1_quotient 11 = .ok (.ireturn, 1) := by decide +kernel
theorem dX1_joined_0 : decode cX1_joined 0 = .ok (.iload_n 0, 1) := by decide +kernel
theorem dX1_joined_1 : decode cX1_joined 1 = .ok (.lookupswitch 116 #[(5, 112), (42, 75), (43, 67), (45, 71), (60, 79), (61, 90), (62, 101)], 67) := by decide +kernel
theorem dX1_joined_68 : decode cX1_joined 68 = .ok (.iload_n 1, 1) := by decide +kernel
theorem dX1_joined_69 : decode cX1_joined 69 = .ok (.iload_n 2, 1) := by decide +kernel
theorem dX1_joined_70 : decode cX1_joined 70 = .ok (.iadd, 1) := by decide +kernel
theorem dX1_joined_71 : decode cX1_joined 71 = .ok (.ireturn, 1) := by decide +kernel
theorem dX1_joined_72 : decode cX1_joined 72 = .ok (.iload_n 1, 1) := by decide +kernel
theorem dX1_joined_73 : decode cX1_joined 73 = .ok (.iload_n 2, 1) := by decide +kernel
theorem dX1_joined_74 : decode cX1_joined 74 = .ok (.isub, 1) := by decide +kernel
theorem dX1_joined_75 : decode cX1_joined 75 = .ok (.ireturn, 1) := by decide +kernel
theorem dX1_joined_76 : decode cX1_joined 76 = .ok (.iload_n 1, 1) := by decide +kernel
theorem dX1_joined_77 : decode cX1_joined 77 = .ok (.iload_n 2, 1) := by decide +kernel
theorem dX1_joined_78 : decode cX1_joined 78 = .ok (.imul, 1) := by decide +kernel
theorem dX1_joined_79 : decode cX1_joined 79 = .ok (.ireturn, 1) := by decide +kernel
theorem dX1_joined_80 : decode cX1_joined 80 = .ok (.iload_n 1, 1) := by decide +kernel
theorem dX1_joined_81 : decode cX1_joined 81 = .ok (.iload_n 2, 1) := by decide +kernel
theorem dX1_joined_82 : decode cX1_joined 82 = .ok (.if_icmp .ge 7, 3) := by decide +kernel
theorem dX1_joined_85 : decode cX1_joined 85 = .ok (.iconst 1, 1) := by decide +kernel
theorem dX1_joined_86 : decode cX1_joined 86 = .ok (.goto 4, 3) := by decide +kernel
theorem dX1_joined_89 : decode cX1_joined 89 = .ok (.iconst 0, 1) := by decide +kernel
theorem dX1_joined_90 : decode cX1_joined 90 = .ok (.ireturn, 1) := by decide +kernel
theorem dX1_joined_91 : decode cX1_joined 91 = .ok (.iload_n 1, 1) := by decide +kernel
theorem dX1_joined_92 : decode cX1_joined 92 = .ok (.iload_n 2, 1) := by decide +kernel
theorem dX1_joined_93 : decode cX1_joined 93 = .ok (.if_icmp .ne 7, 3) := by decide +kernel
theorem dX1_joined_96 : decode cX1_joined 96 = .ok (.iconst 1, 1) := by decide +kernel
theorem dX1_joined_97 : decode cX1_joined 97 = .ok (.goto 4, 3) := by decide +kernel
theorem dX1_joined_100 : decode cX1_joined 100 = .ok (.iconst 0, 1) := by decide +kernel
theorem dX1_joined_101 : decode cX1_joined 101 = .ok (.ireturn, 1) := by decide +kernel
theorem dX1_joined_102 : decode cX1_joined 102 = .ok (.iload_n 1, 1) := by decide +kernel
theorem dX1_joined_103 : decode cX1_joined 103 = .ok (.iload_n 2, 1) := by decide +kernel
theorem dX1_joined_104 : decode cX1_joined 104 = .ok (.if_icmp .le 7, 3) := by decide +kernel
theorem dX1_joined_107 : decode cX1_joined 107 = .ok (.iconst 1, 1) := by decide +kernel
theorem dX1_joined_108 : decode cX1_joined 108 = .ok (.goto 4, 3) := by decide +kernel
theorem dX1_joined_111 : decode cX1_joined 111 = .ok (.iconst 0, 1) := by decide +kernel
theorem dX1_joined_112 : decode cX1_joined 112 = .ok (.ireturn, 1) := by decide +kernel
theorem dX1_joined_113 : decode cX1_joined 113 = .ok (.iload_n 1, 1) := by decide +kernel
theorem dX1_joined_114 : decode cX1_joined 114 = .ok (.iload_n 2, 1) := by decide +kernel
theorem dX1_joined_115 : decode cX1_joined 115 = .ok (.iand, 1) := by decide +kernel
theorem dX1_joined_116 : decode cX1_joined 116 = .ok (.ireturn, 1) := by decide +kernel
theorem dX1_joined_117 : decode cX1_joined 117 = .ok (.iload_n 1, 1) := by decide +kernel
theorem dX1_joined_118 : decode cX1_joined 118 = .ok (.iload_n 2, 1) := by decide +kernel
theorem dX1_joined_119 : decode cX1_joined 119 = .ok (.ior, 1) := by decide +kernel
theorem dX1_joined_120 : decode cX1_joined 120 = .ok (.ireturn, 1) := by decide +kernel
theorem dX2_word_0 : decode cX2_word 0 = .ok (.iload_n 0, 1) := by decide +kernel
theorem dX2_word_1 : decode cX2_word 1 = .ok (.sipush 216, 3) := by decide +kernel
theorem dX2_word_4 : decode cX2_word 4 = .ok (.idiv, 1) := by decide +kernel
theorem dX2_word_5 : decode cX2_word 5 = .ok (.bipush 6, 2) := by decide +kernel
theorem dX2_word_7 : decode cX2_word 7 = .ok (.irem, 1) := by decide +kernel
theorem dX2_word_8 : decode cX2_word 8 = .ok (.sipush 1000, 3) := by decide +kernel
theorem dX2_word_11 : decode cX2_word 11 = .ok (.imul, 1) := by decide +kernel
theorem dX2_word_12 : decode cX2_word 12 = .ok (.iload_n 0, 1) := by decide +kernel
theorem dX2_word_13 : decode cX2_word 13 = .ok (.bipush 36, 2) := by decide +kernel
theorem dX2_word_15 : decode cX2_word 15 = .ok (.idiv, 1) := by decide +kernel
theorem dX2_word_16 : decode cX2_word 16 = .ok (.bipush 6, 2) := by decide +kernel
theorem dX2_word_18 : decode cX2_word 18 = .ok (.irem, 1) := by decide +kernel
theorem dX2_word_19 : decode cX2_word 19 = .ok (.bipush 100, 2) := by decide +kernel
theorem dX2_word_21 : decode cX2_word 21 = .ok (.imul, 1) := by decide +kernel
theorem dX2_word_22 : decode cX2_word 22 = .ok (.iadd, 1) := by decide +kernel
theorem dX2_word_23 : decode cX2_word 23 = .ok (.iload_n 0, 1) := by decide +kernel
theorem dX2_word_24 : decode cX2_word 24 = .ok (.bipush 6, 2) := by decide +kernel
theorem dX2_word_26 : decode cX2_word 26 = .ok (.idiv, 1) := by decide +kernel
theorem dX2_word_27 : decode cX2_word 27 = .ok (.bipush 6, 2) := by decide +kernel
theorem dX2_word_29 : decode cX2_word 29 = .ok (.irem, 1) := by decide +kernel
theorem dX2_word_30 : decode cX2_word 30 = .ok (.bipush 10, 2) := by decide +kernel
theorem dX2_word_32 : decode cX2_word 32 = .ok (.imul, 1) := by decide +kernel
theorem dX2_word_33 : decode cX2_word 33 = .ok (.iadd, 1) := by decide +kernel
theorem dX2_word_34 : decode cX2_word 34 = .ok (.iload_n 0, 1) := by decide +kernel
theorem dX2_word_35 : decode cX2_word 35 = .ok (.bipush 6, 2) := by decide +kernel
theorem dX2_word_37 : decode cX2_word 37 = .ok (.irem, 1) := by decide +kernel
theorem dX2_word_38 : decode cX2_word 38 = .ok (.iadd, 1) := by decide +kernel
theorem dX2_word_39 : decode cX2_word 39 = .ok (.ireturn, 1) := by decide +kernel
theorem dX2_isWord_0 : decode cX2_isWord 0 = .ok (.iload_n 0, 1) := by decide +kernel
theorem dX2_isWord_1 : decode cX2_isWord 1 = .ok (.ifCond .lt 47, 3) := by decide +kernel
theorem dX2_isWord_4 : decode cX2_isWord 4 = .ok (.iload_n 0, 1) := by decide +kernel
theorem dX2_isWord_5 : decode cX2_isWord 5 = .ok (.sipush 5555, 3) := by decide +kernel
theorem dX2_isWord_8 : decode cX2_isWord 8 = .ok (.if_icmp .gt 40, 3) := by decide +kernel
theorem dX2_isWord_11 : decode cX2_isWord 11 = .ok (.iload_n 0, 1) := by decide +kernel
theorem dX2_isWord_12 : decode cX2_isWord 12 = .ok (.bipush 10, 2) := by decide +kernel
theorem dX2_isWord_14 : decode cX2_isWord 14 = .ok (.irem, 1) := by decide +kernel
theorem dX2_isWord_15 : decode cX2_isWord 15 = .ok (.bipush 6, 2) := by decide +kernel
theorem dX2_isWord_17 : decode cX2_isWord 17 = .ok (.if_icmp .ge 31, 3) := by decide +kernel
theorem dX2_isWord_20 : decode cX2_isWord 20 = .ok (.iload_n 0, 1) := by decide +kernel
theorem dX2_isWord_21 : decode cX2_isWord 21 = .ok (.bipush 10, 2) := by decide +kernel
theorem dX2_isWord_23 : decode cX2_isWord 23 = .ok (.idiv, 1) := by decide +kernel
theorem dX2_isWord_24 : decode cX2_isWord 24 = .ok (.bipush 10, 2) := by decide +kernel
theorem dX2_isWord_26 : decode cX2_isWord 26 = .ok (.irem, 1) := by decide +kernel
theorem dX2_isWord_27 : decode cX2_isWord 27 = .ok (.bipush 6, 2) := by decide +kernel
theorem dX2_isWord_29 : decode cX2_isWord 29 = .ok (.if_icmp .ge 19, 3) := by decide +kernel
theorem dX2_isWord_32 : decode cX2_isWord 32 = .ok (.iload_n 0, 1) := by decide +kernel
theorem dX2_isWord_33 : decode cX2_isWord 33 = .ok (.bipush 100, 2) := by decide +kernel
theorem dX2_isWord_35 : decode cX2_isWord 35 = .ok (.idiv, 1) := by decide +kernel
theorem dX2_isWord_36 : decode cX2_isWord 36 = .ok (.bipush 10, 2) := by decide +kernel
theorem dX2_isWord_38 : decode cX2_isWord 38 = .ok (.irem, 1) := by decide +kernel
theorem dX2_isWord_39 : decode cX2_isWord 39 = .ok (.bipush 6, 2) := by decide +kernel
theorem dX2_isWord_41 : decode cX2_isWord 41 = .ok (.if_icmp .ge 7, 3) := by decide +kernel
theorem dX2_isWord_44 : decode cX2_isWord 44 = .ok (.iconst 1, 1) := by decide +kernel
theorem dX2_isWord_45 : decode cX2_isWord 45 = .ok (.goto 4, 3) := by decide +kernel
theorem dX2_isWord_48 : decode cX2_isWord 48 = .ok (.iconst 0, 1) := by decide +kernel
theorem dX2_isWord_49 : decode cX2_isWord 49 = .ok (.ireturn, 1) := by decide +kernel
theorem dX2_fits_0 : decode cX2_fits 0 = .ok (.iconst 0, 1) := by decide +kernel
theorem dX2_fits_1 : decode cX2_fits 1 = .ok (.istore_n 2, 1) := by decide +kernel
theorem dX2_fits_2 : decode cX2_fits 2 = .ok (.iload_n 2, 1) := by decide +kernel
theorem dX2_fits_3 : decode cX2_fits 3 = .ok (.aload_n 0, 1) := by decide +kernel
theorem dX2_fits_4 : decode cX2_fits 4 = .ok (.getfield 9, 3) := by decide +kernel
theorem dX2_fits_7 : decode cX2_fits 7 = .ok (.if_icmp .ge 53, 3) := by decide +kernel
theorem dX2_fits_10 : decode cX2_fits 10 = .ok (.aload_n 0, 1) := by decide +kernel
theorem dX2_fits_11 : decode cX2_fits 11 = .ok (.iload_n 2, 1) := by decide +kernel
theorem dX2_fits_12 : decode cX2_fits 12 = .ok (.iconst 0, 1) := by decide +kernel
theorem dX2_fits_13 : decode cX2_fits 13 = .ok (.invokevirtual 15, 3) := by decide +kernel
theorem dX2_fits_16 : decode cX2_fits 16 = .ok (.istore_n 3, 1) := by decide +kernel
theorem dX2_fits_17 : decode cX2_fits 17 = .ok (.iload_n 3, 1) := by decide +kernel
theorem dX2_fits_18 : decode cX2_fits 18 = .ok (.iload_n 1, 1) := by decide +kernel
theorem dX2_fits_19 : decode cX2_fits 19 = .ok (.invokestatic 19, 3) := by decide +kernel
theorem dX2_fits_22 : decode cX2_fits 22 = .ok (.istore 4, 2) := by decide +kernel
theorem dX2_fits_24 : decode cX2_fits 24 = .ok (.iload 4, 2) := by decide +kernel
theorem dX2_fits_26 : decode cX2_fits 26 = .ok (.aload_n 0, 1) := by decide +kernel
theorem dX2_fits_27 : decode cX2_fits 27 = .ok (.iload_n 2, 1) := by decide +kernel
theorem dX2_fits_28 : decode cX2_fits 28 = .ok (.iconst 1, 1) := by decide +kernel
theorem dX2_fits_29 : decode cX2_fits 29 = .ok (.invokevirtual 15, 3) := by decide +kernel
theorem dX2_fits_32 : decode cX2_fits 32 = .ok (.if_icmp .ne 20, 3) := by decide +kernel
theorem dX2_fits_35 : decode cX2_fits 35 = .ok (.iload_n 3, 1) := by decide +kernel
theorem dX2_fits_36 : decode cX2_fits 36 = .ok (.iload_n 1, 1) := by decide +kernel
theorem dX2_fits_37 : decode cX2_fits 37 = .ok (.invokestatic 24, 3) := by decide +kernel
theorem dX2_fits_40 : decode cX2_fits 40 = .ok (.iload 4, 2) := by decide +kernel
theorem dX2_fits_42 : decode cX2_fits 42 = .ok (.isub, 1) := by decide +kernel
theorem dX2_fits_43 : decode cX2_fits 43 = .ok (.aload_n 0, 1) := by decide +kernel
theorem dX2_fits_44 : decode cX2_fits 44 = .ok (.iload_n 2, 1) := by decide +kernel
theorem dX2_fits_45 : decode cX2_fits 45 = .ok (.iconst 2, 1) := by decide +kernel
theorem dX2_fits_46 : decode cX2_fits 46 = .ok (.invokevirtual 15, 3) := by decide +kernel
theorem dX2_fits_49 : decode cX2_fits 49 = .ok (.if_icmp .eq 5, 3) := by decide +kernel
theorem dX2_fits_52 : decode cX2_fits 52 = .ok (.iconst 0, 1) := by decide +kernel
theorem dX2_fits_53 : decode cX2_fits 53 = .ok (.ireturn, 1) := by decide +kernel
theorem dX2_fits_54 : decode cX2_fits 54 = .ok (.iinc 2 1, 3) := by decide +kernel
theorem dX2_fits_57 : decode cX2_fits 57 = .ok (.goto (-55), 3) := by decide +kernel
theorem dX2_fits_60 : decode cX2_fits 60 = .ok (.iconst 1, 1) := by decide +kernel
theorem dX2_fits_61 : decode cX2_fits 61 = .ok (.ireturn, 1) := by decide +kernel
theorem dX2_right_0 : decode cX2_right 0 = .ok (.iconst 0, 1) := by decide +kernel
theorem dX2_right_1 : decode cX2_right 1 = .ok (.istore_n 2, 1) := by decide +kernel
theorem dX2_right_2 : decode cX2_right 2 = .ok (.iconst 1, 1) := by decide +kernel
theorem dX2_right_3 : decode cX2_right 3 = .ok (.istore_n 3, 1) := by decide +kernel
theorem dX2_right_4 : decode cX2_right 4 = .ok (.iload_n 3, 1) := by decide +kernel
theorem dX2_right_5 : decode cX2_right 5 = .ok (.sipush 1000, 3) := by decide +kernel
theorem dX2_right_8 : decode cX2_right 8 = .ok (.if_icmp .gt 34, 3) := by decide +kernel
theorem dX2_right_11 : decode cX2_right 11 = .ok (.iload_n 2, 1) := by decide +kernel
theorem dX2_right_12 : decode cX2_right 12 = .ok (.iload_n 0, 1) := by decide +kernel
theorem dX2_right_13 : decode cX2_right 13 = .ok (.iload_n 3, 1) := by decide +kernel
theorem dX2_right_14 : decode cX2_right 14 = .ok (.idiv, 1) := by decide +kernel
theorem dX2_right_15 : decode cX2_right 15 = .ok (.bipush 10, 2) := by decide +kernel
theorem dX2_right_17 : decode cX2_right 17 = .ok (.irem, 1) := by decide +kernel
theorem dX2_right_18 : decode cX2_right 18 = .ok (.iload_n 1, 1) := by decide +kernel
theorem dX2_right_19 : decode cX2_right 19 = .ok (.iload_n 3, 1) := by decide +kernel
theorem dX2_right_20 : decode cX2_right 20 = .ok (.idiv, 1) := by decide +kernel
theorem dX2_right_21 : decode cX2_right 21 = .ok (.bipush 10, 2) := by decide +kernel
theorem dX2_right_23 : decode cX2_right 23 = .ok (.irem, 1) := by decide +kernel
theorem dX2_right_24 : decode cX2_right 24 = .ok (.if_icmp .ne 7, 3) := by decide +kernel
theorem dX2_right_27 : decode cX2_right 27 = .ok (.iconst 1, 1) := by decide +kernel
theorem dX2_right_28 : decode cX2_right 28 = .ok (.goto 4, 3) := by decide +kernel
theorem dX2_right_31 : decode cX2_right 31 = .ok (.iconst 0, 1) := by decide +kernel
theorem dX2_right_32 : decode cX2_right 32 = .ok (.iadd, 1) := by decide +kernel
theorem dX2_right_33 : decode cX2_right 33 = .ok (.istore_n 2, 1) := by decide +kernel
theorem dX2_right_34 : decode cX2_right 34 = .ok (.iload_n 3, 1) := by decide +kernel
theorem dX2_right_35 : decode cX2_right 35 = .ok (.bipush 10, 2) := by decide +kernel
theorem dX2_right_37 : decode cX2_right 37 = .ok (.imul, 1) := by decide +kernel
theorem dX2_right_38 : decode cX2_right 38 = .ok (.istore_n 3, 1) := by decide +kernel
theorem dX2_right_39 : decode cX2_right 39 = .ok (.goto (-35), 3) := by decide +kernel
theorem dX2_right_42 : decode cX2_right 42 = .ok (.iload_n 2, 1) := by decide +kernel
theorem dX2_right_43 : decode cX2_right 43 = .ok (.ireturn, 1) := by decide +kernel
theorem dX2_common_0 : decode cX2_common 0 = .ok (.iconst 0, 1) := by decide +kernel
theorem dX2_common_1 : decode cX2_common 1 = .ok (.istore_n 2, 1) := by decide +kernel
theorem dX2_common_2 : decode cX2_common 2 = .ok (.iconst 0, 1) := by decide +kernel
theorem dX2_common_3 : decode cX2_common 3 = .ok (.istore_n 3, 1) := by decide +kernel
theorem dX2_common_4 : decode cX2_common 4 = .ok (.iload_n 3, 1) := by decide +kernel
theorem dX2_common_5 : decode cX2_common 5 = .ok (.bipush 6, 2) := by decide +kernel
theorem dX2_common_7 : decode cX2_common 7 = .ok (.if_icmp .ge 25, 3) := by decide +kernel
theorem dX2_common_10 : decode cX2_common 10 = .ok (.iload_n 2, 1) := by decide +kernel
theorem dX2_common_11 : decode cX2_common 11 = .ok (.iload_n 3, 1) := by decide +kernel
theorem dX2_common_12 : decode cX2_common 12 = .ok (.iload_n 0, 1) := by decide +kernel
theorem dX2_common_13 : decode cX2_common 13 = .ok (.invokestatic 27, 3) := by decide +kernel
theorem dX2_common_16 : decode cX2_common 16 = .ok (.iload_n 3, 1) := by decide +kernel
theorem dX2_common_17 : decode cX2_common 17 = .ok (.iload_n 1, 1) := by decide +kernel
theorem dX2_common_18 : decode cX2_common 18 = .ok (.invokestatic 27, 3) := by decide +kernel
theorem dX2_common_21 : decode cX2_common 21 = .ok (.invokestatic 30, 3) := by decide +kernel
theorem dX2_common_24 : decode cX2_common 24 = .ok (.iadd, 1) := by decide +kernel
theorem dX2_common_25 : decode cX2_common 25 = .ok (.istore_n 2, 1) := by decide +kernel
theorem dX2_common_26 : decode cX2_common 26 = .ok (.iinc 3 1, 3) := by decide +kernel
theorem dX2_common_29 : decode cX2_common 29 = .ok (.goto (-25), 3) := by decide +kernel
theorem dX2_common_32 : decode cX2_common 32 = .ok (.iload_n 2, 1) := by decide +kernel
theorem dX2_common_33 : decode cX2_common 33 = .ok (.ireturn, 1) := by decide +kernel
theorem dX2_times_0 : decode cX2_times 0 = .ok (.iconst 0, 1) := by decide +kernel
theorem dX2_times_1 : decode cX2_times 1 = .ok (.istore_n 2, 1) := by decide +kernel
theorem dX2_times_2 : decode cX2_times 2 = .ok (.iconst 1, 1) := by decide +kernel
theorem dX2_times_3 : decode cX2_times 3 = .ok (.istore_n 3, 1) := by decide +kernel
theorem dX2_times_4 : decode cX2_times 4 = .ok (.iload_n 3, 1) := by decide +kernel
theorem dX2_times_5 : decode cX2_times 5 = .ok (.sipush 1000, 3) := by decide +kernel
theorem dX2_times_8 : decode cX2_times 8 = .ok (.if_icmp .gt 29, 3) := by decide +kernel
theorem dX2_times_11 : decode cX2_times 11 = .ok (.iload_n 2, 1) := by decide +kernel
theorem dX2_times_12 : decode cX2_times 12 = .ok (.iload_n 1, 1) := by decide +kernel
theorem dX2_times_13 : decode cX2_times 13 = .ok (.iload_n 3, 1) := by decide +kernel
theorem dX2_times_14 : decode cX2_times 14 = .ok (.idiv, 1) := by decide +kernel
theorem dX2_times_15 : decode cX2_times 15 = .ok (.bipush 10, 2) := by decide +kernel
theorem dX2_times_17 : decode cX2_times 17 = .ok (.irem, 1) := by decide +kernel
theorem dX2_times_18 : decode cX2_times 18 = .ok (.iload_n 0, 1) := by decide +kernel
theorem dX2_times_19 : decode cX2_times 19 = .ok (.if_icmp .ne 7, 3) := by decide +kernel
theorem dX2_times_22 : decode cX2_times 22 = .ok (.iconst 1, 1) := by decide +kernel
theorem dX2_times_23 : decode cX2_times 23 = .ok (.goto 4, 3) := by decide +kernel
theorem dX2_times_26 : decode cX2_times 26 = .ok (.iconst 0, 1) := by decide +kernel
theorem dX2_times_27 : decode cX2_times 27 = .ok (.iadd, 1) := by decide +kernel
theorem dX2_times_28 : decode cX2_times 28 = .ok (.istore_n 2, 1) := by decide +kernel
theorem dX2_times_29 : decode cX2_times 29 = .ok (.iload_n 3, 1) := by decide +kernel
theorem dX2_times_30 : decode cX2_times 30 = .ok (.bipush 10, 2) := by decide +kernel
theorem dX2_times_32 : decode cX2_times 32 = .ok (.imul, 1) := by decide +kernel
theorem dX2_times_33 : decode cX2_times 33 = .ok (.istore_n 3, 1) := by decide +kernel
theorem dX2_times_34 : decode cX2_times 34 = .ok (.goto (-30), 3) := by decide +kernel
theorem dX2_times_37 : decode cX2_times 37 = .ok (.iload_n 2, 1) := by decide +kernel
theorem dX2_times_38 : decode cX2_times 38 = .ok (.ireturn, 1) := by decide +kernel
theorem dX2_byRails_0 : decode cX2_byRails 0 = .ok (.iconst 0, 1) := by decide +kernel
theorem dX2_byRails_1 : decode cX2_byRails 1 = .ok (.istore_n 3, 1) := by decide +kernel
theorem dX2_byRails_2 : decode cX2_byRails 2 = .ok (.iconst 0, 1) := by decide +kernel
theorem dX2_byRails_3 : decode cX2_byRails 3 = .ok (.istore 4, 2) := by decide +kernel
theorem dX2_byRails_5 : decode cX2_byRails 5 = .ok (.iload 4, 2) := by decide +kernel
theorem dX2_byRails_7 : decode cX2_byRails 7 = .ok (.iload_n 1, 1) := by decide +kernel
theorem dX2_byRails_8 : decode cX2_byRails 8 = .ok (.if_icmp .ge 46, 3) := by decide +kernel
theorem dX2_byRails_11 : decode cX2_byRails 11 = .ok (.iconst 0, 1) := by decide +kernel
theorem dX2_byRails_12 : decode cX2_byRails 12 = .ok (.istore 5, 2) := by decide +kernel
theorem dX2_byRails_14 : decode cX2_byRails 14 = .ok (.iload 5, 2) := by decide +kernel
theorem dX2_byRails_16 : decode cX2_byRails 16 = .ok (.iload_n 0, 1) := by decide +kernel
theorem dX2_byRails_17 : decode cX2_byRails 17 = .ok (.if_icmp .ge 31, 3) := by decide +kernel
theorem dX2_byRails_20 : decode cX2_byRails 20 = .ok (.iload 5, 2) := by decide +kernel
theorem dX2_byRails_22 : decode cX2_byRails 22 = .ok (.iload_n 1, 1) := by decide +kernel
theorem dX2_byRails_23 : decode cX2_byRails 23 = .ok (.invokestatic 35, 3) := by decide +kernel
theorem dX2_byRails_26 : decode cX2_byRails 26 = .ok (.iload 4, 2) := by decide +kernel
theorem dX2_byRails_28 : decode cX2_byRails 28 = .ok (.if_icmp .ne 14, 3) := by decide +kernel
theorem dX2_byRails_31 : decode cX2_byRails 31 = .ok (.iload_n 3, 1) := by decide +kernel
theorem dX2_byRails_32 : decode cX2_byRails 32 = .ok (.iload_n 2, 1) := by decide +kernel
theorem dX2_byRails_33 : decode cX2_byRails 33 = .ok (.if_icmp .ne 6, 3) := by decide +kernel
theorem dX2_byRails_36 : decode cX2_byRails 36 = .ok (.iload 5, 2) := by decide +kernel
theorem dX2_byRails_38 : decode cX2_byRails 38 = .ok (.ireturn, 1) := by decide +kernel
theorem dX2_byRails_39 : decode cX2_byRails 39 = .ok (.iinc 3 1, 3) := by decide +kernel
theorem dX2_byRails_42 : decode cX2_byRails 42 = .ok (.iinc 5 1, 3) := by decide +kernel
theorem dX2_byRails_45 : decode cX2_byRails 45 = .ok (.goto (-31), 3) := by decide +kernel
theorem dX2_byRails_48 : decode cX2_byRails 48 = .ok (.iinc 4 1, 3) := by decide +kernel
theorem dX2_byRails_51 : decode cX2_byRails 51 = .ok (.goto (-46), 3) := by decide +kernel
theorem dX2_byRails_54 : decode cX2_byRails 54 = .ok (.iconst (-1), 1) := by decide +kernel
theorem dX2_byRails_55 : decode cX2_byRails 55 = .ok (.ireturn, 1) := by decide +kernel
theorem dX2_rail_0 : decode cX2_rail 0 = .ok (.iconst 2, 1) := by decide +kernel
theorem dX2_rail_1 : decode cX2_rail 1 = .ok (.iload_n 1, 1) := by decide +kernel
theorem dX2_rail_2 : decode cX2_rail 2 = .ok (.iconst 1, 1) := by decide +kernel
theorem dX2_rail_3 : decode cX2_rail 3 = .ok (.isub, 1) := by decide +kernel
theorem dX2_rail_4 : decode cX2_rail 4 = .ok (.imul, 1) := by decide +kernel
theorem dX2_rail_5 : decode cX2_rail 5 = .ok (.istore_n 2, 1) := by decide +kernel
theorem dX2_rail_6 : decode cX2_rail 6 = .ok (.iload_n 2, 1) := by decide +kernel
theorem dX2_rail_7 : decode cX2_rail 7 = .ok (.iconst 1, 1) := by decide +kernel
theorem dX2_rail_8 : decode cX2_rail 8 = .ok (.if_icmp .ge 5, 3) := by decide +kernel
theorem dX2_rail_11 : decode cX2_rail 11 = .ok (.iconst 0, 1) := by decide +kernel
theorem dX2_rail_12 : decode cX2_rail 12 = .ok (.ireturn, 1) := by decide +kernel
theorem dX2_rail_13 : decode cX2_rail 13 = .ok (.iload_n 0, 1) := by decide +kernel
theorem dX2_rail_14 : decode cX2_rail 14 = .ok (.iload_n 2, 1) := by decide +kernel
theorem dX2_rail_15 : decode cX2_rail 15 = .ok (.irem, 1) := by decide +kernel
theorem dX2_rail_16 : decode cX2_rail 16 = .ok (.istore_n 3, 1) := by decide +kernel
theorem dX2_rail_17 : decode cX2_rail 17 = .ok (.iload_n 3, 1) := by decide +kernel
theorem dX2_rail_18 : decode cX2_rail 18 = .ok (.iload_n 1, 1) := by decide +kernel
theorem dX2_rail_19 : decode cX2_rail 19 = .ok (.if_icmp .ge 7, 3) := by decide +kernel
theorem dX2_rail_22 : decode cX2_rail 22 = .ok (.iload_n 3, 1) := by decide +kernel
theorem dX2_rail_23 : decode cX2_rail 23 = .ok (.goto 6, 3) := by decide +kernel
theorem dX2_rail_26 : decode cX2_rail 26 = .ok (.iload_n 2, 1) := by decide +kernel
theorem dX2_rail_27 : decode cX2_rail 27 = .ok (.iload_n 3, 1) := by decide +kernel
theorem dX2_rail_28 : decode cX2_rail 28 = .ok (.isub, 1) := by decide +kernel
theorem dX2_rail_29 : decode cX2_rail 29 = .ok (.ireturn, 1) := by decide +kernel
theorem dX2_pieces_0 : decode cX2_pieces 0 = .ok (.bipush 16, 2) := by decide +kernel
theorem dX2_pieces_2 : decode cX2_pieces 2 = .ok (.newarray .int, 2) := by decide +kernel
theorem dX2_pieces_4 : decode cX2_pieces 4 = .ok (.astore_n 1, 1) := by decide +kernel
theorem dX2_pieces_5 : decode cX2_pieces 5 = .ok (.iconst 0, 1) := by decide +kernel
theorem dX2_pieces_6 : decode cX2_pieces 6 = .ok (.istore_n 2, 1) := by decide +kernel
theorem dX2_pieces_7 : decode cX2_pieces 7 = .ok (.iconst 1, 1) := by decide +kernel
theorem dX2_pieces_8 : decode cX2_pieces 8 = .ok (.istore_n 3, 1) := by decide +kernel
theorem dX2_pieces_9 : decode cX2_pieces 9 = .ok (.iconst 0, 1) := by decide +kernel
theorem dX2_pieces_10 : decode cX2_pieces 10 = .ok (.istore 4, 2) := by decide +kernel
theorem dX2_pieces_12 : decode cX2_pieces 12 = .ok (.iload 4, 2) := by decide +kernel
theorem dX2_pieces_14 : decode cX2_pieces 14 = .ok (.aload_n 0, 1) := by decide +kernel
theorem dX2_pieces_15 : decode cX2_pieces 15 = .ok (.getfield 9, 3) := by decide +kernel
theorem dX2_pieces_18 : decode cX2_pieces 18 = .ok (.if_icmp .ge 45, 3) := by decide +kernel
theorem dX2_pieces_21 : decode cX2_pieces 21 = .ok (.iload_n 3, 1) := by decide +kernel
theorem dX2_pieces_22 : decode cX2_pieces 22 = .ok (.iconst 2, 1) := by decide +kernel
theorem dX2_pieces_23 : decode cX2_pieces 23 = .ok (.imul, 1) := by decide +kernel
theorem dX2_pieces_24 : decode cX2_pieces 24 = .ok (.aload_n 0, 1) := by decide +kernel
theorem dX2_pieces_25 : decode cX2_pieces 25 = .ok (.iload 4, 2) := by decide +kernel
theorem dX2_pieces_27 : decode cX2_pieces 27 = .ok (.iconst 0, 1) := by decide +kernel
theorem dX2_pieces_28 : decode cX2_pieces 28 = .ok (.invokevirtual 15, 3) := by decide +kernel
theorem dX2_pieces_31 : decode cX2_pieces 31 = .ok (.iadd, 1) := by decide +kernel
theorem dX2_pieces_32 : decode cX2_pieces 32 = .ok (.istore_n 3, 1) := by decide +kernel
theorem dX2_pieces_33 : decode cX2_pieces 33 = .ok (.aload_n 1, 1) := by decide +kernel
theorem dX2_pieces_34 : decode cX2_pieces 34 = .ok (.iload_n 2, 1) := by decide +kernel
theorem dX2_pieces_35 : decode cX2_pieces 35 = .ok (.iload_n 3, 1) := by decide +kernel
theorem dX2_pieces_36 : decode cX2_pieces 36 = .ok (.invokestatic 38, 3) := by decide +kernel
theorem dX2_pieces_39 : decode cX2_pieces 39 = .ok (.ifCond .ne 18, 3) := by decide +kernel
theorem dX2_pieces_42 : decode cX2_pieces 42 = .ok (.iload_n 2, 1) := by decide +kernel
theorem dX2_pieces_43 : decode cX2_pieces 43 = .ok (.bipush 16, 2) := by decide +kernel
theorem dX2_pieces_45 : decode cX2_pieces 45 = .ok (.if_icmp .ge 12, 3) := by decide +kernel
theorem dX2_pieces_48 : decode cX2_pieces 48 = .ok (.aload_n 1, 1) := by decide +kernel
theorem dX2_pieces_49 : decode cX2_pieces 49 = .ok (.iload_n 2, 1) := by decide +kernel
theorem dX2_pieces_50 : decode cX2_pieces 50 = .ok (.iload_n 3, 1) := by decide +kernel
theorem dX2_pieces_51 : decode cX2_pieces 51 = .ok (.iastore, 1) := by decide +kernel
theorem dX2_pieces_52 : decode cX2_pieces 52 = .ok (.iinc 2 1, 3) := by decide +kernel
theorem dX2_pieces_55 : decode cX2_pieces 55 = .ok (.iconst 1, 1) := by decide +kernel
theorem dX2_pieces_56 : decode cX2_pieces 56 = .ok (.istore_n 3, 1) := by decide +kernel
theorem dX2_pieces_57 : decode cX2_pieces 57 = .ok (.iinc 4 1, 3) := by decide +kernel
theorem dX2_pieces_60 : decode cX2_pieces 60 = .ok (.goto (-48), 3) := by decide +kernel
theorem dX2_pieces_63 : decode cX2_pieces 63 = .ok (.iload_n 3, 1) := by decide +kernel
theorem dX2_pieces_64 : decode cX2_pieces 64 = .ok (.iconst 1, 1) := by decide +kernel
theorem dX2_pieces_65 : decode cX2_pieces 65 = .ok (.if_icmp .ne 7, 3) := by decide +kernel
theorem dX2_pieces_68 : decode cX2_pieces 68 = .ok (.iload_n 2, 1) := by decide +kernel
theorem dX2_pieces_69 : decode cX2_pieces 69 = .ok (.goto 6, 3) := by decide +kernel
theorem dX2_pieces_72 : decode cX2_pieces 72 = .ok (.iload_n 2, 1) := by decide +kernel
theorem dX2_pieces_73 : decode cX2_pieces 73 = .ok (.iconst 1, 1) := by decide +kernel
theorem dX2_pieces_74 : decode cX2_pieces 74 = .ok (.iadd, 1) := by decide +kernel
theorem dX2_pieces_75 : decode cX2_pieces 75 = .ok (.ireturn, 1) := by decide +kernel
theorem dX2_stands_0 : decode cX2_stands 0 = .ok (.iconst 0, 1) := by decide +kernel
theorem dX2_stands_1 : decode cX2_stands 1 = .ok (.istore_n 3, 1) := by decide +kernel
theorem dX2_stands_2 : decode cX2_stands 2 = .ok (.iload_n 3, 1) := by decide +kernel
theorem dX2_stands_3 : decode cX2_stands 3 = .ok (.iload_n 1, 1) := by decide +kernel
theorem dX2_stands_4 : decode cX2_stands 4 = .ok (.if_icmp .ge 24, 3) := by decide +kernel
theorem dX2_stands_7 : decode cX2_stands 7 = .ok (.iload_n 3, 1) := by decide +kernel
theorem dX2_stands_8 : decode cX2_stands 8 = .ok (.aload_n 0, 1) := by decide +kernel
theorem dX2_stands_9 : decode cX2_stands 9 = .ok (.arraylength, 1) := by decide +kernel
theorem dX2_stands_10 : decode cX2_stands 10 = .ok (.if_icmp .ge 18, 3) := by decide +kernel
theorem dX2_stands_13 : decode cX2_stands 13 = .ok (.aload_n 0, 1) := by decide +kernel
theorem dX2_stands_14 : decode cX2_stands 14 = .ok (.iload_n 3, 1) := by decide +kernel
theorem dX2_stands_15 : decode cX2_stands 15 = .ok (.iaload, 1) := by decide +kernel
theorem dX2_stands_16 : decode cX2_stands 16 = .ok (.iload_n 2, 1) := by decide +kernel
theorem dX2_stands_17 : decode cX2_stands 17 = .ok (.if_icmp .ne 5, 3) := by decide +kernel
theorem dX2_stands_20 : decode cX2_stands 20 = .ok (.iconst 1, 1) := by decide +kernel
theorem dX2_stands_21 : decode cX2_stands 21 = .ok (.ireturn, 1) := by decide +kernel
theorem dX2_stands_22 : decode cX2_stands 22 = .ok (.iinc 3 1, 3) := by decide +kernel
theorem dX2_stands_25 : decode cX2_stands 25 = .ok (.goto (-23), 3) := by decide +kernel
theorem dX2_stands_28 : decode cX2_stands 28 = .ok (.iconst 0, 1) := by decide +kernel
theorem dX2_stands_29 : decode cX2_stands 29 = .ok (.ireturn, 1) := by decide +kernel
theorem dX2_longestAlike_0 : decode cX2_longestAlike 0 = .ok (.aload_n 0, 1) := by decide +kernel
theorem dX2_longestAlike_1 : decode cX2_longestAlike 1 = .ok (.getfield 9, 3) := by decide +kernel
theorem dX2_longestAlike_4 : decode cX2_longestAlike 4 = .ok (.istore_n 1, 1) := by decide +kernel
theorem dX2_longestAlike_5 : decode cX2_longestAlike 5 = .ok (.iload_n 1, 1) := by decide +kernel
theorem dX2_longestAlike_6 : decode cX2_longestAlike 6 = .ok (.ifCond .le 20, 3) := by decide +kernel
theorem dX2_longestAlike_9 : decode cX2_longestAlike 9 = .ok (.aload_n 0, 1) := by decide +kernel
theorem dX2_longestAlike_10 : decode cX2_longestAlike 10 = .ok (.iload_n 1, 1) := by decide +kernel
theorem dX2_longestAlike_11 : decode cX2_longestAlike 11 = .ok (.invokestatic 42, 3) := by decide +kernel
theorem dX2_longestAlike_14 : decode cX2_longestAlike 14 = .ok (.iconst (-1), 1) := by decide +kernel
theorem dX2_longestAlike_15 : decode cX2_longestAlike 15 = .ok (.if_icmp .eq 5, 3) := by decide +kernel
theorem dX2_longestAlike_18 : decode cX2_longestAlike 18 = .ok (.iload_n 1, 1) := by decide +kernel
theorem dX2_longestAlike_19 : decode cX2_longestAlike 19 = .ok (.ireturn, 1) := by decide +kernel
theorem dX2_longestAlike_20 : decode cX2_longestAlike 20 = .ok (.iinc 1 (-1), 3) := by decide +kernel
theorem dX2_longestAlike_23 : decode cX2_longestAlike 23 = .ok (.goto (-18), 3) := by decide +kernel
theorem dX2_longestAlike_26 : decode cX2_longestAlike 26 = .ok (.iconst 0, 1) := by decide +kernel
theorem dX2_longestAlike_27 : decode cX2_longestAlike 27 = .ok (.ireturn, 1) := by decide +kernel
theorem dX2_firstAlike_0 : decode cX2_firstAlike 0 = .ok (.iconst 0, 1) := by decide +kernel
theorem dX2_firstAlike_1 : decode cX2_firstAlike 1 = .ok (.istore_n 2, 1) := by decide +kernel
theorem dX2_firstAlike_2 : decode cX2_firstAlike 2 = .ok (.iload_n 1, 1) := by decide +kernel
theorem dX2_firstAlike_3 : decode cX2_firstAlike 3 = .ok (.ifCond .le 34, 3) := by decide +kernel
theorem dX2_firstAlike_6 : decode cX2_firstAlike 6 = .ok (.iload_n 2, 1) := by decide +kernel
theorem dX2_firstAlike_7 : decode cX2_firstAlike 7 = .ok (.iload_n 1, 1) := by decide +kernel
theorem dX2_firstAlike_8 : decode cX2_firstAlike 8 = .ok (.iadd, 1) := by decide +kernel
theorem dX2_firstAlike_9 : decode cX2_firstAlike 9 = .ok (.aload_n 0, 1) := by decide +kernel
theorem dX2_firstAlike_10 : decode cX2_firstAlike 10 = .ok (.getfield 9, 3) := by decide +kernel
theorem dX2_firstAlike_13 : decode cX2_firstAlike 13 = .ok (.if_icmp .gt 24, 3) := by decide +kernel
theorem dX2_firstAlike_16 : decode cX2_firstAlike 16 = .ok (.aload_n 0, 1) := by decide +kernel
theorem dX2_firstAlike_17 : decode cX2_firstAlike 17 = .ok (.iload_n 2, 1) := by decide +kernel
theorem dX2_firstAlike_18 : decode cX2_firstAlike 18 = .ok (.iload_n 2, 1) := by decide +kernel
theorem dX2_firstAlike_19 : decode cX2_firstAlike 19 = .ok (.iload_n 1, 1) := by decide +kernel
theorem dX2_firstAlike_20 : decode cX2_firstAlike 20 = .ok (.iadd, 1) := by decide +kernel
theorem dX2_firstAlike_21 : decode cX2_firstAlike 21 = .ok (.iconst 1, 1) := by decide +kernel
theorem dX2_firstAlike_22 : decode cX2_firstAlike 22 = .ok (.isub, 1) := by decide +kernel
theorem dX2_firstAlike_23 : decode cX2_firstAlike 23 = .ok (.invokestatic 46, 3) := by decide +kernel
theorem dX2_firstAlike_26 : decode cX2_firstAlike 26 = .ok (.ifCond .eq 5, 3) := by decide +kernel
theorem dX2_firstAlike_29 : decode cX2_firstAlike 29 = .ok (.iload_n 2, 1) := by decide +kernel
theorem dX2_firstAlike_30 : decode cX2_firstAlike 30 = .ok (.ireturn, 1) := by decide +kernel
theorem dX2_firstAlike_31 : decode cX2_firstAlike 31 = .ok (.iinc 2 1, 3) := by decide +kernel
theorem dX2_firstAlike_34 : decode cX2_firstAlike 34 = .ok (.goto (-32), 3) := by decide +kernel
theorem dX2_firstAlike_37 : decode cX2_firstAlike 37 = .ok (.iconst (-1), 1) := by decide +kernel
theorem dX2_firstAlike_38 : decode cX2_firstAlike 38 = .ok (.ireturn, 1) := by decide +kernel
theorem dX2_readsAlike_0 : decode cX2_readsAlike 0 = .ok (.iconst 0, 1) := by decide +kernel
theorem dX2_readsAlike_1 : decode cX2_readsAlike 1 = .ok (.istore_n 3, 1) := by decide +kernel
theorem dX2_readsAlike_2 : decode cX2_readsAlike 2 = .ok (.iload_n 1, 1) := by decide +kernel
theorem dX2_readsAlike_3 : decode cX2_readsAlike 3 = .ok (.iload_n 3, 1) := by decide +kernel
theorem dX2_readsAlike_4 : decode cX2_readsAlike 4 = .ok (.iadd, 1) := by decide +kernel
theorem dX2_readsAlike_5 : decode cX2_readsAlike 5 = .ok (.iload_n 2, 1) := by decide +kernel
theorem dX2_readsAlike_6 : decode cX2_readsAlike 6 = .ok (.iload_n 3, 1) := by decide +kernel
theorem dX2_readsAlike_7 : decode cX2_readsAlike 7 = .ok (.isub, 1) := by decide +kernel
theorem dX2_readsAlike_8 : decode cX2_readsAlike 8 = .ok (.if_icmp .ge 30, 3) := by decide +kernel
theorem dX2_readsAlike_11 : decode cX2_readsAlike 11 = .ok (.aload_n 0, 1) := by decide +kernel
theorem dX2_readsAlike_12 : decode cX2_readsAlike 12 = .ok (.iload_n 1, 1) := by decide +kernel
theorem dX2_readsAlike_13 : decode cX2_readsAlike 13 = .ok (.iload_n 3, 1) := by decide +kernel
theorem dX2_readsAlike_14 : decode cX2_readsAlike 14 = .ok (.iadd, 1) := by decide +kernel
theorem dX2_readsAlike_15 : decode cX2_readsAlike 15 = .ok (.iconst 0, 1) := by decide +kernel
theorem dX2_readsAlike_16 : decode cX2_readsAlike 16 = .ok (.invokevirtual 15, 3) := by decide +kernel
theorem dX2_readsAlike_19 : decode cX2_readsAlike 19 = .ok (.aload_n 0, 1) := by decide +kernel
theorem dX2_readsAlike_20 : decode cX2_readsAlike 20 = .ok (.iload_n 2, 1) := by decide +kernel
theorem dX2_readsAlike_21 : decode cX2_readsAlike 21 = .ok (.iload_n 3, 1) := by decide +kernel
theorem dX2_readsAlike_22 : decode cX2_readsAlike 22 = .ok (.isub, 1) := by decide +kernel
theorem dX2_readsAlike_23 : decode cX2_readsAlike 23 = .ok (.iconst 0, 1) := by decide +kernel
theorem dX2_readsAlike_24 : decode cX2_readsAlike 24 = .ok (.invokevirtual 15, 3) := by decide +kernel
theorem dX2_readsAlike_27 : decode cX2_readsAlike 27 = .ok (.if_icmp .eq 5, 3) := by decide +kernel
theorem dX2_readsAlike_30 : decode cX2_readsAlike 30 = .ok (.iconst 0, 1) := by decide +kernel
theorem dX2_readsAlike_31 : decode cX2_readsAlike 31 = .ok (.ireturn, 1) := by decide +kernel
theorem dX2_readsAlike_32 : decode cX2_readsAlike 32 = .ok (.iinc 3 1, 3) := by decide +kernel
theorem dX2_readsAlike_35 : decode cX2_readsAlike 35 = .ok (.goto (-33), 3) := by decide +kernel
theorem dX2_readsAlike_38 : decode cX2_readsAlike 38 = .ok (.iconst 1, 1) := by decide +kernel
theorem dX2_readsAlike_39 : decode cX2_readsAlike 39 = .ok (.ireturn, 1) := by decide +kernel
theorem dX2_stand_0 : decode cX2_stand 0 = .ok (.iload_n 2, 1) := by decide +kernel
theorem dX2_stand_1 : decode cX2_stand 1 = .ok (.iload_n 1, 1) := by decide +kernel
theorem dX2_stand_2 : decode cX2_stand 2 = .ok (.if_icmp .ge 9, 3) := by decide +kernel
theorem dX2_stand_5 : decode cX2_stand 5 = .ok (.iload_n 2, 1) := by decide +kernel
theorem dX2_stand_6 : decode cX2_stand 6 = .ok (.bipush 7, 2) := by decide +kernel
theorem dX2_stand_8 : decode cX2_stand 8 = .ok (.if_icmp .le 5, 3) := by decide +kernel
theorem dX2_stand_11 : decode cX2_stand 11 = .ok (.iconst 1, 1) := by decide +kernel
theorem dX2_stand_12 : decode cX2_stand 12 = .ok (.ireturn, 1) := by decide +kernel
theorem dX2_stand_13 : decode cX2_stand 13 = .ok (.aload_n 0, 1) := by decide +kernel
theorem dX2_stand_14 : decode cX2_stand 14 = .ok (.iload_n 1, 1) := by decide +kernel
theorem dX2_stand_15 : decode cX2_stand 15 = .ok (.iload_n 2, 1) := by decide +kernel
theorem dX2_stand_16 : decode cX2_stand 16 = .ok (.invokestatic 50, 3) := by decide +kernel
theorem dX2_stand_19 : decode cX2_stand 19 = .ok (.istore 6, 2) := by decide +kernel
theorem dX2_stand_21 : decode cX2_stand 21 = .ok (.iconst 0, 1) := by decide +kernel
theorem dX2_stand_22 : decode cX2_stand 22 = .ok (.istore 7, 2) := by decide +kernel
theorem dX2_stand_24 : decode cX2_stand 24 = .ok (.iconst 0, 1) := by decide +kernel
theorem dX2_stand_25 : decode cX2_stand 25 = .ok (.istore 8, 2) := by decide +kernel
theorem dX2_stand_27 : decode cX2_stand 27 = .ok (.iload 8, 2) := by decide +kernel
theorem dX2_stand_29 : decode cX2_stand 29 = .ok (.iload_n 1, 1) := by decide +kernel
theorem dX2_stand_30 : decode cX2_stand 30 = .ok (.if_icmp .ge 108, 3) := by decide +kernel
theorem dX2_stand_33 : decode cX2_stand 33 = .ok (.iconst 1, 1) := by decide +kernel
theorem dX2_stand_34 : decode cX2_stand 34 = .ok (.iload 8, 2) := by decide +kernel
theorem dX2_stand_36 : decode cX2_stand 36 = .ok (.ishl, 1) := by decide +kernel
theorem dX2_stand_37 : decode cX2_stand 37 = .ok (.istore 9, 2) := by decide +kernel
theorem dX2_stand_39 : decode cX2_stand 39 = .ok (.iconst 1, 1) := by decide +kernel
theorem dX2_stand_40 : decode cX2_stand 40 = .ok (.iload_n 2, 1) := by decide +kernel
theorem dX2_stand_41 : decode cX2_stand 41 = .ok (.iload 8, 2) := by decide +kernel
theorem dX2_stand_43 : decode cX2_stand 43 = .ok (.iadd, 1) := by decide +kernel
theorem dX2_stand_44 : decode cX2_stand 44 = .ok (.ishl, 1) := by decide +kernel
theorem dX2_stand_45 : decode cX2_stand 45 = .ok (.istore 10, 2) := by decide +kernel
theorem dX2_stand_47 : decode cX2_stand 47 = .ok (.iconst 1, 1) := by decide +kernel
theorem dX2_stand_48 : decode cX2_stand 48 = .ok (.iload_n 2, 1) := by decide +kernel
theorem dX2_stand_49 : decode cX2_stand 49 = .ok (.iload 8, 2) := by decide +kernel
theorem dX2_stand_51 : decode cX2_stand 51 = .ok (.isub, 1) := by decide +kernel
theorem dX2_stand_52 : decode cX2_stand 52 = .ok (.bipush 7, 2) := by decide +kernel
theorem dX2_stand_54 : decode cX2_stand 54 = .ok (.iadd, 1) := by decide +kernel
theorem dX2_stand_55 : decode cX2_stand 55 = .ok (.ishl, 1) := by decide +kernel
theorem dX2_stand_56 : decode cX2_stand 56 = .ok (.istore 11, 2) := by decide +kernel
theorem dX2_stand_58 : decode cX2_stand 58 = .ok (.iload_n 3, 1) := by decide +kernel
theorem dX2_stand_59 : decode cX2_stand 59 = .ok (.iload 9, 2) := by decide +kernel
theorem dX2_stand_61 : decode cX2_stand 61 = .ok (.iand, 1) := by decide +kernel
theorem dX2_stand_62 : decode cX2_stand 62 = .ok (.ifCond .ne 23, 3) := by decide +kernel
theorem dX2_stand_65 : decode cX2_stand 65 = .ok (.iload 4, 2) := by decide +kernel
theorem dX2_stand_67 : decode cX2_stand 67 = .ok (.iload 10, 2) := by decide +kernel
theorem dX2_stand_69 : decode cX2_stand 69 = .ok (.iand, 1) := by decide +kernel
theorem dX2_stand_70 : decode cX2_stand 70 = .ok (.ifCond .ne 15, 3) := by decide +kernel
theorem dX2_stand_73 : decode cX2_stand 73 = .ok (.iload 5, 2) := by decide +kernel
theorem dX2_stand_75 : decode cX2_stand 75 = .ok (.iload 11, 2) := by decide +kernel
theorem dX2_stand_77 : decode cX2_stand 77 = .ok (.iand, 1) := by decide +kernel
theorem dX2_stand_78 : decode cX2_stand 78 = .ok (.ifCond .ne 7, 3) := by decide +kernel
theorem dX2_stand_81 : decode cX2_stand 81 = .ok (.iconst 1, 1) := by decide +kernel
theorem dX2_stand_82 : decode cX2_stand 82 = .ok (.goto 4, 3) := by decide +kernel
theorem dX2_stand_85 : decode cX2_stand 85 = .ok (.iconst 0, 1) := by decide +kernel
theorem dX2_stand_86 : decode cX2_stand 86 = .ok (.istore 12, 2) := by decide +kernel
theorem dX2_stand_88 : decode cX2_stand 88 = .ok (.iload 12, 2) := by decide +kernel
theorem dX2_stand_90 : decode cX2_stand 90 = .ok (.ifCond .eq 42, 3) := by decide +kernel
theorem dX2_stand_93 : decode cX2_stand 93 = .ok (.iload 6, 2) := by decide +kernel
theorem dX2_stand_95 : decode cX2_stand 95 = .ok (.ifCond .eq 10, 3) := by decide +kernel
theorem dX2_stand_98 : decode cX2_stand 98 = .ok (.iload 6, 2) := by decide +kernel
theorem dX2_stand_100 : decode cX2_stand 100 = .ok (.iload 9, 2) := by decide +kernel
theorem dX2_stand_102 : decode cX2_stand 102 = .ok (.if_icmp .ne 30, 3) := by decide +kernel
theorem dX2_stand_105 : decode cX2_stand 105 = .ok (.iload 7, 2) := by decide +kernel
theorem dX2_stand_107 : decode cX2_stand 107 = .ok (.aload_n 0, 1) := by decide +kernel
theorem dX2_stand_108 : decode cX2_stand 108 = .ok (.iload_n 1, 1) := by decide +kernel
theorem dX2_stand_109 : decode cX2_stand 109 = .ok (.iload_n 2, 1) := by decide +kernel
theorem dX2_stand_110 : decode cX2_stand 110 = .ok (.iconst 1, 1) := by decide +kernel
theorem dX2_stand_111 : decode cX2_stand 111 = .ok (.iadd, 1) := by decide +kernel
theorem dX2_stand_112 : decode cX2_stand 112 = .ok (.iload_n 3, 1) := by decide +kernel
theorem dX2_stand_113 : decode cX2_stand 113 = .ok (.iload 9, 2) := by decide +kernel
theorem dX2_stand_115 : decode cX2_stand 115 = .ok (.ior, 1) := by decide +kernel
theorem dX2_stand_116 : decode cX2_stand 116 = .ok (.iload 4, 2) := by decide +kernel
theorem dX2_stand_118 : decode cX2_stand 118 = .ok (.iload 10, 2) := by decide +kernel
theorem dX2_stand_120 : decode cX2_stand 120 = .ok (.ior, 1) := by decide +kernel
theorem dX2_stand_121 : decode cX2_stand 121 = .ok (.iload 5, 2) := by decide +kernel
theorem dX2_stand_123 : decode cX2_stand 123 = .ok (.iload 11, 2) := by decide +kernel
theorem dX2_stand_125 : decode cX2_stand 125 = .ok (.ior, 1) := by decide +kernel
theorem dX2_stand_126 : decode cX2_stand 126 = .ok (.invokestatic 54, 3) := by decide +kernel
theorem dX2_stand_129 : decode cX2_stand 129 = .ok (.iadd, 1) := by decide +kernel
theorem dX2_stand_130 : decode cX2_stand 130 = .ok (.istore 7, 2) := by decide +kernel
theorem dX2_stand_132 : decode cX2_stand 132 = .ok (.iinc 8 1, 3) := by decide +kernel
theorem dX2_stand_135 : decode cX2_stand 135 = .ok (.goto (-108), 3) := by decide +kernel
theorem dX2_stand_138 : decode cX2_stand 138 = .ok (.iload 7, 2) := by decide +kernel
theorem dX2_stand_140 : decode cX2_stand 140 = .ok (.ireturn, 1) := by decide +kernel
theorem dX2_toldOn_0 : decode cX2_toldOn 0 = .ok (.iconst 0, 1) := by decide +kernel
theorem dX2_toldOn_1 : decode cX2_toldOn 1 = .ok (.istore_n 3, 1) := by decide +kernel
theorem dX2_toldOn_2 : decode cX2_toldOn 2 = .ok (.iconst 0, 1) := by decide +kernel
theorem dX2_toldOn_3 : decode cX2_toldOn 3 = .ok (.istore 4, 2) := by decide +kernel
theorem dX2_toldOn_5 : decode cX2_toldOn 5 = .ok (.iload 4, 2) := by decide +kernel
theorem dX2_toldOn_7 : decode cX2_toldOn 7 = .ok (.iload_n 1, 1) := by decide +kernel
theorem dX2_toldOn_8 : decode cX2_toldOn 8 = .ok (.if_icmp .ge 26, 3) := by decide +kernel
theorem dX2_toldOn_11 : decode cX2_toldOn 11 = .ok (.aload_n 0, 1) := by decide +kernel
theorem dX2_toldOn_12 : decode cX2_toldOn 12 = .ok (.iload_n 2, 1) := by decide +kernel
theorem dX2_toldOn_13 : decode cX2_toldOn 13 = .ok (.iload 4, 2) := by decide +kernel
theorem dX2_toldOn_15 : decode cX2_toldOn 15 = .ok (.invokevirtual 58, 3) := by decide +kernel
theorem dX2_toldOn_18 : decode cX2_toldOn 18 = .ok (.ifCond .eq 10, 3) := by decide +kernel
theorem dX2_toldOn_21 : decode cX2_toldOn 21 = .ok (.iload_n 3, 1) := by decide +kernel
theorem dX2_toldOn_22 : decode cX2_toldOn 22 = .ok (.iconst 1, 1) := by decide +kernel
theorem dX2_toldOn_23 : decode cX2_toldOn 23 = .ok (.iload 4, 2) := by decide +kernel
theorem dX2_toldOn_25 : decode cX2_toldOn 25 = .ok (.ishl, 1) := by decide +kernel
theorem dX2_toldOn_26 : decode cX2_toldOn 26 = .ok (.ior, 1) := by decide +kernel
theorem dX2_toldOn_27 : decode cX2_toldOn 27 = .ok (.istore_n 3, 1) := by decide +kernel
theorem dX2_toldOn_28 : decode cX2_toldOn 28 = .ok (.iinc 4 1, 3) := by decide +kernel
theorem dX2_toldOn_31 : decode cX2_toldOn 31 = .ok (.goto (-26), 3) := by decide +kernel
theorem dX2_toldOn_34 : decode cX2_toldOn 34 = .ok (.iload_n 3, 1) := by decide +kernel
theorem dX2_toldOn_35 : decode cX2_toldOn 35 = .ok (.ireturn, 1) := by decide +kernel
theorem dX3_init_0 : decode cX3_init 0 = .ok (.aload_n 0, 1) := by decide +kernel
theorem dX3_init_1 : decode cX3_init 1 = .ok (.invokespecial 3, 3) := by decide +kernel
theorem dX3_init_4 : decode cX3_init 4 = .ok (.aload_n 0, 1) := by decide +kernel
theorem dX3_init_5 : decode cX3_init 5 = .ok (.bipush 6, 2) := by decide +kernel
theorem dX3_init_7 : decode cX3_init 7 = .ok (.anewarray 9, 3) := by decide +kernel
theorem dX3_init_10 : decode cX3_init 10 = .ok (.putfield 11, 3) := by decide +kernel
theorem dX3_init_13 : decode cX3_init 13 = .ok (.aload_n 0, 1) := by decide +kernel
theorem dX3_init_14 : decode cX3_init 14 = .ok (.bipush 6, 2) := by decide +kernel
theorem dX3_init_16 : decode cX3_init 16 = .ok (.newarray .int, 2) := by decide +kernel
theorem dX3_init_18 : decode cX3_init 18 = .ok (.putfield 17, 3) := by decide +kernel
theorem dX3_init_21 : decode cX3_init 21 = .ok (.aload_n 0, 1) := by decide +kernel
theorem dX3_init_22 : decode cX3_init 22 = .ok (.iconst 0, 1) := by decide +kernel
theorem dX3_init_23 : decode cX3_init 23 = .ok (.putfield 21, 3) := by decide +kernel
theorem dX3_init_26 : decode cX3_init 26 = .ok (.aload_n 0, 1) := by decide +kernel
theorem dX3_init_27 : decode cX3_init 27 = .ok (.iconst 0, 1) := by decide +kernel
theorem dX3_init_28 : decode cX3_init 28 = .ok (.putfield 25, 3) := by decide +kernel
theorem dX3_init_31 : decode cX3_init 31 = .ok (.iconst 0, 1) := by decide +kernel
theorem dX3_init_32 : decode cX3_init 32 = .ok (.istore_n 1, 1) := by decide +kernel
theorem dX3_init_33 : decode cX3_init 33 = .ok (.iload_n 1, 1) := by decide +kernel
theorem dX3_init_34 : decode cX3_init 34 = .ok (.bipush 6, 2) := by decide +kernel
theorem dX3_init_36 : decode cX3_init 36 = .ok (.if_icmp .ge 22, 3) := by decide +kernel
theorem dX3_init_39 : decode cX3_init 39 = .ok (.aload_n 0, 1) := by decide +kernel
theorem dX3_init_40 : decode cX3_init 40 = .ok (.getfield 11, 3) := by decide +kernel
theorem dX3_init_43 : decode cX3_init 43 = .ok (.iload_n 1, 1) := by decide +kernel
theorem dX3_init_44 : decode cX3_init 44 = .ok (.new 9, 3) := by decide +kernel
theorem dX3_init_47 : decode cX3_init 47 = .ok (.dup, 1) := by decide +kernel
theorem dX3_init_48 : decode cX3_init 48 = .ok (.invokespecial 28, 3) := by decide +kernel
theorem dX3_init_51 : decode cX3_init 51 = .ok (.aastore, 1) := by decide +kernel
theorem dX3_init_52 : decode cX3_init 52 = .ok (.iinc 1 1, 3) := by decide +kernel
theorem dX3_init_55 : decode cX3_init 55 = .ok (.goto (-22), 3) := by decide +kernel
theorem dX3_init_58 : decode cX3_init 58 = .ok (.return_, 1) := by decide +kernel
theorem dX3_keep_0 : decode cX3_keep 0 = .ok (.aload_n 0, 1) := by decide +kernel
theorem dX3_keep_1 : decode cX3_keep 1 = .ok (.aload_n 0, 1) := by decide +kernel
theorem dX3_keep_2 : decode cX3_keep 2 = .ok (.getfield 21, 3) := by decide +kernel
theorem dX3_keep_5 : decode cX3_keep 5 = .ok (.iconst 1, 1) := by decide +kernel
theorem dX3_keep_6 : decode cX3_keep 6 = .ok (.iadd, 1) := by decide +kernel
theorem dX3_keep_7 : decode cX3_keep 7 = .ok (.bipush 6, 2) := by decide +kernel
theorem dX3_keep_9 : decode cX3_keep 9 = .ok (.irem, 1) := by decide +kernel
theorem dX3_keep_10 : decode cX3_keep 10 = .ok (.putfield 21, 3) := by decide +kernel
theorem dX3_keep_13 : decode cX3_keep 13 = .ok (.aload_n 0, 1) := by decide +kernel
theorem dX3_keep_14 : decode cX3_keep 14 = .ok (.bipush 6, 2) := by decide +kernel
theorem dX3_keep_16 : decode cX3_keep 16 = .ok (.aload_n 0, 1) := by decide +kernel
theorem dX3_keep_17 : decode cX3_keep 17 = .ok (.getfield 25, 3) := by decide +kernel
theorem dX3_keep_20 : decode cX3_keep 20 = .ok (.iconst 1, 1) := by decide +kernel
theorem dX3_keep_21 : decode cX3_keep 21 = .ok (.iadd, 1) := by decide +kernel
theorem dX3_keep_22 : decode cX3_keep 22 = .ok (.invokestatic 29, 3) := by decide +kernel
theorem dX3_keep_25 : decode cX3_keep 25 = .ok (.putfield 25, 3) := by decide +kernel
theorem dX3_keep_28 : decode cX3_keep 28 = .ok (.aload_n 0, 1) := by decide +kernel
theorem dX3_keep_29 : decode cX3_keep 29 = .ok (.getfield 11, 3) := by decide +kernel
theorem dX3_keep_32 : decode cX3_keep 32 = .ok (.aload_n 0, 1) := by decide +kernel
theorem dX3_keep_33 : decode cX3_keep 33 = .ok (.getfield 21, 3) := by decide +kernel
theorem dX3_keep_36 : decode cX3_keep 36 = .ok (.aaload, 1) := by decide +kernel
theorem dX3_keep_37 : decode cX3_keep 37 = .ok (.astore_n 3, 1) := by decide +kernel
theorem dX3_keep_38 : decode cX3_keep 38 = .ok (.aload_n 3, 1) := by decide +kernel
theorem dX3_keep_39 : decode cX3_keep 39 = .ok (.ifnull 8, 3) := by decide +kernel
theorem dX3_keep_42 : decode cX3_keep 42 = .ok (.aload_n 3, 1) := by decide +kernel
theorem dX3_keep_43 : decode cX3_keep 43 = .ok (.aload_n 1, 1) := by decide +kernel
theorem dX3_keep_44 : decode cX3_keep 44 = .ok (.invokevirtual 35, 3) := by decide +kernel
theorem dX3_keep_47 : decode cX3_keep 47 = .ok (.aload_n 0, 1) := by decide +kernel
theorem dX3_keep_48 : decode cX3_keep 48 = .ok (.getfield 17, 3) := by decide +kernel
theorem dX3_keep_51 : decode cX3_keep 51 = .ok (.aload_n 0, 1) := by decide +kernel
theorem dX3_keep_52 : decode cX3_keep 52 = .ok (.getfield 21, 3) := by decide +kernel
theorem dX3_keep_55 : decode cX3_keep 55 = .ok (.iload_n 2, 1) := by decide +kernel
theorem dX3_keep_56 : decode cX3_keep 56 = .ok (.iastore, 1) := by decide +kernel
theorem dX3_keep_57 : decode cX3_keep 57 = .ok (.return_, 1) := by decide +kernel
theorem dX3_goBack_0 : decode cX3_goBack 0 = .ok (.aload_n 0, 1) := by decide +kernel
theorem dX3_goBack_1 : decode cX3_goBack 1 = .ok (.getfield 11, 3) := by decide +kernel
theorem dX3_goBack_4 : decode cX3_goBack 4 = .ok (.aload_n 0, 1) := by decide +kernel
theorem dX3_goBack_5 : decode cX3_goBack 5 = .ok (.getfield 21, 3) := by decide +kernel
theorem dX3_goBack_8 : decode cX3_goBack 8 = .ok (.aaload, 1) := by decide +kernel
theorem dX3_goBack_9 : decode cX3_goBack 9 = .ok (.astore_n 2, 1) := by decide +kernel
theorem dX3_goBack_10 : decode cX3_goBack 10 = .ok (.aload_n 0, 1) := by decide +kernel
theorem dX3_goBack_11 : decode cX3_goBack 11 = .ok (.getfield 25, 3) := by decide +kernel
theorem dX3_goBack_14 : decode cX3_goBack 14 = .ok (.ifCond .eq 7, 3) := by decide +kernel
theorem dX3_goBack_17 : decode cX3_goBack 17 = .ok (.aload_n 2, 1) := by decide +kernel
theorem dX3_goBack_18 : decode cX3_goBack 18 = .ok (.ifnonnull 5, 3) := by decide +kernel
theorem dX3_goBack_21 : decode cX3_goBack 21 = .ok (.iconst 0, 1) := by decide +kernel
theorem dX3_goBack_22 : decode cX3_goBack 22 = .ok (.ireturn, 1) := by decide +kernel
theorem dX3_goBack_23 : decode cX3_goBack 23 = .ok (.aload_n 1, 1) := by decide +kernel
theorem dX3_goBack_24 : decode cX3_goBack 24 = .ok (.getfield 39, 3) := by decide +kernel
theorem dX3_goBack_27 : decode cX3_goBack 27 = .ok (.aload_n 2, 1) := by decide +kernel
theorem dX3_goBack_28 : decode cX3_goBack 28 = .ok (.invokevirtual 35, 3) := by decide +kernel
theorem dX3_goBack_31 : decode cX3_goBack 31 = .ok (.aload_n 1, 1) := by decide +kernel
theorem dX3_goBack_32 : decode cX3_goBack 32 = .ok (.getfield 45, 3) := by decide +kernel
theorem dX3_goBack_35 : decode cX3_goBack 35 = .ok (.aload_n 0, 1) := by decide +kernel
theorem dX3_goBack_36 : decode cX3_goBack 36 = .ok (.getfield 17, 3) := by decide +kernel
theorem dX3_goBack_39 : decode cX3_goBack 39 = .ok (.aload_n 0, 1) := by decide +kernel
theorem dX3_goBack_40 : decode cX3_goBack 40 = .ok (.getfield 21, 3) := by decide +kernel
theorem dX3_goBack_43 : decode cX3_goBack 43 = .ok (.iaload, 1) := by decide +kernel
theorem dX3_goBack_44 : decode cX3_goBack 44 = .ok (.invokevirtual 49, 3) := by decide +kernel
theorem dX3_goBack_47 : decode cX3_goBack 47 = .ok (.aload_n 0, 1) := by decide +kernel
theorem dX3_goBack_48 : decode cX3_goBack 48 = .ok (.aload_n 0, 1) := by decide +kernel
theorem dX3_goBack_49 : decode cX3_goBack 49 = .ok (.getfield 21, 3) := by decide +kernel
theorem dX3_goBack_52 : decode cX3_goBack 52 = .ok (.bipush 6, 2) := by decide +kernel
theorem dX3_goBack_54 : decode cX3_goBack 54 = .ok (.iadd, 1) := by decide +kernel
theorem dX3_goBack_55 : decode cX3_goBack 55 = .ok (.iconst 1, 1) := by decide +kernel
theorem dX3_goBack_56 : decode cX3_goBack 56 = .ok (.isub, 1) := by decide +kernel
theorem dX3_goBack_57 : decode cX3_goBack 57 = .ok (.bipush 6, 2) := by decide +kernel
theorem dX3_goBack_59 : decode cX3_goBack 59 = .ok (.irem, 1) := by decide +kernel
theorem dX3_goBack_60 : decode cX3_goBack 60 = .ok (.putfield 21, 3) := by decide +kernel
theorem dX3_goBack_63 : decode cX3_goBack 63 = .ok (.aload_n 0, 1) := by decide +kernel
theorem dX3_goBack_64 : decode cX3_goBack 64 = .ok (.dup, 1) := by decide +kernel
theorem dX3_goBack_65 : decode cX3_goBack 65 = .ok (.getfield 25, 3) := by decide +kernel
theorem dX3_goBack_68 : decode cX3_goBack 68 = .ok (.iconst 1, 1) := by decide +kernel
theorem dX3_goBack_69 : decode cX3_goBack 69 = .ok (.isub, 1) := by decide +kernel
theorem dX3_goBack_70 : decode cX3_goBack 70 = .ok (.putfield 25, 3) := by decide +kernel
theorem dX3_goBack_73 : decode cX3_goBack 73 = .ok (.iconst 1, 1) := by decide +kernel
theorem dX3_goBack_74 : decode cX3_goBack 74 = .ok (.ireturn, 1) := by decide +kernel
theorem dX3_forget_0 : decode cX3_forget 0 = .ok (.aload_n 0, 1) := by decide +kernel
theorem dX3_forget_1 : decode cX3_forget 1 = .ok (.iconst 0, 1) := by decide +kernel
theorem dX3_forget_2 : decode cX3_forget 2 = .ok (.putfield 25, 3) := by decide +kernel
theorem dX3_forget_5 : decode cX3_forget 5 = .ok (.return_, 1) := by decide +kernel
theorem dX4_init_0 : decode cX4_init 0 = .ok (.aload_n 0, 1) := by decide +kernel
theorem dX4_init_1 : decode cX4_init 1 = .ok (.invokespecial 3, 3) := by decide +kernel
theorem dX4_init_4 : decode cX4_init 4 = .ok (.aload_n 0, 1) := by decide +kernel
theorem dX4_init_5 : decode cX4_init 5 = .ok (.sipush 400, 3) := by decide +kernel
theorem dX4_init_8 : decode cX4_init 8 = .ok (.newarray .int, 2) := by decide +kernel
theorem dX4_init_10 : decode cX4_init 10 = .ok (.putfield 9, 3) := by decide +kernel
theorem dX4_init_13 : decode cX4_init 13 = .ok (.aload_n 0, 1) := by decide +kernel
theorem dX4_init_14 : decode cX4_init 14 = .ok (.iconst 0, 1) := by decide +kernel
theorem dX4_init_15 : decode cX4_init 15 = .ok (.putfield 15, 3) := by decide +kernel
theorem dX4_init_18 : decode cX4_init 18 = .ok (.aload_n 0, 1) := by decide +kernel
theorem dX4_init_19 : decode cX4_init 19 = .ok (.sipush 401, 3) := by decide +kernel
theorem dX4_init_22 : decode cX4_init 22 = .ok (.newarray .int, 2) := by decide +kernel
theorem dX4_init_24 : decode cX4_init 24 = .ok (.putfield 19, 3) := by decide +kernel
theorem dX4_init_27 : decode cX4_init 27 = .ok (.aload_n 0, 1) := by decide +kernel
theorem dX4_init_28 : decode cX4_init 28 = .ok (.sipush 401, 3) := by decide +kernel
theorem dX4_init_31 : decode cX4_init 31 = .ok (.newarray .int, 2) := by decide +kernel
theorem dX4_init_33 : decode cX4_init 33 = .ok (.putfield 22, 3) := by decide +kernel
theorem dX4_init_36 : decode cX4_init 36 = .ok (.aload_n 0, 1) := by decide +kernel
theorem dX4_init_37 : decode cX4_init 37 = .ok (.sipush 401, 3) := by decide +kernel
theorem dX4_init_40 : decode cX4_init 40 = .ok (.newarray .int, 2) := by decide +kernel
theorem dX4_init_42 : decode cX4_init 42 = .ok (.putfield 25, 3) := by decide +kernel
theorem dX4_init_45 : decode cX4_init 45 = .ok (.aload_n 0, 1) := by decide +kernel
theorem dX4_init_46 : decode cX4_init 46 = .ok (.iconst 0, 1) := by decide +kernel
theorem dX4_init_47 : decode cX4_init 47 = .ok (.putfield 28, 3) := by decide +kernel
theorem dX4_init_50 : decode cX4_init 50 = .ok (.aload_n 0, 1) := by decide +kernel
theorem dX4_init_51 : decode cX4_init 51 = .ok (.iconst 0, 1) := by decide +kernel
theorem dX4_init_52 : decode cX4_init 52 = .ok (.putfield 31, 3) := by decide +kernel
theorem dX4_init_55 : decode cX4_init 55 = .ok (.aload_n 0, 1) := by decide +kernel
theorem dX4_init_56 : decode cX4_init 56 = .ok (.iconst 0, 1) := by decide +kernel
theorem dX4_init_57 : decode cX4_init 57 = .ok (.putfield 34, 3) := by decide +kernel
theorem dX4_init_60 : decode cX4_init 60 = .ok (.aload_n 0, 1) := by decide +kernel
theorem dX4_init_61 : decode cX4_init 61 = .ok (.iconst (-1), 1) := by decide +kernel
theorem dX4_init_62 : decode cX4_init 62 = .ok (.putfield 37, 3) := by decide +kernel
theorem dX4_init_65 : decode cX4_init 65 = .ok (.aload_n 0, 1) := by decide +kernel
theorem dX4_init_66 : decode cX4_init 66 = .ok (.new 40, 3) := by decide +kernel
theorem dX4_init_69 : decode cX4_init 69 = .ok (.dup, 1) := by decide +kernel
theorem dX4_init_70 : decode cX4_init 70 = .ok (.invokespecial 42, 3) := by decide +kernel
theorem dX4_init_73 : decode cX4_init 73 = .ok (.putfield 43, 3) := by decide +kernel
theorem dX4_init_76 : decode cX4_init 76 = .ok (.aload_n 0, 1) := by decide +kernel
theorem dX4_init_77 : decode cX4_init 77 = .ok (.new 47, 3) := by decide +kernel
theorem dX4_init_80 : decode cX4_init 80 = .ok (.dup, 1) := by decide +kernel
theorem dX4_init_81 : decode cX4_init 81 = .ok (.bipush 16, 2) := by decide +kernel
theorem dX4_init_83 : decode cX4_init 83 = .ok (.iconst 4, 1) := by decide +kernel
theorem dX4_init_84 : decode cX4_init 84 = .ok (.invokespecial 49, 3) := by decide +kernel
theorem dX4_init_87 : decode cX4_init 87 = .ok (.putfield 52, 3) := by decide +kernel
theorem dX4_init_90 : decode cX4_init 90 = .ok (.return_, 1) := by decide +kernel
theorem dX4_put_0 : decode cX4_put 0 = .ok (.bipush 24, 2) := by decide +kernel
theorem dX4_put_2 : decode cX4_put 2 = .ok (.istore_n 2, 1) := by decide +kernel
theorem dX4_put_3 : decode cX4_put 3 = .ok (.iload_n 2, 1) := by decide +kernel
theorem dX4_put_4 : decode cX4_put 4 = .ok (.ifCond .lt 45, 3) := by decide +kernel
theorem dX4_put_7 : decode cX4_put 7 = .ok (.aload_n 0, 1) := by decide +kernel
theorem dX4_put_8 : decode cX4_put 8 = .ok (.getfield 15, 3) := by decide +kernel
theorem dX4_put_11 : decode cX4_put 11 = .ok (.sipush 400, 3) := by decide +kernel
theorem dX4_put_14 : decode cX4_put 14 = .ok (.if_icmp .ge 35, 3) := by decide +kernel
theorem dX4_put_17 : decode cX4_put 17 = .ok (.aload_n 0, 1) := by decide +kernel
theorem dX4_put_18 : decode cX4_put 18 = .ok (.getfield 9, 3) := by decide +kernel
theorem dX4_put_21 : decode cX4_put 21 = .ok (.aload_n 0, 1) := by decide +kernel
theorem dX4_put_22 : decode cX4_put 22 = .ok (.getfield 15, 3) := by decide +kernel
theorem dX4_put_25 : decode cX4_put 25 = .ok (.iload_n 1, 1) := by decide +kernel
theorem dX4_put_26 : decode cX4_put 26 = .ok (.iload_n 2, 1) := by decide +kernel
theorem dX4_put_27 : decode cX4_put 27 = .ok (.iushr, 1) := by decide +kernel
theorem dX4_put_28 : decode cX4_put 28 = .ok (.sipush 255, 3) := by decide +kernel
theorem dX4_put_31 : decode cX4_put 31 = .ok (.iand, 1) := by decide +kernel
theorem dX4_put_32 : decode cX4_put 32 = .ok (.iastore, 1) := by decide +kernel
theorem dX4_put_33 : decode cX4_put 33 = .ok (.aload_n 0, 1) := by decide +kernel
theorem dX4_put_34 : decode cX4_put 34 = .ok (.dup, 1) := by decide +kernel
theorem dX4_put_35 : decode cX4_put 35 = .ok (.getfield 15, 3) := by decide +kernel
theorem dX4_put_38 : decode cX4_put 38 = .ok (.iconst 1, 1) := by decide +kernel
theorem dX4_put_39 : decode cX4_put 39 = .ok (.iadd, 1) := by decide +kernel
theorem dX4_put_40 : decode cX4_put 40 = .ok (.putfield 15, 3) := by decide +kernel
theorem dX4_put_43 : decode cX4_put 43 = .ok (.iinc 2 (-8), 3) := by decide +kernel
theorem dX4_put_46 : decode cX4_put 46 = .ok (.goto (-43), 3) := by decide +kernel
theorem dX4_put_49 : decode cX4_put 49 = .ok (.return_, 1) := by decide +kernel
theorem dX4_cut_0 : decode cX4_cut 0 = .ok (.aload_n 0, 1) := by decide +kernel
theorem dX4_cut_1 : decode cX4_cut 1 = .ok (.iconst 0, 1) := by decide +kernel
theorem dX4_cut_2 : decode cX4_cut 2 = .ok (.putfield 28, 3) := by decide +kernel
theorem dX4_cut_5 : decode cX4_cut 5 = .ok (.aload_n 0, 1) := by decide +kernel
theorem dX4_cut_6 : decode cX4_cut 6 = .ok (.iconst 0, 1) := by decide +kernel
theorem dX4_cut_7 : decode cX4_cut 7 = .ok (.putfield 34, 3) := by decide +kernel
theorem dX4_cut_10 : decode cX4_cut 10 = .ok (.aload_n 0, 1) := by decide +kernel
theorem dX4_cut_11 : decode cX4_cut 11 = .ok (.iconst (-1), 1) := by decide +kernel
theorem dX4_cut_12 : decode cX4_cut 12 = .ok (.putfield 37, 3) := by decide +kernel
theorem dX4_cut_15 : decode cX4_cut 15 = .ok (.iconst 0, 1) := by decide +kernel
theorem dX4_cut_16 : decode cX4_cut 16 = .ok (.istore_n 1, 1) := by decide +kernel
theorem dX4_cut_17 : decode cX4_cut 17 = .ok (.iconst 1, 1) := by decide +kernel
theorem dX4_cut_18 : decode cX4_cut 18 = .ok (.istore_n 2, 1) := by decide +kernel
theorem dX4_cut_19 : decode cX4_cut 19 = .ok (.iconst 0, 1) := by decide +kernel
theorem dX4_cut_20 : decode cX4_cut 20 = .ok (.istore_n 3, 1) := by decide +kernel
theorem dX4_cut_21 : decode cX4_cut 21 = .ok (.iload_n 3, 1) := by decide +kernel
theorem dX4_cut_22 : decode cX4_cut 22 = .ok (.aload_n 0, 1) := by decide +kernel
theorem dX4_cut_23 : decode cX4_cut 23 = .ok (.getfield 15, 3) := by decide +kernel
theorem dX4_cut_26 : decode cX4_cut 26 = .ok (.if_icmp .ge 131, 3) := by decide +kernel
theorem dX4_cut_29 : decode cX4_cut 29 = .ok (.iload_n 3, 1) := by decide +kernel
theorem dX4_cut_30 : decode cX4_cut 30 = .ok (.sipush 400, 3) := by decide +kernel
theorem dX4_cut_33 : decode cX4_cut 33 = .ok (.if_icmp .ge 124, 3) := by decide +kernel
theorem dX4_cut_36 : decode cX4_cut 36 = .ok (.aload_n 0, 1) := by decide +kernel
theorem dX4_cut_37 : decode cX4_cut 37 = .ok (.getfield 9, 3) := by decide +kernel
theorem dX4_cut_40 : decode cX4_cut 40 = .ok (.iload_n 3, 1) := by decide +kernel
theorem dX4_cut_41 : decode cX4_cut 41 = .ok (.iaload, 1) := by decide +kernel
theorem dX4_cut_42 : decode cX4_cut 42 = .ok (.invokestatic 56, 3) := by decide +kernel
theorem dX4_cut_45 : decode cX4_cut 45 = .ok (.istore 4, 2) := by decide +kernel
theorem dX4_cut_47 : decode cX4_cut 47 = .ok (.iload 4, 2) := by decide +kernel
theorem dX4_cut_49 : decode cX4_cut 49 = .ok (.iload_n 2, 1) := by decide +kernel
theorem dX4_cut_50 : decode cX4_cut 50 = .ok (.if_icmp .ne 19, 3) := by decide +kernel
theorem dX4_cut_53 : decode cX4_cut 53 = .ok (.iload 4, 2) := by decide +kernel
theorem dX4_cut_55 : decode cX4_cut 55 = .ok (.iconst 2, 1) := by decide +kernel
theorem dX4_cut_56 : decode cX4_cut 56 = .ok (.if_icmp .eq 9, 3) := by decide +kernel
theorem dX4_cut_59 : decode cX4_cut 59 = .ok (.iload 4, 2) := by decide +kernel
theorem dX4_cut_61 : decode cX4_cut 61 = .ok (.iconst 3, 1) := by decide +kernel
theorem dX4_cut_62 : decode cX4_cut 62 = .ok (.if_icmp .ne 7, 3) := by decide +kernel
theorem dX4_cut_65 : decode cX4_cut 65 = .ok (.iconst 1, 1) := by decide +kernel
theorem dX4_cut_66 : decode cX4_cut 66 = .ok (.goto 4, 3) := by decide +kernel
theorem dX4_cut_69 : decode cX4_cut 69 = .ok (.iconst 0, 1) := by decide +kernel
theorem dX4_cut_70 : decode cX4_cut 70 = .ok (.istore 5, 2) := by decide +kernel
theorem dX4_cut_72 : decode cX4_cut 72 = .ok (.iload 4, 2) := by decide +kernel
theorem dX4_cut_74 : decode cX4_cut 74 = .ok (.iconst 1, 1) := by decide +kernel
theorem dX4_cut_75 : decode cX4_cut 75 = .ok (.if_icmp .eq 73, 3) := by decide +kernel
theorem dX4_cut_78 : decode cX4_cut 78 = .ok (.iload 5, 2) := by decide +kernel
theorem dX4_cut_80 : decode cX4_cut 80 = .ok (.ifCond .ne 68, 3) := by decide +kernel
theorem dX4_cut_83 : decode cX4_cut 83 = .ok (.iload_n 1, 1) := by decide +kernel
theorem dX4_cut_84 : decode cX4_cut 84 = .ok (.sipush 400, 3) := by decide +kernel
theorem dX4_cut_87 : decode cX4_cut 87 = .ok (.if_icmp .ge 61, 3) := by decide +kernel
theorem dX4_cut_90 : decode cX4_cut 90 = .ok (.aload_n 0, 1) := by decide +kernel
theorem dX4_cut_91 : decode cX4_cut 91 = .ok (.getfield 19, 3) := by decide +kernel
theorem dX4_cut_94 : decode cX4_cut 94 = .ok (.iload_n 1, 1) := by decide +kernel
theorem dX4_cut_95 : decode cX4_cut 95 = .ok (.iload_n 3, 1) := by decide +kernel
theorem dX4_cut_96 : decode cX4_cut 96 = .ok (.iastore, 1) := by decide +kernel
theorem dX4_cut_97 : decode cX4_cut 97 = .ok (.aload_n 0, 1) := by decide +kernel
theorem dX4_cut_98 : decode cX4_cut 98 = .ok (.getfield 22, 3) := by decide +kernel
theorem dX4_cut_101 : decode cX4_cut 101 = .ok (.iload_n 1, 1) := by decide +kernel
theorem dX4_cut_102 : decode cX4_cut 102 = .ok (.iload 4, 2) := by decide +kernel
theorem dX4_cut_104 : decode cX4_cut 104 = .ok (.iastore, 1) := by decide +kernel
theorem dX4_cut_105 : decode cX4_cut 105 = .ok (.aload_n 0, 1) := by decide +kernel
theorem dX4_cut_106 : decode cX4_cut 106 = .ok (.getfield 25, 3) := by decide +kernel
theorem dX4_cut_109 : decode cX4_cut 109 = .ok (.iload_n 1, 1) := by decide +kernel
theorem dX4_cut_110 : decode cX4_cut 110 = .ok (.iload 4, 2) := by decide +kernel
theorem dX4_cut_112 : decode cX4_cut 112 = .ok (.iconst 2, 1) := by decide +kernel
theorem dX4_cut_113 : decode cX4_cut 113 = .ok (.if_icmp .ne 11, 3) := by decide +kernel
theorem dX4_cut_116 : decode cX4_cut 116 = .ok (.aload_n 0, 1) := by decide +kernel
theorem dX4_cut_117 : decode cX4_cut 117 = .ok (.iload_n 3, 1) := by decide +kernel
theorem dX4_cut_118 : decode cX4_cut 118 = .ok (.invokevirtual 60, 3) := by decide +kernel
theorem dX4_cut_121 : decode cX4_cut 121 = .ok (.goto 23, 3) := by decide +kernel
theorem dX4_cut_124 : decode cX4_cut 124 = .ok (.iload 4, 2) := by decide +kernel
theorem dX4_cut_126 : decode cX4_cut 126 = .ok (.iconst 3, 1) := by decide +kernel
theorem dX4_cut_127 : decode cX4_cut 127 = .ok (.if_icmp .ne 11, 3) := by decide +kernel
theorem dX4_cut_130 : decode cX4_cut 130 = .ok (.aload_n 0, 1) := by decide +kernel
theorem dX4_cut_131 : decode cX4_cut 131 = .ok (.iload_n 3, 1) := by decide +kernel
theorem dX4_cut_132 : decode cX4_cut 132 = .ok (.invokevirtual 63, 3) := by decide +kernel
theorem dX4_cut_135 : decode cX4_cut 135 = .ok (.goto 9, 3) := by decide +kernel
theorem dX4_cut_138 : decode cX4_cut 138 = .ok (.aload_n 0, 1) := by decide +kernel
theorem dX4_cut_139 : decode cX4_cut 139 = .ok (.getfield 9, 3) := by decide +kernel
theorem dX4_cut_142 : decode cX4_cut 142 = .ok (.iload_n 3, 1) := by decide +kernel
theorem dX4_cut_143 : decode cX4_cut 143 = .ok (.iaload, 1) := by decide +kernel
theorem dX4_cut_144 : decode cX4_cut 144 = .ok (.iastore, 1) := by decide +kernel
theorem dX4_cut_145 : decode cX4_cut 145 = .ok (.iinc 1 1, 3) := by decide +kernel
theorem dX4_cut_148 : decode cX4_cut 148 = .ok (.iload 4, 2) := by decide +kernel
theorem dX4_cut_150 : decode cX4_cut 150 = .ok (.istore_n 2, 1) := by decide +kernel
theorem dX4_cut_151 : decode cX4_cut 151 = .ok (.iinc 3 1, 3) := by decide +kernel
theorem dX4_cut_154 : decode cX4_cut 154 = .ok (.goto (-133), 3) := by decide +kernel
theorem dX4_cut_157 : decode cX4_cut 157 = .ok (.aload_n 0, 1) := by decide +kernel
theorem dX4_cut_158 : decode cX4_cut 158 = .ok (.getfield 19, 3) := by decide +kernel
theorem dX4_cut_161 : decode cX4_cut 161 = .ok (.iload_n 1, 1) := by decide +kernel
theorem dX4_cut_162 : decode cX4_cut 162 = .ok (.aload_n 0, 1) := by decide +kernel
theorem dX4_cut_163 : decode cX4_cut 163 = .ok (.getfield 15, 3) := by decide +kernel
theorem dX4_cut_166 : decode cX4_cut 166 = .ok (.iastore, 1) := by decide +kernel
theorem dX4_cut_167 : decode cX4_cut 167 = .ok (.aload_n 0, 1) := by decide +kernel
theorem dX4_cut_168 : decode cX4_cut 168 = .ok (.getfield 22, 3) := by decide +kernel
theorem dX4_cut_171 : decode cX4_cut 171 = .ok (.iload_n 1, 1) := by decide +kernel
theorem dX4_cut_172 : decode cX4_cut 172 = .ok (.iconst 0, 1) := by decide +kernel
theorem dX4_cut_173 : decode cX4_cut 173 = .ok (.iastore, 1) := by decide +kernel
theorem dX4_cut_174 : decode cX4_cut 174 = .ok (.aload_n 0, 1) := by decide +kernel
theorem dX4_cut_175 : decode cX4_cut 175 = .ok (.getfield 25, 3) := by decide +kernel
theorem dX4_cut_178 : decode cX4_cut 178 = .ok (.iload_n 1, 1) := by decide +kernel
theorem dX4_cut_179 : decode cX4_cut 179 = .ok (.iconst (-1), 1) := by decide +kernel
theorem dX4_cut_180 : decode cX4_cut 180 = .ok (.iastore, 1) := by decide +kernel
theorem dX4_cut_181 : decode cX4_cut 181 = .ok (.return_, 1) := by decide +kernel
theorem dX4_kindOf_0 : decode cX4_kindOf 0 = .ok (.iload_n 0, 1) := by decide +kernel
theorem dX4_kindOf_1 : decode cX4_kindOf 1 = .ok (.bipush 32, 2) := by decide +kernel
theorem dX4_kindOf_3 : decode cX4_kindOf 3 = .ok (.if_icmp .eq 9, 3) := by decide +kernel
theorem dX4_kindOf_6 : decode cX4_kindOf 6 = .ok (.iload_n 0, 1) := by decide +kernel
theorem dX4_kindOf_7 : decode cX4_kindOf 7 = .ok (.bipush 10, 2) := by decide +kernel
theorem dX4_kindOf_9 : decode cX4_kindOf 9 = .ok (.if_icmp .ne 5, 3) := by decide +kernel
theorem dX4_kindOf_12 : decode cX4_kindOf 12 = .ok (.iconst 1, 1) := by decide +kernel
theorem dX4_kindOf_13 : decode cX4_kindOf 13 = .ok (.ireturn, 1) := by decide +kernel
theorem dX4_kindOf_14 : decode cX4_kindOf 14 = .ok (.iload_n 0, 1) := by decide +kernel
theorem dX4_kindOf_15 : decode cX4_kindOf 15 = .ok (.bipush 97, 2) := by decide +kernel
theorem dX4_kindOf_17 : decode cX4_kindOf 17 = .ok (.if_icmp .lt 9, 3) := by decide +kernel
theorem dX4_kindOf_20 : decode cX4_kindOf 20 = .ok (.iload_n 0, 1) := by decide +kernel
theorem dX4_kindOf_21 : decode cX4_kindOf 21 = .ok (.bipush 122, 2) := by decide +kernel
theorem dX4_kindOf_23 : decode cX4_kindOf 23 = .ok (.if_icmp .le 15, 3) := by decide +kernel
theorem dX4_kindOf_26 : decode cX4_kindOf 26 = .ok (.iload_n 0, 1) := by decide +kernel
theorem dX4_kindOf_27 : decode cX4_kindOf 27 = .ok (.bipush 65, 2) := by decide +kernel
theorem dX4_kindOf_29 : decode cX4_kindOf 29 = .ok (.if_icmp .lt 11, 3) := by decide +kernel
theorem dX4_kindOf_32 : decode cX4_kindOf 32 = .ok (.iload_n 0, 1) := by decide +kernel
theorem dX4_kindOf_33 : decode cX4_kindOf 33 = .ok (.bipush 90, 2) := by decide +kernel
theorem dX4_kindOf_35 : decode cX4_kindOf 35 = .ok (.if_icmp .gt 5, 3) := by decide +kernel
theorem dX4_kindOf_38 : decode cX4_kindOf 38 = .ok (.iconst 2, 1) := by decide +kernel
theorem dX4_kindOf_39 : decode cX4_kindOf 39 = .ok (.ireturn, 1) := by decide +kernel
theorem dX4_kindOf_40 : decode cX4_kindOf 40 = .ok (.iload_n 0, 1) := by decide +kernel
theorem dX4_kindOf_41 : decode cX4_kindOf 41 = .ok (.bipush 48, 2) := by decide +kernel
theorem dX4_kindOf_43 : decode cX4_kindOf 43 = .ok (.if_icmp .lt 13, 3) := by decide +kernel
theorem dX4_kindOf_46 : decode cX4_kindOf 46 = .ok (.iload_n 0, 1) := by decide +kernel
theorem dX4_kindOf_47 : decode cX4_kindOf 47 = .ok (.bipush 57, 2) := by decide +kernel
theorem dX4_kindOf_49 : decode cX4_kindOf 49 = .ok (.if_icmp .gt 7, 3) := by decide +kernel
theorem dX4_kindOf_52 : decode cX4_kindOf 52 = .ok (.iconst 3, 1) := by decide +kernel
theorem dX4_kindOf_53 : decode cX4_kindOf 53 = .ok (.goto 4, 3) := by decide +kernel
theorem dX4_kindOf_56 : decode cX4_kindOf 56 = .ok (.iconst 4, 1) := by decide +kernel
theorem dX4_kindOf_57 : decode cX4_kindOf 57 = .ok (.ireturn, 1) := by decide +kernel
theorem dX4_behind_0 : decode cX4_behind 0 = .ok (.iload_n 1, 1) := by decide +kernel
theorem dX4_behind_1 : decode cX4_behind 1 = .ok (.istore_n 3, 1) := by decide +kernel
theorem dX4_behind_2 : decode cX4_behind 2 = .ok (.iload_n 3, 1) := by decide +kernel
theorem dX4_behind_3 : decode cX4_behind 3 = .ok (.aload_n 0, 1) := by decide +kernel
theorem dX4_behind_4 : decode cX4_behind 4 = .ok (.getfield 15, 3) := by decide +kernel
theorem dX4_behind_7 : decode cX4_behind 7 = .ok (.if_icmp .ge 29, 3) := by decide +kernel
theorem dX4_behind_10 : decode cX4_behind 10 = .ok (.iload_n 3, 1) := by decide +kernel
theorem dX4_behind_11 : decode cX4_behind 11 = .ok (.sipush 400, 3) := by decide +kernel
theorem dX4_behind_14 : decode cX4_behind 14 = .ok (.if_icmp .ge 22, 3) := by decide +kernel
theorem dX4_behind_17 : decode cX4_behind 17 = .ok (.aload_n 0, 1) := by decide +kernel
theorem dX4_behind_18 : decode cX4_behind 18 = .ok (.getfield 9, 3) := by decide +kernel
theorem dX4_behind_21 : decode cX4_behind 21 = .ok (.iload_n 3, 1) := by decide +kernel
theorem dX4_behind_22 : decode cX4_behind 22 = .ok (.iaload, 1) := by decide +kernel
theorem dX4_behind_23 : decode cX4_behind 23 = .ok (.invokestatic 56, 3) := by decide +kernel
theorem dX4_behind_26 : decode cX4_behind 26 = .ok (.iload_n 2, 1) := by decide +kernel
theorem dX4_behind_27 : decode cX4_behind 27 = .ok (.if_icmp .ne 9, 3) := by decide +kernel
theorem dX4_behind_30 : decode cX4_behind 30 = .ok (.iinc 3 1, 3) := by decide +kernel
theorem dX4_behind_33 : decode cX4_behind 33 = .ok (.goto (-31), 3) := by decide +kernel
theorem dX4_behind_36 : decode cX4_behind 36 = .ok (.iload_n 3, 1) := by decide +kernel
theorem dX4_behind_37 : decode cX4_behind 37 = .ok (.ireturn, 1) := by decide +kernel
theorem dX4_keyword_0 : decode cX4_keyword 0 = .ok (.aload_n 0, 1) := by decide +kernel
theorem dX4_keyword_1 : decode cX4_keyword 1 = .ok (.iload_n 1, 1) := by decide +kernel
theorem dX4_keyword_2 : decode cX4_keyword 2 = .ok (.iconst 2, 1) := by decide +kernel
theorem dX4_keyword_3 : decode cX4_keyword 3 = .ok (.invokevirtual 66, 3) := by decide +kernel
theorem dX4_keyword_6 : decode cX4_keyword 6 = .ok (.istore_n 2, 1) := by decide +kernel
theorem dX4_keyword_7 : decode cX4_keyword 7 = .ok (.iconst 0, 1) := by decide +kernel
theorem dX4_keyword_8 : decode cX4_keyword 8 = .ok (.istore_n 3, 1) := by decide +kernel
theorem dX4_keyword_9 : decode cX4_keyword 9 = .ok (.iload_n 1, 1) := by decide +kernel
theorem dX4_keyword_10 : decode cX4_keyword 10 = .ok (.istore 4, 2) := by decide +kernel
theorem dX4_keyword_12 : decode cX4_keyword 12 = .ok (.iconst 1, 1) := by decide +kernel
theorem dX4_keyword_13 : decode cX4_keyword 13 = .ok (.istore 5, 2) := by decide +kernel
theorem dX4_keyword_15 : decode cX4_keyword 15 = .ok (.iconst 0, 1) := by decide +kernel
theorem dX4_keyword_16 : decode cX4_keyword 16 = .ok (.istore 6, 2) := by decide +kernel
theorem dX4_keyword_18 : decode cX4_keyword 18 = .ok (.iload 6, 2) := by decide +kernel
theorem dX4_keyword_20 : decode cX4_keyword 20 = .ok (.ldc 70, 2) := by decide +kernel
theorem dX4_keyword_22 : decode cX4_keyword 22 = .ok (.invokevirtual 72, 3) := by decide +kernel
theorem dX4_keyword_25 : decode cX4_keyword 25 = .ok (.if_icmp .ge 83, 3) := by decide +kernel
theorem dX4_keyword_28 : decode cX4_keyword 28 = .ok (.ldc 70, 2) := by decide +kernel
theorem dX4_keyword_30 : decode cX4_keyword 30 = .ok (.iload 6, 2) := by decide +kernel
theorem dX4_keyword_32 : decode cX4_keyword 32 = .ok (.invokevirtual 77, 3) := by decide +kernel
theorem dX4_keyword_35 : decode cX4_keyword 35 = .ok (.istore 7, 2) := by decide +kernel
theorem dX4_keyword_37 : decode cX4_keyword 37 = .ok (.iload 7, 2) := by decide +kernel
theorem dX4_keyword_39 : decode cX4_keyword 39 = .ok (.bipush 32, 2) := by decide +kernel
theorem dX4_keyword_41 : decode cX4_keyword 41 = .ok (.if_icmp .eq 39, 3) := by decide +kernel
theorem dX4_keyword_44 : decode cX4_keyword 44 = .ok (.iload 5, 2) := by decide +kernel
theorem dX4_keyword_46 : decode cX4_keyword 46 = .ok (.ifCond .eq 25, 3) := by decide +kernel
theorem dX4_keyword_49 : decode cX4_keyword 49 = .ok (.iload 4, 2) := by decide +kernel
theorem dX4_keyword_51 : decode cX4_keyword 51 = .ok (.iload_n 2, 1) := by decide +kernel
theorem dX4_keyword_52 : decode cX4_keyword 52 = .ok (.if_icmp .ge 19, 3) := by decide +kernel
theorem dX4_keyword_55 : decode cX4_keyword 55 = .ok (.aload_n 0, 1) := by decide +kernel
theorem dX4_keyword_56 : decode cX4_keyword 56 = .ok (.getfield 9, 3) := by decide +kernel
theorem dX4_keyword_59 : decode cX4_keyword 59 = .ok (.iload 4, 2) := by decide +kernel
theorem dX4_keyword_61 : decode cX4_keyword 61 = .ok (.iaload, 1) := by decide +kernel
theorem dX4_keyword_62 : decode cX4_keyword 62 = .ok (.iload 7, 2) := by decide +kernel
theorem dX4_keyword_64 : decode cX4_keyword 64 = .ok (.if_icmp .ne 7, 3) := by decide +kernel
theorem dX4_keyword_67 : decode cX4_keyword 67 = .ok (.iconst 1, 1) := by decide +kernel
theorem dX4_keyword_68 : decode cX4_keyword 68 = .ok (.goto 4, 3) := by decide +kernel
theorem dX4_keyword_71 : decode cX4_keyword 71 = .ok (.iconst 0, 1) := by decide +kernel
theorem dX4_keyword_72 : decode cX4_keyword 72 = .ok (.istore 5, 2) := by decide +kernel
theorem dX4_keyword_74 : decode cX4_keyword 74 = .ok (.iinc 4 1, 3) := by decide +kernel
theorem dX4_keyword_77 : decode cX4_keyword 77 = .ok (.goto 25, 3) := by decide +kernel
theorem dX4_keyword_80 : decode cX4_keyword 80 = .ok (.iload 5, 2) := by decide +kernel
theorem dX4_keyword_82 : decode cX4_keyword 82 = .ok (.ifCond .eq 11, 3) := by decide +kernel
theorem dX4_keyword_85 : decode cX4_keyword 85 = .ok (.iload 4, 2) := by decide +kernel
theorem dX4_keyword_87 : decode cX4_keyword 87 = .ok (.iload_n 2, 1) := by decide +kernel
theorem dX4_keyword_88 : decode cX4_keyword 88 = .ok (.if_icmp .ne 5, 3) := by decide +kernel
theorem dX4_keyword_91 : decode cX4_keyword 91 = .ok (.iload_n 3, 1) := by decide +kernel
theorem dX4_keyword_92 : decode cX4_keyword 92 = .ok (.ireturn, 1) := by decide +kernel
theorem dX4_keyword_93 : decode cX4_keyword 93 = .ok (.iinc 3 1, 3) := by decide +kernel
theorem dX4_keyword_96 : decode cX4_keyword 96 = .ok (.iload_n 1, 1) := by decide +kernel
theorem dX4_keyword_97 : decode cX4_keyword 97 = .ok (.istore 4, 2) := by decide +kernel
theorem dX4_keyword_99 : decode cX4_keyword 99 = .ok (.iconst 1, 1) := by decide +kernel
theorem dX4_keyword_100 : decode cX4_keyword 100 = .ok (.istore 5, 2) := by decide +kernel
theorem dX4_keyword_102 : decode cX4_keyword 102 = .ok (.iinc 6 1, 3) := by decide +kernel
theorem dX4_keyword_105 : decode cX4_keyword 105 = .ok (.goto (-87), 3) := by decide +kernel
theorem dX4_keyword_108 : decode cX4_keyword 108 = .ok (.iconst (-1), 1) := by decide +kernel
theorem dX4_keyword_109 : decode cX4_keyword 109 = .ok (.ireturn, 1) := by decide +kernel
theorem dX4_number_0 : decode cX4_number 0 = .ok (.aload_n 0, 1) := by decide +kernel
theorem dX4_number_1 : decode cX4_number 1 = .ok (.iload_n 1, 1) := by decide +kernel
theorem dX4_number_2 : decode cX4_number 2 = .ok (.iconst 3, 1) := by decide +kernel
theorem dX4_number_3 : decode cX4_number 3 = .ok (.invokevirtual 66, 3) := by decide +kernel
theorem dX4_number_6 : decode cX4_number 6 = .ok (.istore_n 2, 1) := by decide +kernel
theorem dX4_number_7 : decode cX4_number 7 = .ok (.iconst 0, 1) := by decide +kernel
theorem dX4_number_8 : decode cX4_number 8 = .ok (.istore_n 3, 1) := by decide +kernel
theorem dX4_number_9 : decode cX4_number 9 = .ok (.iload_n 1, 1) := by decide +kernel
theorem dX4_number_10 : decode cX4_number 10 = .ok (.istore 4, 2) := by decide +kernel
theorem dX4_number_12 : decode cX4_number 12 = .ok (.iload 4, 2) := by decide +kernel
theorem dX4_number_14 : decode cX4_number 14 = .ok (.iload_n 2, 1) := by decide +kernel
theorem dX4_number_15 : decode cX4_number 15 = .ok (.if_icmp .ge 33, 3) := by decide +kernel
theorem dX4_number_18 : decode cX4_number 18 = .ok (.iload 4, 2) := by decide +kernel
theorem dX4_number_20 : decode cX4_number 20 = .ok (.iload_n 1, 1) := by decide +kernel
theorem dX4_number_21 : decode cX4_number 21 = .ok (.iconst 4, 1) := by decide +kernel
theorem dX4_number_22 : decode cX4_number 22 = .ok (.iadd, 1) := by decide +kernel
theorem dX4_number_23 : decode cX4_number 23 = .ok (.if_icmp .ge 25, 3) := by decide +kernel
theorem dX4_number_26 : decode cX4_number 26 = .ok (.iload_n 3, 1) := by decide +kernel
theorem dX4_number_27 : decode cX4_number 27 = .ok (.bipush 10, 2) := by decide +kernel
theorem dX4_number_29 : decode cX4_number 29 = .ok (.imul, 1) := by decide +kernel
theorem dX4_number_30 : decode cX4_number 30 = .ok (.aload_n 0, 1) := by decide +kernel
theorem dX4_number_31 : decode cX4_number 31 = .ok (.getfield 9, 3) := by decide +kernel
theorem dX4_number_34 : decode cX4_number 34 = .ok (.iload 4, 2) := by decide +kernel
theorem dX4_number_36 : decode cX4_number 36 = .ok (.iaload, 1) := by decide +kernel
theorem dX4_number_37 : decode cX4_number 37 = .ok (.iadd, 1) := by decide +kernel
theorem dX4_number_38 : decode cX4_number 38 = .ok (.bipush 48, 2) := by decide +kernel
theorem dX4_number_40 : decode cX4_number 40 = .ok (.isub, 1) := by decide +kernel
theorem dX4_number_41 : decode cX4_number 41 = .ok (.istore_n 3, 1) := by decide +kernel
theorem dX4_number_42 : decode cX4_number 42 = .ok (.iinc 4 1, 3) := by decide +kernel
theorem dX4_number_45 : decode cX4_number 45 = .ok (.goto (-33), 3) := by decide +kernel
theorem dX4_number_48 : decode cX4_number 48 = .ok (.iload_n 2, 1) := by decide +kernel
theorem dX4_number_49 : decode cX4_number 49 = .ok (.iload_n 1, 1) := by decide +kernel
theorem dX4_number_50 : decode cX4_number 50 = .ok (.isub, 1) := by decide +kernel
theorem dX4_number_51 : decode cX4_number 51 = .ok (.iconst 4, 1) := by decide +kernel
theorem dX4_number_52 : decode cX4_number 52 = .ok (.if_icmp .le 7, 3) := by decide +kernel
theorem dX4_number_55 : decode cX4_number 55 = .ok (.iconst (-1), 1) := by decide +kernel
theorem dX4_number_56 : decode cX4_number 56 = .ok (.goto 4, 3) := by decide +kernel
theorem dX4_number_59 : decode cX4_number 59 = .ok (.iload_n 3, 1) := by decide +kernel
theorem dX4_number_60 : decode cX4_number 60 = .ok (.ireturn, 1) := by decide +kernel
theorem dX4_kind_0 : decode cX4_kind 0 = .ok (.aload_n 0, 1) := by decide +kernel
theorem dX4_kind_1 : decode cX4_kind 1 = .ok (.getfield 28, 3) := by decide +kernel
theorem dX4_kind_4 : decode cX4_kind 4 = .ok (.ifCond .lt 27, 3) := by decide +kernel
theorem dX4_kind_7 : decode cX4_kind 7 = .ok (.aload_n 0, 1) := by decide +kernel
theorem dX4_kind_8 : decode cX4_kind 8 = .ok (.getfield 28, 3) := by decide +kernel
theorem dX4_kind_11 : decode cX4_kind 11 = .ok (.aload_n 0, 1) := by decide +kernel
theorem dX4_kind_12 : decode cX4_kind 12 = .ok (.getfield 22, 3) := by decide +kernel
theorem dX4_kind_15 : decode cX4_kind 15 = .ok (.arraylength, 1) := by decide +kernel
theorem dX4_kind_16 : decode cX4_kind 16 = .ok (.if_icmp .ge 15, 3) := by decide +kernel
theorem dX4_kind_19 : decode cX4_kind 19 = .ok (.aload_n 0, 1) := by decide +kernel
theorem dX4_kind_20 : decode cX4_kind 20 = .ok (.getfield 22, 3) := by decide +kernel
theorem dX4_kind_23 : decode cX4_kind 23 = .ok (.aload_n 0, 1) := by decide +kernel
theorem dX4_kind_24 : decode cX4_kind 24 = .ok (.getfield 28, 3) := by decide +kernel
theorem dX4_kind_27 : decode cX4_kind 27 = .ok (.iaload, 1) := by decide +kernel
theorem dX4_kind_28 : decode cX4_kind 28 = .ok (.goto 4, 3) := by decide +kernel
theorem dX4_kind_31 : decode cX4_kind 31 = .ok (.iconst 0, 1) := by decide +kernel
theorem dX4_kind_32 : decode cX4_kind 32 = .ok (.ireturn, 1) := by decide +kernel
theorem dX4_value_0 : decode cX4_value 0 = .ok (.aload_n 0, 1) := by decide +kernel
theorem dX4_value_1 : decode cX4_value 1 = .ok (.getfield 28, 3) := by decide +kernel
theorem dX4_value_4 : decode cX4_value 4 = .ok (.ifCond .lt 27, 3) := by decide +kernel
theorem dX4_value_7 : decode cX4_value 7 = .ok (.aload_n 0, 1) := by decide +kernel
theorem dX4_value_8 : decode cX4_value 8 = .ok (.getfield 28, 3) := by decide +kernel
theorem dX4_value_11 : decode cX4_value 11 = .ok (.aload_n 0, 1) := by decide +kernel
theorem dX4_value_12 : decode cX4_value 12 = .ok (.getfield 25, 3) := by decide +kernel
theorem dX4_value_15 : decode cX4_value 15 = .ok (.arraylength, 1) := by decide +kernel
theorem dX4_value_16 : decode cX4_value 16 = .ok (.if_icmp .ge 15, 3) := by decide +kernel
theorem dX4_value_19 : decode cX4_value 19 = .ok (.aload_n 0, 1) := by decide +kernel
theorem dX4_value_20 : decode cX4_value 20 = .ok (.getfield 25, 3) := by decide +kernel
theorem dX4_value_23 : decode cX4_value 23 = .ok (.aload_n 0, 1) := by decide +kernel
theorem dX4_value_24 : decode cX4_value 24 = .ok (.getfield 28, 3) := by decide +kernel
theorem dX4_value_27 : decode cX4_value 27 = .ok (.iaload, 1) := by decide +kernel
theorem dX4_value_28 : decode cX4_value 28 = .ok (.goto 4, 3) := by decide +kernel
theorem dX4_value_31 : decode cX4_value 31 = .ok (.iconst (-1), 1) := by decide +kernel
theorem dX4_value_32 : decode cX4_value 32 = .ok (.ireturn, 1) := by decide +kernel
theorem dX4_isSign_0 : decode cX4_isSign 0 = .ok (.aload_n 0, 1) := by decide +kernel
theorem dX4_isSign_1 : decode cX4_isSign 1 = .ok (.invokevirtual 81, 3) := by decide +kernel
theorem dX4_isSign_4 : decode cX4_isSign 4 = .ok (.iconst 4, 1) := by decide +kernel
theorem dX4_isSign_5 : decode cX4_isSign 5 = .ok (.if_icmp .ne 15, 3) := by decide +kernel
theorem dX4_isSign_8 : decode cX4_isSign 8 = .ok (.aload_n 0, 1) := by decide +kernel
theorem dX4_isSign_9 : decode cX4_isSign 9 = .ok (.invokevirtual 84, 3) := by decide +kernel
theorem dX4_isSign_12 : decode cX4_isSign 12 = .ok (.iload_n 1, 1) := by decide +kernel
theorem dX4_isSign_13 : decode cX4_isSign 13 = .ok (.if_icmp .ne 7, 3) := by decide +kernel
theorem dX4_isSign_16 : decode cX4_isSign 16 = .ok (.iconst 1, 1) := by decide +kernel
theorem dX4_isSign_17 : decode cX4_isSign 17 = .ok (.goto 4, 3) := by decide +kernel
theorem dX4_isSign_20 : decode cX4_isSign 20 = .ok (.iconst 0, 1) := by decide +kernel
theorem dX4_isSign_21 : decode cX4_isSign 21 = .ok (.ireturn, 1) := by decide +kernel
theorem dX4_isWord_0 : decode cX4_isWord 0 = .ok (.aload_n 0, 1) := by decide +kernel
theorem dX4_isWord_1 : decode cX4_isWord 1 = .ok (.invokevirtual 81, 3) := by decide +kernel
theorem dX4_isWord_4 : decode cX4_isWord 4 = .ok (.iconst 2, 1) := by decide +kernel
theorem dX4_isWord_5 : decode cX4_isWord 5 = .ok (.if_icmp .ne 15, 3) := by decide +kernel
theorem dX4_isWord_8 : decode cX4_isWord 8 = .ok (.aload_n 0, 1) := by decide +kernel
theorem dX4_isWord_9 : decode cX4_isWord 9 = .ok (.invokevirtual 84, 3) := by decide +kernel
theorem dX4_isWord_12 : decode cX4_isWord 12 = .ok (.iload_n 1, 1) := by decide +kernel
theorem dX4_isWord_13 : decode cX4_isWord 13 = .ok (.if_icmp .ne 7, 3) := by decide +kernel
theorem dX4_isWord_16 : decode cX4_isWord 16 = .ok (.iconst 1, 1) := by decide +kernel
theorem dX4_isWord_17 : decode cX4_isWord 17 = .ok (.goto 4, 3) := by decide +kernel
theorem dX4_isWord_20 : decode cX4_isWord 20 = .ok (.iconst 0, 1) := by decide +kernel
theorem dX4_isWord_21 : decode cX4_isWord 21 = .ok (.ireturn, 1) := by decide +kernel
theorem dX4_fail_0 : decode cX4_fail 0 = .ok (.aload_n 0, 1) := by decide +kernel
theorem dX4_fail_1 : decode cX4_fail 1 = .ok (.iload_n 1, 1) := by decide +kernel
theorem dX4_fail_2 : decode cX4_fail 2 = .ok (.putfield 34, 3) := by decide +kernel
theorem dX4_fail_5 : decode cX4_fail 5 = .ok (.aload_n 0, 1) := by decide +kernel
theorem dX4_fail_6 : decode cX4_fail 6 = .ok (.iload_n 2, 1) := by decide +kernel
theorem dX4_fail_7 : decode cX4_fail 7 = .ok (.ifCond .lt 21, 3) := by decide +kernel
theorem dX4_fail_10 : decode cX4_fail 10 = .ok (.iload_n 2, 1) := by decide +kernel
theorem dX4_fail_11 : decode cX4_fail 11 = .ok (.aload_n 0, 1) := by decide +kernel
theorem dX4_fail_12 : decode cX4_fail 12 = .ok (.getfield 19, 3) := by decide +kernel
theorem dX4_fail_15 : decode cX4_fail 15 = .ok (.arraylength, 1) := by decide +kernel
theorem dX4_fail_16 : decode cX4_fail 16 = .ok (.if_icmp .ge 12, 3) := by decide +kernel
theorem dX4_fail_19 : decode cX4_fail 19 = .ok (.aload_n 0, 1) := by decide +kernel
theorem dX4_fail_20 : decode cX4_fail 20 = .ok (.getfield 19, 3) := by decide +kernel
theorem dX4_fail_23 : decode cX4_fail 23 = .ok (.iload_n 2, 1) := by decide +kernel
theorem dX4_fail_24 : decode cX4_fail 24 = .ok (.iaload, 1) := by decide +kernel
theorem dX4_fail_25 : decode cX4_fail 25 = .ok (.goto 7, 3) := by decide +kernel
theorem dX4_fail_28 : decode cX4_fail 28 = .ok (.aload_n 0, 1) := by decide +kernel
theorem dX4_fail_29 : decode cX4_fail 29 = .ok (.getfield 15, 3) := by decide +kernel
theorem dX4_fail_32 : decode cX4_fail 32 = .ok (.putfield 37, 3) := by decide +kernel
theorem dX4_fail_35 : decode cX4_fail 35 = .ok (.iconst 0, 1) := by decide +kernel
theorem dX4_fail_36 : decode cX4_fail 36 = .ok (.ireturn, 1) := by decide +kernel
theorem dX4_sign_0 : decode cX4_sign 0 = .ok (.aload_n 0, 1) := by decide +kernel
theorem dX4_sign_1 : decode cX4_sign 1 = .ok (.iload_n 1, 1) := by decide +kernel
theorem dX4_sign_2 : decode cX4_sign 2 = .ok (.invokevirtual 87, 3) := by decide +kernel
theorem dX4_sign_5 : decode cX4_sign 5 = .ok (.ifCond .ne 13, 3) := by decide +kernel
theorem dX4_sign_8 : decode cX4_sign 8 = .ok (.aload_n 0, 1) := by decide +kernel
theorem dX4_sign_9 : decode cX4_sign 9 = .ok (.iconst 1, 1) := by decide +kernel
theorem dX4_sign_10 : decode cX4_sign 10 = .ok (.aload_n 0, 1) := by decide +kernel
theorem dX4_sign_11 : decode cX4_sign 11 = .ok (.getfield 28, 3) := by decide +kernel
theorem dX4_sign_14 : decode cX4_sign 14 = .ok (.invokevirtual 91, 3) := by decide +kernel
theorem dX4_sign_17 : decode cX4_sign 17 = .ok (.ireturn, 1) := by decide +kernel
theorem dX4_sign_18 : decode cX4_sign 18 = .ok (.aload_n 0, 1) := by decide +kernel
theorem dX4_sign_19 : decode cX4_sign 19 = .ok (.dup, 1) := by decide +kernel
theorem dX4_sign_20 : decode cX4_sign 20 = .ok (.getfield 28, 3) := by decide +kernel
theorem dX4_sign_23 : decode cX4_sign 23 = .ok (.iconst 1, 1) := by decide +kernel
theorem dX4_sign_24 : decode cX4_sign 24 = .ok (.iadd, 1) := by decide +kernel
theorem dX4_sign_25 : decode cX4_sign 25 = .ok (.putfield 28, 3) := by decide +kernel
theorem dX4_sign_28 : decode cX4_sign 28 = .ok (.iconst 1, 1) := by decide +kernel
theorem dX4_sign_29 : decode cX4_sign 29 = .ok (.ireturn, 1) := by decide +kernel
theorem dX4_word_0 : decode cX4_word 0 = .ok (.aload_n 0, 1) := by decide +kernel
theorem dX4_word_1 : decode cX4_word 1 = .ok (.iload_n 1, 1) := by decide +kernel
theorem dX4_word_2 : decode cX4_word 2 = .ok (.invokevirtual 95, 3) := by decide +kernel
theorem dX4_word_5 : decode cX4_word 5 = .ok (.ifCond .ne 13, 3) := by decide +kernel
theorem dX4_word_8 : decode cX4_word 8 = .ok (.aload_n 0, 1) := by decide +kernel
theorem dX4_word_9 : decode cX4_word 9 = .ok (.iconst 1, 1) := by decide +kernel
theorem dX4_word_10 : decode cX4_word 10 = .ok (.aload_n 0, 1) := by decide +kernel
theorem dX4_word_11 : decode cX4_word 11 = .ok (.getfield 28, 3) := by decide +kernel
theorem dX4_word_14 : decode cX4_word 14 = .ok (.invokevirtual 91, 3) := by decide +kernel
theorem dX4_word_17 : decode cX4_word 17 = .ok (.ireturn, 1) := by decide +kernel
theorem dX4_word_18 : decode cX4_word 18 = .ok (.aload_n 0, 1) := by decide +kernel
theorem dX4_word_19 : decode cX4_word 19 = .ok (.dup, 1) := by decide +kernel
theorem dX4_word_20 : decode cX4_word 20 = .ok (.getfield 28, 3) := by decide +kernel
theorem dX4_word_23 : decode cX4_word 23 = .ok (.iconst 1, 1) := by decide +kernel
theorem dX4_word_24 : decode cX4_word 24 = .ok (.iadd, 1) := by decide +kernel
theorem dX4_word_25 : decode cX4_word 25 = .ok (.putfield 28, 3) := by decide +kernel
theorem dX4_word_28 : decode cX4_word 28 = .ok (.iconst 1, 1) := by decide +kernel
theorem dX4_word_29 : decode cX4_word 29 = .ok (.ireturn, 1) := by decide +kernel
theorem dX4_takes_0 : decode cX4_takes 0 = .ok (.aload_n 0, 1) := by decide +kernel
theorem dX4_takes_1 : decode cX4_takes 1 = .ok (.invokevirtual 81, 3) := by decide +kernel
theorem dX4_takes_4 : decode cX4_takes 4 = .ok (.iconst 3, 1) := by decide +kernel
theorem dX4_takes_5 : decode cX4_takes 5 = .ok (.if_icmp .ne 11, 3) := by decide +kernel
theorem dX4_takes_8 : decode cX4_takes 8 = .ok (.aload_n 0, 1) := by decide +kernel
theorem dX4_takes_9 : decode cX4_takes 9 = .ok (.invokevirtual 84, 3) := by decide +kernel
theorem dX4_takes_12 : decode cX4_takes 12 = .ok (.iconst (-1), 1) := by decide +kernel
theorem dX4_takes_13 : decode cX4_takes 13 = .ok (.if_icmp .ne 13, 3) := by decide +kernel
theorem dX4_takes_16 : decode cX4_takes 16 = .ok (.aload_n 0, 1) := by decide +kernel
theorem dX4_takes_17 : decode cX4_takes 17 = .ok (.iconst 1, 1) := by decide +kernel
theorem dX4_takes_18 : decode cX4_takes 18 = .ok (.aload_n 0, 1) := by decide +kernel
theorem dX4_takes_19 : decode cX4_takes 19 = .ok (.getfield 28, 3) := by decide +kernel
theorem dX4_takes_22 : decode cX4_takes 22 = .ok (.invokevirtual 91, 3) := by decide +kernel
theorem dX4_takes_25 : decode cX4_takes 25 = .ok (.ireturn, 1) := by decide +kernel
theorem dX4_takes_26 : decode cX4_takes 26 = .ok (.aload_n 0, 1) := by decide +kernel
theorem dX4_takes_27 : decode cX4_takes 27 = .ok (.invokevirtual 84, 3) := by decide +kernel
theorem dX4_takes_30 : decode cX4_takes 30 = .ok (.iload_n 1, 1) := by decide +kernel
theorem dX4_takes_31 : decode cX4_takes 31 = .ok (.if_icmp .lt 11, 3) := by decide +kernel
theorem dX4_takes_34 : decode cX4_takes 34 = .ok (.aload_n 0, 1) := by decide +kernel
theorem dX4_takes_35 : decode cX4_takes 35 = .ok (.invokevirtual 84, 3) := by decide +kernel
theorem dX4_takes_38 : decode cX4_takes 38 = .ok (.iload_n 2, 1) := by decide +kernel
theorem dX4_takes_39 : decode cX4_takes 39 = .ok (.if_icmp .le 13, 3) := by decide +kernel
theorem dX4_takes_42 : decode cX4_takes 42 = .ok (.aload_n 0, 1) := by decide +kernel
theorem dX4_takes_43 : decode cX4_takes 43 = .ok (.iconst 2, 1) := by decide +kernel
theorem dX4_takes_44 : decode cX4_takes 44 = .ok (.aload_n 0, 1) := by decide +kernel
theorem dX4_takes_45 : decode cX4_takes 45 = .ok (.getfield 28, 3) := by decide +kernel
theorem dX4_takes_48 : decode cX4_takes 48 = .ok (.invokevirtual 91, 3) := by decide +kernel
theorem dX4_takes_51 : decode cX4_takes 51 = .ok (.ireturn, 1) := by decide +kernel
theorem dX4_takes_52 : decode cX4_takes 52 = .ok (.aload_n 0, 1) := by decide +kernel
theorem dX4_takes_53 : decode cX4_takes 53 = .ok (.aload_n 0, 1) := by decide +kernel
theorem dX4_takes_54 : decode cX4_takes 54 = .ok (.invokevirtual 84, 3) := by decide +kernel
theorem dX4_takes_57 : decode cX4_takes 57 = .ok (.putfield 31, 3) := by decide +kernel
theorem dX4_takes_60 : decode cX4_takes 60 = .ok (.aload_n 0, 1) := by decide +kernel
theorem dX4_takes_61 : decode cX4_takes 61 = .ok (.dup, 1) := by decide +kernel
theorem dX4_takes_62 : decode cX4_takes 62 = .ok (.getfield 28, 3) := by decide +kernel
theorem dX4_takes_65 : decode cX4_takes 65 = .ok (.iconst 1, 1) := by decide +kernel
theorem dX4_takes_66 : decode cX4_takes 66 = .ok (.iadd, 1) := by decide +kernel
theorem dX4_takes_67 : decode cX4_takes 67 = .ok (.putfield 28, 3) := by decide +kernel
theorem dX4_takes_70 : decode cX4_takes 70 = .ok (.iconst 1, 1) := by decide +kernel
theorem dX4_takes_71 : decode cX4_takes 71 = .ok (.ireturn, 1) := by decide +kernel
theorem dX4_opens_0 : decode cX4_opens 0 = .ok (.aload_n 0, 1) := by decide +kernel
theorem dX4_opens_1 : decode cX4_opens 1 = .ok (.invokevirtual 81, 3) := by decide +kernel
theorem dX4_opens_4 : decode cX4_opens 4 = .ok (.iconst 2, 1) := by decide +kernel
theorem dX4_opens_5 : decode cX4_opens 5 = .ok (.if_icmp .ne 19, 3) := by decide +kernel
theorem dX4_opens_8 : decode cX4_opens 8 = .ok (.aload_n 0, 1) := by decide +kernel
theorem dX4_opens_9 : decode cX4_opens 9 = .ok (.invokevirtual 84, 3) := by decide +kernel
theorem dX4_opens_12 : decode cX4_opens 12 = .ok (.iload_n 2, 1) := by decide +kernel
theorem dX4_opens_13 : decode cX4_opens 13 = .ok (.if_icmp .lt 11, 3) := by decide +kernel
theorem dX4_opens_16 : decode cX4_opens 16 = .ok (.aload_n 0, 1) := by decide +kernel
theorem dX4_opens_17 : decode cX4_opens 17 = .ok (.invokevirtual 84, 3) := by decide +kernel
theorem dX4_opens_20 : decode cX4_opens 20 = .ok (.iload_n 3, 1) := by decide +kernel
theorem dX4_opens_21 : decode cX4_opens 21 = .ok (.if_icmp .le 13, 3) := by decide +kernel
theorem dX4_opens_24 : decode cX4_opens 24 = .ok (.aload_n 0, 1) := by decide +kernel
theorem dX4_opens_25 : decode cX4_opens 25 = .ok (.iconst 1, 1) := by decide +kernel
theorem dX4_opens_26 : decode cX4_opens 26 = .ok (.aload_n 0, 1) := by decide +kernel
theorem dX4_opens_27 : decode cX4_opens 27 = .ok (.getfield 28, 3) := by decide +kernel
theorem dX4_opens_30 : decode cX4_opens 30 = .ok (.invokevirtual 91, 3) := by decide +kernel
theorem dX4_opens_33 : decode cX4_opens 33 = .ok (.ireturn, 1) := by decide +kernel
theorem dX4_opens_34 : decode cX4_opens 34 = .ok (.iload_n 1, 1) := by decide +kernel
theorem dX4_opens_35 : decode cX4_opens 35 = .ok (.bipush 16, 2) := by decide +kernel
theorem dX4_opens_37 : decode cX4_opens 37 = .ok (.if_icmp .lt 13, 3) := by decide +kernel
theorem dX4_opens_40 : decode cX4_opens 40 = .ok (.aload_n 0, 1) := by decide +kernel
theorem dX4_opens_41 : decode cX4_opens 41 = .ok (.iconst 3, 1) := by decide +kernel
theorem dX4_opens_42 : decode cX4_opens 42 = .ok (.aload_n 0, 1) := by decide +kernel
theorem dX4_opens_43 : decode cX4_opens 43 = .ok (.getfield 28, 3) := by decide +kernel
theorem dX4_opens_46 : decode cX4_opens 46 = .ok (.invokevirtual 91, 3) := by decide +kernel
theorem dX4_opens_49 : decode cX4_opens 49 = .ok (.ireturn, 1) := by decide +kernel
theorem dX4_opens_50 : decode cX4_opens 50 = .ok (.aload_n 0, 1) := by decide +kernel
theorem dX4_opens_51 : decode cX4_opens 51 = .ok (.aload_n 0, 1) := by decide +kernel
theorem dX4_opens_52 : decode cX4_opens 52 = .ok (.invokevirtual 84, 3) := by decide +kernel
theorem dX4_opens_55 : decode cX4_opens 55 = .ok (.putfield 31, 3) := by decide +kernel
theorem dX4_opens_58 : decode cX4_opens 58 = .ok (.aload_n 0, 1) := by decide +kernel
theorem dX4_opens_59 : decode cX4_opens 59 = .ok (.dup, 1) := by decide +kernel
theorem dX4_opens_60 : decode cX4_opens 60 = .ok (.getfield 28, 3) := by decide +kernel
theorem dX4_opens_63 : decode cX4_opens 63 = .ok (.iconst 1, 1) := by decide +kernel
theorem dX4_opens_64 : decode cX4_opens 64 = .ok (.iadd, 1) := by decide +kernel
theorem dX4_opens_65 : decode cX4_opens 65 = .ok (.putfield 28, 3) := by decide +kernel
theorem dX4_opens_68 : decode cX4_opens 68 = .ok (.iconst 1, 1) := by decide +kernel
theorem dX4_opens_69 : decode cX4_opens 69 = .ok (.ireturn, 1) := by decide +kernel
theorem dX4_readLaw_0 : decode cX4_readLaw 0 = .ok (.aload_n 0, 1) := by decide +kernel
theorem dX4_readLaw_1 : decode cX4_readLaw 1 = .ok (.getfield 43, 3) := by decide +kernel
theorem dX4_readLaw_4 : decode cX4_readLaw 4 = .ok (.invokevirtual 98, 3) := by decide +kernel
theorem dX4_readLaw_7 : decode cX4_readLaw 7 = .ok (.iconst 0, 1) := by decide +kernel
theorem dX4_readLaw_8 : decode cX4_readLaw 8 = .ok (.istore_n 1, 1) := by decide +kernel
theorem dX4_readLaw_9 : decode cX4_readLaw 9 = .ok (.iload_n 1, 1) := by decide +kernel
theorem dX4_readLaw_10 : decode cX4_readLaw 10 = .ok (.bipush 16, 2) := by decide +kernel
theorem dX4_readLaw_12 : decode cX4_readLaw 12 = .ok (.if_icmp .gt 131, 3) := by decide +kernel
theorem dX4_readLaw_15 : decode cX4_readLaw 15 = .ok (.aload_n 0, 1) := by decide +kernel
theorem dX4_readLaw_16 : decode cX4_readLaw 16 = .ok (.invokevirtual 81, 3) := by decide +kernel
theorem dX4_readLaw_19 : decode cX4_readLaw 19 = .ok (.ifCond .ne 5, 3) := by decide +kernel
theorem dX4_readLaw_22 : decode cX4_readLaw 22 = .ok (.iconst 1, 1) := by decide +kernel
theorem dX4_readLaw_23 : decode cX4_readLaw 23 = .ok (.ireturn, 1) := by decide +kernel
theorem dX4_readLaw_24 : decode cX4_readLaw 24 = .ok (.aload_n 0, 1) := by decide +kernel
theorem dX4_readLaw_25 : decode cX4_readLaw 25 = .ok (.iload_n 1, 1) := by decide +kernel
theorem dX4_readLaw_26 : decode cX4_readLaw 26 = .ok (.iconst 0, 1) := by decide +kernel
theorem dX4_readLaw_27 : decode cX4_readLaw 27 = .ok (.iconst 2, 1) := by decide +kernel
theorem dX4_readLaw_28 : decode cX4_readLaw 28 = .ok (.invokevirtual 101, 3) := by decide +kernel
theorem dX4_readLaw_31 : decode cX4_readLaw 31 = .ok (.ifCond .ne 5, 3) := by decide +kernel
theorem dX4_readLaw_34 : decode cX4_readLaw 34 = .ok (.iconst 0, 1) := by decide +kernel
theorem dX4_readLaw_35 : decode cX4_readLaw 35 = .ok (.ireturn, 1) := by decide +kernel
theorem dX4_readLaw_36 : decode cX4_readLaw 36 = .ok (.aload_n 0, 1) := by decide +kernel
theorem dX4_readLaw_37 : decode cX4_readLaw 37 = .ok (.getfield 31, 3) := by decide +kernel
theorem dX4_readLaw_40 : decode cX4_readLaw 40 = .ok (.istore_n 2, 1) := by decide +kernel
theorem dX4_readLaw_41 : decode cX4_readLaw 41 = .ok (.aload_n 0, 1) := by decide +kernel
theorem dX4_readLaw_42 : decode cX4_readLaw 42 = .ok (.getfield 43, 3) := by decide +kernel
theorem dX4_readLaw_45 : decode cX4_readLaw 45 = .ok (.getfield 105, 3) := by decide +kernel
theorem dX4_readLaw_48 : decode cX4_readLaw 48 = .ok (.getfield 108, 3) := by decide +kernel
theorem dX4_readLaw_51 : decode cX4_readLaw 51 = .ok (.istore_n 3, 1) := by decide +kernel
theorem dX4_readLaw_52 : decode cX4_readLaw 52 = .ok (.aload_n 0, 1) := by decide +kernel
theorem dX4_readLaw_53 : decode cX4_readLaw 53 = .ok (.invokevirtual 110, 3) := by decide +kernel
theorem dX4_readLaw_56 : decode cX4_readLaw 56 = .ok (.ifCond .ne 5, 3) := by decide +kernel
theorem dX4_readLaw_59 : decode cX4_readLaw 59 = .ok (.iconst 0, 1) := by decide +kernel
theorem dX4_readLaw_60 : decode cX4_readLaw 60 = .ok (.ireturn, 1) := by decide +kernel
theorem dX4_readLaw_61 : decode cX4_readLaw 61 = .ok (.aload_n 0, 1) := by decide +kernel
theorem dX4_readLaw_62 : decode cX4_readLaw 62 = .ok (.getfield 43, 3) := by decide +kernel
theorem dX4_readLaw_65 : decode cX4_readLaw 65 = .ok (.getfield 105, 3) := by decide +kernel
theorem dX4_readLaw_68 : decode cX4_readLaw 68 = .ok (.getfield 108, 3) := by decide +kernel
theorem dX4_readLaw_71 : decode cX4_readLaw 71 = .ok (.istore 4, 2) := by decide +kernel
theorem dX4_readLaw_73 : decode cX4_readLaw 73 = .ok (.aload_n 0, 1) := by decide +kernel
theorem dX4_readLaw_74 : decode cX4_readLaw 74 = .ok (.iconst 3, 1) := by decide +kernel
theorem dX4_readLaw_75 : decode cX4_readLaw 75 = .ok (.invokevirtual 95, 3) := by decide +kernel
theorem dX4_readLaw_78 : decode cX4_readLaw 78 = .ok (.ifCond .eq 23, 3) := by decide +kernel
theorem dX4_readLaw_81 : decode cX4_readLaw 81 = .ok (.aload_n 0, 1) := by decide +kernel
theorem dX4_readLaw_82 : decode cX4_readLaw 82 = .ok (.dup, 1) := by decide +kernel
theorem dX4_readLaw_83 : decode cX4_readLaw 83 = .ok (.getfield 28, 3) := by decide +kernel
theorem dX4_readLaw_86 : decode cX4_readLaw 86 = .ok (.iconst 1, 1) := by decide +kernel
theorem dX4_readLaw_87 : decode cX4_readLaw 87 = .ok (.iadd, 1) := by decide +kernel
theorem dX4_readLaw_88 : decode cX4_readLaw 88 = .ok (.putfield 28, 3) := by decide +kernel
theorem dX4_readLaw_91 : decode cX4_readLaw 91 = .ok (.aload_n 0, 1) := by decide +kernel
theorem dX4_readLaw_92 : decode cX4_readLaw 92 = .ok (.iconst 0, 1) := by decide +kernel
theorem dX4_readLaw_93 : decode cX4_readLaw 93 = .ok (.invokevirtual 114, 3) := by decide +kernel
theorem dX4_readLaw_96 : decode cX4_readLaw 96 = .ok (.ifCond .ne 5, 3) := by decide +kernel
theorem dX4_readLaw_99 : decode cX4_readLaw 99 = .ok (.iconst 0, 1) := by decide +kernel
theorem dX4_readLaw_100 : decode cX4_readLaw 100 = .ok (.ireturn, 1) := by decide +kernel
theorem dX4_readLaw_101 : decode cX4_readLaw 101 = .ok (.aload_n 0, 1) := by decide +kernel
theorem dX4_readLaw_102 : decode cX4_readLaw 102 = .ok (.bipush 59, 2) := by decide +kernel
theorem dX4_readLaw_104 : decode cX4_readLaw 104 = .ok (.invokevirtual 117, 3) := by decide +kernel
theorem dX4_readLaw_107 : decode cX4_readLaw 107 = .ok (.ifCond .ne 5, 3) := by decide +kernel
theorem dX4_readLaw_110 : decode cX4_readLaw 110 = .ok (.iconst 0, 1) := by decide +kernel
theorem dX4_readLaw_111 : decode cX4_readLaw 111 = .ok (.ireturn, 1) := by decide +kernel
theorem dX4_readLaw_112 : decode cX4_readLaw 112 = .ok (.aload_n 0, 1) := by decide +kernel
theorem dX4_readLaw_113 : decode cX4_readLaw 113 = .ok (.getfield 43, 3) := by decide +kernel
theorem dX4_readLaw_116 : decode cX4_readLaw 116 = .ok (.getfield 120, 3) := by decide +kernel
theorem dX4_readLaw_119 : decode cX4_readLaw 119 = .ok (.iload_n 2, 1) := by decide +kernel
theorem dX4_readLaw_120 : decode cX4_readLaw 120 = .ok (.iload_n 3, 1) := by decide +kernel
theorem dX4_readLaw_121 : decode cX4_readLaw 121 = .ok (.iload 4, 2) := by decide +kernel
theorem dX4_readLaw_123 : decode cX4_readLaw 123 = .ok (.aload_n 0, 1) := by decide +kernel
theorem dX4_readLaw_124 : decode cX4_readLaw 124 = .ok (.getfield 43, 3) := by decide +kernel
theorem dX4_readLaw_127 : decode cX4_readLaw 127 = .ok (.getfield 105, 3) := by decide +kernel
theorem dX4_readLaw_130 : decode cX4_readLaw 130 = .ok (.getfield 108, 3) := by decide +kernel
theorem dX4_readLaw_133 : decode cX4_readLaw 133 = .ok (.invokevirtual 123, 3) := by decide +kernel
theorem dX4_readLaw_136 : decode cX4_readLaw 136 = .ok (.pop, 1) := by decide +kernel
theorem dX4_readLaw_137 : decode cX4_readLaw 137 = .ok (.iinc 1 1, 3) := by decide +kernel
theorem dX4_readLaw_140 : decode cX4_readLaw 140 = .ok (.goto (-131), 3) := by decide +kernel
theorem dX4_readLaw_143 : decode cX4_readLaw 143 = .ok (.iconst 0, 1) := by decide +kernel
theorem dX4_readLaw_144 : decode cX4_readLaw 144 = .ok (.ireturn, 1) := by decide +kernel
theorem dX4_condition_0 : decode cX4_condition 0 = .ok (.iconst 0, 1) := by decide +kernel
theorem dX4_condition_1 : decode cX4_condition 1 = .ok (.istore_n 2, 1) := by decide +kernel
theorem dX4_condition_2 : decode cX4_condition 2 = .ok (.iconst 0, 1) := by decide +kernel
theorem dX4_condition_3 : decode cX4_condition 3 = .ok (.istore_n 3, 1) := by decide +kernel
theorem dX4_condition_4 : decode cX4_condition 4 = .ok (.iconst 0, 1) := by decide +kernel
theorem dX4_condition_5 : decode cX4_condition 5 = .ok (.istore 4, 2) := by decide +kernel
theorem dX4_condition_7 : decode cX4_condition 7 = .ok (.iload 4, 2) := by decide +kernel
theorem dX4_condition_9 : decode cX4_condition 9 = .ok (.sipush 400, 3) := by decide +kernel
theorem dX4_condition_12 : decode cX4_condition 12 = .ok (.if_icmp .gt 89, 3) := by decide +kernel
theorem dX4_condition_15 : decode cX4_condition 15 = .ok (.aload_n 0, 1) := by decide +kernel
theorem dX4_condition_16 : decode cX4_condition 16 = .ok (.iload_n 1, 1) := by decide +kernel
theorem dX4_condition_17 : decode cX4_condition 17 = .ok (.invokevirtual 127, 3) := by decide +kernel
theorem dX4_condition_20 : decode cX4_condition 20 = .ok (.ifCond .ne 5, 3) := by decide +kernel
theorem dX4_condition_23 : decode cX4_condition 23 = .ok (.iconst 0, 1) := by decide +kernel
theorem dX4_condition_24 : decode cX4_condition 24 = .ok (.ireturn, 1) := by decide +kernel
theorem dX4_condition_25 : decode cX4_condition 25 = .ok (.iload_n 2, 1) := by decide +kernel
theorem dX4_condition_26 : decode cX4_condition 26 = .ok (.ifCond .eq 18, 3) := by decide +kernel
theorem dX4_condition_29 : decode cX4_condition 29 = .ok (.aload_n 0, 1) := by decide +kernel
theorem dX4_condition_30 : decode cX4_condition 30 = .ok (.getfield 43, 3) := by decide +kernel
theorem dX4_condition_33 : decode cX4_condition 33 = .ok (.getfield 105, 3) := by decide +kernel
theorem dX4_condition_36 : decode cX4_condition 36 = .ok (.iconst 5, 1) := by decide +kernel
theorem dX4_condition_37 : decode cX4_condition 37 = .ok (.iconst 0, 1) := by decide +kernel
theorem dX4_condition_38 : decode cX4_condition 38 = .ok (.iconst 0, 1) := by decide +kernel
theorem dX4_condition_39 : decode cX4_condition 39 = .ok (.iconst 0, 1) := by decide +kernel
theorem dX4_condition_40 : decode cX4_condition 40 = .ok (.invokevirtual 123, 3) := by decide +kernel
theorem dX4_condition_43 : decode cX4_condition 43 = .ok (.pop, 1) := by decide +kernel
theorem dX4_condition_44 : decode cX4_condition 44 = .ok (.aload_n 0, 1) := by decide +kernel
theorem dX4_condition_45 : decode cX4_condition 45 = .ok (.iconst 5, 1) := by decide +kernel
theorem dX4_condition_46 : decode cX4_condition 46 = .ok (.invokevirtual 95, 3) := by decide +kernel
theorem dX4_condition_49 : decode cX4_condition 49 = .ok (.istore_n 2, 1) := by decide +kernel
theorem dX4_condition_50 : decode cX4_condition 50 = .ok (.iload_n 2, 1) := by decide +kernel
theorem dX4_condition_51 : decode cX4_condition 51 = .ok (.ifCond .ne 34, 3) := by decide +kernel
theorem dX4_condition_54 : decode cX4_condition 54 = .ok (.iload_n 3, 1) := by decide +kernel
theorem dX4_condition_55 : decode cX4_condition 55 = .ok (.ifCond .eq 18, 3) := by decide +kernel
theorem dX4_condition_58 : decode cX4_condition 58 = .ok (.aload_n 0, 1) := by decide +kernel
theorem dX4_condition_59 : decode cX4_condition 59 = .ok (.getfield 43, 3) := by decide +kernel
theorem dX4_condition_62 : decode cX4_condition 62 = .ok (.getfield 105, 3) := by decide +kernel
theorem dX4_condition_65 : decode cX4_condition 65 = .ok (.iconst 4, 1) := by decide +kernel
theorem dX4_condition_66 : decode cX4_condition 66 = .ok (.iconst 0, 1) := by decide +kernel
theorem dX4_condition_67 : decode cX4_condition 67 = .ok (.iconst 0, 1) := by decide +kernel
theorem dX4_condition_68 : decode cX4_condition 68 = .ok (.iconst 0, 1) := by decide +kernel
theorem dX4_condition_69 : decode cX4_condition 69 = .ok (.invokevirtual 123, 3) := by decide +kernel
theorem dX4_condition_72 : decode cX4_condition 72 = .ok (.pop, 1) := by decide +kernel
theorem dX4_condition_73 : decode cX4_condition 73 = .ok (.aload_n 0, 1) := by decide +kernel
theorem dX4_condition_74 : decode cX4_condition 74 = .ok (.iconst 4, 1) := by decide +kernel
theorem dX4_condition_75 : decode cX4_condition 75 = .ok (.invokevirtual 95, 3) := by decide +kernel
theorem dX4_condition_78 : decode cX4_condition 78 = .ok (.istore_n 3, 1) := by decide +kernel
theorem dX4_condition_79 : decode cX4_condition 79 = .ok (.iload_n 3, 1) := by decide +kernel
theorem dX4_condition_80 : decode cX4_condition 80 = .ok (.ifCond .ne 5, 3) := by decide +kernel
theorem dX4_condition_83 : decode cX4_condition 83 = .ok (.iconst 1, 1) := by decide +kernel
theorem dX4_condition_84 : decode cX4_condition 84 = .ok (.ireturn, 1) := by decide +kernel
theorem dX4_condition_85 : decode cX4_condition 85 = .ok (.aload_n 0, 1) := by decide +kernel
theorem dX4_condition_86 : decode cX4_condition 86 = .ok (.dup, 1) := by decide +kernel
theorem dX4_condition_87 : decode cX4_condition 87 = .ok (.getfield 28, 3) := by decide +kernel
theorem dX4_condition_90 : decode cX4_condition 90 = .ok (.iconst 1, 1) := by decide +kernel
theorem dX4_condition_91 : decode cX4_condition 91 = .ok (.iadd, 1) := by decide +kernel
theorem dX4_condition_92 : decode cX4_condition 92 = .ok (.putfield 28, 3) := by decide +kernel
theorem dX4_condition_95 : decode cX4_condition 95 = .ok (.iinc 4 1, 3) := by decide +kernel
theorem dX4_condition_98 : decode cX4_condition 98 = .ok (.goto (-91), 3) := by decide +kernel
theorem dX4_condition_101 : decode cX4_condition 101 = .ok (.iconst 0, 1) := by decide +kernel
theorem dX4_condition_102 : decode cX4_condition 102 = .ok (.ireturn, 1) := by decide +kernel
theorem dX4_comparison_0 : decode cX4_comparison 0 = .ok (.aload_n 0, 1) := by decide +kernel
theorem dX4_comparison_1 : decode cX4_comparison 1 = .ok (.bipush 6, 2) := by decide +kernel
theorem dX4_comparison_3 : decode cX4_comparison 3 = .ok (.invokevirtual 95, 3) := by decide +kernel
theorem dX4_comparison_6 : decode cX4_comparison 6 = .ok (.istore_n 2, 1) := by decide +kernel
theorem dX4_comparison_7 : decode cX4_comparison 7 = .ok (.iload_n 2, 1) := by decide +kernel
theorem dX4_comparison_8 : decode cX4_comparison 8 = .ok (.ifCond .ne 12, 3) := by decide +kernel
theorem dX4_comparison_11 : decode cX4_comparison 11 = .ok (.aload_n 0, 1) := by decide +kernel
theorem dX4_comparison_12 : decode cX4_comparison 12 = .ok (.bipush 40, 2) := by decide +kernel
theorem dX4_comparison_14 : decode cX4_comparison 14 = .ok (.invokevirtual 87, 3) := by decide +kernel
theorem dX4_comparison_17 : decode cX4_comparison 17 = .ok (.ifCond .eq 84, 3) := by decide +kernel
theorem dX4_comparison_20 : decode cX4_comparison 20 = .ok (.iload_n 1, 1) := by decide +kernel
theorem dX4_comparison_21 : decode cX4_comparison 21 = .ok (.bipush 8, 2) := by decide +kernel
theorem dX4_comparison_23 : decode cX4_comparison 23 = .ok (.if_icmp .lt 13, 3) := by decide +kernel
theorem dX4_comparison_26 : decode cX4_comparison 26 = .ok (.aload_n 0, 1) := by decide +kernel
theorem dX4_comparison_27 : decode cX4_comparison 27 = .ok (.iconst 3, 1) := by decide +kernel
theorem dX4_comparison_28 : decode cX4_comparison 28 = .ok (.aload_n 0, 1) := by decide +kernel
theorem dX4_comparison_29 : decode cX4_comparison 29 = .ok (.getfield 28, 3) := by decide +kernel
theorem dX4_comparison_32 : decode cX4_comparison 32 = .ok (.invokevirtual 91, 3) := by decide +kernel
theorem dX4_comparison_35 : decode cX4_comparison 35 = .ok (.ireturn, 1) := by decide +kernel
theorem dX4_comparison_36 : decode cX4_comparison 36 = .ok (.aload_n 0, 1) := by decide +kernel
theorem dX4_comparison_37 : decode cX4_comparison 37 = .ok (.dup, 1) := by decide +kernel
theorem dX4_comparison_38 : decode cX4_comparison 38 = .ok (.getfield 28, 3) := by decide +kernel
theorem dX4_comparison_41 : decode cX4_comparison 41 = .ok (.iconst 1, 1) := by decide +kernel
theorem dX4_comparison_42 : decode cX4_comparison 42 = .ok (.iadd, 1) := by decide +kernel
theorem dX4_comparison_43 : decode cX4_comparison 43 = .ok (.putfield 28, 3) := by decide +kernel
theorem dX4_comparison_46 : decode cX4_comparison 46 = .ok (.iload_n 2, 1) := by decide +kernel
theorem dX4_comparison_47 : decode cX4_comparison 47 = .ok (.ifCond .ne 28, 3) := by decide +kernel
theorem dX4_comparison_50 : decode cX4_comparison 50 = .ok (.aload_n 0, 1) := by decide +kernel
theorem dX4_comparison_51 : decode cX4_comparison 51 = .ok (.iload_n 1, 1) := by decide +kernel
theorem dX4_comparison_52 : decode cX4_comparison 52 = .ok (.iconst 1, 1) := by decide +kernel
theorem dX4_comparison_53 : decode cX4_comparison 53 = .ok (.iadd, 1) := by decide +kernel
theorem dX4_comparison_54 : decode cX4_comparison 54 = .ok (.invokevirtual 114, 3) := by decide +kernel
theorem dX4_comparison_57 : decode cX4_comparison 57 = .ok (.ifCond .eq 16, 3) := by decide +kernel
theorem dX4_comparison_60 : decode cX4_comparison 60 = .ok (.aload_n 0, 1) := by decide +kernel
theorem dX4_comparison_61 : decode cX4_comparison 61 = .ok (.bipush 41, 2) := by decide +kernel
theorem dX4_comparison_63 : decode cX4_comparison 63 = .ok (.invokevirtual 117, 3) := by decide +kernel
theorem dX4_comparison_66 : decode cX4_comparison 66 = .ok (.ifCond .eq 7, 3) := by decide +kernel
theorem dX4_comparison_69 : decode cX4_comparison 69 = .ok (.iconst 1, 1) := by decide +kernel
theorem dX4_comparison_70 : decode cX4_comparison 70 = .ok (.goto 4, 3) := by decide +kernel
theorem dX4_comparison_73 : decode cX4_comparison 73 = .ok (.iconst 0, 1) := by decide +kernel
theorem dX4_comparison_74 : decode cX4_comparison 74 = .ok (.ireturn, 1) := by decide +kernel
theorem dX4_comparison_75 : decode cX4_comparison 75 = .ok (.aload_n 0, 1) := by decide +kernel
theorem dX4_comparison_76 : decode cX4_comparison 76 = .ok (.iload_n 1, 1) := by decide +kernel
theorem dX4_comparison_77 : decode cX4_comparison 77 = .ok (.iconst 1, 1) := by decide +kernel
theorem dX4_comparison_78 : decode cX4_comparison 78 = .ok (.iadd, 1) := by decide +kernel
theorem dX4_comparison_79 : decode cX4_comparison 79 = .ok (.invokevirtual 127, 3) := by decide +kernel
theorem dX4_comparison_82 : decode cX4_comparison 82 = .ok (.istore_n 3, 1) := by decide +kernel
theorem dX4_comparison_83 : decode cX4_comparison 83 = .ok (.aload_n 0, 1) := by decide +kernel
theorem dX4_comparison_84 : decode cX4_comparison 84 = .ok (.getfield 43, 3) := by decide +kernel
theorem dX4_comparison_87 : decode cX4_comparison 87 = .ok (.getfield 105, 3) := by decide +kernel
theorem dX4_comparison_90 : decode cX4_comparison 90 = .ok (.bipush 6, 2) := by decide +kernel
theorem dX4_comparison_92 : decode cX4_comparison 92 = .ok (.iconst 0, 1) := by decide +kernel
theorem dX4_comparison_93 : decode cX4_comparison 93 = .ok (.iconst 0, 1) := by decide +kernel
theorem dX4_comparison_94 : decode cX4_comparison 94 = .ok (.iconst 0, 1) := by decide +kernel
theorem dX4_comparison_95 : decode cX4_comparison 95 = .ok (.invokevirtual 123, 3) := by decide +kernel
theorem dX4_comparison_98 : decode cX4_comparison 98 = .ok (.pop, 1) := by decide +kernel
theorem dX4_comparison_99 : decode cX4_comparison 99 = .ok (.iload_n 3, 1) := by decide +kernel
theorem dX4_comparison_100 : decode cX4_comparison 100 = .ok (.ireturn, 1) := by decide +kernel
theorem dX4_comparison_101 : decode cX4_comparison 101 = .ok (.aload_n 0, 1) := by decide +kernel
theorem dX4_comparison_102 : decode cX4_comparison 102 = .ok (.invokevirtual 110, 3) := by decide +kernel
theorem dX4_comparison_105 : decode cX4_comparison 105 = .ok (.ifCond .ne 5, 3) := by decide +kernel
theorem dX4_comparison_108 : decode cX4_comparison 108 = .ok (.iconst 0, 1) := by decide +kernel
theorem dX4_comparison_109 : decode cX4_comparison 109 = .ok (.ireturn, 1) := by decide +kernel
theorem dX4_comparison_110 : decode cX4_comparison 110 = .ok (.aload_n 0, 1) := by decide +kernel
theorem dX4_comparison_111 : decode cX4_comparison 111 = .ok (.bipush 60, 2) := by decide +kernel
theorem dX4_comparison_113 : decode cX4_comparison 113 = .ok (.invokevirtual 87, 3) := by decide +kernel
theorem dX4_comparison_116 : decode cX4_comparison 116 = .ok (.ifCond .ne 31, 3) := by decide +kernel
theorem dX4_comparison_119 : decode cX4_comparison 119 = .ok (.aload_n 0, 1) := by decide +kernel
theorem dX4_comparison_120 : decode cX4_comparison 120 = .ok (.bipush 61, 2) := by decide +kernel
theorem dX4_comparison_122 : decode cX4_comparison 122 = .ok (.invokevirtual 87, 3) := by decide +kernel
theorem dX4_comparison_125 : decode cX4_comparison 125 = .ok (.ifCond .ne 22, 3) := by decide +kernel
theorem dX4_comparison_128 : decode cX4_comparison 128 = .ok (.aload_n 0, 1) := by decide +kernel
theorem dX4_comparison_129 : decode cX4_comparison 129 = .ok (.bipush 62, 2) := by decide +kernel
theorem dX4_comparison_131 : decode cX4_comparison 131 = .ok (.invokevirtual 87, 3) := by decide +kernel
theorem dX4_comparison_134 : decode cX4_comparison 134 = .ok (.ifCond .ne 13, 3) := by decide +kernel
theorem dX4_comparison_137 : decode cX4_comparison 137 = .ok (.aload_n 0, 1) := by decide +kernel
theorem dX4_comparison_138 : decode cX4_comparison 138 = .ok (.iconst 1, 1) := by decide +kernel
theorem dX4_comparison_139 : decode cX4_comparison 139 = .ok (.aload_n 0, 1) := by decide +kernel
theorem dX4_comparison_140 : decode cX4_comparison 140 = .ok (.getfield 28, 3) := by decide +kernel
theorem dX4_comparison_143 : decode cX4_comparison 143 = .ok (.invokevirtual 91, 3) := by decide +kernel
theorem dX4_comparison_146 : decode cX4_comparison 146 = .ok (.ireturn, 1) := by decide +kernel
theorem dX4_comparison_147 : decode cX4_comparison 147 = .ok (.aload_n 0, 1) := by decide +kernel
theorem dX4_comparison_148 : decode cX4_comparison 148 = .ok (.invokevirtual 84, 3) := by decide +kernel
theorem dX4_comparison_151 : decode cX4_comparison 151 = .ok (.istore_n 3, 1) := by decide +kernel
theorem dX4_comparison_152 : decode cX4_comparison 152 = .ok (.aload_n 0, 1) := by decide +kernel
theorem dX4_comparison_153 : decode cX4_comparison 153 = .ok (.dup, 1) := by decide +kernel
theorem dX4_comparison_154 : decode cX4_comparison 154 = .ok (.getfield 28, 3) := by decide +kernel
theorem dX4_comparison_157 : decode cX4_comparison 157 = .ok (.iconst 1, 1) := by decide +kernel
theorem dX4_comparison_158 : decode cX4_comparison 158 = .ok (.iadd, 1) := by decide +kernel
theorem dX4_comparison_159 : decode cX4_comparison 159 = .ok (.putfield 28, 3) := by decide +kernel
theorem dX4_comparison_162 : decode cX4_comparison 162 = .ok (.aload_n 0, 1) := by decide +kernel
theorem dX4_comparison_163 : decode cX4_comparison 163 = .ok (.invokevirtual 110, 3) := by decide +kernel
theorem dX4_comparison_166 : decode cX4_comparison 166 = .ok (.istore 4, 2) := by decide +kernel
theorem dX4_comparison_168 : decode cX4_comparison 168 = .ok (.aload_n 0, 1) := by decide +kernel
theorem dX4_comparison_169 : decode cX4_comparison 169 = .ok (.getfield 43, 3) := by decide +kernel
theorem dX4_comparison_172 : decode cX4_comparison 172 = .ok (.getfield 105, 3) := by decide +kernel
theorem dX4_comparison_175 : decode cX4_comparison 175 = .ok (.iload_n 3, 1) := by decide +kernel
theorem dX4_comparison_176 : decode cX4_comparison 176 = .ok (.iconst 0, 1) := by decide +kernel
theorem dX4_comparison_177 : decode cX4_comparison 177 = .ok (.iconst 0, 1) := by decide +kernel
theorem dX4_comparison_178 : decode cX4_comparison 178 = .ok (.iconst 0, 1) := by decide +kernel
theorem dX4_comparison_179 : decode cX4_comparison 179 = .ok (.invokevirtual 123, 3) := by decide +kernel
theorem dX4_comparison_182 : decode cX4_comparison 182 = .ok (.pop, 1) := by decide +kernel
theorem dX4_comparison_183 : decode cX4_comparison 183 = .ok (.iload 4, 2) := by decide +kernel
theorem dX4_comparison_185 : decode cX4_comparison 185 = .ok (.ireturn, 1) := by decide +kernel
theorem dX4_sum_0 : decode cX4_sum 0 = .ok (.iconst (-1), 1) := by decide +kernel
theorem dX4_sum_1 : decode cX4_sum 1 = .ok (.istore_n 1, 1) := by decide +kernel
theorem dX4_sum_2 : decode cX4_sum 2 = .ok (.iconst 0, 1) := by decide +kernel
theorem dX4_sum_3 : decode cX4_sum 3 = .ok (.istore_n 2, 1) := by decide +kernel
theorem dX4_sum_4 : decode cX4_sum 4 = .ok (.iload_n 2, 1) := by decide +kernel
theorem dX4_sum_5 : decode cX4_sum 5 = .ok (.sipush 400, 3) := by decide +kernel
theorem dX4_sum_8 : decode cX4_sum 8 = .ok (.if_icmp .gt 73, 3) := by decide +kernel
theorem dX4_sum_11 : decode cX4_sum 11 = .ok (.aload_n 0, 1) := by decide +kernel
theorem dX4_sum_12 : decode cX4_sum 12 = .ok (.invokevirtual 130, 3) := by decide +kernel
theorem dX4_sum_15 : decode cX4_sum 15 = .ok (.ifCond .ne 5, 3) := by decide +kernel
theorem dX4_sum_18 : decode cX4_sum 18 = .ok (.iconst 0, 1) := by decide +kernel
theorem dX4_sum_19 : decode cX4_sum 19 = .ok (.ireturn, 1) := by decide +kernel
theorem dX4_sum_20 : decode cX4_sum 20 = .ok (.iload_n 1, 1) := by decide +kernel
theorem dX4_sum_21 : decode cX4_sum 21 = .ok (.iconst (-1), 1) := by decide +kernel
theorem dX4_sum_22 : decode cX4_sum 22 = .ok (.if_icmp .eq 18, 3) := by decide +kernel
theorem dX4_sum_25 : decode cX4_sum 25 = .ok (.aload_n 0, 1) := by decide +kernel
theorem dX4_sum_26 : decode cX4_sum 26 = .ok (.getfield 43, 3) := by decide +kernel
theorem dX4_sum_29 : decode cX4_sum 29 = .ok (.getfield 105, 3) := by decide +kernel
theorem dX4_sum_32 : decode cX4_sum 32 = .ok (.iload_n 1, 1) := by decide +kernel
theorem dX4_sum_33 : decode cX4_sum 33 = .ok (.iconst 0, 1) := by decide +kernel
theorem dX4_sum_34 : decode cX4_sum 34 = .ok (.iconst 0, 1) := by decide +kernel
theorem dX4_sum_35 : decode cX4_sum 35 = .ok (.iconst 0, 1) := by decide +kernel
theorem dX4_sum_36 : decode cX4_sum 36 = .ok (.invokevirtual 123, 3) := by decide +kernel
theorem dX4_sum_39 : decode cX4_sum 39 = .ok (.pop, 1) := by decide +kernel
theorem dX4_sum_40 : decode cX4_sum 40 = .ok (.aload_n 0, 1) := by decide +kernel
theorem dX4_sum_41 : decode cX4_sum 41 = .ok (.bipush 43, 2) := by decide +kernel
theorem dX4_sum_43 : decode cX4_sum 43 = .ok (.invokevirtual 87, 3) := by decide +kernel
theorem dX4_sum_46 : decode cX4_sum 46 = .ok (.ifCond .ne 14, 3) := by decide +kernel
theorem dX4_sum_49 : decode cX4_sum 49 = .ok (.aload_n 0, 1) := by decide +kernel
theorem dX4_sum_50 : decode cX4_sum 50 = .ok (.bipush 45, 2) := by decide +kernel
theorem dX4_sum_52 : decode cX4_sum 52 = .ok (.invokevirtual 87, 3) := by decide +kernel
theorem dX4_sum_55 : decode cX4_sum 55 = .ok (.ifCond .ne 5, 3) := by decide +kernel
theorem dX4_sum_58 : decode cX4_sum 58 = .ok (.iconst 1, 1) := by decide +kernel
theorem dX4_sum_59 : decode cX4_sum 59 = .ok (.ireturn, 1) := by decide +kernel
theorem dX4_sum_60 : decode cX4_sum 60 = .ok (.aload_n 0, 1) := by decide +kernel
theorem dX4_sum_61 : decode cX4_sum 61 = .ok (.invokevirtual 84, 3) := by decide +kernel
theorem dX4_sum_64 : decode cX4_sum 64 = .ok (.istore_n 1, 1) := by decide +kernel
theorem dX4_sum_65 : decode cX4_sum 65 = .ok (.aload_n 0, 1) := by decide +kernel
theorem dX4_sum_66 : decode cX4_sum 66 = .ok (.dup, 1) := by decide +kernel
theorem dX4_sum_67 : decode cX4_sum 67 = .ok (.getfield 28, 3) := by decide +kernel
theorem dX4_sum_70 : decode cX4_sum 70 = .ok (.iconst 1, 1) := by decide +kernel
theorem dX4_sum_71 : decode cX4_sum 71 = .ok (.iadd, 1) := by decide +kernel
theorem dX4_sum_72 : decode cX4_sum 72 = .ok (.putfield 28, 3) := by decide +kernel
theorem dX4_sum_75 : decode cX4_sum 75 = .ok (.iinc 2 1, 3) := by decide +kernel
theorem dX4_sum_78 : decode cX4_sum 78 = .ok (.goto (-74), 3) := by decide +kernel
theorem dX4_sum_81 : decode cX4_sum 81 = .ok (.iconst 0, 1) := by decide +kernel
theorem dX4_sum_82 : decode cX4_sum 82 = .ok (.ireturn, 1) := by decide +kernel
theorem dX4_product_0 : decode cX4_product 0 = .ok (.aload_n 0, 1) := by decide +kernel
theorem dX4_product_1 : decode cX4_product 1 = .ok (.invokevirtual 133, 3) := by decide +kernel
theorem dX4_product_4 : decode cX4_product 4 = .ok (.ifCond .ne 5, 3) := by decide +kernel
theorem dX4_product_7 : decode cX4_product 7 = .ok (.iconst 0, 1) := by decide +kernel
theorem dX4_product_8 : decode cX4_product 8 = .ok (.ireturn, 1) := by decide +kernel
theorem dX4_product_9 : decode cX4_product 9 = .ok (.iconst 0, 1) := by decide +kernel
theorem dX4_product_10 : decode cX4_product 10 = .ok (.istore_n 1, 1) := by decide +kernel
theorem dX4_product_11 : decode cX4_product 11 = .ok (.iload_n 1, 1) := by decide +kernel
theorem dX4_product_12 : decode cX4_product 12 = .ok (.sipush 400, 3) := by decide +kernel
theorem dX4_product_15 : decode cX4_product 15 = .ok (.if_icmp .gt 112, 3) := by decide +kernel
theorem dX4_product_18 : decode cX4_product 18 = .ok (.aload_n 0, 1) := by decide +kernel
theorem dX4_product_19 : decode cX4_product 19 = .ok (.bipush 42, 2) := by decide +kernel
theorem dX4_product_21 : decode cX4_product 21 = .ok (.invokevirtual 87, 3) := by decide +kernel
theorem dX4_product_24 : decode cX4_product 24 = .ok (.ifCond .eq 41, 3) := by decide +kernel
theorem dX4_product_27 : decode cX4_product 27 = .ok (.aload_n 0, 1) := by decide +kernel
theorem dX4_product_28 : decode cX4_product 28 = .ok (.dup, 1) := by decide +kernel
theorem dX4_product_29 : decode cX4_product 29 = .ok (.getfield 28, 3) := by decide +kernel
theorem dX4_product_32 : decode cX4_product 32 = .ok (.iconst 1, 1) := by decide +kernel
theorem dX4_product_33 : decode cX4_product 33 = .ok (.iadd, 1) := by decide +kernel
theorem dX4_product_34 : decode cX4_product 34 = .ok (.putfield 28, 3) := by decide +kernel
theorem dX4_product_37 : decode cX4_product 37 = .ok (.aload_n 0, 1) := by decide +kernel
theorem dX4_product_38 : decode cX4_product 38 = .ok (.invokevirtual 133, 3) := by decide +kernel
theorem dX4_product_41 : decode cX4_product 41 = .ok (.ifCond .ne 5, 3) := by decide +kernel
theorem dX4_product_44 : decode cX4_product 44 = .ok (.iconst 0, 1) := by decide +kernel
theorem dX4_product_45 : decode cX4_product 45 = .ok (.ireturn, 1) := by decide +kernel
theorem dX4_product_46 : decode cX4_product 46 = .ok (.aload_n 0, 1) := by decide +kernel
theorem dX4_product_47 : decode cX4_product 47 = .ok (.getfield 43, 3) := by decide +kernel
theorem dX4_product_50 : decode cX4_product 50 = .ok (.getfield 105, 3) := by decide +kernel
theorem dX4_product_53 : decode cX4_product 53 = .ok (.bipush 42, 2) := by decide +kernel
theorem dX4_product_55 : decode cX4_product 55 = .ok (.iconst 0, 1) := by decide +kernel
theorem dX4_product_56 : decode cX4_product 56 = .ok (.iconst 0, 1) := by decide +kernel
theorem dX4_product_57 : decode cX4_product 57 = .ok (.iconst 0, 1) := by decide +kernel
theorem dX4_product_58 : decode cX4_product 58 = .ok (.invokevirtual 123, 3) := by decide +kernel
theorem dX4_product_61 : decode cX4_product 61 = .ok (.pop, 1) := by decide +kernel
theorem dX4_product_62 : decode cX4_product 62 = .ok (.goto 59, 3) := by decide +kernel
theorem dX4_product_65 : decode cX4_product 65 = .ok (.aload_n 0, 1) := by decide +kernel
theorem dX4_product_66 : decode cX4_product 66 = .ok (.bipush 47, 2) := by decide +kernel
theorem dX4_product_68 : decode cX4_product 68 = .ok (.invokevirtual 87, 3) := by decide +kernel
theorem dX4_product_71 : decode cX4_product 71 = .ok (.ifCond .eq 48, 3) := by decide +kernel
theorem dX4_product_74 : decode cX4_product 74 = .ok (.aload_n 0, 1) := by decide +kernel
theorem dX4_product_75 : decode cX4_product 75 = .ok (.dup, 1) := by decide +kernel
theorem dX4_product_76 : decode cX4_product 76 = .ok (.getfield 28, 3) := by decide +kernel
theorem dX4_product_79 : decode cX4_product 79 = .ok (.iconst 1, 1) := by decide +kernel
theorem dX4_product_80 : decode cX4_product 80 = .ok (.iadd, 1) := by decide +kernel
theorem dX4_product_81 : decode cX4_product 81 = .ok (.putfield 28, 3) := by decide +kernel
theorem dX4_product_84 : decode cX4_product 84 = .ok (.aload_n 0, 1) := by decide +kernel
theorem dX4_product_85 : decode cX4_product 85 = .ok (.iconst 1, 1) := by decide +kernel
theorem dX4_product_86 : decode cX4_product 86 = .ok (.sipush 9999, 3) := by decide +kernel
theorem dX4_product_89 : decode cX4_product 89 = .ok (.invokevirtual 136, 3) := by decide +kernel
theorem dX4_product_92 : decode cX4_product 92 = .ok (.ifCond .ne 5, 3) := by decide +kernel
theorem dX4_product_95 : decode cX4_product 95 = .ok (.iconst 0, 1) := by decide +kernel
theorem dX4_product_96 : decode cX4_product 96 = .ok (.ireturn, 1) := by decide +kernel
theorem dX4_product_97 : decode cX4_product 97 = .ok (.aload_n 0, 1) := by decide +kernel
theorem dX4_product_98 : decode cX4_product 98 = .ok (.getfield 43, 3) := by decide +kernel
theorem dX4_product_101 : decode cX4_product 101 = .ok (.getfield 105, 3) := by decide +kernel
theorem dX4_product_104 : decode cX4_product 104 = .ok (.bipush 47, 2) := by decide +kernel
theorem dX4_product_106 : decode cX4_product 106 = .ok (.aload_n 0, 1) := by decide +kernel
theorem dX4_product_107 : decode cX4_product 107 = .ok (.getfield 31, 3) := by decide +kernel
theorem dX4_product_110 : decode cX4_product 110 = .ok (.iconst 0, 1) := by decide +kernel
theorem dX4_product_111 : decode cX4_product 111 = .ok (.iconst 0, 1) := by decide +kernel
theorem dX4_product_112 : decode cX4_product 112 = .ok (.invokevirtual 123, 3) := by decide +kernel
theorem dX4_product_115 : decode cX4_product 115 = .ok (.pop, 1) := by decide +kernel
theorem dX4_product_116 : decode cX4_product 116 = .ok (.goto 5, 3) := by decide +kernel
theorem dX4_product_119 : decode cX4_product 119 = .ok (.iconst 1, 1) := by decide +kernel
theorem dX4_product_120 : decode cX4_product 120 = .ok (.ireturn, 1) := by decide +kernel
theorem dX4_product_121 : decode cX4_product 121 = .ok (.iinc 1 1, 3) := by decide +kernel
theorem dX4_product_124 : decode cX4_product 124 = .ok (.goto (-113), 3) := by decide +kernel
theorem dX4_product_127 : decode cX4_product 127 = .ok (.iconst 0, 1) := by decide +kernel
theorem dX4_product_128 : decode cX4_product 128 = .ok (.ireturn, 1) := by decide +kernel
theorem dX4_unit_0 : decode cX4_unit 0 = .ok (.aload_n 0, 1) := by decide +kernel
theorem dX4_unit_1 : decode cX4_unit 1 = .ok (.invokevirtual 81, 3) := by decide +kernel
theorem dX4_unit_4 : decode cX4_unit 4 = .ok (.iconst 3, 1) := by decide +kernel
theorem dX4_unit_5 : decode cX4_unit 5 = .ok (.if_icmp .ne 15, 3) := by decide +kernel
theorem dX4_unit_8 : decode cX4_unit 8 = .ok (.aload_n 0, 1) := by decide +kernel
theorem dX4_unit_9 : decode cX4_unit 9 = .ok (.invokevirtual 84, 3) := by decide +kernel
theorem dX4_unit_12 : decode cX4_unit 12 = .ok (.iconst (-1), 1) := by decide +kernel
theorem dX4_unit_13 : decode cX4_unit 13 = .ok (.if_icmp .eq 7, 3) := by decide +kernel
theorem dX4_unit_16 : decode cX4_unit 16 = .ok (.iconst 1, 1) := by decide +kernel
theorem dX4_unit_17 : decode cX4_unit 17 = .ok (.goto 4, 3) := by decide +kernel
theorem dX4_unit_20 : decode cX4_unit 20 = .ok (.iconst 0, 1) := by decide +kernel
theorem dX4_unit_21 : decode cX4_unit 21 = .ok (.istore_n 1, 1) := by decide +kernel
theorem dX4_unit_22 : decode cX4_unit 22 = .ok (.aload_n 0, 1) := by decide +kernel
theorem dX4_unit_23 : decode cX4_unit 23 = .ok (.invokevirtual 81, 3) := by decide +kernel
theorem dX4_unit_26 : decode cX4_unit 26 = .ok (.iconst 2, 1) := by decide +kernel
theorem dX4_unit_27 : decode cX4_unit 27 = .ok (.if_icmp .ne 25, 3) := by decide +kernel
theorem dX4_unit_30 : decode cX4_unit 30 = .ok (.aload_n 0, 1) := by decide +kernel
theorem dX4_unit_31 : decode cX4_unit 31 = .ok (.invokevirtual 84, 3) := by decide +kernel
theorem dX4_unit_34 : decode cX4_unit 34 = .ok (.bipush 7, 2) := by decide +kernel
theorem dX4_unit_36 : decode cX4_unit 36 = .ok (.if_icmp .lt 16, 3) := by decide +kernel
theorem dX4_unit_39 : decode cX4_unit 39 = .ok (.aload_n 0, 1) := by decide +kernel
theorem dX4_unit_40 : decode cX4_unit 40 = .ok (.invokevirtual 84, 3) := by decide +kernel
theorem dX4_unit_43 : decode cX4_unit 43 = .ok (.bipush 16, 2) := by decide +kernel
theorem dX4_unit_45 : decode cX4_unit 45 = .ok (.if_icmp .gt 7, 3) := by decide +kernel
theorem dX4_unit_48 : decode cX4_unit 48 = .ok (.iconst 1, 1) := by decide +kernel
theorem dX4_unit_49 : decode cX4_unit 49 = .ok (.goto 4, 3) := by decide +kernel
theorem dX4_unit_52 : decode cX4_unit 52 = .ok (.iconst 0, 1) := by decide +kernel
theorem dX4_unit_53 : decode cX4_unit 53 = .ok (.istore_n 2, 1) := by decide +kernel
theorem dX4_unit_54 : decode cX4_unit 54 = .ok (.iload_n 1, 1) := by decide +kernel
theorem dX4_unit_55 : decode cX4_unit 55 = .ok (.ifCond .ne 17, 3) := by decide +kernel
theorem dX4_unit_58 : decode cX4_unit 58 = .ok (.iload_n 2, 1) := by decide +kernel
theorem dX4_unit_59 : decode cX4_unit 59 = .ok (.ifCond .ne 13, 3) := by decide +kernel
theorem dX4_unit_62 : decode cX4_unit 62 = .ok (.aload_n 0, 1) := by decide +kernel
theorem dX4_unit_63 : decode cX4_unit 63 = .ok (.iconst 1, 1) := by decide +kernel
theorem dX4_unit_64 : decode cX4_unit 64 = .ok (.aload_n 0, 1) := by decide +kernel
theorem dX4_unit_65 : decode cX4_unit 65 = .ok (.getfield 28, 3) := by decide +kernel
theorem dX4_unit_68 : decode cX4_unit 68 = .ok (.invokevirtual 91, 3) := by decide +kernel
theorem dX4_unit_71 : decode cX4_unit 71 = .ok (.ireturn, 1) := by decide +kernel
theorem dX4_unit_72 : decode cX4_unit 72 = .ok (.aload_n 0, 1) := by decide +kernel
theorem dX4_unit_73 : decode cX4_unit 73 = .ok (.getfield 43, 3) := by decide +kernel
theorem dX4_unit_76 : decode cX4_unit 76 = .ok (.getfield 105, 3) := by decide +kernel
theorem dX4_unit_79 : decode cX4_unit 79 = .ok (.iload_n 1, 1) := by decide +kernel
theorem dX4_unit_80 : decode cX4_unit 80 = .ok (.ifCond .eq 9, 3) := by decide +kernel
theorem dX4_unit_83 : decode cX4_unit 83 = .ok (.sipush 1000, 3) := by decide +kernel
theorem dX4_unit_86 : decode cX4_unit 86 = .ok (.goto 7, 3) := by decide +kernel
theorem dX4_unit_89 : decode cX4_unit 89 = .ok (.aload_n 0, 1) := by decide +kernel
theorem dX4_unit_90 : decode cX4_unit 90 = .ok (.invokevirtual 84, 3) := by decide +kernel
theorem dX4_unit_93 : decode cX4_unit 93 = .ok (.aload_n 0, 1) := by decide +kernel
theorem dX4_unit_94 : decode cX4_unit 94 = .ok (.invokevirtual 84, 3) := by decide +kernel
theorem dX4_unit_97 : decode cX4_unit 97 = .ok (.iconst 0, 1) := by decide +kernel
theorem dX4_unit_98 : decode cX4_unit 98 = .ok (.iconst 0, 1) := by decide +kernel
theorem dX4_unit_99 : decode cX4_unit 99 = .ok (.invokevirtual 123, 3) := by decide +kernel
theorem dX4_unit_102 : decode cX4_unit 102 = .ok (.pop, 1) := by decide +kernel
theorem dX4_unit_103 : decode cX4_unit 103 = .ok (.aload_n 0, 1) := by decide +kernel
theorem dX4_unit_104 : decode cX4_unit 104 = .ok (.dup, 1) := by decide +kernel
theorem dX4_unit_105 : decode cX4_unit 105 = .ok (.getfield 28, 3) := by decide +kernel
theorem dX4_unit_108 : decode cX4_unit 108 = .ok (.iconst 1, 1) := by decide +kernel
theorem dX4_unit_109 : decode cX4_unit 109 = .ok (.iadd, 1) := by decide +kernel
theorem dX4_unit_110 : decode cX4_unit 110 = .ok (.putfield 28, 3) := by decide +kernel
theorem dX4_unit_113 : decode cX4_unit 113 = .ok (.iconst 1, 1) := by decide +kernel
theorem dX4_unit_114 : decode cX4_unit 114 = .ok (.ireturn, 1) := by decide +kernel
theorem dX4_readOrders_0 : decode cX4_readOrders 0 = .ok (.aload_n 0, 1) := by decide +kernel
theorem dX4_readOrders_1 : decode cX4_readOrders 1 = .ok (.getfield 52, 3) := by decide +kernel
theorem dX4_readOrders_4 : decode cX4_readOrders 4 = .ok (.invokevirtual 139, 3) := by decide +kernel
theorem dX4_readOrders_7 : decode cX4_readOrders 7 = .ok (.pop, 1) := by decide +kernel
theorem dX4_readOrders_8 : decode cX4_readOrders 8 = .ok (.iconst 0, 1) := by decide +kernel
theorem dX4_readOrders_9 : decode cX4_readOrders 9 = .ok (.istore_n 2, 1) := by decide +kernel
theorem dX4_readOrders_10 : decode cX4_readOrders 10 = .ok (.iload_n 2, 1) := by decide +kernel
theorem dX4_readOrders_11 : decode cX4_readOrders 11 = .ok (.bipush 16, 2) := by decide +kernel
theorem dX4_readOrders_13 : decode cX4_readOrders 13 = .ok (.if_icmp .gt 207, 3) := by decide +kernel
theorem dX4_readOrders_16 : decode cX4_readOrders 16 = .ok (.aload_n 0, 1) := by decide +kernel
theorem dX4_readOrders_17 : decode cX4_readOrders 17 = .ok (.invokevirtual 81, 3) := by decide +kernel
theorem dX4_readOrders_20 : decode cX4_readOrders 20 = .ok (.ifCond .ne 5, 3) := by decide +kernel
theorem dX4_readOrders_23 : decode cX4_readOrders 23 = .ok (.iconst 1, 1) := by decide +kernel
theorem dX4_readOrders_24 : decode cX4_readOrders 24 = .ok (.ireturn, 1) := by decide +kernel
theorem dX4_readOrders_25 : decode cX4_readOrders 25 = .ok (.aload_n 0, 1) := by decide +kernel
theorem dX4_readOrders_26 : decode cX4_readOrders 26 = .ok (.iload_n 2, 1) := by decide +kernel
theorem dX4_readOrders_27 : decode cX4_readOrders 27 = .ok (.bipush 17, 2) := by decide +kernel
theorem dX4_readOrders_29 : decode cX4_readOrders 29 = .ok (.bipush 17, 2) := by decide +kernel
theorem dX4_readOrders_31 : decode cX4_readOrders 31 = .ok (.invokevirtual 101, 3) := by decide +kernel
theorem dX4_readOrders_34 : decode cX4_readOrders 34 = .ok (.ifCond .eq 14, 3) := by decide +kernel
theorem dX4_readOrders_37 : decode cX4_readOrders 37 = .ok (.aload_n 0, 1) := by decide +kernel
theorem dX4_readOrders_38 : decode cX4_readOrders 38 = .ok (.iconst 0, 1) := by decide +kernel
theorem dX4_readOrders_39 : decode cX4_readOrders 39 = .ok (.sipush 999, 3) := by decide +kernel
theorem dX4_readOrders_42 : decode cX4_readOrders 42 = .ok (.invokevirtual 136, 3) := by decide +kernel
theorem dX4_readOrders_45 : decode cX4_readOrders 45 = .ok (.ifCond .ne 5, 3) := by decide +kernel
theorem dX4_readOrders_48 : decode cX4_readOrders 48 = .ok (.iconst 0, 1) := by decide +kernel
theorem dX4_readOrders_49 : decode cX4_readOrders 49 = .ok (.ireturn, 1) := by decide +kernel
theorem dX4_readOrders_50 : decode cX4_readOrders 50 = .ok (.aload_n 0, 1) := by decide +kernel
theorem dX4_readOrders_51 : decode cX4_readOrders 51 = .ok (.getfield 31, 3) := by decide +kernel
theorem dX4_readOrders_54 : decode cX4_readOrders 54 = .ok (.istore_n 3, 1) := by decide +kernel
theorem dX4_readOrders_55 : decode cX4_readOrders 55 = .ok (.aload_n 0, 1) := by decide +kernel
theorem dX4_readOrders_56 : decode cX4_readOrders 56 = .ok (.invokevirtual 81, 3) := by decide +kernel
theorem dX4_readOrders_59 : decode cX4_readOrders 59 = .ok (.iconst 2, 1) := by decide +kernel
theorem dX4_readOrders_60 : decode cX4_readOrders 60 = .ok (.if_icmp .ne 10, 3) := by decide +kernel
theorem dX4_readOrders_63 : decode cX4_readOrders 63 = .ok (.aload_n 0, 1) := by decide +kernel
theorem dX4_readOrders_64 : decode cX4_readOrders 64 = .ok (.invokevirtual 84, 3) := by decide +kernel
theorem dX4_readOrders_67 : decode cX4_readOrders 67 = .ok (.goto 4, 3) := by decide +kernel
theorem dX4_readOrders_70 : decode cX4_readOrders 70 = .ok (.iconst (-1), 1) := by decide +kernel
theorem dX4_readOrders_71 : decode cX4_readOrders 71 = .ok (.istore 4, 2) := by decide +kernel
theorem dX4_readOrders_73 : decode cX4_readOrders 73 = .ok (.iload 4, 2) := by decide +kernel
theorem dX4_readOrders_75 : decode cX4_readOrders 75 = .ok (.bipush 10, 2) := by decide +kernel
theorem dX4_readOrders_77 : decode cX4_readOrders 77 = .ok (.if_icmp .eq 27, 3) := by decide +kernel
theorem dX4_readOrders_80 : decode cX4_readOrders 80 = .ok (.iload 4, 2) := by decide +kernel
theorem dX4_readOrders_82 : decode cX4_readOrders 82 = .ok (.bipush 18, 2) := by decide +kernel
theorem dX4_readOrders_84 : decode cX4_readOrders 84 = .ok (.if_icmp .lt 10, 3) := by decide +kernel
theorem dX4_readOrders_87 : decode cX4_readOrders 87 = .ok (.iload 4, 2) := by decide +kernel
theorem dX4_readOrders_89 : decode cX4_readOrders 89 = .ok (.bipush 21, 2) := by decide +kernel
theorem dX4_readOrders_91 : decode cX4_readOrders 91 = .ok (.if_icmp .le 13, 3) := by decide +kernel
theorem dX4_readOrders_94 : decode cX4_readOrders 94 = .ok (.aload_n 0, 1) := by decide +kernel
theorem dX4_readOrders_95 : decode cX4_readOrders 95 = .ok (.iconst 1, 1) := by decide +kernel
theorem dX4_readOrders_96 : decode cX4_readOrders 96 = .ok (.aload_n 0, 1) := by decide +kernel
theorem dX4_readOrders_97 : decode cX4_readOrders 97 = .ok (.getfield 28, 3) := by decide +kernel
theorem dX4_readOrders_100 : decode cX4_readOrders 100 = .ok (.invokevirtual 91, 3) := by decide +kernel
theorem dX4_readOrders_103 : decode cX4_readOrders 103 = .ok (.ireturn, 1) := by decide +kernel
theorem dX4_readOrders_104 : decode cX4_readOrders 104 = .ok (.aload_n 0, 1) := by decide +kernel
theorem dX4_readOrders_105 : decode cX4_readOrders 105 = .ok (.dup, 1) := by decide +kernel
theorem dX4_readOrders_106 : decode cX4_readOrders 106 = .ok (.getfield 28, 3) := by decide +kernel
theorem dX4_readOrders_109 : decode cX4_readOrders 109 = .ok (.iconst 1, 1) := by decide +kernel
theorem dX4_readOrders_110 : decode cX4_readOrders 110 = .ok (.iadd, 1) := by decide +kernel
theorem dX4_readOrders_111 : decode cX4_readOrders 111 = .ok (.putfield 28, 3) := by decide +kernel
theorem dX4_readOrders_114 : decode cX4_readOrders 114 = .ok (.iconst (-1), 1) := by decide +kernel
theorem dX4_readOrders_115 : decode cX4_readOrders 115 = .ok (.istore 5, 2) := by decide +kernel
theorem dX4_readOrders_117 : decode cX4_readOrders 117 = .ok (.iconst 0, 1) := by decide +kernel
theorem dX4_readOrders_118 : decode cX4_readOrders 118 = .ok (.istore 6, 2) := by decide +kernel
theorem dX4_readOrders_120 : decode cX4_readOrders 120 = .ok (.iload 4, 2) := by decide +kernel
theorem dX4_readOrders_122 : decode cX4_readOrders 122 = .ok (.bipush 21, 2) := by decide +kernel
theorem dX4_readOrders_124 : decode cX4_readOrders 124 = .ok (.if_icmp .eq 39, 3) := by decide +kernel
theorem dX4_readOrders_127 : decode cX4_readOrders 127 = .ok (.aload_n 0, 1) := by decide +kernel
theorem dX4_readOrders_128 : decode cX4_readOrders 128 = .ok (.iconst 0, 1) := by decide +kernel
theorem dX4_readOrders_129 : decode cX4_readOrders 129 = .ok (.iload 4, 2) := by decide +kernel
theorem dX4_readOrders_131 : decode cX4_readOrders 131 = .ok (.bipush 20, 2) := by decide +kernel
theorem dX4_readOrders_133 : decode cX4_readOrders 133 = .ok (.if_icmp .ne 10, 3) := by decide +kernel
theorem dX4_readOrders_136 : decode cX4_readOrders 136 = .ok (.aload_n 1, 1) := by decide +kernel
theorem dX4_readOrders_137 : decode cX4_readOrders 137 = .ok (.getfield 141, 3) := by decide +kernel
theorem dX4_readOrders_140 : decode cX4_readOrders 140 = .ok (.goto 7, 3) := by decide +kernel
theorem dX4_readOrders_143 : decode cX4_readOrders 143 = .ok (.aload_n 1, 1) := by decide +kernel
theorem dX4_readOrders_144 : decode cX4_readOrders 144 = .ok (.getfield 146, 3) := by decide +kernel
theorem dX4_readOrders_147 : decode cX4_readOrders 147 = .ok (.iconst 1, 1) := by decide +kernel
theorem dX4_readOrders_148 : decode cX4_readOrders 148 = .ok (.isub, 1) := by decide +kernel
theorem dX4_readOrders_149 : decode cX4_readOrders 149 = .ok (.invokevirtual 136, 3) := by decide +kernel
theorem dX4_readOrders_152 : decode cX4_readOrders 152 = .ok (.ifCond .ne 5, 3) := by decide +kernel
theorem dX4_readOrders_155 : decode cX4_readOrders 155 = .ok (.iconst 0, 1) := by decide +kernel
theorem dX4_readOrders_156 : decode cX4_readOrders 156 = .ok (.ireturn, 1) := by decide +kernel
theorem dX4_readOrders_157 : decode cX4_readOrders 157 = .ok (.aload_n 0, 1) := by decide +kernel
theorem dX4_readOrders_158 : decode cX4_readOrders 158 = .ok (.getfield 31, 3) := by decide +kernel
theorem dX4_readOrders_161 : decode cX4_readOrders 161 = .ok (.istore 5, 2) := by decide +kernel
theorem dX4_readOrders_163 : decode cX4_readOrders 163 = .ok (.iload 4, 2) := by decide +kernel
theorem dX4_readOrders_165 : decode cX4_readOrders 165 = .ok (.bipush 18, 2) := by decide +kernel
theorem dX4_readOrders_167 : decode cX4_readOrders 167 = .ok (.if_icmp .ne 21, 3) := by decide +kernel
theorem dX4_readOrders_170 : decode cX4_readOrders 170 = .ok (.aload_n 0, 1) := by decide +kernel
theorem dX4_readOrders_171 : decode cX4_readOrders 171 = .ok (.iconst 1, 1) := by decide +kernel
theorem dX4_readOrders_172 : decode cX4_readOrders 172 = .ok (.bipush 99, 2) := by decide +kernel
theorem dX4_readOrders_174 : decode cX4_readOrders 174 = .ok (.invokevirtual 136, 3) := by decide +kernel
theorem dX4_readOrders_177 : decode cX4_readOrders 177 = .ok (.ifCond .ne 5, 3) := by decide +kernel
theorem dX4_readOrders_180 : decode cX4_readOrders 180 = .ok (.iconst 0, 1) := by decide +kernel
theorem dX4_readOrders_181 : decode cX4_readOrders 181 = .ok (.ireturn, 1) := by decide +kernel
theorem dX4_readOrders_182 : decode cX4_readOrders 182 = .ok (.aload_n 0, 1) := by decide +kernel
theorem dX4_readOrders_183 : decode cX4_readOrders 183 = .ok (.getfield 31, 3) := by decide +kernel
theorem dX4_readOrders_186 : decode cX4_readOrders 186 = .ok (.istore 6, 2) := by decide +kernel
theorem dX4_readOrders_188 : decode cX4_readOrders 188 = .ok (.aload_n 0, 1) := by decide +kernel
theorem dX4_readOrders_189 : decode cX4_readOrders 189 = .ok (.bipush 59, 2) := by decide +kernel
theorem dX4_readOrders_191 : decode cX4_readOrders 191 = .ok (.invokevirtual 117, 3) := by decide +kernel
theorem dX4_readOrders_194 : decode cX4_readOrders 194 = .ok (.ifCond .ne 5, 3) := by decide +kernel
theorem dX4_readOrders_197 : decode cX4_readOrders 197 = .ok (.iconst 0, 1) := by decide +kernel
theorem dX4_readOrders_198 : decode cX4_readOrders 198 = .ok (.ireturn, 1) := by decide +kernel
theorem dX4_readOrders_199 : decode cX4_readOrders 199 = .ok (.aload_n 0, 1) := by decide +kernel
theorem dX4_readOrders_200 : decode cX4_readOrders 200 = .ok (.getfield 52, 3) := by decide +kernel
theorem dX4_readOrders_203 : decode cX4_readOrders 203 = .ok (.iload_n 3, 1) := by decide +kernel
theorem dX4_readOrders_204 : decode cX4_readOrders 204 = .ok (.iload 4, 2) := by decide +kernel
theorem dX4_readOrders_206 : decode cX4_readOrders 206 = .ok (.iload 5, 2) := by decide +kernel
theorem dX4_readOrders_208 : decode cX4_readOrders 208 = .ok (.iload 6, 2) := by decide +kernel
theorem dX4_readOrders_210 : decode cX4_readOrders 210 = .ok (.invokevirtual 123, 3) := by decide +kernel
theorem dX4_readOrders_213 : decode cX4_readOrders 213 = .ok (.pop, 1) := by decide +kernel
theorem dX4_readOrders_214 : decode cX4_readOrders 214 = .ok (.iinc 2 1, 3) := by decide +kernel
theorem dX4_readOrders_217 : decode cX4_readOrders 217 = .ok (.goto (-207), 3) := by decide +kernel
theorem dX4_readOrders_220 : decode cX4_readOrders 220 = .ok (.iconst 0, 1) := by decide +kernel
theorem dX4_readOrders_221 : decode cX4_readOrders 221 = .ok (.ireturn, 1) := by decide +kernel
theorem dX4_readCouples_0 : decode cX4_readCouples 0 = .ok (.aload_n 0, 1) := by decide +kernel
theorem dX4_readCouples_1 : decode cX4_readCouples 1 = .ok (.getfield 52, 3) := by decide +kernel
theorem dX4_readCouples_4 : decode cX4_readCouples 4 = .ok (.invokevirtual 139, 3) := by decide +kernel
theorem dX4_readCouples_7 : decode cX4_readCouples 7 = .ok (.pop, 1) := by decide +kernel
theorem dX4_readCouples_8 : decode cX4_readCouples 8 = .ok (.iconst 0, 1) := by decide +kernel
theorem dX4_readCouples_9 : decode cX4_readCouples 9 = .ok (.istore_n 3, 1) := by decide +kernel
theorem dX4_readCouples_10 : decode cX4_readCouples 10 = .ok (.iload_n 3, 1) := by decide +kernel
theorem dX4_readCouples_11 : decode cX4_readCouples 11 = .ok (.bipush 16, 2) := by decide +kernel
theorem dX4_readCouples_13 : decode cX4_readCouples 13 = .ok (.if_icmp .gt 171, 3) := by decide +kernel
theorem dX4_readCouples_16 : decode cX4_readCouples 16 = .ok (.aload_n 0, 1) := by decide +kernel
theorem dX4_readCouples_17 : decode cX4_readCouples 17 = .ok (.invokevirtual 81, 3) := by decide +kernel
theorem dX4_readCouples_20 : decode cX4_readCouples 20 = .ok (.ifCond .ne 5, 3) := by decide +kernel
theorem dX4_readCouples_23 : decode cX4_readCouples 23 = .ok (.iconst 1, 1) := by decide +kernel
theorem dX4_readCouples_24 : decode cX4_readCouples 24 = .ok (.ireturn, 1) := by decide +kernel
theorem dX4_readCouples_25 : decode cX4_readCouples 25 = .ok (.aload_n 0, 1) := by decide +kernel
theorem dX4_readCouples_26 : decode cX4_readCouples 26 = .ok (.iload_n 3, 1) := by decide +kernel
theorem dX4_readCouples_27 : decode cX4_readCouples 27 = .ok (.bipush 22, 2) := by decide +kernel
theorem dX4_readCouples_29 : decode cX4_readCouples 29 = .ok (.bipush 22, 2) := by decide +kernel
theorem dX4_readCouples_31 : decode cX4_readCouples 31 = .ok (.invokevirtual 101, 3) := by decide +kernel
theorem dX4_readCouples_34 : decode cX4_readCouples 34 = .ok (.ifCond .eq 17, 3) := by decide +kernel
theorem dX4_readCouples_37 : decode cX4_readCouples 37 = .ok (.aload_n 0, 1) := by decide +kernel
theorem dX4_readCouples_38 : decode cX4_readCouples 38 = .ok (.iconst 0, 1) := by decide +kernel
theorem dX4_readCouples_39 : decode cX4_readCouples 39 = .ok (.aload_n 1, 1) := by decide +kernel
theorem dX4_readCouples_40 : decode cX4_readCouples 40 = .ok (.getfield 146, 3) := by decide +kernel
theorem dX4_readCouples_43 : decode cX4_readCouples 43 = .ok (.iconst 1, 1) := by decide +kernel
theorem dX4_readCouples_44 : decode cX4_readCouples 44 = .ok (.isub, 1) := by decide +kernel
theorem dX4_readCouples_45 : decode cX4_readCouples 45 = .ok (.invokevirtual 136, 3) := by decide +kernel
theorem dX4_readCouples_48 : decode cX4_readCouples 48 = .ok (.ifCond .ne 5, 3) := by decide +kernel
theorem dX4_readCouples_51 : decode cX4_readCouples 51 = .ok (.iconst 0, 1) := by decide +kernel
theorem dX4_readCouples_52 : decode cX4_readCouples 52 = .ok (.ireturn, 1) := by decide +kernel
theorem dX4_readCouples_53 : decode cX4_readCouples 53 = .ok (.aload_n 0, 1) := by decide +kernel
theorem dX4_readCouples_54 : decode cX4_readCouples 54 = .ok (.getfield 31, 3) := by decide +kernel
theorem dX4_readCouples_57 : decode cX4_readCouples 57 = .ok (.istore 4, 2) := by decide +kernel
theorem dX4_readCouples_59 : decode cX4_readCouples 59 = .ok (.aload_n 0, 1) := by decide +kernel
theorem dX4_readCouples_60 : decode cX4_readCouples 60 = .ok (.iload_n 2, 1) := by decide +kernel
theorem dX4_readCouples_61 : decode cX4_readCouples 61 = .ok (.ifCond .eq 8, 3) := by decide +kernel
theorem dX4_readCouples_64 : decode cX4_readCouples 64 = .ok (.bipush 23, 2) := by decide +kernel
theorem dX4_readCouples_66 : decode cX4_readCouples 66 = .ok (.goto 5, 3) := by decide +kernel
theorem dX4_readCouples_69 : decode cX4_readCouples 69 = .ok (.bipush 24, 2) := by decide +kernel
theorem dX4_readCouples_71 : decode cX4_readCouples 71 = .ok (.invokevirtual 149, 3) := by decide +kernel
theorem dX4_readCouples_74 : decode cX4_readCouples 74 = .ok (.ifCond .ne 5, 3) := by decide +kernel
theorem dX4_readCouples_77 : decode cX4_readCouples 77 = .ok (.iconst 0, 1) := by decide +kernel
theorem dX4_readCouples_78 : decode cX4_readCouples 78 = .ok (.ireturn, 1) := by decide +kernel
theorem dX4_readCouples_79 : decode cX4_readCouples 79 = .ok (.aload_n 0, 1) := by decide +kernel
theorem dX4_readCouples_80 : decode cX4_readCouples 80 = .ok (.iconst 0, 1) := by decide +kernel
theorem dX4_readCouples_81 : decode cX4_readCouples 81 = .ok (.iload_n 2, 1) := by decide +kernel
theorem dX4_readCouples_82 : decode cX4_readCouples 82 = .ok (.ifCond .eq 10, 3) := by decide +kernel
theorem dX4_readCouples_85 : decode cX4_readCouples 85 = .ok (.aload_n 1, 1) := by decide +kernel
theorem dX4_readCouples_86 : decode cX4_readCouples 86 = .ok (.getfield 141, 3) := by decide +kernel
theorem dX4_readCouples_89 : decode cX4_readCouples 89 = .ok (.goto 7, 3) := by decide +kernel
theorem dX4_readCouples_92 : decode cX4_readCouples 92 = .ok (.aload_n 1, 1) := by decide +kernel
theorem dX4_readCouples_93 : decode cX4_readCouples 93 = .ok (.getfield 146, 3) := by decide +kernel
theorem dX4_readCouples_96 : decode cX4_readCouples 96 = .ok (.iconst 1, 1) := by decide +kernel
theorem dX4_readCouples_97 : decode cX4_readCouples 97 = .ok (.isub, 1) := by decide +kernel
theorem dX4_readCouples_98 : decode cX4_readCouples 98 = .ok (.invokevirtual 136, 3) := by decide +kernel
theorem dX4_readCouples_101 : decode cX4_readCouples 101 = .ok (.ifCond .ne 5, 3) := by decide +kernel
theorem dX4_readCouples_104 : decode cX4_readCouples 104 = .ok (.iconst 0, 1) := by decide +kernel
theorem dX4_readCouples_105 : decode cX4_readCouples 105 = .ok (.ireturn, 1) := by decide +kernel
theorem dX4_readCouples_106 : decode cX4_readCouples 106 = .ok (.iload_n 2, 1) := by decide +kernel
theorem dX4_readCouples_107 : decode cX4_readCouples 107 = .ok (.ifCond .eq 19, 3) := by decide +kernel
theorem dX4_readCouples_110 : decode cX4_readCouples 110 = .ok (.aload_n 1, 1) := by decide +kernel
theorem dX4_readCouples_111 : decode cX4_readCouples 111 = .ok (.iload 4, 2) := by decide +kernel
theorem dX4_readCouples_113 : decode cX4_readCouples 113 = .ok (.aload_n 0, 1) := by decide +kernel
theorem dX4_readCouples_114 : decode cX4_readCouples 114 = .ok (.getfield 31, 3) := by decide +kernel
theorem dX4_readCouples_117 : decode cX4_readCouples 117 = .ok (.invokestatic 152, 3) := by decide +kernel
theorem dX4_readCouples_120 : decode cX4_readCouples 120 = .ok (.ifCond .ne 31, 3) := by decide +kernel
theorem dX4_readCouples_123 : decode cX4_readCouples 123 = .ok (.goto 16, 3) := by decide +kernel
theorem dX4_readCouples_126 : decode cX4_readCouples 126 = .ok (.aload_n 1, 1) := by decide +kernel
theorem dX4_readCouples_127 : decode cX4_readCouples 127 = .ok (.iload 4, 2) := by decide +kernel
theorem dX4_readCouples_129 : decode cX4_readCouples 129 = .ok (.aload_n 0, 1) := by decide +kernel
theorem dX4_readCouples_130 : decode cX4_readCouples 130 = .ok (.getfield 31, 3) := by decide +kernel
theorem dX4_readCouples_133 : decode cX4_readCouples 133 = .ok (.invokestatic 156, 3) := by decide +kernel
theorem dX4_readCouples_136 : decode cX4_readCouples 136 = .ok (.ifCond .ne 15, 3) := by decide +kernel
theorem dX4_readCouples_139 : decode cX4_readCouples 139 = .ok (.aload_n 0, 1) := by decide +kernel
theorem dX4_readCouples_140 : decode cX4_readCouples 140 = .ok (.iconst 2, 1) := by decide +kernel
theorem dX4_readCouples_141 : decode cX4_readCouples 141 = .ok (.aload_n 0, 1) := by decide +kernel
theorem dX4_readCouples_142 : decode cX4_readCouples 142 = .ok (.getfield 28, 3) := by decide +kernel
theorem dX4_readCouples_145 : decode cX4_readCouples 145 = .ok (.iconst 1, 1) := by decide +kernel
theorem dX4_readCouples_146 : decode cX4_readCouples 146 = .ok (.isub, 1) := by decide +kernel
theorem dX4_readCouples_147 : decode cX4_readCouples 147 = .ok (.invokevirtual 91, 3) := by decide +kernel
theorem dX4_readCouples_150 : decode cX4_readCouples 150 = .ok (.ireturn, 1) := by decide +kernel
theorem dX4_readCouples_151 : decode cX4_readCouples 151 = .ok (.aload_n 0, 1) := by decide +kernel
theorem dX4_readCouples_152 : decode cX4_readCouples 152 = .ok (.bipush 59, 2) := by decide +kernel
theorem dX4_readCouples_154 : decode cX4_readCouples 154 = .ok (.invokevirtual 117, 3) := by decide +kernel
theorem dX4_readCouples_157 : decode cX4_readCouples 157 = .ok (.ifCond .ne 5, 3) := by decide +kernel
theorem dX4_readCouples_160 : decode cX4_readCouples 160 = .ok (.iconst 0, 1) := by decide +kernel
theorem dX4_readCouples_161 : decode cX4_readCouples 161 = .ok (.ireturn, 1) := by decide +kernel
theorem dX4_readCouples_162 : decode cX4_readCouples 162 = .ok (.aload_n 0, 1) := by decide +kernel
theorem dX4_readCouples_163 : decode cX4_readCouples 163 = .ok (.getfield 52, 3) := by decide +kernel
theorem dX4_readCouples_166 : decode cX4_readCouples 166 = .ok (.iload 4, 2) := by decide +kernel
theorem dX4_readCouples_168 : decode cX4_readCouples 168 = .ok (.aload_n 0, 1) := by decide +kernel
theorem dX4_readCouples_169 : decode cX4_readCouples 169 = .ok (.getfield 31, 3) := by decide +kernel
theorem dX4_readCouples_172 : decode cX4_readCouples 172 = .ok (.iconst 0, 1) := by decide +kernel
theorem dX4_readCouples_173 : decode cX4_readCouples 173 = .ok (.iconst 0, 1) := by decide +kernel
theorem dX4_readCouples_174 : decode cX4_readCouples 174 = .ok (.invokevirtual 123, 3) := by decide +kernel
theorem dX4_readCouples_177 : decode cX4_readCouples 177 = .ok (.pop, 1) := by decide +kernel
theorem dX4_readCouples_178 : decode cX4_readCouples 178 = .ok (.iinc 3 1, 3) := by decide +kernel
theorem dX4_readCouples_181 : decode cX4_readCouples 181 = .ok (.goto (-171), 3) := by decide +kernel
theorem dX4_readCouples_184 : decode cX4_readCouples 184 = .ok (.iconst 0, 1) := by decide +kernel
theorem dX4_readCouples_185 : decode cX4_readCouples 185 = .ok (.ireturn, 1) := by decide +kernel
theorem dX4_canServe_0 : decode cX4_canServe 0 = .ok (.aload_n 0, 1) := by decide +kernel
theorem dX4_canServe_1 : decode cX4_canServe 1 = .ok (.iload_n 1, 1) := by decide +kernel
theorem dX4_canServe_2 : decode cX4_canServe 2 = .ok (.invokevirtual 159, 3) := by decide +kernel
theorem dX4_canServe_5 : decode cX4_canServe 5 = .ok (.ifCond .eq 30, 3) := by decide +kernel
theorem dX4_canServe_8 : decode cX4_canServe 8 = .ok (.aload_n 0, 1) := by decide +kernel
theorem dX4_canServe_9 : decode cX4_canServe 9 = .ok (.iload_n 2, 1) := by decide +kernel
theorem dX4_canServe_10 : decode cX4_canServe 10 = .ok (.invokevirtual 162, 3) := by decide +kernel
theorem dX4_canServe_13 : decode cX4_canServe 13 = .ok (.ifCond .eq 22, 3) := by decide +kernel
theorem dX4_canServe_16 : decode cX4_canServe 16 = .ok (.aload_n 0, 1) := by decide +kernel
theorem dX4_canServe_17 : decode cX4_canServe 17 = .ok (.getfield 165, 3) := by decide +kernel
theorem dX4_canServe_20 : decode cX4_canServe 20 = .ok (.iload_n 1, 1) := by decide +kernel
theorem dX4_canServe_21 : decode cX4_canServe 21 = .ok (.iaload, 1) := by decide +kernel
theorem dX4_canServe_22 : decode cX4_canServe 22 = .ok (.aload_n 0, 1) := by decide +kernel
theorem dX4_canServe_23 : decode cX4_canServe 23 = .ok (.getfield 168, 3) := by decide +kernel
theorem dX4_canServe_26 : decode cX4_canServe 26 = .ok (.iload_n 2, 1) := by decide +kernel
theorem dX4_canServe_27 : decode cX4_canServe 27 = .ok (.iaload, 1) := by decide +kernel
theorem dX4_canServe_28 : decode cX4_canServe 28 = .ok (.if_icmp .eq 7, 3) := by decide +kernel
theorem dX4_canServe_31 : decode cX4_canServe 31 = .ok (.iconst 1, 1) := by decide +kernel
theorem dX4_canServe_32 : decode cX4_canServe 32 = .ok (.goto 4, 3) := by decide +kernel
theorem dX4_canServe_35 : decode cX4_canServe 35 = .ok (.iconst 0, 1) := by decide +kernel
theorem dX4_canServe_36 : decode cX4_canServe 36 = .ok (.ireturn, 1) := by decide +kernel
theorem dX4_canNeed_0 : decode cX4_canNeed 0 = .ok (.aload_n 0, 1) := by decide +kernel
theorem dX4_canNeed_1 : decode cX4_canNeed 1 = .ok (.iload_n 1, 1) := by decide +kernel
theorem dX4_canNeed_2 : decode cX4_canNeed 2 = .ok (.invokevirtual 159, 3) := by decide +kernel
theorem dX4_canNeed_5 : decode cX4_canNeed 5 = .ok (.ifCond .eq 35, 3) := by decide +kernel
theorem dX4_canNeed_8 : decode cX4_canNeed 8 = .ok (.aload_n 0, 1) := by decide +kernel
theorem dX4_canNeed_9 : decode cX4_canNeed 9 = .ok (.iload_n 2, 1) := by decide +kernel
theorem dX4_canNeed_10 : decode cX4_canNeed 10 = .ok (.invokevirtual 159, 3) := by decide +kernel
theorem dX4_canNeed_13 : decode cX4_canNeed 13 = .ok (.ifCond .eq 27, 3) := by decide +kernel
theorem dX4_canNeed_16 : decode cX4_canNeed 16 = .ok (.iload_n 1, 1) := by decide +kernel
theorem dX4_canNeed_17 : decode cX4_canNeed 17 = .ok (.iload_n 2, 1) := by decide +kernel
theorem dX4_canNeed_18 : decode cX4_canNeed 18 = .ok (.if_icmp .eq 22, 3) := by decide +kernel
theorem dX4_canNeed_21 : decode cX4_canNeed 21 = .ok (.aload_n 0, 1) := by decide +kernel
theorem dX4_canNeed_22 : decode cX4_canNeed 22 = .ok (.getfield 165, 3) := by decide +kernel
theorem dX4_canNeed_25 : decode cX4_canNeed 25 = .ok (.iload_n 1, 1) := by decide +kernel
theorem dX4_canNeed_26 : decode cX4_canNeed 26 = .ok (.iaload, 1) := by decide +kernel
theorem dX4_canNeed_27 : decode cX4_canNeed 27 = .ok (.aload_n 0, 1) := by decide +kernel
theorem dX4_canNeed_28 : decode cX4_canNeed 28 = .ok (.getfield 165, 3) := by decide +kernel
theorem dX4_canNeed_31 : decode cX4_canNeed 31 = .ok (.iload_n 2, 1) := by decide +kernel
theorem dX4_canNeed_32 : decode cX4_canNeed 32 = .ok (.iaload, 1) := by decide +kernel
theorem dX4_canNeed_33 : decode cX4_canNeed 33 = .ok (.if_icmp .ne 7, 3) := by decide +kernel
theorem dX4_canNeed_36 : decode cX4_canNeed 36 = .ok (.iconst 1, 1) := by decide +kernel
theorem dX4_canNeed_37 : decode cX4_canNeed 37 = .ok (.goto 4, 3) := by decide +kernel
theorem dX4_canNeed_40 : decode cX4_canNeed 40 = .ok (.iconst 0, 1) := by decide +kernel
theorem dX4_canNeed_41 : decode cX4_canNeed 41 = .ok (.ireturn, 1) := by decide +kernel
theorem dX5_peg_0 : decode cX5_peg 0 = .ok (.iconst 0, 1) := by decide +kernel
theorem dX5_peg_1 : decode cX5_peg 1 = .ok (.istore_n 3, 1) := by decide +kernel
theorem dX5_peg_2 : decode cX5_peg 2 = .ok (.iconst 2, 1) := by decide +kernel
theorem dX5_peg_3 : decode cX5_peg 3 = .ok (.istore 4, 2) := by decide +kernel
theorem dX5_peg_5 : decode cX5_peg 5 = .ok (.iload_n 0, 1) := by decide +kernel
theorem dX5_peg_6 : decode cX5_peg 6 = .ok (.iconst 1, 1) := by decide +kernel
theorem dX5_peg_7 : decode cX5_peg 7 = .ok (.isub, 1) := by decide +kernel
theorem dX5_peg_8 : decode cX5_peg 8 = .ok (.istore 5, 2) := by decide +kernel
theorem dX5_peg_10 : decode cX5_peg 10 = .ok (.iload 5, 2) := by decide +kernel
theorem dX5_peg_12 : decode cX5_peg 12 = .ok (.iload_n 1, 1) := by decide +kernel
theorem dX5_peg_13 : decode cX5_peg 13 = .ok (.if_icmp .le 36, 3) := by decide +kernel
theorem dX5_peg_16 : decode cX5_peg 16 = .ok (.iconst 3, 1) := by decide +kernel
theorem dX5_peg_17 : decode cX5_peg 17 = .ok (.iload_n 3, 1) := by decide +kernel
theorem dX5_peg_18 : decode cX5_peg 18 = .ok (.isub, 1) := by decide +kernel
theorem dX5_peg_19 : decode cX5_peg 19 = .ok (.iload 4, 2) := by decide +kernel
theorem dX5_peg_21 : decode cX5_peg 21 = .ok (.isub, 1) := by decide +kernel
theorem dX5_peg_22 : decode cX5_peg 22 = .ok (.istore 6, 2) := by decide +kernel
theorem dX5_peg_24 : decode cX5_peg 24 = .ok (.iload_n 2, 1) := by decide +kernel
theorem dX5_peg_25 : decode cX5_peg 25 = .ok (.iload 5, 2) := by decide +kernel
theorem dX5_peg_27 : decode cX5_peg 27 = .ok (.ishr, 1) := by decide +kernel
theorem dX5_peg_28 : decode cX5_peg 28 = .ok (.iconst 1, 1) := by decide +kernel
theorem dX5_peg_29 : decode cX5_peg 29 = .ok (.iand, 1) := by decide +kernel
theorem dX5_peg_30 : decode cX5_peg 30 = .ok (.ifCond .ne 10, 3) := by decide +kernel
theorem dX5_peg_33 : decode cX5_peg 33 = .ok (.iload 6, 2) := by decide +kernel
theorem dX5_peg_35 : decode cX5_peg 35 = .ok (.istore 4, 2) := by decide +kernel
theorem dX5_peg_37 : decode cX5_peg 37 = .ok (.goto 6, 3) := by decide +kernel
theorem dX5_peg_40 : decode cX5_peg 40 = .ok (.iload 6, 2) := by decide +kernel
theorem dX5_peg_42 : decode cX5_peg 42 = .ok (.istore_n 3, 1) := by decide +kernel
theorem dX5_peg_43 : decode cX5_peg 43 = .ok (.iinc 5 (-1), 3) := by decide +kernel
theorem dX5_peg_46 : decode cX5_peg 46 = .ok (.goto (-36), 3) := by decide +kernel
theorem dX5_peg_49 : decode cX5_peg 49 = .ok (.iload_n 2, 1) := by decide +kernel
theorem dX5_peg_50 : decode cX5_peg 50 = .ok (.iload_n 1, 1) := by decide +kernel
theorem dX5_peg_51 : decode cX5_peg 51 = .ok (.ishr, 1) := by decide +kernel
theorem dX5_peg_52 : decode cX5_peg 52 = .ok (.iconst 1, 1) := by decide +kernel
theorem dX5_peg_53 : decode cX5_peg 53 = .ok (.iand, 1) := by decide +kernel
theorem dX5_peg_54 : decode cX5_peg 54 = .ok (.ifCond .ne 7, 3) := by decide +kernel
theorem dX5_peg_57 : decode cX5_peg 57 = .ok (.iload_n 3, 1) := by decide +kernel
theorem dX5_peg_58 : decode cX5_peg 58 = .ok (.goto 5, 3) := by decide +kernel
theorem dX5_peg_61 : decode cX5_peg 61 = .ok (.iload 4, 2) := by decide +kernel
theorem dX5_peg_63 : decode cX5_peg 63 = .ok (.ireturn, 1) := by decide +kernel
theorem dX5_movesLeft_0 : decode cX5_movesLeft 0 = .ok (.ldc2_w 9, 3) := by decide +kernel
theorem dX5_movesLeft_3 : decode cX5_movesLeft 3 = .ok (.lstore_n 1, 1) := by decide +kernel
theorem dX5_movesLeft_4 : decode cX5_movesLeft 4 = .ok (.iconst 1, 1) := by decide +kernel
theorem dX5_movesLeft_5 : decode cX5_movesLeft 5 = .ok (.istore_n 3, 1) := by decide +kernel
theorem dX5_movesLeft_6 : decode cX5_movesLeft 6 = .ok (.iload_n 3, 1) := by decide +kernel
theorem dX5_movesLeft_7 : decode cX5_movesLeft 7 = .ok (.bipush 10, 2) := by decide +kernel
theorem dX5_movesLeft_9 : decode cX5_movesLeft 9 = .ok (.if_icmp .gt 43, 3) := by decide +kernel
theorem dX5_movesLeft_12 : decode cX5_movesLeft 12 = .ok (.iload_n 0, 1) := by decide +kernel
theorem dX5_movesLeft_13 : decode cX5_movesLeft 13 = .ok (.i2l, 1) := by decide +kernel
theorem dX5_movesLeft_14 : decode cX5_movesLeft 14 = .ok (.lload_n 1, 1) := by decide +kernel
theorem dX5_movesLeft_15 : decode cX5_movesLeft 15 = .ok (.lcmp, 1) := by decide +kernel
theorem dX5_movesLeft_16 : decode cX5_movesLeft 16 = .ok (.ifCond .lt 24, 3) := by decide +kernel
theorem dX5_movesLeft_19 : decode cX5_movesLeft 19 = .ok (.iload_n 0, 1) := by decide +kernel
theorem dX5_movesLeft_20 : decode cX5_movesLeft 20 = .ok (.i2l, 1) := by decide +kernel
theorem dX5_movesLeft_21 : decode cX5_movesLeft 21 = .ok (.ldc2_w 11, 3) := by decide +kernel
theorem dX5_movesLeft_24 : decode cX5_movesLeft 24 = .ok (.lload_n 1, 1) := by decide +kernel
theorem dX5_movesLeft_25 : decode cX5_movesLeft 25 = .ok (.lmul, 1) := by decide +kernel
theorem dX5_movesLeft_26 : decode cX5_movesLeft 26 = .ok (.lcmp, 1) := by decide +kernel
theorem dX5_movesLeft_27 : decode cX5_movesLeft 27 = .ok (.ifCond .ge 13, 3) := by decide +kernel
theorem dX5_movesLeft_30 : decode cX5_movesLeft 30 = .ok (.iload_n 0, 1) := by decide +kernel
theorem dX5_movesLeft_31 : decode cX5_movesLeft 31 = .ok (.i2l, 1) := by decide +kernel
theorem dX5_movesLeft_32 : decode cX5_movesLeft 32 = .ok (.lload_n 1, 1) := by decide +kernel
theorem dX5_movesLeft_33 : decode cX5_movesLeft 33 = .ok (.lsub, 1) := by decide +kernel
theorem dX5_movesLeft_34 : decode cX5_movesLeft 34 = .ok (.l2i, 1) := by decide +kernel
theorem dX5_movesLeft_35 : decode cX5_movesLeft 35 = .ok (.iload_n 3, 1) := by decide +kernel
theorem dX5_movesLeft_36 : decode cX5_movesLeft 36 = .ok (.invokestatic 13, 3) := by decide +kernel
theorem dX5_movesLeft_39 : decode cX5_movesLeft 39 = .ok (.ireturn, 1) := by decide +kernel
theorem dX5_movesLeft_40 : decode cX5_movesLeft 40 = .ok (.lload_n 1, 1) := by decide +kernel
theorem dX5_movesLeft_41 : decode cX5_movesLeft 41 = .ok (.ldc2_w 9, 3) := by decide +kernel
theorem dX5_movesLeft_44 : decode cX5_movesLeft 44 = .ok (.lmul, 1) := by decide +kernel
theorem dX5_movesLeft_45 : decode cX5_movesLeft 45 = .ok (.lstore_n 1, 1) := by decide +kernel
theorem dX5_movesLeft_46 : decode cX5_movesLeft 46 = .ok (.iinc 3 1, 3) := by decide +kernel
theorem dX5_movesLeft_49 : decode cX5_movesLeft 49 = .ok (.goto (-43), 3) := by decide +kernel
theorem dX5_movesLeft_52 : decode cX5_movesLeft 52 = .ok (.iconst (-1), 1) := by decide +kernel
theorem dX5_movesLeft_53 : decode cX5_movesLeft 53 = .ok (.ireturn, 1) := by decide +kernel
theorem dX5_movesFrom_0 : decode cX5_movesFrom 0 = .ok (.iconst 0, 1) := by decide +kernel
theorem dX5_movesFrom_1 : decode cX5_movesFrom 1 = .ok (.istore_n 2, 1) := by decide +kernel
theorem dX5_movesFrom_2 : decode cX5_movesFrom 2 = .ok (.iconst 2, 1) := by decide +kernel
theorem dX5_movesFrom_3 : decode cX5_movesFrom 3 = .ok (.istore_n 3, 1) := by decide +kernel
theorem dX5_movesFrom_4 : decode cX5_movesFrom 4 = .ok (.iload_n 0, 1) := by decide +kernel
theorem dX5_movesFrom_5 : decode cX5_movesFrom 5 = .ok (.istore 4, 2) := by decide +kernel
theorem dX5_movesFrom_7 : decode cX5_movesFrom 7 = .ok (.iload_n 1, 1) := by decide +kernel
theorem dX5_movesFrom_8 : decode cX5_movesFrom 8 = .ok (.iconst 1, 1) := by decide +kernel
theorem dX5_movesFrom_9 : decode cX5_movesFrom 9 = .ok (.isub, 1) := by decide +kernel
theorem dX5_movesFrom_10 : decode cX5_movesFrom 10 = .ok (.istore 5, 2) := by decide +kernel
theorem dX5_movesFrom_12 : decode cX5_movesFrom 12 = .ok (.iload 5, 2) := by decide +kernel
theorem dX5_movesFrom_14 : decode cX5_movesFrom 14 = .ok (.ifCond .lt 51, 3) := by decide +kernel
theorem dX5_movesFrom_17 : decode cX5_movesFrom 17 = .ok (.iload 4, 2) := by decide +kernel
theorem dX5_movesFrom_19 : decode cX5_movesFrom 19 = .ok (.bipush 10, 2) := by decide +kernel
theorem dX5_movesFrom_21 : decode cX5_movesFrom 21 = .ok (.irem, 1) := by decide +kernel
theorem dX5_movesFrom_22 : decode cX5_movesFrom 22 = .ok (.istore 6, 2) := by decide +kernel
theorem dX5_movesFrom_24 : decode cX5_movesFrom 24 = .ok (.iload 4, 2) := by decide +kernel
theorem dX5_movesFrom_26 : decode cX5_movesFrom 26 = .ok (.bipush 10, 2) := by decide +kernel
theorem dX5_movesFrom_28 : decode cX5_movesFrom 28 = .ok (.idiv, 1) := by decide +kernel
theorem dX5_movesFrom_29 : decode cX5_movesFrom 29 = .ok (.istore 4, 2) := by decide +kernel
theorem dX5_movesFrom_31 : decode cX5_movesFrom 31 = .ok (.iload 6, 2) := by decide +kernel
theorem dX5_movesFrom_33 : decode cX5_movesFrom 33 = .ok (.iconst 2, 1) := by decide +kernel
theorem dX5_movesFrom_34 : decode cX5_movesFrom 34 = .ok (.if_icmp .le 5, 3) := by decide +kernel
theorem dX5_movesFrom_37 : decode cX5_movesFrom 37 = .ok (.iconst (-1), 1) := by decide +kernel
theorem dX5_movesFrom_38 : decode cX5_movesFrom 38 = .ok (.ireturn, 1) := by decide +kernel
theorem dX5_movesFrom_39 : decode cX5_movesFrom 39 = .ok (.iload 6, 2) := by decide +kernel
theorem dX5_movesFrom_41 : decode cX5_movesFrom 41 = .ok (.iload_n 3, 1) := by decide +kernel
theorem dX5_movesFrom_42 : decode cX5_movesFrom 42 = .ok (.if_icmp .eq 17, 3) := by decide +kernel
theorem dX5_movesFrom_45 : decode cX5_movesFrom 45 = .ok (.iload_n 2, 1) := by decide +kernel
theorem dX5_movesFrom_46 : decode cX5_movesFrom 46 = .ok (.iconst 1, 1) := by decide +kernel
theorem dX5_movesFrom_47 : decode cX5_movesFrom 47 = .ok (.iload 5, 2) := by decide +kernel
theorem dX5_movesFrom_49 : decode cX5_movesFrom 49 = .ok (.ishl, 1) := by decide +kernel
theorem dX5_movesFrom_50 : decode cX5_movesFrom 50 = .ok (.iadd, 1) := by decide +kernel
theorem dX5_movesFrom_51 : decode cX5_movesFrom 51 = .ok (.istore_n 2, 1) := by decide +kernel
theorem dX5_movesFrom_52 : decode cX5_movesFrom 52 = .ok (.iconst 3, 1) := by decide +kernel
theorem dX5_movesFrom_53 : decode cX5_movesFrom 53 = .ok (.iload_n 3, 1) := by decide +kernel
theorem dX5_movesFrom_54 : decode cX5_movesFrom 54 = .ok (.isub, 1) := by decide +kernel
theorem dX5_movesFrom_55 : decode cX5_movesFrom 55 = .ok (.iload 6, 2) := by decide +kernel
theorem dX5_movesFrom_57 : decode cX5_movesFrom 57 = .ok (.isub, 1) := by decide +kernel
theorem dX5_movesFrom_58 : decode cX5_movesFrom 58 = .ok (.istore_n 3, 1) := by decide +kernel
theorem dX5_movesFrom_59 : decode cX5_movesFrom 59 = .ok (.iinc 5 (-1), 3) := by decide +kernel
theorem dX5_movesFrom_62 : decode cX5_movesFrom 62 = .ok (.goto (-50), 3) := by decide +kernel
theorem dX5_movesFrom_65 : decode cX5_movesFrom 65 = .ok (.iload_n 2, 1) := by decide +kernel
theorem dX5_movesFrom_66 : decode cX5_movesFrom 66 = .ok (.ireturn, 1) := by decide +kernel
theorem dX5_housed_0 : decode cX5_housed 0 = .ok (.iload_n 0, 1) := by decide +kernel
theorem dX5_housed_1 : decode cX5_housed 1 = .ok (.ifCond .le 18, 3) := by decide +kernel
theorem dX5_housed_4 : decode cX5_housed 4 = .ok (.iload_n 0, 1) := by decide +kernel
theorem dX5_housed_5 : decode cX5_housed 5 = .ok (.bipush 10, 2) := by decide +kernel
theorem dX5_housed_7 : decode cX5_housed 7 = .ok (.if_icmp .gt 12, 3) := by decide +kernel
theorem dX5_housed_10 : decode cX5_housed 10 = .ok (.iload_n 1, 1) := by decide +kernel
theorem dX5_housed_11 : decode cX5_housed 11 = .ok (.ifCond .le 8, 3) := by decide +kernel
theorem dX5_housed_14 : decode cX5_housed 14 = .ok (.iload_n 1, 1) := by decide +kernel
theorem dX5_housed_15 : decode cX5_housed 15 = .ok (.iload_n 0, 1) := by decide +kernel
theorem dX5_housed_16 : decode cX5_housed 16 = .ok (.if_icmp .le 17, 3) := by decide +kernel
theorem dX5_housed_19 : decode cX5_housed 19 = .ok (.iload_n 0, 1) := by decide +kernel
theorem dX5_housed_20 : decode cX5_housed 20 = .ok (.ifCond .ne 11, 3) := by decide +kernel
theorem dX5_housed_23 : decode cX5_housed 23 = .ok (.iload_n 1, 1) := by decide +kernel
theorem dX5_housed_24 : decode cX5_housed 24 = .ok (.ifCond .ne 7, 3) := by decide +kernel
theorem dX5_housed_27 : decode cX5_housed 27 = .ok (.iconst 1, 1) := by decide +kernel
theorem dX5_housed_28 : decode cX5_housed 28 = .ok (.goto 4, 3) := by decide +kernel
theorem dX5_housed_31 : decode cX5_housed 31 = .ok (.iconst 0, 1) := by decide +kernel
theorem dX5_housed_32 : decode cX5_housed 32 = .ok (.ireturn, 1) := by decide +kernel
theorem dX5_housed_33 : decode cX5_housed 33 = .ok (.iload_n 1, 1) := by decide +kernel
theorem dX5_housed_34 : decode cX5_housed 34 = .ok (.iload_n 0, 1) := by decide +kernel
theorem dX5_housed_35 : decode cX5_housed 35 = .ok (.iconst 1, 1) := by decide +kernel
theorem dX5_housed_36 : decode cX5_housed 36 = .ok (.isub, 1) := by decide +kernel
theorem dX5_housed_37 : decode cX5_housed 37 = .ok (.iload_n 1, 1) := by decide +kernel
theorem dX5_housed_38 : decode cX5_housed 38 = .ok (.invokestatic 19, 3) := by decide +kernel
theorem dX5_housed_41 : decode cX5_housed 41 = .ok (.imul, 1) := by decide +kernel
theorem dX5_housed_42 : decode cX5_housed 42 = .ok (.iload_n 0, 1) := by decide +kernel
theorem dX5_housed_43 : decode cX5_housed 43 = .ok (.iconst 1, 1) := by decide +kernel
theorem dX5_housed_44 : decode cX5_housed 44 = .ok (.isub, 1) := by decide +kernel
theorem dX5_housed_45 : decode cX5_housed 45 = .ok (.iload_n 1, 1) := by decide +kernel
theorem dX5_housed_46 : decode cX5_housed 46 = .ok (.iconst 1, 1) := by decide +kernel
theorem dX5_housed_47 : decode cX5_housed 47 = .ok (.isub, 1) := by decide +kernel
theorem dX5_housed_48 : decode cX5_housed 48 = .ok (.invokestatic 19, 3) := by decide +kernel
theorem dX5_housed_51 : decode cX5_housed 51 = .ok (.iadd, 1) := by decide +kernel
theorem dX5_housed_52 : decode cX5_housed 52 = .ok (.ireturn, 1) := by decide +kernel
theorem dX5_choose_0 : decode cX5_choose 0 = .ok (.iload_n 1, 1) := by decide +kernel
theorem dX5_choose_1 : decode cX5_choose 1 = .ok (.ifCond .lt 8, 3) := by decide +kernel
theorem dX5_choose_4 : decode cX5_choose 4 = .ok (.iload_n 1, 1) := by decide +kernel
theorem dX5_choose_5 : decode cX5_choose 5 = .ok (.iload_n 0, 1) := by decide +kernel
theorem dX5_choose_6 : decode cX5_choose 6 = .ok (.if_icmp .le 5, 3) := by decide +kernel
theorem dX5_choose_9 : decode cX5_choose 9 = .ok (.iconst 0, 1) := by decide +kernel
theorem dX5_choose_10 : decode cX5_choose 10 = .ok (.ireturn, 1) := by decide +kernel
theorem dX5_choose_11 : decode cX5_choose 11 = .ok (.lconst 1, 1) := by decide +kernel
theorem dX5_choose_12 : decode cX5_choose 12 = .ok (.lstore_n 2, 1) := by decide +kernel
theorem dX5_choose_13 : decode cX5_choose 13 = .ok (.iconst 1, 1) := by decide +kernel
theorem dX5_choose_14 : decode cX5_choose 14 = .ok (.istore 4, 2) := by decide +kernel
theorem dX5_choose_16 : decode cX5_choose 16 = .ok (.iload 4, 2) := by decide +kernel
theorem dX5_choose_18 : decode cX5_choose 18 = .ok (.iload_n 1, 1) := by decide +kernel
theorem dX5_choose_19 : decode cX5_choose 19 = .ok (.if_icmp .gt 23, 3) := by decide +kernel
theorem dX5_choose_22 : decode cX5_choose 22 = .ok (.lload_n 2, 1) := by decide +kernel
theorem dX5_choose_23 : decode cX5_choose 23 = .ok (.iload_n 0, 1) := by decide +kernel
theorem dX5_choose_24 : decode cX5_choose 24 = .ok (.iload_n 1, 1) := by decide +kernel
theorem dX5_choose_25 : decode cX5_choose 25 = .ok (.isub, 1) := by decide +kernel
theorem dX5_choose_26 : decode cX5_choose 26 = .ok (.iload 4, 2) := by decide +kernel
theorem dX5_choose_28 : decode cX5_choose 28 = .ok (.iadd, 1) := by decide +kernel
theorem dX5_choose_29 : decode cX5_choose 29 = .ok (.i2l, 1) := by decide +kernel
theorem dX5_choose_30 : decode cX5_choose 30 = .ok (.lmul, 1) := by decide +kernel
theorem dX5_choose_31 : decode cX5_choose 31 = .ok (.iload 4, 2) := by decide +kernel
theorem dX5_choose_33 : decode cX5_choose 33 = .ok (.i2l, 1) := by decide +kernel
theorem dX5_choose_34 : decode cX5_choose 34 = .ok (.ldiv, 1) := by decide +kernel
theorem dX5_choose_35 : decode cX5_choose 35 = .ok (.lstore_n 2, 1) := by decide +kernel
theorem dX5_choose_36 : decode cX5_choose 36 = .ok (.iinc 4 1, 3) := by decide +kernel
theorem dX5_choose_39 : decode cX5_choose 39 = .ok (.goto (-23), 3) := by decide +kernel
theorem dX5_choose_42 : decode cX5_choose 42 = .ok (.lload_n 2, 1) := by decide +kernel
theorem dX5_choose_43 : decode cX5_choose 43 = .ok (.l2i, 1) := by decide +kernel
theorem dX5_choose_44 : decode cX5_choose 44 = .ok (.ireturn, 1) := by decide +kernel
theorem dX5_noneHisOwn_0 : decode cX5_noneHisOwn 0 = .ok (.iconst 1, 1) := by decide +kernel
theorem dX5_noneHisOwn_1 : decode cX5_noneHisOwn 1 = .ok (.istore_n 1, 1) := by decide +kernel
theorem dX5_noneHisOwn_2 : decode cX5_noneHisOwn 2 = .ok (.iconst 1, 1) := by decide +kernel
theorem dX5_noneHisOwn_3 : decode cX5_noneHisOwn 3 = .ok (.istore_n 2, 1) := by decide +kernel
theorem dX5_noneHisOwn_4 : decode cX5_noneHisOwn 4 = .ok (.iload_n 2, 1) := by decide +kernel
theorem dX5_noneHisOwn_5 : decode cX5_noneHisOwn 5 = .ok (.iload_n 0, 1) := by decide +kernel
theorem dX5_noneHisOwn_6 : decode cX5_noneHisOwn 6 = .ok (.if_icmp .gt 25, 3) := by decide +kernel
theorem dX5_noneHisOwn_9 : decode cX5_noneHisOwn 9 = .ok (.iload_n 1, 1) := by decide +kernel
theorem dX5_noneHisOwn_10 : decode cX5_noneHisOwn 10 = .ok (.iload_n 2, 1) := by decide +kernel
theorem dX5_noneHisOwn_11 : decode cX5_noneHisOwn 11 = .ok (.imul, 1) := by decide +kernel
theorem dX5_noneHisOwn_12 : decode cX5_noneHisOwn 12 = .ok (.iload_n 2, 1) := by decide +kernel
theorem dX5_noneHisOwn_13 : decode cX5_noneHisOwn 13 = .ok (.iconst 2, 1) := by decide +kernel
theorem dX5_noneHisOwn_14 : decode cX5_noneHisOwn 14 = .ok (.irem, 1) := by decide +kernel
theorem dX5_noneHisOwn_15 : decode cX5_noneHisOwn 15 = .ok (.ifCond .ne 7, 3) := by decide +kernel
theorem dX5_noneHisOwn_18 : decode cX5_noneHisOwn 18 = .ok (.iconst 1, 1) := by decide +kernel
theorem dX5_noneHisOwn_19 : decode cX5_noneHisOwn 19 = .ok (.goto 4, 3) := by decide +kernel
theorem dX5_noneHisOwn_22 : decode cX5_noneHisOwn 22 = .ok (.iconst (-1), 1) := by decide +kernel
theorem dX5_noneHisOwn_23 : decode cX5_noneHisOwn 23 = .ok (.iadd, 1) := by decide +kernel
theorem dX5_noneHisOwn_24 : decode cX5_noneHisOwn 24 = .ok (.istore_n 1, 1) := by decide +kernel
theorem dX5_noneHisOwn_25 : decode cX5_noneHisOwn 25 = .ok (.iinc 2 1, 3) := by decide +kernel
theorem dX5_noneHisOwn_28 : decode cX5_noneHisOwn 28 = .ok (.goto (-24), 3) := by decide +kernel
theorem dX5_noneHisOwn_31 : decode cX5_noneHisOwn 31 = .ok (.iload_n 1, 1) := by decide +kernel
theorem dX5_noneHisOwn_32 : decode cX5_noneHisOwn 32 = .ok (.ireturn, 1) := by decide +kernel
theorem dX5_commonPart_0 : decode cX5_commonPart 0 = .ok (.iload_n 0, 1) := by decide +kernel
theorem dX5_commonPart_1 : decode cX5_commonPart 1 = .ok (.iload_n 1, 1) := by decide +kernel
theorem dX5_commonPart_2 : decode cX5_commonPart 2 = .ok (.invokestatic 22, 3) := by decide +kernel
theorem dX5_commonPart_5 : decode cX5_commonPart 5 = .ok (.istore_n 2, 1) := by decide +kernel
theorem dX5_commonPart_6 : decode cX5_commonPart 6 = .ok (.iload_n 2, 1) := by decide +kernel
theorem dX5_commonPart_7 : decode cX5_commonPart 7 = .ok (.iconst 1, 1) := by decide +kernel
theorem dX5_commonPart_8 : decode cX5_commonPart 8 = .ok (.if_icmp .le 23, 3) := by decide +kernel
theorem dX5_commonPart_11 : decode cX5_commonPart 11 = .ok (.iload_n 0, 1) := by decide +kernel
theorem dX5_commonPart_12 : decode cX5_commonPart 12 = .ok (.iload_n 2, 1) := by decide +kernel
theorem dX5_commonPart_13 : decode cX5_commonPart 13 = .ok (.irem, 1) := by decide +kernel
theorem dX5_commonPart_14 : decode cX5_commonPart 14 = .ok (.ifCond .ne 11, 3) := by decide +kernel
theorem dX5_commonPart_17 : decode cX5_commonPart 17 = .ok (.iload_n 1, 1) := by decide +kernel
theorem dX5_commonPart_18 : decode cX5_commonPart 18 = .ok (.iload_n 2, 1) := by decide +kernel
theorem dX5_commonPart_19 : decode cX5_commonPart 19 = .ok (.irem, 1) := by decide +kernel
theorem dX5_commonPart_20 : decode cX5_commonPart 20 = .ok (.ifCond .ne 5, 3) := by decide +kernel
theorem dX5_commonPart_23 : decode cX5_commonPart 23 = .ok (.iload_n 2, 1) := by decide +kernel
theorem dX5_commonPart_24 : decode cX5_commonPart 24 = .ok (.ireturn, 1) := by decide +kernel
theorem dX5_commonPart_25 : decode cX5_commonPart 25 = .ok (.iinc 2 (-1), 3) := by decide +kernel
theorem dX5_commonPart_28 : decode cX5_commonPart 28 = .ok (.goto (-22), 3) := by decide +kernel
theorem dX5_commonPart_31 : decode cX5_commonPart 31 = .ok (.iconst 1, 1) := by decide +kernel
theorem dX5_commonPart_32 : decode cX5_commonPart 32 = .ok (.ireturn, 1) := by decide +kernel
theorem dX5_feastDay_0 : decode cX5_feastDay 0 = .ok (.iload_n 0, 1) := by decide +kernel
theorem dX5_feastDay_1 : decode cX5_feastDay 1 = .ok (.bipush 19, 2) := by decide +kernel
theorem dX5_feastDay_3 : decode cX5_feastDay 3 = .ok (.irem, 1) := by decide +kernel
theorem dX5_feastDay_4 : decode cX5_feastDay 4 = .ok (.istore_n 1, 1) := by decide +kernel
theorem dX5_feastDay_5 : decode cX5_feastDay 5 = .ok (.iload_n 0, 1) := by decide +kernel
theorem dX5_feastDay_6 : decode cX5_feastDay 6 = .ok (.bipush 100, 2) := by decide +kernel
theorem dX5_feastDay_8 : decode cX5_feastDay 8 = .ok (.idiv, 1) := by decide +kernel
theorem dX5_feastDay_9 : decode cX5_feastDay 9 = .ok (.istore_n 2, 1) := by decide +kernel
theorem dX5_feastDay_10 : decode cX5_feastDay 10 = .ok (.iload_n 0, 1) := by decide +kernel
theorem dX5_feastDay_11 : decode cX5_feastDay 11 = .ok (.bipush 100, 2) := by decide +kernel
theorem dX5_feastDay_13 : decode cX5_feastDay 13 = .ok (.irem, 1) := by decide +kernel
theorem dX5_feastDay_14 : decode cX5_feastDay 14 = .ok (.istore_n 3, 1) := by decide +kernel
theorem dX5_feastDay_15 : decode cX5_feastDay 15 = .ok (.iload_n 2, 1) := by decide +kernel
theorem dX5_feastDay_16 : decode cX5_feastDay 16 = .ok (.iconst 4, 1) := by decide +kernel
theorem dX5_feastDay_17 : decode cX5_feastDay 17 = .ok (.idiv, 1) := by decide +kernel
theorem dX5_feastDay_18 : decode cX5_feastDay 18 = .ok (.istore 4, 2) := by decide +kernel
theorem dX5_feastDay_20 : decode cX5_feastDay 20 = .ok (.iload_n 2, 1) := by decide +kernel
theorem dX5_feastDay_21 : decode cX5_feastDay 21 = .ok (.iconst 4, 1) := by decide +kernel
theorem dX5_feastDay_22 : decode cX5_feastDay 22 = .ok (.irem, 1) := by decide +kernel
theorem dX5_feastDay_23 : decode cX5_feastDay 23 = .ok (.istore 5, 2) := by decide +kernel
theorem dX5_feastDay_25 : decode cX5_feastDay 25 = .ok (.iload_n 2, 1) := by decide +kernel
theorem dX5_feastDay_26 : decode cX5_feastDay 26 = .ok (.bipush 8, 2) := by decide +kernel
theorem dX5_feastDay_28 : decode cX5_feastDay 28 = .ok (.iadd, 1) := by decide +kernel
theorem dX5_feastDay_29 : decode cX5_feastDay 29 = .ok (.bipush 25, 2) := by decide +kernel
theorem dX5_feastDay_31 : decode cX5_feastDay 31 = .ok (.idiv, 1) := by decide +kernel
theorem dX5_feastDay_32 : decode cX5_feastDay 32 = .ok (.istore 6, 2) := by decide +kernel
theorem dX5_feastDay_34 : decode cX5_feastDay 34 = .ok (.iload_n 2, 1) := by decide +kernel
theorem dX5_feastDay_35 : decode cX5_feastDay 35 = .ok (.iload 6, 2) := by decide +kernel
theorem dX5_feastDay_37 : decode cX5_feastDay 37 = .ok (.isub, 1) := by decide +kernel
theorem dX5_feastDay_38 : decode cX5_feastDay 38 = .ok (.iconst 1, 1) := by decide +kernel
theorem dX5_feastDay_39 : decode cX5_feastDay 39 = .ok (.iadd, 1) := by decide +kernel
theorem dX5_feastDay_40 : decode cX5_feastDay 40 = .ok (.iconst 3, 1) := by decide +kernel
theorem dX5_feastDay_41 : decode cX5_feastDay 41 = .ok (.idiv, 1) := by decide +kernel
theorem dX5_feastDay_42 : decode cX5_feastDay 42 = .ok (.istore 7, 2) := by decide +kernel
theorem dX5_feastDay_44 : decode cX5_feastDay 44 = .ok (.bipush 19, 2) := by decide +kernel
theorem dX5_feastDay_46 : decode cX5_feastDay 46 = .ok (.iload_n 1, 1) := by decide +kernel
theorem dX5_feastDay_47 : decode cX5_feastDay 47 = .ok (.imul, 1) := by decide +kernel
theorem dX5_feastDay_48 : decode cX5_feastDay 48 = .ok (.iload_n 2, 1) := by decide +kernel
theorem dX5_feastDay_49 : decode cX5_feastDay 49 = .ok (.iadd, 1) := by decide +kernel
theorem dX5_feastDay_50 : decode cX5_feastDay 50 = .ok (.iload 4, 2) := by decide +kernel
theorem dX5_feastDay_52 : decode cX5_feastDay 52 = .ok (.isub, 1) := by decide +kernel
theorem dX5_feastDay_53 : decode cX5_feastDay 53 = .ok (.iload 7, 2) := by decide +kernel
theorem dX5_feastDay_55 : decode cX5_feastDay 55 = .ok (.isub, 1) := by decide +kernel
theorem dX5_feastDay_56 : decode cX5_feastDay 56 = .ok (.bipush 15, 2) := by decide +kernel
theorem dX5_feastDay_58 : decode cX5_feastDay 58 = .ok (.iadd, 1) := by decide +kernel
theorem dX5_feastDay_59 : decode cX5_feastDay 59 = .ok (.bipush 30, 2) := by decide +kernel
theorem dX5_feastDay_61 : decode cX5_feastDay 61 = .ok (.irem, 1) := by decide +kernel
theorem dX5_feastDay_62 : decode cX5_feastDay 62 = .ok (.istore 8, 2) := by decide +kernel
theorem dX5_feastDay_64 : decode cX5_feastDay 64 = .ok (.iload_n 3, 1) := by decide +kernel
theorem dX5_feastDay_65 : decode cX5_feastDay 65 = .ok (.iconst 4, 1) := by decide +kernel
theorem dX5_feastDay_66 : decode cX5_feastDay 66 = .ok (.idiv, 1) := by decide +kernel
theorem dX5_feastDay_67 : decode cX5_feastDay 67 = .ok (.istore 9, 2) := by decide +kernel
theorem dX5_feastDay_69 : decode cX5_feastDay 69 = .ok (.iload_n 3, 1) := by decide +kernel
theorem dX5_feastDay_70 : decode cX5_feastDay 70 = .ok (.iconst 4, 1) := by decide +kernel
theorem dX5_feastDay_71 : decode cX5_feastDay 71 = .ok (.irem, 1) := by decide +kernel
theorem dX5_feastDay_72 : decode cX5_feastDay 72 = .ok (.istore 10, 2) := by decide +kernel
theorem dX5_feastDay_74 : decode cX5_feastDay 74 = .ok (.bipush 32, 2) := by decide +kernel
theorem dX5_feastDay_76 : decode cX5_feastDay 76 = .ok (.iconst 2, 1) := by decide +kernel
theorem dX5_feastDay_77 : decode cX5_feastDay 77 = .ok (.iload 5, 2) := by decide +kernel
theorem dX5_feastDay_79 : decode cX5_feastDay 79 = .ok (.imul, 1) := by decide +kernel
theorem dX5_feastDay_80 : decode cX5_feastDay 80 = .ok (.iadd, 1) := by decide +kernel
theorem dX5_feastDay_81 : decode cX5_feastDay 81 = .ok (.iconst 2, 1) := by decide +kernel
theorem dX5_feastDay_82 : decode cX5_feastDay 82 = .ok (.iload 9, 2) := by decide +kernel
theorem dX5_feastDay_84 : decode cX5_feastDay 84 = .ok (.imul, 1) := by decide +kernel
theorem dX5_feastDay_85 : decode cX5_feastDay 85 = .ok (.iadd, 1) := by decide +kernel
theorem dX5_feastDay_86 : decode cX5_feastDay 86 = .ok (.iload 8, 2) := by decide +kernel
theorem dX5_feastDay_88 : decode cX5_feastDay 88 = .ok (.isub, 1) := by decide +kernel
theorem dX5_feastDay_89 : decode cX5_feastDay 89 = .ok (.iload 10, 2) := by decide +kernel
theorem dX5_feastDay_91 : decode cX5_feastDay 91 = .ok (.isub, 1) := by decide +kernel
theorem dX5_feastDay_92 : decode cX5_feastDay 92 = .ok (.bipush 7, 2) := by decide +kernel
theorem dX5_feastDay_94 : decode cX5_feastDay 94 = .ok (.irem, 1) := by decide +kernel
theorem dX5_feastDay_95 : decode cX5_feastDay 95 = .ok (.istore 11, 2) := by decide +kernel
theorem dX5_feastDay_97 : decode cX5_feastDay 97 = .ok (.iload_n 1, 1) := by decide +kernel
theorem dX5_feastDay_98 : decode cX5_feastDay 98 = .ok (.bipush 11, 2) := by decide +kernel
theorem dX5_feastDay_100 : decode cX5_feastDay 100 = .ok (.iload 8, 2) := by decide +kernel
theorem dX5_feastDay_102 : decode cX5_feastDay 102 = .ok (.imul, 1) := by decide +kernel
theorem dX5_feastDay_103 : decode cX5_feastDay 103 = .ok (.iadd, 1) := by decide +kernel
theorem dX5_feastDay_104 : decode cX5_feastDay 104 = .ok (.bipush 22, 2) := by decide +kernel
theorem dX5_feastDay_106 : decode cX5_feastDay 106 = .ok (.iload 11, 2) := by decide +kernel
theorem dX5_feastDay_108 : decode cX5_feastDay 108 = .ok (.imul, 1) := by decide +kernel
theorem dX5_feastDay_109 : decode cX5_feastDay 109 = .ok (.iadd, 1) := by decide +kernel
theorem dX5_feastDay_110 : decode cX5_feastDay 110 = .ok (.sipush 451, 3) := by decide +kernel
theorem dX5_feastDay_113 : decode cX5_feastDay 113 = .ok (.idiv, 1) := by decide +kernel
theorem dX5_feastDay_114 : decode cX5_feastDay 114 = .ok (.istore 12, 2) := by decide +kernel
theorem dX5_feastDay_116 : decode cX5_feastDay 116 = .ok (.iload 8, 2) := by decide +kernel
theorem dX5_feastDay_118 : decode cX5_feastDay 118 = .ok (.iload 11, 2) := by decide +kernel
theorem dX5_feastDay_120 : decode cX5_feastDay 120 = .ok (.iadd, 1) := by decide +kernel
theorem dX5_feastDay_121 : decode cX5_feastDay 121 = .ok (.bipush 7, 2) := by decide +kernel
theorem dX5_feastDay_123 : decode cX5_feastDay 123 = .ok (.iload 12, 2) := by decide +kernel
theorem dX5_feastDay_125 : decode cX5_feastDay 125 = .ok (.imul, 1) := by decide +kernel
theorem dX5_feastDay_126 : decode cX5_feastDay 126 = .ok (.isub, 1) := by decide +kernel
theorem dX5_feastDay_127 : decode cX5_feastDay 127 = .ok (.bipush 114, 2) := by decide +kernel
theorem dX5_feastDay_129 : decode cX5_feastDay 129 = .ok (.iadd, 1) := by decide +kernel
theorem dX5_feastDay_130 : decode cX5_feastDay 130 = .ok (.ireturn, 1) := by decide +kernel
theorem dX5_digitSquares_0 : decode cX5_digitSquares 0 = .ok (.iconst 0, 1) := by decide +kernel
theorem dX5_digitSquares_1 : decode cX5_digitSquares 1 = .ok (.istore_n 1, 1) := by decide +kernel
theorem dX5_digitSquares_2 : decode cX5_digitSquares 2 = .ok (.iload_n 0, 1) := by decide +kernel
theorem dX5_digitSquares_3 : decode cX5_digitSquares 3 = .ok (.istore_n 2, 1) := by decide +kernel
theorem dX5_digitSquares_4 : decode cX5_digitSquares 4 = .ok (.iload_n 2, 1) := by decide +kernel
theorem dX5_digitSquares_5 : decode cX5_digitSquares 5 = .ok (.ifCond .le 23, 3) := by decide +kernel
theorem dX5_digitSquares_8 : decode cX5_digitSquares 8 = .ok (.iload_n 1, 1) := by decide +kernel
theorem dX5_digitSquares_9 : decode cX5_digitSquares 9 = .ok (.iload_n 2, 1) := by decide +kernel
theorem dX5_digitSquares_10 : decode cX5_digitSquares 10 = .ok (.bipush 10, 2) := by decide +kernel
theorem dX5_digitSquares_12 : decode cX5_digitSquares 12 = .ok (.irem, 1) := by decide +kernel
theorem dX5_digitSquares_13 : decode cX5_digitSquares 13 = .ok (.iload_n 2, 1) := by decide +kernel
theorem dX5_digitSquares_14 : decode cX5_digitSquares 14 = .ok (.bipush 10, 2) := by decide +kernel
theorem dX5_digitSquares_16 : decode cX5_digitSquares 16 = .ok (.irem, 1) := by decide +kernel
theorem dX5_digitSquares_17 : decode cX5_digitSquares 17 = .ok (.imul, 1) := by decide +kernel
theorem dX5_digitSquares_18 : decode cX5_digitSquares 18 = .ok (.iadd, 1) := by decide +kernel
theorem dX5_digitSquares_19 : decode cX5_digitSquares 19 = .ok (.istore_n 1, 1) := by decide +kernel
theorem dX5_digitSquares_20 : decode cX5_digitSquares 20 = .ok (.iload_n 2, 1) := by decide +kernel
theorem dX5_digitSquares_21 : decode cX5_digitSquares 21 = .ok (.bipush 10, 2) := by decide +kernel
theorem dX5_digitSquares_23 : decode cX5_digitSquares 23 = .ok (.idiv, 1) := by decide +kernel
theorem dX5_digitSquares_24 : decode cX5_digitSquares 24 = .ok (.istore_n 2, 1) := by decide +kernel
theorem dX5_digitSquares_25 : decode cX5_digitSquares 25 = .ok (.goto (-21), 3) := by decide +kernel
theorem dX5_digitSquares_28 : decode cX5_digitSquares 28 = .ok (.iload_n 1, 1) := by decide +kernel
theorem dX5_digitSquares_29 : decode cX5_digitSquares 29 = .ok (.ireturn, 1) := by decide +kernel
theorem dX5_happySteps_0 : decode cX5_happySteps 0 = .ok (.iload_n 0, 1) := by decide +kernel
theorem dX5_happySteps_1 : decode cX5_happySteps 1 = .ok (.istore_n 1, 1) := by decide +kernel
theorem dX5_happySteps_2 : decode cX5_happySteps 2 = .ok (.iconst 0, 1) := by decide +kernel
theorem dX5_happySteps_3 : decode cX5_happySteps 3 = .ok (.istore_n 2, 1) := by decide +kernel
theorem dX5_happySteps_4 : decode cX5_happySteps 4 = .ok (.iload_n 2, 1) := by decide +kernel
theorem dX5_happySteps_5 : decode cX5_happySteps 5 = .ok (.sipush 1000, 3) := by decide +kernel
theorem dX5_happySteps_8 : decode cX5_happySteps 8 = .ok (.if_icmp .ge 26, 3) := by decide +kernel
theorem dX5_happySteps_11 : decode cX5_happySteps 11 = .ok (.iload_n 1, 1) := by decide +kernel
theorem dX5_happySteps_12 : decode cX5_happySteps 12 = .ok (.iconst 1, 1) := by decide +kernel
theorem dX5_happySteps_13 : decode cX5_happySteps 13 = .ok (.if_icmp .eq 8, 3) := by decide +kernel
theorem dX5_happySteps_16 : decode cX5_happySteps 16 = .ok (.iload_n 1, 1) := by decide +kernel
theorem dX5_happySteps_17 : decode cX5_happySteps 17 = .ok (.iconst 4, 1) := by decide +kernel
theorem dX5_happySteps_18 : decode cX5_happySteps 18 = .ok (.if_icmp .ne 5, 3) := by decide +kernel
theorem dX5_happySteps_21 : decode cX5_happySteps 21 = .ok (.iload_n 2, 1) := by decide +kernel
theorem dX5_happySteps_22 : decode cX5_happySteps 22 = .ok (.ireturn, 1) := by decide +kernel
theorem dX5_happySteps_23 : decode cX5_happySteps 23 = .ok (.iload_n 1, 1) := by decide +kernel
theorem dX5_happySteps_24 : decode cX5_happySteps 24 = .ok (.invokestatic 27, 3) := by decide +kernel
theorem dX5_happySteps_27 : decode cX5_happySteps 27 = .ok (.istore_n 1, 1) := by decide +kernel
theorem dX5_happySteps_28 : decode cX5_happySteps 28 = .ok (.iinc 2 1, 3) := by decide +kernel
theorem dX5_happySteps_31 : decode cX5_happySteps 31 = .ok (.goto (-27), 3) := by decide +kernel
theorem dX5_happySteps_34 : decode cX5_happySteps 34 = .ok (.iconst (-1), 1) := by decide +kernel
theorem dX5_happySteps_35 : decode cX5_happySteps 35 = .ok (.ireturn, 1) := by decide +kernel
theorem dX5_happyEnd_0 : decode cX5_happyEnd 0 = .ok (.iload_n 0, 1) := by decide +kernel
theorem dX5_happyEnd_1 : decode cX5_happyEnd 1 = .ok (.istore_n 1, 1) := by decide +kernel
theorem dX5_happyEnd_2 : decode cX5_happyEnd 2 = .ok (.iconst 0, 1) := by decide +kernel
theorem dX5_happyEnd_3 : decode cX5_happyEnd 3 = .ok (.istore_n 2, 1) := by decide +kernel
theorem dX5_happyEnd_4 : decode cX5_happyEnd 4 = .ok (.iload_n 2, 1) := by decide +kernel
theorem dX5_happyEnd_5 : decode cX5_happyEnd 5 = .ok (.sipush 1000, 3) := by decide +kernel
theorem dX5_happyEnd_8 : decode cX5_happyEnd 8 = .ok (.if_icmp .ge 24, 3) := by decide +kernel
theorem dX5_happyEnd_11 : decode cX5_happyEnd 11 = .ok (.iload_n 1, 1) := by decide +kernel
theorem dX5_happyEnd_12 : decode cX5_happyEnd 12 = .ok (.iconst 1, 1) := by decide +kernel
theorem dX5_happyEnd_13 : decode cX5_happyEnd 13 = .ok (.if_icmp .eq 19, 3) := by decide +kernel
theorem dX5_happyEnd_16 : decode cX5_happyEnd 16 = .ok (.iload_n 1, 1) := by decide +kernel
theorem dX5_happyEnd_17 : decode cX5_happyEnd 17 = .ok (.iconst 4, 1) := by decide +kernel
theorem dX5_happyEnd_18 : decode cX5_happyEnd 18 = .ok (.if_icmp .eq 14, 3) := by decide +kernel
theorem dX5_happyEnd_21 : decode cX5_happyEnd 21 = .ok (.iload_n 1, 1) := by decide +kernel
theorem dX5_happyEnd_22 : decode cX5_happyEnd 22 = .ok (.invokestatic 27, 3) := by decide +kernel
theorem dX5_happyEnd_25 : decode cX5_happyEnd 25 = .ok (.istore_n 1, 1) := by decide +kernel
theorem dX5_happyEnd_26 : decode cX5_happyEnd 26 = .ok (.iinc 2 1, 3) := by decide +kernel
theorem dX5_happyEnd_29 : decode cX5_happyEnd 29 = .ok (.goto (-25), 3) := by decide +kernel
theorem dX5_happyEnd_32 : decode cX5_happyEnd 32 = .ok (.iload_n 1, 1) := by decide +kernel
theorem dX5_happyEnd_33 : decode cX5_happyEnd 33 = .ok (.ireturn, 1) := by decide +kernel
theorem dX5_happyUpTo_0 : decode cX5_happyUpTo 0 = .ok (.iconst 0, 1) := by decide +kernel
theorem dX5_happyUpTo_1 : decode cX5_happyUpTo 1 = .ok (.istore_n 1, 1) := by decide +kernel
theorem dX5_happyUpTo_2 : decode cX5_happyUpTo 2 = .ok (.iconst 1, 1) := by decide +kernel
theorem dX5_happyUpTo_3 : decode cX5_happyUpTo 3 = .ok (.istore_n 2, 1) := by decide +kernel
theorem dX5_happyUpTo_4 : decode cX5_happyUpTo 4 = .ok (.iload_n 2, 1) := by decide +kernel
theorem dX5_happyUpTo_5 : decode cX5_happyUpTo 5 = .ok (.iload_n 0, 1) := by decide +kernel
theorem dX5_happyUpTo_6 : decode cX5_happyUpTo 6 = .ok (.if_icmp .gt 25, 3) := by decide +kernel
theorem dX5_happyUpTo_9 : decode cX5_happyUpTo 9 = .ok (.iload_n 1, 1) := by decide +kernel
theorem dX5_happyUpTo_10 : decode cX5_happyUpTo 10 = .ok (.iload_n 2, 1) := by decide +kernel
theorem dX5_happyUpTo_11 : decode cX5_happyUpTo 11 = .ok (.invokestatic 31, 3) := by decide +kernel
theorem dX5_happyUpTo_14 : decode cX5_happyUpTo 14 = .ok (.iconst 1, 1) := by decide +kernel
theorem dX5_happyUpTo_15 : decode cX5_happyUpTo 15 = .ok (.if_icmp .ne 7, 3) := by decide +kernel
theorem dX5_happyUpTo_18 : decode cX5_happyUpTo 18 = .ok (.iconst 1, 1) := by decide +kernel
theorem dX5_happyUpTo_19 : decode cX5_happyUpTo 19 = .ok (.goto 4, 3) := by decide +kernel
theorem dX5_happyUpTo_22 : decode cX5_happyUpTo 22 = .ok (.iconst 0, 1) := by decide +kernel
theorem dX5_happyUpTo_23 : decode cX5_happyUpTo 23 = .ok (.iadd, 1) := by decide +kernel
theorem dX5_happyUpTo_24 : decode cX5_happyUpTo 24 = .ok (.istore_n 1, 1) := by decide +kernel
theorem dX5_happyUpTo_25 : decode cX5_happyUpTo 25 = .ok (.iinc 2 1, 3) := by decide +kernel
theorem dX5_happyUpTo_28 : decode cX5_happyUpTo 28 = .ok (.goto (-24), 3) := by decide +kernel
theorem dX5_happyUpTo_31 : decode cX5_happyUpTo 31 = .ok (.iload_n 1, 1) := by decide +kernel
theorem dX5_happyUpTo_32 : decode cX5_happyUpTo 32 = .ok (.ireturn, 1) := by decide +kernel
theorem dX5_ofPrimes_0 : decode cX5_ofPrimes 0 = .ok (.iload_n 0, 1) := by decide +kernel
theorem dX5_ofPrimes_1 : decode cX5_ofPrimes 1 = .ok (.istore_n 2, 1) := by decide +kernel
theorem dX5_ofPrimes_2 : decode cX5_ofPrimes 2 = .ok (.iconst 0, 1) := by decide +kernel
theorem dX5_ofPrimes_3 : decode cX5_ofPrimes 3 = .ok (.istore_n 3, 1) := by decide +kernel
theorem dX5_ofPrimes_4 : decode cX5_ofPrimes 4 = .ok (.iconst 1, 1) := by decide +kernel
theorem dX5_ofPrimes_5 : decode cX5_ofPrimes 5 = .ok (.istore 4, 2) := by decide +kernel
theorem dX5_ofPrimes_7 : decode cX5_ofPrimes 7 = .ok (.iconst 1, 1) := by decide +kernel
theorem dX5_ofPrimes_8 : decode cX5_ofPrimes 8 = .ok (.istore 5, 2) := by decide +kernel
theorem dX5_ofPrimes_10 : decode cX5_ofPrimes 10 = .ok (.iconst 1, 1) := by decide +kernel
theorem dX5_ofPrimes_11 : decode cX5_ofPrimes 11 = .ok (.istore 6, 2) := by decide +kernel
theorem dX5_ofPrimes_13 : decode cX5_ofPrimes 13 = .ok (.iconst 2, 1) := by decide +kernel
theorem dX5_ofPrimes_14 : decode cX5_ofPrimes 14 = .ok (.istore 7, 2) := by decide +kernel
theorem dX5_ofPrimes_16 : decode cX5_ofPrimes 16 = .ok (.iload_n 2, 1) := by decide +kernel
theorem dX5_ofPrimes_17 : decode cX5_ofPrimes 17 = .ok (.iconst 1, 1) := by decide +kernel
theorem dX5_ofPrimes_18 : decode cX5_ofPrimes 18 = .ok (.if_icmp .le 100, 3) := by decide +kernel
theorem dX5_ofPrimes_21 : decode cX5_ofPrimes 21 = .ok (.iload 7, 2) := by decide +kernel
theorem dX5_ofPrimes_23 : decode cX5_ofPrimes 23 = .ok (.iload_n 0, 1) := by decide +kernel
theorem dX5_ofPrimes_24 : decode cX5_ofPrimes 24 = .ok (.if_icmp .gt 94, 3) := by decide +kernel
theorem dX5_ofPrimes_27 : decode cX5_ofPrimes 27 = .ok (.iload 7, 2) := by decide +kernel
theorem dX5_ofPrimes_29 : decode cX5_ofPrimes 29 = .ok (.iload 7, 2) := by decide +kernel
theorem dX5_ofPrimes_31 : decode cX5_ofPrimes 31 = .ok (.imul, 1) := by decide +kernel
theorem dX5_ofPrimes_32 : decode cX5_ofPrimes 32 = .ok (.iload_n 2, 1) := by decide +kernel
theorem dX5_ofPrimes_33 : decode cX5_ofPrimes 33 = .ok (.if_icmp .le 6, 3) := by decide +kernel
theorem dX5_ofPrimes_36 : decode cX5_ofPrimes 36 = .ok (.iload_n 2, 1) := by decide +kernel
theorem dX5_ofPrimes_37 : decode cX5_ofPrimes 37 = .ok (.istore 7, 2) := by decide +kernel
theorem dX5_ofPrimes_39 : decode cX5_ofPrimes 39 = .ok (.iconst 0, 1) := by decide +kernel
theorem dX5_ofPrimes_40 : decode cX5_ofPrimes 40 = .ok (.istore 8, 2) := by decide +kernel
theorem dX5_ofPrimes_42 : decode cX5_ofPrimes 42 = .ok (.iconst 1, 1) := by decide +kernel
theorem dX5_ofPrimes_43 : decode cX5_ofPrimes 43 = .ok (.istore 9, 2) := by decide +kernel
theorem dX5_ofPrimes_45 : decode cX5_ofPrimes 45 = .ok (.iload_n 2, 1) := by decide +kernel
theorem dX5_ofPrimes_46 : decode cX5_ofPrimes 46 = .ok (.iconst 1, 1) := by decide +kernel
theorem dX5_ofPrimes_47 : decode cX5_ofPrimes 47 = .ok (.if_icmp .le 30, 3) := by decide +kernel
theorem dX5_ofPrimes_50 : decode cX5_ofPrimes 50 = .ok (.iload_n 2, 1) := by decide +kernel
theorem dX5_ofPrimes_51 : decode cX5_ofPrimes 51 = .ok (.iload 7, 2) := by decide +kernel
theorem dX5_ofPrimes_53 : decode cX5_ofPrimes 53 = .ok (.irem, 1) := by decide +kernel
theorem dX5_ofPrimes_54 : decode cX5_ofPrimes 54 = .ok (.ifCond .ne 23, 3) := by decide +kernel
theorem dX5_ofPrimes_57 : decode cX5_ofPrimes 57 = .ok (.iinc 8 1, 3) := by decide +kernel
theorem dX5_ofPrimes_60 : decode cX5_ofPrimes 60 = .ok (.iload 9, 2) := by decide +kernel
theorem dX5_ofPrimes_62 : decode cX5_ofPrimes 62 = .ok (.iload 7, 2) := by decide +kernel
theorem dX5_ofPrimes_64 : decode cX5_ofPrimes 64 = .ok (.imul, 1) := by decide +kernel
theorem dX5_ofPrimes_65 : decode cX5_ofPrimes 65 = .ok (.iconst 1, 1) := by decide +kernel
theorem dX5_ofPrimes_66 : decode cX5_ofPrimes 66 = .ok (.iadd, 1) := by decide +kernel
theorem dX5_ofPrimes_67 : decode cX5_ofPrimes 67 = .ok (.istore 9, 2) := by decide +kernel
theorem dX5_ofPrimes_69 : decode cX5_ofPrimes 69 = .ok (.iload_n 2, 1) := by decide +kernel
theorem dX5_ofPrimes_70 : decode cX5_ofPrimes 70 = .ok (.iload 7, 2) := by decide +kernel
theorem dX5_ofPrimes_72 : decode cX5_ofPrimes 72 = .ok (.idiv, 1) := by decide +kernel
theorem dX5_ofPrimes_73 : decode cX5_ofPrimes 73 = .ok (.istore_n 2, 1) := by decide +kernel
theorem dX5_ofPrimes_74 : decode cX5_ofPrimes 74 = .ok (.goto (-29), 3) := by decide +kernel
theorem dX5_ofPrimes_77 : decode cX5_ofPrimes 77 = .ok (.iload_n 3, 1) := by decide +kernel
theorem dX5_ofPrimes_78 : decode cX5_ofPrimes 78 = .ok (.iload 8, 2) := by decide +kernel
theorem dX5_ofPrimes_80 : decode cX5_ofPrimes 80 = .ok (.iadd, 1) := by decide +kernel
theorem dX5_ofPrimes_81 : decode cX5_ofPrimes 81 = .ok (.istore_n 3, 1) := by decide +kernel
theorem dX5_ofPrimes_82 : decode cX5_ofPrimes 82 = .ok (.iload 8, 2) := by decide +kernel
theorem dX5_ofPrimes_84 : decode cX5_ofPrimes 84 = .ok (.ifCond .le 8, 3) := by decide +kernel
theorem dX5_ofPrimes_87 : decode cX5_ofPrimes 87 = .ok (.iload 7, 2) := by decide +kernel
theorem dX5_ofPrimes_89 : decode cX5_ofPrimes 89 = .ok (.goto 5, 3) := by decide +kernel
theorem dX5_ofPrimes_92 : decode cX5_ofPrimes 92 = .ok (.iload 4, 2) := by decide +kernel
theorem dX5_ofPrimes_94 : decode cX5_ofPrimes 94 = .ok (.istore 4, 2) := by decide +kernel
theorem dX5_ofPrimes_96 : decode cX5_ofPrimes 96 = .ok (.iload 5, 2) := by decide +kernel
theorem dX5_ofPrimes_98 : decode cX5_ofPrimes 98 = .ok (.iload 8, 2) := by decide +kernel
theorem dX5_ofPrimes_100 : decode cX5_ofPrimes 100 = .ok (.iconst 1, 1) := by decide +kernel
theorem dX5_ofPrimes_101 : decode cX5_ofPrimes 101 = .ok (.iadd, 1) := by decide +kernel
theorem dX5_ofPrimes_102 : decode cX5_ofPrimes 102 = .ok (.imul, 1) := by decide +kernel
theorem dX5_ofPrimes_103 : decode cX5_ofPrimes 103 = .ok (.istore 5, 2) := by decide +kernel
theorem dX5_ofPrimes_105 : decode cX5_ofPrimes 105 = .ok (.iload 6, 2) := by decide +kernel
theorem dX5_ofPrimes_107 : decode cX5_ofPrimes 107 = .ok (.iload 9, 2) := by decide +kernel
theorem dX5_ofPrimes_109 : decode cX5_ofPrimes 109 = .ok (.imul, 1) := by decide +kernel
theorem dX5_ofPrimes_110 : decode cX5_ofPrimes 110 = .ok (.istore 6, 2) := by decide +kernel
theorem dX5_ofPrimes_112 : decode cX5_ofPrimes 112 = .ok (.iinc 7 1, 3) := by decide +kernel
theorem dX5_ofPrimes_115 : decode cX5_ofPrimes 115 = .ok (.goto (-99), 3) := by decide +kernel
theorem dX5_ofPrimes_118 : decode cX5_ofPrimes 118 = .ok (.iload_n 1, 1) := by decide +kernel
theorem dX5_ofPrimes_119 : decode cX5_ofPrimes 119 = .ok (.ifCond .ne 7, 3) := by decide +kernel
theorem dX5_ofPrimes_122 : decode cX5_ofPrimes 122 = .ok (.iload_n 3, 1) := by decide +kernel
theorem dX5_ofPrimes_123 : decode cX5_ofPrimes 123 = .ok (.goto 25, 3) := by decide +kernel
theorem dX5_ofPrimes_126 : decode cX5_ofPrimes 126 = .ok (.iload_n 1, 1) := by decide +kernel
theorem dX5_ofPrimes_127 : decode cX5_ofPrimes 127 = .ok (.iconst 1, 1) := by decide +kernel
theorem dX5_ofPrimes_128 : decode cX5_ofPrimes 128 = .ok (.if_icmp .ne 8, 3) := by decide +kernel
theorem dX5_ofPrimes_131 : decode cX5_ofPrimes 131 = .ok (.iload 4, 2) := by decide +kernel
theorem dX5_ofPrimes_133 : decode cX5_ofPrimes 133 = .ok (.goto 15, 3) := by decide +kernel
theorem dX5_ofPrimes_136 : decode cX5_ofPrimes 136 = .ok (.iload_n 1, 1) := by decide +kernel
theorem dX5_ofPrimes_137 : decode cX5_ofPrimes 137 = .ok (.iconst 2, 1) := by decide +kernel
theorem dX5_ofPrimes_138 : decode cX5_ofPrimes 138 = .ok (.if_icmp .ne 8, 3) := by decide +kernel
theorem dX5_ofPrimes_141 : decode cX5_ofPrimes 141 = .ok (.iload 5, 2) := by decide +kernel
theorem dX5_ofPrimes_143 : decode cX5_ofPrimes 143 = .ok (.goto 5, 3) := by decide +kernel
theorem dX5_ofPrimes_146 : decode cX5_ofPrimes 146 = .ok (.iload 6, 2) := by decide +kernel
theorem dX5_ofPrimes_148 : decode cX5_ofPrimes 148 = .ok (.ireturn, 1) := by decide +kernel
theorem dX5_closings_0 : decode cX5_closings 0 = .ok (.iload_n 1, 1) := by decide +kernel
theorem dX5_closings_1 : decode cX5_closings 1 = .ok (.ifCond .lt 16, 3) := by decide +kernel
theorem dX5_closings_4 : decode cX5_closings 4 = .ok (.iload_n 1, 1) := by decide +kernel
theorem dX5_closings_5 : decode cX5_closings 5 = .ok (.iload_n 0, 1) := by decide +kernel
theorem dX5_closings_6 : decode cX5_closings 6 = .ok (.if_icmp .gt 11, 3) := by decide +kernel
theorem dX5_closings_9 : decode cX5_closings 9 = .ok (.iload_n 0, 1) := by decide +kernel
theorem dX5_closings_10 : decode cX5_closings 10 = .ok (.iload_n 1, 1) := by decide +kernel
theorem dX5_closings_11 : decode cX5_closings 11 = .ok (.isub, 1) := by decide +kernel
theorem dX5_closings_12 : decode cX5_closings 12 = .ok (.iconst 2, 1) := by decide +kernel
theorem dX5_closings_13 : decode cX5_closings 13 = .ok (.irem, 1) := by decide +kernel
theorem dX5_closings_14 : decode cX5_closings 14 = .ok (.ifCond .eq 5, 3) := by decide +kernel
theorem dX5_closings_17 : decode cX5_closings 17 = .ok (.iconst 0, 1) := by decide +kernel
theorem dX5_closings_18 : decode cX5_closings 18 = .ok (.ireturn, 1) := by decide +kernel
theorem dX5_closings_19 : decode cX5_closings 19 = .ok (.iload_n 0, 1) := by decide +kernel
theorem dX5_closings_20 : decode cX5_closings 20 = .ok (.iload_n 1, 1) := by decide +kernel
theorem dX5_closings_21 : decode cX5_closings 21 = .ok (.isub, 1) := by decide +kernel
theorem dX5_closings_22 : decode cX5_closings 22 = .ok (.iconst 2, 1) := by decide +kernel
theorem dX5_closings_23 : decode cX5_closings 23 = .ok (.idiv, 1) := by decide +kernel
theorem dX5_closings_24 : decode cX5_closings 24 = .ok (.istore_n 2, 1) := by decide +kernel
theorem dX5_closings_25 : decode cX5_closings 25 = .ok (.iload_n 0, 1) := by decide +kernel
theorem dX5_closings_26 : decode cX5_closings 26 = .ok (.iload_n 2, 1) := by decide +kernel
theorem dX5_closings_27 : decode cX5_closings 27 = .ok (.invokestatic 34, 3) := by decide +kernel
theorem dX5_closings_30 : decode cX5_closings 30 = .ok (.iload_n 0, 1) := by decide +kernel
theorem dX5_closings_31 : decode cX5_closings 31 = .ok (.iload_n 2, 1) := by decide +kernel
theorem dX5_closings_32 : decode cX5_closings 32 = .ok (.iconst 1, 1) := by decide +kernel
theorem dX5_closings_33 : decode cX5_closings 33 = .ok (.isub, 1) := by decide +kernel
theorem dX5_closings_34 : decode cX5_closings 34 = .ok (.invokestatic 34, 3) := by decide +kernel
theorem dX5_closings_37 : decode cX5_closings 37 = .ok (.isub, 1) := by decide +kernel
theorem dX5_closings_38 : decode cX5_closings 38 = .ok (.ireturn, 1) := by decide +kernel
theorem dX5_bracketRow_0 : decode cX5_bracketRow 0 = .ok (.iconst 0, 1) := by decide +kernel
theorem dX5_bracketRow_1 : decode cX5_bracketRow 1 = .ok (.istore_n 2, 1) := by decide +kernel
theorem dX5_bracketRow_2 : decode cX5_bracketRow 2 = .ok (.iconst 0, 1) := by decide +kernel
theorem dX5_bracketRow_3 : decode cX5_bracketRow 3 = .ok (.istore_n 3, 1) := by decide +kernel
theorem dX5_bracketRow_4 : decode cX5_bracketRow 4 = .ok (.iload_n 1, 1) := by decide +kernel
theorem dX5_bracketRow_5 : decode cX5_bracketRow 5 = .ok (.istore 4, 2) := by decide +kernel
theorem dX5_bracketRow_7 : decode cX5_bracketRow 7 = .ok (.iconst 2, 1) := by decide +kernel
theorem dX5_bracketRow_8 : decode cX5_bracketRow 8 = .ok (.iload_n 0, 1) := by decide +kernel
theorem dX5_bracketRow_9 : decode cX5_bracketRow 9 = .ok (.imul, 1) := by decide +kernel
theorem dX5_bracketRow_10 : decode cX5_bracketRow 10 = .ok (.iconst 1, 1) := by decide +kernel
theorem dX5_bracketRow_11 : decode cX5_bracketRow 11 = .ok (.isub, 1) := by decide +kernel
theorem dX5_bracketRow_12 : decode cX5_bracketRow 12 = .ok (.istore 5, 2) := by decide +kernel
theorem dX5_bracketRow_14 : decode cX5_bracketRow 14 = .ok (.iload 5, 2) := by decide +kernel
theorem dX5_bracketRow_16 : decode cX5_bracketRow 16 = .ok (.ifCond .lt 77, 3) := by decide +kernel
theorem dX5_bracketRow_19 : decode cX5_bracketRow 19 = .ok (.iload 5, 2) := by decide +kernel
theorem dX5_bracketRow_21 : decode cX5_bracketRow 21 = .ok (.iload_n 3, 1) := by decide +kernel
theorem dX5_bracketRow_22 : decode cX5_bracketRow 22 = .ok (.iconst 1, 1) := by decide +kernel
theorem dX5_bracketRow_23 : decode cX5_bracketRow 23 = .ok (.iadd, 1) := by decide +kernel
theorem dX5_bracketRow_24 : decode cX5_bracketRow 24 = .ok (.invokestatic 37, 3) := by decide +kernel
theorem dX5_bracketRow_27 : decode cX5_bracketRow 27 = .ok (.istore 6, 2) := by decide +kernel
theorem dX5_bracketRow_29 : decode cX5_bracketRow 29 = .ok (.iload 4, 2) := by decide +kernel
theorem dX5_bracketRow_31 : decode cX5_bracketRow 31 = .ok (.iload 6, 2) := by decide +kernel
theorem dX5_bracketRow_33 : decode cX5_bracketRow 33 = .ok (.if_icmp .ge 7, 3) := by decide +kernel
theorem dX5_bracketRow_36 : decode cX5_bracketRow 36 = .ok (.iconst 1, 1) := by decide +kernel
theorem dX5_bracketRow_37 : decode cX5_bracketRow 37 = .ok (.goto 4, 3) := by decide +kernel
theorem dX5_bracketRow_40 : decode cX5_bracketRow 40 = .ok (.iconst 0, 1) := by decide +kernel
theorem dX5_bracketRow_41 : decode cX5_bracketRow 41 = .ok (.istore 7, 2) := by decide +kernel
theorem dX5_bracketRow_43 : decode cX5_bracketRow 43 = .ok (.iload_n 2, 1) := by decide +kernel
theorem dX5_bracketRow_44 : decode cX5_bracketRow 44 = .ok (.iconst 2, 1) := by decide +kernel
theorem dX5_bracketRow_45 : decode cX5_bracketRow 45 = .ok (.imul, 1) := by decide +kernel
theorem dX5_bracketRow_46 : decode cX5_bracketRow 46 = .ok (.iload 7, 2) := by decide +kernel
theorem dX5_bracketRow_48 : decode cX5_bracketRow 48 = .ok (.ifCond .eq 7, 3) := by decide +kernel
theorem dX5_bracketRow_51 : decode cX5_bracketRow 51 = .ok (.iconst 1, 1) := by decide +kernel
theorem dX5_bracketRow_52 : decode cX5_bracketRow 52 = .ok (.goto 4, 3) := by decide +kernel
theorem dX5_bracketRow_55 : decode cX5_bracketRow 55 = .ok (.iconst 0, 1) := by decide +kernel
theorem dX5_bracketRow_56 : decode cX5_bracketRow 56 = .ok (.iadd, 1) := by decide +kernel
theorem dX5_bracketRow_57 : decode cX5_bracketRow 57 = .ok (.istore_n 2, 1) := by decide +kernel
theorem dX5_bracketRow_58 : decode cX5_bracketRow 58 = .ok (.iload_n 3, 1) := by decide +kernel
theorem dX5_bracketRow_59 : decode cX5_bracketRow 59 = .ok (.iload 7, 2) := by decide +kernel
theorem dX5_bracketRow_61 : decode cX5_bracketRow 61 = .ok (.ifCond .eq 7, 3) := by decide +kernel
theorem dX5_bracketRow_64 : decode cX5_bracketRow 64 = .ok (.iconst 1, 1) := by decide +kernel
theorem dX5_bracketRow_65 : decode cX5_bracketRow 65 = .ok (.goto 4, 3) := by decide +kernel
theorem dX5_bracketRow_68 : decode cX5_bracketRow 68 = .ok (.iconst (-1), 1) := by decide +kernel
theorem dX5_bracketRow_69 : decode cX5_bracketRow 69 = .ok (.iadd, 1) := by decide +kernel
theorem dX5_bracketRow_70 : decode cX5_bracketRow 70 = .ok (.istore_n 3, 1) := by decide +kernel
theorem dX5_bracketRow_71 : decode cX5_bracketRow 71 = .ok (.iload 4, 2) := by decide +kernel
theorem dX5_bracketRow_73 : decode cX5_bracketRow 73 = .ok (.iload 7, 2) := by decide +kernel
theorem dX5_bracketRow_75 : decode cX5_bracketRow 75 = .ok (.ifCond .eq 7, 3) := by decide +kernel
theorem dX5_bracketRow_78 : decode cX5_bracketRow 78 = .ok (.iconst 0, 1) := by decide +kernel
theorem dX5_bracketRow_79 : decode cX5_bracketRow 79 = .ok (.goto 5, 3) := by decide +kernel
theorem dX5_bracketRow_82 : decode cX5_bracketRow 82 = .ok (.iload 6, 2) := by decide +kernel
theorem dX5_bracketRow_84 : decode cX5_bracketRow 84 = .ok (.isub, 1) := by decide +kernel
theorem dX5_bracketRow_85 : decode cX5_bracketRow 85 = .ok (.istore 4, 2) := by decide +kernel
theorem dX5_bracketRow_87 : decode cX5_bracketRow 87 = .ok (.iinc 5 (-1), 3) := by decide +kernel
theorem dX5_bracketRow_90 : decode cX5_bracketRow 90 = .ok (.goto (-76), 3) := by decide +kernel
theorem dX5_bracketRow_93 : decode cX5_bracketRow 93 = .ok (.iload_n 2, 1) := by decide +kernel
theorem dX5_bracketRow_94 : decode cX5_bracketRow 94 = .ok (.ireturn, 1) := by decide +kernel
theorem dX5_bracketPlace_0 : decode cX5_bracketPlace 0 = .ok (.iconst 0, 1) := by decide +kernel
theorem dX5_bracketPlace_1 : decode cX5_bracketPlace 1 = .ok (.istore_n 2, 1) := by decide +kernel
theorem dX5_bracketPlace_2 : decode cX5_bracketPlace 2 = .ok (.iconst 0, 1) := by decide +kernel
theorem dX5_bracketPlace_3 : decode cX5_bracketPlace 3 = .ok (.istore_n 3, 1) := by decide +kernel
theorem dX5_bracketPlace_4 : decode cX5_bracketPlace 4 = .ok (.iconst 2, 1) := by decide +kernel
theorem dX5_bracketPlace_5 : decode cX5_bracketPlace 5 = .ok (.iload_n 0, 1) := by decide +kernel
theorem dX5_bracketPlace_6 : decode cX5_bracketPlace 6 = .ok (.imul, 1) := by decide +kernel
theorem dX5_bracketPlace_7 : decode cX5_bracketPlace 7 = .ok (.iconst 1, 1) := by decide +kernel
theorem dX5_bracketPlace_8 : decode cX5_bracketPlace 8 = .ok (.isub, 1) := by decide +kernel
theorem dX5_bracketPlace_9 : decode cX5_bracketPlace 9 = .ok (.istore 4, 2) := by decide +kernel
theorem dX5_bracketPlace_11 : decode cX5_bracketPlace 11 = .ok (.iload 4, 2) := by decide +kernel
theorem dX5_bracketPlace_13 : decode cX5_bracketPlace 13 = .ok (.ifCond .lt 65, 3) := by decide +kernel
theorem dX5_bracketPlace_16 : decode cX5_bracketPlace 16 = .ok (.iload_n 1, 1) := by decide +kernel
theorem dX5_bracketPlace_17 : decode cX5_bracketPlace 17 = .ok (.iload 4, 2) := by decide +kernel
theorem dX5_bracketPlace_19 : decode cX5_bracketPlace 19 = .ok (.ishr, 1) := by decide +kernel
theorem dX5_bracketPlace_20 : decode cX5_bracketPlace 20 = .ok (.iconst 1, 1) := by decide +kernel
theorem dX5_bracketPlace_21 : decode cX5_bracketPlace 21 = .ok (.iand, 1) := by decide +kernel
theorem dX5_bracketPlace_22 : decode cX5_bracketPlace 22 = .ok (.iconst 1, 1) := by decide +kernel
theorem dX5_bracketPlace_23 : decode cX5_bracketPlace 23 = .ok (.if_icmp .ne 7, 3) := by decide +kernel
theorem dX5_bracketPlace_26 : decode cX5_bracketPlace 26 = .ok (.iconst 1, 1) := by decide +kernel
theorem dX5_bracketPlace_27 : decode cX5_bracketPlace 27 = .ok (.goto 4, 3) := by decide +kernel
theorem dX5_bracketPlace_30 : decode cX5_bracketPlace 30 = .ok (.iconst 0, 1) := by decide +kernel
theorem dX5_bracketPlace_31 : decode cX5_bracketPlace 31 = .ok (.istore 5, 2) := by decide +kernel
theorem dX5_bracketPlace_33 : decode cX5_bracketPlace 33 = .ok (.iload_n 2, 1) := by decide +kernel
theorem dX5_bracketPlace_34 : decode cX5_bracketPlace 34 = .ok (.iload 5, 2) := by decide +kernel
theorem dX5_bracketPlace_36 : decode cX5_bracketPlace 36 = .ok (.ifCond .eq 7, 3) := by decide +kernel
theorem dX5_bracketPlace_39 : decode cX5_bracketPlace 39 = .ok (.iconst 0, 1) := by decide +kernel
theorem dX5_bracketPlace_40 : decode cX5_bracketPlace 40 = .ok (.goto 11, 3) := by decide +kernel
theorem dX5_bracketPlace_43 : decode cX5_bracketPlace 43 = .ok (.iload 4, 2) := by decide +kernel
theorem dX5_bracketPlace_45 : decode cX5_bracketPlace 45 = .ok (.iload_n 3, 1) := by decide +kernel
theorem dX5_bracketPlace_46 : decode cX5_bracketPlace 46 = .ok (.iconst 1, 1) := by decide +kernel
theorem dX5_bracketPlace_47 : decode cX5_bracketPlace 47 = .ok (.iadd, 1) := by decide +kernel
theorem dX5_bracketPlace_48 : decode cX5_bracketPlace 48 = .ok (.invokestatic 37, 3) := by decide +kernel
theorem dX5_bracketPlace_51 : decode cX5_bracketPlace 51 = .ok (.iadd, 1) := by decide +kernel
theorem dX5_bracketPlace_52 : decode cX5_bracketPlace 52 = .ok (.istore_n 2, 1) := by decide +kernel
theorem dX5_bracketPlace_53 : decode cX5_bracketPlace 53 = .ok (.iload_n 3, 1) := by decide +kernel
theorem dX5_bracketPlace_54 : decode cX5_bracketPlace 54 = .ok (.iload 5, 2) := by decide +kernel
theorem dX5_bracketPlace_56 : decode cX5_bracketPlace 56 = .ok (.ifCond .eq 7, 3) := by decide +kernel
theorem dX5_bracketPlace_59 : decode cX5_bracketPlace 59 = .ok (.iconst 1, 1) := by decide +kernel
theorem dX5_bracketPlace_60 : decode cX5_bracketPlace 60 = .ok (.goto 4, 3) := by decide +kernel
theorem dX5_bracketPlace_63 : decode cX5_bracketPlace 63 = .ok (.iconst (-1), 1) := by decide +kernel
theorem dX5_bracketPlace_64 : decode cX5_bracketPlace 64 = .ok (.iadd, 1) := by decide +kernel
theorem dX5_bracketPlace_65 : decode cX5_bracketPlace 65 = .ok (.istore_n 3, 1) := by decide +kernel
theorem dX5_bracketPlace_66 : decode cX5_bracketPlace 66 = .ok (.iload_n 3, 1) := by decide +kernel
theorem dX5_bracketPlace_67 : decode cX5_bracketPlace 67 = .ok (.ifCond .ge 5, 3) := by decide +kernel
theorem dX5_bracketPlace_70 : decode cX5_bracketPlace 70 = .ok (.iconst (-1), 1) := by decide +kernel
theorem dX5_bracketPlace_71 : decode cX5_bracketPlace 71 = .ok (.ireturn, 1) := by decide +kernel
theorem dX5_bracketPlace_72 : decode cX5_bracketPlace 72 = .ok (.iinc 4 (-1), 3) := by decide +kernel
theorem dX5_bracketPlace_75 : decode cX5_bracketPlace 75 = .ok (.goto (-64), 3) := by decide +kernel
theorem dX5_bracketPlace_78 : decode cX5_bracketPlace 78 = .ok (.iload_n 3, 1) := by decide +kernel
theorem dX5_bracketPlace_79 : decode cX5_bracketPlace 79 = .ok (.ifCond .ne 7, 3) := by decide +kernel
theorem dX5_bracketPlace_82 : decode cX5_bracketPlace 82 = .ok (.iload_n 2, 1) := by decide +kernel
theorem dX5_bracketPlace_83 : decode cX5_bracketPlace 83 = .ok (.goto 4, 3) := by decide +kernel
theorem dX5_bracketPlace_86 : decode cX5_bracketPlace 86 = .ok (.iconst (-1), 1) := by decide +kernel
theorem dX5_bracketPlace_87 : decode cX5_bracketPlace 87 = .ok (.ireturn, 1) := by decide +kernel
theorem dX5_leastPart_0 : decode cX5_leastPart 0 = .ok (.iload_n 0, 1) := by decide +kernel
theorem dX5_leastPart_1 : decode cX5_leastPart 1 = .ok (.istore_n 1, 1) := by decide +kernel
theorem dX5_leastPart_2 : decode cX5_leastPart 2 = .ok (.iload_n 0, 1) := by decide +kernel
theorem dX5_leastPart_3 : decode cX5_leastPart 3 = .ok (.istore_n 2, 1) := by decide +kernel
theorem dX5_leastPart_4 : decode cX5_leastPart 4 = .ok (.iconst 0, 1) := by decide +kernel
theorem dX5_leastPart_5 : decode cX5_leastPart 5 = .ok (.istore_n 3, 1) := by decide +kernel
theorem dX5_leastPart_6 : decode cX5_leastPart 6 = .ok (.iload_n 3, 1) := by decide +kernel
theorem dX5_leastPart_7 : decode cX5_leastPart 7 = .ok (.iload_n 0, 1) := by decide +kernel
theorem dX5_leastPart_8 : decode cX5_leastPart 8 = .ok (.if_icmp .ge 22, 3) := by decide +kernel
theorem dX5_leastPart_11 : decode cX5_leastPart 11 = .ok (.iload_n 2, 1) := by decide +kernel
theorem dX5_leastPart_12 : decode cX5_leastPart 12 = .ok (.ifCond .le 18, 3) := by decide +kernel
theorem dX5_leastPart_15 : decode cX5_leastPart 15 = .ok (.iload_n 2, 1) := by decide +kernel
theorem dX5_leastPart_16 : decode cX5_leastPart 16 = .ok (.invokestatic 40, 3) := by decide +kernel
theorem dX5_leastPart_19 : decode cX5_leastPart 19 = .ok (.istore_n 1, 1) := by decide +kernel
theorem dX5_leastPart_20 : decode cX5_leastPart 20 = .ok (.iload_n 2, 1) := by decide +kernel
theorem dX5_leastPart_21 : decode cX5_leastPart 21 = .ok (.iload_n 1, 1) := by decide +kernel
theorem dX5_leastPart_22 : decode cX5_leastPart 22 = .ok (.isub, 1) := by decide +kernel
theorem dX5_leastPart_23 : decode cX5_leastPart 23 = .ok (.istore_n 2, 1) := by decide +kernel
theorem dX5_leastPart_24 : decode cX5_leastPart 24 = .ok (.iinc 3 1, 3) := by decide +kernel
theorem dX5_leastPart_27 : decode cX5_leastPart 27 = .ok (.goto (-21), 3) := by decide +kernel
theorem dX5_leastPart_30 : decode cX5_leastPart 30 = .ok (.iload_n 1, 1) := by decide +kernel
theorem dX5_leastPart_31 : decode cX5_leastPart 31 = .ok (.ireturn, 1) := by decide +kernel
theorem dX5_greatestWithin_0 : decode cX5_greatestWithin 0 = .ok (.iconst 1, 1) := by decide +kernel
theorem dX5_greatestWithin_1 : decode cX5_greatestWithin 1 = .ok (.istore_n 1, 1) := by decide +kernel
theorem dX5_greatestWithin_2 : decode cX5_greatestWithin 2 = .ok (.iconst 2, 1) := by decide +kernel
theorem dX5_greatestWithin_3 : decode cX5_greatestWithin 3 = .ok (.istore_n 2, 1) := by decide +kernel
theorem dX5_greatestWithin_4 : decode cX5_greatestWithin 4 = .ok (.iconst 0, 1) := by decide +kernel
theorem dX5_greatestWithin_5 : decode cX5_greatestWithin 5 = .ok (.istore_n 3, 1) := by decide +kernel
theorem dX5_greatestWithin_6 : decode cX5_greatestWithin 6 = .ok (.iload_n 3, 1) := by decide +kernel
theorem dX5_greatestWithin_7 : decode cX5_greatestWithin 7 = .ok (.iload_n 0, 1) := by decide +kernel
theorem dX5_greatestWithin_8 : decode cX5_greatestWithin 8 = .ok (.if_icmp .ge 24, 3) := by decide +kernel
theorem dX5_greatestWithin_11 : decode cX5_greatestWithin 11 = .ok (.iload_n 2, 1) := by decide +kernel
theorem dX5_greatestWithin_12 : decode cX5_greatestWithin 12 = .ok (.iload_n 0, 1) := by decide +kernel
theorem dX5_greatestWithin_13 : decode cX5_greatestWithin 13 = .ok (.if_icmp .gt 19, 3) := by decide +kernel
theorem dX5_greatestWithin_16 : decode cX5_greatestWithin 16 = .ok (.iload_n 1, 1) := by decide +kernel
theorem dX5_greatestWithin_17 : decode cX5_greatestWithin 17 = .ok (.iload_n 2, 1) := by decide +kernel
theorem dX5_greatestWithin_18 : decode cX5_greatestWithin 18 = .ok (.iadd, 1) := by decide +kernel
theorem dX5_greatestWithin_19 : decode cX5_greatestWithin 19 = .ok (.istore 4, 2) := by decide +kernel
theorem dX5_greatestWithin_21 : decode cX5_greatestWithin 21 = .ok (.iload_n 2, 1) := by decide +kernel
theorem dX5_greatestWithin_22 : decode cX5_greatestWithin 22 = .ok (.istore_n 1, 1) := by decide +kernel
theorem dX5_greatestWithin_23 : decode cX5_greatestWithin 23 = .ok (.iload 4, 2) := by decide +kernel
theorem dX5_greatestWithin_25 : decode cX5_greatestWithin 25 = .ok (.istore_n 2, 1) := by decide +kernel
theorem dX5_greatestWithin_26 : decode cX5_greatestWithin 26 = .ok (.iinc 3 1, 3) := by decide +kernel
theorem dX5_greatestWithin_29 : decode cX5_greatestWithin 29 = .ok (.goto (-23), 3) := by decide +kernel
theorem dX5_greatestWithin_32 : decode cX5_greatestWithin 32 = .ok (.iload_n 1, 1) := by decide +kernel
theorem dX5_greatestWithin_33 : decode cX5_greatestWithin 33 = .ok (.ireturn, 1) := by decide +kernel
theorem dX6_init_0 : decode cX6_init 0 = .ok (.aload_n 0, 1) := by decide +kernel
theorem dX6_init_1 : decode cX6_init 1 = .ok (.invokespecial 3, 3) := by decide +kernel
theorem dX6_init_4 : decode cX6_init 4 = .ok (.aload_n 0, 1) := by decide +kernel
theorem dX6_init_5 : decode cX6_init 5 = .ok (.iconst 0, 1) := by decide +kernel
theorem dX6_init_6 : decode cX6_init 6 = .ok (.putfield 9, 3) := by decide +kernel
theorem dX6_init_9 : decode cX6_init 9 = .ok (.aload_n 0, 1) := by decide +kernel
theorem dX6_init_10 : decode cX6_init 10 = .ok (.iconst 1, 1) := by decide +kernel
theorem dX6_init_11 : decode cX6_init 11 = .ok (.iconst 4, 1) := by decide +kernel
theorem dX6_init_12 : decode cX6_init 12 = .ok (.iload_n 2, 1) := by decide +kernel
theorem dX6_init_13 : decode cX6_init 13 = .ok (.invokestatic 15, 3) := by decide +kernel
theorem dX6_init_16 : decode cX6_init 16 = .ok (.invokestatic 21, 3) := by decide +kernel
theorem dX6_init_19 : decode cX6_init 19 = .ok (.putfield 24, 3) := by decide +kernel
theorem dX6_init_22 : decode cX6_init 22 = .ok (.aload_n 0, 1) := by decide +kernel
theorem dX6_init_23 : decode cX6_init 23 = .ok (.iconst 0, 1) := by decide +kernel
theorem dX6_init_24 : decode cX6_init 24 = .ok (.iload_n 1, 1) := by decide +kernel
theorem dX6_init_25 : decode cX6_init 25 = .ok (.invokestatic 21, 3) := by decide +kernel
theorem dX6_init_28 : decode cX6_init 28 = .ok (.aload_n 0, 1) := by decide +kernel
theorem dX6_init_29 : decode cX6_init 29 = .ok (.getfield 24, 3) := by decide +kernel
theorem dX6_init_32 : decode cX6_init 32 = .ok (.imul, 1) := by decide +kernel
theorem dX6_init_33 : decode cX6_init 33 = .ok (.newarray .int, 2) := by decide +kernel
theorem dX6_init_35 : decode cX6_init 35 = .ok (.putfield 27, 3) := by decide +kernel
theorem dX6_init_38 : decode cX6_init 38 = .ok (.return_, 1) := by decide +kernel
theorem dX6_at_0 : decode cX6_at 0 = .ok (.iload_n 1, 1) := by decide +kernel
theorem dX6_at_1 : decode cX6_at 1 = .ok (.ifCond .lt 23, 3) := by decide +kernel
theorem dX6_at_4 : decode cX6_at 4 = .ok (.iload_n 1, 1) := by decide +kernel
theorem dX6_at_5 : decode cX6_at 5 = .ok (.aload_n 0, 1) := by decide +kernel
theorem dX6_at_6 : decode cX6_at 6 = .ok (.getfield 9, 3) := by decide +kernel
theorem dX6_at_9 : decode cX6_at 9 = .ok (.if_icmp .ge 15, 3) := by decide +kernel
theorem dX6_at_12 : decode cX6_at 12 = .ok (.iload_n 2, 1) := by decide +kernel
theorem dX6_at_13 : decode cX6_at 13 = .ok (.ifCond .lt 11, 3) := by decide +kernel
theorem dX6_at_16 : decode cX6_at 16 = .ok (.iload_n 2, 1) := by decide +kernel
theorem dX6_at_17 : decode cX6_at 17 = .ok (.aload_n 0, 1) := by decide +kernel
theorem dX6_at_18 : decode cX6_at 18 = .ok (.getfield 24, 3) := by decide +kernel
theorem dX6_at_21 : decode cX6_at 21 = .ok (.if_icmp .lt 5, 3) := by decide +kernel
theorem dX6_at_24 : decode cX6_at 24 = .ok (.iconst (-1), 1) := by decide +kernel
theorem dX6_at_25 : decode cX6_at 25 = .ok (.ireturn, 1) := by decide +kernel
theorem dX6_at_26 : decode cX6_at 26 = .ok (.iload_n 1, 1) := by decide +kernel
theorem dX6_at_27 : decode cX6_at 27 = .ok (.aload_n 0, 1) := by decide +kernel
theorem dX6_at_28 : decode cX6_at 28 = .ok (.getfield 24, 3) := by decide +kernel
theorem dX6_at_31 : decode cX6_at 31 = .ok (.imul, 1) := by decide +kernel
theorem dX6_at_32 : decode cX6_at 32 = .ok (.iload_n 2, 1) := by decide +kernel
theorem dX6_at_33 : decode cX6_at 33 = .ok (.iadd, 1) := by decide +kernel
theorem dX6_at_34 : decode cX6_at 34 = .ok (.istore_n 3, 1) := by decide +kernel
theorem dX6_at_35 : decode cX6_at 35 = .ok (.iload_n 3, 1) := by decide +kernel
theorem dX6_at_36 : decode cX6_at 36 = .ok (.aload_n 0, 1) := by decide +kernel
theorem dX6_at_37 : decode cX6_at 37 = .ok (.getfield 27, 3) := by decide +kernel
theorem dX6_at_40 : decode cX6_at 40 = .ok (.arraylength, 1) := by decide +kernel
theorem dX6_at_41 : decode cX6_at 41 = .ok (.if_icmp .ge 12, 3) := by decide +kernel
theorem dX6_at_44 : decode cX6_at 44 = .ok (.aload_n 0, 1) := by decide +kernel
theorem dX6_at_45 : decode cX6_at 45 = .ok (.getfield 27, 3) := by decide +kernel
theorem dX6_at_48 : decode cX6_at 48 = .ok (.iload_n 3, 1) := by decide +kernel
theorem dX6_at_49 : decode cX6_at 49 = .ok (.iaload, 1) := by decide +kernel
theorem dX6_at_50 : decode cX6_at 50 = .ok (.goto 4, 3) := by decide +kernel
theorem dX6_at_53 : decode cX6_at 53 = .ok (.iconst (-1), 1) := by decide +kernel
theorem dX6_at_54 : decode cX6_at 54 = .ok (.ireturn, 1) := by decide +kernel
theorem dX6_add_0 : decode cX6_add 0 = .ok (.aload_n 0, 1) := by decide +kernel
theorem dX6_add_1 : decode cX6_add 1 = .ok (.getfield 9, 3) := by decide +kernel
theorem dX6_add_4 : decode cX6_add 4 = .ok (.aload_n 0, 1) := by decide +kernel
theorem dX6_add_5 : decode cX6_add 5 = .ok (.getfield 24, 3) := by decide +kernel
theorem dX6_add_8 : decode cX6_add 8 = .ok (.imul, 1) := by decide +kernel
theorem dX6_add_9 : decode cX6_add 9 = .ok (.istore 5, 2) := by decide +kernel
theorem dX6_add_11 : decode cX6_add 11 = .ok (.iload 5, 2) := by decide +kernel
theorem dX6_add_13 : decode cX6_add 13 = .ok (.aload_n 0, 1) := by decide +kernel
theorem dX6_add_14 : decode cX6_add 14 = .ok (.getfield 24, 3) := by decide +kernel
theorem dX6_add_17 : decode cX6_add 17 = .ok (.iadd, 1) := by decide +kernel
theorem dX6_add_18 : decode cX6_add 18 = .ok (.aload_n 0, 1) := by decide +kernel
theorem dX6_add_19 : decode cX6_add 19 = .ok (.getfield 27, 3) := by decide +kernel
theorem dX6_add_22 : decode cX6_add 22 = .ok (.arraylength, 1) := by decide +kernel
theorem dX6_add_23 : decode cX6_add 23 = .ok (.if_icmp .le 5, 3) := by decide +kernel
theorem dX6_add_26 : decode cX6_add 26 = .ok (.iconst (-1), 1) := by decide +kernel
theorem dX6_add_27 : decode cX6_add 27 = .ok (.ireturn, 1) := by decide +kernel
theorem dX6_add_28 : decode cX6_add 28 = .ok (.iconst 0, 1) := by decide +kernel
theorem dX6_add_29 : decode cX6_add 29 = .ok (.istore 6, 2) := by decide +kernel
theorem dX6_add_31 : decode cX6_add 31 = .ok (.iload 6, 2) := by decide +kernel
theorem dX6_add_33 : decode cX6_add 33 = .ok (.aload_n 0, 1) := by decide +kernel
theorem dX6_add_34 : decode cX6_add 34 = .ok (.getfield 24, 3) := by decide +kernel
theorem dX6_add_37 : decode cX6_add 37 = .ok (.if_icmp .ge 63, 3) := by decide +kernel
theorem dX6_add_40 : decode cX6_add 40 = .ok (.iload 5, 2) := by decide +kernel
theorem dX6_add_42 : decode cX6_add 42 = .ok (.iload 6, 2) := by decide +kernel
theorem dX6_add_44 : decode cX6_add 44 = .ok (.iadd, 1) := by decide +kernel
theorem dX6_add_45 : decode cX6_add 45 = .ok (.aload_n 0, 1) := by decide +kernel
theorem dX6_add_46 : decode cX6_add 46 = .ok (.getfield 27, 3) := by decide +kernel
theorem dX6_add_49 : decode cX6_add 49 = .ok (.arraylength, 1) := by decide +kernel
theorem dX6_add_50 : decode cX6_add 50 = .ok (.if_icmp .ge 50, 3) := by decide +kernel
theorem dX6_add_53 : decode cX6_add 53 = .ok (.aload_n 0, 1) := by decide +kernel
theorem dX6_add_54 : decode cX6_add 54 = .ok (.getfield 27, 3) := by decide +kernel
theorem dX6_add_57 : decode cX6_add 57 = .ok (.iload 5, 2) := by decide +kernel
theorem dX6_add_59 : decode cX6_add 59 = .ok (.iload 6, 2) := by decide +kernel
theorem dX6_add_61 : decode cX6_add 61 = .ok (.iadd, 1) := by decide +kernel
theorem dX6_add_62 : decode cX6_add 62 = .ok (.iload 6, 2) := by decide +kernel
theorem dX6_add_64 : decode cX6_add 64 = .ok (.ifCond .ne 7, 3) := by decide +kernel
theorem dX6_add_67 : decode cX6_add 67 = .ok (.iload_n 1, 1) := by decide +kernel
theorem dX6_add_68 : decode cX6_add 68 = .ok (.goto 25, 3) := by decide +kernel
theorem dX6_add_71 : decode cX6_add 71 = .ok (.iload 6, 2) := by decide +kernel
theorem dX6_add_73 : decode cX6_add 73 = .ok (.iconst 1, 1) := by decide +kernel
theorem dX6_add_74 : decode cX6_add 74 = .ok (.if_icmp .ne 7, 3) := by decide +kernel
theorem dX6_add_77 : decode cX6_add 77 = .ok (.iload_n 2, 1) := by decide +kernel
theorem dX6_add_78 : decode cX6_add 78 = .ok (.goto 15, 3) := by decide +kernel
theorem dX6_add_81 : decode cX6_add 81 = .ok (.iload 6, 2) := by decide +kernel
theorem dX6_add_83 : decode cX6_add 83 = .ok (.iconst 2, 1) := by decide +kernel
theorem dX6_add_84 : decode cX6_add 84 = .ok (.if_icmp .ne 7, 3) := by decide +kernel
theorem dX6_add_87 : decode cX6_add 87 = .ok (.iload_n 3, 1) := by decide +kernel
theorem dX6_add_88 : decode cX6_add 88 = .ok (.goto 5, 3) := by decide +kernel
theorem dX6_add_91 : decode cX6_add 91 = .ok (.iload 4, 2) := by decide +kernel
theorem dX6_add_93 : decode cX6_add 93 = .ok (.iastore, 1) := by decide +kernel
theorem dX6_add_94 : decode cX6_add 94 = .ok (.iinc 6 1, 3) := by decide +kernel
theorem dX6_add_97 : decode cX6_add 97 = .ok (.goto (-66), 3) := by decide +kernel
theorem dX6_add_100 : decode cX6_add 100 = .ok (.aload_n 0, 1) := by decide +kernel
theorem dX6_add_101 : decode cX6_add 101 = .ok (.dup, 1) := by decide +kernel
theorem dX6_add_102 : decode cX6_add 102 = .ok (.getfield 9, 3) := by decide +kernel
theorem dX6_add_105 : decode cX6_add 105 = .ok (.iconst 1, 1) := by decide +kernel
theorem dX6_add_106 : decode cX6_add 106 = .ok (.iadd, 1) := by decide +kernel
theorem dX6_add_107 : decode cX6_add 107 = .ok (.putfield 9, 3) := by decide +kernel
theorem dX6_add_110 : decode cX6_add 110 = .ok (.aload_n 0, 1) := by decide +kernel
theorem dX6_add_111 : decode cX6_add 111 = .ok (.getfield 9, 3) := by decide +kernel
theorem dX6_add_114 : decode cX6_add 114 = .ok (.ireturn, 1) := by decide +kernel
theorem dX6_has_0 : decode cX6_has 0 = .ok (.iconst 0, 1) := by decide +kernel
theorem dX6_has_1 : decode cX6_has 1 = .ok (.istore_n 3, 1) := by decide +kernel
theorem dX6_has_2 : decode cX6_has 2 = .ok (.iload_n 3, 1) := by decide +kernel
theorem dX6_has_3 : decode cX6_has 3 = .ok (.aload_n 0, 1) := by decide +kernel
theorem dX6_has_4 : decode cX6_has 4 = .ok (.getfield 9, 3) := by decide +kernel
theorem dX6_has_7 : decode cX6_has 7 = .ok (.if_icmp .ge 31, 3) := by decide +kernel
theorem dX6_has_10 : decode cX6_has 10 = .ok (.aload_n 0, 1) := by decide +kernel
theorem dX6_has_11 : decode cX6_has 11 = .ok (.iload_n 3, 1) := by decide +kernel
theorem dX6_has_12 : decode cX6_has 12 = .ok (.iconst 0, 1) := by decide +kernel
theorem dX6_has_13 : decode cX6_has 13 = .ok (.invokevirtual 31, 3) := by decide +kernel
theorem dX6_has_16 : decode cX6_has 16 = .ok (.iload_n 1, 1) := by decide +kernel
theorem dX6_has_17 : decode cX6_has 17 = .ok (.if_icmp .ne 15, 3) := by decide +kernel
theorem dX6_has_20 : decode cX6_has 20 = .ok (.aload_n 0, 1) := by decide +kernel
theorem dX6_has_21 : decode cX6_has 21 = .ok (.iload_n 3, 1) := by decide +kernel
theorem dX6_has_22 : decode cX6_has 22 = .ok (.iconst 1, 1) := by decide +kernel
theorem dX6_has_23 : decode cX6_has 23 = .ok (.invokevirtual 31, 3) := by decide +kernel
theorem dX6_has_26 : decode cX6_has 26 = .ok (.iload_n 2, 1) := by decide +kernel
theorem dX6_has_27 : decode cX6_has 27 = .ok (.if_icmp .ne 5, 3) := by decide +kernel
theorem dX6_has_30 : decode cX6_has 30 = .ok (.iconst 1, 1) := by decide +kernel
theorem dX6_has_31 : decode cX6_has 31 = .ok (.ireturn, 1) := by decide +kernel
theorem dX6_has_32 : decode cX6_has 32 = .ok (.iinc 3 1, 3) := by decide +kernel
theorem dX6_has_35 : decode cX6_has 35 = .ok (.goto (-33), 3) := by decide +kernel
theorem dX6_has_38 : decode cX6_has 38 = .ok (.iconst 0, 1) := by decide +kernel
theorem dX6_has_39 : decode cX6_has 39 = .ok (.ireturn, 1) := by decide +kernel
theorem dX6_clear_0 : decode cX6_clear 0 = .ok (.aload_n 0, 1) := by decide +kernel
theorem dX6_clear_1 : decode cX6_clear 1 = .ok (.iconst 0, 1) := by decide +kernel
theorem dX6_clear_2 : decode cX6_clear 2 = .ok (.putfield 9, 3) := by decide +kernel
theorem dX6_clear_5 : decode cX6_clear 5 = .ok (.iconst 0, 1) := by decide +kernel
theorem dX6_clear_6 : decode cX6_clear 6 = .ok (.ireturn, 1) := by decide +kernel
theorem dX6_keepFirst_0 : decode cX6_keepFirst 0 = .ok (.aload_n 0, 1) := by decide +kernel
theorem dX6_keepFirst_1 : decode cX6_keepFirst 1 = .ok (.iconst 0, 1) := by decide +kernel
theorem dX6_keepFirst_2 : decode cX6_keepFirst 2 = .ok (.aload_n 0, 1) := by decide +kernel
theorem dX6_keepFirst_3 : decode cX6_keepFirst 3 = .ok (.getfield 9, 3) := by decide +kernel
theorem dX6_keepFirst_6 : decode cX6_keepFirst 6 = .ok (.iload_n 1, 1) := by decide +kernel
theorem dX6_keepFirst_7 : decode cX6_keepFirst 7 = .ok (.invokestatic 15, 3) := by decide +kernel
theorem dX6_keepFirst_10 : decode cX6_keepFirst 10 = .ok (.invokestatic 21, 3) := by decide +kernel
theorem dX6_keepFirst_13 : decode cX6_keepFirst 13 = .ok (.putfield 9, 3) := by decide +kernel
theorem dX6_keepFirst_16 : decode cX6_keepFirst 16 = .ok (.return_, 1) := by decide +kernel
theorem dX6_copyFrom_0 : decode cX6_copyFrom 0 = .ok (.aload_n 0, 1) := by decide +kernel
theorem dX6_copyFrom_1 : decode cX6_copyFrom 1 = .ok (.aload_n 1, 1) := by decide +kernel
theorem dX6_copyFrom_2 : decode cX6_copyFrom 2 = .ok (.getfield 9, 3) := by decide +kernel
theorem dX6_copyFrom_5 : decode cX6_copyFrom 5 = .ok (.putfield 9, 3) := by decide +kernel
theorem dX6_copyFrom_8 : decode cX6_copyFrom 8 = .ok (.aload_n 1, 1) := by decide +kernel
theorem dX6_copyFrom_9 : decode cX6_copyFrom 9 = .ok (.getfield 27, 3) := by decide +kernel
theorem dX6_copyFrom_12 : decode cX6_copyFrom 12 = .ok (.aload_n 0, 1) := by decide +kernel
theorem dX6_copyFrom_13 : decode cX6_copyFrom 13 = .ok (.getfield 27, 3) := by decide +kernel
theorem dX6_copyFrom_16 : decode cX6_copyFrom 16 = .ok (.invokestatic 34, 3) := by decide +kernel
theorem dX6_copyFrom_19 : decode cX6_copyFrom 19 = .ok (.return_, 1) := by decide +kernel
theorem dX7_init_0 : decode cX7_init 0 = .ok (.aload_n 0, 1) := by decide +kernel
theorem dX7_init_1 : decode cX7_init 1 = .ok (.invokespecial 3, 3) := by decide +kernel
theorem dX7_init_4 : decode cX7_init 4 = .ok (.aload_n 0, 1) := by decide +kernel
theorem dX7_init_5 : decode cX7_init 5 = .ok (.new 9, 3) := by decide +kernel
theorem dX7_init_8 : decode cX7_init 8 = .ok (.dup, 1) := by decide +kernel
theorem dX7_init_9 : decode cX7_init 9 = .ok (.invokespecial 11, 3) := by decide +kernel
theorem dX7_init_12 : decode cX7_init 12 = .ok (.putfield 12, 3) := by decide +kernel
theorem dX7_init_15 : decode cX7_init 15 = .ok (.aload_n 0, 1) := by decide +kernel
theorem dX7_init_16 : decode cX7_init 16 = .ok (.new 18, 3) := by decide +kernel
theorem dX7_init_19 : decode cX7_init 19 = .ok (.dup, 1) := by decide +kernel
theorem dX7_init_20 : decode cX7_init 20 = .ok (.sipush 150, 3) := by decide +kernel
theorem dX7_init_23 : decode cX7_init 23 = .ok (.iconst 4, 1) := by decide +kernel
theorem dX7_init_24 : decode cX7_init 24 = .ok (.invokespecial 20, 3) := by decide +kernel
theorem dX7_init_27 : decode cX7_init 27 = .ok (.putfield 23, 3) := by decide +kernel
theorem dX7_init_30 : decode cX7_init 30 = .ok (.aload_n 0, 1) := by decide +kernel
theorem dX7_init_31 : decode cX7_init 31 = .ok (.new 27, 3) := by decide +kernel
theorem dX7_init_34 : decode cX7_init 34 = .ok (.dup, 1) := by decide +kernel
theorem dX7_init_35 : decode cX7_init 35 = .ok (.invokespecial 29, 3) := by decide +kernel
theorem dX7_init_38 : decode cX7_init 38 = .ok (.putfield 30, 3) := by decide +kernel
theorem dX7_init_41 : decode cX7_init 41 = .ok (.aload_n 0, 1) := by decide +kernel
theorem dX7_init_42 : decode cX7_init 42 = .ok (.new 18, 3) := by decide +kernel
theorem dX7_init_45 : decode cX7_init 45 = .ok (.dup, 1) := by decide +kernel
theorem dX7_init_46 : decode cX7_init 46 = .ok (.bipush 16, 2) := by decide +kernel
theorem dX7_init_48 : decode cX7_init 48 = .ok (.iconst 4, 1) := by decide +kernel
theorem dX7_init_49 : decode cX7_init 49 = .ok (.invokespecial 20, 3) := by decide +kernel
theorem dX7_init_52 : decode cX7_init 52 = .ok (.putfield 34, 3) := by decide +kernel
theorem dX7_init_55 : decode cX7_init 55 = .ok (.aload_n 0, 1) := by decide +kernel
theorem dX7_init_56 : decode cX7_init 56 = .ok (.new 18, 3) := by decide +kernel
theorem dX7_init_59 : decode cX7_init 59 = .ok (.dup, 1) := by decide +kernel
theorem dX7_init_60 : decode cX7_init 60 = .ok (.bipush 16, 2) := by decide +kernel
theorem dX7_init_62 : decode cX7_init 62 = .ok (.iconst 4, 1) := by decide +kernel
theorem dX7_init_63 : decode cX7_init 63 = .ok (.invokespecial 20, 3) := by decide +kernel
theorem dX7_init_66 : decode cX7_init 66 = .ok (.putfield 37, 3) := by decide +kernel
theorem dX7_init_69 : decode cX7_init 69 = .ok (.aload_n 0, 1) := by decide +kernel
theorem dX7_init_70 : decode cX7_init 70 = .ok (.new 18, 3) := by decide +kernel
theorem dX7_init_73 : decode cX7_init 73 = .ok (.dup, 1) := by decide +kernel
theorem dX7_init_74 : decode cX7_init 74 = .ok (.bipush 16, 2) := by decide +kernel
theorem dX7_init_76 : decode cX7_init 76 = .ok (.iconst 4, 1) := by decide +kernel
theorem dX7_init_77 : decode cX7_init 77 = .ok (.invokespecial 20, 3) := by decide +kernel
theorem dX7_init_80 : decode cX7_init 80 = .ok (.putfield 40, 3) := by decide +kernel
theorem dX7_init_83 : decode cX7_init 83 = .ok (.aload_n 0, 1) := by decide +kernel
theorem dX7_init_84 : decode cX7_init 84 = .ok (.new 18, 3) := by decide +kernel
theorem dX7_init_87 : decode cX7_init 87 = .ok (.dup, 1) := by decide +kernel
theorem dX7_init_88 : decode cX7_init 88 = .ok (.bipush 8, 2) := by decide +kernel
theorem dX7_init_90 : decode cX7_init 90 = .ok (.iconst 3, 1) := by decide +kernel
theorem dX7_init_91 : decode cX7_init 91 = .ok (.invokespecial 20, 3) := by decide +kernel
theorem dX7_init_94 : decode cX7_init 94 = .ok (.putfield 43, 3) := by decide +kernel
theorem dX7_init_97 : decode cX7_init 97 = .ok (.aload_n 0, 1) := by decide +kernel
theorem dX7_init_98 : decode cX7_init 98 = .ok (.new 18, 3) := by decide +kernel
theorem dX7_init_101 : decode cX7_init 101 = .ok (.dup, 1) := by decide +kernel
theorem dX7_init_102 : decode cX7_init 102 = .ok (.bipush 12, 2) := by decide +kernel
theorem dX7_init_104 : decode cX7_init 104 = .ok (.iconst 1, 1) := by decide +kernel
theorem dX7_init_105 : decode cX7_init 105 = .ok (.invokespecial 20, 3) := by decide +kernel
theorem dX7_init_108 : decode cX7_init 108 = .ok (.putfield 46, 3) := by decide +kernel
theorem dX7_init_111 : decode cX7_init 111 = .ok (.aload_n 0, 1) := by decide +kernel
theorem dX7_init_112 : decode cX7_init 112 = .ok (.new 18, 3) := by decide +kernel
theorem dX7_init_115 : decode cX7_init 115 = .ok (.dup, 1) := by decide +kernel
theorem dX7_init_116 : decode cX7_init 116 = .ok (.iconst 4, 1) := by decide +kernel
theorem dX7_init_117 : decode cX7_init 117 = .ok (.iconst 1, 1) := by decide +kernel
theorem dX7_init_118 : decode cX7_init 118 = .ok (.invokespecial 20, 3) := by decide +kernel
theorem dX7_init_121 : decode cX7_init 121 = .ok (.putfield 49, 3) := by decide +kernel
theorem dX7_init_124 : decode cX7_init 124 = .ok (.aload_n 0, 1) := by decide +kernel
theorem dX7_init_125 : decode cX7_init 125 = .ok (.new 18, 3) := by decide +kernel
theorem dX7_init_128 : decode cX7_init 128 = .ok (.dup, 1) := by decide +kernel
theorem dX7_init_129 : decode cX7_init 129 = .ok (.bipush 16, 2) := by decide +kernel
theorem dX7_init_131 : decode cX7_init 131 = .ok (.iconst 1, 1) := by decide +kernel
theorem dX7_init_132 : decode cX7_init 132 = .ok (.invokespecial 20, 3) := by decide +kernel
theorem dX7_init_135 : decode cX7_init 135 = .ok (.putfield 52, 3) := by decide +kernel
theorem dX7_init_138 : decode cX7_init 138 = .ok (.aload_n 0, 1) := by decide +kernel
theorem dX7_init_139 : decode cX7_init 139 = .ok (.new 18, 3) := by decide +kernel
theorem dX7_init_142 : decode cX7_init 142 = .ok (.dup, 1) := by decide +kernel
theorem dX7_init_143 : decode cX7_init 143 = .ok (.bipush 7, 2) := by decide +kernel
theorem dX7_init_145 : decode cX7_init 145 = .ok (.iconst 2, 1) := by decide +kernel
theorem dX7_init_146 : decode cX7_init 146 = .ok (.invokespecial 20, 3) := by decide +kernel
theorem dX7_init_149 : decode cX7_init 149 = .ok (.putfield 55, 3) := by decide +kernel
theorem dX7_init_152 : decode cX7_init 152 = .ok (.aload_n 0, 1) := by decide +kernel
theorem dX7_init_153 : decode cX7_init 153 = .ok (.new 18, 3) := by decide +kernel
theorem dX7_init_156 : decode cX7_init 156 = .ok (.dup, 1) := by decide +kernel
theorem dX7_init_157 : decode cX7_init 157 = .ok (.bipush 8, 2) := by decide +kernel
theorem dX7_init_159 : decode cX7_init 159 = .ok (.iconst 2, 1) := by decide +kernel
theorem dX7_init_160 : decode cX7_init 160 = .ok (.invokespecial 20, 3) := by decide +kernel
theorem dX7_init_163 : decode cX7_init 163 = .ok (.putfield 58, 3) := by decide +kernel
theorem dX7_init_166 : decode cX7_init 166 = .ok (.return_, 1) := by decide +kernel
theorem dX7_copyFrom_0 : decode cX7_copyFrom 0 = .ok (.aload_n 0, 1) := by decide +kernel
theorem dX7_copyFrom_1 : decode cX7_copyFrom 1 = .ok (.getfield 12, 3) := by decide +kernel
theorem dX7_copyFrom_4 : decode cX7_copyFrom 4 = .ok (.aload_n 1, 1) := by decide +kernel
theorem dX7_copyFrom_5 : decode cX7_copyFrom 5 = .ok (.getfield 12, 3) := by decide +kernel
theorem dX7_copyFrom_8 : decode cX7_copyFrom 8 = .ok (.invokevirtual 61, 3) := by decide +kernel
theorem dX7_copyFrom_11 : decode cX7_copyFrom 11 = .ok (.aload_n 0, 1) := by decide +kernel
theorem dX7_copyFrom_12 : decode cX7_copyFrom 12 = .ok (.getfield 23, 3) := by decide +kernel
theorem dX7_copyFrom_15 : decode cX7_copyFrom 15 = .ok (.aload_n 1, 1) := by decide +kernel
theorem dX7_copyFrom_16 : decode cX7_copyFrom 16 = .ok (.getfield 23, 3) := by decide +kernel
theorem dX7_copyFrom_19 : decode cX7_copyFrom 19 = .ok (.invokevirtual 65, 3) := by decide +kernel
theorem dX7_copyFrom_22 : decode cX7_copyFrom 22 = .ok (.aload_n 0, 1) := by decide +kernel
theorem dX7_copyFrom_23 : decode cX7_copyFrom 23 = .ok (.getfield 30, 3) := by decide +kernel
theorem dX7_copyFrom_26 : decode cX7_copyFrom 26 = .ok (.aload_n 1, 1) := by decide +kernel
theorem dX7_copyFrom_27 : decode cX7_copyFrom 27 = .ok (.getfield 30, 3) := by decide +kernel
theorem dX7_copyFrom_30 : decode cX7_copyFrom 30 = .ok (.invokevirtual 68, 3) := by decide +kernel
theorem dX7_copyFrom_33 : decode cX7_copyFrom 33 = .ok (.aload_n 0, 1) := by decide +kernel
theorem dX7_copyFrom_34 : decode cX7_copyFrom 34 = .ok (.getfield 34, 3) := by decide +kernel
theorem dX7_copyFrom_37 : decode cX7_copyFrom 37 = .ok (.aload_n 1, 1) := by decide +kernel
theorem dX7_copyFrom_38 : decode cX7_copyFrom 38 = .ok (.getfield 34, 3) := by decide +kernel
theorem dX7_copyFrom_41 : decode cX7_copyFrom 41 = .ok (.invokevirtual 65, 3) := by decide +kernel
theorem dX7_copyFrom_44 : decode cX7_copyFrom 44 = .ok (.aload_n 0, 1) := by decide +kernel
theorem dX7_copyFrom_45 : decode cX7_copyFrom 45 = .ok (.getfield 37, 3) := by decide +kernel
theorem dX7_copyFrom_48 : decode cX7_copyFrom 48 = .ok (.aload_n 1, 1) := by decide +kernel
theorem dX7_copyFrom_49 : decode cX7_copyFrom 49 = .ok (.getfield 37, 3) := by decide +kernel
theorem dX7_copyFrom_52 : decode cX7_copyFrom 52 = .ok (.invokevirtual 65, 3) := by decide +kernel
theorem dX7_copyFrom_55 : decode cX7_copyFrom 55 = .ok (.aload_n 0, 1) := by decide +kernel
theorem dX7_copyFrom_56 : decode cX7_copyFrom 56 = .ok (.getfield 40, 3) := by decide +kernel
theorem dX7_copyFrom_59 : decode cX7_copyFrom 59 = .ok (.aload_n 1, 1) := by decide +kernel
theorem dX7_copyFrom_60 : decode cX7_copyFrom 60 = .ok (.getfield 40, 3) := by decide +kernel
theorem dX7_copyFrom_63 : decode cX7_copyFrom 63 = .ok (.invokevirtual 65, 3) := by decide +kernel
theorem dX7_copyFrom_66 : decode cX7_copyFrom 66 = .ok (.aload_n 0, 1) := by decide +kernel
theorem dX7_copyFrom_67 : decode cX7_copyFrom 67 = .ok (.getfield 43, 3) := by decide +kernel
theorem dX7_copyFrom_70 : decode cX7_copyFrom 70 = .ok (.aload_n 1, 1) := by decide +kernel
theorem dX7_copyFrom_71 : decode cX7_copyFrom 71 = .ok (.getfield 43, 3) := by decide +kernel
theorem dX7_copyFrom_74 : decode cX7_copyFrom 74 = .ok (.invokevirtual 65, 3) := by decide +kernel
theorem dX7_copyFrom_77 : decode cX7_copyFrom 77 = .ok (.aload_n 0, 1) := by decide +kernel
theorem dX7_copyFrom_78 : decode cX7_copyFrom 78 = .ok (.getfield 46, 3) := by decide +kernel
theorem dX7_copyFrom_81 : decode cX7_copyFrom 81 = .ok (.aload_n 1, 1) := by decide +kernel
theorem dX7_copyFrom_82 : decode cX7_copyFrom 82 = .ok (.getfield 46, 3) := by decide +kernel
theorem dX7_copyFrom_85 : decode cX7_copyFrom 85 = .ok (.invokevirtual 65, 3) := by decide +kernel
theorem dX7_copyFrom_88 : decode cX7_copyFrom 88 = .ok (.aload_n 0, 1) := by decide +kernel
theorem dX7_copyFrom_89 : decode cX7_copyFrom 89 = .ok (.getfield 49, 3) := by decide +kernel
theorem dX7_copyFrom_92 : decode cX7_copyFrom 92 = .ok (.aload_n 1, 1) := by decide +kernel
theorem dX7_copyFrom_93 : decode cX7_copyFrom 93 = .ok (.getfield 49, 3) := by decide +kernel
theorem dX7_copyFrom_96 : decode cX7_copyFrom 96 = .ok (.invokevirtual 65, 3) := by decide +kernel
theorem dX7_copyFrom_99 : decode cX7_copyFrom 99 = .ok (.aload_n 0, 1) := by decide +kernel
theorem dX7_copyFrom_100 : decode cX7_copyFrom 100 = .ok (.getfield 52, 3) := by decide +kernel
theorem dX7_copyFrom_103 : decode cX7_copyFrom 103 = .ok (.aload_n 1, 1) := by decide +kernel
theorem dX7_copyFrom_104 : decode cX7_copyFrom 104 = .ok (.getfield 52, 3) := by decide +kernel
theorem dX7_copyFrom_107 : decode cX7_copyFrom 107 = .ok (.invokevirtual 65, 3) := by decide +kernel
theorem dX7_copyFrom_110 : decode cX7_copyFrom 110 = .ok (.aload_n 0, 1) := by decide +kernel
theorem dX7_copyFrom_111 : decode cX7_copyFrom 111 = .ok (.getfield 55, 3) := by decide +kernel
theorem dX7_copyFrom_114 : decode cX7_copyFrom 114 = .ok (.aload_n 1, 1) := by decide +kernel
theorem dX7_copyFrom_115 : decode cX7_copyFrom 115 = .ok (.getfield 55, 3) := by decide +kernel
theorem dX7_copyFrom_118 : decode cX7_copyFrom 118 = .ok (.invokevirtual 65, 3) := by decide +kernel
theorem dX7_copyFrom_121 : decode cX7_copyFrom 121 = .ok (.aload_n 0, 1) := by decide +kernel
theorem dX7_copyFrom_122 : decode cX7_copyFrom 122 = .ok (.getfield 58, 3) := by decide +kernel
theorem dX7_copyFrom_125 : decode cX7_copyFrom 125 = .ok (.aload_n 1, 1) := by decide +kernel
theorem dX7_copyFrom_126 : decode cX7_copyFrom 126 = .ok (.getfield 58, 3) := by decide +kernel
theorem dX7_copyFrom_129 : decode cX7_copyFrom 129 = .ok (.invokevirtual 65, 3) := by decide +kernel
theorem dX7_copyFrom_132 : decode cX7_copyFrom 132 = .ok (.return_, 1) := by decide +kernel
theorem dX7_batmanOf_0 : decode cX7_batmanOf 0 = .ok (.aload_n 0, 1) := by decide +kernel
theorem dX7_batmanOf_1 : decode cX7_batmanOf 1 = .ok (.getfield 37, 3) := by decide +kernel
theorem dX7_batmanOf_4 : decode cX7_batmanOf 4 = .ok (.getfield 71, 3) := by decide +kernel
theorem dX7_batmanOf_7 : decode cX7_batmanOf 7 = .ok (.iconst 1, 1) := by decide +kernel
theorem dX7_batmanOf_8 : decode cX7_batmanOf 8 = .ok (.isub, 1) := by decide +kernel
theorem dX7_batmanOf_9 : decode cX7_batmanOf 9 = .ok (.istore_n 2, 1) := by decide +kernel
theorem dX7_batmanOf_10 : decode cX7_batmanOf 10 = .ok (.iload_n 2, 1) := by decide +kernel
theorem dX7_batmanOf_11 : decode cX7_batmanOf 11 = .ok (.ifCond .lt 32, 3) := by decide +kernel
theorem dX7_batmanOf_14 : decode cX7_batmanOf 14 = .ok (.aload_n 0, 1) := by decide +kernel
theorem dX7_batmanOf_15 : decode cX7_batmanOf 15 = .ok (.getfield 37, 3) := by decide +kernel
theorem dX7_batmanOf_18 : decode cX7_batmanOf 18 = .ok (.iload_n 2, 1) := by decide +kernel
theorem dX7_batmanOf_19 : decode cX7_batmanOf 19 = .ok (.iconst 0, 1) := by decide +kernel
theorem dX7_batmanOf_20 : decode cX7_batmanOf 20 = .ok (.invokevirtual 75, 3) := by decide +kernel
theorem dX7_batmanOf_23 : decode cX7_batmanOf 23 = .ok (.iload_n 1, 1) := by decide +kernel
theorem dX7_batmanOf_24 : decode cX7_batmanOf 24 = .ok (.if_icmp .ne 13, 3) := by decide +kernel
theorem dX7_batmanOf_27 : decode cX7_batmanOf 27 = .ok (.aload_n 0, 1) := by decide +kernel
theorem dX7_batmanOf_28 : decode cX7_batmanOf 28 = .ok (.getfield 37, 3) := by decide +kernel
theorem dX7_batmanOf_31 : decode cX7_batmanOf 31 = .ok (.iload_n 2, 1) := by decide +kernel
theorem dX7_batmanOf_32 : decode cX7_batmanOf 32 = .ok (.iconst 1, 1) := by decide +kernel
theorem dX7_batmanOf_33 : decode cX7_batmanOf 33 = .ok (.invokevirtual 75, 3) := by decide +kernel
theorem dX7_batmanOf_36 : decode cX7_batmanOf 36 = .ok (.ireturn, 1) := by decide +kernel
theorem dX7_batmanOf_37 : decode cX7_batmanOf 37 = .ok (.iinc 2 (-1), 3) := by decide +kernel
theorem dX7_batmanOf_40 : decode cX7_batmanOf 40 = .ok (.goto (-30), 3) := by decide +kernel
theorem dX7_batmanOf_43 : decode cX7_batmanOf 43 = .ok (.iconst (-1), 1) := by decide +kernel
theorem dX7_batmanOf_44 : decode cX7_batmanOf 44 = .ok (.ireturn, 1) := by decide +kernel
theorem dX7_servedBy_0 : decode cX7_servedBy 0 = .ok (.iconst 0, 1) := by decide +kernel
theorem dX7_servedBy_1 : decode cX7_servedBy 1 = .ok (.istore_n 2, 1) := by decide +kernel
theorem dX7_servedBy_2 : decode cX7_servedBy 2 = .ok (.iconst 0, 1) := by decide +kernel
theorem dX7_servedBy_3 : decode cX7_servedBy 3 = .ok (.istore_n 3, 1) := by decide +kernel
theorem dX7_servedBy_4 : decode cX7_servedBy 4 = .ok (.iload_n 3, 1) := by decide +kernel
theorem dX7_servedBy_5 : decode cX7_servedBy 5 = .ok (.aload_n 0, 1) := by decide +kernel
theorem dX7_servedBy_6 : decode cX7_servedBy 6 = .ok (.getfield 12, 3) := by decide +kernel
theorem dX7_servedBy_9 : decode cX7_servedBy 9 = .ok (.getfield 79, 3) := by decide +kernel
theorem dX7_servedBy_12 : decode cX7_servedBy 12 = .ok (.if_icmp .ge 24, 3) := by decide +kernel
theorem dX7_servedBy_15 : decode cX7_servedBy 15 = .ok (.aload_n 0, 1) := by decide +kernel
theorem dX7_servedBy_16 : decode cX7_servedBy 16 = .ok (.iload_n 3, 1) := by decide +kernel
theorem dX7_servedBy_17 : decode cX7_servedBy 17 = .ok (.invokevirtual 82, 3) := by decide +kernel
theorem dX7_servedBy_20 : decode cX7_servedBy 20 = .ok (.iload_n 1, 1) := by decide +kernel
theorem dX7_servedBy_21 : decode cX7_servedBy 21 = .ok (.if_icmp .ne 9, 3) := by decide +kernel
theorem dX7_servedBy_24 : decode cX7_servedBy 24 = .ok (.iload_n 2, 1) := by decide +kernel
theorem dX7_servedBy_25 : decode cX7_servedBy 25 = .ok (.iconst 1, 1) := by decide +kernel
theorem dX7_servedBy_26 : decode cX7_servedBy 26 = .ok (.iload_n 3, 1) := by decide +kernel
theorem dX7_servedBy_27 : decode cX7_servedBy 27 = .ok (.ishl, 1) := by decide +kernel
theorem dX7_servedBy_28 : decode cX7_servedBy 28 = .ok (.ior, 1) := by decide +kernel
theorem dX7_servedBy_29 : decode cX7_servedBy 29 = .ok (.istore_n 2, 1) := by decide +kernel
theorem dX7_servedBy_30 : decode cX7_servedBy 30 = .ok (.iinc 3 1, 3) := by decide +kernel
theorem dX7_servedBy_33 : decode cX7_servedBy 33 = .ok (.goto (-29), 3) := by decide +kernel
theorem dX7_servedBy_36 : decode cX7_servedBy 36 = .ok (.iload_n 2, 1) := by decide +kernel
theorem dX7_servedBy_37 : decode cX7_servedBy 37 = .ok (.ireturn, 1) := by decide +kernel
theorem dX7_needed_0 : decode cX7_needed 0 = .ok (.iconst 0, 1) := by decide +kernel
theorem dX7_needed_1 : decode cX7_needed 1 = .ok (.istore_n 2, 1) := by decide +kernel
theorem dX7_needed_2 : decode cX7_needed 2 = .ok (.iconst 0, 1) := by decide +kernel
theorem dX7_needed_3 : decode cX7_needed 3 = .ok (.istore_n 3, 1) := by decide +kernel
theorem dX7_needed_4 : decode cX7_needed 4 = .ok (.iload_n 3, 1) := by decide +kernel
theorem dX7_needed_5 : decode cX7_needed 5 = .ok (.aload_n 0, 1) := by decide +kernel
theorem dX7_needed_6 : decode cX7_needed 6 = .ok (.getfield 40, 3) := by decide +kernel
theorem dX7_needed_9 : decode cX7_needed 9 = .ok (.getfield 71, 3) := by decide +kernel
theorem dX7_needed_12 : decode cX7_needed 12 = .ok (.if_icmp .ge 36, 3) := by decide +kernel
theorem dX7_needed_15 : decode cX7_needed 15 = .ok (.aload_n 0, 1) := by decide +kernel
theorem dX7_needed_16 : decode cX7_needed 16 = .ok (.getfield 40, 3) := by decide +kernel
theorem dX7_needed_19 : decode cX7_needed 19 = .ok (.iload_n 3, 1) := by decide +kernel
theorem dX7_needed_20 : decode cX7_needed 20 = .ok (.iconst 0, 1) := by decide +kernel
theorem dX7_needed_21 : decode cX7_needed 21 = .ok (.invokevirtual 75, 3) := by decide +kernel
theorem dX7_needed_24 : decode cX7_needed 24 = .ok (.iload_n 1, 1) := by decide +kernel
theorem dX7_needed_25 : decode cX7_needed 25 = .ok (.if_icmp .ne 17, 3) := by decide +kernel
theorem dX7_needed_28 : decode cX7_needed 28 = .ok (.iload_n 2, 1) := by decide +kernel
theorem dX7_needed_29 : decode cX7_needed 29 = .ok (.iconst 1, 1) := by decide +kernel
theorem dX7_needed_30 : decode cX7_needed 30 = .ok (.aload_n 0, 1) := by decide +kernel
theorem dX7_needed_31 : decode cX7_needed 31 = .ok (.getfield 40, 3) := by decide +kernel
theorem dX7_needed_34 : decode cX7_needed 34 = .ok (.iload_n 3, 1) := by decide +kernel
theorem dX7_needed_35 : decode cX7_needed 35 = .ok (.iconst 1, 1) := by decide +kernel
theorem dX7_needed_36 : decode cX7_needed 36 = .ok (.invokevirtual 75, 3) := by decide +kernel
theorem dX7_needed_39 : decode cX7_needed 39 = .ok (.ishl, 1) := by decide +kernel
theorem dX7_needed_40 : decode cX7_needed 40 = .ok (.ior, 1) := by decide +kernel
theorem dX7_needed_41 : decode cX7_needed 41 = .ok (.istore_n 2, 1) := by decide +kernel
theorem dX7_needed_42 : decode cX7_needed 42 = .ok (.iinc 3 1, 3) := by decide +kernel
theorem dX7_needed_45 : decode cX7_needed 45 = .ok (.goto (-41), 3) := by decide +kernel
theorem dX7_needed_48 : decode cX7_needed 48 = .ok (.iload_n 2, 1) := by decide +kernel
theorem dX7_needed_49 : decode cX7_needed 49 = .ok (.ireturn, 1) := by decide +kernel
theorem dX7_hasHisNeeds_0 : decode cX7_hasHisNeeds 0 = .ok (.iconst 0, 1) := by decide +kernel
theorem dX7_hasHisNeeds_1 : decode cX7_hasHisNeeds 1 = .ok (.istore_n 3, 1) := by decide +kernel
theorem dX7_hasHisNeeds_2 : decode cX7_hasHisNeeds 2 = .ok (.iload_n 3, 1) := by decide +kernel
theorem dX7_hasHisNeeds_3 : decode cX7_hasHisNeeds 3 = .ok (.aload_n 0, 1) := by decide +kernel
theorem dX7_hasHisNeeds_4 : decode cX7_hasHisNeeds 4 = .ok (.getfield 40, 3) := by decide +kernel
theorem dX7_hasHisNeeds_7 : decode cX7_hasHisNeeds 7 = .ok (.getfield 71, 3) := by decide +kernel
theorem dX7_hasHisNeeds_10 : decode cX7_hasHisNeeds 10 = .ok (.if_icmp .ge 40, 3) := by decide +kernel
theorem dX7_hasHisNeeds_13 : decode cX7_hasHisNeeds 13 = .ok (.aload_n 0, 1) := by decide +kernel
theorem dX7_hasHisNeeds_14 : decode cX7_hasHisNeeds 14 = .ok (.getfield 40, 3) := by decide +kernel
theorem dX7_hasHisNeeds_17 : decode cX7_hasHisNeeds 17 = .ok (.iload_n 3, 1) := by decide +kernel
theorem dX7_hasHisNeeds_18 : decode cX7_hasHisNeeds 18 = .ok (.iconst 0, 1) := by decide +kernel
theorem dX7_hasHisNeeds_19 : decode cX7_hasHisNeeds 19 = .ok (.invokevirtual 75, 3) := by decide +kernel
theorem dX7_hasHisNeeds_22 : decode cX7_hasHisNeeds 22 = .ok (.iload_n 2, 1) := by decide +kernel
theorem dX7_hasHisNeeds_23 : decode cX7_hasHisNeeds 23 = .ok (.if_icmp .ne 21, 3) := by decide +kernel
theorem dX7_hasHisNeeds_26 : decode cX7_hasHisNeeds 26 = .ok (.aload_n 1, 1) := by decide +kernel
theorem dX7_hasHisNeeds_27 : decode cX7_hasHisNeeds 27 = .ok (.aload_n 0, 1) := by decide +kernel
theorem dX7_hasHisNeeds_28 : decode cX7_hasHisNeeds 28 = .ok (.getfield 40, 3) := by decide +kernel
theorem dX7_hasHisNeeds_31 : decode cX7_hasHisNeeds 31 = .ok (.iload_n 3, 1) := by decide +kernel
theorem dX7_hasHisNeeds_32 : decode cX7_hasHisNeeds 32 = .ok (.iconst 1, 1) := by decide +kernel
theorem dX7_hasHisNeeds_33 : decode cX7_hasHisNeeds 33 = .ok (.invokevirtual 75, 3) := by decide +kernel
theorem dX7_hasHisNeeds_36 : decode cX7_hasHisNeeds 36 = .ok (.invokevirtual 86, 3) := by decide +kernel
theorem dX7_hasHisNeeds_39 : decode cX7_hasHisNeeds 39 = .ok (.ifCond .ne 5, 3) := by decide +kernel
theorem dX7_hasHisNeeds_42 : decode cX7_hasHisNeeds 42 = .ok (.iconst 0, 1) := by decide +kernel
theorem dX7_hasHisNeeds_43 : decode cX7_hasHisNeeds 43 = .ok (.ireturn, 1) := by decide +kernel
theorem dX7_hasHisNeeds_44 : decode cX7_hasHisNeeds 44 = .ok (.iinc 3 1, 3) := by decide +kernel
theorem dX7_hasHisNeeds_47 : decode cX7_hasHisNeeds 47 = .ok (.goto (-45), 3) := by decide +kernel
theorem dX7_hasHisNeeds_50 : decode cX7_hasHisNeeds 50 = .ok (.iconst 1, 1) := by decide +kernel
theorem dX7_hasHisNeeds_51 : decode cX7_hasHisNeeds 51 = .ok (.ireturn, 1) := by decide +kernel
theorem dX7_asks_0 : decode cX7_asks 0 = .ok (.aload_n 0, 1) := by decide +kernel
theorem dX7_asks_1 : decode cX7_asks 1 = .ok (.getfield 30, 3) := by decide +kernel
theorem dX7_asks_4 : decode cX7_asks 4 = .ok (.aload_n 1, 1) := by decide +kernel
theorem dX7_asks_5 : decode cX7_asks 5 = .ok (.iload_n 2, 1) := by decide +kernel
theorem dX7_asks_6 : decode cX7_asks 6 = .ok (.aload_n 0, 1) := by decide +kernel
theorem dX7_asks_7 : decode cX7_asks 7 = .ok (.iload_n 2, 1) := by decide +kernel
theorem dX7_asks_8 : decode cX7_asks 8 = .ok (.invokevirtual 82, 3) := by decide +kernel
theorem dX7_asks_11 : decode cX7_asks 11 = .ok (.iload_n 3, 1) := by decide +kernel
theorem dX7_asks_12 : decode cX7_asks 12 = .ok (.invokevirtual 90, 3) := by decide +kernel
theorem dX7_asks_15 : decode cX7_asks 15 = .ok (.ireturn, 1) := by decide +kernel
theorem dX7_write_0 : decode cX7_write 0 = .ok (.iload_n 2, 1) := by decide +kernel
theorem dX7_write_1 : decode cX7_write 1 = .ok (.ifCond .ne 20, 3) := by decide +kernel
theorem dX7_write_4 : decode cX7_write 4 = .ok (.aload_n 0, 1) := by decide +kernel
theorem dX7_write_5 : decode cX7_write 5 = .ok (.getfield 23, 3) := by decide +kernel
theorem dX7_write_8 : decode cX7_write 8 = .ok (.aload_n 1, 1) := by decide +kernel
theorem dX7_write_9 : decode cX7_write 9 = .ok (.getfield 94, 3) := by decide +kernel
theorem dX7_write_12 : decode cX7_write 12 = .ok (.iload_n 3, 1) := by decide +kernel
theorem dX7_write_13 : decode cX7_write 13 = .ok (.iload 4, 2) := by decide +kernel
theorem dX7_write_15 : decode cX7_write 15 = .ok (.iload 5, 2) := by decide +kernel
theorem dX7_write_17 : decode cX7_write 17 = .ok (.invokevirtual 97, 3) := by decide +kernel
theorem dX7_write_20 : decode cX7_write 20 = .ok (.pop, 1) := by decide +kernel
theorem dX7_write_21 : decode cX7_write 21 = .ok (.return_, 1) := by decide +kernel
theorem dX7_canAct_0 : decode cX7_canAct 0 = .ok (.aload_n 0, 1) := by decide +kernel
theorem dX7_canAct_1 : decode cX7_canAct 1 = .ok (.getfield 12, 3) := by decide +kernel
theorem dX7_canAct_4 : decode cX7_canAct 4 = .ok (.getfield 101, 3) := by decide +kernel
theorem dX7_canAct_7 : decode cX7_canAct 7 = .ok (.iconst (-1), 1) := by decide +kernel
theorem dX7_canAct_8 : decode cX7_canAct 8 = .ok (.if_icmp .eq 5, 3) := by decide +kernel
theorem dX7_canAct_11 : decode cX7_canAct 11 = .ok (.iconst 0, 1) := by decide +kernel
theorem dX7_canAct_12 : decode cX7_canAct 12 = .ok (.ireturn, 1) := by decide +kernel
theorem dX7_canAct_13 : decode cX7_canAct 13 = .ok (.iload_n 1, 1) := by decide +kernel
theorem dX7_canAct_14 : decode cX7_canAct 14 = .ok (.tableswitch 146 0 3 #[30, 58, 87, 117], 30) := by decide +kernel
theorem dX7_canAct_44 : decode cX7_canAct 44 = .ok (.aload_n 0, 1) := by decide +kernel
theorem dX7_canAct_45 : decode cX7_canAct 45 = .ok (.getfield 12, 3) := by decide +kernel
theorem dX7_canAct_48 : decode cX7_canAct 48 = .ok (.iload_n 2, 1) := by decide +kernel
theorem dX7_canAct_49 : decode cX7_canAct 49 = .ok (.invokevirtual 104, 3) := by decide +kernel
theorem dX7_canAct_52 : decode cX7_canAct 52 = .ok (.ifCond .eq 18, 3) := by decide +kernel
theorem dX7_canAct_55 : decode cX7_canAct 55 = .ok (.iload_n 3, 1) := by decide +kernel
theorem dX7_canAct_56 : decode cX7_canAct 56 = .ok (.iconst 1, 1) := by decide +kernel
theorem dX7_canAct_57 : decode cX7_canAct 57 = .ok (.if_icmp .lt 13, 3) := by decide +kernel
theorem dX7_canAct_60 : decode cX7_canAct 60 = .ok (.iload_n 3, 1) := by decide +kernel
theorem dX7_canAct_61 : decode cX7_canAct 61 = .ok (.bipush 99, 2) := by decide +kernel
theorem dX7_canAct_63 : decode cX7_canAct 63 = .ok (.if_icmp .gt 7, 3) := by decide +kernel
theorem dX7_canAct_66 : decode cX7_canAct 66 = .ok (.iconst 1, 1) := by decide +kernel
theorem dX7_canAct_67 : decode cX7_canAct 67 = .ok (.goto 4, 3) := by decide +kernel
theorem dX7_canAct_70 : decode cX7_canAct 70 = .ok (.iconst 0, 1) := by decide +kernel
theorem dX7_canAct_71 : decode cX7_canAct 71 = .ok (.ireturn, 1) := by decide +kernel
theorem dX7_canAct_72 : decode cX7_canAct 72 = .ok (.aload_n 0, 1) := by decide +kernel
theorem dX7_canAct_73 : decode cX7_canAct 73 = .ok (.getfield 12, 3) := by decide +kernel
theorem dX7_canAct_76 : decode cX7_canAct 76 = .ok (.iload_n 2, 1) := by decide +kernel
theorem dX7_canAct_77 : decode cX7_canAct 77 = .ok (.invokevirtual 104, 3) := by decide +kernel
theorem dX7_canAct_80 : decode cX7_canAct 80 = .ok (.ifCond .eq 19, 3) := by decide +kernel
theorem dX7_canAct_83 : decode cX7_canAct 83 = .ok (.aload_n 0, 1) := by decide +kernel
theorem dX7_canAct_84 : decode cX7_canAct 84 = .ok (.getfield 12, 3) := by decide +kernel
theorem dX7_canAct_87 : decode cX7_canAct 87 = .ok (.getfield 107, 3) := by decide +kernel
theorem dX7_canAct_90 : decode cX7_canAct 90 = .ok (.iload_n 2, 1) := by decide +kernel
theorem dX7_canAct_91 : decode cX7_canAct 91 = .ok (.iaload, 1) := by decide +kernel
theorem dX7_canAct_92 : decode cX7_canAct 92 = .ok (.ifCond .ne 7, 3) := by decide +kernel
theorem dX7_canAct_95 : decode cX7_canAct 95 = .ok (.iconst 1, 1) := by decide +kernel
theorem dX7_canAct_96 : decode cX7_canAct 96 = .ok (.goto 4, 3) := by decide +kernel
theorem dX7_canAct_99 : decode cX7_canAct 99 = .ok (.iconst 0, 1) := by decide +kernel
theorem dX7_canAct_100 : decode cX7_canAct 100 = .ok (.ireturn, 1) := by decide +kernel
theorem dX7_canAct_101 : decode cX7_canAct 101 = .ok (.aload_n 0, 1) := by decide +kernel
theorem dX7_canAct_102 : decode cX7_canAct 102 = .ok (.getfield 12, 3) := by decide +kernel
theorem dX7_canAct_105 : decode cX7_canAct 105 = .ok (.iload_n 2, 1) := by decide +kernel
theorem dX7_canAct_106 : decode cX7_canAct 106 = .ok (.invokevirtual 104, 3) := by decide +kernel
theorem dX7_canAct_109 : decode cX7_canAct 109 = .ok (.ifCond .eq 20, 3) := by decide +kernel
theorem dX7_canAct_112 : decode cX7_canAct 112 = .ok (.aload_n 0, 1) := by decide +kernel
theorem dX7_canAct_113 : decode cX7_canAct 113 = .ok (.getfield 12, 3) := by decide +kernel
theorem dX7_canAct_116 : decode cX7_canAct 116 = .ok (.getfield 107, 3) := by decide +kernel
theorem dX7_canAct_119 : decode cX7_canAct 119 = .ok (.iload_n 2, 1) := by decide +kernel
theorem dX7_canAct_120 : decode cX7_canAct 120 = .ok (.iaload, 1) := by decide +kernel
theorem dX7_canAct_121 : decode cX7_canAct 121 = .ok (.iconst 1, 1) := by decide +kernel
theorem dX7_canAct_122 : decode cX7_canAct 122 = .ok (.if_icmp .ne 7, 3) := by decide +kernel
theorem dX7_canAct_125 : decode cX7_canAct 125 = .ok (.iconst 1, 1) := by decide +kernel
theorem dX7_canAct_126 : decode cX7_canAct 126 = .ok (.goto 4, 3) := by decide +kernel
theorem dX7_canAct_129 : decode cX7_canAct 129 = .ok (.iconst 0, 1) := by decide +kernel
theorem dX7_canAct_130 : decode cX7_canAct 130 = .ok (.ireturn, 1) := by decide +kernel
theorem dX7_canAct_131 : decode cX7_canAct 131 = .ok (.aload_n 0, 1) := by decide +kernel
theorem dX7_canAct_132 : decode cX7_canAct 132 = .ok (.getfield 12, 3) := by decide +kernel
theorem dX7_canAct_135 : decode cX7_canAct 135 = .ok (.iload_n 2, 1) := by decide +kernel
theorem dX7_canAct_136 : decode cX7_canAct 136 = .ok (.invokevirtual 111, 3) := by decide +kernel
theorem dX7_canAct_139 : decode cX7_canAct 139 = .ok (.ifCond .eq 19, 3) := by decide +kernel
theorem dX7_canAct_142 : decode cX7_canAct 142 = .ok (.aload_n 0, 1) := by decide +kernel
theorem dX7_canAct_143 : decode cX7_canAct 143 = .ok (.getfield 12, 3) := by decide +kernel
theorem dX7_canAct_146 : decode cX7_canAct 146 = .ok (.getfield 114, 3) := by decide +kernel
theorem dX7_canAct_149 : decode cX7_canAct 149 = .ok (.iload_n 2, 1) := by decide +kernel
theorem dX7_canAct_150 : decode cX7_canAct 150 = .ok (.iaload, 1) := by decide +kernel
theorem dX7_canAct_151 : decode cX7_canAct 151 = .ok (.ifCond .le 7, 3) := by decide +kernel
theorem dX7_canAct_154 : decode cX7_canAct 154 = .ok (.iconst 1, 1) := by decide +kernel
theorem dX7_canAct_155 : decode cX7_canAct 155 = .ok (.goto 4, 3) := by decide +kernel
theorem dX7_canAct_158 : decode cX7_canAct 158 = .ok (.iconst 0, 1) := by decide +kernel
theorem dX7_canAct_159 : decode cX7_canAct 159 = .ok (.ireturn, 1) := by decide +kernel
theorem dX7_canAct_160 : decode cX7_canAct 160 = .ok (.iconst 0, 1) := by decide +kernel
theorem dX7_canAct_161 : decode cX7_canAct 161 = .ok (.ireturn, 1) := by decide +kernel
theorem dX7_perform_0 : decode cX7_perform 0 = .ok (.iload_n 1, 1) := by decide +kernel
theorem dX7_perform_1 : decode cX7_perform 1 = .ok (.ifCond .ne 8, 3) := by decide +kernel
theorem dX7_perform_4 : decode cX7_perform 4 = .ok (.bipush 18, 2) := by decide +kernel
theorem dX7_perform_6 : decode cX7_perform 6 = .ok (.goto 25, 3) := by decide +kernel
theorem dX7_perform_9 : decode cX7_perform 9 = .ok (.iload_n 1, 1) := by decide +kernel
theorem dX7_perform_10 : decode cX7_perform 10 = .ok (.iconst 1, 1) := by decide +kernel
theorem dX7_perform_11 : decode cX7_perform 11 = .ok (.if_icmp .ne 8, 3) := by decide +kernel
theorem dX7_perform_14 : decode cX7_perform 14 = .ok (.bipush 10, 2) := by decide +kernel
theorem dX7_perform_16 : decode cX7_perform 16 = .ok (.goto 15, 3) := by decide +kernel
theorem dX7_perform_19 : decode cX7_perform 19 = .ok (.iload_n 1, 1) := by decide +kernel
theorem dX7_perform_20 : decode cX7_perform 20 = .ok (.iconst 2, 1) := by decide +kernel
theorem dX7_perform_21 : decode cX7_perform 21 = .ok (.if_icmp .ne 8, 3) := by decide +kernel
theorem dX7_perform_24 : decode cX7_perform 24 = .ok (.bipush 19, 2) := by decide +kernel
theorem dX7_perform_26 : decode cX7_perform 26 = .ok (.goto 5, 3) := by decide +kernel
theorem dX7_perform_29 : decode cX7_perform 29 = .ok (.bipush 20, 2) := by decide +kernel
theorem dX7_perform_31 : decode cX7_perform 31 = .ok (.istore 4, 2) := by decide +kernel
theorem dX7_perform_33 : decode cX7_perform 33 = .ok (.aload_n 0, 1) := by decide +kernel
theorem dX7_perform_34 : decode cX7_perform 34 = .ok (.aload_n 0, 1) := by decide +kernel
theorem dX7_perform_35 : decode cX7_perform 35 = .ok (.getfield 12, 3) := by decide +kernel
theorem dX7_perform_38 : decode cX7_perform 38 = .ok (.iconst 0, 1) := by decide +kernel
theorem dX7_perform_39 : decode cX7_perform 39 = .ok (.iload 4, 2) := by decide +kernel
theorem dX7_perform_41 : decode cX7_perform 41 = .ok (.iload_n 2, 1) := by decide +kernel
theorem dX7_perform_42 : decode cX7_perform 42 = .ok (.iload_n 3, 1) := by decide +kernel
theorem dX7_perform_43 : decode cX7_perform 43 = .ok (.invokevirtual 117, 3) := by decide +kernel
theorem dX7_perform_46 : decode cX7_perform 46 = .ok (.return_, 1) := by decide +kernel
theorem dX7_obey_0 : decode cX7_obey 0 = .ok (.iload_n 3, 1) := by decide +kernel
theorem dX7_obey_1 : decode cX7_obey 1 = .ok (.bipush 20, 2) := by decide +kernel
theorem dX7_obey_3 : decode cX7_obey 3 = .ok (.if_icmp .ne 23, 3) := by decide +kernel
theorem dX7_obey_6 : decode cX7_obey 6 = .ok (.aload_n 1, 1) := by decide +kernel
theorem dX7_obey_7 : decode cX7_obey 7 = .ok (.iload 4, 2) := by decide +kernel
theorem dX7_obey_9 : decode cX7_obey 9 = .ok (.invokevirtual 111, 3) := by decide +kernel
theorem dX7_obey_12 : decode cX7_obey 12 = .ok (.ifCond .eq 72, 3) := by decide +kernel
theorem dX7_obey_15 : decode cX7_obey 15 = .ok (.aload_n 1, 1) := by decide +kernel
theorem dX7_obey_16 : decode cX7_obey 16 = .ok (.getfield 114, 3) := by decide +kernel
theorem dX7_obey_19 : decode cX7_obey 19 = .ok (.iload 4, 2) := by decide +kernel
theorem dX7_obey_21 : decode cX7_obey 21 = .ok (.iconst 0, 1) := by decide +kernel
theorem dX7_obey_22 : decode cX7_obey 22 = .ok (.iastore, 1) := by decide +kernel
theorem dX7_obey_23 : decode cX7_obey 23 = .ok (.goto 61, 3) := by decide +kernel
theorem dX7_obey_26 : decode cX7_obey 26 = .ok (.aload_n 1, 1) := by decide +kernel
theorem dX7_obey_27 : decode cX7_obey 27 = .ok (.iload 4, 2) := by decide +kernel
theorem dX7_obey_29 : decode cX7_obey 29 = .ok (.invokevirtual 104, 3) := by decide +kernel
theorem dX7_obey_32 : decode cX7_obey 32 = .ok (.ifCond .eq 52, 3) := by decide +kernel
theorem dX7_obey_35 : decode cX7_obey 35 = .ok (.iload_n 3, 1) := by decide +kernel
theorem dX7_obey_36 : decode cX7_obey 36 = .ok (.bipush 18, 2) := by decide +kernel
theorem dX7_obey_38 : decode cX7_obey 38 = .ok (.if_icmp .ne 16, 3) := by decide +kernel
theorem dX7_obey_41 : decode cX7_obey 41 = .ok (.aload_n 0, 1) := by decide +kernel
theorem dX7_obey_42 : decode cX7_obey 42 = .ok (.aload_n 1, 1) := by decide +kernel
theorem dX7_obey_43 : decode cX7_obey 43 = .ok (.iload_n 2, 1) := by decide +kernel
theorem dX7_obey_44 : decode cX7_obey 44 = .ok (.iload 4, 2) := by decide +kernel
theorem dX7_obey_46 : decode cX7_obey 46 = .ok (.iload 5, 2) := by decide +kernel
theorem dX7_obey_48 : decode cX7_obey 48 = .ok (.invokevirtual 121, 3) := by decide +kernel
theorem dX7_obey_51 : decode cX7_obey 51 = .ok (.goto 33, 3) := by decide +kernel
theorem dX7_obey_54 : decode cX7_obey 54 = .ok (.iload_n 3, 1) := by decide +kernel
theorem dX7_obey_55 : decode cX7_obey 55 = .ok (.bipush 10, 2) := by decide +kernel
theorem dX7_obey_57 : decode cX7_obey 57 = .ok (.if_icmp .eq 9, 3) := by decide +kernel
theorem dX7_obey_60 : decode cX7_obey 60 = .ok (.iload_n 3, 1) := by decide +kernel
theorem dX7_obey_61 : decode cX7_obey 61 = .ok (.bipush 19, 2) := by decide +kernel
theorem dX7_obey_63 : decode cX7_obey 63 = .ok (.if_icmp .ne 21, 3) := by decide +kernel
theorem dX7_obey_66 : decode cX7_obey 66 = .ok (.aload_n 1, 1) := by decide +kernel
theorem dX7_obey_67 : decode cX7_obey 67 = .ok (.getfield 107, 3) := by decide +kernel
theorem dX7_obey_70 : decode cX7_obey 70 = .ok (.iload 4, 2) := by decide +kernel
theorem dX7_obey_72 : decode cX7_obey 72 = .ok (.iload_n 3, 1) := by decide +kernel
theorem dX7_obey_73 : decode cX7_obey 73 = .ok (.bipush 10, 2) := by decide +kernel
theorem dX7_obey_75 : decode cX7_obey 75 = .ok (.if_icmp .ne 7, 3) := by decide +kernel
theorem dX7_obey_78 : decode cX7_obey 78 = .ok (.iconst 1, 1) := by decide +kernel
theorem dX7_obey_79 : decode cX7_obey 79 = .ok (.goto 4, 3) := by decide +kernel
theorem dX7_obey_82 : decode cX7_obey 82 = .ok (.iconst 0, 1) := by decide +kernel
theorem dX7_obey_83 : decode cX7_obey 83 = .ok (.iastore, 1) := by decide +kernel
theorem dX7_obey_84 : decode cX7_obey 84 = .ok (.return_, 1) := by decide +kernel
theorem dX7_march_0 : decode cX7_march 0 = .ok (.aload_n 1, 1) := by decide +kernel
theorem dX7_march_1 : decode cX7_march 1 = .ok (.iload_n 3, 1) := by decide +kernel
theorem dX7_march_2 : decode cX7_march 2 = .ok (.invokevirtual 104, 3) := by decide +kernel
theorem dX7_march_5 : decode cX7_march 5 = .ok (.ifCond .ne 4, 3) := by decide +kernel
theorem dX7_march_8 : decode cX7_march 8 = .ok (.return_, 1) := by decide +kernel
theorem dX7_march_9 : decode cX7_march 9 = .ok (.aload_n 1, 1) := by decide +kernel
theorem dX7_march_10 : decode cX7_march 10 = .ok (.iload_n 3, 1) := by decide +kernel
theorem dX7_march_11 : decode cX7_march 11 = .ok (.invokevirtual 125, 3) := by decide +kernel
theorem dX7_march_14 : decode cX7_march 14 = .ok (.ifCond .eq 34, 3) := by decide +kernel
theorem dX7_march_17 : decode cX7_march 17 = .ok (.aload_n 0, 1) := by decide +kernel
theorem dX7_march_18 : decode cX7_march 18 = .ok (.aload_n 1, 1) := by decide +kernel
theorem dX7_march_19 : decode cX7_march 19 = .ok (.iload_n 2, 1) := by decide +kernel
theorem dX7_march_20 : decode cX7_march 20 = .ok (.iconst 1, 1) := by decide +kernel
theorem dX7_march_21 : decode cX7_march 21 = .ok (.iload_n 3, 1) := by decide +kernel
theorem dX7_march_22 : decode cX7_march 22 = .ok (.aload_n 1, 1) := by decide +kernel
theorem dX7_march_23 : decode cX7_march 23 = .ok (.getfield 128, 3) := by decide +kernel
theorem dX7_march_26 : decode cX7_march 26 = .ok (.iload_n 3, 1) := by decide +kernel
theorem dX7_march_27 : decode cX7_march 27 = .ok (.iaload, 1) := by decide +kernel
theorem dX7_march_28 : decode cX7_march 28 = .ok (.invokevirtual 131, 3) := by decide +kernel
theorem dX7_march_31 : decode cX7_march 31 = .ok (.aload_n 1, 1) := by decide +kernel
theorem dX7_march_32 : decode cX7_march 32 = .ok (.getfield 128, 3) := by decide +kernel
theorem dX7_march_35 : decode cX7_march 35 = .ok (.iload_n 3, 1) := by decide +kernel
theorem dX7_march_36 : decode cX7_march 36 = .ok (.iconst 0, 1) := by decide +kernel
theorem dX7_march_37 : decode cX7_march 37 = .ok (.iastore, 1) := by decide +kernel
theorem dX7_march_38 : decode cX7_march 38 = .ok (.aload_n 1, 1) := by decide +kernel
theorem dX7_march_39 : decode cX7_march 39 = .ok (.getfield 134, 3) := by decide +kernel
theorem dX7_march_42 : decode cX7_march 42 = .ok (.iload_n 3, 1) := by decide +kernel
theorem dX7_march_43 : decode cX7_march 43 = .ok (.iconst 0, 1) := by decide +kernel
theorem dX7_march_44 : decode cX7_march 44 = .ok (.iastore, 1) := by decide +kernel
theorem dX7_march_45 : decode cX7_march 45 = .ok (.goto 63, 3) := by decide +kernel
theorem dX7_march_48 : decode cX7_march 48 = .ok (.aload_n 0, 1) := by decide +kernel
theorem dX7_march_49 : decode cX7_march 49 = .ok (.aload_n 1, 1) := by decide +kernel
theorem dX7_march_50 : decode cX7_march 50 = .ok (.iload_n 3, 1) := by decide +kernel
theorem dX7_march_51 : decode cX7_march 51 = .ok (.invokevirtual 137, 3) := by decide +kernel
theorem dX7_march_54 : decode cX7_march 54 = .ok (.ifCond .ne 20, 3) := by decide +kernel
theorem dX7_march_57 : decode cX7_march 57 = .ok (.aload_n 0, 1) := by decide +kernel
theorem dX7_march_58 : decode cX7_march 58 = .ok (.aload_n 1, 1) := by decide +kernel
theorem dX7_march_59 : decode cX7_march 59 = .ok (.iload_n 2, 1) := by decide +kernel
theorem dX7_march_60 : decode cX7_march 60 = .ok (.iconst 2, 1) := by decide +kernel
theorem dX7_march_61 : decode cX7_march 61 = .ok (.iload_n 3, 1) := by decide +kernel
theorem dX7_march_62 : decode cX7_march 62 = .ok (.aload_n 1, 1) := by decide +kernel
theorem dX7_march_63 : decode cX7_march 63 = .ok (.getfield 128, 3) := by decide +kernel
theorem dX7_march_66 : decode cX7_march 66 = .ok (.iload_n 3, 1) := by decide +kernel
theorem dX7_march_67 : decode cX7_march 67 = .ok (.iaload, 1) := by decide +kernel
theorem dX7_march_68 : decode cX7_march 68 = .ok (.invokevirtual 131, 3) := by decide +kernel
theorem dX7_march_71 : decode cX7_march 71 = .ok (.goto 37, 3) := by decide +kernel
theorem dX7_march_74 : decode cX7_march 74 = .ok (.aload_n 1, 1) := by decide +kernel
theorem dX7_march_75 : decode cX7_march 75 = .ok (.getfield 128, 3) := by decide +kernel
theorem dX7_march_78 : decode cX7_march 78 = .ok (.iload_n 3, 1) := by decide +kernel
theorem dX7_march_79 : decode cX7_march 79 = .ok (.bipush 99, 2) := by decide +kernel
theorem dX7_march_81 : decode cX7_march 81 = .ok (.aload_n 1, 1) := by decide +kernel
theorem dX7_march_82 : decode cX7_march 82 = .ok (.getfield 128, 3) := by decide +kernel
theorem dX7_march_85 : decode cX7_march 85 = .ok (.iload_n 3, 1) := by decide +kernel
theorem dX7_march_86 : decode cX7_march 86 = .ok (.iaload, 1) := by decide +kernel
theorem dX7_march_87 : decode cX7_march 87 = .ok (.iload 4, 2) := by decide +kernel
theorem dX7_march_89 : decode cX7_march 89 = .ok (.iadd, 1) := by decide +kernel
theorem dX7_march_90 : decode cX7_march 90 = .ok (.invokestatic 141, 3) := by decide +kernel
theorem dX7_march_93 : decode cX7_march 93 = .ok (.iastore, 1) := by decide +kernel
theorem dX7_march_94 : decode cX7_march 94 = .ok (.aload_n 0, 1) := by decide +kernel
theorem dX7_march_95 : decode cX7_march 95 = .ok (.aload_n 1, 1) := by decide +kernel
theorem dX7_march_96 : decode cX7_march 96 = .ok (.iload_n 2, 1) := by decide +kernel
theorem dX7_march_97 : decode cX7_march 97 = .ok (.iconst 0, 1) := by decide +kernel
theorem dX7_march_98 : decode cX7_march 98 = .ok (.iload_n 3, 1) := by decide +kernel
theorem dX7_march_99 : decode cX7_march 99 = .ok (.aload_n 1, 1) := by decide +kernel
theorem dX7_march_100 : decode cX7_march 100 = .ok (.getfield 128, 3) := by decide +kernel
theorem dX7_march_103 : decode cX7_march 103 = .ok (.iload_n 3, 1) := by decide +kernel
theorem dX7_march_104 : decode cX7_march 104 = .ok (.iaload, 1) := by decide +kernel
theorem dX7_march_105 : decode cX7_march 105 = .ok (.invokevirtual 131, 3) := by decide +kernel
theorem dX7_march_108 : decode cX7_march 108 = .ok (.return_, 1) := by decide +kernel
theorem dX7_passDay_0 : decode cX7_passDay 0 = .ok (.iconst 0, 1) := by decide +kernel
theorem dX7_passDay_1 : decode cX7_passDay 1 = .ok (.istore_n 3, 1) := by decide +kernel
theorem dX7_passDay_2 : decode cX7_passDay 2 = .ok (.aload_n 1, 1) := by decide +kernel
theorem dX7_passDay_3 : decode cX7_passDay 3 = .ok (.getfield 101, 3) := by decide +kernel
theorem dX7_passDay_6 : decode cX7_passDay 6 = .ok (.iconst (-1), 1) := by decide +kernel
theorem dX7_passDay_7 : decode cX7_passDay 7 = .ok (.if_icmp .ne 87, 3) := by decide +kernel
theorem dX7_passDay_10 : decode cX7_passDay 10 = .ok (.aload_n 0, 1) := by decide +kernel
theorem dX7_passDay_11 : decode cX7_passDay 11 = .ok (.aload_n 1, 1) := by decide +kernel
theorem dX7_passDay_12 : decode cX7_passDay 12 = .ok (.iload_n 2, 1) := by decide +kernel
theorem dX7_passDay_13 : decode cX7_passDay 13 = .ok (.invokevirtual 146, 3) := by decide +kernel
theorem dX7_passDay_16 : decode cX7_passDay 16 = .ok (.istore 4, 2) := by decide +kernel
theorem dX7_passDay_18 : decode cX7_passDay 18 = .ok (.iconst 0, 1) := by decide +kernel
theorem dX7_passDay_19 : decode cX7_passDay 19 = .ok (.istore 5, 2) := by decide +kernel
theorem dX7_passDay_21 : decode cX7_passDay 21 = .ok (.iload 5, 2) := by decide +kernel
theorem dX7_passDay_23 : decode cX7_passDay 23 = .ok (.aload_n 1, 1) := by decide +kernel
theorem dX7_passDay_24 : decode cX7_passDay 24 = .ok (.getfield 79, 3) := by decide +kernel
theorem dX7_passDay_27 : decode cX7_passDay 27 = .ok (.if_icmp .ge 33, 3) := by decide +kernel
theorem dX7_passDay_30 : decode cX7_passDay 30 = .ok (.iload 4, 2) := by decide +kernel
theorem dX7_passDay_32 : decode cX7_passDay 32 = .ok (.ifCond .ne 28, 3) := by decide +kernel
theorem dX7_passDay_35 : decode cX7_passDay 35 = .ok (.aload_n 1, 1) := by decide +kernel
theorem dX7_passDay_36 : decode cX7_passDay 36 = .ok (.getfield 101, 3) := by decide +kernel
theorem dX7_passDay_39 : decode cX7_passDay 39 = .ok (.iconst (-1), 1) := by decide +kernel
theorem dX7_passDay_40 : decode cX7_passDay 40 = .ok (.if_icmp .ne 20, 3) := by decide +kernel
theorem dX7_passDay_43 : decode cX7_passDay 43 = .ok (.iload_n 3, 1) := by decide +kernel
theorem dX7_passDay_44 : decode cX7_passDay 44 = .ok (.aload_n 0, 1) := by decide +kernel
theorem dX7_passDay_45 : decode cX7_passDay 45 = .ok (.aload_n 1, 1) := by decide +kernel
theorem dX7_passDay_46 : decode cX7_passDay 46 = .ok (.iload_n 2, 1) := by decide +kernel
theorem dX7_passDay_47 : decode cX7_passDay 47 = .ok (.iload 5, 2) := by decide +kernel
theorem dX7_passDay_49 : decode cX7_passDay 49 = .ok (.invokevirtual 150, 3) := by decide +kernel
theorem dX7_passDay_52 : decode cX7_passDay 52 = .ok (.iadd, 1) := by decide +kernel
theorem dX7_passDay_53 : decode cX7_passDay 53 = .ok (.istore_n 3, 1) := by decide +kernel
theorem dX7_passDay_54 : decode cX7_passDay 54 = .ok (.iinc 5 1, 3) := by decide +kernel
theorem dX7_passDay_57 : decode cX7_passDay 57 = .ok (.goto (-36), 3) := by decide +kernel
theorem dX7_passDay_60 : decode cX7_passDay 60 = .ok (.iconst 0, 1) := by decide +kernel
theorem dX7_passDay_61 : decode cX7_passDay 61 = .ok (.istore 5, 2) := by decide +kernel
theorem dX7_passDay_63 : decode cX7_passDay 63 = .ok (.iload 5, 2) := by decide +kernel
theorem dX7_passDay_65 : decode cX7_passDay 65 = .ok (.aload_n 1, 1) := by decide +kernel
theorem dX7_passDay_66 : decode cX7_passDay 66 = .ok (.getfield 79, 3) := by decide +kernel
theorem dX7_passDay_69 : decode cX7_passDay 69 = .ok (.if_icmp .ge 25, 3) := by decide +kernel
theorem dX7_passDay_72 : decode cX7_passDay 72 = .ok (.aload_n 1, 1) := by decide +kernel
theorem dX7_passDay_73 : decode cX7_passDay 73 = .ok (.getfield 101, 3) := by decide +kernel
theorem dX7_passDay_76 : decode cX7_passDay 76 = .ok (.iconst (-1), 1) := by decide +kernel
theorem dX7_passDay_77 : decode cX7_passDay 77 = .ok (.if_icmp .ne 17, 3) := by decide +kernel
theorem dX7_passDay_80 : decode cX7_passDay 80 = .ok (.aload_n 0, 1) := by decide +kernel
theorem dX7_passDay_81 : decode cX7_passDay 81 = .ok (.aload_n 1, 1) := by decide +kernel
theorem dX7_passDay_82 : decode cX7_passDay 82 = .ok (.iload_n 2, 1) := by decide +kernel
theorem dX7_passDay_83 : decode cX7_passDay 83 = .ok (.iload 5, 2) := by decide +kernel
theorem dX7_passDay_85 : decode cX7_passDay 85 = .ok (.invokevirtual 154, 3) := by decide +kernel
theorem dX7_passDay_88 : decode cX7_passDay 88 = .ok (.iinc 5 1, 3) := by decide +kernel
theorem dX7_passDay_91 : decode cX7_passDay 91 = .ok (.goto (-28), 3) := by decide +kernel
theorem dX7_passDay_94 : decode cX7_passDay 94 = .ok (.aload_n 1, 1) := by decide +kernel
theorem dX7_passDay_95 : decode cX7_passDay 95 = .ok (.dup, 1) := by decide +kernel
theorem dX7_passDay_96 : decode cX7_passDay 96 = .ok (.getfield 94, 3) := by decide +kernel
theorem dX7_passDay_99 : decode cX7_passDay 99 = .ok (.iconst 1, 1) := by decide +kernel
theorem dX7_passDay_100 : decode cX7_passDay 100 = .ok (.iadd, 1) := by decide +kernel
theorem dX7_passDay_101 : decode cX7_passDay 101 = .ok (.putfield 94, 3) := by decide +kernel
theorem dX7_passDay_104 : decode cX7_passDay 104 = .ok (.iload_n 3, 1) := by decide +kernel
theorem dX7_passDay_105 : decode cX7_passDay 105 = .ok (.ireturn, 1) := by decide +kernel
theorem dX7_follow_0 : decode cX7_follow 0 = .ok (.iconst 0, 1) := by decide +kernel
theorem dX7_follow_1 : decode cX7_follow 1 = .ok (.istore_n 3, 1) := by decide +kernel
theorem dX7_follow_2 : decode cX7_follow 2 = .ok (.iconst 0, 1) := by decide +kernel
theorem dX7_follow_3 : decode cX7_follow 3 = .ok (.istore 4, 2) := by decide +kernel
theorem dX7_follow_5 : decode cX7_follow 5 = .ok (.iload 4, 2) := by decide +kernel
theorem dX7_follow_7 : decode cX7_follow 7 = .ok (.aload_n 0, 1) := by decide +kernel
theorem dX7_follow_8 : decode cX7_follow 8 = .ok (.getfield 34, 3) := by decide +kernel
theorem dX7_follow_11 : decode cX7_follow 11 = .ok (.getfield 71, 3) := by decide +kernel
theorem dX7_follow_14 : decode cX7_follow 14 = .ok (.if_icmp .ge 83, 3) := by decide +kernel
theorem dX7_follow_17 : decode cX7_follow 17 = .ok (.aload_n 0, 1) := by decide +kernel
theorem dX7_follow_18 : decode cX7_follow 18 = .ok (.getfield 34, 3) := by decide +kernel
theorem dX7_follow_21 : decode cX7_follow 21 = .ok (.iload 4, 2) := by decide +kernel
theorem dX7_follow_23 : decode cX7_follow 23 = .ok (.iconst 0, 1) := by decide +kernel
theorem dX7_follow_24 : decode cX7_follow 24 = .ok (.invokevirtual 75, 3) := by decide +kernel
theorem dX7_follow_27 : decode cX7_follow 27 = .ok (.aload_n 1, 1) := by decide +kernel
theorem dX7_follow_28 : decode cX7_follow 28 = .ok (.getfield 94, 3) := by decide +kernel
theorem dX7_follow_31 : decode cX7_follow 31 = .ok (.if_icmp .ne 60, 3) := by decide +kernel
theorem dX7_follow_34 : decode cX7_follow 34 = .ok (.aload_n 0, 1) := by decide +kernel
theorem dX7_follow_35 : decode cX7_follow 35 = .ok (.getfield 34, 3) := by decide +kernel
theorem dX7_follow_38 : decode cX7_follow 38 = .ok (.iload 4, 2) := by decide +kernel
theorem dX7_follow_40 : decode cX7_follow 40 = .ok (.iconst 1, 1) := by decide +kernel
theorem dX7_follow_41 : decode cX7_follow 41 = .ok (.invokevirtual 75, 3) := by decide +kernel
theorem dX7_follow_44 : decode cX7_follow 44 = .ok (.istore 5, 2) := by decide +kernel
theorem dX7_follow_46 : decode cX7_follow 46 = .ok (.iload_n 3, 1) := by decide +kernel
theorem dX7_follow_47 : decode cX7_follow 47 = .ok (.ifCond .ne 10, 3) := by decide +kernel
theorem dX7_follow_50 : decode cX7_follow 50 = .ok (.iload 5, 2) := by decide +kernel
theorem dX7_follow_52 : decode cX7_follow 52 = .ok (.bipush 21, 2) := by decide +kernel
theorem dX7_follow_54 : decode cX7_follow 54 = .ok (.if_icmp .ne 7, 3) := by decide +kernel
theorem dX7_follow_57 : decode cX7_follow 57 = .ok (.iconst 1, 1) := by decide +kernel
theorem dX7_follow_58 : decode cX7_follow 58 = .ok (.goto 4, 3) := by decide +kernel
theorem dX7_follow_61 : decode cX7_follow 61 = .ok (.iconst 0, 1) := by decide +kernel
theorem dX7_follow_62 : decode cX7_follow 62 = .ok (.istore_n 3, 1) := by decide +kernel
theorem dX7_follow_63 : decode cX7_follow 63 = .ok (.aload_n 0, 1) := by decide +kernel
theorem dX7_follow_64 : decode cX7_follow 64 = .ok (.aload_n 1, 1) := by decide +kernel
theorem dX7_follow_65 : decode cX7_follow 65 = .ok (.iload_n 2, 1) := by decide +kernel
theorem dX7_follow_66 : decode cX7_follow 66 = .ok (.iload 5, 2) := by decide +kernel
theorem dX7_follow_68 : decode cX7_follow 68 = .ok (.aload_n 0, 1) := by decide +kernel
theorem dX7_follow_69 : decode cX7_follow 69 = .ok (.getfield 34, 3) := by decide +kernel
theorem dX7_follow_72 : decode cX7_follow 72 = .ok (.iload 4, 2) := by decide +kernel
theorem dX7_follow_74 : decode cX7_follow 74 = .ok (.iconst 2, 1) := by decide +kernel
theorem dX7_follow_75 : decode cX7_follow 75 = .ok (.invokevirtual 75, 3) := by decide +kernel
theorem dX7_follow_78 : decode cX7_follow 78 = .ok (.aload_n 0, 1) := by decide +kernel
theorem dX7_follow_79 : decode cX7_follow 79 = .ok (.getfield 34, 3) := by decide +kernel
theorem dX7_follow_82 : decode cX7_follow 82 = .ok (.iload 4, 2) := by decide +kernel
theorem dX7_follow_84 : decode cX7_follow 84 = .ok (.iconst 3, 1) := by decide +kernel
theorem dX7_follow_85 : decode cX7_follow 85 = .ok (.invokevirtual 75, 3) := by decide +kernel
theorem dX7_follow_88 : decode cX7_follow 88 = .ok (.invokevirtual 117, 3) := by decide +kernel
theorem dX7_follow_91 : decode cX7_follow 91 = .ok (.iinc 4 1, 3) := by decide +kernel
theorem dX7_follow_94 : decode cX7_follow 94 = .ok (.goto (-89), 3) := by decide +kernel
theorem dX7_follow_97 : decode cX7_follow 97 = .ok (.iload_n 3, 1) := by decide +kernel
theorem dX7_follow_98 : decode cX7_follow 98 = .ok (.ireturn, 1) := by decide +kernel
theorem dX7_press_0 : decode cX7_press 0 = .ok (.aload_n 1, 1) := by decide +kernel
theorem dX7_press_1 : decode cX7_press 1 = .ok (.iload_n 3, 1) := by decide +kernel
theorem dX7_press_2 : decode cX7_press 2 = .ok (.invokevirtual 104, 3) := by decide +kernel
theorem dX7_press_5 : decode cX7_press 5 = .ok (.ifCond .ne 5, 3) := by decide +kernel
theorem dX7_press_8 : decode cX7_press 8 = .ok (.iconst 0, 1) := by decide +kernel
theorem dX7_press_9 : decode cX7_press 9 = .ok (.ireturn, 1) := by decide +kernel
theorem dX7_press_10 : decode cX7_press 10 = .ok (.aload_n 0, 1) := by decide +kernel
theorem dX7_press_11 : decode cX7_press 11 = .ok (.aload_n 1, 1) := by decide +kernel
theorem dX7_press_12 : decode cX7_press 12 = .ok (.iload_n 3, 1) := by decide +kernel
theorem dX7_press_13 : decode cX7_press 13 = .ok (.iconst 0, 1) := by decide +kernel
theorem dX7_press_14 : decode cX7_press 14 = .ok (.invokevirtual 158, 3) := by decide +kernel
theorem dX7_press_17 : decode cX7_press 17 = .ok (.istore 4, 2) := by decide +kernel
theorem dX7_press_19 : decode cX7_press 19 = .ok (.aload_n 1, 1) := by decide +kernel
theorem dX7_press_20 : decode cX7_press 20 = .ok (.getfield 162, 3) := by decide +kernel
theorem dX7_press_23 : decode cX7_press 23 = .ok (.iload_n 3, 1) := by decide +kernel
theorem dX7_press_24 : decode cX7_press 24 = .ok (.iaload, 1) := by decide +kernel
theorem dX7_press_25 : decode cX7_press 25 = .ok (.bipush 50, 2) := by decide +kernel
theorem dX7_press_27 : decode cX7_press 27 = .ok (.if_icmp .ge 24, 3) := by decide +kernel
theorem dX7_press_30 : decode cX7_press 30 = .ok (.iconst 0, 1) := by decide +kernel
theorem dX7_press_31 : decode cX7_press 31 = .ok (.iload 4, 2) := by decide +kernel
theorem dX7_press_33 : decode cX7_press 33 = .ok (.bipush 50, 2) := by decide +kernel
theorem dX7_press_35 : decode cX7_press 35 = .ok (.aload_n 1, 1) := by decide +kernel
theorem dX7_press_36 : decode cX7_press 36 = .ok (.getfield 162, 3) := by decide +kernel
theorem dX7_press_39 : decode cX7_press 39 = .ok (.iload_n 3, 1) := by decide +kernel
theorem dX7_press_40 : decode cX7_press 40 = .ok (.iaload, 1) := by decide +kernel
theorem dX7_press_41 : decode cX7_press 41 = .ok (.isub, 1) := by decide +kernel
theorem dX7_press_42 : decode cX7_press 42 = .ok (.bipush 10, 2) := by decide +kernel
theorem dX7_press_44 : decode cX7_press 44 = .ok (.idiv, 1) := by decide +kernel
theorem dX7_press_45 : decode cX7_press 45 = .ok (.isub, 1) := by decide +kernel
theorem dX7_press_46 : decode cX7_press 46 = .ok (.invokestatic 165, 3) := by decide +kernel
theorem dX7_press_49 : decode cX7_press 49 = .ok (.istore 4, 2) := by decide +kernel
theorem dX7_press_51 : decode cX7_press 51 = .ok (.aload_n 1, 1) := by decide +kernel
theorem dX7_press_52 : decode cX7_press 52 = .ok (.getfield 128, 3) := by decide +kernel
theorem dX7_press_55 : decode cX7_press 55 = .ok (.iload_n 3, 1) := by decide +kernel
theorem dX7_press_56 : decode cX7_press 56 = .ok (.iaload, 1) := by decide +kernel
theorem dX7_press_57 : decode cX7_press 57 = .ok (.bipush 99, 2) := by decide +kernel
theorem dX7_press_59 : decode cX7_press 59 = .ok (.if_icmp .ne 7, 3) := by decide +kernel
theorem dX7_press_62 : decode cX7_press 62 = .ok (.iconst 1, 1) := by decide +kernel
theorem dX7_press_63 : decode cX7_press 63 = .ok (.goto 4, 3) := by decide +kernel
theorem dX7_press_66 : decode cX7_press 66 = .ok (.iconst 0, 1) := by decide +kernel
theorem dX7_press_67 : decode cX7_press 67 = .ok (.istore 5, 2) := by decide +kernel
theorem dX7_press_69 : decode cX7_press 69 = .ok (.iload 5, 2) := by decide +kernel
theorem dX7_press_71 : decode cX7_press 71 = .ok (.ifCond .eq 33, 3) := by decide +kernel
theorem dX7_press_74 : decode cX7_press 74 = .ok (.iinc 4 10, 3) := by decide +kernel
theorem dX7_press_77 : decode cX7_press 77 = .ok (.aload_n 1, 1) := by decide +kernel
theorem dX7_press_78 : decode cX7_press 78 = .ok (.getfield 168, 3) := by decide +kernel
theorem dX7_press_81 : decode cX7_press 81 = .ok (.iload_n 3, 1) := by decide +kernel
theorem dX7_press_82 : decode cX7_press 82 = .ok (.dup2, 1) := by decide +kernel
theorem dX7_press_83 : decode cX7_press 83 = .ok (.iaload, 1) := by decide +kernel
theorem dX7_press_84 : decode cX7_press 84 = .ok (.iconst 1, 1) := by decide +kernel
theorem dX7_press_85 : decode cX7_press 85 = .ok (.iadd, 1) := by decide +kernel
theorem dX7_press_86 : decode cX7_press 86 = .ok (.iastore, 1) := by decide +kernel
theorem dX7_press_87 : decode cX7_press 87 = .ok (.aload_n 1, 1) := by decide +kernel
theorem dX7_press_88 : decode cX7_press 88 = .ok (.getfield 128, 3) := by decide +kernel
theorem dX7_press_91 : decode cX7_press 91 = .ok (.iload_n 3, 1) := by decide +kernel
theorem dX7_press_92 : decode cX7_press 92 = .ok (.iconst 0, 1) := by decide +kernel
theorem dX7_press_93 : decode cX7_press 93 = .ok (.iastore, 1) := by decide +kernel
theorem dX7_press_94 : decode cX7_press 94 = .ok (.aload_n 0, 1) := by decide +kernel
theorem dX7_press_95 : decode cX7_press 95 = .ok (.aload_n 1, 1) := by decide +kernel
theorem dX7_press_96 : decode cX7_press 96 = .ok (.iload_n 2, 1) := by decide +kernel
theorem dX7_press_97 : decode cX7_press 97 = .ok (.iconst 3, 1) := by decide +kernel
theorem dX7_press_98 : decode cX7_press 98 = .ok (.iload_n 3, 1) := by decide +kernel
theorem dX7_press_99 : decode cX7_press 99 = .ok (.iload 4, 2) := by decide +kernel
theorem dX7_press_101 : decode cX7_press 101 = .ok (.invokevirtual 131, 3) := by decide +kernel
theorem dX7_press_104 : decode cX7_press 104 = .ok (.aload_n 1, 1) := by decide +kernel
theorem dX7_press_105 : decode cX7_press 105 = .ok (.aload_n 1, 1) := by decide +kernel
theorem dX7_press_106 : decode cX7_press 106 = .ok (.getfield 171, 3) := by decide +kernel
theorem dX7_press_109 : decode cX7_press 109 = .ok (.iload_n 3, 1) := by decide +kernel
theorem dX7_press_110 : decode cX7_press 110 = .ok (.iaload, 1) := by decide +kernel
theorem dX7_press_111 : decode cX7_press 111 = .ok (.ifCond .ne 18, 3) := by decide +kernel
theorem dX7_press_114 : decode cX7_press 114 = .ok (.bipush 99, 2) := by decide +kernel
theorem dX7_press_116 : decode cX7_press 116 = .ok (.aload_n 1, 1) := by decide +kernel
theorem dX7_press_117 : decode cX7_press 117 = .ok (.getfield 174, 3) := by decide +kernel
theorem dX7_press_120 : decode cX7_press 120 = .ok (.iload 4, 2) := by decide +kernel
theorem dX7_press_122 : decode cX7_press 122 = .ok (.iadd, 1) := by decide +kernel
theorem dX7_press_123 : decode cX7_press 123 = .ok (.invokestatic 141, 3) := by decide +kernel
theorem dX7_press_126 : decode cX7_press 126 = .ok (.goto 15, 3) := by decide +kernel
theorem dX7_press_129 : decode cX7_press 129 = .ok (.bipush (-99), 2) := by decide +kernel
theorem dX7_press_131 : decode cX7_press 131 = .ok (.aload_n 1, 1) := by decide +kernel
theorem dX7_press_132 : decode cX7_press 132 = .ok (.getfield 174, 3) := by decide +kernel
theorem dX7_press_135 : decode cX7_press 135 = .ok (.iload 4, 2) := by decide +kernel
theorem dX7_press_137 : decode cX7_press 137 = .ok (.isub, 1) := by decide +kernel
theorem dX7_press_138 : decode cX7_press 138 = .ok (.invokestatic 165, 3) := by decide +kernel
theorem dX7_press_141 : decode cX7_press 141 = .ok (.putfield 174, 3) := by decide +kernel
theorem dX7_press_144 : decode cX7_press 144 = .ok (.aload_n 1, 1) := by decide +kernel
theorem dX7_press_145 : decode cX7_press 145 = .ok (.getfield 174, 3) := by decide +kernel
theorem dX7_press_148 : decode cX7_press 148 = .ok (.bipush 99, 2) := by decide +kernel
theorem dX7_press_150 : decode cX7_press 150 = .ok (.if_icmp .eq 12, 3) := by decide +kernel
theorem dX7_press_153 : decode cX7_press 153 = .ok (.aload_n 1, 1) := by decide +kernel
theorem dX7_press_154 : decode cX7_press 154 = .ok (.getfield 174, 3) := by decide +kernel
theorem dX7_press_157 : decode cX7_press 157 = .ok (.bipush (-99), 2) := by decide +kernel
theorem dX7_press_159 : decode cX7_press 159 = .ok (.if_icmp .ne 33, 3) := by decide +kernel
theorem dX7_press_162 : decode cX7_press 162 = .ok (.aload_n 1, 1) := by decide +kernel
theorem dX7_press_163 : decode cX7_press 163 = .ok (.aload_n 1, 1) := by decide +kernel
theorem dX7_press_164 : decode cX7_press 164 = .ok (.getfield 174, 3) := by decide +kernel
theorem dX7_press_167 : decode cX7_press 167 = .ok (.bipush 99, 2) := by decide +kernel
theorem dX7_press_169 : decode cX7_press 169 = .ok (.if_icmp .ne 7, 3) := by decide +kernel
theorem dX7_press_172 : decode cX7_press 172 = .ok (.iconst 0, 1) := by decide +kernel
theorem dX7_press_173 : decode cX7_press 173 = .ok (.goto 4, 3) := by decide +kernel
theorem dX7_press_176 : decode cX7_press 176 = .ok (.iconst 1, 1) := by decide +kernel
theorem dX7_press_177 : decode cX7_press 177 = .ok (.putfield 101, 3) := by decide +kernel
theorem dX7_press_180 : decode cX7_press 180 = .ok (.aload_n 0, 1) := by decide +kernel
theorem dX7_press_181 : decode cX7_press 181 = .ok (.aload_n 1, 1) := by decide +kernel
theorem dX7_press_182 : decode cX7_press 182 = .ok (.iload_n 2, 1) := by decide +kernel
theorem dX7_press_183 : decode cX7_press 183 = .ok (.iconst 5, 1) := by decide +kernel
theorem dX7_press_184 : decode cX7_press 184 = .ok (.iload_n 3, 1) := by decide +kernel
theorem dX7_press_185 : decode cX7_press 185 = .ok (.aload_n 1, 1) := by decide +kernel
theorem dX7_press_186 : decode cX7_press 186 = .ok (.getfield 101, 3) := by decide +kernel
theorem dX7_press_189 : decode cX7_press 189 = .ok (.invokevirtual 131, 3) := by decide +kernel
theorem dX7_press_192 : decode cX7_press 192 = .ok (.iload 5, 2) := by decide +kernel
theorem dX7_press_194 : decode cX7_press 194 = .ok (.ifCond .eq 7, 3) := by decide +kernel
theorem dX7_press_197 : decode cX7_press 197 = .ok (.iconst 1, 1) := by decide +kernel
theorem dX7_press_198 : decode cX7_press 198 = .ok (.goto 4, 3) := by decide +kernel
theorem dX7_press_201 : decode cX7_press 201 = .ok (.iconst 0, 1) := by decide +kernel
theorem dX7_press_202 : decode cX7_press 202 = .ok (.ireturn, 1) := by decide +kernel
theorem dX7_spendEvening_0 : decode cX7_spendEvening 0 = .ok (.aload_n 1, 1) := by decide +kernel
theorem dX7_spendEvening_1 : decode cX7_spendEvening 1 = .ok (.iload_n 3, 1) := by decide +kernel
theorem dX7_spendEvening_2 : decode cX7_spendEvening 2 = .ok (.invokevirtual 104, 3) := by decide +kernel
theorem dX7_spendEvening_5 : decode cX7_spendEvening 5 = .ok (.ifCond .ne 4, 3) := by decide +kernel
theorem dX7_spendEvening_8 : decode cX7_spendEvening 8 = .ok (.return_, 1) := by decide +kernel
theorem dX7_spendEvening_9 : decode cX7_spendEvening 9 = .ok (.aload_n 1, 1) := by decide +kernel
theorem dX7_spendEvening_10 : decode cX7_spendEvening 10 = .ok (.getfield 162, 3) := by decide +kernel
theorem dX7_spendEvening_13 : decode cX7_spendEvening 13 = .ok (.iload_n 3, 1) := by decide +kernel
theorem dX7_spendEvening_14 : decode cX7_spendEvening 14 = .ok (.iconst 0, 1) := by decide +kernel
theorem dX7_spendEvening_15 : decode cX7_spendEvening 15 = .ok (.aload_n 1, 1) := by decide +kernel
theorem dX7_spendEvening_16 : decode cX7_spendEvening 16 = .ok (.getfield 162, 3) := by decide +kernel
theorem dX7_spendEvening_19 : decode cX7_spendEvening 19 = .ok (.iload_n 3, 1) := by decide +kernel
theorem dX7_spendEvening_20 : decode cX7_spendEvening 20 = .ok (.iaload, 1) := by decide +kernel
theorem dX7_spendEvening_21 : decode cX7_spendEvening 21 = .ok (.bipush 10, 2) := by decide +kernel
theorem dX7_spendEvening_23 : decode cX7_spendEvening 23 = .ok (.isub, 1) := by decide +kernel
theorem dX7_spendEvening_24 : decode cX7_spendEvening 24 = .ok (.invokestatic 165, 3) := by decide +kernel
theorem dX7_spendEvening_27 : decode cX7_spendEvening 27 = .ok (.iastore, 1) := by decide +kernel
theorem dX7_spendEvening_28 : decode cX7_spendEvening 28 = .ok (.aload_n 0, 1) := by decide +kernel
theorem dX7_spendEvening_29 : decode cX7_spendEvening 29 = .ok (.iload_n 3, 1) := by decide +kernel
theorem dX7_spendEvening_30 : decode cX7_spendEvening 30 = .ok (.invokevirtual 82, 3) := by decide +kernel
theorem dX7_spendEvening_33 : decode cX7_spendEvening 33 = .ok (.istore 4, 2) := by decide +kernel
theorem dX7_spendEvening_35 : decode cX7_spendEvening 35 = .ok (.aload_n 1, 1) := by decide +kernel
theorem dX7_spendEvening_36 : decode cX7_spendEvening 36 = .ok (.iload 4, 2) := by decide +kernel
theorem dX7_spendEvening_38 : decode cX7_spendEvening 38 = .ok (.invokevirtual 111, 3) := by decide +kernel
theorem dX7_spendEvening_41 : decode cX7_spendEvening 41 = .ok (.ifCond .ne 4, 3) := by decide +kernel
theorem dX7_spendEvening_44 : decode cX7_spendEvening 44 = .ok (.return_, 1) := by decide +kernel
theorem dX7_spendEvening_45 : decode cX7_spendEvening 45 = .ok (.aload_n 1, 1) := by decide +kernel
theorem dX7_spendEvening_46 : decode cX7_spendEvening 46 = .ok (.getfield 162, 3) := by decide +kernel
theorem dX7_spendEvening_49 : decode cX7_spendEvening 49 = .ok (.iload_n 3, 1) := by decide +kernel
theorem dX7_spendEvening_50 : decode cX7_spendEvening 50 = .ok (.bipush 99, 2) := by decide +kernel
theorem dX7_spendEvening_52 : decode cX7_spendEvening 52 = .ok (.aload_n 1, 1) := by decide +kernel
theorem dX7_spendEvening_53 : decode cX7_spendEvening 53 = .ok (.getfield 162, 3) := by decide +kernel
theorem dX7_spendEvening_56 : decode cX7_spendEvening 56 = .ok (.iload_n 3, 1) := by decide +kernel
theorem dX7_spendEvening_57 : decode cX7_spendEvening 57 = .ok (.iaload, 1) := by decide +kernel
theorem dX7_spendEvening_58 : decode cX7_spendEvening 58 = .ok (.aload_n 0, 1) := by decide +kernel
theorem dX7_spendEvening_59 : decode cX7_spendEvening 59 = .ok (.aload_n 1, 1) := by decide +kernel
theorem dX7_spendEvening_60 : decode cX7_spendEvening 60 = .ok (.iload_n 3, 1) := by decide +kernel
theorem dX7_spendEvening_61 : decode cX7_spendEvening 61 = .ok (.iconst 1, 1) := by decide +kernel
theorem dX7_spendEvening_62 : decode cX7_spendEvening 62 = .ok (.invokevirtual 158, 3) := by decide +kernel
theorem dX7_spendEvening_65 : decode cX7_spendEvening 65 = .ok (.iadd, 1) := by decide +kernel
theorem dX7_spendEvening_66 : decode cX7_spendEvening 66 = .ok (.invokestatic 141, 3) := by decide +kernel
theorem dX7_spendEvening_69 : decode cX7_spendEvening 69 = .ok (.iastore, 1) := by decide +kernel
theorem dX7_spendEvening_70 : decode cX7_spendEvening 70 = .ok (.aload_n 1, 1) := by decide +kernel
theorem dX7_spendEvening_71 : decode cX7_spendEvening 71 = .ok (.getfield 114, 3) := by decide +kernel
theorem dX7_spendEvening_74 : decode cX7_spendEvening 74 = .ok (.iload 4, 2) := by decide +kernel
theorem dX7_spendEvening_76 : decode cX7_spendEvening 76 = .ok (.bipush 99, 2) := by decide +kernel
theorem dX7_spendEvening_78 : decode cX7_spendEvening 78 = .ok (.aload_n 1, 1) := by decide +kernel
theorem dX7_spendEvening_79 : decode cX7_spendEvening 79 = .ok (.getfield 114, 3) := by decide +kernel
theorem dX7_spendEvening_82 : decode cX7_spendEvening 82 = .ok (.iload 4, 2) := by decide +kernel
theorem dX7_spendEvening_84 : decode cX7_spendEvening 84 = .ok (.iaload, 1) := by decide +kernel
theorem dX7_spendEvening_85 : decode cX7_spendEvening 85 = .ok (.iconst 1, 1) := by decide +kernel
theorem dX7_spendEvening_86 : decode cX7_spendEvening 86 = .ok (.iadd, 1) := by decide +kernel
theorem dX7_spendEvening_87 : decode cX7_spendEvening 87 = .ok (.invokestatic 141, 3) := by decide +kernel
theorem dX7_spendEvening_90 : decode cX7_spendEvening 90 = .ok (.iastore, 1) := by decide +kernel
theorem dX7_spendEvening_91 : decode cX7_spendEvening 91 = .ok (.aload_n 0, 1) := by decide +kernel
theorem dX7_spendEvening_92 : decode cX7_spendEvening 92 = .ok (.aload_n 1, 1) := by decide +kernel
theorem dX7_spendEvening_93 : decode cX7_spendEvening 93 = .ok (.iload_n 3, 1) := by decide +kernel
theorem dX7_spendEvening_94 : decode cX7_spendEvening 94 = .ok (.iconst 2, 1) := by decide +kernel
theorem dX7_spendEvening_95 : decode cX7_spendEvening 95 = .ok (.invokevirtual 158, 3) := by decide +kernel
theorem dX7_spendEvening_98 : decode cX7_spendEvening 98 = .ok (.istore 5, 2) := by decide +kernel
theorem dX7_spendEvening_100 : decode cX7_spendEvening 100 = .ok (.iload_n 2, 1) := by decide +kernel
theorem dX7_spendEvening_101 : decode cX7_spendEvening 101 = .ok (.ifCond .eq 19, 3) := by decide +kernel
theorem dX7_spendEvening_104 : decode cX7_spendEvening 104 = .ok (.iload 5, 2) := by decide +kernel
theorem dX7_spendEvening_106 : decode cX7_spendEvening 106 = .ok (.sipush 500, 3) := by decide +kernel
theorem dX7_spendEvening_109 : decode cX7_spendEvening 109 = .ok (.if_icmp .lt 7, 3) := by decide +kernel
theorem dX7_spendEvening_112 : decode cX7_spendEvening 112 = .ok (.iconst 1, 1) := by decide +kernel
theorem dX7_spendEvening_113 : decode cX7_spendEvening 113 = .ok (.goto 29, 3) := by decide +kernel
theorem dX7_spendEvening_116 : decode cX7_spendEvening 116 = .ok (.iconst 0, 1) := by decide +kernel
theorem dX7_spendEvening_117 : decode cX7_spendEvening 117 = .ok (.goto 25, 3) := by decide +kernel
theorem dX7_spendEvening_120 : decode cX7_spendEvening 120 = .ok (.iload 5, 2) := by decide +kernel
theorem dX7_spendEvening_122 : decode cX7_spendEvening 122 = .ok (.ifCond .le 19, 3) := by decide +kernel
theorem dX7_spendEvening_125 : decode cX7_spendEvening 125 = .ok (.aload_n 1, 1) := by decide +kernel
theorem dX7_spendEvening_126 : decode cX7_spendEvening 126 = .ok (.sipush 1000, 3) := by decide +kernel
theorem dX7_spendEvening_129 : decode cX7_spendEvening 129 = .ok (.invokevirtual 177, 3) := by decide +kernel
theorem dX7_spendEvening_132 : decode cX7_spendEvening 132 = .ok (.iload 5, 2) := by decide +kernel
theorem dX7_spendEvening_134 : decode cX7_spendEvening 134 = .ok (.if_icmp .ge 7, 3) := by decide +kernel
theorem dX7_spendEvening_137 : decode cX7_spendEvening 137 = .ok (.iconst 1, 1) := by decide +kernel
theorem dX7_spendEvening_138 : decode cX7_spendEvening 138 = .ok (.goto 4, 3) := by decide +kernel
theorem dX7_spendEvening_141 : decode cX7_spendEvening 141 = .ok (.iconst 0, 1) := by decide +kernel
theorem dX7_spendEvening_142 : decode cX7_spendEvening 142 = .ok (.istore 6, 2) := by decide +kernel
theorem dX7_spendEvening_144 : decode cX7_spendEvening 144 = .ok (.iload 6, 2) := by decide +kernel
theorem dX7_spendEvening_146 : decode cX7_spendEvening 146 = .ok (.ifCond .eq 33, 3) := by decide +kernel
theorem dX7_spendEvening_149 : decode cX7_spendEvening 149 = .ok (.aload_n 1, 1) := by decide +kernel
theorem dX7_spendEvening_150 : decode cX7_spendEvening 150 = .ok (.getfield 134, 3) := by decide +kernel
theorem dX7_spendEvening_153 : decode cX7_spendEvening 153 = .ok (.iload_n 3, 1) := by decide +kernel
theorem dX7_spendEvening_154 : decode cX7_spendEvening 154 = .ok (.iaload, 1) := by decide +kernel
theorem dX7_spendEvening_155 : decode cX7_spendEvening 155 = .ok (.ifCond .ne 24, 3) := by decide +kernel
theorem dX7_spendEvening_158 : decode cX7_spendEvening 158 = .ok (.aload_n 1, 1) := by decide +kernel
theorem dX7_spendEvening_159 : decode cX7_spendEvening 159 = .ok (.getfield 134, 3) := by decide +kernel
theorem dX7_spendEvening_162 : decode cX7_spendEvening 162 = .ok (.iload_n 3, 1) := by decide +kernel
theorem dX7_spendEvening_163 : decode cX7_spendEvening 163 = .ok (.iconst 1, 1) := by decide +kernel
theorem dX7_spendEvening_164 : decode cX7_spendEvening 164 = .ok (.iastore, 1) := by decide +kernel
theorem dX7_spendEvening_165 : decode cX7_spendEvening 165 = .ok (.aload_n 0, 1) := by decide +kernel
theorem dX7_spendEvening_166 : decode cX7_spendEvening 166 = .ok (.aload_n 1, 1) := by decide +kernel
theorem dX7_spendEvening_167 : decode cX7_spendEvening 167 = .ok (.iload_n 2, 1) := by decide +kernel
theorem dX7_spendEvening_168 : decode cX7_spendEvening 168 = .ok (.iconst 4, 1) := by decide +kernel
theorem dX7_spendEvening_169 : decode cX7_spendEvening 169 = .ok (.iload_n 3, 1) := by decide +kernel
theorem dX7_spendEvening_170 : decode cX7_spendEvening 170 = .ok (.aload_n 1, 1) := by decide +kernel
theorem dX7_spendEvening_171 : decode cX7_spendEvening 171 = .ok (.getfield 162, 3) := by decide +kernel
theorem dX7_spendEvening_174 : decode cX7_spendEvening 174 = .ok (.iload_n 3, 1) := by decide +kernel
theorem dX7_spendEvening_175 : decode cX7_spendEvening 175 = .ok (.iaload, 1) := by decide +kernel
theorem dX7_spendEvening_176 : decode cX7_spendEvening 176 = .ok (.invokevirtual 131, 3) := by decide +kernel
theorem dX7_spendEvening_179 : decode cX7_spendEvening 179 = .ok (.return_, 1) := by decide +kernel
theorem dX8_isPoint_0 : decode cX8_isPoint 0 = .ok (.iload_n 0, 1) := by decide +kernel
theorem dX8_isPoint_1 : decode cX8_isPoint 1 = .ok (.bipush (-50), 2) := by decide +kernel
theorem dX8_isPoint_3 : decode cX8_isPoint 3 = .ok (.if_icmp .lt 25, 3) := by decide +kernel
theorem dX8_isPoint_6 : decode cX8_isPoint 6 = .ok (.iload_n 0, 1) := by decide +kernel
theorem dX8_isPoint_7 : decode cX8_isPoint 7 = .ok (.bipush 50, 2) := by decide +kernel
theorem dX8_isPoint_9 : decode cX8_isPoint 9 = .ok (.if_icmp .gt 19, 3) := by decide +kernel
theorem dX8_isPoint_12 : decode cX8_isPoint 12 = .ok (.iload_n 1, 1) := by decide +kernel
theorem dX8_isPoint_13 : decode cX8_isPoint 13 = .ok (.bipush (-50), 2) := by decide +kernel
theorem dX8_isPoint_15 : decode cX8_isPoint 15 = .ok (.if_icmp .lt 13, 3) := by decide +kernel
theorem dX8_isPoint_18 : decode cX8_isPoint 18 = .ok (.iload_n 1, 1) := by decide +kernel
theorem dX8_isPoint_19 : decode cX8_isPoint 19 = .ok (.bipush 50, 2) := by decide +kernel
theorem dX8_isPoint_21 : decode cX8_isPoint 21 = .ok (.if_icmp .gt 7, 3) := by decide +kernel
theorem dX8_isPoint_24 : decode cX8_isPoint 24 = .ok (.iconst 1, 1) := by decide +kernel
theorem dX8_isPoint_25 : decode cX8_isPoint 25 = .ok (.goto 4, 3) := by decide +kernel
theorem dX8_isPoint_28 : decode cX8_isPoint 28 = .ok (.iconst 0, 1) := by decide +kernel
theorem dX8_isPoint_29 : decode cX8_isPoint 29 = .ok (.ireturn, 1) := by decide +kernel
theorem dX8_meets_0 : decode cX8_meets 0 = .ok (.iconst 0, 1) := by decide +kernel
theorem dX8_meets_1 : decode cX8_meets 1 = .ok (.istore_n 3, 1) := by decide +kernel
theorem dX8_meets_2 : decode cX8_meets 2 = .ok (.iconst 0, 1) := by decide +kernel
theorem dX8_meets_3 : decode cX8_meets 3 = .ok (.istore 4, 2) := by decide +kernel
theorem dX8_meets_5 : decode cX8_meets 5 = .ok (.iload 4, 2) := by decide +kernel
theorem dX8_meets_7 : decode cX8_meets 7 = .ok (.aload_n 0, 1) := by decide +kernel
theorem dX8_meets_8 : decode cX8_meets 8 = .ok (.getfield 7, 3) := by decide +kernel
theorem dX8_meets_11 : decode cX8_meets 11 = .ok (.if_icmp .ge 184, 3) := by decide +kernel
theorem dX8_meets_14 : decode cX8_meets 14 = .ok (.iload 4, 2) := by decide +kernel
theorem dX8_meets_16 : decode cX8_meets 16 = .ok (.iconst 1, 1) := by decide +kernel
theorem dX8_meets_17 : decode cX8_meets 17 = .ok (.iadd, 1) := by decide +kernel
theorem dX8_meets_18 : decode cX8_meets 18 = .ok (.aload_n 0, 1) := by decide +kernel
theorem dX8_meets_19 : decode cX8_meets 19 = .ok (.getfield 7, 3) := by decide +kernel
theorem dX8_meets_22 : decode cX8_meets 22 = .ok (.if_icmp .ge 10, 3) := by decide +kernel
theorem dX8_meets_25 : decode cX8_meets 25 = .ok (.iload 4, 2) := by decide +kernel
theorem dX8_meets_27 : decode cX8_meets 27 = .ok (.iconst 1, 1) := by decide +kernel
theorem dX8_meets_28 : decode cX8_meets 28 = .ok (.iadd, 1) := by decide +kernel
theorem dX8_meets_29 : decode cX8_meets 29 = .ok (.goto 4, 3) := by decide +kernel
theorem dX8_meets_32 : decode cX8_meets 32 = .ok (.iconst 0, 1) := by decide +kernel
theorem dX8_meets_33 : decode cX8_meets 33 = .ok (.istore 5, 2) := by decide +kernel
theorem dX8_meets_35 : decode cX8_meets 35 = .ok (.aload_n 0, 1) := by decide +kernel
theorem dX8_meets_36 : decode cX8_meets 36 = .ok (.iload 4, 2) := by decide +kernel
theorem dX8_meets_38 : decode cX8_meets 38 = .ok (.iconst 0, 1) := by decide +kernel
theorem dX8_meets_39 : decode cX8_meets 39 = .ok (.invokevirtual 13, 3) := by decide +kernel
theorem dX8_meets_42 : decode cX8_meets 42 = .ok (.istore 6, 2) := by decide +kernel
theorem dX8_meets_44 : decode cX8_meets 44 = .ok (.aload_n 0, 1) := by decide +kernel
theorem dX8_meets_45 : decode cX8_meets 45 = .ok (.iload 4, 2) := by decide +kernel
theorem dX8_meets_47 : decode cX8_meets 47 = .ok (.iconst 1, 1) := by decide +kernel
theorem dX8_meets_48 : decode cX8_meets 48 = .ok (.invokevirtual 13, 3) := by decide +kernel
theorem dX8_meets_51 : decode cX8_meets 51 = .ok (.istore 7, 2) := by decide +kernel
theorem dX8_meets_53 : decode cX8_meets 53 = .ok (.aload_n 0, 1) := by decide +kernel
theorem dX8_meets_54 : decode cX8_meets 54 = .ok (.iload 5, 2) := by decide +kernel
theorem dX8_meets_56 : decode cX8_meets 56 = .ok (.iconst 0, 1) := by decide +kernel
theorem dX8_meets_57 : decode cX8_meets 57 = .ok (.invokevirtual 13, 3) := by decide +kernel
theorem dX8_meets_60 : decode cX8_meets 60 = .ok (.istore 8, 2) := by decide +kernel
theorem dX8_meets_62 : decode cX8_meets 62 = .ok (.aload_n 0, 1) := by decide +kernel
theorem dX8_meets_63 : decode cX8_meets 63 = .ok (.iload 5, 2) := by decide +kernel
theorem dX8_meets_65 : decode cX8_meets 65 = .ok (.iconst 1, 1) := by decide +kernel
theorem dX8_meets_66 : decode cX8_meets 66 = .ok (.invokevirtual 13, 3) := by decide +kernel
theorem dX8_meets_69 : decode cX8_meets 69 = .ok (.istore 9, 2) := by decide +kernel
theorem dX8_meets_71 : decode cX8_meets 71 = .ok (.iload 8, 2) := by decide +kernel
theorem dX8_meets_73 : decode cX8_meets 73 = .ok (.iload 6, 2) := by decide +kernel
theorem dX8_meets_75 : decode cX8_meets 75 = .ok (.isub, 1) := by decide +kernel
theorem dX8_meets_76 : decode cX8_meets 76 = .ok (.iload_n 2, 1) := by decide +kernel
theorem dX8_meets_77 : decode cX8_meets 77 = .ok (.iload 7, 2) := by decide +kernel
theorem dX8_meets_79 : decode cX8_meets 79 = .ok (.isub, 1) := by decide +kernel
theorem dX8_meets_80 : decode cX8_meets 80 = .ok (.imul, 1) := by decide +kernel
theorem dX8_meets_81 : decode cX8_meets 81 = .ok (.iload_n 1, 1) := by decide +kernel
theorem dX8_meets_82 : decode cX8_meets 82 = .ok (.iload 6, 2) := by decide +kernel
theorem dX8_meets_84 : decode cX8_meets 84 = .ok (.isub, 1) := by decide +kernel
theorem dX8_meets_85 : decode cX8_meets 85 = .ok (.iload 9, 2) := by decide +kernel
theorem dX8_meets_87 : decode cX8_meets 87 = .ok (.iload 7, 2) := by decide +kernel
theorem dX8_meets_89 : decode cX8_meets 89 = .ok (.isub, 1) := by decide +kernel
theorem dX8_meets_90 : decode cX8_meets 90 = .ok (.imul, 1) := by decide +kernel
theorem dX8_meets_91 : decode cX8_meets 91 = .ok (.isub, 1) := by decide +kernel
theorem dX8_meets_92 : decode cX8_meets 92 = .ok (.istore 10, 2) := by decide +kernel
theorem dX8_meets_94 : decode cX8_meets 94 = .ok (.iload 10, 2) := by decide +kernel
theorem dX8_meets_96 : decode cX8_meets 96 = .ok (.ifCond .ne 27, 3) := by decide +kernel
theorem dX8_meets_99 : decode cX8_meets 99 = .ok (.iload_n 1, 1) := by decide +kernel
theorem dX8_meets_100 : decode cX8_meets 100 = .ok (.iload 6, 2) := by decide +kernel
theorem dX8_meets_102 : decode cX8_meets 102 = .ok (.iload 8, 2) := by decide +kernel
theorem dX8_meets_104 : decode cX8_meets 104 = .ok (.invokestatic 17, 3) := by decide +kernel
theorem dX8_meets_107 : decode cX8_meets 107 = .ok (.ifCond .eq 16, 3) := by decide +kernel
theorem dX8_meets_110 : decode cX8_meets 110 = .ok (.iload_n 2, 1) := by decide +kernel
theorem dX8_meets_111 : decode cX8_meets 111 = .ok (.iload 7, 2) := by decide +kernel
theorem dX8_meets_113 : decode cX8_meets 113 = .ok (.iload 9, 2) := by decide +kernel
theorem dX8_meets_115 : decode cX8_meets 115 = .ok (.invokestatic 17, 3) := by decide +kernel
theorem dX8_meets_118 : decode cX8_meets 118 = .ok (.ifCond .eq 5, 3) := by decide +kernel
theorem dX8_meets_121 : decode cX8_meets 121 = .ok (.iconst 2, 1) := by decide +kernel
theorem dX8_meets_122 : decode cX8_meets 122 = .ok (.ireturn, 1) := by decide +kernel
theorem dX8_meets_123 : decode cX8_meets 123 = .ok (.iload 7, 2) := by decide +kernel
theorem dX8_meets_125 : decode cX8_meets 125 = .ok (.iload_n 2, 1) := by decide +kernel
theorem dX8_meets_126 : decode cX8_meets 126 = .ok (.if_icmp .gt 9, 3) := by decide +kernel
theorem dX8_meets_129 : decode cX8_meets 129 = .ok (.iload_n 2, 1) := by decide +kernel
theorem dX8_meets_130 : decode cX8_meets 130 = .ok (.iload 9, 2) := by decide +kernel
theorem dX8_meets_132 : decode cX8_meets 132 = .ok (.if_icmp .lt 15, 3) := by decide +kernel
theorem dX8_meets_135 : decode cX8_meets 135 = .ok (.iload 9, 2) := by decide +kernel
theorem dX8_meets_137 : decode cX8_meets 137 = .ok (.iload_n 2, 1) := by decide +kernel
theorem dX8_meets_138 : decode cX8_meets 138 = .ok (.if_icmp .gt 13, 3) := by decide +kernel
theorem dX8_meets_141 : decode cX8_meets 141 = .ok (.iload_n 2, 1) := by decide +kernel
theorem dX8_meets_142 : decode cX8_meets 142 = .ok (.iload 7, 2) := by decide +kernel
theorem dX8_meets_144 : decode cX8_meets 144 = .ok (.if_icmp .ge 7, 3) := by decide +kernel
theorem dX8_meets_147 : decode cX8_meets 147 = .ok (.iconst 1, 1) := by decide +kernel
theorem dX8_meets_148 : decode cX8_meets 148 = .ok (.goto 4, 3) := by decide +kernel
theorem dX8_meets_151 : decode cX8_meets 151 = .ok (.iconst 0, 1) := by decide +kernel
theorem dX8_meets_152 : decode cX8_meets 152 = .ok (.istore 11, 2) := by decide +kernel
theorem dX8_meets_154 : decode cX8_meets 154 = .ok (.iload 11, 2) := by decide +kernel
theorem dX8_meets_156 : decode cX8_meets 156 = .ok (.ifCond .eq 33, 3) := by decide +kernel
theorem dX8_meets_159 : decode cX8_meets 159 = .ok (.iload 7, 2) := by decide +kernel
theorem dX8_meets_161 : decode cX8_meets 161 = .ok (.iload 9, 2) := by decide +kernel
theorem dX8_meets_163 : decode cX8_meets 163 = .ok (.if_icmp .ge 11, 3) := by decide +kernel
theorem dX8_meets_166 : decode cX8_meets 166 = .ok (.iload 10, 2) := by decide +kernel
theorem dX8_meets_168 : decode cX8_meets 168 = .ok (.ifCond .le 21, 3) := by decide +kernel
theorem dX8_meets_171 : decode cX8_meets 171 = .ok (.goto 8, 3) := by decide +kernel
theorem dX8_meets_174 : decode cX8_meets 174 = .ok (.iload 10, 2) := by decide +kernel
theorem dX8_meets_176 : decode cX8_meets 176 = .ok (.ifCond .ge 13, 3) := by decide +kernel
theorem dX8_meets_179 : decode cX8_meets 179 = .ok (.iload_n 3, 1) := by decide +kernel
theorem dX8_meets_180 : decode cX8_meets 180 = .ok (.ifCond .ne 7, 3) := by decide +kernel
theorem dX8_meets_183 : decode cX8_meets 183 = .ok (.iconst 1, 1) := by decide +kernel
theorem dX8_meets_184 : decode cX8_meets 184 = .ok (.goto 4, 3) := by decide +kernel
theorem dX8_meets_187 : decode cX8_meets 187 = .ok (.iconst 0, 1) := by decide +kernel
theorem dX8_meets_188 : decode cX8_meets 188 = .ok (.istore_n 3, 1) := by decide +kernel
theorem dX8_meets_189 : decode cX8_meets 189 = .ok (.iinc 4 1, 3) := by decide +kernel
theorem dX8_meets_192 : decode cX8_meets 192 = .ok (.goto (-187), 3) := by decide +kernel
theorem dX8_meets_195 : decode cX8_meets 195 = .ok (.iload_n 3, 1) := by decide +kernel
theorem dX8_meets_196 : decode cX8_meets 196 = .ok (.ifCond .eq 7, 3) := by decide +kernel
theorem dX8_meets_199 : decode cX8_meets 199 = .ok (.iconst 1, 1) := by decide +kernel
theorem dX8_meets_200 : decode cX8_meets 200 = .ok (.goto 4, 3) := by decide +kernel
theorem dX8_meets_203 : decode cX8_meets 203 = .ok (.iconst 0, 1) := by decide +kernel
theorem dX8_meets_204 : decode cX8_meets 204 = .ok (.ireturn, 1) := by decide +kernel
theorem dX8_isBetween_0 : decode cX8_isBetween 0 = .ok (.iload_n 0, 1) := by decide +kernel
theorem dX8_isBetween_1 : decode cX8_isBetween 1 = .ok (.iload_n 1, 1) := by decide +kernel
theorem dX8_isBetween_2 : decode cX8_isBetween 2 = .ok (.iload_n 2, 1) := by decide +kernel
theorem dX8_isBetween_3 : decode cX8_isBetween 3 = .ok (.invokestatic 23, 3) := by decide +kernel
theorem dX8_isBetween_6 : decode cX8_isBetween 6 = .ok (.if_icmp .lt 16, 3) := by decide +kernel
theorem dX8_isBetween_9 : decode cX8_isBetween 9 = .ok (.iload_n 0, 1) := by decide +kernel
theorem dX8_isBetween_10 : decode cX8_isBetween 10 = .ok (.iload_n 1, 1) := by decide +kernel
theorem dX8_isBetween_11 : decode cX8_isBetween 11 = .ok (.iload_n 2, 1) := by decide +kernel
theorem dX8_isBetween_12 : decode cX8_isBetween 12 = .ok (.invokestatic 28, 3) := by decide +kernel
theorem dX8_isBetween_15 : decode cX8_isBetween 15 = .ok (.if_icmp .gt 7, 3) := by decide +kernel
theorem dX8_isBetween_18 : decode cX8_isBetween 18 = .ok (.iconst 1, 1) := by decide +kernel
theorem dX8_isBetween_19 : decode cX8_isBetween 19 = .ok (.goto 4, 3) := by decide +kernel
theorem dX8_isBetween_22 : decode cX8_isBetween 22 = .ok (.iconst 0, 1) := by decide +kernel
theorem dX8_isBetween_23 : decode cX8_isBetween 23 = .ok (.ireturn, 1) := by decide +kernel
theorem dX8_twiceArea_0 : decode cX8_twiceArea 0 = .ok (.iconst 0, 1) := by decide +kernel
theorem dX8_twiceArea_1 : decode cX8_twiceArea 1 = .ok (.istore_n 1, 1) := by decide +kernel
theorem dX8_twiceArea_2 : decode cX8_twiceArea 2 = .ok (.iconst 0, 1) := by decide +kernel
theorem dX8_twiceArea_3 : decode cX8_twiceArea 3 = .ok (.istore_n 2, 1) := by decide +kernel
theorem dX8_twiceArea_4 : decode cX8_twiceArea 4 = .ok (.iload_n 2, 1) := by decide +kernel
theorem dX8_twiceArea_5 : decode cX8_twiceArea 5 = .ok (.aload_n 0, 1) := by decide +kernel
theorem dX8_twiceArea_6 : decode cX8_twiceArea 6 = .ok (.getfield 7, 3) := by decide +kernel
theorem dX8_twiceArea_9 : decode cX8_twiceArea 9 = .ok (.if_icmp .ge 57, 3) := by decide +kernel
theorem dX8_twiceArea_12 : decode cX8_twiceArea 12 = .ok (.iload_n 2, 1) := by decide +kernel
theorem dX8_twiceArea_13 : decode cX8_twiceArea 13 = .ok (.iconst 1, 1) := by decide +kernel
theorem dX8_twiceArea_14 : decode cX8_twiceArea 14 = .ok (.iadd, 1) := by decide +kernel
theorem dX8_twiceArea_15 : decode cX8_twiceArea 15 = .ok (.aload_n 0, 1) := by decide +kernel
theorem dX8_twiceArea_16 : decode cX8_twiceArea 16 = .ok (.getfield 7, 3) := by decide +kernel
theorem dX8_twiceArea_19 : decode cX8_twiceArea 19 = .ok (.if_icmp .ge 9, 3) := by decide +kernel
theorem dX8_twiceArea_22 : decode cX8_twiceArea 22 = .ok (.iload_n 2, 1) := by decide +kernel
theorem dX8_twiceArea_23 : decode cX8_twiceArea 23 = .ok (.iconst 1, 1) := by decide +kernel
theorem dX8_twiceArea_24 : decode cX8_twiceArea 24 = .ok (.iadd, 1) := by decide +kernel
theorem dX8_twiceArea_25 : decode cX8_twiceArea 25 = .ok (.goto 4, 3) := by decide +kernel
theorem dX8_twiceArea_28 : decode cX8_twiceArea 28 = .ok (.iconst 0, 1) := by decide +kernel
theorem dX8_twiceArea_29 : decode cX8_twiceArea 29 = .ok (.istore_n 3, 1) := by decide +kernel
theorem dX8_twiceArea_30 : decode cX8_twiceArea 30 = .ok (.iload_n 1, 1) := by decide +kernel
theorem dX8_twiceArea_31 : decode cX8_twiceArea 31 = .ok (.aload_n 0, 1) := by decide +kernel
theorem dX8_twiceArea_32 : decode cX8_twiceArea 32 = .ok (.iload_n 2, 1) := by decide +kernel
theorem dX8_twiceArea_33 : decode cX8_twiceArea 33 = .ok (.iconst 0, 1) := by decide +kernel
theorem dX8_twiceArea_34 : decode cX8_twiceArea 34 = .ok (.invokevirtual 13, 3) := by decide +kernel
theorem dX8_twiceArea_37 : decode cX8_twiceArea 37 = .ok (.aload_n 0, 1) := by decide +kernel
theorem dX8_twiceArea_38 : decode cX8_twiceArea 38 = .ok (.iload_n 3, 1) := by decide +kernel
theorem dX8_twiceArea_39 : decode cX8_twiceArea 39 = .ok (.iconst 1, 1) := by decide +kernel
theorem dX8_twiceArea_40 : decode cX8_twiceArea 40 = .ok (.invokevirtual 13, 3) := by decide +kernel
theorem dX8_twiceArea_43 : decode cX8_twiceArea 43 = .ok (.imul, 1) := by decide +kernel
theorem dX8_twiceArea_44 : decode cX8_twiceArea 44 = .ok (.aload_n 0, 1) := by decide +kernel
theorem dX8_twiceArea_45 : decode cX8_twiceArea 45 = .ok (.iload_n 3, 1) := by decide +kernel
theorem dX8_twiceArea_46 : decode cX8_twiceArea 46 = .ok (.iconst 0, 1) := by decide +kernel
theorem dX8_twiceArea_47 : decode cX8_twiceArea 47 = .ok (.invokevirtual 13, 3) := by decide +kernel
theorem dX8_twiceArea_50 : decode cX8_twiceArea 50 = .ok (.aload_n 0, 1) := by decide +kernel
theorem dX8_twiceArea_51 : decode cX8_twiceArea 51 = .ok (.iload_n 2, 1) := by decide +kernel
theorem dX8_twiceArea_52 : decode cX8_twiceArea 52 = .ok (.iconst 1, 1) := by decide +kernel
theorem dX8_twiceArea_53 : decode cX8_twiceArea 53 = .ok (.invokevirtual 13, 3) := by decide +kernel
theorem dX8_twiceArea_56 : decode cX8_twiceArea 56 = .ok (.imul, 1) := by decide +kernel
theorem dX8_twiceArea_57 : decode cX8_twiceArea 57 = .ok (.isub, 1) := by decide +kernel
theorem dX8_twiceArea_58 : decode cX8_twiceArea 58 = .ok (.iadd, 1) := by decide +kernel
theorem dX8_twiceArea_59 : decode cX8_twiceArea 59 = .ok (.istore_n 1, 1) := by decide +kernel
theorem dX8_twiceArea_60 : decode cX8_twiceArea 60 = .ok (.iinc 2 1, 3) := by decide +kernel
theorem dX8_twiceArea_63 : decode cX8_twiceArea 63 = .ok (.goto (-59), 3) := by decide +kernel
theorem dX8_twiceArea_66 : decode cX8_twiceArea 66 = .ok (.iload_n 1, 1) := by decide +kernel
theorem dX8_twiceArea_67 : decode cX8_twiceArea 67 = .ok (.ireturn, 1) := by decide +kernel
theorem dX9_init_0 : decode cX9_init 0 = .ok (.aload_n 0, 1) := by decide +kernel
theorem dX9_init_1 : decode cX9_init 1 = .ok (.invokespecial 1, 3) := by decide +kernel
theorem dX9_init_4 : decode cX9_init 4 = .ok (.aload_n 0, 1) := by decide +kernel
theorem dX9_init_5 : decode cX9_init 5 = .ok (.new 7, 3) := by decide +kernel
theorem dX9_init_8 : decode cX9_init 8 = .ok (.dup, 1) := by decide +kernel
theorem dX9_init_9 : decode cX9_init 9 = .ok (.invokespecial 9, 3) := by decide +kernel
theorem dX9_init_12 : decode cX9_init 12 = .ok (.putfield 10, 3) := by decide +kernel
theorem dX9_init_15 : decode cX9_init 15 = .ok (.aload_n 0, 1) := by decide +kernel
theorem dX9_init_16 : decode cX9_init 16 = .ok (.new 7, 3) := by decide +kernel
theorem dX9_init_19 : decode cX9_init 19 = .ok (.dup, 1) := by decide +kernel
theorem dX9_init_20 : decode cX9_init 20 = .ok (.invokespecial 9, 3) := by decide +kernel
theorem dX9_init_23 : decode cX9_init 23 = .ok (.putfield 16, 3) := by decide +kernel
theorem dX9_init_26 : decode cX9_init 26 = .ok (.aload_n 0, 1) := by decide +kernel
theorem dX9_init_27 : decode cX9_init 27 = .ok (.iconst 0, 1) := by decide +kernel
theorem dX9_init_28 : decode cX9_init 28 = .ok (.putfield 19, 3) := by decide +kernel
theorem dX9_init_31 : decode cX9_init 31 = .ok (.aload_n 0, 1) := by decide +kernel
theorem dX9_init_32 : decode cX9_init 32 = .ok (.new 23, 3) := by decide +kernel
theorem dX9_init_35 : decode cX9_init 35 = .ok (.dup, 1) := by decide +kernel
theorem dX9_init_36 : decode cX9_init 36 = .ok (.invokespecial 25, 3) := by decide +kernel
theorem dX9_init_39 : decode cX9_init 39 = .ok (.putfield 26, 3) := by decide +kernel
theorem dX9_init_42 : decode cX9_init 42 = .ok (.aload_n 0, 1) := by decide +kernel
theorem dX9_init_43 : decode cX9_init 43 = .ok (.new 30, 3) := by decide +kernel
theorem dX9_init_46 : decode cX9_init 46 = .ok (.dup, 1) := by decide +kernel
theorem dX9_init_47 : decode cX9_init 47 = .ok (.invokespecial 32, 3) := by decide +kernel
theorem dX9_init_50 : decode cX9_init 50 = .ok (.putfield 33, 3) := by decide +kernel
theorem dX9_init_53 : decode cX9_init 53 = .ok (.aload_n 0, 1) := by decide +kernel
theorem dX9_init_54 : decode cX9_init 54 = .ok (.new 37, 3) := by decide +kernel
theorem dX9_init_57 : decode cX9_init 57 = .ok (.dup, 1) := by decide +kernel
theorem dX9_init_58 : decode cX9_init 58 = .ok (.invokespecial 39, 3) := by decide +kernel
theorem dX9_init_61 : decode cX9_init 61 = .ok (.putfield 40, 3) := by decide +kernel
theorem dX9_init_64 : decode cX9_init 64 = .ok (.return_, 1) := by decide +kernel
theorem dX9_state_0 : decode cX9_state 0 = .ok (.aload_n 0, 1) := by decide +kernel
theorem dX9_state_1 : decode cX9_state 1 = .ok (.getfield 10, 3) := by decide +kernel
theorem dX9_state_4 : decode cX9_state 4 = .ok (.getfield 44, 3) := by decide +kernel
theorem dX9_state_7 : decode cX9_state 7 = .ok (.getfield 47, 3) := by decide +kernel
theorem dX9_state_10 : decode cX9_state 10 = .ok (.istore_n 2, 1) := by decide +kernel
theorem dX9_state_11 : decode cX9_state 11 = .ok (.aload_n 0, 1) := by decide +kernel
theorem dX9_state_12 : decode cX9_state 12 = .ok (.getfield 10, 3) := by decide +kernel
theorem dX9_state_15 : decode cX9_state 15 = .ok (.getfield 44, 3) := by decide +kernel
theorem dX9_state_18 : decode cX9_state 18 = .ok (.iload_n 1, 1) := by decide +kernel
theorem dX9_state_19 : decode cX9_state 19 = .ok (.putfield 47, 3) := by decide +kernel
theorem dX9_state_22 : decode cX9_state 22 = .ok (.aload_n 0, 1) := by decide +kernel
theorem dX9_state_23 : decode cX9_state 23 = .ok (.getfield 33, 3) := by decide +kernel
theorem dX9_state_26 : decode cX9_state 26 = .ok (.invokevirtual 51, 3) := by decide +kernel
theorem dX9_state_29 : decode cX9_state 29 = .ok (.iload_n 2, 1) := by decide +kernel
theorem dX9_state_30 : decode cX9_state 30 = .ok (.ireturn, 1) := by decide +kernel
theorem dX9_officer_0 : decode cX9_officer 0 = .ok (.iload_n 1, 1) := by decide +kernel
theorem dX9_officer_1 : decode cX9_officer 1 = .ok (.ifCond .lt 18, 3) := by decide +kernel
theorem dX9_officer_4 : decode cX9_officer 4 = .ok (.iload_n 1, 1) := by decide +kernel
theorem dX9_officer_5 : decode cX9_officer 5 = .ok (.iconst 1, 1) := by decide +kernel
theorem dX9_officer_6 : decode cX9_officer 6 = .ok (.if_icmp .gt 13, 3) := by decide +kernel
theorem dX9_officer_9 : decode cX9_officer 9 = .ok (.iload_n 2, 1) := by decide +kernel
theorem dX9_officer_10 : decode cX9_officer 10 = .ok (.ifCond .lt 9, 3) := by decide +kernel
theorem dX9_officer_13 : decode cX9_officer 13 = .ok (.iload_n 2, 1) := by decide +kernel
theorem dX9_officer_14 : decode cX9_officer 14 = .ok (.bipush 9, 2) := by decide +kernel
theorem dX9_officer_16 : decode cX9_officer 16 = .ok (.if_icmp .le 5, 3) := by decide +kernel
theorem dX9_officer_19 : decode cX9_officer 19 = .ok (.iconst (-1), 1) := by decide +kernel
theorem dX9_officer_20 : decode cX9_officer 20 = .ok (.ireturn, 1) := by decide +kernel
theorem dX9_officer_21 : decode cX9_officer 21 = .ok (.aload_n 0, 1) := by decide +kernel
theorem dX9_officer_22 : decode cX9_officer 22 = .ok (.getfield 10, 3) := by decide +kernel
theorem dX9_officer_25 : decode cX9_officer 25 = .ok (.getfield 44, 3) := by decide +kernel
theorem dX9_officer_28 : decode cX9_officer 28 = .ok (.iload_n 1, 1) := by decide +kernel
theorem dX9_officer_29 : decode cX9_officer 29 = .ok (.iload_n 2, 1) := by decide +kernel
theorem dX9_officer_30 : decode cX9_officer 30 = .ok (.invokevirtual 54, 3) := by decide +kernel
theorem dX9_officer_33 : decode cX9_officer 33 = .ok (.istore_n 3, 1) := by decide +kernel
theorem dX9_officer_34 : decode cX9_officer 34 = .ok (.iload_n 3, 1) := by decide +kernel
theorem dX9_officer_35 : decode cX9_officer 35 = .ok (.iconst (-1), 1) := by decide +kernel
theorem dX9_officer_36 : decode cX9_officer 36 = .ok (.if_icmp .eq 10, 3) := by decide +kernel
theorem dX9_officer_39 : decode cX9_officer 39 = .ok (.aload_n 0, 1) := by decide +kernel
theorem dX9_officer_40 : decode cX9_officer 40 = .ok (.getfield 33, 3) := by decide +kernel
theorem dX9_officer_43 : decode cX9_officer 43 = .ok (.invokevirtual 51, 3) := by decide +kernel
theorem dX9_officer_46 : decode cX9_officer 46 = .ok (.iload_n 3, 1) := by decide +kernel
theorem dX9_officer_47 : decode cX9_officer 47 = .ok (.ireturn, 1) := by decide +kernel
theorem dX9_batman_0 : decode cX9_batman 0 = .ok (.iload_n 1, 1) := by decide +kernel
theorem dX9_batman_1 : decode cX9_batman 1 = .ok (.ifCond .lt 18, 3) := by decide +kernel
theorem dX9_batman_4 : decode cX9_batman 4 = .ok (.iload_n 1, 1) := by decide +kernel
theorem dX9_batman_5 : decode cX9_batman 5 = .ok (.iconst 1, 1) := by decide +kernel
theorem dX9_batman_6 : decode cX9_batman 6 = .ok (.if_icmp .gt 13, 3) := by decide +kernel
theorem dX9_batman_9 : decode cX9_batman 9 = .ok (.iload_n 2, 1) := by decide +kernel
theorem dX9_batman_10 : decode cX9_batman 10 = .ok (.ifCond .lt 9, 3) := by decide +kernel
theorem dX9_batman_13 : decode cX9_batman 13 = .ok (.iload_n 2, 1) := by decide +kernel
theorem dX9_batman_14 : decode cX9_batman 14 = .ok (.bipush 9, 2) := by decide +kernel
theorem dX9_batman_16 : decode cX9_batman 16 = .ok (.if_icmp .le 5, 3) := by decide +kernel
theorem dX9_batman_19 : decode cX9_batman 19 = .ok (.iconst (-1), 1) := by decide +kernel
theorem dX9_batman_20 : decode cX9_batman 20 = .ok (.ireturn, 1) := by decide +kernel
theorem dX9_batman_21 : decode cX9_batman 21 = .ok (.aload_n 0, 1) := by decide +kernel
theorem dX9_batman_22 : decode cX9_batman 22 = .ok (.getfield 10, 3) := by decide +kernel
theorem dX9_batman_25 : decode cX9_batman 25 = .ok (.getfield 44, 3) := by decide +kernel
theorem dX9_batman_28 : decode cX9_batman 28 = .ok (.iload_n 1, 1) := by decide +kernel
theorem dX9_batman_29 : decode cX9_batman 29 = .ok (.iload_n 2, 1) := by decide +kernel
theorem dX9_batman_30 : decode cX9_batman 30 = .ok (.invokevirtual 58, 3) := by decide +kernel
theorem dX9_batman_33 : decode cX9_batman 33 = .ok (.istore_n 3, 1) := by decide +kernel
theorem dX9_batman_34 : decode cX9_batman 34 = .ok (.iload_n 3, 1) := by decide +kernel
theorem dX9_batman_35 : decode cX9_batman 35 = .ok (.iconst (-1), 1) := by decide +kernel
theorem dX9_batman_36 : decode cX9_batman 36 = .ok (.if_icmp .eq 10, 3) := by decide +kernel
theorem dX9_batman_39 : decode cX9_batman 39 = .ok (.aload_n 0, 1) := by decide +kernel
theorem dX9_batman_40 : decode cX9_batman 40 = .ok (.getfield 33, 3) := by decide +kernel
theorem dX9_batman_43 : decode cX9_batman 43 = .ok (.invokevirtual 51, 3) := by decide +kernel
theorem dX9_batman_46 : decode cX9_batman 46 = .ok (.iload_n 3, 1) := by decide +kernel
theorem dX9_batman_47 : decode cX9_batman 47 = .ok (.ireturn, 1) := by decide +kernel
theorem dX9_set_0 : decode cX9_set 0 = .ok (.iload_n 1, 1) := by decide +kernel
theorem dX9_set_1 : decode cX9_set 1 = .ok (.ifCond .lt 26, 3) := by decide +kernel
theorem dX9_set_4 : decode cX9_set 4 = .ok (.iload_n 1, 1) := by decide +kernel
theorem dX9_set_5 : decode cX9_set 5 = .ok (.iconst 2, 1) := by decide +kernel
theorem dX9_set_6 : decode cX9_set 6 = .ok (.if_icmp .gt 21, 3) := by decide +kernel
theorem dX9_set_9 : decode cX9_set 9 = .ok (.aload_n 0, 1) := by decide +kernel
theorem dX9_set_10 : decode cX9_set 10 = .ok (.getfield 10, 3) := by decide +kernel
theorem dX9_set_13 : decode cX9_set 13 = .ok (.getfield 44, 3) := by decide +kernel
theorem dX9_set_16 : decode cX9_set 16 = .ok (.iload_n 1, 1) := by decide +kernel
theorem dX9_set_17 : decode cX9_set 17 = .ok (.iload_n 2, 1) := by decide +kernel
theorem dX9_set_18 : decode cX9_set 18 = .ok (.iload_n 3, 1) := by decide +kernel
theorem dX9_set_19 : decode cX9_set 19 = .ok (.invokevirtual 61, 3) := by decide +kernel
theorem dX9_set_22 : decode cX9_set 22 = .ok (.istore 4, 2) := by decide +kernel
theorem dX9_set_24 : decode cX9_set 24 = .ok (.goto 57, 3) := by decide +kernel
theorem dX9_set_27 : decode cX9_set 27 = .ok (.iload_n 1, 1) := by decide +kernel
theorem dX9_set_28 : decode cX9_set 28 = .ok (.iconst 3, 1) := by decide +kernel
theorem dX9_set_29 : decode cX9_set 29 = .ok (.if_icmp .eq 8, 3) := by decide +kernel
theorem dX9_set_32 : decode cX9_set 32 = .ok (.iload_n 1, 1) := by decide +kernel
theorem dX9_set_33 : decode cX9_set 33 = .ok (.iconst 4, 1) := by decide +kernel
theorem dX9_set_34 : decode cX9_set 34 = .ok (.if_icmp .ne 21, 3) := by decide +kernel
theorem dX9_set_37 : decode cX9_set 37 = .ok (.aload_n 0, 1) := by decide +kernel
theorem dX9_set_38 : decode cX9_set 38 = .ok (.getfield 10, 3) := by decide +kernel
theorem dX9_set_41 : decode cX9_set 41 = .ok (.getfield 44, 3) := by decide +kernel
theorem dX9_set_44 : decode cX9_set 44 = .ok (.iload_n 1, 1) := by decide +kernel
theorem dX9_set_45 : decode cX9_set 45 = .ok (.iload_n 2, 1) := by decide +kernel
theorem dX9_set_46 : decode cX9_set 46 = .ok (.iload_n 3, 1) := by decide +kernel
theorem dX9_set_47 : decode cX9_set 47 = .ok (.invokevirtual 65, 3) := by decide +kernel
theorem dX9_set_50 : decode cX9_set 50 = .ok (.istore 4, 2) := by decide +kernel
theorem dX9_set_52 : decode cX9_set 52 = .ok (.goto 29, 3) := by decide +kernel
theorem dX9_set_55 : decode cX9_set 55 = .ok (.iload_n 1, 1) := by decide +kernel
theorem dX9_set_56 : decode cX9_set 56 = .ok (.iconst 5, 1) := by decide +kernel
theorem dX9_set_57 : decode cX9_set 57 = .ok (.if_icmp .ne 21, 3) := by decide +kernel
theorem dX9_set_60 : decode cX9_set 60 = .ok (.aload_n 0, 1) := by decide +kernel
theorem dX9_set_61 : decode cX9_set 61 = .ok (.getfield 10, 3) := by decide +kernel
theorem dX9_set_64 : decode cX9_set 64 = .ok (.getfield 44, 3) := by decide +kernel
theorem dX9_set_67 : decode cX9_set 67 = .ok (.iload_n 3, 1) := by decide +kernel
theorem dX9_set_68 : decode cX9_set 68 = .ok (.invokevirtual 68, 3) := by decide +kernel
theorem dX9_set_71 : decode cX9_set 71 = .ok (.ifCond .eq 7, 3) := by decide +kernel
theorem dX9_set_74 : decode cX9_set 74 = .ok (.iconst 1, 1) := by decide +kernel
theorem dX9_set_75 : decode cX9_set 75 = .ok (.goto 4, 3) := by decide +kernel
theorem dX9_set_78 : decode cX9_set 78 = .ok (.iconst 0, 1) := by decide +kernel
theorem dX9_set_79 : decode cX9_set 79 = .ok (.istore 4, 2) := by decide +kernel
theorem dX9_set_81 : decode cX9_set 81 = .ok (.iload 4, 2) := by decide +kernel
theorem dX9_set_83 : decode cX9_set 83 = .ok (.ifCond .eq 10, 3) := by decide +kernel
theorem dX9_set_86 : decode cX9_set 86 = .ok (.aload_n 0, 1) := by decide +kernel
theorem dX9_set_87 : decode cX9_set 87 = .ok (.getfield 33, 3) := by decide +kernel
theorem dX9_set_90 : decode cX9_set 90 = .ok (.invokevirtual 51, 3) := by decide +kernel
theorem dX9_set_93 : decode cX9_set 93 = .ok (.iload 4, 2) := by decide +kernel
theorem dX9_set_95 : decode cX9_set 95 = .ok (.ireturn, 1) := by decide +kernel
theorem dX9_act_0 : decode cX9_act 0 = .ok (.aload_n 0, 1) := by decide +kernel
theorem dX9_act_1 : decode cX9_act 1 = .ok (.getfield 10, 3) := by decide +kernel
theorem dX9_act_4 : decode cX9_act 4 = .ok (.iload_n 1, 1) := by decide +kernel
theorem dX9_act_5 : decode cX9_act 5 = .ok (.iload_n 2, 1) := by decide +kernel
theorem dX9_act_6 : decode cX9_act 6 = .ok (.iload_n 3, 1) := by decide +kernel
theorem dX9_act_7 : decode cX9_act 7 = .ok (.invokevirtual 72, 3) := by decide +kernel
theorem dX9_act_10 : decode cX9_act 10 = .ok (.ifCond .ne 5, 3) := by decide +kernel
theorem dX9_act_13 : decode cX9_act 13 = .ok (.iconst 0, 1) := by decide +kernel
theorem dX9_act_14 : decode cX9_act 14 = .ok (.ireturn, 1) := by decide +kernel
theorem dX9_act_15 : decode cX9_act 15 = .ok (.aload_n 0, 1) := by decide +kernel
theorem dX9_act_16 : decode cX9_act 16 = .ok (.getfield 33, 3) := by decide +kernel
theorem dX9_act_19 : decode cX9_act 19 = .ok (.aload_n 0, 1) := by decide +kernel
theorem dX9_act_20 : decode cX9_act 20 = .ok (.getfield 10, 3) := by decide +kernel
theorem dX9_act_23 : decode cX9_act 23 = .ok (.getfield 44, 3) := by decide +kernel
theorem dX9_act_26 : decode cX9_act 26 = .ok (.aload_n 0, 1) := by decide +kernel
theorem dX9_act_27 : decode cX9_act 27 = .ok (.getfield 10, 3) := by decide +kernel
theorem dX9_act_30 : decode cX9_act 30 = .ok (.getfield 75, 3) := by decide +kernel
theorem dX9_act_33 : decode cX9_act 33 = .ok (.getfield 79, 3) := by decide +kernel
theorem dX9_act_36 : decode cX9_act 36 = .ok (.invokevirtual 84, 3) := by decide +kernel
theorem dX9_act_39 : decode cX9_act 39 = .ok (.aload_n 0, 1) := by decide +kernel
theorem dX9_act_40 : decode cX9_act 40 = .ok (.getfield 10, 3) := by decide +kernel
theorem dX9_act_43 : decode cX9_act 43 = .ok (.iload_n 1, 1) := by decide +kernel
theorem dX9_act_44 : decode cX9_act 44 = .ok (.iload_n 2, 1) := by decide +kernel
theorem dX9_act_45 : decode cX9_act 45 = .ok (.iload_n 3, 1) := by decide +kernel
theorem dX9_act_46 : decode cX9_act 46 = .ok (.invokevirtual 88, 3) := by decide +kernel
theorem dX9_act_49 : decode cX9_act 49 = .ok (.iconst 1, 1) := by decide +kernel
theorem dX9_act_50 : decode cX9_act 50 = .ok (.ireturn, 1) := by decide +kernel
theorem dX9_days_0 : decode cX9_days 0 = .ok (.iload_n 1, 1) := by decide +kernel
theorem dX9_days_1 : decode cX9_days 1 = .ok (.iconst 1, 1) := by decide +kernel
theorem dX9_days_2 : decode cX9_days 2 = .ok (.if_icmp .lt 27, 3) := by decide +kernel
theorem dX9_days_5 : decode cX9_days 5 = .ok (.iload_n 1, 1) := by decide +kernel
theorem dX9_days_6 : decode cX9_days 6 = .ok (.bipush 60, 2) := by decide +kernel
theorem dX9_days_8 : decode cX9_days 8 = .ok (.if_icmp .gt 21, 3) := by decide +kernel
theorem dX9_days_11 : decode cX9_days 11 = .ok (.aload_n 0, 1) := by decide +kernel
theorem dX9_days_12 : decode cX9_days 12 = .ok (.getfield 10, 3) := by decide +kernel
theorem dX9_days_15 : decode cX9_days 15 = .ok (.getfield 44, 3) := by decide +kernel
theorem dX9_days_18 : decode cX9_days 18 = .ok (.getfield 92, 3) := by decide +kernel
theorem dX9_days_21 : decode cX9_days 21 = .ok (.iload_n 1, 1) := by decide +kernel
theorem dX9_days_22 : decode cX9_days 22 = .ok (.iadd, 1) := by decide +kernel
theorem dX9_days_23 : decode cX9_days 23 = .ok (.sipush 9999, 3) := by decide +kernel
theorem dX9_days_26 : decode cX9_days 26 = .ok (.if_icmp .le 5, 3) := by decide +kernel
theorem dX9_days_29 : decode cX9_days 29 = .ok (.iconst (-1), 1) := by decide +kernel
theorem dX9_days_30 : decode cX9_days 30 = .ok (.ireturn, 1) := by decide +kernel
theorem dX9_days_31 : decode cX9_days 31 = .ok (.iconst 0, 1) := by decide +kernel
theorem dX9_days_32 : decode cX9_days 32 = .ok (.istore_n 2, 1) := by decide +kernel
theorem dX9_days_33 : decode cX9_days 33 = .ok (.iconst 0, 1) := by decide +kernel
theorem dX9_days_34 : decode cX9_days 34 = .ok (.istore_n 3, 1) := by decide +kernel
theorem dX9_days_35 : decode cX9_days 35 = .ok (.iload_n 3, 1) := by decide +kernel
theorem dX9_days_36 : decode cX9_days 36 = .ok (.iload_n 1, 1) := by decide +kernel
theorem dX9_days_37 : decode cX9_days 37 = .ok (.if_icmp .ge 51, 3) := by decide +kernel
theorem dX9_days_40 : decode cX9_days 40 = .ok (.aload_n 0, 1) := by decide +kernel
theorem dX9_days_41 : decode cX9_days 41 = .ok (.getfield 33, 3) := by decide +kernel
theorem dX9_days_44 : decode cX9_days 44 = .ok (.aload_n 0, 1) := by decide +kernel
theorem dX9_days_45 : decode cX9_days 45 = .ok (.getfield 10, 3) := by decide +kernel
theorem dX9_days_48 : decode cX9_days 48 = .ok (.getfield 44, 3) := by decide +kernel
theorem dX9_days_51 : decode cX9_days 51 = .ok (.aload_n 0, 1) := by decide +kernel
theorem dX9_days_52 : decode cX9_days 52 = .ok (.getfield 10, 3) := by decide +kernel
theorem dX9_days_55 : decode cX9_days 55 = .ok (.getfield 75, 3) := by decide +kernel
theorem dX9_days_58 : decode cX9_days 58 = .ok (.getfield 79, 3) := by decide +kernel
theorem dX9_days_61 : decode cX9_days 61 = .ok (.invokevirtual 84, 3) := by decide +kernel
theorem dX9_days_64 : decode cX9_days 64 = .ok (.iload_n 2, 1) := by decide +kernel
theorem dX9_days_65 : decode cX9_days 65 = .ok (.aload_n 0, 1) := by decide +kernel
theorem dX9_days_66 : decode cX9_days 66 = .ok (.getfield 10, 3) := by decide +kernel
theorem dX9_days_69 : decode cX9_days 69 = .ok (.aload_n 0, 1) := by decide +kernel
theorem dX9_days_70 : decode cX9_days 70 = .ok (.getfield 10, 3) := by decide +kernel
theorem dX9_days_73 : decode cX9_days 73 = .ok (.getfield 44, 3) := by decide +kernel
theorem dX9_days_76 : decode cX9_days 76 = .ok (.iconst 0, 1) := by decide +kernel
theorem dX9_days_77 : decode cX9_days 77 = .ok (.invokevirtual 95, 3) := by decide +kernel
theorem dX9_days_80 : decode cX9_days 80 = .ok (.iadd, 1) := by decide +kernel
theorem dX9_days_81 : decode cX9_days 81 = .ok (.istore_n 2, 1) := by decide +kernel
theorem dX9_days_82 : decode cX9_days 82 = .ok (.iinc 3 1, 3) := by decide +kernel
theorem dX9_days_85 : decode cX9_days 85 = .ok (.goto (-50), 3) := by decide +kernel
theorem dX9_days_88 : decode cX9_days 88 = .ok (.iload_n 2, 1) := by decide +kernel
theorem dX9_days_89 : decode cX9_days 89 = .ok (.ireturn, 1) := by decide +kernel
theorem dX9_feed_0 : decode cX9_feed 0 = .ok (.aload_n 0, 1) := by decide +kernel
theorem dX9_feed_1 : decode cX9_feed 1 = .ok (.getfield 40, 3) := by decide +kernel
theorem dX9_feed_4 : decode cX9_feed 4 = .ok (.getfield 99, 3) := by decide +kernel
theorem dX9_feed_7 : decode cX9_feed 7 = .ok (.bipush 20, 2) := by decide +kernel
theorem dX9_feed_9 : decode cX9_feed 9 = .ok (.iadd, 1) := by decide +kernel
theorem dX9_feed_10 : decode cX9_feed 10 = .ok (.sipush 400, 3) := by decide +kernel
theorem dX9_feed_13 : decode cX9_feed 13 = .ok (.if_icmp .le 5, 3) := by decide +kernel
theorem dX9_feed_16 : decode cX9_feed 16 = .ok (.iconst (-1), 1) := by decide +kernel
theorem dX9_feed_17 : decode cX9_feed 17 = .ok (.ireturn, 1) := by decide +kernel
theorem dX9_feed_18 : decode cX9_feed 18 = .ok (.aload_n 0, 1) := by decide +kernel
theorem dX9_feed_19 : decode cX9_feed 19 = .ok (.getfield 40, 3) := by decide +kernel
theorem dX9_feed_22 : decode cX9_feed 22 = .ok (.iload_n 1, 1) := by decide +kernel
theorem dX9_feed_23 : decode cX9_feed 23 = .ok (.invokevirtual 102, 3) := by decide +kernel
theorem dX9_feed_26 : decode cX9_feed 26 = .ok (.aload_n 0, 1) := by decide +kernel
theorem dX9_feed_27 : decode cX9_feed 27 = .ok (.getfield 40, 3) := by decide +kernel
theorem dX9_feed_30 : decode cX9_feed 30 = .ok (.iload_n 2, 1) := by decide +kernel
theorem dX9_feed_31 : decode cX9_feed 31 = .ok (.invokevirtual 102, 3) := by decide +kernel
theorem dX9_feed_34 : decode cX9_feed 34 = .ok (.aload_n 0, 1) := by decide +kernel
theorem dX9_feed_35 : decode cX9_feed 35 = .ok (.getfield 40, 3) := by decide +kernel
theorem dX9_feed_38 : decode cX9_feed 38 = .ok (.iload_n 3, 1) := by decide +kernel
theorem dX9_feed_39 : decode cX9_feed 39 = .ok (.invokevirtual 102, 3) := by decide +kernel
theorem dX9_feed_42 : decode cX9_feed 42 = .ok (.aload_n 0, 1) := by decide +kernel
theorem dX9_feed_43 : decode cX9_feed 43 = .ok (.getfield 40, 3) := by decide +kernel
theorem dX9_feed_46 : decode cX9_feed 46 = .ok (.iload 4, 2) := by decide +kernel
theorem dX9_feed_48 : decode cX9_feed 48 = .ok (.invokevirtual 102, 3) := by decide +kernel
theorem dX9_feed_51 : decode cX9_feed 51 = .ok (.aload_n 0, 1) := by decide +kernel
theorem dX9_feed_52 : decode cX9_feed 52 = .ok (.getfield 40, 3) := by decide +kernel
theorem dX9_feed_55 : decode cX9_feed 55 = .ok (.iload 5, 2) := by decide +kernel
theorem dX9_feed_57 : decode cX9_feed 57 = .ok (.invokevirtual 102, 3) := by decide +kernel
theorem dX9_feed_60 : decode cX9_feed 60 = .ok (.aload_n 0, 1) := by decide +kernel
theorem dX9_feed_61 : decode cX9_feed 61 = .ok (.getfield 40, 3) := by decide +kernel
theorem dX9_feed_64 : decode cX9_feed 64 = .ok (.getfield 99, 3) := by decide +kernel
theorem dX9_feed_67 : decode cX9_feed 67 = .ok (.ireturn, 1) := by decide +kernel
theorem dX9_end_0 : decode cX9_end 0 = .ok (.iload_n 1, 1) := by decide +kernel
theorem dX9_end_1 : decode cX9_end 1 = .ok (.ifCond .lt 14, 3) := by decide +kernel
theorem dX9_end_4 : decode cX9_end 4 = .ok (.iload_n 1, 1) := by decide +kernel
theorem dX9_end_5 : decode cX9_end 5 = .ok (.aload_n 0, 1) := by decide +kernel
theorem dX9_end_6 : decode cX9_end 6 = .ok (.getfield 40, 3) := by decide +kernel
theorem dX9_end_9 : decode cX9_end 9 = .ok (.getfield 99, 3) := by decide +kernel
theorem dX9_end_12 : decode cX9_end 12 = .ok (.if_icmp .le 5, 3) := by decide +kernel
theorem dX9_end_15 : decode cX9_end 15 = .ok (.iconst 0, 1) := by decide +kernel
theorem dX9_end_16 : decode cX9_end 16 = .ok (.ireturn, 1) := by decide +kernel
theorem dX9_end_17 : decode cX9_end 17 = .ok (.aload_n 0, 1) := by decide +kernel
theorem dX9_end_18 : decode cX9_end 18 = .ok (.getfield 40, 3) := by decide +kernel
theorem dX9_end_21 : decode cX9_end 21 = .ok (.iload_n 1, 1) := by decide +kernel
theorem dX9_end_22 : decode cX9_end 22 = .ok (.putfield 99, 3) := by decide +kernel
theorem dX9_end_25 : decode cX9_end 25 = .ok (.iconst 1, 1) := by decide +kernel
theorem dX9_end_26 : decode cX9_end 26 = .ok (.ireturn, 1) := by decide +kernel
theorem dX9_text_0 : decode cX9_text 0 = .ok (.aload_n 0, 1) := by decide +kernel
theorem dX9_text_1 : decode cX9_text 1 = .ok (.getfield 40, 3) := by decide +kernel
theorem dX9_text_4 : decode cX9_text 4 = .ok (.invokevirtual 106, 3) := by decide +kernel
theorem dX9_text_7 : decode cX9_text 7 = .ok (.iconst (-1), 1) := by decide +kernel
theorem dX9_text_8 : decode cX9_text 8 = .ok (.istore_n 2, 1) := by decide +kernel
theorem dX9_text_9 : decode cX9_text 9 = .ok (.iload_n 1, 1) := by decide +kernel
theorem dX9_text_10 : decode cX9_text 10 = .ok (.tableswitch 186 0 3 #[30, 74, 113, 153], 30) := by decide +kernel
theorem dX9_text_40 : decode cX9_text 40 = .ok (.aload_n 0, 1) := by decide +kernel
theorem dX9_text_41 : decode cX9_text 41 = .ok (.getfield 40, 3) := by decide +kernel
theorem dX9_text_44 : decode cX9_text 44 = .ok (.invokevirtual 109, 3) := by decide +kernel
theorem dX9_text_47 : decode cX9_text 47 = .ok (.ifCond .eq 149, 3) := by decide +kernel
theorem dX9_text_50 : decode cX9_text 50 = .ok (.aload_n 0, 1) := by decide +kernel
theorem dX9_text_51 : decode cX9_text 51 = .ok (.getfield 10, 3) := by decide +kernel
theorem dX9_text_54 : decode cX9_text 54 = .ok (.getfield 113, 3) := by decide +kernel
theorem dX9_text_57 : decode cX9_text 57 = .ok (.aload_n 0, 1) := by decide +kernel
theorem dX9_text_58 : decode cX9_text 58 = .ok (.getfield 40, 3) := by decide +kernel
theorem dX9_text_61 : decode cX9_text 61 = .ok (.getfield 117, 3) := by decide +kernel
theorem dX9_text_64 : decode cX9_text 64 = .ok (.invokevirtual 118, 3) := by decide +kernel
theorem dX9_text_67 : decode cX9_text 67 = .ok (.aload_n 0, 1) := by decide +kernel
theorem dX9_text_68 : decode cX9_text 68 = .ok (.getfield 10, 3) := by decide +kernel
theorem dX9_text_71 : decode cX9_text 71 = .ok (.getfield 113, 3) := by decide +kernel
theorem dX9_text_74 : decode cX9_text 74 = .ok (.getfield 124, 3) := by decide +kernel
theorem dX9_text_77 : decode cX9_text 77 = .ok (.getfield 79, 3) := by decide +kernel
theorem dX9_text_80 : decode cX9_text 80 = .ok (.istore_n 2, 1) := by decide +kernel
theorem dX9_text_81 : decode cX9_text 81 = .ok (.goto 115, 3) := by decide +kernel
theorem dX9_text_84 : decode cX9_text 84 = .ok (.aload_n 0, 1) := by decide +kernel
theorem dX9_text_85 : decode cX9_text 85 = .ok (.getfield 40, 3) := by decide +kernel
theorem dX9_text_88 : decode cX9_text 88 = .ok (.aload_n 0, 1) := by decide +kernel
theorem dX9_text_89 : decode cX9_text 89 = .ok (.getfield 10, 3) := by decide +kernel
theorem dX9_text_92 : decode cX9_text 92 = .ok (.getfield 44, 3) := by decide +kernel
theorem dX9_text_95 : decode cX9_text 95 = .ok (.invokevirtual 127, 3) := by decide +kernel
theorem dX9_text_98 : decode cX9_text 98 = .ok (.ifCond .eq 98, 3) := by decide +kernel
theorem dX9_text_101 : decode cX9_text 101 = .ok (.aload_n 0, 1) := by decide +kernel
theorem dX9_text_102 : decode cX9_text 102 = .ok (.aload_n 0, 1) := by decide +kernel
theorem dX9_text_103 : decode cX9_text 103 = .ok (.getfield 10, 3) := by decide +kernel
theorem dX9_text_106 : decode cX9_text 106 = .ok (.getfield 131, 3) := by decide +kernel
theorem dX9_text_109 : decode cX9_text 109 = .ok (.invokevirtual 134, 3) := by decide +kernel
theorem dX9_text_112 : decode cX9_text 112 = .ok (.istore_n 2, 1) := by decide +kernel
theorem dX9_text_113 : decode cX9_text 113 = .ok (.aload_n 0, 1) := by decide +kernel
theorem dX9_text_114 : decode cX9_text 114 = .ok (.getfield 33, 3) := by decide +kernel
theorem dX9_text_117 : decode cX9_text 117 = .ok (.invokevirtual 51, 3) := by decide +kernel
theorem dX9_text_120 : decode cX9_text 120 = .ok (.goto 76, 3) := by decide +kernel
theorem dX9_text_123 : decode cX9_text 123 = .ok (.aload_n 0, 1) := by decide +kernel
theorem dX9_text_124 : decode cX9_text 124 = .ok (.getfield 40, 3) := by decide +kernel
theorem dX9_text_127 : decode cX9_text 127 = .ok (.aload_n 0, 1) := by decide +kernel
theorem dX9_text_128 : decode cX9_text 128 = .ok (.getfield 10, 3) := by decide +kernel
theorem dX9_text_131 : decode cX9_text 131 = .ok (.getfield 44, 3) := by decide +kernel
theorem dX9_text_134 : decode cX9_text 134 = .ok (.iconst 1, 1) := by decide +kernel
theorem dX9_text_135 : decode cX9_text 135 = .ok (.invokevirtual 138, 3) := by decide +kernel
theorem dX9_text_138 : decode cX9_text 138 = .ok (.ifCond .eq 58, 3) := by decide +kernel
theorem dX9_text_141 : decode cX9_text 141 = .ok (.aload_n 0, 1) := by decide +kernel
theorem dX9_text_142 : decode cX9_text 142 = .ok (.aload_n 0, 1) := by decide +kernel
theorem dX9_text_143 : decode cX9_text 143 = .ok (.getfield 10, 3) := by decide +kernel
theorem dX9_text_146 : decode cX9_text 146 = .ok (.getfield 142, 3) := by decide +kernel
theorem dX9_text_149 : decode cX9_text 149 = .ok (.invokevirtual 134, 3) := by decide +kernel
theorem dX9_text_152 : decode cX9_text 152 = .ok (.istore_n 2, 1) := by decide +kernel
theorem dX9_text_153 : decode cX9_text 153 = .ok (.aload_n 0, 1) := by decide +kernel
theorem dX9_text_154 : decode cX9_text 154 = .ok (.getfield 33, 3) := by decide +kernel
theorem dX9_text_157 : decode cX9_text 157 = .ok (.invokevirtual 51, 3) := by decide +kernel
theorem dX9_text_160 : decode cX9_text 160 = .ok (.goto 36, 3) := by decide +kernel
theorem dX9_text_163 : decode cX9_text 163 = .ok (.aload_n 0, 1) := by decide +kernel
theorem dX9_text_164 : decode cX9_text 164 = .ok (.getfield 40, 3) := by decide +kernel
theorem dX9_text_167 : decode cX9_text 167 = .ok (.aload_n 0, 1) := by decide +kernel
theorem dX9_text_168 : decode cX9_text 168 = .ok (.getfield 10, 3) := by decide +kernel
theorem dX9_text_171 : decode cX9_text 171 = .ok (.getfield 44, 3) := by decide +kernel
theorem dX9_text_174 : decode cX9_text 174 = .ok (.iconst 0, 1) := by decide +kernel
theorem dX9_text_175 : decode cX9_text 175 = .ok (.invokevirtual 138, 3) := by decide +kernel
theorem dX9_text_178 : decode cX9_text 178 = .ok (.ifCond .eq 18, 3) := by decide +kernel
theorem dX9_text_181 : decode cX9_text 181 = .ok (.aload_n 0, 1) := by decide +kernel
theorem dX9_text_182 : decode cX9_text 182 = .ok (.aload_n 0, 1) := by decide +kernel
theorem dX9_text_183 : decode cX9_text 183 = .ok (.getfield 10, 3) := by decide +kernel
theorem dX9_text_186 : decode cX9_text 186 = .ok (.getfield 145, 3) := by decide +kernel
theorem dX9_text_189 : decode cX9_text 189 = .ok (.invokevirtual 134, 3) := by decide +kernel
theorem dX9_text_192 : decode cX9_text 192 = .ok (.istore_n 2, 1) := by decide +kernel
theorem dX9_text_193 : decode cX9_text 193 = .ok (.goto 3, 3) := by decide +kernel
theorem dX9_text_196 : decode cX9_text 196 = .ok (.aload_n 0, 1) := by decide +kernel
theorem dX9_text_197 : decode cX9_text 197 = .ok (.getfield 40, 3) := by decide +kernel
theorem dX9_text_200 : decode cX9_text 200 = .ok (.iconst 0, 1) := by decide +kernel
theorem dX9_text_201 : decode cX9_text 201 = .ok (.putfield 99, 3) := by decide +kernel
theorem dX9_text_204 : decode cX9_text 204 = .ok (.iload_n 2, 1) := by decide +kernel
theorem dX9_text_205 : decode cX9_text 205 = .ok (.ireturn, 1) := by decide +kernel
theorem dX9_tellRows_0 : decode cX9_tellRows 0 = .ok (.aload_n 1, 1) := by decide +kernel
theorem dX9_tellRows_1 : decode cX9_tellRows 1 = .ok (.aload_n 0, 1) := by decide +kernel
theorem dX9_tellRows_2 : decode cX9_tellRows 2 = .ok (.getfield 40, 3) := by decide +kernel
theorem dX9_tellRows_5 : decode cX9_tellRows 5 = .ok (.getfield 148, 3) := by decide +kernel
theorem dX9_tellRows_8 : decode cX9_tellRows 8 = .ok (.invokevirtual 150, 3) := by decide +kernel
theorem dX9_tellRows_11 : decode cX9_tellRows 11 = .ok (.aload_n 1, 1) := by decide +kernel
theorem dX9_tellRows_12 : decode cX9_tellRows 12 = .ok (.getfield 79, 3) := by decide +kernel
theorem dX9_tellRows_15 : decode cX9_tellRows 15 = .ok (.ireturn, 1) := by decide +kernel
theorem dX9_fault_0 : decode cX9_fault 0 = .ok (.iload_n 1, 1) := by decide +kernel
theorem dX9_fault_1 : decode cX9_fault 1 = .ok (.ifCond .ne 11, 3) := by decide +kernel
theorem dX9_fault_4 : decode cX9_fault 4 = .ok (.aload_n 0, 1) := by decide +kernel
theorem dX9_fault_5 : decode cX9_fault 5 = .ok (.getfield 40, 3) := by decide +kernel
theorem dX9_fault_8 : decode cX9_fault 8 = .ok (.getfield 153, 3) := by decide +kernel
theorem dX9_fault_11 : decode cX9_fault 11 = .ok (.ireturn, 1) := by decide +kernel
theorem dX9_fault_12 : decode cX9_fault 12 = .ok (.iload_n 1, 1) := by decide +kernel
theorem dX9_fault_13 : decode cX9_fault 13 = .ok (.iconst 1, 1) := by decide +kernel
theorem dX9_fault_14 : decode cX9_fault 14 = .ok (.if_icmp .ne 13, 3) := by decide +kernel
theorem dX9_fault_17 : decode cX9_fault 17 = .ok (.aload_n 0, 1) := by decide +kernel
theorem dX9_fault_18 : decode cX9_fault 18 = .ok (.getfield 40, 3) := by decide +kernel
theorem dX9_fault_21 : decode cX9_fault 21 = .ok (.getfield 156, 3) := by decide +kernel
theorem dX9_fault_24 : decode cX9_fault 24 = .ok (.goto 4, 3) := by decide +kernel
theorem dX9_fault_27 : decode cX9_fault 27 = .ok (.iconst (-1), 1) := by decide +kernel
theorem dX9_fault_28 : decode cX9_fault 28 = .ok (.ireturn, 1) := by decide +kernel
theorem dX9_of_0 : decode cX9_of 0 = .ok (.aload_n 0, 1) := by decide +kernel
theorem dX9_of_1 : decode cX9_of 1 = .ok (.getfield 10, 3) := by decide +kernel
theorem dX9_of_4 : decode cX9_of 4 = .ok (.getfield 44, 3) := by decide +kernel
theorem dX9_of_7 : decode cX9_of 7 = .ok (.astore_n 3, 1) := by decide +kernel
theorem dX9_of_8 : decode cX9_of 8 = .ok (.aload_n 3, 1) := by decide +kernel
theorem dX9_of_9 : decode cX9_of 9 = .ok (.iload_n 1, 1) := by decide +kernel
theorem dX9_of_10 : decode cX9_of 10 = .ok (.invokevirtual 159, 3) := by decide +kernel
theorem dX9_of_13 : decode cX9_of 13 = .ok (.ifCond .ne 6, 3) := by decide +kernel
theorem dX9_of_16 : decode cX9_of 16 = .ok (.bipush (-2), 2) := by decide +kernel
theorem dX9_of_18 : decode cX9_of 18 = .ok (.ireturn, 1) := by decide +kernel
theorem dX9_of_19 : decode cX9_of 19 = .ok (.iload_n 2, 1) := by decide +kernel
theorem dX9_of_20 : decode cX9_of 20 = .ok (.tableswitch 194 0 12 #[68, 75, 82, 89, 96, 103, 110, 117, 126, 135, 146, 157, 168], 68) := by decide +kernel
theorem dX9_of_88 : decode cX9_of 88 = .ok (.aload_n 3, 1) := by decide +kernel
theorem dX9_of_89 : decode cX9_of 89 = .ok (.getfield 162, 3) := by decide +kernel
theorem dX9_of_92 : decode cX9_of 92 = .ok (.iload_n 1, 1) := by decide +kernel
theorem dX9_of_93 : decode cX9_of 93 = .ok (.iaload, 1) := by decide +kernel
theorem dX9_of_94 : decode cX9_of 94 = .ok (.ireturn, 1) := by decide +kernel
theorem dX9_of_95 : decode cX9_of 95 = .ok (.aload_n 3, 1) := by decide +kernel
theorem dX9_of_96 : decode cX9_of 96 = .ok (.getfield 166, 3) := by decide +kernel
theorem dX9_of_99 : decode cX9_of 99 = .ok (.iload_n 1, 1) := by decide +kernel
theorem dX9_of_100 : decode cX9_of 100 = .ok (.iaload, 1) := by decide +kernel
theorem dX9_of_101 : decode cX9_of 101 = .ok (.ireturn, 1) := by decide +kernel
theorem dX9_of_102 : decode cX9_of 102 = .ok (.aload_n 3, 1) := by decide +kernel
theorem dX9_of_103 : decode cX9_of 103 = .ok (.getfield 169, 3) := by decide +kernel
theorem dX9_of_106 : decode cX9_of 106 = .ok (.iload_n 1, 1) := by decide +kernel
theorem dX9_of_107 : decode cX9_of 107 = .ok (.iaload, 1) := by decide +kernel
theorem dX9_of_108 : decode cX9_of 108 = .ok (.ireturn, 1) := by decide +kernel
theorem dX9_of_109 : decode cX9_of 109 = .ok (.aload_n 3, 1) := by decide +kernel
theorem dX9_of_110 : decode cX9_of 110 = .ok (.getfield 172, 3) := by decide +kernel
theorem dX9_of_113 : decode cX9_of 113 = .ok (.iload_n 1, 1) := by decide +kernel
theorem dX9_of_114 : decode cX9_of 114 = .ok (.iaload, 1) := by decide +kernel
theorem dX9_of_115 : decode cX9_of 115 = .ok (.ireturn, 1) := by decide +kernel
theorem dX9_of_116 : decode cX9_of 116 = .ok (.aload_n 3, 1) := by decide +kernel
theorem dX9_of_117 : decode cX9_of 117 = .ok (.getfield 175, 3) := by decide +kernel
theorem dX9_of_120 : decode cX9_of 120 = .ok (.iload_n 1, 1) := by decide +kernel
theorem dX9_of_121 : decode cX9_of 121 = .ok (.iaload, 1) := by decide +kernel
theorem dX9_of_122 : decode cX9_of 122 = .ok (.ireturn, 1) := by decide +kernel
theorem dX9_of_123 : decode cX9_of 123 = .ok (.aload_n 3, 1) := by decide +kernel
theorem dX9_of_124 : decode cX9_of 124 = .ok (.getfield 178, 3) := by decide +kernel
theorem dX9_of_127 : decode cX9_of 127 = .ok (.iload_n 1, 1) := by decide +kernel
theorem dX9_of_128 : decode cX9_of 128 = .ok (.iaload, 1) := by decide +kernel
theorem dX9_of_129 : decode cX9_of 129 = .ok (.ireturn, 1) := by decide +kernel
theorem dX9_of_130 : decode cX9_of 130 = .ok (.aload_n 3, 1) := by decide +kernel
theorem dX9_of_131 : decode cX9_of 131 = .ok (.getfield 181, 3) := by decide +kernel
theorem dX9_of_134 : decode cX9_of 134 = .ok (.iload_n 1, 1) := by decide +kernel
theorem dX9_of_135 : decode cX9_of 135 = .ok (.iaload, 1) := by decide +kernel
theorem dX9_of_136 : decode cX9_of 136 = .ok (.ireturn, 1) := by decide +kernel
theorem dX9_of_137 : decode cX9_of 137 = .ok (.aload_n 0, 1) := by decide +kernel
theorem dX9_of_138 : decode cX9_of 138 = .ok (.getfield 10, 3) := by decide +kernel
theorem dX9_of_141 : decode cX9_of 141 = .ok (.iload_n 1, 1) := by decide +kernel
theorem dX9_of_142 : decode cX9_of 142 = .ok (.invokevirtual 184, 3) := by decide +kernel
theorem dX9_of_145 : decode cX9_of 145 = .ok (.ireturn, 1) := by decide +kernel
theorem dX9_of_146 : decode cX9_of 146 = .ok (.aload_n 0, 1) := by decide +kernel
theorem dX9_of_147 : decode cX9_of 147 = .ok (.getfield 10, 3) := by decide +kernel
theorem dX9_of_150 : decode cX9_of 150 = .ok (.iload_n 1, 1) := by decide +kernel
theorem dX9_of_151 : decode cX9_of 151 = .ok (.invokevirtual 188, 3) := by decide +kernel
theorem dX9_of_154 : decode cX9_of 154 = .ok (.ireturn, 1) := by decide +kernel
theorem dX9_of_155 : decode cX9_of 155 = .ok (.aload_n 0, 1) := by decide +kernel
theorem dX9_of_156 : decode cX9_of 156 = .ok (.getfield 10, 3) := by decide +kernel
theorem dX9_of_159 : decode cX9_of 159 = .ok (.aload_n 3, 1) := by decide +kernel
theorem dX9_of_160 : decode cX9_of 160 = .ok (.iload_n 1, 1) := by decide +kernel
theorem dX9_of_161 : decode cX9_of 161 = .ok (.iconst 0, 1) := by decide +kernel
theorem dX9_of_162 : decode cX9_of 162 = .ok (.invokevirtual 191, 3) := by decide +kernel
theorem dX9_of_165 : decode cX9_of 165 = .ok (.ireturn, 1) := by decide +kernel
theorem dX9_of_166 : decode cX9_of 166 = .ok (.aload_n 0, 1) := by decide +kernel
theorem dX9_of_167 : decode cX9_of 167 = .ok (.getfield 10, 3) := by decide +kernel
theorem dX9_of_170 : decode cX9_of 170 = .ok (.aload_n 3, 1) := by decide +kernel
theorem dX9_of_171 : decode cX9_of 171 = .ok (.iload_n 1, 1) := by decide +kernel
theorem dX9_of_172 : decode cX9_of 172 = .ok (.iconst 1, 1) := by decide +kernel
theorem dX9_of_173 : decode cX9_of 173 = .ok (.invokevirtual 191, 3) := by decide +kernel
theorem dX9_of_176 : decode cX9_of 176 = .ok (.ireturn, 1) := by decide +kernel
theorem dX9_of_177 : decode cX9_of 177 = .ok (.aload_n 0, 1) := by decide +kernel
theorem dX9_of_178 : decode cX9_of 178 = .ok (.getfield 10, 3) := by decide +kernel
theorem dX9_of_181 : decode cX9_of 181 = .ok (.aload_n 3, 1) := by decide +kernel
theorem dX9_of_182 : decode cX9_of 182 = .ok (.iload_n 1, 1) := by decide +kernel
theorem dX9_of_183 : decode cX9_of 183 = .ok (.iconst 2, 1) := by decide +kernel
theorem dX9_of_184 : decode cX9_of 184 = .ok (.invokevirtual 191, 3) := by decide +kernel
theorem dX9_of_187 : decode cX9_of 187 = .ok (.ireturn, 1) := by decide +kernel
theorem dX9_of_188 : decode cX9_of 188 = .ok (.aload_n 3, 1) := by decide +kernel
theorem dX9_of_189 : decode cX9_of 189 = .ok (.iload_n 1, 1) := by decide +kernel
theorem dX9_of_190 : decode cX9_of 190 = .ok (.invokevirtual 195, 3) := by decide +kernel
theorem dX9_of_193 : decode cX9_of 193 = .ok (.ifCond .ne 19, 3) := by decide +kernel
theorem dX9_of_196 : decode cX9_of 196 = .ok (.aload_n 0, 1) := by decide +kernel
theorem dX9_of_197 : decode cX9_of 197 = .ok (.getfield 10, 3) := by decide +kernel
theorem dX9_of_200 : decode cX9_of 200 = .ok (.aload_n 3, 1) := by decide +kernel
theorem dX9_of_201 : decode cX9_of 201 = .ok (.iload_n 1, 1) := by decide +kernel
theorem dX9_of_202 : decode cX9_of 202 = .ok (.invokevirtual 198, 3) := by decide +kernel
theorem dX9_of_205 : decode cX9_of 205 = .ok (.ifCond .eq 7, 3) := by decide +kernel
theorem dX9_of_208 : decode cX9_of 208 = .ok (.iconst 1, 1) := by decide +kernel
theorem dX9_of_209 : decode cX9_of 209 = .ok (.goto 4, 3) := by decide +kernel
theorem dX9_of_212 : decode cX9_of 212 = .ok (.iconst 0, 1) := by decide +kernel
theorem dX9_of_213 : decode cX9_of 213 = .ok (.ireturn, 1) := by decide +kernel
theorem dX9_of_214 : decode cX9_of 214 = .ok (.bipush (-2), 2) := by decide +kernel
theorem dX9_of_216 : decode cX9_of 216 = .ok (.ireturn, 1) := by decide +kernel
theorem dX9_who_0 : decode cX9_who 0 = .ok (.aload_n 0, 1) := by decide +kernel
theorem dX9_who_1 : decode cX9_who 1 = .ok (.getfield 10, 3) := by decide +kernel
theorem dX9_who_4 : decode cX9_who 4 = .ok (.getfield 44, 3) := by decide +kernel
theorem dX9_who_7 : decode cX9_who 7 = .ok (.iload_n 1, 1) := by decide +kernel
theorem dX9_who_8 : decode cX9_who 8 = .ok (.invokevirtual 202, 3) := by decide +kernel
theorem dX9_who_11 : decode cX9_who 11 = .ok (.ifCond .ne 5, 3) := by decide +kernel
theorem dX9_who_14 : decode cX9_who 14 = .ok (.iconst (-1), 1) := by decide +kernel
theorem dX9_who_15 : decode cX9_who 15 = .ok (.ireturn, 1) := by decide +kernel
theorem dX9_who_16 : decode cX9_who 16 = .ok (.iload_n 2, 1) := by decide +kernel
theorem dX9_who_17 : decode cX9_who 17 = .ok (.tableswitch 79 0 3 #[31, 44, 57, 70], 31) := by decide +kernel
theorem dX9_who_48 : decode cX9_who 48 = .ok (.aload_n 0, 1) := by decide +kernel
theorem dX9_who_49 : decode cX9_who 49 = .ok (.getfield 10, 3) := by decide +kernel
theorem dX9_who_52 : decode cX9_who 52 = .ok (.getfield 44, 3) := by decide +kernel
theorem dX9_who_55 : decode cX9_who 55 = .ok (.getfield 205, 3) := by decide +kernel
theorem dX9_who_58 : decode cX9_who 58 = .ok (.iload_n 1, 1) := by decide +kernel
theorem dX9_who_59 : decode cX9_who 59 = .ok (.iaload, 1) := by decide +kernel
theorem dX9_who_60 : decode cX9_who 60 = .ok (.ireturn, 1) := by decide +kernel
theorem dX9_who_61 : decode cX9_who 61 = .ok (.aload_n 0, 1) := by decide +kernel
theorem dX9_who_62 : decode cX9_who 62 = .ok (.getfield 10, 3) := by decide +kernel
theorem dX9_who_65 : decode cX9_who 65 = .ok (.getfield 44, 3) := by decide +kernel
theorem dX9_who_68 : decode cX9_who 68 = .ok (.getfield 208, 3) := by decide +kernel
theorem dX9_who_71 : decode cX9_who 71 = .ok (.iload_n 1, 1) := by decide +kernel
theorem dX9_who_72 : decode cX9_who 72 = .ok (.iaload, 1) := by decide +kernel
theorem dX9_who_73 : decode cX9_who 73 = .ok (.ireturn, 1) := by decide +kernel
theorem dX9_who_74 : decode cX9_who 74 = .ok (.aload_n 0, 1) := by decide +kernel
theorem dX9_who_75 : decode cX9_who 75 = .ok (.getfield 10, 3) := by decide +kernel
theorem dX9_who_78 : decode cX9_who 78 = .ok (.getfield 44, 3) := by decide +kernel
theorem dX9_who_81 : decode cX9_who 81 = .ok (.getfield 211, 3) := by decide +kernel
theorem dX9_who_84 : decode cX9_who 84 = .ok (.iload_n 1, 1) := by decide +kernel
theorem dX9_who_85 : decode cX9_who 85 = .ok (.iaload, 1) := by decide +kernel
theorem dX9_who_86 : decode cX9_who 86 = .ok (.ireturn, 1) := by decide +kernel
theorem dX9_who_87 : decode cX9_who 87 = .ok (.aload_n 0, 1) := by decide +kernel
theorem dX9_who_88 : decode cX9_who 88 = .ok (.getfield 10, 3) := by decide +kernel
theorem dX9_who_91 : decode cX9_who 91 = .ok (.iload_n 1, 1) := by decide +kernel
theorem dX9_who_92 : decode cX9_who 92 = .ok (.invokevirtual 214, 3) := by decide +kernel
theorem dX9_who_95 : decode cX9_who 95 = .ok (.ireturn, 1) := by decide +kernel
theorem dX9_who_96 : decode cX9_who 96 = .ok (.iconst (-1), 1) := by decide +kernel
theorem dX9_who_97 : decode cX9_who 97 = .ok (.ireturn, 1) := by decide +kernel
theorem dX9_book_0 : decode cX9_book 0 = .ok (.aload_n 0, 1) := by decide +kernel
theorem dX9_book_1 : decode cX9_book 1 = .ok (.getfield 10, 3) := by decide +kernel
theorem dX9_book_4 : decode cX9_book 4 = .ok (.getfield 75, 3) := by decide +kernel
theorem dX9_book_7 : decode cX9_book 7 = .ok (.iload_n 1, 1) := by decide +kernel
theorem dX9_book_8 : decode cX9_book 8 = .ok (.iload_n 2, 1) := by decide +kernel
theorem dX9_book_9 : decode cX9_book 9 = .ok (.invokevirtual 217, 3) := by decide +kernel
theorem dX9_book_12 : decode cX9_book 12 = .ok (.ireturn, 1) := by decide +kernel
theorem dX9_look_0 : decode cX9_look 0 = .ok (.iload_n 1, 1) := by decide +kernel
theorem dX9_look_1 : decode cX9_look 1 = .ok (.tableswitch 210 0 12 #[67, 78, 89, 100, 111, 122, 133, 144, 155, 169, 180, 191, 202], 67) := by decide +kernel
theorem dX9_look_68 : decode cX9_look 68 = .ok (.aload_n 0, 1) := by decide +kernel
theorem dX9_look_69 : decode cX9_look 69 = .ok (.getfield 10, 3) := by decide +kernel
theorem dX9_look_72 : decode cX9_look 72 = .ok (.getfield 44, 3) := by decide +kernel
theorem dX9_look_75 : decode cX9_look 75 = .ok (.getfield 220, 3) := by decide +kernel
theorem dX9_look_78 : decode cX9_look 78 = .ok (.ireturn, 1) := by decide +kernel
theorem dX9_look_79 : decode cX9_look 79 = .ok (.aload_n 0, 1) := by decide +kernel
theorem dX9_look_80 : decode cX9_look 80 = .ok (.getfield 10, 3) := by decide +kernel
theorem dX9_look_83 : decode cX9_look 83 = .ok (.getfield 44, 3) := by decide +kernel
theorem dX9_look_86 : decode cX9_look 86 = .ok (.getfield 223, 3) := by decide +kernel
theorem dX9_look_89 : decode cX9_look 89 = .ok (.ireturn, 1) := by decide +kernel
theorem dX9_look_90 : decode cX9_look 90 = .ok (.aload_n 0, 1) := by decide +kernel
theorem dX9_look_91 : decode cX9_look 91 = .ok (.getfield 10, 3) := by decide +kernel
theorem dX9_look_94 : decode cX9_look 94 = .ok (.getfield 44, 3) := by decide +kernel
theorem dX9_look_97 : decode cX9_look 97 = .ok (.getfield 226, 3) := by decide +kernel
theorem dX9_look_100 : decode cX9_look 100 = .ok (.ireturn, 1) := by decide +kernel
theorem dX9_look_101 : decode cX9_look 101 = .ok (.aload_n 0, 1) := by decide +kernel
theorem dX9_look_102 : decode cX9_look 102 = .ok (.getfield 10, 3) := by decide +kernel
theorem dX9_look_105 : decode cX9_look 105 = .ok (.getfield 44, 3) := by decide +kernel
theorem dX9_look_108 : decode cX9_look 108 = .ok (.getfield 229, 3) := by decide +kernel
theorem dX9_look_111 : decode cX9_look 111 = .ok (.ireturn, 1) := by decide +kernel
theorem dX9_look_112 : decode cX9_look 112 = .ok (.aload_n 0, 1) := by decide +kernel
theorem dX9_look_113 : decode cX9_look 113 = .ok (.getfield 10, 3) := by decide +kernel
theorem dX9_look_116 : decode cX9_look 116 = .ok (.getfield 44, 3) := by decide +kernel
theorem dX9_look_119 : decode cX9_look 119 = .ok (.invokevirtual 232, 3) := by decide +kernel
theorem dX9_look_122 : decode cX9_look 122 = .ok (.ireturn, 1) := by decide +kernel
theorem dX9_look_123 : decode cX9_look 123 = .ok (.aload_n 0, 1) := by decide +kernel
theorem dX9_look_124 : decode cX9_look 124 = .ok (.getfield 10, 3) := by decide +kernel
theorem dX9_look_127 : decode cX9_look 127 = .ok (.getfield 44, 3) := by decide +kernel
theorem dX9_look_130 : decode cX9_look 130 = .ok (.getfield 92, 3) := by decide +kernel
theorem dX9_look_133 : decode cX9_look 133 = .ok (.ireturn, 1) := by decide +kernel
theorem dX9_look_134 : decode cX9_look 134 = .ok (.aload_n 0, 1) := by decide +kernel
theorem dX9_look_135 : decode cX9_look 135 = .ok (.getfield 10, 3) := by decide +kernel
theorem dX9_look_138 : decode cX9_look 138 = .ok (.getfield 75, 3) := by decide +kernel
theorem dX9_look_141 : decode cX9_look 141 = .ok (.getfield 79, 3) := by decide +kernel
theorem dX9_look_144 : decode cX9_look 144 = .ok (.ireturn, 1) := by decide +kernel
theorem dX9_look_145 : decode cX9_look 145 = .ok (.aload_n 0, 1) := by decide +kernel
theorem dX9_look_146 : decode cX9_look 146 = .ok (.getfield 10, 3) := by decide +kernel
theorem dX9_look_149 : decode cX9_look 149 = .ok (.getfield 44, 3) := by decide +kernel
theorem dX9_look_152 : decode cX9_look 152 = .ok (.getfield 47, 3) := by decide +kernel
theorem dX9_look_155 : decode cX9_look 155 = .ok (.ireturn, 1) := by decide +kernel
theorem dX9_look_156 : decode cX9_look 156 = .ok (.aload_n 0, 1) := by decide +kernel
theorem dX9_look_157 : decode cX9_look 157 = .ok (.getfield 10, 3) := by decide +kernel
theorem dX9_look_160 : decode cX9_look 160 = .ok (.getfield 113, 3) := by decide +kernel
theorem dX9_look_163 : decode cX9_look 163 = .ok (.getfield 124, 3) := by decide +kernel
theorem dX9_look_166 : decode cX9_look 166 = .ok (.getfield 79, 3) := by decide +kernel
theorem dX9_look_169 : decode cX9_look 169 = .ok (.ireturn, 1) := by decide +kernel
theorem dX9_look_170 : decode cX9_look 170 = .ok (.aload_n 0, 1) := by decide +kernel
theorem dX9_look_171 : decode cX9_look 171 = .ok (.getfield 10, 3) := by decide +kernel
theorem dX9_look_174 : decode cX9_look 174 = .ok (.getfield 131, 3) := by decide +kernel
theorem dX9_look_177 : decode cX9_look 177 = .ok (.getfield 79, 3) := by decide +kernel
theorem dX9_look_180 : decode cX9_look 180 = .ok (.ireturn, 1) := by decide +kernel
theorem dX9_look_181 : decode cX9_look 181 = .ok (.aload_n 0, 1) := by decide +kernel
theorem dX9_look_182 : decode cX9_look 182 = .ok (.getfield 10, 3) := by decide +kernel
theorem dX9_look_185 : decode cX9_look 185 = .ok (.getfield 142, 3) := by decide +kernel
theorem dX9_look_188 : decode cX9_look 188 = .ok (.getfield 79, 3) := by decide +kernel
theorem dX9_look_191 : decode cX9_look 191 = .ok (.ireturn, 1) := by decide +kernel
theorem dX9_look_192 : decode cX9_look 192 = .ok (.aload_n 0, 1) := by decide +kernel
theorem dX9_look_193 : decode cX9_look 193 = .ok (.getfield 10, 3) := by decide +kernel
theorem dX9_look_196 : decode cX9_look 196 = .ok (.getfield 145, 3) := by decide +kernel
theorem dX9_look_199 : decode cX9_look 199 = .ok (.getfield 79, 3) := by decide +kernel
theorem dX9_look_202 : decode cX9_look 202 = .ok (.ireturn, 1) := by decide +kernel
theorem dX9_look_203 : decode cX9_look 203 = .ok (.aload_n 0, 1) := by decide +kernel
theorem dX9_look_204 : decode cX9_look 204 = .ok (.getfield 33, 3) := by decide +kernel
theorem dX9_look_207 : decode cX9_look 207 = .ok (.getfield 236, 3) := by decide +kernel
theorem dX9_look_210 : decode cX9_look 210 = .ok (.ireturn, 1) := by decide +kernel
theorem dX9_look_211 : decode cX9_look 211 = .ok (.ldc 239, 2) := by decide +kernel
theorem dX9_look_213 : decode cX9_look 213 = .ok (.ireturn, 1) := by decide +kernel
theorem dX9_goes_0 : decode cX9_goes 0 = .ok (.iload_n 1, 1) := by decide +kernel
theorem dX9_goes_1 : decode cX9_goes 1 = .ok (.iconst 1, 1) := by decide +kernel
theorem dX9_goes_2 : decode cX9_goes 2 = .ok (.if_icmp .lt 18, 3) := by decide +kernel
theorem dX9_goes_5 : decode cX9_goes 5 = .ok (.iload_n 1, 1) := by decide +kernel
theorem dX9_goes_6 : decode cX9_goes 6 = .ok (.bipush 60, 2) := by decide +kernel
theorem dX9_goes_8 : decode cX9_goes 8 = .ok (.if_icmp .gt 12, 3) := by decide +kernel
theorem dX9_goes_11 : decode cX9_goes 11 = .ok (.iload_n 2, 1) := by decide +kernel
theorem dX9_goes_12 : decode cX9_goes 12 = .ok (.ifCond .lt 8, 3) := by decide +kernel
theorem dX9_goes_15 : decode cX9_goes 15 = .ok (.iload_n 2, 1) := by decide +kernel
theorem dX9_goes_16 : decode cX9_goes 16 = .ok (.iconst 3, 1) := by decide +kernel
theorem dX9_goes_17 : decode cX9_goes 17 = .ok (.if_icmp .le 7, 3) := by decide +kernel
theorem dX9_goes_20 : decode cX9_goes 20 = .ok (.sipush (-1000), 3) := by decide +kernel
theorem dX9_goes_23 : decode cX9_goes 23 = .ok (.ireturn, 1) := by decide +kernel
theorem dX9_goes_24 : decode cX9_goes 24 = .ok (.aload_n 0, 1) := by decide +kernel
theorem dX9_goes_25 : decode cX9_goes 25 = .ok (.getfield 26, 3) := by decide +kernel
theorem dX9_goes_28 : decode cX9_goes 28 = .ok (.aload_n 0, 1) := by decide +kernel
theorem dX9_goes_29 : decode cX9_goes 29 = .ok (.getfield 10, 3) := by decide +kernel
theorem dX9_goes_32 : decode cX9_goes 32 = .ok (.getfield 44, 3) := by decide +kernel
theorem dX9_goes_35 : decode cX9_goes 35 = .ok (.invokevirtual 240, 3) := by decide +kernel
theorem dX9_goes_38 : decode cX9_goes 38 = .ok (.iconst 0, 1) := by decide +kernel
theorem dX9_goes_39 : decode cX9_goes 39 = .ok (.istore_n 3, 1) := by decide +kernel
theorem dX9_goes_40 : decode cX9_goes 40 = .ok (.iload_n 3, 1) := by decide +kernel
theorem dX9_goes_41 : decode cX9_goes 41 = .ok (.iload_n 1, 1) := by decide +kernel
theorem dX9_goes_42 : decode cX9_goes 42 = .ok (.if_icmp .ge 22, 3) := by decide +kernel
theorem dX9_goes_45 : decode cX9_goes 45 = .ok (.aload_n 0, 1) := by decide +kernel
theorem dX9_goes_46 : decode cX9_goes 46 = .ok (.getfield 10, 3) := by decide +kernel
theorem dX9_goes_49 : decode cX9_goes 49 = .ok (.aload_n 0, 1) := by decide +kernel
theorem dX9_goes_50 : decode cX9_goes 50 = .ok (.getfield 26, 3) := by decide +kernel
theorem dX9_goes_53 : decode cX9_goes 53 = .ok (.iconst 1, 1) := by decide +kernel
theorem dX9_goes_54 : decode cX9_goes 54 = .ok (.invokevirtual 95, 3) := by decide +kernel
theorem dX9_goes_57 : decode cX9_goes 57 = .ok (.pop, 1) := by decide +kernel
theorem dX9_goes_58 : decode cX9_goes 58 = .ok (.iinc 3 1, 3) := by decide +kernel
theorem dX9_goes_61 : decode cX9_goes 61 = .ok (.goto (-21), 3) := by decide +kernel
theorem dX9_goes_64 : decode cX9_goes 64 = .ok (.iload_n 2, 1) := by decide +kernel
theorem dX9_goes_65 : decode cX9_goes 65 = .ok (.tableswitch 65 0 2 #[27, 35, 50], 27) := by decide +kernel
theorem dX9_goes_92 : decode cX9_goes 92 = .ok (.aload_n 0, 1) := by decide +kernel
theorem dX9_goes_93 : decode cX9_goes 93 = .ok (.getfield 26, 3) := by decide +kernel
theorem dX9_goes_96 : decode cX9_goes 96 = .ok (.getfield 226, 3) := by decide +kernel
theorem dX9_goes_99 : decode cX9_goes 99 = .ok (.ireturn, 1) := by decide +kernel
theorem dX9_goes_100 : decode cX9_goes 100 = .ok (.aload_n 0, 1) := by decide +kernel
theorem dX9_goes_101 : decode cX9_goes 101 = .ok (.getfield 26, 3) := by decide +kernel
theorem dX9_goes_104 : decode cX9_goes 104 = .ok (.aload_n 0, 1) := by decide +kernel
theorem dX9_goes_105 : decode cX9_goes 105 = .ok (.getfield 26, 3) := by decide +kernel
theorem dX9_goes_108 : decode cX9_goes 108 = .ok (.getfield 181, 3) := by decide +kernel
theorem dX9_goes_111 : decode cX9_goes 111 = .ok (.invokevirtual 243, 3) := by decide +kernel
theorem dX9_goes_114 : decode cX9_goes 114 = .ok (.ireturn, 1) := by decide +kernel
theorem dX9_goes_115 : decode cX9_goes 115 = .ok (.aload_n 0, 1) := by decide +kernel
theorem dX9_goes_116 : decode cX9_goes 116 = .ok (.getfield 26, 3) := by decide +kernel
theorem dX9_goes_119 : decode cX9_goes 119 = .ok (.aload_n 0, 1) := by decide +kernel
theorem dX9_goes_120 : decode cX9_goes 120 = .ok (.getfield 26, 3) := by decide +kernel
theorem dX9_goes_123 : decode cX9_goes 123 = .ok (.getfield 175, 3) := by decide +kernel
theorem dX9_goes_126 : decode cX9_goes 126 = .ok (.invokevirtual 243, 3) := by decide +kernel
theorem dX9_goes_129 : decode cX9_goes 129 = .ok (.ireturn, 1) := by decide +kernel
theorem dX9_goes_130 : decode cX9_goes 130 = .ok (.aload_n 0, 1) := by decide +kernel
theorem dX9_goes_131 : decode cX9_goes 131 = .ok (.getfield 26, 3) := by decide +kernel
theorem dX9_goes_134 : decode cX9_goes 134 = .ok (.aload_n 0, 1) := by decide +kernel
theorem dX9_goes_135 : decode cX9_goes 135 = .ok (.getfield 26, 3) := by decide +kernel
theorem dX9_goes_138 : decode cX9_goes 138 = .ok (.getfield 169, 3) := by decide +kernel
theorem dX9_goes_141 : decode cX9_goes 141 = .ok (.invokevirtual 243, 3) := by decide +kernel
theorem dX9_goes_144 : decode cX9_goes 144 = .ok (.ireturn, 1) := by decide +kernel
theorem dX9_peace_0 : decode cX9_peace 0 = .ok (.aload_n 0, 1) := by decide +kernel
theorem dX9_peace_1 : decode cX9_peace 1 = .ok (.getfield 26, 3) := by decide +kernel
theorem dX9_peace_4 : decode cX9_peace 4 = .ok (.aload_n 0, 1) := by decide +kernel
theorem dX9_peace_5 : decode cX9_peace 5 = .ok (.getfield 10, 3) := by decide +kernel
theorem dX9_peace_8 : decode cX9_peace 8 = .ok (.getfield 44, 3) := by decide +kernel
theorem dX9_peace_11 : decode cX9_peace 11 = .ok (.invokevirtual 240, 3) := by decide +kernel
theorem dX9_peace_14 : decode cX9_peace 14 = .ok (.iconst 0, 1) := by decide +kernel
theorem dX9_peace_15 : decode cX9_peace 15 = .ok (.istore_n 1, 1) := by decide +kernel
theorem dX9_peace_16 : decode cX9_peace 16 = .ok (.iload_n 1, 1) := by decide +kernel
theorem dX9_peace_17 : decode cX9_peace 17 = .ok (.bipush 60, 2) := by decide +kernel
theorem dX9_peace_19 : decode cX9_peace 19 = .ok (.if_icmp .ge 35, 3) := by decide +kernel
theorem dX9_peace_22 : decode cX9_peace 22 = .ok (.aload_n 0, 1) := by decide +kernel
theorem dX9_peace_23 : decode cX9_peace 23 = .ok (.getfield 26, 3) := by decide +kernel
theorem dX9_peace_26 : decode cX9_peace 26 = .ok (.getfield 229, 3) := by decide +kernel
theorem dX9_peace_29 : decode cX9_peace 29 = .ok (.iconst (-1), 1) := by decide +kernel
theorem dX9_peace_30 : decode cX9_peace 30 = .ok (.if_icmp .eq 5, 3) := by decide +kernel
theorem dX9_peace_33 : decode cX9_peace 33 = .ok (.iload_n 1, 1) := by decide +kernel
theorem dX9_peace_34 : decode cX9_peace 34 = .ok (.ireturn, 1) := by decide +kernel
theorem dX9_peace_35 : decode cX9_peace 35 = .ok (.aload_n 0, 1) := by decide +kernel
theorem dX9_peace_36 : decode cX9_peace 36 = .ok (.getfield 10, 3) := by decide +kernel
theorem dX9_peace_39 : decode cX9_peace 39 = .ok (.aload_n 0, 1) := by decide +kernel
theorem dX9_peace_40 : decode cX9_peace 40 = .ok (.getfield 26, 3) := by decide +kernel
theorem dX9_peace_43 : decode cX9_peace 43 = .ok (.iconst 1, 1) := by decide +kernel
theorem dX9_peace_44 : decode cX9_peace 44 = .ok (.invokevirtual 95, 3) := by decide +kernel
theorem dX9_peace_47 : decode cX9_peace 47 = .ok (.pop, 1) := by decide +kernel
theorem dX9_peace_48 : decode cX9_peace 48 = .ok (.iinc 1 1, 3) := by decide +kernel
theorem dX9_peace_51 : decode cX9_peace 51 = .ok (.goto (-35), 3) := by decide +kernel
theorem dX9_peace_54 : decode cX9_peace 54 = .ok (.aload_n 0, 1) := by decide +kernel
theorem dX9_peace_55 : decode cX9_peace 55 = .ok (.getfield 26, 3) := by decide +kernel
theorem dX9_peace_58 : decode cX9_peace 58 = .ok (.getfield 229, 3) := by decide +kernel
theorem dX9_peace_61 : decode cX9_peace 61 = .ok (.iconst (-1), 1) := by decide +kernel
theorem dX9_peace_62 : decode cX9_peace 62 = .ok (.if_icmp .eq 8, 3) := by decide +kernel
theorem dX9_peace_65 : decode cX9_peace 65 = .ok (.bipush 60, 2) := by decide +kernel
theorem dX9_peace_67 : decode cX9_peace 67 = .ok (.goto 4, 3) := by decide +kernel
theorem dX9_peace_70 : decode cX9_peace 70 = .ok (.iconst (-1), 1) := by decide +kernel
theorem dX9_peace_71 : decode cX9_peace 71 = .ok (.ireturn, 1) := by decide +kernel
theorem dX9_guess_0 : decode cX9_guess 0 = .ok (.iload_n 1, 1) := by decide +kernel
theorem dX9_guess_1 : decode cX9_guess 1 = .ok (.iconst (-1), 1) := by decide +kernel
theorem dX9_guess_2 : decode cX9_guess 2 = .ok (.if_icmp .ne 14, 3) := by decide +kernel
theorem dX9_guess_5 : decode cX9_guess 5 = .ok (.aload_n 0, 1) := by decide +kernel
theorem dX9_guess_6 : decode cX9_guess 6 = .ok (.getfield 10, 3) := by decide +kernel
theorem dX9_guess_9 : decode cX9_guess 9 = .ok (.getfield 247, 3) := by decide +kernel
theorem dX9_guess_12 : decode cX9_guess 12 = .ok (.invokevirtual 250, 3) := by decide +kernel
theorem dX9_guess_15 : decode cX9_guess 15 = .ok (.ireturn, 1) := by decide +kernel
theorem dX9_guess_16 : decode cX9_guess 16 = .ok (.iload_n 2, 1) := by decide +kernel
theorem dX9_guess_17 : decode cX9_guess 17 = .ok (.ifCond .lt 23, 3) := by decide +kernel
theorem dX9_guess_20 : decode cX9_guess 20 = .ok (.iload_n 2, 1) := by decide +kernel
theorem dX9_guess_21 : decode cX9_guess 21 = .ok (.iconst 4, 1) := by decide +kernel
theorem dX9_guess_22 : decode cX9_guess 22 = .ok (.if_icmp .gt 18, 3) := by decide +kernel
theorem dX9_guess_25 : decode cX9_guess 25 = .ok (.iload_n 3, 1) := by decide +kernel
theorem dX9_guess_26 : decode cX9_guess 26 = .ok (.ifCond .lt 14, 3) := by decide +kernel
theorem dX9_guess_29 : decode cX9_guess 29 = .ok (.iload_n 3, 1) := by decide +kernel
theorem dX9_guess_30 : decode cX9_guess 30 = .ok (.iconst 4, 1) := by decide +kernel
theorem dX9_guess_31 : decode cX9_guess 31 = .ok (.iload_n 2, 1) := by decide +kernel
theorem dX9_guess_32 : decode cX9_guess 32 = .ok (.isub, 1) := by decide +kernel
theorem dX9_guess_33 : decode cX9_guess 33 = .ok (.if_icmp .gt 7, 3) := by decide +kernel
theorem dX9_guess_36 : decode cX9_guess 36 = .ok (.iconst 1, 1) := by decide +kernel
theorem dX9_guess_37 : decode cX9_guess 37 = .ok (.goto 4, 3) := by decide +kernel
theorem dX9_guess_40 : decode cX9_guess 40 = .ok (.iconst 0, 1) := by decide +kernel
theorem dX9_guess_41 : decode cX9_guess 41 = .ok (.istore 4, 2) := by decide +kernel
theorem dX9_guess_43 : decode cX9_guess 43 = .ok (.iload 4, 2) := by decide +kernel
theorem dX9_guess_45 : decode cX9_guess 45 = .ok (.ifCond .eq 10, 3) := by decide +kernel
theorem dX9_guess_48 : decode cX9_guess 48 = .ok (.iload_n 1, 1) := by decide +kernel
theorem dX9_guess_49 : decode cX9_guess 49 = .ok (.invokestatic 253, 3) := by decide +kernel
theorem dX9_guess_52 : decode cX9_guess 52 = .ok (.ifCond .ne 5, 3) := by decide +kernel
theorem dX9_guess_55 : decode cX9_guess 55 = .ok (.iconst (-1), 1) := by decide +kernel
theorem dX9_guess_56 : decode cX9_guess 56 = .ok (.ireturn, 1) := by decide +kernel
theorem dX9_guess_57 : decode cX9_guess 57 = .ok (.aload_n 0, 1) := by decide +kernel
theorem dX9_guess_58 : decode cX9_guess 58 = .ok (.getfield 10, 3) := by decide +kernel
theorem dX9_guess_61 : decode cX9_guess 61 = .ok (.getfield 247, 3) := by decide +kernel
theorem dX9_guess_64 : decode cX9_guess 64 = .ok (.iload_n 1, 1) := by decide +kernel
theorem dX9_guess_65 : decode cX9_guess 65 = .ok (.iload_n 2, 1) := by decide +kernel
theorem dX9_guess_66 : decode cX9_guess 66 = .ok (.iload_n 3, 1) := by decide +kernel
theorem dX9_guess_67 : decode cX9_guess 67 = .ok (.iconst 0, 1) := by decide +kernel
theorem dX9_guess_68 : decode cX9_guess 68 = .ok (.invokevirtual 258, 3) := by decide +kernel
theorem dX9_guess_71 : decode cX9_guess 71 = .ok (.ireturn, 1) := by decide +kernel
theorem dX9_words_0 : decode cX9_words 0 = .ok (.iload_n 1, 1) := by decide +kernel
theorem dX9_words_1 : decode cX9_words 1 = .ok (.ifCond .eq 10, 3) := by decide +kernel
theorem dX9_words_4 : decode cX9_words 4 = .ok (.iload_n 1, 1) := by decide +kernel
theorem dX9_words_5 : decode cX9_words 5 = .ok (.iconst 1, 1) := by decide +kernel
theorem dX9_words_6 : decode cX9_words 6 = .ok (.if_icmp .eq 5, 3) := by decide +kernel
theorem dX9_words_9 : decode cX9_words 9 = .ok (.iconst (-1), 1) := by decide +kernel
theorem dX9_words_10 : decode cX9_words 10 = .ok (.ireturn, 1) := by decide +kernel
theorem dX9_words_11 : decode cX9_words 11 = .ok (.iconst 0, 1) := by decide +kernel
theorem dX9_words_12 : decode cX9_words 12 = .ok (.istore_n 2, 1) := by decide +kernel
theorem dX9_words_13 : decode cX9_words 13 = .ok (.iconst (-1), 1) := by decide +kernel
theorem dX9_words_14 : decode cX9_words 14 = .ok (.istore_n 3, 1) := by decide +kernel
theorem dX9_words_15 : decode cX9_words 15 = .ok (.iconst 0, 1) := by decide +kernel
theorem dX9_words_16 : decode cX9_words 16 = .ok (.istore 4, 2) := by decide +kernel
theorem dX9_words_18 : decode cX9_words 18 = .ok (.iload 4, 2) := by decide +kernel
theorem dX9_words_20 : decode cX9_words 20 = .ok (.sipush 1296, 3) := by decide +kernel
theorem dX9_words_23 : decode cX9_words 23 = .ok (.if_icmp .ge 45, 3) := by decide +kernel
theorem dX9_words_26 : decode cX9_words 26 = .ok (.iload 4, 2) := by decide +kernel
theorem dX9_words_28 : decode cX9_words 28 = .ok (.invokestatic 262, 3) := by decide +kernel
theorem dX9_words_31 : decode cX9_words 31 = .ok (.istore 5, 2) := by decide +kernel
theorem dX9_words_33 : decode cX9_words 33 = .ok (.aload_n 0, 1) := by decide +kernel
theorem dX9_words_34 : decode cX9_words 34 = .ok (.getfield 10, 3) := by decide +kernel
theorem dX9_words_37 : decode cX9_words 37 = .ok (.getfield 247, 3) := by decide +kernel
theorem dX9_words_40 : decode cX9_words 40 = .ok (.iload 5, 2) := by decide +kernel
theorem dX9_words_42 : decode cX9_words 42 = .ok (.invokestatic 265, 3) := by decide +kernel
theorem dX9_words_45 : decode cX9_words 45 = .ok (.ifCond .eq 17, 3) := by decide +kernel
theorem dX9_words_48 : decode cX9_words 48 = .ok (.iload_n 2, 1) := by decide +kernel
theorem dX9_words_49 : decode cX9_words 49 = .ok (.ifCond .ne 8, 3) := by decide +kernel
theorem dX9_words_52 : decode cX9_words 52 = .ok (.iload 5, 2) := by decide +kernel
theorem dX9_words_54 : decode cX9_words 54 = .ok (.goto 4, 3) := by decide +kernel
theorem dX9_words_57 : decode cX9_words 57 = .ok (.iload_n 3, 1) := by decide +kernel
theorem dX9_words_58 : decode cX9_words 58 = .ok (.istore_n 3, 1) := by decide +kernel
theorem dX9_words_59 : decode cX9_words 59 = .ok (.iinc 2 1, 3) := by decide +kernel
theorem dX9_words_62 : decode cX9_words 62 = .ok (.iinc 4 1, 3) := by decide +kernel
theorem dX9_words_65 : decode cX9_words 65 = .ok (.goto (-47), 3) := by decide +kernel
theorem dX9_words_68 : decode cX9_words 68 = .ok (.iload_n 1, 1) := by decide +kernel
theorem dX9_words_69 : decode cX9_words 69 = .ok (.ifCond .ne 7, 3) := by decide +kernel
theorem dX9_words_72 : decode cX9_words 72 = .ok (.iload_n 2, 1) := by decide +kernel
theorem dX9_words_73 : decode cX9_words 73 = .ok (.goto 4, 3) := by decide +kernel
theorem dX9_words_76 : decode cX9_words 76 = .ok (.iload_n 3, 1) := by decide +kernel
theorem dX9_words_77 : decode cX9_words 77 = .ok (.ireturn, 1) := by decide +kernel
theorem dX9_letter_0 : decode cX9_letter 0 = .ok (.iload_n 1, 1) := by decide +kernel
theorem dX9_letter_1 : decode cX9_letter 1 = .ok (.ifCond .eq 10, 3) := by decide +kernel
theorem dX9_letter_4 : decode cX9_letter 4 = .ok (.iload_n 1, 1) := by decide +kernel
theorem dX9_letter_5 : decode cX9_letter 5 = .ok (.iconst 1, 1) := by decide +kernel
theorem dX9_letter_6 : decode cX9_letter 6 = .ok (.if_icmp .eq 5, 3) := by decide +kernel
theorem dX9_letter_9 : decode cX9_letter 9 = .ok (.iconst (-1), 1) := by decide +kernel
theorem dX9_letter_10 : decode cX9_letter 10 = .ok (.ireturn, 1) := by decide +kernel
theorem dX9_letter_11 : decode cX9_letter 11 = .ok (.iload_n 1, 1) := by decide +kernel
theorem dX9_letter_12 : decode cX9_letter 12 = .ok (.ifCond .ne 13, 3) := by decide +kernel
theorem dX9_letter_15 : decode cX9_letter 15 = .ok (.aload_n 0, 1) := by decide +kernel
theorem dX9_letter_16 : decode cX9_letter 16 = .ok (.getfield 10, 3) := by decide +kernel
theorem dX9_letter_19 : decode cX9_letter 19 = .ok (.getfield 269, 3) := by decide +kernel
theorem dX9_letter_22 : decode cX9_letter 22 = .ok (.goto 10, 3) := by decide +kernel
theorem dX9_letter_25 : decode cX9_letter 25 = .ok (.aload_n 0, 1) := by decide +kernel
theorem dX9_letter_26 : decode cX9_letter 26 = .ok (.getfield 10, 3) := by decide +kernel
theorem dX9_letter_29 : decode cX9_letter 29 = .ok (.getfield 272, 3) := by decide +kernel
theorem dX9_letter_32 : decode cX9_letter 32 = .ok (.astore_n 3, 1) := by decide +kernel
theorem dX9_letter_33 : decode cX9_letter 33 = .ok (.iload_n 2, 1) := by decide +kernel
theorem dX9_letter_34 : decode cX9_letter 34 = .ok (.iconst (-1), 1) := by decide +kernel
theorem dX9_letter_35 : decode cX9_letter 35 = .ok (.if_icmp .ne 8, 3) := by decide +kernel
theorem dX9_letter_38 : decode cX9_letter 38 = .ok (.aload_n 3, 1) := by decide +kernel
theorem dX9_letter_39 : decode cX9_letter 39 = .ok (.invokevirtual 250, 3) := by decide +kernel
theorem dX9_letter_42 : decode cX9_letter 42 = .ok (.ireturn, 1) := by decide +kernel
theorem dX9_letter_43 : decode cX9_letter 43 = .ok (.iload_n 2, 1) := by decide +kernel
theorem dX9_letter_44 : decode cX9_letter 44 = .ok (.ifCond .lt 20, 3) := by decide +kernel
theorem dX9_letter_47 : decode cX9_letter 47 = .ok (.iload_n 2, 1) := by decide +kernel
theorem dX9_letter_48 : decode cX9_letter 48 = .ok (.bipush 26, 2) := by decide +kernel
theorem dX9_letter_50 : decode cX9_letter 50 = .ok (.if_icmp .ge 14, 3) := by decide +kernel
theorem dX9_letter_53 : decode cX9_letter 53 = .ok (.aload_n 3, 1) := by decide +kernel
theorem dX9_letter_54 : decode cX9_letter 54 = .ok (.iload_n 2, 1) := by decide +kernel
theorem dX9_letter_55 : decode cX9_letter 55 = .ok (.iconst 0, 1) := by decide +kernel
theorem dX9_letter_56 : decode cX9_letter 56 = .ok (.iconst 0, 1) := by decide +kernel
theorem dX9_letter_57 : decode cX9_letter 57 = .ok (.iconst 0, 1) := by decide +kernel
theorem dX9_letter_58 : decode cX9_letter 58 = .ok (.invokevirtual 258, 3) := by decide +kernel
theorem dX9_letter_61 : decode cX9_letter 61 = .ok (.goto 4, 3) := by decide +kernel
theorem dX9_letter_64 : decode cX9_letter 64 = .ok (.iconst (-1), 1) := by decide +kernel
theorem dX9_letter_65 : decode cX9_letter 65 = .ok (.ireturn, 1) := by decide +kernel
theorem dX9_message_0 : decode cX9_message 0 = .ok (.aload_n 0, 1) := by decide +kernel
theorem dX9_message_1 : decode cX9_message 1 = .ok (.getfield 10, 3) := by decide +kernel
theorem dX9_message_4 : decode cX9_message 4 = .ok (.getfield 269, 3) := by decide +kernel
theorem dX9_message_7 : decode cX9_message 7 = .ok (.getfield 79, 3) := by decide +kernel
theorem dX9_message_10 : decode cX9_message 10 = .ok (.istore_n 3, 1) := by decide +kernel
theorem dX9_message_11 : decode cX9_message 11 = .ok (.iload_n 1, 1) := by decide +kernel
theorem dX9_message_12 : decode cX9_message 12 = .ok (.iconst 2, 1) := by decide +kernel
theorem dX9_message_13 : decode cX9_message 13 = .ok (.if_icmp .ne 48, 3) := by decide +kernel
theorem dX9_message_16 : decode cX9_message 16 = .ok (.aload_n 0, 1) := by decide +kernel
theorem dX9_message_17 : decode cX9_message 17 = .ok (.getfield 10, 3) := by decide +kernel
theorem dX9_message_20 : decode cX9_message 20 = .ok (.getfield 269, 3) := by decide +kernel
theorem dX9_message_23 : decode cX9_message 23 = .ok (.iload_n 3, 1) := by decide +kernel
theorem dX9_message_24 : decode cX9_message 24 = .ok (.iconst 1, 1) := by decide +kernel
theorem dX9_message_25 : decode cX9_message 25 = .ok (.isub, 1) := by decide +kernel
theorem dX9_message_26 : decode cX9_message 26 = .ok (.iconst 0, 1) := by decide +kernel
theorem dX9_message_27 : decode cX9_message 27 = .ok (.invokevirtual 217, 3) := by decide +kernel
theorem dX9_message_30 : decode cX9_message 30 = .ok (.aload_n 0, 1) := by decide +kernel
theorem dX9_message_31 : decode cX9_message 31 = .ok (.getfield 10, 3) := by decide +kernel
theorem dX9_message_34 : decode cX9_message 34 = .ok (.getfield 269, 3) := by decide +kernel
theorem dX9_message_37 : decode cX9_message 37 = .ok (.iconst 0, 1) := by decide +kernel
theorem dX9_message_38 : decode cX9_message 38 = .ok (.iconst 0, 1) := by decide +kernel
theorem dX9_message_39 : decode cX9_message 39 = .ok (.invokevirtual 217, 3) := by decide +kernel
theorem dX9_message_42 : decode cX9_message 42 = .ok (.isub, 1) := by decide +kernel
theorem dX9_message_43 : decode cX9_message 43 = .ok (.istore 4, 2) := by decide +kernel
theorem dX9_message_45 : decode cX9_message 45 = .ok (.iload_n 3, 1) := by decide +kernel
theorem dX9_message_46 : decode cX9_message 46 = .ok (.ifCond .ne 7, 3) := by decide +kernel
theorem dX9_message_49 : decode cX9_message 49 = .ok (.iconst (-1), 1) := by decide +kernel
theorem dX9_message_50 : decode cX9_message 50 = .ok (.goto 10, 3) := by decide +kernel
theorem dX9_message_53 : decode cX9_message 53 = .ok (.iload 4, 2) := by decide +kernel
theorem dX9_message_55 : decode cX9_message 55 = .ok (.bipush 26, 2) := by decide +kernel
theorem dX9_message_57 : decode cX9_message 57 = .ok (.invokestatic 275, 3) := by decide +kernel
theorem dX9_message_60 : decode cX9_message 60 = .ok (.ireturn, 1) := by decide +kernel
theorem dX9_message_61 : decode cX9_message 61 = .ok (.iload_n 2, 1) := by decide +kernel
theorem dX9_message_62 : decode cX9_message 62 = .ok (.ifCond .lt 8, 3) := by decide +kernel
theorem dX9_message_65 : decode cX9_message 65 = .ok (.iload_n 2, 1) := by decide +kernel
theorem dX9_message_66 : decode cX9_message 66 = .ok (.iload_n 3, 1) := by decide +kernel
theorem dX9_message_67 : decode cX9_message 67 = .ok (.if_icmp .lt 5, 3) := by decide +kernel
theorem dX9_message_70 : decode cX9_message 70 = .ok (.iconst (-1), 1) := by decide +kernel
theorem dX9_message_71 : decode cX9_message 71 = .ok (.ireturn, 1) := by decide +kernel
theorem dX9_message_72 : decode cX9_message 72 = .ok (.iload_n 1, 1) := by decide +kernel
theorem dX9_message_73 : decode cX9_message 73 = .ok (.ifCond .eq 8, 3) := by decide +kernel
theorem dX9_message_76 : decode cX9_message 76 = .ok (.iload_n 1, 1) := by decide +kernel
theorem dX9_message_77 : decode cX9_message 77 = .ok (.iconst 1, 1) := by decide +kernel
theorem dX9_message_78 : decode cX9_message 78 = .ok (.if_icmp .ne 82, 3) := by decide +kernel
theorem dX9_message_81 : decode cX9_message 81 = .ok (.aload_n 0, 1) := by decide +kernel
theorem dX9_message_82 : decode cX9_message 82 = .ok (.getfield 10, 3) := by decide +kernel
theorem dX9_message_85 : decode cX9_message 85 = .ok (.getfield 272, 3) := by decide +kernel
theorem dX9_message_88 : decode cX9_message 88 = .ok (.getfield 79, 3) := by decide +kernel
theorem dX9_message_91 : decode cX9_message 91 = .ok (.ifCond .ne 7, 3) := by decide +kernel
theorem dX9_message_94 : decode cX9_message 94 = .ok (.iconst 0, 1) := by decide +kernel
theorem dX9_message_95 : decode cX9_message 95 = .ok (.goto 26, 3) := by decide +kernel
theorem dX9_message_98 : decode cX9_message 98 = .ok (.aload_n 0, 1) := by decide +kernel
theorem dX9_message_99 : decode cX9_message 99 = .ok (.getfield 10, 3) := by decide +kernel
theorem dX9_message_102 : decode cX9_message 102 = .ok (.getfield 272, 3) := by decide +kernel
theorem dX9_message_105 : decode cX9_message 105 = .ok (.iload_n 2, 1) := by decide +kernel
theorem dX9_message_106 : decode cX9_message 106 = .ok (.aload_n 0, 1) := by decide +kernel
theorem dX9_message_107 : decode cX9_message 107 = .ok (.getfield 10, 3) := by decide +kernel
theorem dX9_message_110 : decode cX9_message 110 = .ok (.getfield 272, 3) := by decide +kernel
theorem dX9_message_113 : decode cX9_message 113 = .ok (.getfield 79, 3) := by decide +kernel
theorem dX9_message_116 : decode cX9_message 116 = .ok (.irem, 1) := by decide +kernel
theorem dX9_message_117 : decode cX9_message 117 = .ok (.iconst 0, 1) := by decide +kernel
theorem dX9_message_118 : decode cX9_message 118 = .ok (.invokevirtual 217, 3) := by decide +kernel
theorem dX9_message_121 : decode cX9_message 121 = .ok (.istore 4, 2) := by decide +kernel
theorem dX9_message_123 : decode cX9_message 123 = .ok (.aload_n 0, 1) := by decide +kernel
theorem dX9_message_124 : decode cX9_message 124 = .ok (.getfield 10, 3) := by decide +kernel
theorem dX9_message_127 : decode cX9_message 127 = .ok (.getfield 269, 3) := by decide +kernel
theorem dX9_message_130 : decode cX9_message 130 = .ok (.iload_n 2, 1) := by decide +kernel
theorem dX9_message_131 : decode cX9_message 131 = .ok (.iconst 0, 1) := by decide +kernel
theorem dX9_message_132 : decode cX9_message 132 = .ok (.invokevirtual 217, 3) := by decide +kernel
theorem dX9_message_135 : decode cX9_message 135 = .ok (.istore 5, 2) := by decide +kernel
theorem dX9_message_137 : decode cX9_message 137 = .ok (.iload_n 1, 1) := by decide +kernel
theorem dX9_message_138 : decode cX9_message 138 = .ok (.ifCond .ne 11, 3) := by decide +kernel
theorem dX9_message_141 : decode cX9_message 141 = .ok (.iload 5, 2) := by decide +kernel
theorem dX9_message_143 : decode cX9_message 143 = .ok (.iload 4, 2) := by decide +kernel
theorem dX9_message_145 : decode cX9_message 145 = .ok (.iadd, 1) := by decide +kernel
theorem dX9_message_146 : decode cX9_message 146 = .ok (.goto 8, 3) := by decide +kernel
theorem dX9_message_149 : decode cX9_message 149 = .ok (.iload 5, 2) := by decide +kernel
theorem dX9_message_151 : decode cX9_message 151 = .ok (.iload 4, 2) := by decide +kernel
theorem dX9_message_153 : decode cX9_message 153 = .ok (.isub, 1) := by decide +kernel
theorem dX9_message_154 : decode cX9_message 154 = .ok (.bipush 26, 2) := by decide +kernel
theorem dX9_message_156 : decode cX9_message 156 = .ok (.invokestatic 275, 3) := by decide +kernel
theorem dX9_message_159 : decode cX9_message 159 = .ok (.ireturn, 1) := by decide +kernel
theorem dX9_message_160 : decode cX9_message 160 = .ok (.iload_n 1, 1) := by decide +kernel
theorem dX9_message_161 : decode cX9_message 161 = .ok (.bipush 11, 2) := by decide +kernel
theorem dX9_message_163 : decode cX9_message 163 = .ok (.if_icmp .lt 9, 3) := by decide +kernel
theorem dX9_message_166 : decode cX9_message 166 = .ok (.iload_n 1, 1) := by decide +kernel
theorem dX9_message_167 : decode cX9_message 167 = .ok (.bipush 16, 2) := by decide +kernel
theorem dX9_message_169 : decode cX9_message 169 = .ok (.if_icmp .le 5, 3) := by decide +kernel
theorem dX9_message_172 : decode cX9_message 172 = .ok (.iconst (-1), 1) := by decide +kernel
theorem dX9_message_173 : decode cX9_message 173 = .ok (.ireturn, 1) := by decide +kernel
theorem dX9_message_174 : decode cX9_message 174 = .ok (.aload_n 0, 1) := by decide +kernel
theorem dX9_message_175 : decode cX9_message 175 = .ok (.getfield 10, 3) := by decide +kernel
theorem dX9_message_178 : decode cX9_message 178 = .ok (.getfield 269, 3) := by decide +kernel
theorem dX9_message_181 : decode cX9_message 181 = .ok (.iload_n 3, 1) := by decide +kernel
theorem dX9_message_182 : decode cX9_message 182 = .ok (.iload_n 1, 1) := by decide +kernel
theorem dX9_message_183 : decode cX9_message 183 = .ok (.bipush 10, 2) := by decide +kernel
theorem dX9_message_185 : decode cX9_message 185 = .ok (.isub, 1) := by decide +kernel
theorem dX9_message_186 : decode cX9_message 186 = .ok (.iload_n 2, 1) := by decide +kernel
theorem dX9_message_187 : decode cX9_message 187 = .ok (.invokestatic 280, 3) := by decide +kernel
theorem dX9_message_190 : decode cX9_message 190 = .ok (.iconst 0, 1) := by decide +kernel
theorem dX9_message_191 : decode cX9_message 191 = .ok (.invokevirtual 217, 3) := by decide +kernel
theorem dX9_message_194 : decode cX9_message 194 = .ok (.ireturn, 1) := by decide +kernel
theorem dX9_bit_0 : decode cX9_bit 0 = .ok (.iload_n 1, 1) := by decide +kernel
theorem dX9_bit_1 : decode cX9_bit 1 = .ok (.iconst (-1), 1) := by decide +kernel
theorem dX9_bit_2 : decode cX9_bit 2 = .ok (.if_icmp .ne 14, 3) := by decide +kernel
theorem dX9_bit_5 : decode cX9_bit 5 = .ok (.aload_n 0, 1) := by decide +kernel
theorem dX9_bit_6 : decode cX9_bit 6 = .ok (.getfield 10, 3) := by decide +kernel
theorem dX9_bit_9 : decode cX9_bit 9 = .ok (.getfield 284, 3) := by decide +kernel
theorem dX9_bit_12 : decode cX9_bit 12 = .ok (.invokevirtual 250, 3) := by decide +kernel
theorem dX9_bit_15 : decode cX9_bit 15 = .ok (.ireturn, 1) := by decide +kernel
theorem dX9_bit_16 : decode cX9_bit 16 = .ok (.iload_n 1, 1) := by decide +kernel
theorem dX9_bit_17 : decode cX9_bit 17 = .ok (.ifCond .eq 8, 3) := by decide +kernel
theorem dX9_bit_20 : decode cX9_bit 20 = .ok (.iload_n 1, 1) := by decide +kernel
theorem dX9_bit_21 : decode cX9_bit 21 = .ok (.iconst 1, 1) := by decide +kernel
theorem dX9_bit_22 : decode cX9_bit 22 = .ok (.if_icmp .ne 20, 3) := by decide +kernel
theorem dX9_bit_25 : decode cX9_bit 25 = .ok (.aload_n 0, 1) := by decide +kernel
theorem dX9_bit_26 : decode cX9_bit 26 = .ok (.getfield 10, 3) := by decide +kernel
theorem dX9_bit_29 : decode cX9_bit 29 = .ok (.getfield 284, 3) := by decide +kernel
theorem dX9_bit_32 : decode cX9_bit 32 = .ok (.iload_n 1, 1) := by decide +kernel
theorem dX9_bit_33 : decode cX9_bit 33 = .ok (.iconst 0, 1) := by decide +kernel
theorem dX9_bit_34 : decode cX9_bit 34 = .ok (.iconst 0, 1) := by decide +kernel
theorem dX9_bit_35 : decode cX9_bit 35 = .ok (.iconst 0, 1) := by decide +kernel
theorem dX9_bit_36 : decode cX9_bit 36 = .ok (.invokevirtual 258, 3) := by decide +kernel
theorem dX9_bit_39 : decode cX9_bit 39 = .ok (.goto 4, 3) := by decide +kernel
theorem dX9_bit_42 : decode cX9_bit 42 = .ok (.iconst (-1), 1) := by decide +kernel
theorem dX9_bit_43 : decode cX9_bit 43 = .ok (.ireturn, 1) := by decide +kernel
theorem dX9_anew_0 : decode cX9_anew 0 = .ok (.iload_n 1, 1) := by decide +kernel
theorem dX9_anew_1 : decode cX9_anew 1 = .ok (.tableswitch 70 0 2 #[27, 38, 49], 27) := by decide +kernel
theorem dX9_anew_28 : decode cX9_anew 28 = .ok (.aload_n 0, 1) := by decide +kernel
theorem dX9_anew_29 : decode cX9_anew 29 = .ok (.getfield 10, 3) := by decide +kernel
theorem dX9_anew_32 : decode cX9_anew 32 = .ok (.getfield 284, 3) := by decide +kernel
theorem dX9_anew_35 : decode cX9_anew 35 = .ok (.invokestatic 287, 3) := by decide +kernel
theorem dX9_anew_38 : decode cX9_anew 38 = .ok (.ireturn, 1) := by decide +kernel
theorem dX9_anew_39 : decode cX9_anew 39 = .ok (.aload_n 0, 1) := by decide +kernel
theorem dX9_anew_40 : decode cX9_anew 40 = .ok (.getfield 10, 3) := by decide +kernel
theorem dX9_anew_43 : decode cX9_anew 43 = .ok (.getfield 284, 3) := by decide +kernel
theorem dX9_anew_46 : decode cX9_anew 46 = .ok (.invokestatic 290, 3) := by decide +kernel
theorem dX9_anew_49 : decode cX9_anew 49 = .ok (.ireturn, 1) := by decide +kernel
theorem dX9_anew_50 : decode cX9_anew 50 = .ok (.aload_n 0, 1) := by decide +kernel
theorem dX9_anew_51 : decode cX9_anew 51 = .ok (.getfield 10, 3) := by decide +kernel
theorem dX9_anew_54 : decode cX9_anew 54 = .ok (.getfield 284, 3) := by decide +kernel
theorem dX9_anew_57 : decode cX9_anew 57 = .ok (.aload_n 0, 1) := by decide +kernel
theorem dX9_anew_58 : decode cX9_anew 58 = .ok (.getfield 10, 3) := by decide +kernel
theorem dX9_anew_61 : decode cX9_anew 61 = .ok (.getfield 284, 3) := by decide +kernel
theorem dX9_anew_64 : decode cX9_anew 64 = .ok (.invokestatic 290, 3) := by decide +kernel
theorem dX9_anew_67 : decode cX9_anew 67 = .ok (.invokestatic 293, 3) := by decide +kernel
theorem dX9_anew_70 : decode cX9_anew 70 = .ok (.ireturn, 1) := by decide +kernel
theorem dX9_anew_71 : decode cX9_anew 71 = .ok (.iconst (-1), 1) := by decide +kernel
theorem dX9_anew_72 : decode cX9_anew 72 = .ok (.ireturn, 1) := by decide +kernel
theorem dX9_queen_0 : decode cX9_queen 0 = .ok (.iload_n 1, 1) := by decide +kernel
theorem dX9_queen_1 : decode cX9_queen 1 = .ok (.iconst (-1), 1) := by decide +kernel
theorem dX9_queen_2 : decode cX9_queen 2 = .ok (.if_icmp .ne 14, 3) := by decide +kernel
theorem dX9_queen_5 : decode cX9_queen 5 = .ok (.aload_n 0, 1) := by decide +kernel
theorem dX9_queen_6 : decode cX9_queen 6 = .ok (.getfield 10, 3) := by decide +kernel
theorem dX9_queen_9 : decode cX9_queen 9 = .ok (.getfield 297, 3) := by decide +kernel
theorem dX9_queen_12 : decode cX9_queen 12 = .ok (.invokevirtual 250, 3) := by decide +kernel
theorem dX9_queen_15 : decode cX9_queen 15 = .ok (.ireturn, 1) := by decide +kernel
theorem dX9_queen_16 : decode cX9_queen 16 = .ok (.iload_n 1, 1) := by decide +kernel
theorem dX9_queen_17 : decode cX9_queen 17 = .ok (.ifCond .lt 23, 3) := by decide +kernel
theorem dX9_queen_20 : decode cX9_queen 20 = .ok (.iload_n 1, 1) := by decide +kernel
theorem dX9_queen_21 : decode cX9_queen 21 = .ok (.bipush 7, 2) := by decide +kernel
theorem dX9_queen_23 : decode cX9_queen 23 = .ok (.if_icmp .ge 17, 3) := by decide +kernel
theorem dX9_queen_26 : decode cX9_queen 26 = .ok (.iload_n 2, 1) := by decide +kernel
theorem dX9_queen_27 : decode cX9_queen 27 = .ok (.ifCond .lt 13, 3) := by decide +kernel
theorem dX9_queen_30 : decode cX9_queen 30 = .ok (.iload_n 2, 1) := by decide +kernel
theorem dX9_queen_31 : decode cX9_queen 31 = .ok (.bipush 7, 2) := by decide +kernel
theorem dX9_queen_33 : decode cX9_queen 33 = .ok (.if_icmp .ge 7, 3) := by decide +kernel
theorem dX9_queen_36 : decode cX9_queen 36 = .ok (.iconst 1, 1) := by decide +kernel
theorem dX9_queen_37 : decode cX9_queen 37 = .ok (.goto 4, 3) := by decide +kernel
theorem dX9_queen_40 : decode cX9_queen 40 = .ok (.iconst 0, 1) := by decide +kernel
theorem dX9_queen_41 : decode cX9_queen 41 = .ok (.istore_n 3, 1) := by decide +kernel
theorem dX9_queen_42 : decode cX9_queen 42 = .ok (.iload_n 3, 1) := by decide +kernel
theorem dX9_queen_43 : decode cX9_queen 43 = .ok (.ifCond .eq 18, 3) := by decide +kernel
theorem dX9_queen_46 : decode cX9_queen 46 = .ok (.aload_n 0, 1) := by decide +kernel
theorem dX9_queen_47 : decode cX9_queen 47 = .ok (.getfield 10, 3) := by decide +kernel
theorem dX9_queen_50 : decode cX9_queen 50 = .ok (.getfield 297, 3) := by decide +kernel
theorem dX9_queen_53 : decode cX9_queen 53 = .ok (.iload_n 1, 1) := by decide +kernel
theorem dX9_queen_54 : decode cX9_queen 54 = .ok (.iload_n 2, 1) := by decide +kernel
theorem dX9_queen_55 : decode cX9_queen 55 = .ok (.invokevirtual 300, 3) := by decide +kernel
theorem dX9_queen_58 : decode cX9_queen 58 = .ok (.ifCond .eq 5, 3) := by decide +kernel
theorem dX9_queen_61 : decode cX9_queen 61 = .ok (.iconst (-1), 1) := by decide +kernel
theorem dX9_queen_62 : decode cX9_queen 62 = .ok (.ireturn, 1) := by decide +kernel
theorem dX9_queen_63 : decode cX9_queen 63 = .ok (.aload_n 0, 1) := by decide +kernel
theorem dX9_queen_64 : decode cX9_queen 64 = .ok (.getfield 10, 3) := by decide +kernel
theorem dX9_queen_67 : decode cX9_queen 67 = .ok (.getfield 297, 3) := by decide +kernel
theorem dX9_queen_70 : decode cX9_queen 70 = .ok (.iload_n 1, 1) := by decide +kernel
theorem dX9_queen_71 : decode cX9_queen 71 = .ok (.iload_n 2, 1) := by decide +kernel
theorem dX9_queen_72 : decode cX9_queen 72 = .ok (.iconst 0, 1) := by decide +kernel
theorem dX9_queen_73 : decode cX9_queen 73 = .ok (.iconst 0, 1) := by decide +kernel
theorem dX9_queen_74 : decode cX9_queen 74 = .ok (.invokevirtual 258, 3) := by decide +kernel
theorem dX9_queen_77 : decode cX9_queen 77 = .ok (.ireturn, 1) := by decide +kernel
theorem dX9_queens_0 : decode cX9_queens 0 = .ok (.iload_n 1, 1) := by decide +kernel
theorem dX9_queens_1 : decode cX9_queens 1 = .ok (.iconst 1, 1) := by decide +kernel
theorem dX9_queens_2 : decode cX9_queens 2 = .ok (.if_icmp .lt 9, 3) := by decide +kernel
theorem dX9_queens_5 : decode cX9_queens 5 = .ok (.iload_n 1, 1) := by decide +kernel
theorem dX9_queens_6 : decode cX9_queens 6 = .ok (.bipush 7, 2) := by decide +kernel
theorem dX9_queens_8 : decode cX9_queens 8 = .ok (.if_icmp .le 5, 3) := by decide +kernel
theorem dX9_queens_11 : decode cX9_queens 11 = .ok (.iconst (-1), 1) := by decide +kernel
theorem dX9_queens_12 : decode cX9_queens 12 = .ok (.ireturn, 1) := by decide +kernel
theorem dX9_queens_13 : decode cX9_queens 13 = .ok (.aload_n 0, 1) := by decide +kernel
theorem dX9_queens_14 : decode cX9_queens 14 = .ok (.getfield 10, 3) := by decide +kernel
theorem dX9_queens_17 : decode cX9_queens 17 = .ok (.getfield 297, 3) := by decide +kernel
theorem dX9_queens_20 : decode cX9_queens 20 = .ok (.iload_n 1, 1) := by decide +kernel
theorem dX9_queens_21 : decode cX9_queens 21 = .ok (.iconst 0, 1) := by decide +kernel
theorem dX9_queens_22 : decode cX9_queens 22 = .ok (.iconst 0, 1) := by decide +kernel
theorem dX9_queens_23 : decode cX9_queens 23 = .ok (.iconst 0, 1) := by decide +kernel
theorem dX9_queens_24 : decode cX9_queens 24 = .ok (.iconst 0, 1) := by decide +kernel
theorem dX9_queens_25 : decode cX9_queens 25 = .ok (.invokestatic 304, 3) := by decide +kernel
theorem dX9_queens_28 : decode cX9_queens 28 = .ok (.ireturn, 1) := by decide +kernel
theorem dX9_corner_0 : decode cX9_corner 0 = .ok (.iload_n 1, 1) := by decide +kernel
theorem dX9_corner_1 : decode cX9_corner 1 = .ok (.bipush (-100), 2) := by decide +kernel
theorem dX9_corner_3 : decode cX9_corner 3 = .ok (.if_icmp .ne 14, 3) := by decide +kernel
theorem dX9_corner_6 : decode cX9_corner 6 = .ok (.aload_n 0, 1) := by decide +kernel
theorem dX9_corner_7 : decode cX9_corner 7 = .ok (.getfield 10, 3) := by decide +kernel
theorem dX9_corner_10 : decode cX9_corner 10 = .ok (.getfield 308, 3) := by decide +kernel
theorem dX9_corner_13 : decode cX9_corner 13 = .ok (.invokevirtual 250, 3) := by decide +kernel
theorem dX9_corner_16 : decode cX9_corner 16 = .ok (.ireturn, 1) := by decide +kernel
theorem dX9_corner_17 : decode cX9_corner 17 = .ok (.iload_n 1, 1) := by decide +kernel
theorem dX9_corner_18 : decode cX9_corner 18 = .ok (.iload_n 2, 1) := by decide +kernel
theorem dX9_corner_19 : decode cX9_corner 19 = .ok (.invokestatic 311, 3) := by decide +kernel
theorem dX9_corner_22 : decode cX9_corner 22 = .ok (.ifCond .eq 20, 3) := by decide +kernel
theorem dX9_corner_25 : decode cX9_corner 25 = .ok (.aload_n 0, 1) := by decide +kernel
theorem dX9_corner_26 : decode cX9_corner 26 = .ok (.getfield 10, 3) := by decide +kernel
theorem dX9_corner_29 : decode cX9_corner 29 = .ok (.getfield 308, 3) := by decide +kernel
theorem dX9_corner_32 : decode cX9_corner 32 = .ok (.iload_n 1, 1) := by decide +kernel
theorem dX9_corner_33 : decode cX9_corner 33 = .ok (.iload_n 2, 1) := by decide +kernel
theorem dX9_corner_34 : decode cX9_corner 34 = .ok (.iconst 0, 1) := by decide +kernel
theorem dX9_corner_35 : decode cX9_corner 35 = .ok (.iconst 0, 1) := by decide +kernel
theorem dX9_corner_36 : decode cX9_corner 36 = .ok (.invokevirtual 258, 3) := by decide +kernel
theorem dX9_corner_39 : decode cX9_corner 39 = .ok (.goto 4, 3) := by decide +kernel
theorem dX9_corner_42 : decode cX9_corner 42 = .ok (.iconst (-1), 1) := by decide +kernel
theorem dX9_corner_43 : decode cX9_corner 43 = .ok (.ireturn, 1) := by decide +kernel
theorem dX9_within_0 : decode cX9_within 0 = .ok (.iload_n 1, 1) := by decide +kernel
theorem dX9_within_1 : decode cX9_within 1 = .ok (.iload_n 2, 1) := by decide +kernel
theorem dX9_within_2 : decode cX9_within 2 = .ok (.invokestatic 311, 3) := by decide +kernel
theorem dX9_within_5 : decode cX9_within 5 = .ok (.ifCond .eq 18, 3) := by decide +kernel
theorem dX9_within_8 : decode cX9_within 8 = .ok (.aload_n 0, 1) := by decide +kernel
theorem dX9_within_9 : decode cX9_within 9 = .ok (.getfield 10, 3) := by decide +kernel
theorem dX9_within_12 : decode cX9_within 12 = .ok (.getfield 308, 3) := by decide +kernel
theorem dX9_within_15 : decode cX9_within 15 = .ok (.iload_n 1, 1) := by decide +kernel
theorem dX9_within_16 : decode cX9_within 16 = .ok (.iload_n 2, 1) := by decide +kernel
theorem dX9_within_17 : decode cX9_within 17 = .ok (.invokestatic 316, 3) := by decide +kernel
theorem dX9_within_20 : decode cX9_within 20 = .ok (.goto 4, 3) := by decide +kernel
theorem dX9_within_23 : decode cX9_within 23 = .ok (.iconst (-1), 1) := by decide +kernel
theorem dX9_within_24 : decode cX9_within 24 = .ok (.ireturn, 1) := by decide +kernel
theorem dX9_area_0 : decode cX9_area 0 = .ok (.aload_n 0, 1) := by decide +kernel
theorem dX9_area_1 : decode cX9_area 1 = .ok (.getfield 10, 3) := by decide +kernel
theorem dX9_area_4 : decode cX9_area 4 = .ok (.getfield 308, 3) := by decide +kernel
theorem dX9_area_7 : decode cX9_area 7 = .ok (.invokestatic 320, 3) := by decide +kernel
theorem dX9_area_10 : decode cX9_area 10 = .ok (.ireturn, 1) := by decide +kernel
theorem dX9_boots_0 : decode cX9_boots 0 = .ok (.iload_n 1, 1) := by decide +kernel
theorem dX9_boots_1 : decode cX9_boots 1 = .ok (.iconst 1, 1) := by decide +kernel
theorem dX9_boots_2 : decode cX9_boots 2 = .ok (.if_icmp .lt 29, 3) := by decide +kernel
theorem dX9_boots_5 : decode cX9_boots 5 = .ok (.iload_n 1, 1) := by decide +kernel
theorem dX9_boots_6 : decode cX9_boots 6 = .ok (.bipush 10, 2) := by decide +kernel
theorem dX9_boots_8 : decode cX9_boots 8 = .ok (.if_icmp .gt 23, 3) := by decide +kernel
theorem dX9_boots_11 : decode cX9_boots 11 = .ok (.iload_n 2, 1) := by decide +kernel
theorem dX9_boots_12 : decode cX9_boots 12 = .ok (.ifCond .lt 19, 3) := by decide +kernel
theorem dX9_boots_15 : decode cX9_boots 15 = .ok (.iload_n 2, 1) := by decide +kernel
theorem dX9_boots_16 : decode cX9_boots 16 = .ok (.iload_n 1, 1) := by decide +kernel
theorem dX9_boots_17 : decode cX9_boots 17 = .ok (.if_icmp .ge 14, 3) := by decide +kernel
theorem dX9_boots_20 : decode cX9_boots 20 = .ok (.iload_n 3, 1) := by decide +kernel
theorem dX9_boots_21 : decode cX9_boots 21 = .ok (.ifCond .lt 10, 3) := by decide +kernel
theorem dX9_boots_24 : decode cX9_boots 24 = .ok (.iload_n 3, 1) := by decide +kernel
theorem dX9_boots_25 : decode cX9_boots 25 = .ok (.iconst 1, 1) := by decide +kernel
theorem dX9_boots_26 : decode cX9_boots 26 = .ok (.iload_n 1, 1) := by decide +kernel
theorem dX9_boots_27 : decode cX9_boots 27 = .ok (.ishl, 1) := by decide +kernel
theorem dX9_boots_28 : decode cX9_boots 28 = .ok (.if_icmp .lt 5, 3) := by decide +kernel
theorem dX9_boots_31 : decode cX9_boots 31 = .ok (.iconst (-1), 1) := by decide +kernel
theorem dX9_boots_32 : decode cX9_boots 32 = .ok (.ireturn, 1) := by decide +kernel
theorem dX9_boots_33 : decode cX9_boots 33 = .ok (.iload_n 1, 1) := by decide +kernel
theorem dX9_boots_34 : decode cX9_boots 34 = .ok (.iload_n 2, 1) := by decide +kernel
theorem dX9_boots_35 : decode cX9_boots 35 = .ok (.iload_n 3, 1) := by decide +kernel
theorem dX9_boots_36 : decode cX9_boots 36 = .ok (.invokestatic 323, 3) := by decide +kernel
theorem dX9_boots_39 : decode cX9_boots 39 = .ok (.ireturn, 1) := by decide +kernel
theorem dX9_moves_0 : decode cX9_moves 0 = .ok (.iload_n 1, 1) := by decide +kernel
theorem dX9_moves_1 : decode cX9_moves 1 = .ok (.invokestatic 328, 3) := by decide +kernel
theorem dX9_moves_4 : decode cX9_moves 4 = .ok (.ireturn, 1) := by decide +kernel
theorem dX9_billets_0 : decode cX9_billets 0 = .ok (.iload_n 1, 1) := by decide +kernel
theorem dX9_billets_1 : decode cX9_billets 1 = .ok (.ifCond .lt 20, 3) := by decide +kernel
theorem dX9_billets_4 : decode cX9_billets 4 = .ok (.iload_n 1, 1) := by decide +kernel
theorem dX9_billets_5 : decode cX9_billets 5 = .ok (.bipush 10, 2) := by decide +kernel
theorem dX9_billets_7 : decode cX9_billets 7 = .ok (.if_icmp .gt 14, 3) := by decide +kernel
theorem dX9_billets_10 : decode cX9_billets 10 = .ok (.iload_n 2, 1) := by decide +kernel
theorem dX9_billets_11 : decode cX9_billets 11 = .ok (.iconst (-1), 1) := by decide +kernel
theorem dX9_billets_12 : decode cX9_billets 12 = .ok (.if_icmp .lt 9, 3) := by decide +kernel
theorem dX9_billets_15 : decode cX9_billets 15 = .ok (.iload_n 2, 1) := by decide +kernel
theorem dX9_billets_16 : decode cX9_billets 16 = .ok (.bipush 10, 2) := by decide +kernel
theorem dX9_billets_18 : decode cX9_billets 18 = .ok (.if_icmp .le 5, 3) := by decide +kernel
theorem dX9_billets_21 : decode cX9_billets 21 = .ok (.iconst (-1), 1) := by decide +kernel
theorem dX9_billets_22 : decode cX9_billets 22 = .ok (.ireturn, 1) := by decide +kernel
theorem dX9_billets_23 : decode cX9_billets 23 = .ok (.iload_n 2, 1) := by decide +kernel
theorem dX9_billets_24 : decode cX9_billets 24 = .ok (.iconst (-1), 1) := by decide +kernel
theorem dX9_billets_25 : decode cX9_billets 25 = .ok (.if_icmp .eq 9, 3) := by decide +kernel
theorem dX9_billets_28 : decode cX9_billets 28 = .ok (.iload_n 1, 1) := by decide +kernel
theorem dX9_billets_29 : decode cX9_billets 29 = .ok (.iload_n 2, 1) := by decide +kernel
theorem dX9_billets_30 : decode cX9_billets 30 = .ok (.invokestatic 331, 3) := by decide +kernel
theorem dX9_billets_33 : decode cX9_billets 33 = .ok (.ireturn, 1) := by decide +kernel
theorem dX9_billets_34 : decode cX9_billets 34 = .ok (.iconst 0, 1) := by decide +kernel
theorem dX9_billets_35 : decode cX9_billets 35 = .ok (.istore_n 3, 1) := by decide +kernel
theorem dX9_billets_36 : decode cX9_billets 36 = .ok (.iconst 0, 1) := by decide +kernel
theorem dX9_billets_37 : decode cX9_billets 37 = .ok (.istore 4, 2) := by decide +kernel
theorem dX9_billets_39 : decode cX9_billets 39 = .ok (.iload 4, 2) := by decide +kernel
theorem dX9_billets_41 : decode cX9_billets 41 = .ok (.iload_n 1, 1) := by decide +kernel
theorem dX9_billets_42 : decode cX9_billets 42 = .ok (.if_icmp .gt 18, 3) := by decide +kernel
theorem dX9_billets_45 : decode cX9_billets 45 = .ok (.iload_n 3, 1) := by decide +kernel
theorem dX9_billets_46 : decode cX9_billets 46 = .ok (.iload_n 1, 1) := by decide +kernel
theorem dX9_billets_47 : decode cX9_billets 47 = .ok (.iload 4, 2) := by decide +kernel
theorem dX9_billets_49 : decode cX9_billets 49 = .ok (.invokestatic 331, 3) := by decide +kernel
theorem dX9_billets_52 : decode cX9_billets 52 = .ok (.iadd, 1) := by decide +kernel
theorem dX9_billets_53 : decode cX9_billets 53 = .ok (.istore_n 3, 1) := by decide +kernel
theorem dX9_billets_54 : decode cX9_billets 54 = .ok (.iinc 4 1, 3) := by decide +kernel
theorem dX9_billets_57 : decode cX9_billets 57 = .ok (.goto (-18), 3) := by decide +kernel
theorem dX9_billets_60 : decode cX9_billets 60 = .ok (.iload_n 3, 1) := by decide +kernel
theorem dX9_billets_61 : decode cX9_billets 61 = .ok (.ireturn, 1) := by decide +kernel
theorem dX9_pairs_0 : decode cX9_pairs 0 = .ok (.iload_n 1, 1) := by decide +kernel
theorem dX9_pairs_1 : decode cX9_pairs 1 = .ok (.ifCond .lt 18, 3) := by decide +kernel
theorem dX9_pairs_4 : decode cX9_pairs 4 = .ok (.iload_n 1, 1) := by decide +kernel
theorem dX9_pairs_5 : decode cX9_pairs 5 = .ok (.bipush 10, 2) := by decide +kernel
theorem dX9_pairs_7 : decode cX9_pairs 7 = .ok (.if_icmp .gt 12, 3) := by decide +kernel
theorem dX9_pairs_10 : decode cX9_pairs 10 = .ok (.iload_n 2, 1) := by decide +kernel
theorem dX9_pairs_11 : decode cX9_pairs 11 = .ok (.ifCond .lt 8, 3) := by decide +kernel
theorem dX9_pairs_14 : decode cX9_pairs 14 = .ok (.iload_n 2, 1) := by decide +kernel
theorem dX9_pairs_15 : decode cX9_pairs 15 = .ok (.iload_n 1, 1) := by decide +kernel
theorem dX9_pairs_16 : decode cX9_pairs 16 = .ok (.if_icmp .le 5, 3) := by decide +kernel
theorem dX9_pairs_19 : decode cX9_pairs 19 = .ok (.iconst (-1), 1) := by decide +kernel
theorem dX9_pairs_20 : decode cX9_pairs 20 = .ok (.ireturn, 1) := by decide +kernel
theorem dX9_pairs_21 : decode cX9_pairs 21 = .ok (.iload_n 1, 1) := by decide +kernel
theorem dX9_pairs_22 : decode cX9_pairs 22 = .ok (.iload_n 2, 1) := by decide +kernel
theorem dX9_pairs_23 : decode cX9_pairs 23 = .ok (.invokestatic 334, 3) := by decide +kernel
theorem dX9_pairs_26 : decode cX9_pairs 26 = .ok (.iload_n 1, 1) := by decide +kernel
theorem dX9_pairs_27 : decode cX9_pairs 27 = .ok (.iload_n 2, 1) := by decide +kernel
theorem dX9_pairs_28 : decode cX9_pairs 28 = .ok (.isub, 1) := by decide +kernel
theorem dX9_pairs_29 : decode cX9_pairs 29 = .ok (.invokestatic 337, 3) := by decide +kernel
theorem dX9_pairs_32 : decode cX9_pairs 32 = .ok (.imul, 1) := by decide +kernel
theorem dX9_pairs_33 : decode cX9_pairs 33 = .ok (.ireturn, 1) := by decide +kernel
theorem dX9_ahead_0 : decode cX9_ahead 0 = .ok (.iload_n 1, 1) := by decide +kernel
theorem dX9_ahead_1 : decode cX9_ahead 1 = .ok (.ifCond .lt 27, 3) := by decide +kernel
theorem dX9_ahead_4 : decode cX9_ahead 4 = .ok (.iload_n 1, 1) := by decide +kernel
theorem dX9_ahead_5 : decode cX9_ahead 5 = .ok (.bipush 12, 2) := by decide +kernel
theorem dX9_ahead_7 : decode cX9_ahead 7 = .ok (.if_icmp .gt 21, 3) := by decide +kernel
theorem dX9_ahead_10 : decode cX9_ahead 10 = .ok (.iload_n 2, 1) := by decide +kernel
theorem dX9_ahead_11 : decode cX9_ahead 11 = .ok (.ifCond .lt 17, 3) := by decide +kernel
theorem dX9_ahead_14 : decode cX9_ahead 14 = .ok (.iload_n 2, 1) := by decide +kernel
theorem dX9_ahead_15 : decode cX9_ahead 15 = .ok (.iload_n 1, 1) := by decide +kernel
theorem dX9_ahead_16 : decode cX9_ahead 16 = .ok (.if_icmp .ge 12, 3) := by decide +kernel
theorem dX9_ahead_19 : decode cX9_ahead 19 = .ok (.iload_n 3, 1) := by decide +kernel
theorem dX9_ahead_20 : decode cX9_ahead 20 = .ok (.ifCond .lt 8, 3) := by decide +kernel
theorem dX9_ahead_23 : decode cX9_ahead 23 = .ok (.iload_n 3, 1) := by decide +kernel
theorem dX9_ahead_24 : decode cX9_ahead 24 = .ok (.iconst 2, 1) := by decide +kernel
theorem dX9_ahead_25 : decode cX9_ahead 25 = .ok (.if_icmp .le 5, 3) := by decide +kernel
theorem dX9_ahead_28 : decode cX9_ahead 28 = .ok (.iconst (-1), 1) := by decide +kernel
theorem dX9_ahead_29 : decode cX9_ahead 29 = .ok (.ireturn, 1) := by decide +kernel
theorem dX9_ahead_30 : decode cX9_ahead 30 = .ok (.iload_n 1, 1) := by decide +kernel
theorem dX9_ahead_31 : decode cX9_ahead 31 = .ok (.iload_n 2, 1) := by decide +kernel
theorem dX9_ahead_32 : decode cX9_ahead 32 = .ok (.iadd, 1) := by decide +kernel
theorem dX9_ahead_33 : decode cX9_ahead 33 = .ok (.istore 4, 2) := by decide +kernel
theorem dX9_ahead_35 : decode cX9_ahead 35 = .ok (.iload_n 1, 1) := by decide +kernel
theorem dX9_ahead_36 : decode cX9_ahead 36 = .ok (.iload_n 2, 1) := by decide +kernel
theorem dX9_ahead_37 : decode cX9_ahead 37 = .ok (.isub, 1) := by decide +kernel
theorem dX9_ahead_38 : decode cX9_ahead 38 = .ok (.istore 5, 2) := by decide +kernel
theorem dX9_ahead_40 : decode cX9_ahead 40 = .ok (.iload_n 3, 1) := by decide +kernel
theorem dX9_ahead_41 : decode cX9_ahead 41 = .ok (.ifCond .ne 16, 3) := by decide +kernel
theorem dX9_ahead_44 : decode cX9_ahead 44 = .ok (.iload 4, 2) := by decide +kernel
theorem dX9_ahead_46 : decode cX9_ahead 46 = .ok (.iload_n 1, 1) := by decide +kernel
theorem dX9_ahead_47 : decode cX9_ahead 47 = .ok (.invokestatic 334, 3) := by decide +kernel
theorem dX9_ahead_50 : decode cX9_ahead 50 = .ok (.iload 5, 2) := by decide +kernel
theorem dX9_ahead_52 : decode cX9_ahead 52 = .ok (.imul, 1) := by decide +kernel
theorem dX9_ahead_53 : decode cX9_ahead 53 = .ok (.iload 4, 2) := by decide +kernel
theorem dX9_ahead_55 : decode cX9_ahead 55 = .ok (.idiv, 1) := by decide +kernel
theorem dX9_ahead_56 : decode cX9_ahead 56 = .ok (.ireturn, 1) := by decide +kernel
theorem dX9_ahead_57 : decode cX9_ahead 57 = .ok (.iload 4, 2) := by decide +kernel
theorem dX9_ahead_59 : decode cX9_ahead 59 = .ok (.iload 5, 2) := by decide +kernel
theorem dX9_ahead_61 : decode cX9_ahead 61 = .ok (.invokestatic 340, 3) := by decide +kernel
theorem dX9_ahead_64 : decode cX9_ahead 64 = .ok (.istore 6, 2) := by decide +kernel
theorem dX9_ahead_66 : decode cX9_ahead 66 = .ok (.iload_n 3, 1) := by decide +kernel
theorem dX9_ahead_67 : decode cX9_ahead 67 = .ok (.iconst 1, 1) := by decide +kernel
theorem dX9_ahead_68 : decode cX9_ahead 68 = .ok (.if_icmp .ne 8, 3) := by decide +kernel
theorem dX9_ahead_71 : decode cX9_ahead 71 = .ok (.iload 5, 2) := by decide +kernel
theorem dX9_ahead_73 : decode cX9_ahead 73 = .ok (.goto 5, 3) := by decide +kernel
theorem dX9_ahead_76 : decode cX9_ahead 76 = .ok (.iload 4, 2) := by decide +kernel
theorem dX9_ahead_78 : decode cX9_ahead 78 = .ok (.iload 6, 2) := by decide +kernel
theorem dX9_ahead_80 : decode cX9_ahead 80 = .ok (.idiv, 1) := by decide +kernel
theorem dX9_ahead_81 : decode cX9_ahead 81 = .ok (.ireturn, 1) := by decide +kernel
theorem dX9_feast_0 : decode cX9_feast 0 = .ok (.iload_n 1, 1) := by decide +kernel
theorem dX9_feast_1 : decode cX9_feast 1 = .ok (.sipush 1600, 3) := by decide +kernel
theorem dX9_feast_4 : decode cX9_feast 4 = .ok (.if_icmp .lt 19, 3) := by decide +kernel
theorem dX9_feast_7 : decode cX9_feast 7 = .ok (.iload_n 1, 1) := by decide +kernel
theorem dX9_feast_8 : decode cX9_feast 8 = .ok (.sipush 2400, 3) := by decide +kernel
theorem dX9_feast_11 : decode cX9_feast 11 = .ok (.if_icmp .gt 12, 3) := by decide +kernel
theorem dX9_feast_14 : decode cX9_feast 14 = .ok (.iload_n 2, 1) := by decide +kernel
theorem dX9_feast_15 : decode cX9_feast 15 = .ok (.ifCond .lt 8, 3) := by decide +kernel
theorem dX9_feast_18 : decode cX9_feast 18 = .ok (.iload_n 2, 1) := by decide +kernel
theorem dX9_feast_19 : decode cX9_feast 19 = .ok (.iconst 1, 1) := by decide +kernel
theorem dX9_feast_20 : decode cX9_feast 20 = .ok (.if_icmp .le 5, 3) := by decide +kernel
theorem dX9_feast_23 : decode cX9_feast 23 = .ok (.iconst (-1), 1) := by decide +kernel
theorem dX9_feast_24 : decode cX9_feast 24 = .ok (.ireturn, 1) := by decide +kernel
theorem dX9_feast_25 : decode cX9_feast 25 = .ok (.iload_n 1, 1) := by decide +kernel
theorem dX9_feast_26 : decode cX9_feast 26 = .ok (.invokestatic 343, 3) := by decide +kernel
theorem dX9_feast_29 : decode cX9_feast 29 = .ok (.istore_n 3, 1) := by decide +kernel
theorem dX9_feast_30 : decode cX9_feast 30 = .ok (.iload_n 2, 1) := by decide +kernel
theorem dX9_feast_31 : decode cX9_feast 31 = .ok (.ifCond .ne 10, 3) := by decide +kernel
theorem dX9_feast_34 : decode cX9_feast 34 = .ok (.iload_n 3, 1) := by decide +kernel
theorem dX9_feast_35 : decode cX9_feast 35 = .ok (.bipush 31, 2) := by decide +kernel
theorem dX9_feast_37 : decode cX9_feast 37 = .ok (.idiv, 1) := by decide +kernel
theorem dX9_feast_38 : decode cX9_feast 38 = .ok (.goto 9, 3) := by decide +kernel
theorem dX9_feast_41 : decode cX9_feast 41 = .ok (.iload_n 3, 1) := by decide +kernel
theorem dX9_feast_42 : decode cX9_feast 42 = .ok (.bipush 31, 2) := by decide +kernel
theorem dX9_feast_44 : decode cX9_feast 44 = .ok (.irem, 1) := by decide +kernel
theorem dX9_feast_45 : decode cX9_feast 45 = .ok (.iconst 1, 1) := by decide +kernel
theorem dX9_feast_46 : decode cX9_feast 46 = .ok (.iadd, 1) := by decide +kernel
theorem dX9_feast_47 : decode cX9_feast 47 = .ok (.ireturn, 1) := by decide +kernel
theorem dX9_happy_0 : decode cX9_happy 0 = .ok (.iload_n 1, 1) := by decide +kernel
theorem dX9_happy_1 : decode cX9_happy 1 = .ok (.iconst 1, 1) := by decide +kernel
theorem dX9_happy_2 : decode cX9_happy 2 = .ok (.if_icmp .lt 10, 3) := by decide +kernel
theorem dX9_happy_5 : decode cX9_happy 5 = .ok (.iload_n 1, 1) := by decide +kernel
theorem dX9_happy_6 : decode cX9_happy 6 = .ok (.ldc_w 346, 3) := by decide +kernel
theorem dX9_happy_9 : decode cX9_happy 9 = .ok (.if_icmp .le 5, 3) := by decide +kernel
theorem dX9_happy_12 : decode cX9_happy 12 = .ok (.iconst (-1), 1) := by decide +kernel
theorem dX9_happy_13 : decode cX9_happy 13 = .ok (.ireturn, 1) := by decide +kernel
theorem dX9_happy_14 : decode cX9_happy 14 = .ok (.iload_n 2, 1) := by decide +kernel
theorem dX9_happy_15 : decode cX9_happy 15 = .ok (.tableswitch 60 0 2 #[25, 39, 44], 25) := by decide +kernel
theorem dX9_happy_40 : decode cX9_happy 40 = .ok (.iload_n 1, 1) := by decide +kernel
theorem dX9_happy_41 : decode cX9_happy 41 = .ok (.invokestatic 347, 3) := by decide +kernel
theorem dX9_happy_44 : decode cX9_happy 44 = .ok (.iconst 1, 1) := by decide +kernel
theorem dX9_happy_45 : decode cX9_happy 45 = .ok (.if_icmp .ne 7, 3) := by decide +kernel
theorem dX9_happy_48 : decode cX9_happy 48 = .ok (.iconst 1, 1) := by decide +kernel
theorem dX9_happy_49 : decode cX9_happy 49 = .ok (.goto 4, 3) := by decide +kernel
theorem dX9_happy_52 : decode cX9_happy 52 = .ok (.iconst 0, 1) := by decide +kernel
theorem dX9_happy_53 : decode cX9_happy 53 = .ok (.ireturn, 1) := by decide +kernel
theorem dX9_happy_54 : decode cX9_happy 54 = .ok (.iload_n 1, 1) := by decide +kernel
theorem dX9_happy_55 : decode cX9_happy 55 = .ok (.invokestatic 350, 3) := by decide +kernel
theorem dX9_happy_58 : decode cX9_happy 58 = .ok (.ireturn, 1) := by decide +kernel
theorem dX9_happy_59 : decode cX9_happy 59 = .ok (.iload_n 1, 1) := by decide +kernel
theorem dX9_happy_60 : decode cX9_happy 60 = .ok (.sipush 999, 3) := by decide +kernel
theorem dX9_happy_63 : decode cX9_happy 63 = .ok (.if_icmp .le 7, 3) := by decide +kernel
theorem dX9_happy_66 : decode cX9_happy 66 = .ok (.iconst (-1), 1) := by decide +kernel
theorem dX9_happy_67 : decode cX9_happy 67 = .ok (.goto 7, 3) := by decide +kernel
theorem dX9_happy_70 : decode cX9_happy 70 = .ok (.iload_n 1, 1) := by decide +kernel
theorem dX9_happy_71 : decode cX9_happy 71 = .ok (.invokestatic 353, 3) := by decide +kernel
theorem dX9_happy_74 : decode cX9_happy 74 = .ok (.ireturn, 1) := by decide +kernel
theorem dX9_happy_75 : decode cX9_happy 75 = .ok (.iconst (-1), 1) := by decide +kernel
theorem dX9_happy_76 : decode cX9_happy 76 = .ok (.ireturn, 1) := by decide +kernel
theorem dX9_parts_0 : decode cX9_parts 0 = .ok (.iload_n 1, 1) := by decide +kernel
theorem dX9_parts_1 : decode cX9_parts 1 = .ok (.iconst 2, 1) := by decide +kernel
theorem dX9_parts_2 : decode cX9_parts 2 = .ok (.if_icmp .lt 19, 3) := by decide +kernel
theorem dX9_parts_5 : decode cX9_parts 5 = .ok (.iload_n 1, 1) := by decide +kernel
theorem dX9_parts_6 : decode cX9_parts 6 = .ok (.ldc_w 346, 3) := by decide +kernel
theorem dX9_parts_9 : decode cX9_parts 9 = .ok (.if_icmp .gt 12, 3) := by decide +kernel
theorem dX9_parts_12 : decode cX9_parts 12 = .ok (.iload_n 2, 1) := by decide +kernel
theorem dX9_parts_13 : decode cX9_parts 13 = .ok (.ifCond .lt 8, 3) := by decide +kernel
theorem dX9_parts_16 : decode cX9_parts 16 = .ok (.iload_n 2, 1) := by decide +kernel
theorem dX9_parts_17 : decode cX9_parts 17 = .ok (.iconst 3, 1) := by decide +kernel
theorem dX9_parts_18 : decode cX9_parts 18 = .ok (.if_icmp .le 5, 3) := by decide +kernel
theorem dX9_parts_21 : decode cX9_parts 21 = .ok (.iconst (-1), 1) := by decide +kernel
theorem dX9_parts_22 : decode cX9_parts 22 = .ok (.ireturn, 1) := by decide +kernel
theorem dX9_parts_23 : decode cX9_parts 23 = .ok (.iload_n 1, 1) := by decide +kernel
theorem dX9_parts_24 : decode cX9_parts 24 = .ok (.iload_n 2, 1) := by decide +kernel
theorem dX9_parts_25 : decode cX9_parts 25 = .ok (.invokestatic 356, 3) := by decide +kernel
theorem dX9_parts_28 : decode cX9_parts 28 = .ok (.ireturn, 1) := by decide +kernel
theorem dX9_brackets_0 : decode cX9_brackets 0 = .ok (.iload_n 1, 1) := by decide +kernel
theorem dX9_brackets_1 : decode cX9_brackets 1 = .ok (.ifCond .lt 9, 3) := by decide +kernel
theorem dX9_brackets_4 : decode cX9_brackets 4 = .ok (.iload_n 1, 1) := by decide +kernel
theorem dX9_brackets_5 : decode cX9_brackets 5 = .ok (.bipush 8, 2) := by decide +kernel
theorem dX9_brackets_7 : decode cX9_brackets 7 = .ok (.if_icmp .le 5, 3) := by decide +kernel
theorem dX9_brackets_10 : decode cX9_brackets 10 = .ok (.iconst (-1), 1) := by decide +kernel
theorem dX9_brackets_11 : decode cX9_brackets 11 = .ok (.ireturn, 1) := by decide +kernel
theorem dX9_brackets_12 : decode cX9_brackets 12 = .ok (.iload_n 3, 1) := by decide +kernel
theorem dX9_brackets_13 : decode cX9_brackets 13 = .ok (.tableswitch 83 0 2 #[27, 35, 60], 27) := by decide +kernel
theorem dX9_brackets_40 : decode cX9_brackets 40 = .ok (.iconst 2, 1) := by decide +kernel
theorem dX9_brackets_41 : decode cX9_brackets 41 = .ok (.iload_n 1, 1) := by decide +kernel
theorem dX9_brackets_42 : decode cX9_brackets 42 = .ok (.imul, 1) := by decide +kernel
theorem dX9_brackets_43 : decode cX9_brackets 43 = .ok (.iconst 0, 1) := by decide +kernel
theorem dX9_brackets_44 : decode cX9_brackets 44 = .ok (.invokestatic 359, 3) := by decide +kernel
theorem dX9_brackets_47 : decode cX9_brackets 47 = .ok (.ireturn, 1) := by decide +kernel
theorem dX9_brackets_48 : decode cX9_brackets 48 = .ok (.iload_n 2, 1) := by decide +kernel
theorem dX9_brackets_49 : decode cX9_brackets 49 = .ok (.ifCond .lt 14, 3) := by decide +kernel
theorem dX9_brackets_52 : decode cX9_brackets 52 = .ok (.iload_n 2, 1) := by decide +kernel
theorem dX9_brackets_53 : decode cX9_brackets 53 = .ok (.iconst 2, 1) := by decide +kernel
theorem dX9_brackets_54 : decode cX9_brackets 54 = .ok (.iload_n 1, 1) := by decide +kernel
theorem dX9_brackets_55 : decode cX9_brackets 55 = .ok (.imul, 1) := by decide +kernel
theorem dX9_brackets_56 : decode cX9_brackets 56 = .ok (.iconst 0, 1) := by decide +kernel
theorem dX9_brackets_57 : decode cX9_brackets 57 = .ok (.invokestatic 359, 3) := by decide +kernel
theorem dX9_brackets_60 : decode cX9_brackets 60 = .ok (.if_icmp .lt 7, 3) := by decide +kernel
theorem dX9_brackets_63 : decode cX9_brackets 63 = .ok (.iconst (-1), 1) := by decide +kernel
theorem dX9_brackets_64 : decode cX9_brackets 64 = .ok (.goto 8, 3) := by decide +kernel
theorem dX9_brackets_67 : decode cX9_brackets 67 = .ok (.iload_n 1, 1) := by decide +kernel
theorem dX9_brackets_68 : decode cX9_brackets 68 = .ok (.iload_n 2, 1) := by decide +kernel
theorem dX9_brackets_69 : decode cX9_brackets 69 = .ok (.invokestatic 362, 3) := by decide +kernel
theorem dX9_brackets_72 : decode cX9_brackets 72 = .ok (.ireturn, 1) := by decide +kernel
theorem dX9_brackets_73 : decode cX9_brackets 73 = .ok (.iload_n 2, 1) := by decide +kernel
theorem dX9_brackets_74 : decode cX9_brackets 74 = .ok (.ifCond .lt 12, 3) := by decide +kernel
theorem dX9_brackets_77 : decode cX9_brackets 77 = .ok (.iload_n 2, 1) := by decide +kernel
theorem dX9_brackets_78 : decode cX9_brackets 78 = .ok (.iconst 1, 1) := by decide +kernel
theorem dX9_brackets_79 : decode cX9_brackets 79 = .ok (.iconst 2, 1) := by decide +kernel
theorem dX9_brackets_80 : decode cX9_brackets 80 = .ok (.iload_n 1, 1) := by decide +kernel
theorem dX9_brackets_81 : decode cX9_brackets 81 = .ok (.imul, 1) := by decide +kernel
theorem dX9_brackets_82 : decode cX9_brackets 82 = .ok (.ishl, 1) := by decide +kernel
theorem dX9_brackets_83 : decode cX9_brackets 83 = .ok (.if_icmp .lt 7, 3) := by decide +kernel
theorem dX9_brackets_86 : decode cX9_brackets 86 = .ok (.iconst (-1), 1) := by decide +kernel
theorem dX9_brackets_87 : decode cX9_brackets 87 = .ok (.goto 8, 3) := by decide +kernel
theorem dX9_brackets_90 : decode cX9_brackets 90 = .ok (.iload_n 1, 1) := by decide +kernel
theorem dX9_brackets_91 : decode cX9_brackets 91 = .ok (.iload_n 2, 1) := by decide +kernel
theorem dX9_brackets_92 : decode cX9_brackets 92 = .ok (.invokestatic 365, 3) := by decide +kernel
theorem dX9_brackets_95 : decode cX9_brackets 95 = .ok (.ireturn, 1) := by decide +kernel
theorem dX9_brackets_96 : decode cX9_brackets 96 = .ok (.iconst (-1), 1) := by decide +kernel
theorem dX9_brackets_97 : decode cX9_brackets 97 = .ok (.ireturn, 1) := by decide +kernel
theorem dX9_game_0 : decode cX9_game 0 = .ok (.iload_n 1, 1) := by decide +kernel
theorem dX9_game_1 : decode cX9_game 1 = .ok (.iconst 1, 1) := by decide +kernel
theorem dX9_game_2 : decode cX9_game 2 = .ok (.if_icmp .lt 25, 3) := by decide +kernel
theorem dX9_game_5 : decode cX9_game 5 = .ok (.iload_n 1, 1) := by decide +kernel
theorem dX9_game_6 : decode cX9_game 6 = .ok (.bipush 120, 2) := by decide +kernel
theorem dX9_game_8 : decode cX9_game 8 = .ok (.if_icmp .gt 19, 3) := by decide +kernel
theorem dX9_game_11 : decode cX9_game 11 = .ok (.iload_n 2, 1) := by decide +kernel
theorem dX9_game_12 : decode cX9_game 12 = .ok (.bipush 120, 2) := by decide +kernel
theorem dX9_game_14 : decode cX9_game 14 = .ok (.if_icmp .gt 13, 3) := by decide +kernel
theorem dX9_game_17 : decode cX9_game 17 = .ok (.iload_n 2, 1) := by decide +kernel
theorem dX9_game_18 : decode cX9_game 18 = .ok (.iconst 1, 1) := by decide +kernel
theorem dX9_game_19 : decode cX9_game 19 = .ok (.if_icmp .ge 10, 3) := by decide +kernel
theorem dX9_game_22 : decode cX9_game 22 = .ok (.iload_n 2, 1) := by decide +kernel
theorem dX9_game_23 : decode cX9_game 23 = .ok (.iconst (-1), 1) := by decide +kernel
theorem dX9_game_24 : decode cX9_game 24 = .ok (.if_icmp .eq 5, 3) := by decide +kernel
theorem dX9_game_27 : decode cX9_game 27 = .ok (.iconst (-1), 1) := by decide +kernel
theorem dX9_game_28 : decode cX9_game 28 = .ok (.ireturn, 1) := by decide +kernel
theorem dX9_game_29 : decode cX9_game 29 = .ok (.iload_n 1, 1) := by decide +kernel
theorem dX9_game_30 : decode cX9_game 30 = .ok (.invokestatic 368, 3) := by decide +kernel
theorem dX9_game_33 : decode cX9_game 33 = .ok (.istore_n 3, 1) := by decide +kernel
theorem dX9_game_34 : decode cX9_game 34 = .ok (.iload_n 3, 1) := by decide +kernel
theorem dX9_game_35 : decode cX9_game 35 = .ok (.iload_n 2, 1) := by decide +kernel
theorem dX9_game_36 : decode cX9_game 36 = .ok (.iconst (-1), 1) := by decide +kernel
theorem dX9_game_37 : decode cX9_game 37 = .ok (.if_icmp .ne 9, 3) := by decide +kernel
theorem dX9_game_40 : decode cX9_game 40 = .ok (.iload_n 1, 1) := by decide +kernel
theorem dX9_game_41 : decode cX9_game 41 = .ok (.iconst 1, 1) := by decide +kernel
theorem dX9_game_42 : decode cX9_game 42 = .ok (.isub, 1) := by decide +kernel
theorem dX9_game_43 : decode cX9_game 43 = .ok (.goto 4, 3) := by decide +kernel
theorem dX9_game_46 : decode cX9_game 46 = .ok (.iload_n 2, 1) := by decide +kernel
theorem dX9_game_47 : decode cX9_game 47 = .ok (.if_icmp .gt 7, 3) := by decide +kernel
theorem dX9_game_50 : decode cX9_game 50 = .ok (.iload_n 3, 1) := by decide +kernel
theorem dX9_game_51 : decode cX9_game 51 = .ok (.goto 4, 3) := by decide +kernel
theorem dX9_game_54 : decode cX9_game 54 = .ok (.iconst (-1), 1) := by decide +kernel
theorem dX9_game_55 : decode cX9_game 55 = .ok (.ireturn, 1) := by decide +kernel
theorem dX9_undo_0 : decode cX9_undo 0 = .ok (.aload_n 0, 1) := by decide +kernel
theorem dX9_undo_1 : decode cX9_undo 1 = .ok (.getfield 33, 3) := by decide +kernel
theorem dX9_undo_4 : decode cX9_undo 4 = .ok (.aload_n 0, 1) := by decide +kernel
theorem dX9_undo_5 : decode cX9_undo 5 = .ok (.getfield 10, 3) := by decide +kernel
theorem dX9_undo_8 : decode cX9_undo 8 = .ok (.invokevirtual 371, 3) := by decide +kernel
theorem dX9_undo_11 : decode cX9_undo 11 = .ok (.ireturn, 1) := by decide +kernel
theorem dX9_image_0 : decode cX9_image 0 = .ok (.iload_n 1, 1) := by decide +kernel
theorem dX9_image_1 : decode cX9_image 1 = .ok (.ifCond .eq 22, 3) := by decide +kernel
theorem dX9_image_4 : decode cX9_image 4 = .ok (.aload_n 0, 1) := by decide +kernel
theorem dX9_image_5 : decode cX9_image 5 = .ok (.getfield 16, 3) := by decide +kernel
theorem dX9_image_8 : decode cX9_image 8 = .ok (.aload_n 0, 1) := by decide +kernel
theorem dX9_image_9 : decode cX9_image 9 = .ok (.getfield 10, 3) := by decide +kernel
theorem dX9_image_12 : decode cX9_image 12 = .ok (.invokevirtual 375, 3) := by decide +kernel
theorem dX9_image_15 : decode cX9_image 15 = .ok (.aload_n 0, 1) := by decide +kernel
theorem dX9_image_16 : decode cX9_image 16 = .ok (.iconst 1, 1) := by decide +kernel
theorem dX9_image_17 : decode cX9_image 17 = .ok (.putfield 19, 3) := by decide +kernel
theorem dX9_image_20 : decode cX9_image 20 = .ok (.goto 28, 3) := by decide +kernel
theorem dX9_image_23 : decode cX9_image 23 = .ok (.aload_n 0, 1) := by decide +kernel
theorem dX9_image_24 : decode cX9_image 24 = .ok (.getfield 19, 3) := by decide +kernel
theorem dX9_image_27 : decode cX9_image 27 = .ok (.ifCond .eq 21, 3) := by decide +kernel
theorem dX9_image_30 : decode cX9_image 30 = .ok (.aload_n 0, 1) := by decide +kernel
theorem dX9_image_31 : decode cX9_image 31 = .ok (.getfield 10, 3) := by decide +kernel
theorem dX9_image_34 : decode cX9_image 34 = .ok (.aload_n 0, 1) := by decide +kernel
theorem dX9_image_35 : decode cX9_image 35 = .ok (.getfield 16, 3) := by decide +kernel
theorem dX9_image_38 : decode cX9_image 38 = .ok (.invokevirtual 375, 3) := by decide +kernel
theorem dX9_image_41 : decode cX9_image 41 = .ok (.aload_n 0, 1) := by decide +kernel
theorem dX9_image_42 : decode cX9_image 42 = .ok (.getfield 33, 3) := by decide +kernel
theorem dX9_image_45 : decode cX9_image 45 = .ok (.invokevirtual 51, 3) := by decide +kernel
theorem dX9_image_48 : decode cX9_image 48 = .ok (.aload_n 0, 1) := by decide +kernel
theorem dX9_image_49 : decode cX9_image 49 = .ok (.getfield 19, 3) := by decide +kernel
theorem dX9_image_52 : decode cX9_image 52 = .ok (.ireturn, 1) := by decide +kernel
theorem dX9_copyRow_0 : decode cX9_copyRow 0 = .ok (.iconst 0, 1) := by decide +kernel
theorem dX9_copyRow_1 : decode cX9_copyRow 1 = .ok (.istore_n 2, 1) := by decide +kernel
theorem dX9_copyRow_2 : decode cX9_copyRow 2 = .ok (.iload_n 2, 1) := by decide +kernel
theorem dX9_copyRow_3 : decode cX9_copyRow 3 = .ok (.aload_n 0, 1) := by decide +kernel
theorem dX9_copyRow_4 : decode cX9_copyRow 4 = .ok (.arraylength, 1) := by decide +kernel
theorem dX9_copyRow_5 : decode cX9_copyRow 5 = .ok (.if_icmp .ge 21, 3) := by decide +kernel
theorem dX9_copyRow_8 : decode cX9_copyRow 8 = .ok (.iload_n 2, 1) := by decide +kernel
theorem dX9_copyRow_9 : decode cX9_copyRow 9 = .ok (.aload_n 1, 1) := by decide +kernel
theorem dX9_copyRow_10 : decode cX9_copyRow 10 = .ok (.arraylength, 1) := by decide +kernel
theorem dX9_copyRow_11 : decode cX9_copyRow 11 = .ok (.if_icmp .ge 15, 3) := by decide +kernel
theorem dX9_copyRow_14 : decode cX9_copyRow 14 = .ok (.aload_n 1, 1) := by decide +kernel
theorem dX9_copyRow_15 : decode cX9_copyRow 15 = .ok (.iload_n 2, 1) := by decide +kernel
theorem dX9_copyRow_16 : decode cX9_copyRow 16 = .ok (.aload_n 0, 1) := by decide +kernel
theorem dX9_copyRow_17 : decode cX9_copyRow 17 = .ok (.iload_n 2, 1) := by decide +kernel
theorem dX9_copyRow_18 : decode cX9_copyRow 18 = .ok (.iaload, 1) := by decide +kernel
theorem dX9_copyRow_19 : decode cX9_copyRow 19 = .ok (.iastore, 1) := by decide +kernel
theorem dX9_copyRow_20 : decode cX9_copyRow 20 = .ok (.iinc 2 1, 3) := by decide +kernel
theorem dX9_copyRow_23 : decode cX9_copyRow 23 = .ok (.goto (-21), 3) := by decide +kernel
theorem dX9_copyRow_26 : decode cX9_copyRow 26 = .ok (.return_, 1) := by decide +kernel
