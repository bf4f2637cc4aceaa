theorem dX0_init_0 : decode cX0_init 0 = .ok (.aload_n 0, 1) := by decide +kernel
theorem dX0_init_1 : decode cX0_init 1 = .ok (.invokespecial 3, 3) := by decide +kernel
theorem dX0_init_4 : decode cX0_init 4 = .ok (.aload_n 0, 1) := by decide +kernel
theorem dX0_init_5 : decode cX0_init 5 = .ok (.bipush 6, 2) := by decide +kernel
theorem dX0_init_7 : decode cX0_init 7 = .ok (.newarray .int, 2) := by decide +kernel
theorem dX0_init_9 : decode cX0_init 9 = .ok (.putfield 9, 3) := by decide +kernel
theorem dX0_init_12 : decode cX0_init 12 = .ok (.aload_n 0, 1) := by decide +kernel
theorem dX0_init_13 : decode cX0_init 13 = .ok (.bipush 6, 2) := by decide +kernel
theorem dX0_init_15 : decode cX0_init 15 = .ok (.newarray .int, 2) := by decide +kernel
theorem dX0_init_17 : decode cX0_init 17 = .ok (.putfield 15, 3) := by decide +kernel
theorem dX0_init_20 : decode cX0_init 20 = .ok (.aload_n 0, 1) := by decide +kernel
theorem dX0_init_21 : decode cX0_init 21 = .ok (.bipush 6, 2) := by decide +kernel
theorem dX0_init_23 : decode cX0_init 23 = .ok (.newarray .int, 2) := by decide +kernel
theorem dX0_init_25 : decode cX0_init 25 = .ok (.putfield 18, 3) := by decide +kernel
theorem dX0_init_28 : decode cX0_init 28 = .ok (.aload_n 0, 1) := by decide +kernel
theorem dX0_init_29 : decode cX0_init 29 = .ok (.bipush 6, 2) := by decide +kernel
theorem dX0_init_31 : decode cX0_init 31 = .ok (.newarray .int, 2) := by decide +kernel
theorem dX0_init_33 : decode cX0_init 33 = .ok (.putfield 21, 3) := by decide +kernel
theorem dX0_init_36 : decode cX0_init 36 = .ok (.aload_n 0, 1) := by decide +kernel
theorem dX0_init_37 : decode cX0_init 37 = .ok (.bipush 6, 2) := by decide +kernel
theorem dX0_init_39 : decode cX0_init 39 = .ok (.newarray .int, 2) := by decide +kernel
theorem dX0_init_41 : decode cX0_init 41 = .ok (.putfield 24, 3) := by decide +kernel
theorem dX0_init_44 : decode cX0_init 44 = .ok (.aload_n 0, 1) := by decide +kernel
theorem dX0_init_45 : decode cX0_init 45 = .ok (.bipush 6, 2) := by decide +kernel
theorem dX0_init_47 : decode cX0_init 47 = .ok (.newarray .int, 2) := by decide +kernel
theorem dX0_init_49 : decode cX0_init 49 = .ok (.putfield 27, 3) := by decide +kernel
theorem dX0_init_52 : decode cX0_init 52 = .ok (.aload_n 0, 1) := by decide +kernel
theorem dX0_init_53 : decode cX0_init 53 = .ok (.bipush 6, 2) := by decide +kernel
theorem dX0_init_55 : decode cX0_init 55 = .ok (.newarray .int, 2) := by decide +kernel
theorem dX0_init_57 : decode cX0_init 57 = .ok (.putfield 30, 3) := by decide +kernel
theorem dX0_init_60 : decode cX0_init 60 = .ok (.return_, 1) := by decide +kernel
theorem dX0_clear_0 : decode cX0_clear 0 = .ok (.aload_n 0, 1) := by decide +kernel
theorem dX0_clear_1 : decode cX0_clear 1 = .ok (.iconst 0, 1) := by decide +kernel
theorem dX0_clear_2 : decode cX0_clear 2 = .ok (.putfield 33, 3) := by decide +kernel
theorem dX0_clear_5 : decode cX0_clear 5 = .ok (.aload_n 0, 1) := by decide +kernel
theorem dX0_clear_6 : decode cX0_clear 6 = .ok (.iconst 0, 1) := by decide +kernel
theorem dX0_clear_7 : decode cX0_clear 7 = .ok (.putfield 37, 3) := by decide +kernel
theorem dX0_clear_10 : decode cX0_clear 10 = .ok (.aload_n 0, 1) := by decide +kernel
theorem dX0_clear_11 : decode cX0_clear 11 = .ok (.iconst 0, 1) := by decide +kernel
theorem dX0_clear_12 : decode cX0_clear 12 = .ok (.putfield 40, 3) := by decide +kernel
theorem dX0_clear_15 : decode cX0_clear 15 = .ok (.aload_n 0, 1) := by decide +kernel
theorem dX0_clear_16 : decode cX0_clear 16 = .ok (.getstatic 44, 3) := by decide +kernel
theorem dX0_clear_19 : decode cX0_clear 19 = .ok (.bipush 6, 2) := by decide +kernel
theorem dX0_clear_21 : decode cX0_clear 21 = .ok (.iaload, 1) := by decide +kernel
theorem dX0_clear_22 : decode cX0_clear 22 = .ok (.putfield 47, 3) := by decide +kernel
theorem dX0_clear_25 : decode cX0_clear 25 = .ok (.aload_n 0, 1) := by decide +kernel
theorem dX0_clear_26 : decode cX0_clear 26 = .ok (.getstatic 44, 3) := by decide +kernel
theorem dX0_clear_29 : decode cX0_clear 29 = .ok (.bipush 7, 2) := by decide +kernel
theorem dX0_clear_31 : decode cX0_clear 31 = .ok (.iaload, 1) := by decide +kernel
theorem dX0_clear_32 : decode cX0_clear 32 = .ok (.putfield 50, 3) := by decide +kernel
theorem dX0_clear_35 : decode cX0_clear 35 = .ok (.iconst 0, 1) := by decide +kernel
theorem dX0_clear_36 : decode cX0_clear 36 = .ok (.istore_n 1, 1) := by decide +kernel
theorem dX0_clear_37 : decode cX0_clear 37 = .ok (.iload_n 1, 1) := by decide +kernel
theorem dX0_clear_38 : decode cX0_clear 38 = .ok (.bipush 6, 2) := by decide +kernel
theorem dX0_clear_40 : decode cX0_clear 40 = .ok (.if_icmp .ge 30, 3) := by decide +kernel
theorem dX0_clear_43 : decode cX0_clear 43 = .ok (.aload_n 0, 1) := by decide +kernel
theorem dX0_clear_44 : decode cX0_clear 44 = .ok (.getfield 9, 3) := by decide +kernel
theorem dX0_clear_47 : decode cX0_clear 47 = .ok (.iload_n 1, 1) := by decide +kernel
theorem dX0_clear_48 : decode cX0_clear 48 = .ok (.iconst 0, 1) := by decide +kernel
theorem dX0_clear_49 : decode cX0_clear 49 = .ok (.iastore, 1) := by decide +kernel
theorem dX0_clear_50 : decode cX0_clear 50 = .ok (.aload_n 0, 1) := by decide +kernel
theorem dX0_clear_51 : decode cX0_clear 51 = .ok (.getfield 15, 3) := by decide +kernel
theorem dX0_clear_54 : decode cX0_clear 54 = .ok (.iload_n 1, 1) := by decide +kernel
theorem dX0_clear_55 : decode cX0_clear 55 = .ok (.iconst 0, 1) := by decide +kernel
theorem dX0_clear_56 : decode cX0_clear 56 = .ok (.iastore, 1) := by decide +kernel
theorem dX0_clear_57 : decode cX0_clear 57 = .ok (.aload_n 0, 1) := by decide +kernel
theorem dX0_clear_58 : decode cX0_clear 58 = .ok (.getfield 18, 3) := by decide +kernel
theorem dX0_clear_61 : decode cX0_clear 61 = .ok (.iload_n 1, 1) := by decide +kernel
theorem dX0_clear_62 : decode cX0_clear 62 = .ok (.iconst 0, 1) := by decide +kernel
theorem dX0_clear_63 : decode cX0_clear 63 = .ok (.iastore, 1) := by decide +kernel
theorem dX0_clear_64 : decode cX0_clear 64 = .ok (.iinc 1 1, 3) := by decide +kernel
theorem dX0_clear_67 : decode cX0_clear 67 = .ok (.goto (-30), 3) := by decide +kernel
theorem dX0_clear_70 : decode cX0_clear 70 = .ok (.return_, 1) := by decide +kernel
theorem dX0_addSeller_0 : decode cX0_addSeller 0 = .ok (.aload_n 0, 1) := by decide +kernel
theorem dX0_addSeller_1 : decode cX0_addSeller 1 = .ok (.getfield 33, 3) := by decide +kernel
theorem dX0_addSeller_4 : decode cX0_addSeller 4 = .ok (.iconst 5, 1) := by decide +kernel
theorem dX0_addSeller_5 : decode cX0_addSeller 5 = .ok (.if_icmp .lt 5, 3) := by decide +kernel
theorem dX0_addSeller_8 : decode cX0_addSeller 8 = .ok (.iconst 0, 1) := by decide +kernel
theorem dX0_addSeller_9 : decode cX0_addSeller 9 = .ok (.ireturn, 1) := by decide +kernel
theorem dX0_addSeller_10 : decode cX0_addSeller 10 = .ok (.aload_n 0, 1) := by decide +kernel
theorem dX0_addSeller_11 : decode cX0_addSeller 11 = .ok (.getfield 9, 3) := by decide +kernel
theorem dX0_addSeller_14 : decode cX0_addSeller 14 = .ok (.aload_n 0, 1) := by decide +kernel
theorem dX0_addSeller_15 : decode cX0_addSeller 15 = .ok (.getfield 33, 3) := by decide +kernel
theorem dX0_addSeller_18 : decode cX0_addSeller 18 = .ok (.iload_n 1, 1) := by decide +kernel
theorem dX0_addSeller_19 : decode cX0_addSeller 19 = .ok (.iastore, 1) := by decide +kernel
theorem dX0_addSeller_20 : decode cX0_addSeller 20 = .ok (.aload_n 0, 1) := by decide +kernel
theorem dX0_addSeller_21 : decode cX0_addSeller 21 = .ok (.getfield 15, 3) := by decide +kernel
theorem dX0_addSeller_24 : decode cX0_addSeller 24 = .ok (.aload_n 0, 1) := by decide +kernel
theorem dX0_addSeller_25 : decode cX0_addSeller 25 = .ok (.getfield 33, 3) := by decide +kernel
theorem dX0_addSeller_28 : decode cX0_addSeller 28 = .ok (.iload_n 2, 1) := by decide +kernel
theorem dX0_addSeller_29 : decode cX0_addSeller 29 = .ok (.iastore, 1) := by decide +kernel
theorem dX0_addSeller_30 : decode cX0_addSeller 30 = .ok (.aload_n 0, 1) := by decide +kernel
theorem dX0_addSeller_31 : decode cX0_addSeller 31 = .ok (.getfield 18, 3) := by decide +kernel
theorem dX0_addSeller_34 : decode cX0_addSeller 34 = .ok (.aload_n 0, 1) := by decide +kernel
theorem dX0_addSeller_35 : decode cX0_addSeller 35 = .ok (.getfield 33, 3) := by decide +kernel
theorem dX0_addSeller_38 : decode cX0_addSeller 38 = .ok (.iload_n 3, 1) := by decide +kernel
theorem dX0_addSeller_39 : decode cX0_addSeller 39 = .ok (.iastore, 1) := by decide +kernel
theorem dX0_addSeller_40 : decode cX0_addSeller 40 = .ok (.aload_n 0, 1) := by decide +kernel
theorem dX0_addSeller_41 : decode cX0_addSeller 41 = .ok (.dup, 1) := by decide +kernel
theorem dX0_addSeller_42 : decode cX0_addSeller 42 = .ok (.getfield 33, 3) := by decide +kernel
theorem dX0_addSeller_45 : decode cX0_addSeller 45 = .ok (.iconst 1, 1) := by decide +kernel
theorem dX0_addSeller_46 : decode cX0_addSeller 46 = .ok (.iadd, 1) := by decide +kernel
theorem dX0_addSeller_47 : decode cX0_addSeller 47 = .ok (.putfield 33, 3) := by decide +kernel
theorem dX0_addSeller_50 : decode cX0_addSeller 50 = .ok (.iconst 1, 1) := by decide +kernel
theorem dX0_addSeller_51 : decode cX0_addSeller 51 = .ok (.ireturn, 1) := by decide +kernel
theorem dX0_addSort_0 : decode cX0_addSort 0 = .ok (.aload_n 0, 1) := by decide +kernel
theorem dX0_addSort_1 : decode cX0_addSort 1 = .ok (.getfield 37, 3) := by decide +kernel
theorem dX0_addSort_4 : decode cX0_addSort 4 = .ok (.bipush 6, 2) := by decide +kernel
theorem dX0_addSort_6 : decode cX0_addSort 6 = .ok (.if_icmp .lt 5, 3) := by decide +kernel
theorem dX0_addSort_9 : decode cX0_addSort 9 = .ok (.iconst 0, 1) := by decide +kernel
theorem dX0_addSort_10 : decode cX0_addSort 10 = .ok (.ireturn, 1) := by decide +kernel
theorem dX0_addSort_11 : decode cX0_addSort 11 = .ok (.aload_n 0, 1) := by decide +kernel
theorem dX0_addSort_12 : decode cX0_addSort 12 = .ok (.getfield 21, 3) := by decide +kernel
theorem dX0_addSort_15 : decode cX0_addSort 15 = .ok (.aload_n 0, 1) := by decide +kernel
theorem dX0_addSort_16 : decode cX0_addSort 16 = .ok (.getfield 37, 3) := by decide +kernel
theorem dX0_addSort_19 : decode cX0_addSort 19 = .ok (.iload_n 1, 1) := by decide +kernel
theorem dX0_addSort_20 : decode cX0_addSort 20 = .ok (.iastore, 1) := by decide +kernel
theorem dX0_addSort_21 : decode cX0_addSort 21 = .ok (.aload_n 0, 1) := by decide +kernel
theorem dX0_addSort_22 : decode cX0_addSort 22 = .ok (.getfield 24, 3) := by decide +kernel
theorem dX0_addSort_25 : decode cX0_addSort 25 = .ok (.aload_n 0, 1) := by decide +kernel
theorem dX0_addSort_26 : decode cX0_addSort 26 = .ok (.getfield 37, 3) := by decide +kernel
theorem dX0_addSort_29 : decode cX0_addSort 29 = .ok (.iload_n 2, 1) := by decide +kernel
theorem dX0_addSort_30 : decode cX0_addSort 30 = .ok (.iastore, 1) := by decide +kernel
theorem dX0_addSort_31 : decode cX0_addSort 31 = .ok (.aload_n 0, 1) := by decide +kernel
theorem dX0_addSort_32 : decode cX0_addSort 32 = .ok (.getfield 27, 3) := by decide +kernel
theorem dX0_addSort_35 : decode cX0_addSort 35 = .ok (.aload_n 0, 1) := by decide +kernel
theorem dX0_addSort_36 : decode cX0_addSort 36 = .ok (.getfield 37, 3) := by decide +kernel
theorem dX0_addSort_39 : decode cX0_addSort 39 = .ok (.iload_n 3, 1) := by decide +kernel
theorem dX0_addSort_40 : decode cX0_addSort 40 = .ok (.iastore, 1) := by decide +kernel
theorem dX0_addSort_41 : decode cX0_addSort 41 = .ok (.aload_n 0, 1) := by decide +kernel
theorem dX0_addSort_42 : decode cX0_addSort 42 = .ok (.getfield 37, 3) := by decide +kernel
theorem dX0_addSort_45 : decode cX0_addSort 45 = .ok (.istore 4, 2) := by decide +kernel
theorem dX0_addSort_47 : decode cX0_addSort 47 = .ok (.iload 4, 2) := by decide +kernel
theorem dX0_addSort_49 : decode cX0_addSort 49 = .ok (.ifCond .le 43, 3) := by decide +kernel
theorem dX0_addSort_52 : decode cX0_addSort 52 = .ok (.aload_n 0, 1) := by decide +kernel
theorem dX0_addSort_53 : decode cX0_addSort 53 = .ok (.getfield 21, 3) := by decide +kernel
theorem dX0_addSort_56 : decode cX0_addSort 56 = .ok (.aload_n 0, 1) := by decide +kernel
theorem dX0_addSort_57 : decode cX0_addSort 57 = .ok (.getfield 30, 3) := by decide +kernel
theorem dX0_addSort_60 : decode cX0_addSort 60 = .ok (.iload 4, 2) := by decide +kernel
theorem dX0_addSort_62 : decode cX0_addSort 62 = .ok (.iconst 1, 1) := by decide +kernel
theorem dX0_addSort_63 : decode cX0_addSort 63 = .ok (.isub, 1) := by decide +kernel
theorem dX0_addSort_64 : decode cX0_addSort 64 = .ok (.iaload, 1) := by decide +kernel
theorem dX0_addSort_65 : decode cX0_addSort 65 = .ok (.iaload, 1) := by decide +kernel
theorem dX0_addSort_66 : decode cX0_addSort 66 = .ok (.iload_n 1, 1) := by decide +kernel
theorem dX0_addSort_67 : decode cX0_addSort 67 = .ok (.if_icmp .ge 25, 3) := by decide +kernel
theorem dX0_addSort_70 : decode cX0_addSort 70 = .ok (.aload_n 0, 1) := by decide +kernel
theorem dX0_addSort_71 : decode cX0_addSort 71 = .ok (.getfield 30, 3) := by decide +kernel
theorem dX0_addSort_74 : decode cX0_addSort 74 = .ok (.iload 4, 2) := by decide +kernel
theorem dX0_addSort_76 : decode cX0_addSort 76 = .ok (.aload_n 0, 1) := by decide +kernel
theorem dX0_addSort_77 : decode cX0_addSort 77 = .ok (.getfield 30, 3) := by decide +kernel
theorem dX0_addSort_80 : decode cX0_addSort 80 = .ok (.iload 4, 2) := by decide +kernel
theorem dX0_addSort_82 : decode cX0_addSort 82 = .ok (.iconst 1, 1) := by decide +kernel
theorem dX0_addSort_83 : decode cX0_addSort 83 = .ok (.isub, 1) := by decide +kernel
theorem dX0_addSort_84 : decode cX0_addSort 84 = .ok (.iaload, 1) := by decide +kernel
theorem dX0_addSort_85 : decode cX0_addSort 85 = .ok (.iastore, 1) := by decide +kernel
theorem dX0_addSort_86 : decode cX0_addSort 86 = .ok (.iinc 4 (-1), 3) := by decide +kernel
theorem dX0_addSort_89 : decode cX0_addSort 89 = .ok (.goto (-42), 3) := by decide +kernel
theorem dX0_addSort_92 : decode cX0_addSort 92 = .ok (.aload_n 0, 1) := by decide +kernel
theorem dX0_addSort_93 : decode cX0_addSort 93 = .ok (.getfield 30, 3) := by decide +kernel
theorem dX0_addSort_96 : decode cX0_addSort 96 = .ok (.iload 4, 2) := by decide +kernel
theorem dX0_addSort_98 : decode cX0_addSort 98 = .ok (.aload_n 0, 1) := by decide +kernel
theorem dX0_addSort_99 : decode cX0_addSort 99 = .ok (.getfield 37, 3) := by decide +kernel
theorem dX0_addSort_102 : decode cX0_addSort 102 = .ok (.iastore, 1) := by decide +kernel
theorem dX0_addSort_103 : decode cX0_addSort 103 = .ok (.aload_n 0, 1) := by decide +kernel
theorem dX0_addSort_104 : decode cX0_addSort 104 = .ok (.dup, 1) := by decide +kernel
theorem dX0_addSort_105 : decode cX0_addSort 105 = .ok (.getfield 37, 3) := by decide +kernel
theorem dX0_addSort_108 : decode cX0_addSort 108 = .ok (.iconst 1, 1) := by decide +kernel
theorem dX0_addSort_109 : decode cX0_addSort 109 = .ok (.iadd, 1) := by decide +kernel
theorem dX0_addSort_110 : decode cX0_addSort 110 = .ok (.putfield 37, 3) := by decide +kernel
theorem dX0_addSort_113 : decode cX0_addSort 113 = .ok (.iconst 1, 1) := by decide +kernel
theorem dX0_addSort_114 : decode cX0_addSort 114 = .ok (.ireturn, 1) := by decide +kernel
theorem dX0_setLaw_0 : decode cX0_setLaw 0 = .ok (.aload_n 0, 1) := by decide +kernel
theorem dX0_setLaw_1 : decode cX0_setLaw 1 = .ok (.iconst 1, 1) := by decide +kernel
theorem dX0_setLaw_2 : decode cX0_setLaw 2 = .ok (.putfield 40, 3) := by decide +kernel
theorem dX0_setLaw_5 : decode cX0_setLaw 5 = .ok (.aload_n 0, 1) := by decide +kernel
theorem dX0_setLaw_6 : decode cX0_setLaw 6 = .ok (.iload_n 1, 1) := by decide +kernel
theorem dX0_setLaw_7 : decode cX0_setLaw 7 = .ok (.putfield 47, 3) := by decide +kernel
theorem dX0_setLaw_10 : decode cX0_setLaw 10 = .ok (.aload_n 0, 1) := by decide +kernel
theorem dX0_setLaw_11 : decode cX0_setLaw 11 = .ok (.iload_n 2, 1) := by decide +kernel
theorem dX0_setLaw_12 : decode cX0_setLaw 12 = .ok (.putfield 50, 3) := by decide +kernel
theorem dX0_setLaw_15 : decode cX0_setLaw 15 = .ok (.iconst 1, 1) := by decide +kernel
theorem dX0_setLaw_16 : decode cX0_setLaw 16 = .ok (.ireturn, 1) := by decide +kernel
theorem dX1_init_0 : decode cX1_init 0 = .ok (.aload_n 0, 1) := by decide +kernel
theorem dX1_init_1 : decode cX1_init 1 = .ok (.aload_n 1, 1) := by decide +kernel
theorem dX1_init_2 : decode cX1_init 2 = .ok (.invokespecial 3, 3) := by decide +kernel
theorem dX1_init_5 : decode cX1_init 5 = .ok (.aload_n 0, 1) := by decide +kernel
theorem dX1_init_6 : decode cX1_init 6 = .ok (.bipush 8, 2) := by decide +kernel
theorem dX1_init_8 : decode cX1_init 8 = .ok (.newarray .int, 2) := by decide +kernel
theorem dX1_init_10 : decode cX1_init 10 = .ok (.putfield 9, 3) := by decide +kernel
theorem dX1_init_13 : decode cX1_init 13 = .ok (.aload_n 0, 1) := by decide +kernel
theorem dX1_init_14 : decode cX1_init 14 = .ok (.bipush 8, 2) := by decide +kernel
theorem dX1_init_16 : decode cX1_init 16 = .ok (.newarray .boolean, 2) := by decide +kernel
theorem dX1_init_18 : decode cX1_init 18 = .ok (.putfield 15, 3) := by decide +kernel
theorem dX1_init_21 : decode cX1_init 21 = .ok (.return_, 1) := by decide +kernel
theorem dX1_read_0 : decode cX1_read 0 = .ok (.aload_n 0, 1) := by decide +kernel
theorem dX1_read_1 : decode cX1_read 1 = .ok (.invokevirtual 19, 3) := by decide +kernel
theorem dX1_read_4 : decode cX1_read 4 = .ok (.aload_n 1, 1) := by decide +kernel
theorem dX1_read_5 : decode cX1_read 5 = .ok (.invokevirtual 23, 3) := by decide +kernel
theorem dX1_read_8 : decode cX1_read 8 = .ok (.iconst 0, 1) := by decide +kernel
theorem dX1_read_9 : decode cX1_read 9 = .ok (.istore_n 2, 1) := by decide +kernel
theorem dX1_read_10 : decode cX1_read 10 = .ok (.iload_n 2, 1) := by decide +kernel
theorem dX1_read_11 : decode cX1_read 11 = .ok (.sipush 160, 3) := by decide +kernel
theorem dX1_read_14 : decode cX1_read 14 = .ok (.if_icmp .gt 67, 3) := by decide +kernel
theorem dX1_read_17 : decode cX1_read 17 = .ok (.aload_n 0, 1) := by decide +kernel
theorem dX1_read_18 : decode cX1_read 18 = .ok (.aload_n 1, 1) := by decide +kernel
theorem dX1_read_19 : decode cX1_read 19 = .ok (.invokevirtual 28, 3) := by decide +kernel
theorem dX1_read_22 : decode cX1_read 22 = .ok (.ifCond .ne 8, 3) := by decide +kernel
theorem dX1_read_25 : decode cX1_read 25 = .ok (.aload_n 0, 1) := by decide +kernel
theorem dX1_read_26 : decode cX1_read 26 = .ok (.getfield 32, 3) := by decide +kernel
theorem dX1_read_29 : decode cX1_read 29 = .ok (.ireturn, 1) := by decide +kernel
theorem dX1_read_30 : decode cX1_read 30 = .ok (.aload_n 0, 1) := by decide +kernel
theorem dX1_read_31 : decode cX1_read 31 = .ok (.invokevirtual 36, 3) := by decide +kernel
theorem dX1_read_34 : decode cX1_read 34 = .ok (.iconst (-1), 1) := by decide +kernel
theorem dX1_read_35 : decode cX1_read 35 = .ok (.if_icmp .ne 26, 3) := by decide +kernel
theorem dX1_read_38 : decode cX1_read 38 = .ok (.aload_n 1, 1) := by decide +kernel
theorem dX1_read_39 : decode cX1_read 39 = .ok (.getfield 40, 3) := by decide +kernel
theorem dX1_read_42 : decode cX1_read 42 = .ok (.ifCond .le 14, 3) := by decide +kernel
theorem dX1_read_45 : decode cX1_read 45 = .ok (.aload_n 1, 1) := by decide +kernel
theorem dX1_read_46 : decode cX1_read 46 = .ok (.getfield 43, 3) := by decide +kernel
theorem dX1_read_49 : decode cX1_read 49 = .ok (.ifCond .le 7, 3) := by decide +kernel
theorem dX1_read_52 : decode cX1_read 52 = .ok (.iconst (-1), 1) := by decide +kernel
theorem dX1_read_53 : decode cX1_read 53 = .ok (.goto 7, 3) := by decide +kernel
theorem dX1_read_56 : decode cX1_read 56 = .ok (.aload_n 0, 1) := by decide +kernel
theorem dX1_read_57 : decode cX1_read 57 = .ok (.getfield 46, 3) := by decide +kernel
theorem dX1_read_60 : decode cX1_read 60 = .ok (.ireturn, 1) := by decide +kernel
theorem dX1_read_61 : decode cX1_read 61 = .ok (.aload_n 0, 1) := by decide +kernel
theorem dX1_read_62 : decode cX1_read 62 = .ok (.bipush 59, 2) := by decide +kernel
theorem dX1_read_64 : decode cX1_read 64 = .ok (.invokevirtual 49, 3) := by decide +kernel
theorem dX1_read_67 : decode cX1_read 67 = .ok (.ifCond .ne 8, 3) := by decide +kernel
theorem dX1_read_70 : decode cX1_read 70 = .ok (.aload_n 0, 1) := by decide +kernel
theorem dX1_read_71 : decode cX1_read 71 = .ok (.getfield 32, 3) := by decide +kernel
theorem dX1_read_74 : decode cX1_read 74 = .ok (.ireturn, 1) := by decide +kernel
theorem dX1_read_75 : decode cX1_read 75 = .ok (.iinc 2 1, 3) := by decide +kernel
theorem dX1_read_78 : decode cX1_read 78 = .ok (.goto (-68), 3) := by decide +kernel
theorem dX1_read_81 : decode cX1_read 81 = .ok (.aload_n 0, 1) := by decide +kernel
theorem dX1_read_82 : decode cX1_read 82 = .ok (.getfield 46, 3) := by decide +kernel
theorem dX1_read_85 : decode cX1_read 85 = .ok (.ireturn, 1) := by decide +kernel
theorem dX1_clause_0 : decode cX1_clause 0 = .ok (.aload_n 0, 1) := by decide +kernel
theorem dX1_clause_1 : decode cX1_clause 1 = .ok (.invokevirtual 36, 3) := by decide +kernel
theorem dX1_clause_4 : decode cX1_clause 4 = .ok (.aload_n 1, 1) := by decide +kernel
theorem dX1_clause_5 : decode cX1_clause 5 = .ok (.invokestatic 53, 3) := by decide +kernel
theorem dX1_clause_8 : decode cX1_clause 8 = .ok (.istore_n 2, 1) := by decide +kernel
theorem dX1_clause_9 : decode cX1_clause 9 = .ok (.iload_n 2, 1) := by decide +kernel
theorem dX1_clause_10 : decode cX1_clause 10 = .ok (.iconst (-1), 1) := by decide +kernel
theorem dX1_clause_11 : decode cX1_clause 11 = .ok (.if_icmp .ne 8, 3) := by decide +kernel
theorem dX1_clause_14 : decode cX1_clause 14 = .ok (.aload_n 0, 1) := by decide +kernel
theorem dX1_clause_15 : decode cX1_clause 15 = .ok (.invokevirtual 57, 3) := by decide +kernel
theorem dX1_clause_18 : decode cX1_clause 18 = .ok (.ireturn, 1) := by decide +kernel
theorem dX1_clause_19 : decode cX1_clause 19 = .ok (.aload_n 0, 1) := by decide +kernel
theorem dX1_clause_20 : decode cX1_clause 20 = .ok (.dup, 1) := by decide +kernel
theorem dX1_clause_21 : decode cX1_clause 21 = .ok (.getfield 46, 3) := by decide +kernel
theorem dX1_clause_24 : decode cX1_clause 24 = .ok (.iconst 1, 1) := by decide +kernel
theorem dX1_clause_25 : decode cX1_clause 25 = .ok (.iadd, 1) := by decide +kernel
theorem dX1_clause_26 : decode cX1_clause 26 = .ok (.putfield 46, 3) := by decide +kernel
theorem dX1_clause_29 : decode cX1_clause 29 = .ok (.aload_n 0, 1) := by decide +kernel
theorem dX1_clause_30 : decode cX1_clause 30 = .ok (.iload_n 2, 1) := by decide +kernel
theorem dX1_clause_31 : decode cX1_clause 31 = .ok (.invokevirtual 61, 3) := by decide +kernel
theorem dX1_clause_34 : decode cX1_clause 34 = .ok (.ifCond .ne 5, 3) := by decide +kernel
theorem dX1_clause_37 : decode cX1_clause 37 = .ok (.iconst 0, 1) := by decide +kernel
theorem dX1_clause_38 : decode cX1_clause 38 = .ok (.ireturn, 1) := by decide +kernel
theorem dX1_clause_39 : decode cX1_clause 39 = .ok (.iload_n 2, 1) := by decide +kernel
theorem dX1_clause_40 : decode cX1_clause 40 = .ok (.lookupswitch 74 #[(0, 28), (1, 51)], 28) := by decide +kernel
theorem dX1_clause_68 : decode cX1_clause 68 = .ok (.aload_n 1, 1) := by decide +kernel
theorem dX1_clause_69 : decode cX1_clause 69 = .ok (.aload_n 0, 1) := by decide +kernel
theorem dX1_clause_70 : decode cX1_clause 70 = .ok (.getfield 9, 3) := by decide +kernel
theorem dX1_clause_73 : decode cX1_clause 73 = .ok (.iconst 0, 1) := by decide +kernel
theorem dX1_clause_74 : decode cX1_clause 74 = .ok (.iaload, 1) := by decide +kernel
theorem dX1_clause_75 : decode cX1_clause 75 = .ok (.aload_n 0, 1) := by decide +kernel
theorem dX1_clause_76 : decode cX1_clause 76 = .ok (.getfield 9, 3) := by decide +kernel
theorem dX1_clause_79 : decode cX1_clause 79 = .ok (.iconst 1, 1) := by decide +kernel
theorem dX1_clause_80 : decode cX1_clause 80 = .ok (.iaload, 1) := by decide +kernel
theorem dX1_clause_81 : decode cX1_clause 81 = .ok (.aload_n 0, 1) := by decide +kernel
theorem dX1_clause_82 : decode cX1_clause 82 = .ok (.getfield 9, 3) := by decide +kernel
theorem dX1_clause_85 : decode cX1_clause 85 = .ok (.iconst 2, 1) := by decide +kernel
theorem dX1_clause_86 : decode cX1_clause 86 = .ok (.iaload, 1) := by decide +kernel
theorem dX1_clause_87 : decode cX1_clause 87 = .ok (.invokevirtual 64, 3) := by decide +kernel
theorem dX1_clause_90 : decode cX1_clause 90 = .ok (.ireturn, 1) := by decide +kernel
theorem dX1_clause_91 : decode cX1_clause 91 = .ok (.aload_n 1, 1) := by decide +kernel
theorem dX1_clause_92 : decode cX1_clause 92 = .ok (.aload_n 0, 1) := by decide +kernel
theorem dX1_clause_93 : decode cX1_clause 93 = .ok (.getfield 9, 3) := by decide +kernel
theorem dX1_clause_96 : decode cX1_clause 96 = .ok (.iconst 3, 1) := by decide +kernel
theorem dX1_clause_97 : decode cX1_clause 97 = .ok (.iaload, 1) := by decide +kernel
theorem dX1_clause_98 : decode cX1_clause 98 = .ok (.aload_n 0, 1) := by decide +kernel
theorem dX1_clause_99 : decode cX1_clause 99 = .ok (.getfield 9, 3) := by decide +kernel
theorem dX1_clause_102 : decode cX1_clause 102 = .ok (.iconst 4, 1) := by decide +kernel
theorem dX1_clause_103 : decode cX1_clause 103 = .ok (.iaload, 1) := by decide +kernel
theorem dX1_clause_104 : decode cX1_clause 104 = .ok (.aload_n 0, 1) := by decide +kernel
theorem dX1_clause_105 : decode cX1_clause 105 = .ok (.getfield 9, 3) := by decide +kernel
theorem dX1_clause_108 : decode cX1_clause 108 = .ok (.iconst 5, 1) := by decide +kernel
theorem dX1_clause_109 : decode cX1_clause 109 = .ok (.iaload, 1) := by decide +kernel
theorem dX1_clause_110 : decode cX1_clause 110 = .ok (.invokevirtual 68, 3) := by decide +kernel
theorem dX1_clause_113 : decode cX1_clause 113 = .ok (.ireturn, 1) := by decide +kernel
theorem dX1_clause_114 : decode cX1_clause 114 = .ok (.aload_n 1, 1) := by decide +kernel
theorem dX1_clause_115 : decode cX1_clause 115 = .ok (.aload_n 0, 1) := by decide +kernel
theorem dX1_clause_116 : decode cX1_clause 116 = .ok (.getfield 9, 3) := by decide +kernel
theorem dX1_clause_119 : decode cX1_clause 119 = .ok (.bipush 6, 2) := by decide +kernel
theorem dX1_clause_121 : decode cX1_clause 121 = .ok (.iaload, 1) := by decide +kernel
theorem dX1_clause_122 : decode cX1_clause 122 = .ok (.aload_n 0, 1) := by decide +kernel
theorem dX1_clause_123 : decode cX1_clause 123 = .ok (.getfield 9, 3) := by decide +kernel
theorem dX1_clause_126 : decode cX1_clause 126 = .ok (.bipush 7, 2) := by decide +kernel
theorem dX1_clause_128 : decode cX1_clause 128 = .ok (.iaload, 1) := by decide +kernel
theorem dX1_clause_129 : decode cX1_clause 129 = .ok (.invokevirtual 71, 3) := by decide +kernel
theorem dX1_clause_132 : decode cX1_clause 132 = .ok (.ireturn, 1) := by decide +kernel
theorem dX1_kindOf_0 : decode cX1_kindOf 0 = .ok (.iload_n 0, 1) := by decide +kernel
theorem dX1_kindOf_1 : decode cX1_kindOf 1 = .ok (.lookupswitch 77 #[(98, 49), (108, 64), (115, 35)], 35) := by decide +kernel
theorem dX1_kindOf_36 : decode cX1_kindOf 36 = .ok (.aload_n 1, 1) := by decide +kernel
theorem dX1_kindOf_37 : decode cX1_kindOf 37 = .ok (.getfield 40, 3) := by decide +kernel
theorem dX1_kindOf_40 : decode cX1_kindOf 40 = .ok (.iconst 5, 1) := by decide +kernel
theorem dX1_kindOf_41 : decode cX1_kindOf 41 = .ok (.if_icmp .ge 7, 3) := by decide +kernel
theorem dX1_kindOf_44 : decode cX1_kindOf 44 = .ok (.iconst 0, 1) := by decide +kernel
theorem dX1_kindOf_45 : decode cX1_kindOf 45 = .ok (.goto 4, 3) := by decide +kernel
theorem dX1_kindOf_48 : decode cX1_kindOf 48 = .ok (.iconst (-1), 1) := by decide +kernel
theorem dX1_kindOf_49 : decode cX1_kindOf 49 = .ok (.ireturn, 1) := by decide +kernel
theorem dX1_kindOf_50 : decode cX1_kindOf 50 = .ok (.aload_n 1, 1) := by decide +kernel
theorem dX1_kindOf_51 : decode cX1_kindOf 51 = .ok (.getfield 43, 3) := by decide +kernel
theorem dX1_kindOf_54 : decode cX1_kindOf 54 = .ok (.bipush 6, 2) := by decide +kernel
theorem dX1_kindOf_56 : decode cX1_kindOf 56 = .ok (.if_icmp .ge 7, 3) := by decide +kernel
theorem dX1_kindOf_59 : decode cX1_kindOf 59 = .ok (.iconst 1, 1) := by decide +kernel
theorem dX1_kindOf_60 : decode cX1_kindOf 60 = .ok (.goto 4, 3) := by decide +kernel
theorem dX1_kindOf_63 : decode cX1_kindOf 63 = .ok (.iconst (-1), 1) := by decide +kernel
theorem dX1_kindOf_64 : decode cX1_kindOf 64 = .ok (.ireturn, 1) := by decide +kernel
theorem dX1_kindOf_65 : decode cX1_kindOf 65 = .ok (.aload_n 1, 1) := by decide +kernel
theorem dX1_kindOf_66 : decode cX1_kindOf 66 = .ok (.getfield 75, 3) := by decide +kernel
theorem dX1_kindOf_69 : decode cX1_kindOf 69 = .ok (.ifCond .eq 7, 3) := by decide +kernel
theorem dX1_kindOf_72 : decode cX1_kindOf 72 = .ok (.iconst (-1), 1) := by decide +kernel
theorem dX1_kindOf_73 : decode cX1_kindOf 73 = .ok (.goto 4, 3) := by decide +kernel
theorem dX1_kindOf_76 : decode cX1_kindOf 76 = .ok (.iconst 2, 1) := by decide +kernel
theorem dX1_kindOf_77 : decode cX1_kindOf 77 = .ok (.ireturn, 1) := by decide +kernel
theorem dX1_kindOf_78 : decode cX1_kindOf 78 = .ok (.iconst (-1), 1) := by decide +kernel
theorem dX1_kindOf_79 : decode cX1_kindOf 79 = .ok (.ireturn, 1) := by decide +kernel
theorem dX1_items_0 : decode cX1_items 0 = .ok (.iconst 0, 1) := by decide +kernel
theorem dX1_items_1 : decode cX1_items 1 = .ok (.istore_n 2, 1) := by decide +kernel
theorem dX1_items_2 : decode cX1_items 2 = .ok (.iload_n 2, 1) := by decide +kernel
theorem dX1_items_3 : decode cX1_items 3 = .ok (.getstatic 79, 3) := by decide +kernel
theorem dX1_items_6 : decode cX1_items 6 = .ok (.arraylength, 1) := by decide +kernel
theorem dX1_items_7 : decode cX1_items 7 = .ok (.if_icmp .ge 36, 3) := by decide +kernel
theorem dX1_items_10 : decode cX1_items 10 = .ok (.iload_n 2, 1) := by decide +kernel
theorem dX1_items_11 : decode cX1_items 11 = .ok (.aload_n 0, 1) := by decide +kernel
theorem dX1_items_12 : decode cX1_items 12 = .ok (.getfield 9, 3) := by decide +kernel
theorem dX1_items_15 : decode cX1_items 15 = .ok (.arraylength, 1) := by decide +kernel
theorem dX1_items_16 : decode cX1_items 16 = .ok (.if_icmp .ge 27, 3) := by decide +kernel
theorem dX1_items_19 : decode cX1_items 19 = .ok (.aload_n 0, 1) := by decide +kernel
theorem dX1_items_20 : decode cX1_items 20 = .ok (.getfield 9, 3) := by decide +kernel
theorem dX1_items_23 : decode cX1_items 23 = .ok (.iload_n 2, 1) := by decide +kernel
theorem dX1_items_24 : decode cX1_items 24 = .ok (.getstatic 79, 3) := by decide +kernel
theorem dX1_items_27 : decode cX1_items 27 = .ok (.iload_n 2, 1) := by decide +kernel
theorem dX1_items_28 : decode cX1_items 28 = .ok (.iaload, 1) := by decide +kernel
theorem dX1_items_29 : decode cX1_items 29 = .ok (.iastore, 1) := by decide +kernel
theorem dX1_items_30 : decode cX1_items 30 = .ok (.aload_n 0, 1) := by decide +kernel
theorem dX1_items_31 : decode cX1_items 31 = .ok (.getfield 15, 3) := by decide +kernel
theorem dX1_items_34 : decode cX1_items 34 = .ok (.iload_n 2, 1) := by decide +kernel
theorem dX1_items_35 : decode cX1_items 35 = .ok (.iconst 0, 1) := by decide +kernel
theorem dX1_items_36 : decode cX1_items 36 = .ok (.bastore, 1) := by decide +kernel
theorem dX1_items_37 : decode cX1_items 37 = .ok (.iinc 2 1, 3) := by decide +kernel
theorem dX1_items_40 : decode cX1_items 40 = .ok (.goto (-38), 3) := by decide +kernel
theorem dX1_items_43 : decode cX1_items 43 = .ok (.iconst 0, 1) := by decide +kernel
theorem dX1_items_44 : decode cX1_items 44 = .ok (.istore_n 2, 1) := by decide +kernel
theorem dX1_items_45 : decode cX1_items 45 = .ok (.iload_n 2, 1) := by decide +kernel
theorem dX1_items_46 : decode cX1_items 46 = .ok (.ldc 82, 2) := by decide +kernel
theorem dX1_items_48 : decode cX1_items 48 = .ok (.invokevirtual 84, 3) := by decide +kernel
theorem dX1_items_51 : decode cX1_items 51 = .ok (.if_icmp .ge 116, 3) := by decide +kernel
theorem dX1_items_54 : decode cX1_items 54 = .ok (.iload_n 1, 1) := by decide +kernel
theorem dX1_items_55 : decode cX1_items 55 = .ok (.aload_n 0, 1) := by decide +kernel
theorem dX1_items_56 : decode cX1_items 56 = .ok (.invokevirtual 36, 3) := by decide +kernel
theorem dX1_items_59 : decode cX1_items 59 = .ok (.invokestatic 89, 3) := by decide +kernel
theorem dX1_items_62 : decode cX1_items 62 = .ok (.istore_n 3, 1) := by decide +kernel
theorem dX1_items_63 : decode cX1_items 63 = .ok (.iload_n 3, 1) := by decide +kernel
theorem dX1_items_64 : decode cX1_items 64 = .ok (.iconst (-1), 1) := by decide +kernel
theorem dX1_items_65 : decode cX1_items 65 = .ok (.if_icmp .ne 5, 3) := by decide +kernel
theorem dX1_items_68 : decode cX1_items 68 = .ok (.iconst 1, 1) := by decide +kernel
theorem dX1_items_69 : decode cX1_items 69 = .ok (.ireturn, 1) := by decide +kernel
theorem dX1_items_70 : decode cX1_items 70 = .ok (.aload_n 0, 1) := by decide +kernel
theorem dX1_items_71 : decode cX1_items 71 = .ok (.getfield 15, 3) := by decide +kernel
theorem dX1_items_74 : decode cX1_items 74 = .ok (.iload_n 3, 1) := by decide +kernel
theorem dX1_items_75 : decode cX1_items 75 = .ok (.baload, 1) := by decide +kernel
theorem dX1_items_76 : decode cX1_items 76 = .ok (.ifCond .eq 8, 3) := by decide +kernel
theorem dX1_items_79 : decode cX1_items 79 = .ok (.aload_n 0, 1) := by decide +kernel
theorem dX1_items_80 : decode cX1_items 80 = .ok (.invokevirtual 57, 3) := by decide +kernel
theorem dX1_items_83 : decode cX1_items 83 = .ok (.ireturn, 1) := by decide +kernel
theorem dX1_items_84 : decode cX1_items 84 = .ok (.aload_n 0, 1) := by decide +kernel
theorem dX1_items_85 : decode cX1_items 85 = .ok (.dup, 1) := by decide +kernel
theorem dX1_items_86 : decode cX1_items 86 = .ok (.getfield 46, 3) := by decide +kernel
theorem dX1_items_89 : decode cX1_items 89 = .ok (.iconst 1, 1) := by decide +kernel
theorem dX1_items_90 : decode cX1_items 90 = .ok (.iadd, 1) := by decide +kernel
theorem dX1_items_91 : decode cX1_items 91 = .ok (.putfield 46, 3) := by decide +kernel
theorem dX1_items_94 : decode cX1_items 94 = .ok (.aload_n 0, 1) := by decide +kernel
theorem dX1_items_95 : decode cX1_items 95 = .ok (.invokevirtual 36, 3) := by decide +kernel
theorem dX1_items_98 : decode cX1_items 98 = .ok (.pop, 1) := by decide +kernel
theorem dX1_items_99 : decode cX1_items 99 = .ok (.aload_n 0, 1) := by decide +kernel
theorem dX1_items_100 : decode cX1_items 100 = .ok (.iconst 2, 1) := by decide +kernel
theorem dX1_items_101 : decode cX1_items 101 = .ok (.invokevirtual 93, 3) := by decide +kernel
theorem dX1_items_104 : decode cX1_items 104 = .ok (.istore 4, 2) := by decide +kernel
theorem dX1_items_106 : decode cX1_items 106 = .ok (.iload 4, 2) := by decide +kernel
theorem dX1_items_108 : decode cX1_items 108 = .ok (.iconst (-1), 1) := by decide +kernel
theorem dX1_items_109 : decode cX1_items 109 = .ok (.if_icmp .ne 5, 3) := by decide +kernel
theorem dX1_items_112 : decode cX1_items 112 = .ok (.iconst 0, 1) := by decide +kernel
theorem dX1_items_113 : decode cX1_items 113 = .ok (.ireturn, 1) := by decide +kernel
theorem dX1_items_114 : decode cX1_items 114 = .ok (.iload 4, 2) := by decide +kernel
theorem dX1_items_116 : decode cX1_items 116 = .ok (.getstatic 97, 3) := by decide +kernel
theorem dX1_items_119 : decode cX1_items 119 = .ok (.iload_n 3, 1) := by decide +kernel
theorem dX1_items_120 : decode cX1_items 120 = .ok (.iaload, 1) := by decide +kernel
theorem dX1_items_121 : decode cX1_items 121 = .ok (.if_icmp .lt 13, 3) := by decide +kernel
theorem dX1_items_124 : decode cX1_items 124 = .ok (.iload 4, 2) := by decide +kernel
theorem dX1_items_126 : decode cX1_items 126 = .ok (.getstatic 100, 3) := by decide +kernel
theorem dX1_items_129 : decode cX1_items 129 = .ok (.iload_n 3, 1) := by decide +kernel
theorem dX1_items_130 : decode cX1_items 130 = .ok (.iaload, 1) := by decide +kernel
theorem dX1_items_131 : decode cX1_items 131 = .ok (.if_icmp .le 15, 3) := by decide +kernel
theorem dX1_items_134 : decode cX1_items 134 = .ok (.aload_n 0, 1) := by decide +kernel
theorem dX1_items_135 : decode cX1_items 135 = .ok (.aload_n 0, 1) := by decide +kernel
theorem dX1_items_136 : decode cX1_items 136 = .ok (.getfield 46, 3) := by decide +kernel
theorem dX1_items_139 : decode cX1_items 139 = .ok (.iconst 1, 1) := by decide +kernel
theorem dX1_items_140 : decode cX1_items 140 = .ok (.isub, 1) := by decide +kernel
theorem dX1_items_141 : decode cX1_items 141 = .ok (.putfield 32, 3) := by decide +kernel
theorem dX1_items_144 : decode cX1_items 144 = .ok (.iconst 0, 1) := by decide +kernel
theorem dX1_items_145 : decode cX1_items 145 = .ok (.ireturn, 1) := by decide +kernel
theorem dX1_items_146 : decode cX1_items 146 = .ok (.aload_n 0, 1) := by decide +kernel
theorem dX1_items_147 : decode cX1_items 147 = .ok (.getfield 9, 3) := by decide +kernel
theorem dX1_items_150 : decode cX1_items 150 = .ok (.iload_n 3, 1) := by decide +kernel
theorem dX1_items_151 : decode cX1_items 151 = .ok (.iload 4, 2) := by decide +kernel
theorem dX1_items_153 : decode cX1_items 153 = .ok (.iastore, 1) := by decide +kernel
theorem dX1_items_154 : decode cX1_items 154 = .ok (.aload_n 0, 1) := by decide +kernel
theorem dX1_items_155 : decode cX1_items 155 = .ok (.getfield 15, 3) := by decide +kernel
theorem dX1_items_158 : decode cX1_items 158 = .ok (.iload_n 3, 1) := by decide +kernel
theorem dX1_items_159 : decode cX1_items 159 = .ok (.iconst 1, 1) := by decide +kernel
theorem dX1_items_160 : decode cX1_items 160 = .ok (.bastore, 1) := by decide +kernel
theorem dX1_items_161 : decode cX1_items 161 = .ok (.iinc 2 1, 3) := by decide +kernel
theorem dX1_items_164 : decode cX1_items 164 = .ok (.goto (-119), 3) := by decide +kernel
theorem dX1_items_167 : decode cX1_items 167 = .ok (.iconst 1, 1) := by decide +kernel
theorem dX1_items_168 : decode cX1_items 168 = .ok (.ireturn, 1) := by decide +kernel
theorem dX1_itemOf_0 : decode cX1_itemOf 0 = .ok (.iload_n 0, 1) := by decide +kernel
theorem dX1_itemOf_1 : decode cX1_itemOf 1 = .ok (.ifCond .lt 13, 3) := by decide +kernel
theorem dX1_itemOf_4 : decode cX1_itemOf 4 = .ok (.iload_n 0, 1) := by decide +kernel
theorem dX1_itemOf_5 : decode cX1_itemOf 5 = .ok (.iconst 1, 1) := by decide +kernel
theorem dX1_itemOf_6 : decode cX1_itemOf 6 = .ok (.iadd, 1) := by decide +kernel
theorem dX1_itemOf_7 : decode cX1_itemOf 7 = .ok (.getstatic 103, 3) := by decide +kernel
theorem dX1_itemOf_10 : decode cX1_itemOf 10 = .ok (.arraylength, 1) := by decide +kernel
theorem dX1_itemOf_11 : decode cX1_itemOf 11 = .ok (.if_icmp .lt 5, 3) := by decide +kernel
theorem dX1_itemOf_14 : decode cX1_itemOf 14 = .ok (.iconst (-1), 1) := by decide +kernel
theorem dX1_itemOf_15 : decode cX1_itemOf 15 = .ok (.ireturn, 1) := by decide +kernel
theorem dX1_itemOf_16 : decode cX1_itemOf 16 = .ok (.getstatic 103, 3) := by decide +kernel
theorem dX1_itemOf_19 : decode cX1_itemOf 19 = .ok (.iload_n 0, 1) := by decide +kernel
theorem dX1_itemOf_20 : decode cX1_itemOf 20 = .ok (.iconst 1, 1) := by decide +kernel
theorem dX1_itemOf_21 : decode cX1_itemOf 21 = .ok (.iadd, 1) := by decide +kernel
theorem dX1_itemOf_22 : decode cX1_itemOf 22 = .ok (.iaload, 1) := by decide +kernel
theorem dX1_itemOf_23 : decode cX1_itemOf 23 = .ok (.ldc 82, 2) := by decide +kernel
theorem dX1_itemOf_25 : decode cX1_itemOf 25 = .ok (.invokevirtual 84, 3) := by decide +kernel
theorem dX1_itemOf_28 : decode cX1_itemOf 28 = .ok (.invokestatic 106, 3) := by decide +kernel
theorem dX1_itemOf_31 : decode cX1_itemOf 31 = .ok (.istore_n 2, 1) := by decide +kernel
theorem dX1_itemOf_32 : decode cX1_itemOf 32 = .ok (.getstatic 103, 3) := by decide +kernel
theorem dX1_itemOf_35 : decode cX1_itemOf 35 = .ok (.iload_n 0, 1) := by decide +kernel
theorem dX1_itemOf_36 : decode cX1_itemOf 36 = .ok (.iaload, 1) := by decide +kernel
theorem dX1_itemOf_37 : decode cX1_itemOf 37 = .ok (.istore_n 3, 1) := by decide +kernel
theorem dX1_itemOf_38 : decode cX1_itemOf 38 = .ok (.iload_n 3, 1) := by decide +kernel
theorem dX1_itemOf_39 : decode cX1_itemOf 39 = .ok (.iload_n 2, 1) := by decide +kernel
theorem dX1_itemOf_40 : decode cX1_itemOf 40 = .ok (.if_icmp .ge 21, 3) := by decide +kernel
theorem dX1_itemOf_43 : decode cX1_itemOf 43 = .ok (.ldc 82, 2) := by decide +kernel
theorem dX1_itemOf_45 : decode cX1_itemOf 45 = .ok (.iload_n 3, 1) := by decide +kernel
theorem dX1_itemOf_46 : decode cX1_itemOf 46 = .ok (.invokevirtual 111, 3) := by decide +kernel
theorem dX1_itemOf_49 : decode cX1_itemOf 49 = .ok (.iload_n 1, 1) := by decide +kernel
theorem dX1_itemOf_50 : decode cX1_itemOf 50 = .ok (.if_icmp .ne 5, 3) := by decide +kernel
theorem dX1_itemOf_53 : decode cX1_itemOf 53 = .ok (.iload_n 3, 1) := by decide +kernel
theorem dX1_itemOf_54 : decode cX1_itemOf 54 = .ok (.ireturn, 1) := by decide +kernel
theorem dX1_itemOf_55 : decode cX1_itemOf 55 = .ok (.iinc 3 1, 3) := by decide +kernel
theorem dX1_itemOf_58 : decode cX1_itemOf 58 = .ok (.goto (-20), 3) := by decide +kernel
theorem dX1_itemOf_61 : decode cX1_itemOf 61 = .ok (.iconst (-1), 1) := by decide +kernel
theorem dX1_itemOf_62 : decode cX1_itemOf 62 = .ok (.ireturn, 1) := by decide +kernel
theorem dX2_init_0 : decode cX2_init 0 = .ok (.aload_n 0, 1) := by decide +kernel
theorem dX2_init_1 : decode cX2_init 1 = .ok (.invokespecial 1, 3) := by decide +kernel
theorem dX2_init_4 : decode cX2_init 4 = .ok (.iconst 0, 1) := by decide +kernel
theorem dX2_init_5 : decode cX2_init 5 = .ok (.iload_n 1, 1) := by decide +kernel
theorem dX2_init_6 : decode cX2_init 6 = .ok (.invokestatic 7, 3) := by decide +kernel
theorem dX2_init_9 : decode cX2_init 9 = .ok (.istore_n 2, 1) := by decide +kernel
theorem dX2_init_10 : decode cX2_init 10 = .ok (.aload_n 0, 1) := by decide +kernel
theorem dX2_init_11 : decode cX2_init 11 = .ok (.iload_n 2, 1) := by decide +kernel
theorem dX2_init_12 : decode cX2_init 12 = .ok (.newarray .int, 2) := by decide +kernel
theorem dX2_init_14 : decode cX2_init 14 = .ok (.putfield 13, 3) := by decide +kernel
theorem dX2_init_17 : decode cX2_init 17 = .ok (.aload_n 0, 1) := by decide +kernel
theorem dX2_init_18 : decode cX2_init 18 = .ok (.iload_n 2, 1) := by decide +kernel
theorem dX2_init_19 : decode cX2_init 19 = .ok (.newarray .int, 2) := by decide +kernel
theorem dX2_init_21 : decode cX2_init 21 = .ok (.putfield 19, 3) := by decide +kernel
theorem dX2_init_24 : decode cX2_init 24 = .ok (.aload_n 0, 1) := by decide +kernel
theorem dX2_init_25 : decode cX2_init 25 = .ok (.iload_n 2, 1) := by decide +kernel
theorem dX2_init_26 : decode cX2_init 26 = .ok (.newarray .int, 2) := by decide +kernel
theorem dX2_init_28 : decode cX2_init 28 = .ok (.putfield 22, 3) := by decide +kernel
theorem dX2_init_31 : decode cX2_init 31 = .ok (.return_, 1) := by decide +kernel
theorem dX2_add_0 : decode cX2_add 0 = .ok (.aload_n 0, 1) := by decide +kernel
theorem dX2_add_1 : decode cX2_add 1 = .ok (.getfield 25, 3) := by decide +kernel
theorem dX2_add_4 : decode cX2_add 4 = .ok (.aload_n 0, 1) := by decide +kernel
theorem dX2_add_5 : decode cX2_add 5 = .ok (.getfield 13, 3) := by decide +kernel
theorem dX2_add_8 : decode cX2_add 8 = .ok (.arraylength, 1) := by decide +kernel
theorem dX2_add_9 : decode cX2_add 9 = .ok (.if_icmp .ge 27, 3) := by decide +kernel
theorem dX2_add_12 : decode cX2_add 12 = .ok (.aload_n 0, 1) := by decide +kernel
theorem dX2_add_13 : decode cX2_add 13 = .ok (.getfield 25, 3) := by decide +kernel
theorem dX2_add_16 : decode cX2_add 16 = .ok (.aload_n 0, 1) := by decide +kernel
theorem dX2_add_17 : decode cX2_add 17 = .ok (.getfield 19, 3) := by decide +kernel
theorem dX2_add_20 : decode cX2_add 20 = .ok (.arraylength, 1) := by decide +kernel
theorem dX2_add_21 : decode cX2_add 21 = .ok (.if_icmp .ge 15, 3) := by decide +kernel
theorem dX2_add_24 : decode cX2_add 24 = .ok (.aload_n 0, 1) := by decide +kernel
theorem dX2_add_25 : decode cX2_add 25 = .ok (.getfield 25, 3) := by decide +kernel
theorem dX2_add_28 : decode cX2_add 28 = .ok (.aload_n 0, 1) := by decide +kernel
theorem dX2_add_29 : decode cX2_add 29 = .ok (.getfield 22, 3) := by decide +kernel
theorem dX2_add_32 : decode cX2_add 32 = .ok (.arraylength, 1) := by decide +kernel
theorem dX2_add_33 : decode cX2_add 33 = .ok (.if_icmp .lt 5, 3) := by decide +kernel
theorem dX2_add_36 : decode cX2_add 36 = .ok (.iconst 0, 1) := by decide +kernel
theorem dX2_add_37 : decode cX2_add 37 = .ok (.ireturn, 1) := by decide +kernel
theorem dX2_add_38 : decode cX2_add 38 = .ok (.aload_n 0, 1) := by decide +kernel
theorem dX2_add_39 : decode cX2_add 39 = .ok (.getfield 13, 3) := by decide +kernel
theorem dX2_add_42 : decode cX2_add 42 = .ok (.aload_n 0, 1) := by decide +kernel
theorem dX2_add_43 : decode cX2_add 43 = .ok (.getfield 25, 3) := by decide +kernel
theorem dX2_add_46 : decode cX2_add 46 = .ok (.iload_n 1, 1) := by decide +kernel
theorem dX2_add_47 : decode cX2_add 47 = .ok (.iastore, 1) := by decide +kernel
theorem dX2_add_48 : decode cX2_add 48 = .ok (.aload_n 0, 1) := by decide +kernel
theorem dX2_add_49 : decode cX2_add 49 = .ok (.getfield 19, 3) := by decide +kernel
theorem dX2_add_52 : decode cX2_add 52 = .ok (.aload_n 0, 1) := by decide +kernel
theorem dX2_add_53 : decode cX2_add 53 = .ok (.getfield 25, 3) := by decide +kernel
theorem dX2_add_56 : decode cX2_add 56 = .ok (.iload_n 2, 1) := by decide +kernel
theorem dX2_add_57 : decode cX2_add 57 = .ok (.iastore, 1) := by decide +kernel
theorem dX2_add_58 : decode cX2_add 58 = .ok (.aload_n 0, 1) := by decide +kernel
theorem dX2_add_59 : decode cX2_add 59 = .ok (.getfield 22, 3) := by decide +kernel
theorem dX2_add_62 : decode cX2_add 62 = .ok (.aload_n 0, 1) := by decide +kernel
theorem dX2_add_63 : decode cX2_add 63 = .ok (.getfield 25, 3) := by decide +kernel
theorem dX2_add_66 : decode cX2_add 66 = .ok (.iload_n 3, 1) := by decide +kernel
theorem dX2_add_67 : decode cX2_add 67 = .ok (.iastore, 1) := by decide +kernel
theorem dX2_add_68 : decode cX2_add 68 = .ok (.aload_n 0, 1) := by decide +kernel
theorem dX2_add_69 : decode cX2_add 69 = .ok (.dup, 1) := by decide +kernel
theorem dX2_add_70 : decode cX2_add 70 = .ok (.getfield 25, 3) := by decide +kernel
theorem dX2_add_73 : decode cX2_add 73 = .ok (.iconst 1, 1) := by decide +kernel
theorem dX2_add_74 : decode cX2_add 74 = .ok (.iadd, 1) := by decide +kernel
theorem dX2_add_75 : decode cX2_add 75 = .ok (.putfield 25, 3) := by decide +kernel
theorem dX2_add_78 : decode cX2_add 78 = .ok (.iconst 1, 1) := by decide +kernel
theorem dX2_add_79 : decode cX2_add 79 = .ok (.ireturn, 1) := by decide +kernel
theorem dX3_init_0 : decode cX3_init 0 = .ok (.aload_n 0, 1) := by decide +kernel
theorem dX3_init_1 : decode cX3_init 1 = .ok (.invokespecial 3, 3) := by decide +kernel
theorem dX3_init_4 : decode cX3_init 4 = .ok (.aload_n 0, 1) := by decide +kernel
theorem dX3_init_5 : decode cX3_init 5 = .ok (.aload_n 1, 1) := by decide +kernel
theorem dX3_init_6 : decode cX3_init 6 = .ok (.putfield 9, 3) := by decide +kernel
theorem dX3_init_9 : decode cX3_init 9 = .ok (.return_, 1) := by decide +kernel
theorem dX3_beginReading_0 : decode cX3_beginReading 0 = .ok (.aload_n 0, 1) := by decide +kernel
theorem dX3_beginReading_1 : decode cX3_beginReading 1 = .ok (.iconst 0, 1) := by decide +kernel
theorem dX3_beginReading_2 : decode cX3_beginReading 2 = .ok (.putfield 15, 3) := by decide +kernel
theorem dX3_beginReading_5 : decode cX3_beginReading 5 = .ok (.aload_n 0, 1) := by decide +kernel
theorem dX3_beginReading_6 : decode cX3_beginReading 6 = .ok (.iconst (-1), 1) := by decide +kernel
theorem dX3_beginReading_7 : decode cX3_beginReading 7 = .ok (.putfield 19, 3) := by decide +kernel
theorem dX3_beginReading_10 : decode cX3_beginReading 10 = .ok (.return_, 1) := by decide +kernel
theorem dX3_sign_0 : decode cX3_sign 0 = .ok (.iconst 0, 1) := by decide +kernel
theorem dX3_sign_1 : decode cX3_sign 1 = .ok (.istore_n 1, 1) := by decide +kernel
theorem dX3_sign_2 : decode cX3_sign 2 = .ok (.iload_n 1, 1) := by decide +kernel
theorem dX3_sign_3 : decode cX3_sign 3 = .ok (.sipush 160, 3) := by decide +kernel
theorem dX3_sign_6 : decode cX3_sign 6 = .ok (.if_icmp .ge 35, 3) := by decide +kernel
theorem dX3_sign_9 : decode cX3_sign 9 = .ok (.aload_n 0, 1) := by decide +kernel
theorem dX3_sign_10 : decode cX3_sign 10 = .ok (.getfield 9, 3) := by decide +kernel
theorem dX3_sign_13 : decode cX3_sign 13 = .ok (.aload_n 0, 1) := by decide +kernel
theorem dX3_sign_14 : decode cX3_sign 14 = .ok (.getfield 15, 3) := by decide +kernel
theorem dX3_sign_17 : decode cX3_sign 17 = .ok (.invokevirtual 22, 3) := by decide +kernel
theorem dX3_sign_20 : decode cX3_sign 20 = .ok (.bipush 32, 2) := by decide +kernel
theorem dX3_sign_22 : decode cX3_sign 22 = .ok (.if_icmp .ne 19, 3) := by decide +kernel
theorem dX3_sign_25 : decode cX3_sign 25 = .ok (.aload_n 0, 1) := by decide +kernel
theorem dX3_sign_26 : decode cX3_sign 26 = .ok (.dup, 1) := by decide +kernel
theorem dX3_sign_27 : decode cX3_sign 27 = .ok (.getfield 15, 3) := by decide +kernel
theorem dX3_sign_30 : decode cX3_sign 30 = .ok (.iconst 1, 1) := by decide +kernel
theorem dX3_sign_31 : decode cX3_sign 31 = .ok (.iadd, 1) := by decide +kernel
theorem dX3_sign_32 : decode cX3_sign 32 = .ok (.putfield 15, 3) := by decide +kernel
theorem dX3_sign_35 : decode cX3_sign 35 = .ok (.iinc 1 1, 3) := by decide +kernel
theorem dX3_sign_38 : decode cX3_sign 38 = .ok (.goto (-36), 3) := by decide +kernel
theorem dX3_sign_41 : decode cX3_sign 41 = .ok (.aload_n 0, 1) := by decide +kernel
theorem dX3_sign_42 : decode cX3_sign 42 = .ok (.getfield 9, 3) := by decide +kernel
theorem dX3_sign_45 : decode cX3_sign 45 = .ok (.aload_n 0, 1) := by decide +kernel
theorem dX3_sign_46 : decode cX3_sign 46 = .ok (.getfield 15, 3) := by decide +kernel
theorem dX3_sign_49 : decode cX3_sign 49 = .ok (.invokevirtual 22, 3) := by decide +kernel
theorem dX3_sign_52 : decode cX3_sign 52 = .ok (.ireturn, 1) := by decide +kernel
theorem dX3_wrong_0 : decode cX3_wrong 0 = .ok (.aload_n 0, 1) := by decide +kernel
theorem dX3_wrong_1 : decode cX3_wrong 1 = .ok (.aload_n 0, 1) := by decide +kernel
theorem dX3_wrong_2 : decode cX3_wrong 2 = .ok (.getfield 15, 3) := by decide +kernel
theorem dX3_wrong_5 : decode cX3_wrong 5 = .ok (.putfield 19, 3) := by decide +kernel
theorem dX3_wrong_8 : decode cX3_wrong 8 = .ok (.iconst 0, 1) := by decide +kernel
theorem dX3_wrong_9 : decode cX3_wrong 9 = .ok (.ireturn, 1) := by decide +kernel
theorem dX3_take_0 : decode cX3_take 0 = .ok (.aload_n 0, 1) := by decide +kernel
theorem dX3_take_1 : decode cX3_take 1 = .ok (.invokevirtual 28, 3) := by decide +kernel
theorem dX3_take_4 : decode cX3_take 4 = .ok (.iload_n 1, 1) := by decide +kernel
theorem dX3_take_5 : decode cX3_take 5 = .ok (.if_icmp .eq 8, 3) := by decide +kernel
theorem dX3_take_8 : decode cX3_take 8 = .ok (.aload_n 0, 1) := by decide +kernel
theorem dX3_take_9 : decode cX3_take 9 = .ok (.invokevirtual 32, 3) := by decide +kernel
theorem dX3_take_12 : decode cX3_take 12 = .ok (.ireturn, 1) := by decide +kernel
theorem dX3_take_13 : decode cX3_take 13 = .ok (.aload_n 0, 1) := by decide +kernel
theorem dX3_take_14 : decode cX3_take 14 = .ok (.dup, 1) := by decide +kernel
theorem dX3_take_15 : decode cX3_take 15 = .ok (.getfield 15, 3) := by decide +kernel
theorem dX3_take_18 : decode cX3_take 18 = .ok (.iconst 1, 1) := by decide +kernel
theorem dX3_take_19 : decode cX3_take 19 = .ok (.iadd, 1) := by decide +kernel
theorem dX3_take_20 : decode cX3_take 20 = .ok (.putfield 15, 3) := by decide +kernel
theorem dX3_take_23 : decode cX3_take 23 = .ok (.iconst 1, 1) := by decide +kernel
theorem dX3_take_24 : decode cX3_take 24 = .ok (.ireturn, 1) := by decide +kernel
theorem dX3_number_0 : decode cX3_number 0 = .ok (.aload_n 0, 1) := by decide +kernel
theorem dX3_number_1 : decode cX3_number 1 = .ok (.getfield 15, 3) := by decide +kernel
theorem dX3_number_4 : decode cX3_number 4 = .ok (.istore_n 2, 1) := by decide +kernel
theorem dX3_number_5 : decode cX3_number 5 = .ok (.iconst 0, 1) := by decide +kernel
theorem dX3_number_6 : decode cX3_number 6 = .ok (.istore_n 3, 1) := by decide +kernel
theorem dX3_number_7 : decode cX3_number 7 = .ok (.iconst 0, 1) := by decide +kernel
theorem dX3_number_8 : decode cX3_number 8 = .ok (.istore 4, 2) := by decide +kernel
theorem dX3_number_10 : decode cX3_number 10 = .ok (.iload 4, 2) := by decide +kernel
theorem dX3_number_12 : decode cX3_number 12 = .ok (.iload_n 1, 1) := by decide +kernel
theorem dX3_number_13 : decode cX3_number 13 = .ok (.if_icmp .gt 74, 3) := by decide +kernel
theorem dX3_number_16 : decode cX3_number 16 = .ok (.aload_n 0, 1) := by decide +kernel
theorem dX3_number_17 : decode cX3_number 17 = .ok (.getfield 9, 3) := by decide +kernel
theorem dX3_number_20 : decode cX3_number 20 = .ok (.aload_n 0, 1) := by decide +kernel
theorem dX3_number_21 : decode cX3_number 21 = .ok (.getfield 15, 3) := by decide +kernel
theorem dX3_number_24 : decode cX3_number 24 = .ok (.invokevirtual 22, 3) := by decide +kernel
theorem dX3_number_27 : decode cX3_number 27 = .ok (.bipush 48, 2) := by decide +kernel
theorem dX3_number_29 : decode cX3_number 29 = .ok (.isub, 1) := by decide +kernel
theorem dX3_number_30 : decode cX3_number 30 = .ok (.istore 5, 2) := by decide +kernel
theorem dX3_number_32 : decode cX3_number 32 = .ok (.iload 5, 2) := by decide +kernel
theorem dX3_number_34 : decode cX3_number 34 = .ok (.ifCond .lt 53, 3) := by decide +kernel
theorem dX3_number_37 : decode cX3_number 37 = .ok (.iload 5, 2) := by decide +kernel
theorem dX3_number_39 : decode cX3_number 39 = .ok (.bipush 9, 2) := by decide +kernel
theorem dX3_number_41 : decode cX3_number 41 = .ok (.if_icmp .le 6, 3) := by decide +kernel
theorem dX3_number_44 : decode cX3_number 44 = .ok (.goto 43, 3) := by decide +kernel
theorem dX3_number_47 : decode cX3_number 47 = .ok (.iload 4, 2) := by decide +kernel
theorem dX3_number_49 : decode cX3_number 49 = .ok (.iload_n 1, 1) := by decide +kernel
theorem dX3_number_50 : decode cX3_number 50 = .ok (.if_icmp .ne 13, 3) := by decide +kernel
theorem dX3_number_53 : decode cX3_number 53 = .ok (.aload_n 0, 1) := by decide +kernel
theorem dX3_number_54 : decode cX3_number 54 = .ok (.aload_n 0, 1) := by decide +kernel
theorem dX3_number_55 : decode cX3_number 55 = .ok (.getfield 15, 3) := by decide +kernel
theorem dX3_number_58 : decode cX3_number 58 = .ok (.putfield 19, 3) := by decide +kernel
theorem dX3_number_61 : decode cX3_number 61 = .ok (.iconst (-1), 1) := by decide +kernel
theorem dX3_number_62 : decode cX3_number 62 = .ok (.ireturn, 1) := by decide +kernel
theorem dX3_number_63 : decode cX3_number 63 = .ok (.iload_n 3, 1) := by decide +kernel
theorem dX3_number_64 : decode cX3_number 64 = .ok (.bipush 10, 2) := by decide +kernel
theorem dX3_number_66 : decode cX3_number 66 = .ok (.imul, 1) := by decide +kernel
theorem dX3_number_67 : decode cX3_number 67 = .ok (.iload 5, 2) := by decide +kernel
theorem dX3_number_69 : decode cX3_number 69 = .ok (.iadd, 1) := by decide +kernel
theorem dX3_number_70 : decode cX3_number 70 = .ok (.istore_n 3, 1) := by decide +kernel
theorem dX3_number_71 : decode cX3_number 71 = .ok (.aload_n 0, 1) := by decide +kernel
theorem dX3_number_72 : decode cX3_number 72 = .ok (.dup, 1) := by decide +kernel
theorem dX3_number_73 : decode cX3_number 73 = .ok (.getfield 15, 3) := by decide +kernel
theorem dX3_number_76 : decode cX3_number 76 = .ok (.iconst 1, 1) := by decide +kernel
theorem dX3_number_77 : decode cX3_number 77 = .ok (.iadd, 1) := by decide +kernel
theorem dX3_number_78 : decode cX3_number 78 = .ok (.putfield 15, 3) := by decide +kernel
theorem dX3_number_81 : decode cX3_number 81 = .ok (.iinc 4 1, 3) := by decide +kernel
theorem dX3_number_84 : decode cX3_number 84 = .ok (.goto (-74), 3) := by decide +kernel
theorem dX3_number_87 : decode cX3_number 87 = .ok (.aload_n 0, 1) := by decide +kernel
theorem dX3_number_88 : decode cX3_number 88 = .ok (.getfield 15, 3) := by decide +kernel
theorem dX3_number_91 : decode cX3_number 91 = .ok (.iload_n 2, 1) := by decide +kernel
theorem dX3_number_92 : decode cX3_number 92 = .ok (.if_icmp .ne 13, 3) := by decide +kernel
theorem dX3_number_95 : decode cX3_number 95 = .ok (.aload_n 0, 1) := by decide +kernel
theorem dX3_number_96 : decode cX3_number 96 = .ok (.aload_n 0, 1) := by decide +kernel
theorem dX3_number_97 : decode cX3_number 97 = .ok (.getfield 15, 3) := by decide +kernel
theorem dX3_number_100 : decode cX3_number 100 = .ok (.putfield 19, 3) := by decide +kernel
theorem dX3_number_103 : decode cX3_number 103 = .ok (.iconst (-1), 1) := by decide +kernel
theorem dX3_number_104 : decode cX3_number 104 = .ok (.ireturn, 1) := by decide +kernel
theorem dX3_number_105 : decode cX3_number 105 = .ok (.iload_n 3, 1) := by decide +kernel
theorem dX3_number_106 : decode cX3_number 106 = .ok (.ireturn, 1) := by decide +kernel
theorem dX4_init_0 : decode cX4_init 0 = .ok (.aload_n 0, 1) := by decide +kernel
theorem dX4_init_1 : decode cX4_init 1 = .ok (.invokespecial 3, 3) := by decide +kernel
theorem dX4_init_4 : decode cX4_init 4 = .ok (.aload_n 0, 1) := by decide +kernel
theorem dX4_init_5 : decode cX4_init 5 = .ok (.sipush 320, 3) := by decide +kernel
theorem dX4_init_8 : decode cX4_init 8 = .ok (.newarray .int, 2) := by decide +kernel
theorem dX4_init_10 : decode cX4_init 10 = .ok (.putfield 9, 3) := by decide +kernel
theorem dX4_init_13 : decode cX4_init 13 = .ok (.aload_n 0, 1) := by decide +kernel
theorem dX4_init_14 : decode cX4_init 14 = .ok (.sipush 160, 3) := by decide +kernel
theorem dX4_init_17 : decode cX4_init 17 = .ok (.newarray .int, 2) := by decide +kernel
theorem dX4_init_19 : decode cX4_init 19 = .ok (.putfield 15, 3) := by decide +kernel
theorem dX4_init_22 : decode cX4_init 22 = .ok (.return_, 1) := by decide +kernel
theorem dX4_put_0 : decode cX4_put 0 = .ok (.aload_n 0, 1) := by decide +kernel
theorem dX4_put_1 : decode cX4_put 1 = .ok (.getfield 18, 3) := by decide +kernel
theorem dX4_put_4 : decode cX4_put 4 = .ok (.aload_n 0, 1) := by decide +kernel
theorem dX4_put_5 : decode cX4_put 5 = .ok (.getfield 9, 3) := by decide +kernel
theorem dX4_put_8 : decode cX4_put 8 = .ok (.arraylength, 1) := by decide +kernel
theorem dX4_put_9 : decode cX4_put 9 = .ok (.if_icmp .lt 5, 3) := by decide +kernel
theorem dX4_put_12 : decode cX4_put 12 = .ok (.iconst 0, 1) := by decide +kernel
theorem dX4_put_13 : decode cX4_put 13 = .ok (.ireturn, 1) := by decide +kernel
theorem dX4_put_14 : decode cX4_put 14 = .ok (.aload_n 0, 1) := by decide +kernel
theorem dX4_put_15 : decode cX4_put 15 = .ok (.getfield 9, 3) := by decide +kernel
theorem dX4_put_18 : decode cX4_put 18 = .ok (.aload_n 0, 1) := by decide +kernel
theorem dX4_put_19 : decode cX4_put 19 = .ok (.getfield 18, 3) := by decide +kernel
theorem dX4_put_22 : decode cX4_put 22 = .ok (.iload_n 1, 1) := by decide +kernel
theorem dX4_put_23 : decode cX4_put 23 = .ok (.iastore, 1) := by decide +kernel
theorem dX4_put_24 : decode cX4_put 24 = .ok (.aload_n 0, 1) := by decide +kernel
theorem dX4_put_25 : decode cX4_put 25 = .ok (.dup, 1) := by decide +kernel
theorem dX4_put_26 : decode cX4_put 26 = .ok (.getfield 18, 3) := by decide +kernel
theorem dX4_put_29 : decode cX4_put 29 = .ok (.iconst 1, 1) := by decide +kernel
theorem dX4_put_30 : decode cX4_put 30 = .ok (.iadd, 1) := by decide +kernel
theorem dX4_put_31 : decode cX4_put 31 = .ok (.putfield 18, 3) := by decide +kernel
theorem dX4_put_34 : decode cX4_put 34 = .ok (.iconst 1, 1) := by decide +kernel
theorem dX4_put_35 : decode cX4_put 35 = .ok (.ireturn, 1) := by decide +kernel
theorem dX4_setHole_0 : decode cX4_setHole 0 = .ok (.iload_n 1, 1) := by decide +kernel
theorem dX4_setHole_1 : decode cX4_setHole 1 = .ok (.ifCond .lt 12, 3) := by decide +kernel
theorem dX4_setHole_4 : decode cX4_setHole 4 = .ok (.iload_n 1, 1) := by decide +kernel
theorem dX4_setHole_5 : decode cX4_setHole 5 = .ok (.aload_n 0, 1) := by decide +kernel
theorem dX4_setHole_6 : decode cX4_setHole 6 = .ok (.getfield 9, 3) := by decide +kernel
theorem dX4_setHole_9 : decode cX4_setHole 9 = .ok (.arraylength, 1) := by decide +kernel
theorem dX4_setHole_10 : decode cX4_setHole 10 = .ok (.if_icmp .lt 5, 3) := by decide +kernel
theorem dX4_setHole_13 : decode cX4_setHole 13 = .ok (.iconst 0, 1) := by decide +kernel
theorem dX4_setHole_14 : decode cX4_setHole 14 = .ok (.ireturn, 1) := by decide +kernel
theorem dX4_setHole_15 : decode cX4_setHole 15 = .ok (.aload_n 0, 1) := by decide +kernel
theorem dX4_setHole_16 : decode cX4_setHole 16 = .ok (.getfield 9, 3) := by decide +kernel
theorem dX4_setHole_19 : decode cX4_setHole 19 = .ok (.iload_n 1, 1) := by decide +kernel
theorem dX4_setHole_20 : decode cX4_setHole 20 = .ok (.aload_n 0, 1) := by decide +kernel
theorem dX4_setHole_21 : decode cX4_setHole 21 = .ok (.getfield 18, 3) := by decide +kernel
theorem dX4_setHole_24 : decode cX4_setHole 24 = .ok (.iastore, 1) := by decide +kernel
theorem dX4_setHole_25 : decode cX4_setHole 25 = .ok (.iconst 1, 1) := by decide +kernel
theorem dX4_setHole_26 : decode cX4_setHole 26 = .ok (.ireturn, 1) := by decide +kernel
theorem dX4_worth_0 : decode cX4_worth 0 = .ok (.iconst 0, 1) := by decide +kernel
theorem dX4_worth_1 : decode cX4_worth 1 = .ok (.istore_n 2, 1) := by decide +kernel
theorem dX4_worth_2 : decode cX4_worth 2 = .ok (.iconst 0, 1) := by decide +kernel
theorem dX4_worth_3 : decode cX4_worth 3 = .ok (.istore_n 3, 1) := by decide +kernel
theorem dX4_worth_4 : decode cX4_worth 4 = .ok (.iload_n 3, 1) := by decide +kernel
theorem dX4_worth_5 : decode cX4_worth 5 = .ok (.aload_n 0, 1) := by decide +kernel
theorem dX4_worth_6 : decode cX4_worth 6 = .ok (.getfield 18, 3) := by decide +kernel
theorem dX4_worth_9 : decode cX4_worth 9 = .ok (.if_icmp .ge 235, 3) := by decide +kernel
theorem dX4_worth_12 : decode cX4_worth 12 = .ok (.iload_n 3, 1) := by decide +kernel
theorem dX4_worth_13 : decode cX4_worth 13 = .ok (.aload_n 0, 1) := by decide +kernel
theorem dX4_worth_14 : decode cX4_worth 14 = .ok (.getfield 9, 3) := by decide +kernel
theorem dX4_worth_17 : decode cX4_worth 17 = .ok (.arraylength, 1) := by decide +kernel
theorem dX4_worth_18 : decode cX4_worth 18 = .ok (.if_icmp .ge 226, 3) := by decide +kernel
theorem dX4_worth_21 : decode cX4_worth 21 = .ok (.aload_n 0, 1) := by decide +kernel
theorem dX4_worth_22 : decode cX4_worth 22 = .ok (.getfield 9, 3) := by decide +kernel
theorem dX4_worth_25 : decode cX4_worth 25 = .ok (.iload_n 3, 1) := by decide +kernel
theorem dX4_worth_26 : decode cX4_worth 26 = .ok (.iaload, 1) := by decide +kernel
theorem dX4_worth_27 : decode cX4_worth 27 = .ok (.istore 4, 2) := by decide +kernel
theorem dX4_worth_29 : decode cX4_worth 29 = .ok (.iload 4, 2) := by decide +kernel
theorem dX4_worth_31 : decode cX4_worth 31 = .ok (.sipush 20000, 3) := by decide +kernel
theorem dX4_worth_34 : decode cX4_worth 34 = .ok (.if_icmp .ge 55, 3) := by decide +kernel
theorem dX4_worth_37 : decode cX4_worth 37 = .ok (.iload 4, 2) := by decide +kernel
theorem dX4_worth_39 : decode cX4_worth 39 = .ok (.sipush 10000, 3) := by decide +kernel
theorem dX4_worth_42 : decode cX4_worth 42 = .ok (.isub, 1) := by decide +kernel
theorem dX4_worth_43 : decode cX4_worth 43 = .ok (.istore 5, 2) := by decide +kernel
theorem dX4_worth_45 : decode cX4_worth 45 = .ok (.iload_n 2, 1) := by decide +kernel
theorem dX4_worth_46 : decode cX4_worth 46 = .ok (.aload_n 0, 1) := by decide +kernel
theorem dX4_worth_47 : decode cX4_worth 47 = .ok (.getfield 15, 3) := by decide +kernel
theorem dX4_worth_50 : decode cX4_worth 50 = .ok (.arraylength, 1) := by decide +kernel
theorem dX4_worth_51 : decode cX4_worth 51 = .ok (.if_icmp .ge 10, 3) := by decide +kernel
theorem dX4_worth_54 : decode cX4_worth 54 = .ok (.iload 5, 2) := by decide +kernel
theorem dX4_worth_56 : decode cX4_worth 56 = .ok (.aload_n 1, 1) := by decide +kernel
theorem dX4_worth_57 : decode cX4_worth 57 = .ok (.arraylength, 1) := by decide +kernel
theorem dX4_worth_58 : decode cX4_worth 58 = .ok (.if_icmp .lt 5, 3) := by decide +kernel
theorem dX4_worth_61 : decode cX4_worth 61 = .ok (.iconst 0, 1) := by decide +kernel
theorem dX4_worth_62 : decode cX4_worth 62 = .ok (.ireturn, 1) := by decide +kernel
theorem dX4_worth_63 : decode cX4_worth 63 = .ok (.aload_n 0, 1) := by decide +kernel
theorem dX4_worth_64 : decode cX4_worth 64 = .ok (.getfield 15, 3) := by decide +kernel
theorem dX4_worth_67 : decode cX4_worth 67 = .ok (.iload_n 2, 1) := by decide +kernel
theorem dX4_worth_68 : decode cX4_worth 68 = .ok (.iload 5, 2) := by decide +kernel
theorem dX4_worth_70 : decode cX4_worth 70 = .ok (.ifCond .ge 8, 3) := by decide +kernel
theorem dX4_worth_73 : decode cX4_worth 73 = .ok (.iload 4, 2) := by decide +kernel
theorem dX4_worth_75 : decode cX4_worth 75 = .ok (.goto 7, 3) := by decide +kernel
theorem dX4_worth_78 : decode cX4_worth 78 = .ok (.aload_n 1, 1) := by decide +kernel
theorem dX4_worth_79 : decode cX4_worth 79 = .ok (.iload 5, 2) := by decide +kernel
theorem dX4_worth_81 : decode cX4_worth 81 = .ok (.iaload, 1) := by decide +kernel
theorem dX4_worth_82 : decode cX4_worth 82 = .ok (.iastore, 1) := by decide +kernel
theorem dX4_worth_83 : decode cX4_worth 83 = .ok (.iinc 2 1, 3) := by decide +kernel
theorem dX4_worth_86 : decode cX4_worth 86 = .ok (.goto 152, 3) := by decide +kernel
theorem dX4_worth_89 : decode cX4_worth 89 = .ok (.iload 4, 2) := by decide +kernel
theorem dX4_worth_91 : decode cX4_worth 91 = .ok (.sipush 20000, 3) := by decide +kernel
theorem dX4_worth_94 : decode cX4_worth 94 = .ok (.isub, 1) := by decide +kernel
theorem dX4_worth_95 : decode cX4_worth 95 = .ok (.istore 5, 2) := by decide +kernel
theorem dX4_worth_97 : decode cX4_worth 97 = .ok (.iload_n 2, 1) := by decide +kernel
theorem dX4_worth_98 : decode cX4_worth 98 = .ok (.iconst 1, 1) := by decide +kernel
theorem dX4_worth_99 : decode cX4_worth 99 = .ok (.if_icmp .lt 16, 3) := by decide +kernel
theorem dX4_worth_102 : decode cX4_worth 102 = .ok (.iload_n 2, 1) := by decide +kernel
theorem dX4_worth_103 : decode cX4_worth 103 = .ok (.iconst 2, 1) := by decide +kernel
theorem dX4_worth_104 : decode cX4_worth 104 = .ok (.if_icmp .ge 13, 3) := by decide +kernel
theorem dX4_worth_107 : decode cX4_worth 107 = .ok (.iload 5, 2) := by decide +kernel
theorem dX4_worth_109 : decode cX4_worth 109 = .ok (.invokestatic 22, 3) := by decide +kernel
theorem dX4_worth_112 : decode cX4_worth 112 = .ok (.ifCond .eq 5, 3) := by decide +kernel
theorem dX4_worth_115 : decode cX4_worth 115 = .ok (.iconst 0, 1) := by decide +kernel
theorem dX4_worth_116 : decode cX4_worth 116 = .ok (.ireturn, 1) := by decide +kernel
theorem dX4_worth_117 : decode cX4_worth 117 = .ok (.iload 5, 2) := by decide +kernel
theorem dX4_worth_119 : decode cX4_worth 119 = .ok (.bipush 59, 2) := by decide +kernel
theorem dX4_worth_121 : decode cX4_worth 121 = .ok (.if_icmp .ne 12, 3) := by decide +kernel
theorem dX4_worth_124 : decode cX4_worth 124 = .ok (.aload_n 0, 1) := by decide +kernel
theorem dX4_worth_125 : decode cX4_worth 125 = .ok (.getfield 15, 3) := by decide +kernel
theorem dX4_worth_128 : decode cX4_worth 128 = .ok (.iload_n 2, 1) := by decide +kernel
theorem dX4_worth_129 : decode cX4_worth 129 = .ok (.iconst 1, 1) := by decide +kernel
theorem dX4_worth_130 : decode cX4_worth 130 = .ok (.isub, 1) := by decide +kernel
theorem dX4_worth_131 : decode cX4_worth 131 = .ok (.iaload, 1) := by decide +kernel
theorem dX4_worth_132 : decode cX4_worth 132 = .ok (.ireturn, 1) := by decide +kernel
theorem dX4_worth_133 : decode cX4_worth 133 = .ok (.iload 5, 2) := by decide +kernel
theorem dX4_worth_135 : decode cX4_worth 135 = .ok (.bipush 33, 2) := by decide +kernel
theorem dX4_worth_137 : decode cX4_worth 137 = .ok (.if_icmp .ne 24, 3) := by decide +kernel
theorem dX4_worth_140 : decode cX4_worth 140 = .ok (.aload_n 0, 1) := by decide +kernel
theorem dX4_worth_141 : decode cX4_worth 141 = .ok (.getfield 15, 3) := by decide +kernel
theorem dX4_worth_144 : decode cX4_worth 144 = .ok (.iload_n 2, 1) := by decide +kernel
theorem dX4_worth_145 : decode cX4_worth 145 = .ok (.iconst 1, 1) := by decide +kernel
theorem dX4_worth_146 : decode cX4_worth 146 = .ok (.isub, 1) := by decide +kernel
theorem dX4_worth_147 : decode cX4_worth 147 = .ok (.iconst 1, 1) := by decide +kernel
theorem dX4_worth_148 : decode cX4_worth 148 = .ok (.aload_n 0, 1) := by decide +kernel
theorem dX4_worth_149 : decode cX4_worth 149 = .ok (.getfield 15, 3) := by decide +kernel
theorem dX4_worth_152 : decode cX4_worth 152 = .ok (.iload_n 2, 1) := by decide +kernel
theorem dX4_worth_153 : decode cX4_worth 153 = .ok (.iconst 1, 1) := by decide +kernel
theorem dX4_worth_154 : decode cX4_worth 154 = .ok (.isub, 1) := by decide +kernel
theorem dX4_worth_155 : decode cX4_worth 155 = .ok (.iaload, 1) := by decide +kernel
theorem dX4_worth_156 : decode cX4_worth 156 = .ok (.isub, 1) := by decide +kernel
theorem dX4_worth_157 : decode cX4_worth 157 = .ok (.iastore, 1) := by decide +kernel
theorem dX4_worth_158 : decode cX4_worth 158 = .ok (.goto 80, 3) := by decide +kernel
theorem dX4_worth_161 : decode cX4_worth 161 = .ok (.iload 5, 2) := by decide +kernel
theorem dX4_worth_163 : decode cX4_worth 163 = .ok (.bipush 63, 2) := by decide +kernel
theorem dX4_worth_165 : decode cX4_worth 165 = .ok (.if_icmp .ne 43, 3) := by decide +kernel
theorem dX4_worth_168 : decode cX4_worth 168 = .ok (.iinc 2 (-1), 3) := by decide +kernel
theorem dX4_worth_171 : decode cX4_worth 171 = .ok (.iinc 3 1, 3) := by decide +kernel
theorem dX4_worth_174 : decode cX4_worth 174 = .ok (.aload_n 0, 1) := by decide +kernel
theorem dX4_worth_175 : decode cX4_worth 175 = .ok (.getfield 15, 3) := by decide +kernel
theorem dX4_worth_178 : decode cX4_worth 178 = .ok (.iload_n 2, 1) := by decide +kernel
theorem dX4_worth_179 : decode cX4_worth 179 = .ok (.iaload, 1) := by decide +kernel
theorem dX4_worth_180 : decode cX4_worth 180 = .ok (.ifCond .ne 58, 3) := by decide +kernel
theorem dX4_worth_183 : decode cX4_worth 183 = .ok (.iload_n 3, 1) := by decide +kernel
theorem dX4_worth_184 : decode cX4_worth 184 = .ok (.aload_n 0, 1) := by decide +kernel
theorem dX4_worth_185 : decode cX4_worth 185 = .ok (.getfield 9, 3) := by decide +kernel
theorem dX4_worth_188 : decode cX4_worth 188 = .ok (.arraylength, 1) := by decide +kernel
theorem dX4_worth_189 : decode cX4_worth 189 = .ok (.if_icmp .ge 49, 3) := by decide +kernel
theorem dX4_worth_192 : decode cX4_worth 192 = .ok (.iload_n 3, 1) := by decide +kernel
theorem dX4_worth_193 : decode cX4_worth 193 = .ok (.aload_n 0, 1) := by decide +kernel
theorem dX4_worth_194 : decode cX4_worth 194 = .ok (.getfield 9, 3) := by decide +kernel
theorem dX4_worth_197 : decode cX4_worth 197 = .ok (.iload_n 3, 1) := by decide +kernel
theorem dX4_worth_198 : decode cX4_worth 198 = .ok (.iaload, 1) := by decide +kernel
theorem dX4_worth_199 : decode cX4_worth 199 = .ok (.iconst 1, 1) := by decide +kernel
theorem dX4_worth_200 : decode cX4_worth 200 = .ok (.isub, 1) := by decide +kernel
theorem dX4_worth_201 : decode cX4_worth 201 = .ok (.invokestatic 26, 3) := by decide +kernel
theorem dX4_worth_204 : decode cX4_worth 204 = .ok (.istore_n 3, 1) := by decide +kernel
theorem dX4_worth_205 : decode cX4_worth 205 = .ok (.goto 33, 3) := by decide +kernel
theorem dX4_worth_208 : decode cX4_worth 208 = .ok (.iinc 2 (-1), 3) := by decide +kernel
theorem dX4_worth_211 : decode cX4_worth 211 = .ok (.aload_n 0, 1) := by decide +kernel
theorem dX4_worth_212 : decode cX4_worth 212 = .ok (.getfield 15, 3) := by decide +kernel
theorem dX4_worth_215 : decode cX4_worth 215 = .ok (.iload_n 2, 1) := by decide +kernel
theorem dX4_worth_216 : decode cX4_worth 216 = .ok (.iconst 1, 1) := by decide +kernel
theorem dX4_worth_217 : decode cX4_worth 217 = .ok (.isub, 1) := by decide +kernel
theorem dX4_worth_218 : decode cX4_worth 218 = .ok (.iload 5, 2) := by decide +kernel
theorem dX4_worth_220 : decode cX4_worth 220 = .ok (.aload_n 0, 1) := by decide +kernel
theorem dX4_worth_221 : decode cX4_worth 221 = .ok (.getfield 15, 3) := by decide +kernel
theorem dX4_worth_224 : decode cX4_worth 224 = .ok (.iload_n 2, 1) := by decide +kernel
theorem dX4_worth_225 : decode cX4_worth 225 = .ok (.iconst 1, 1) := by decide +kernel
theorem dX4_worth_226 : decode cX4_worth 226 = .ok (.isub, 1) := by decide +kernel
theorem dX4_worth_227 : decode cX4_worth 227 = .ok (.iaload, 1) := by decide +kernel
theorem dX4_worth_228 : decode cX4_worth 228 = .ok (.aload_n 0, 1) := by decide +kernel
theorem dX4_worth_229 : decode cX4_worth 229 = .ok (.getfield 15, 3) := by decide +kernel
theorem dX4_worth_232 : decode cX4_worth 232 = .ok (.iload_n 2, 1) := by decide +kernel
theorem dX4_worth_233 : decode cX4_worth 233 = .ok (.iaload, 1) := by decide +kernel
theorem dX4_worth_234 : decode cX4_worth 234 = .ok (.invokestatic 32, 3) := by decide +kernel
theorem dX4_worth_237 : decode cX4_worth 237 = .ok (.iastore, 1) := by decide +kernel
theorem dX4_worth_238 : decode cX4_worth 238 = .ok (.iinc 3 1, 3) := by decide +kernel
theorem dX4_worth_241 : decode cX4_worth 241 = .ok (.goto (-237), 3) := by decide +kernel
theorem dX4_worth_244 : decode cX4_worth 244 = .ok (.iconst 0, 1) := by decide +kernel
theorem dX4_worth_245 : decode cX4_worth 245 = .ok (.ireturn, 1) := by decide +kernel
theorem dX4_isBetweenTwo_0 : decode cX4_isBetweenTwo 0 = .ok (.iload_n 0, 1) := by decide +kernel
theorem dX4_isBetweenTwo_1 : decode cX4_isBetweenTwo 1 = .ok (.bipush 59, 2) := by decide +kernel
theorem dX4_isBetweenTwo_3 : decode cX4_isBetweenTwo 3 = .ok (.if_icmp .eq 19, 3) := by decide +kernel
theorem dX4_isBetweenTwo_6 : decode cX4_isBetweenTwo 6 = .ok (.iload_n 0, 1) := by decide +kernel
theorem dX4_isBetweenTwo_7 : decode cX4_isBetweenTwo 7 = .ok (.bipush 33, 2) := by decide +kernel
theorem dX4_isBetweenTwo_9 : decode cX4_isBetweenTwo 9 = .ok (.if_icmp .eq 13, 3) := by decide +kernel
theorem dX4_isBetweenTwo_12 : decode cX4_isBetweenTwo 12 = .ok (.iload_n 0, 1) := by decide +kernel
theorem dX4_isBetweenTwo_13 : decode cX4_isBetweenTwo 13 = .ok (.bipush 63, 2) := by decide +kernel
theorem dX4_isBetweenTwo_15 : decode cX4_isBetweenTwo 15 = .ok (.if_icmp .eq 7, 3) := by decide +kernel
theorem dX4_isBetweenTwo_18 : decode cX4_isBetweenTwo 18 = .ok (.iconst 1, 1) := by decide +kernel
theorem dX4_isBetweenTwo_19 : decode cX4_isBetweenTwo 19 = .ok (.goto 4, 3) := by decide +kernel
theorem dX4_isBetweenTwo_22 : decode cX4_isBetweenTwo 22 = .ok (.iconst 0, 1) := by decide +kernel
theorem dX4_isBetweenTwo_23 : decode cX4_isBetweenTwo 23 = .ok (.ireturn, 1) := by decide +kernel
theorem dX4_joined_0 : decode cX4_joined 0 = .ok (.iload_n 0, 1) := by decide +kernel
theorem dX4_joined_1 : decode cX4_joined 1 = .ok (.tableswitch 208 38 62 #[200, 208, 208, 208, 133, 115, 208, 124, 208, 142, 208, 208, 208, 208, 208, 208, 208, 208, 208, 208, 208, 208, 172, 158, 186], 115) := by decide +kernel
theorem dX4_joined_116 : decode cX4_joined 116 = .ok (.iload_n 1, 1) := by decide +kernel
theorem dX4_joined_117 : decode cX4_joined 117 = .ok (.i2l, 1) := by decide +kernel
theorem dX4_joined_118 : decode cX4_joined 118 = .ok (.iload_n 2, 1) := by decide +kernel
theorem dX4_joined_119 : decode cX4_joined 119 = .ok (.i2l, 1) := by decide +kernel
theorem dX4_joined_120 : decode cX4_joined 120 = .ok (.ladd, 1) := by decide +kernel
theorem dX4_joined_121 : decode cX4_joined 121 = .ok (.lstore_n 3, 1) := by decide +kernel
theorem dX4_joined_122 : decode cX4_joined 122 = .ok (.goto 92, 3) := by decide +kernel
theorem dX4_joined_125 : decode cX4_joined 125 = .ok (.iload_n 1, 1) := by decide +kernel
theorem dX4_joined_126 : decode cX4_joined 126 = .ok (.i2l, 1) := by decide +kernel
theorem dX4_joined_127 : decode cX4_joined 127 = .ok (.iload_n 2, 1) := by decide +kernel
theorem dX4_joined_128 : decode cX4_joined 128 = .ok (.i2l, 1) := by decide +kernel
theorem dX4_joined_129 : decode cX4_joined 129 = .ok (.lsub, 1) := by decide +kernel
theorem dX4_joined_130 : decode cX4_joined 130 = .ok (.lstore_n 3, 1) := by decide +kernel
theorem dX4_joined_131 : decode cX4_joined 131 = .ok (.goto 83, 3) := by decide +kernel
theorem dX4_joined_134 : decode cX4_joined 134 = .ok (.iload_n 1, 1) := by decide +kernel
theorem dX4_joined_135 : decode cX4_joined 135 = .ok (.i2l, 1) := by decide +kernel
theorem dX4_joined_136 : decode cX4_joined 136 = .ok (.iload_n 2, 1) := by decide +kernel
theorem dX4_joined_137 : decode cX4_joined 137 = .ok (.i2l, 1) := by decide +kernel
theorem dX4_joined_138 : decode cX4_joined 138 = .ok (.lmul, 1) := by decide +kernel
theorem dX4_joined_139 : decode cX4_joined 139 = .ok (.lstore_n 3, 1) := by decide +kernel
theorem dX4_joined_140 : decode cX4_joined 140 = .ok (.goto 74, 3) := by decide +kernel
theorem dX4_joined_143 : decode cX4_joined 143 = .ok (.iload_n 2, 1) := by decide +kernel
theorem dX4_joined_144 : decode cX4_joined 144 = .ok (.ifCond .ne 7, 3) := by decide +kernel
theorem dX4_joined_147 : decode cX4_joined 147 = .ok (.lconst 0, 1) := by decide +kernel
theorem dX4_joined_148 : decode cX4_joined 148 = .ok (.goto 7, 3) := by decide +kernel
theorem dX4_joined_151 : decode cX4_joined 151 = .ok (.iload_n 1, 1) := by decide +kernel
theorem dX4_joined_152 : decode cX4_joined 152 = .ok (.iload_n 2, 1) := by decide +kernel
theorem dX4_joined_153 : decode cX4_joined 153 = .ok (.idiv, 1) := by decide +kernel
theorem dX4_joined_154 : decode cX4_joined 154 = .ok (.i2l, 1) := by decide +kernel
theorem dX4_joined_155 : decode cX4_joined 155 = .ok (.lstore_n 3, 1) := by decide +kernel
theorem dX4_joined_156 : decode cX4_joined 156 = .ok (.goto 58, 3) := by decide +kernel
theorem dX4_joined_159 : decode cX4_joined 159 = .ok (.iload_n 1, 1) := by decide +kernel
theorem dX4_joined_160 : decode cX4_joined 160 = .ok (.iload_n 2, 1) := by decide +kernel
theorem dX4_joined_161 : decode cX4_joined 161 = .ok (.if_icmp .ne 7, 3) := by decide +kernel
theorem dX4_joined_164 : decode cX4_joined 164 = .ok (.lconst 1, 1) := by decide +kernel
theorem dX4_joined_165 : decode cX4_joined 165 = .ok (.goto 4, 3) := by decide +kernel
theorem dX4_joined_168 : decode cX4_joined 168 = .ok (.lconst 0, 1) := by decide +kernel
theorem dX4_joined_169 : decode cX4_joined 169 = .ok (.lstore_n 3, 1) := by decide +kernel
theorem dX4_joined_170 : decode cX4_joined 170 = .ok (.goto 44, 3) := by decide +kernel
theorem dX4_joined_173 : decode cX4_joined 173 = .ok (.iload_n 1, 1) := by decide +kernel
theorem dX4_joined_174 : decode cX4_joined 174 = .ok (.iload_n 2, 1) := by decide +kernel
theorem dX4_joined_175 : decode cX4_joined 175 = .ok (.if_icmp .ge 7, 3) := by decide +kernel
theorem dX4_joined_178 : decode cX4_joined 178 = .ok (.lconst 1, 1) := by decide +kernel
theorem dX4_joined_179 : decode cX4_joined 179 = .ok (.goto 4, 3) := by decide +kernel
theorem dX4_joined_182 : decode cX4_joined 182 = .ok (.lconst 0, 1) := by decide +kernel
theorem dX4_joined_183 : decode cX4_joined 183 = .ok (.lstore_n 3, 1) := by decide +kernel
theorem dX4_joined_184 : decode cX4_joined 184 = .ok (.goto 30, 3) := by decide +kernel
theorem dX4_joined_187 : decode cX4_joined 187 = .ok (.iload_n 1, 1) := by decide +kernel
theorem dX4_joined_188 : decode cX4_joined 188 = .ok (.iload_n 2, 1) := by decide +kernel
theorem dX4_joined_189 : decode cX4_joined 189 = .ok (.if_icmp .le 7, 3) := by decide +kernel
theorem dX4_joined_192 : decode cX4_joined 192 = .ok (.lconst 1, 1) := by decide +kernel
theorem dX4_joined_193 : decode cX4_joined 193 = .ok (.goto 4, 3) := by decide +kernel
theorem dX4_joined_196 : decode cX4_joined 196 = .ok (.lconst 0, 1) := by decide +kernel
theorem dX4_joined_197 : decode cX4_joined 197 = .ok (.lstore_n 3, 1) := by decide +kernel
theorem dX4_joined_198 : decode cX4_joined 198 = .ok (.goto 16, 3) := by decide +kernel
theorem dX4_joined_201 : decode cX4_joined 201 = .ok (.iload_n 1, 1) := by decide +kernel
theorem dX4_joined_202 : decode cX4_joined 202 = .ok (.iload_n 2, 1) := by decide +kernel
theorem dX4_joined_203 : decode cX4_joined 203 = .ok (.iand, 1) := by decide +kernel
theorem dX4_joined_204 : decode cX4_joined 204 = .ok (.i2l, 1) := by decide +kernel
theorem dX4_joined_205 : decode cX4_joined 205 = .ok (.lstore_n 3, 1) := by decide +kernel
theorem dX4_joined_206 : decode cX4_joined 206 = .ok (.goto 8, 3) := by decide +kernel
theorem dX4_joined_209 : decode cX4_joined 209 = .ok (.iload_n 1, 1) := by decide +kernel
theorem dX4_joined_210 : decode cX4_joined 210 = .ok (.iload_n 2, 1) := by decide +kernel
theorem dX4_joined_211 : decode cX4_joined 211 = .ok (.ior, 1) := by decide +kernel
theorem dX4_joined_212 : decode cX4_joined 212 = .ok (.i2l, 1) := by decide +kernel
theorem dX4_joined_213 : decode cX4_joined 213 = .ok (.lstore_n 3, 1) := by decide +kernel
theorem dX4_joined_214 : decode cX4_joined 214 = .ok (.ldc2_w 36, 3) := by decide +kernel
theorem dX4_joined_217 : decode cX4_joined 217 = .ok (.ldc2_w 38, 3) := by decide +kernel
theorem dX4_joined_220 : decode cX4_joined 220 = .ok (.lload_n 3, 1) := by decide +kernel
theorem dX4_joined_221 : decode cX4_joined 221 = .ok (.invokestatic 40, 3) := by decide +kernel
theorem dX4_joined_224 : decode cX4_joined 224 = .ok (.invokestatic 44, 3) := by decide +kernel
theorem dX4_joined_227 : decode cX4_joined 227 = .ok (.l2i, 1) := by decide +kernel
theorem dX4_joined_228 : decode cX4_joined 228 = .ok (.ireturn, 1) := by decide +kernel
theorem dX5_init_0 : decode cX5_init 0 = .ok (.aload_n 0, 1) := by decide +kernel
theorem dX5_init_1 : decode cX5_init 1 = .ok (.aload_n 1, 1) := by decide +kernel
theorem dX5_init_2 : decode cX5_init 2 = .ok (.invokespecial 3, 3) := by decide +kernel
theorem dX5_init_5 : decode cX5_init 5 = .ok (.return_, 1) := by decide +kernel
theorem dX5_read_0 : decode cX5_read 0 = .ok (.aload_n 0, 1) := by decide +kernel
theorem dX5_read_1 : decode cX5_read 1 = .ok (.invokevirtual 9, 3) := by decide +kernel
theorem dX5_read_4 : decode cX5_read 4 = .ok (.aload_n 0, 1) := by decide +kernel
theorem dX5_read_5 : decode cX5_read 5 = .ok (.aload_n 1, 1) := by decide +kernel
theorem dX5_read_6 : decode cX5_read 6 = .ok (.putfield 15, 3) := by decide +kernel
theorem dX5_read_9 : decode cX5_read 9 = .ok (.aload_n 1, 1) := by decide +kernel
theorem dX5_read_10 : decode cX5_read 10 = .ok (.iconst 0, 1) := by decide +kernel
theorem dX5_read_11 : decode cX5_read 11 = .ok (.putfield 19, 3) := by decide +kernel
theorem dX5_read_14 : decode cX5_read 14 = .ok (.iconst 0, 1) := by decide +kernel
theorem dX5_read_15 : decode cX5_read 15 = .ok (.istore_n 2, 1) := by decide +kernel
theorem dX5_read_16 : decode cX5_read 16 = .ok (.iload_n 2, 1) := by decide +kernel
theorem dX5_read_17 : decode cX5_read 17 = .ok (.sipush 160, 3) := by decide +kernel
theorem dX5_read_20 : decode cX5_read 20 = .ok (.if_icmp .gt 45, 3) := by decide +kernel
theorem dX5_read_23 : decode cX5_read 23 = .ok (.aload_n 0, 1) := by decide +kernel
theorem dX5_read_24 : decode cX5_read 24 = .ok (.invokevirtual 25, 3) := by decide +kernel
theorem dX5_read_27 : decode cX5_read 27 = .ok (.ifCond .ne 8, 3) := by decide +kernel
theorem dX5_read_30 : decode cX5_read 30 = .ok (.aload_n 0, 1) := by decide +kernel
theorem dX5_read_31 : decode cX5_read 31 = .ok (.getfield 29, 3) := by decide +kernel
theorem dX5_read_34 : decode cX5_read 34 = .ok (.ireturn, 1) := by decide +kernel
theorem dX5_read_35 : decode cX5_read 35 = .ok (.aload_n 0, 1) := by decide +kernel
theorem dX5_read_36 : decode cX5_read 36 = .ok (.invokevirtual 32, 3) := by decide +kernel
theorem dX5_read_39 : decode cX5_read 39 = .ok (.iconst (-1), 1) := by decide +kernel
theorem dX5_read_40 : decode cX5_read 40 = .ok (.if_icmp .ne 5, 3) := by decide +kernel
theorem dX5_read_43 : decode cX5_read 43 = .ok (.iconst (-1), 1) := by decide +kernel
theorem dX5_read_44 : decode cX5_read 44 = .ok (.ireturn, 1) := by decide +kernel
theorem dX5_read_45 : decode cX5_read 45 = .ok (.aload_n 0, 1) := by decide +kernel
theorem dX5_read_46 : decode cX5_read 46 = .ok (.bipush 59, 2) := by decide +kernel
theorem dX5_read_48 : decode cX5_read 48 = .ok (.invokevirtual 36, 3) := by decide +kernel
theorem dX5_read_51 : decode cX5_read 51 = .ok (.ifCond .ne 8, 3) := by decide +kernel
theorem dX5_read_54 : decode cX5_read 54 = .ok (.aload_n 0, 1) := by decide +kernel
theorem dX5_read_55 : decode cX5_read 55 = .ok (.getfield 29, 3) := by decide +kernel
theorem dX5_read_58 : decode cX5_read 58 = .ok (.ireturn, 1) := by decide +kernel
theorem dX5_read_59 : decode cX5_read 59 = .ok (.iinc 2 1, 3) := by decide +kernel
theorem dX5_read_62 : decode cX5_read 62 = .ok (.goto (-46), 3) := by decide +kernel
theorem dX5_read_65 : decode cX5_read 65 = .ok (.aload_n 0, 1) := by decide +kernel
theorem dX5_read_66 : decode cX5_read 66 = .ok (.getfield 40, 3) := by decide +kernel
theorem dX5_read_69 : decode cX5_read 69 = .ok (.ireturn, 1) := by decide +kernel
theorem dX5_put_0 : decode cX5_put 0 = .ok (.aload_n 0, 1) := by decide +kernel
theorem dX5_put_1 : decode cX5_put 1 = .ok (.getfield 15, 3) := by decide +kernel
theorem dX5_put_4 : decode cX5_put 4 = .ok (.ifnull 18, 3) := by decide +kernel
theorem dX5_put_7 : decode cX5_put 7 = .ok (.aload_n 0, 1) := by decide +kernel
theorem dX5_put_8 : decode cX5_put 8 = .ok (.getfield 15, 3) := by decide +kernel
theorem dX5_put_11 : decode cX5_put 11 = .ok (.iload_n 1, 1) := by decide +kernel
theorem dX5_put_12 : decode cX5_put 12 = .ok (.invokevirtual 43, 3) := by decide +kernel
theorem dX5_put_15 : decode cX5_put 15 = .ok (.ifCond .eq 7, 3) := by decide +kernel
theorem dX5_put_18 : decode cX5_put 18 = .ok (.iconst 1, 1) := by decide +kernel
theorem dX5_put_19 : decode cX5_put 19 = .ok (.goto 4, 3) := by decide +kernel
theorem dX5_put_22 : decode cX5_put 22 = .ok (.iconst 0, 1) := by decide +kernel
theorem dX5_put_23 : decode cX5_put 23 = .ok (.ireturn, 1) := by decide +kernel
theorem dX5_clause_0 : decode cX5_clause 0 = .ok (.aload_n 0, 1) := by decide +kernel
theorem dX5_clause_1 : decode cX5_clause 1 = .ok (.bipush 121, 2) := by decide +kernel
theorem dX5_clause_3 : decode cX5_clause 3 = .ok (.invokevirtual 36, 3) := by decide +kernel
theorem dX5_clause_6 : decode cX5_clause 6 = .ok (.ifCond .eq 12, 3) := by decide +kernel
theorem dX5_clause_9 : decode cX5_clause 9 = .ok (.aload_n 0, 1) := by decide +kernel
theorem dX5_clause_10 : decode cX5_clause 10 = .ok (.bipush 58, 2) := by decide +kernel
theorem dX5_clause_12 : decode cX5_clause 12 = .ok (.invokevirtual 36, 3) := by decide +kernel
theorem dX5_clause_15 : decode cX5_clause 15 = .ok (.ifCond .ne 5, 3) := by decide +kernel
theorem dX5_clause_18 : decode cX5_clause 18 = .ok (.iconst 0, 1) := by decide +kernel
theorem dX5_clause_19 : decode cX5_clause 19 = .ok (.ireturn, 1) := by decide +kernel
theorem dX5_clause_20 : decode cX5_clause 20 = .ok (.aload_n 0, 1) := by decide +kernel
theorem dX5_clause_21 : decode cX5_clause 21 = .ok (.invokevirtual 32, 3) := by decide +kernel
theorem dX5_clause_24 : decode cX5_clause 24 = .ok (.istore_n 1, 1) := by decide +kernel
theorem dX5_clause_25 : decode cX5_clause 25 = .ok (.iload_n 1, 1) := by decide +kernel
theorem dX5_clause_26 : decode cX5_clause 26 = .ok (.bipush 33, 2) := by decide +kernel
theorem dX5_clause_28 : decode cX5_clause 28 = .ok (.if_icmp .eq 13, 3) := by decide +kernel
theorem dX5_clause_31 : decode cX5_clause 31 = .ok (.iload_n 1, 1) := by decide +kernel
theorem dX5_clause_32 : decode cX5_clause 32 = .ok (.bipush 40, 2) := by decide +kernel
theorem dX5_clause_34 : decode cX5_clause 34 = .ok (.if_icmp .eq 7, 3) := by decide +kernel
theorem dX5_clause_37 : decode cX5_clause 37 = .ok (.iconst 1, 1) := by decide +kernel
theorem dX5_clause_38 : decode cX5_clause 38 = .ok (.goto 4, 3) := by decide +kernel
theorem dX5_clause_41 : decode cX5_clause 41 = .ok (.iconst 0, 1) := by decide +kernel
theorem dX5_clause_42 : decode cX5_clause 42 = .ok (.istore_n 2, 1) := by decide +kernel
theorem dX5_clause_43 : decode cX5_clause 43 = .ok (.iload_n 2, 1) := by decide +kernel
theorem dX5_clause_44 : decode cX5_clause 44 = .ok (.ifCond .eq 13, 3) := by decide +kernel
theorem dX5_clause_47 : decode cX5_clause 47 = .ok (.aload_n 0, 1) := by decide +kernel
theorem dX5_clause_48 : decode cX5_clause 48 = .ok (.iconst 0, 1) := by decide +kernel
theorem dX5_clause_49 : decode cX5_clause 49 = .ok (.invokevirtual 46, 3) := by decide +kernel
theorem dX5_clause_52 : decode cX5_clause 52 = .ok (.ifCond .ne 5, 3) := by decide +kernel
theorem dX5_clause_55 : decode cX5_clause 55 = .ok (.iconst 0, 1) := by decide +kernel
theorem dX5_clause_56 : decode cX5_clause 56 = .ok (.ireturn, 1) := by decide +kernel
theorem dX5_clause_57 : decode cX5_clause 57 = .ok (.iload_n 2, 1) := by decide +kernel
theorem dX5_clause_58 : decode cX5_clause 58 = .ok (.ifCond .eq 21, 3) := by decide +kernel
theorem dX5_clause_61 : decode cX5_clause 61 = .ok (.aload_n 0, 1) := by decide +kernel
theorem dX5_clause_62 : decode cX5_clause 62 = .ok (.invokevirtual 32, 3) := by decide +kernel
theorem dX5_clause_65 : decode cX5_clause 65 = .ok (.invokestatic 49, 3) := by decide +kernel
theorem dX5_clause_68 : decode cX5_clause 68 = .ok (.ifCond .ne 11, 3) := by decide +kernel
theorem dX5_clause_71 : decode cX5_clause 71 = .ok (.aload_n 0, 1) := by decide +kernel
theorem dX5_clause_72 : decode cX5_clause 72 = .ok (.sipush 20059, 3) := by decide +kernel
theorem dX5_clause_75 : decode cX5_clause 75 = .ok (.invokevirtual 52, 3) := by decide +kernel
theorem dX5_clause_78 : decode cX5_clause 78 = .ok (.ireturn, 1) := by decide +kernel
theorem dX5_clause_79 : decode cX5_clause 79 = .ok (.aload_n 0, 1) := by decide +kernel
theorem dX5_clause_80 : decode cX5_clause 80 = .ok (.iconst 0, 1) := by decide +kernel
theorem dX5_clause_81 : decode cX5_clause 81 = .ok (.iload_n 2, 1) := by decide +kernel
theorem dX5_clause_82 : decode cX5_clause 82 = .ok (.invokevirtual 53, 3) := by decide +kernel
theorem dX5_clause_85 : decode cX5_clause 85 = .ok (.ifCond .eq 12, 3) := by decide +kernel
theorem dX5_clause_88 : decode cX5_clause 88 = .ok (.aload_n 0, 1) := by decide +kernel
theorem dX5_clause_89 : decode cX5_clause 89 = .ok (.bipush 63, 2) := by decide +kernel
theorem dX5_clause_91 : decode cX5_clause 91 = .ok (.invokevirtual 36, 3) := by decide +kernel
theorem dX5_clause_94 : decode cX5_clause 94 = .ok (.ifCond .ne 5, 3) := by decide +kernel
theorem dX5_clause_97 : decode cX5_clause 97 = .ok (.iconst 0, 1) := by decide +kernel
theorem dX5_clause_98 : decode cX5_clause 98 = .ok (.ireturn, 1) := by decide +kernel
theorem dX5_clause_99 : decode cX5_clause 99 = .ok (.aload_n 0, 1) := by decide +kernel
theorem dX5_clause_100 : decode cX5_clause 100 = .ok (.sipush 20063, 3) := by decide +kernel
theorem dX5_clause_103 : decode cX5_clause 103 = .ok (.invokevirtual 52, 3) := by decide +kernel
theorem dX5_clause_106 : decode cX5_clause 106 = .ok (.pop, 1) := by decide +kernel
theorem dX5_clause_107 : decode cX5_clause 107 = .ok (.aload_n 0, 1) := by decide +kernel
theorem dX5_clause_108 : decode cX5_clause 108 = .ok (.getfield 15, 3) := by decide +kernel
theorem dX5_clause_111 : decode cX5_clause 111 = .ok (.ifnonnull 7, 3) := by decide +kernel
theorem dX5_clause_114 : decode cX5_clause 114 = .ok (.iconst (-1), 1) := by decide +kernel
theorem dX5_clause_115 : decode cX5_clause 115 = .ok (.goto 10, 3) := by decide +kernel
theorem dX5_clause_118 : decode cX5_clause 118 = .ok (.aload_n 0, 1) := by decide +kernel
theorem dX5_clause_119 : decode cX5_clause 119 = .ok (.getfield 15, 3) := by decide +kernel
theorem dX5_clause_122 : decode cX5_clause 122 = .ok (.getfield 19, 3) := by decide +kernel
theorem dX5_clause_125 : decode cX5_clause 125 = .ok (.istore_n 3, 1) := by decide +kernel
theorem dX5_clause_126 : decode cX5_clause 126 = .ok (.aload_n 0, 1) := by decide +kernel
theorem dX5_clause_127 : decode cX5_clause 127 = .ok (.iconst 0, 1) := by decide +kernel
theorem dX5_clause_128 : decode cX5_clause 128 = .ok (.invokevirtual 52, 3) := by decide +kernel
theorem dX5_clause_131 : decode cX5_clause 131 = .ok (.pop, 1) := by decide +kernel
theorem dX5_clause_132 : decode cX5_clause 132 = .ok (.aload_n 0, 1) := by decide +kernel
theorem dX5_clause_133 : decode cX5_clause 133 = .ok (.iconst 0, 1) := by decide +kernel
theorem dX5_clause_134 : decode cX5_clause 134 = .ok (.invokevirtual 46, 3) := by decide +kernel
theorem dX5_clause_137 : decode cX5_clause 137 = .ok (.ifCond .ne 5, 3) := by decide +kernel
theorem dX5_clause_140 : decode cX5_clause 140 = .ok (.iconst 0, 1) := by decide +kernel
theorem dX5_clause_141 : decode cX5_clause 141 = .ok (.ireturn, 1) := by decide +kernel
theorem dX5_clause_142 : decode cX5_clause 142 = .ok (.aload_n 0, 1) := by decide +kernel
theorem dX5_clause_143 : decode cX5_clause 143 = .ok (.sipush 20059, 3) := by decide +kernel
theorem dX5_clause_146 : decode cX5_clause 146 = .ok (.invokevirtual 52, 3) := by decide +kernel
theorem dX5_clause_149 : decode cX5_clause 149 = .ok (.pop, 1) := by decide +kernel
theorem dX5_clause_150 : decode cX5_clause 150 = .ok (.aload_n 0, 1) := by decide +kernel
theorem dX5_clause_151 : decode cX5_clause 151 = .ok (.getfield 15, 3) := by decide +kernel
theorem dX5_clause_154 : decode cX5_clause 154 = .ok (.ifnull 18, 3) := by decide +kernel
theorem dX5_clause_157 : decode cX5_clause 157 = .ok (.aload_n 0, 1) := by decide +kernel
theorem dX5_clause_158 : decode cX5_clause 158 = .ok (.getfield 15, 3) := by decide +kernel
theorem dX5_clause_161 : decode cX5_clause 161 = .ok (.iload_n 3, 1) := by decide +kernel
theorem dX5_clause_162 : decode cX5_clause 162 = .ok (.invokevirtual 57, 3) := by decide +kernel
theorem dX5_clause_165 : decode cX5_clause 165 = .ok (.ifCond .eq 7, 3) := by decide +kernel
theorem dX5_clause_168 : decode cX5_clause 168 = .ok (.iconst 1, 1) := by decide +kernel
theorem dX5_clause_169 : decode cX5_clause 169 = .ok (.goto 4, 3) := by decide +kernel
theorem dX5_clause_172 : decode cX5_clause 172 = .ok (.iconst 0, 1) := by decide +kernel
theorem dX5_clause_173 : decode cX5_clause 173 = .ok (.ireturn, 1) := by decide +kernel
theorem dX5_condition_0 : decode cX5_condition 0 = .ok (.iconst 0, 1) := by decide +kernel
theorem dX5_condition_1 : decode cX5_condition 1 = .ok (.istore_n 3, 1) := by decide +kernel
theorem dX5_condition_2 : decode cX5_condition 2 = .ok (.iconst 0, 1) := by decide +kernel
theorem dX5_condition_3 : decode cX5_condition 3 = .ok (.istore 4, 2) := by decide +kernel
theorem dX5_condition_5 : decode cX5_condition 5 = .ok (.iconst 0, 1) := by decide +kernel
theorem dX5_condition_6 : decode cX5_condition 6 = .ok (.istore 5, 2) := by decide +kernel
theorem dX5_condition_8 : decode cX5_condition 8 = .ok (.iload 5, 2) := by decide +kernel
theorem dX5_condition_10 : decode cX5_condition 10 = .ok (.sipush 160, 3) := by decide +kernel
theorem dX5_condition_13 : decode cX5_condition 13 = .ok (.if_icmp .ge 103, 3) := by decide +kernel
theorem dX5_condition_16 : decode cX5_condition 16 = .ok (.aload_n 0, 1) := by decide +kernel
theorem dX5_condition_17 : decode cX5_condition 17 = .ok (.iload_n 1, 1) := by decide +kernel
theorem dX5_condition_18 : decode cX5_condition 18 = .ok (.iload_n 2, 1) := by decide +kernel
theorem dX5_condition_19 : decode cX5_condition 19 = .ok (.ifCond .eq 12, 3) := by decide +kernel
theorem dX5_condition_22 : decode cX5_condition 22 = .ok (.iload 5, 2) := by decide +kernel
theorem dX5_condition_24 : decode cX5_condition 24 = .ok (.ifCond .ne 7, 3) := by decide +kernel
theorem dX5_condition_27 : decode cX5_condition 27 = .ok (.iconst 1, 1) := by decide +kernel
theorem dX5_condition_28 : decode cX5_condition 28 = .ok (.goto 4, 3) := by decide +kernel
theorem dX5_condition_31 : decode cX5_condition 31 = .ok (.iconst 0, 1) := by decide +kernel
theorem dX5_condition_32 : decode cX5_condition 32 = .ok (.invokevirtual 60, 3) := by decide +kernel
theorem dX5_condition_35 : decode cX5_condition 35 = .ok (.ifCond .ne 5, 3) := by decide +kernel
theorem dX5_condition_38 : decode cX5_condition 38 = .ok (.iconst 0, 1) := by decide +kernel
theorem dX5_condition_39 : decode cX5_condition 39 = .ok (.ireturn, 1) := by decide +kernel
theorem dX5_condition_40 : decode cX5_condition 40 = .ok (.iload_n 3, 1) := by decide +kernel
theorem dX5_condition_41 : decode cX5_condition 41 = .ok (.ifCond .eq 11, 3) := by decide +kernel
theorem dX5_condition_44 : decode cX5_condition 44 = .ok (.aload_n 0, 1) := by decide +kernel
theorem dX5_condition_45 : decode cX5_condition 45 = .ok (.sipush 20038, 3) := by decide +kernel
theorem dX5_condition_48 : decode cX5_condition 48 = .ok (.invokevirtual 52, 3) := by decide +kernel
theorem dX5_condition_51 : decode cX5_condition 51 = .ok (.pop, 1) := by decide +kernel
theorem dX5_condition_52 : decode cX5_condition 52 = .ok (.aload_n 0, 1) := by decide +kernel
theorem dX5_condition_53 : decode cX5_condition 53 = .ok (.invokevirtual 32, 3) := by decide +kernel
theorem dX5_condition_56 : decode cX5_condition 56 = .ok (.istore 6, 2) := by decide +kernel
theorem dX5_condition_58 : decode cX5_condition 58 = .ok (.iload 6, 2) := by decide +kernel
theorem dX5_condition_60 : decode cX5_condition 60 = .ok (.bipush 38, 2) := by decide +kernel
theorem dX5_condition_62 : decode cX5_condition 62 = .ok (.if_icmp .ne 7, 3) := by decide +kernel
theorem dX5_condition_65 : decode cX5_condition 65 = .ok (.iconst 1, 1) := by decide +kernel
theorem dX5_condition_66 : decode cX5_condition 66 = .ok (.goto 4, 3) := by decide +kernel
theorem dX5_condition_69 : decode cX5_condition 69 = .ok (.iconst 0, 1) := by decide +kernel
theorem dX5_condition_70 : decode cX5_condition 70 = .ok (.istore_n 3, 1) := by decide +kernel
theorem dX5_condition_71 : decode cX5_condition 71 = .ok (.iload_n 3, 1) := by decide +kernel
theorem dX5_condition_72 : decode cX5_condition 72 = .ok (.ifCond .ne 28, 3) := by decide +kernel
theorem dX5_condition_75 : decode cX5_condition 75 = .ok (.iload 4, 2) := by decide +kernel
theorem dX5_condition_77 : decode cX5_condition 77 = .ok (.ifCond .eq 11, 3) := by decide +kernel
theorem dX5_condition_80 : decode cX5_condition 80 = .ok (.aload_n 0, 1) := by decide +kernel
theorem dX5_condition_81 : decode cX5_condition 81 = .ok (.sipush 20124, 3) := by decide +kernel
theorem dX5_condition_84 : decode cX5_condition 84 = .ok (.invokevirtual 52, 3) := by decide +kernel
theorem dX5_condition_87 : decode cX5_condition 87 = .ok (.pop, 1) := by decide +kernel
theorem dX5_condition_88 : decode cX5_condition 88 = .ok (.iload 6, 2) := by decide +kernel
theorem dX5_condition_90 : decode cX5_condition 90 = .ok (.bipush 124, 2) := by decide +kernel
theorem dX5_condition_92 : decode cX5_condition 92 = .ok (.if_icmp .eq 5, 3) := by decide +kernel
theorem dX5_condition_95 : decode cX5_condition 95 = .ok (.iconst 1, 1) := by decide +kernel
theorem dX5_condition_96 : decode cX5_condition 96 = .ok (.ireturn, 1) := by decide +kernel
theorem dX5_condition_97 : decode cX5_condition 97 = .ok (.iconst 1, 1) := by decide +kernel
theorem dX5_condition_98 : decode cX5_condition 98 = .ok (.istore 4, 2) := by decide +kernel
theorem dX5_condition_100 : decode cX5_condition 100 = .ok (.aload_n 0, 1) := by decide +kernel
theorem dX5_condition_101 : decode cX5_condition 101 = .ok (.dup, 1) := by decide +kernel
theorem dX5_condition_102 : decode cX5_condition 102 = .ok (.getfield 40, 3) := by decide +kernel
theorem dX5_condition_105 : decode cX5_condition 105 = .ok (.iconst 1, 1) := by decide +kernel
theorem dX5_condition_106 : decode cX5_condition 106 = .ok (.iadd, 1) := by decide +kernel
theorem dX5_condition_107 : decode cX5_condition 107 = .ok (.putfield 40, 3) := by decide +kernel
theorem dX5_condition_110 : decode cX5_condition 110 = .ok (.iinc 5 1, 3) := by decide +kernel
theorem dX5_condition_113 : decode cX5_condition 113 = .ok (.goto (-105), 3) := by decide +kernel
theorem dX5_condition_116 : decode cX5_condition 116 = .ok (.aload_n 0, 1) := by decide +kernel
theorem dX5_condition_117 : decode cX5_condition 117 = .ok (.invokevirtual 63, 3) := by decide +kernel
theorem dX5_condition_120 : decode cX5_condition 120 = .ok (.ireturn, 1) := by decide +kernel
theorem dX5_unit_0 : decode cX5_unit 0 = .ok (.aload_n 0, 1) := by decide +kernel
theorem dX5_unit_1 : decode cX5_unit 1 = .ok (.invokevirtual 32, 3) := by decide +kernel
theorem dX5_unit_4 : decode cX5_unit 4 = .ok (.istore_n 3, 1) := by decide +kernel
theorem dX5_unit_5 : decode cX5_unit 5 = .ok (.iload_n 2, 1) := by decide +kernel
theorem dX5_unit_6 : decode cX5_unit 6 = .ok (.ifCond .ne 95, 3) := by decide +kernel
theorem dX5_unit_9 : decode cX5_unit 9 = .ok (.iload_n 3, 1) := by decide +kernel
theorem dX5_unit_10 : decode cX5_unit 10 = .ok (.bipush 33, 2) := by decide +kernel
theorem dX5_unit_12 : decode cX5_unit 12 = .ok (.if_icmp .eq 9, 3) := by decide +kernel
theorem dX5_unit_15 : decode cX5_unit 15 = .ok (.iload_n 3, 1) := by decide +kernel
theorem dX5_unit_16 : decode cX5_unit 16 = .ok (.bipush 40, 2) := by decide +kernel
theorem dX5_unit_18 : decode cX5_unit 18 = .ok (.if_icmp .ne 83, 3) := by decide +kernel
theorem dX5_unit_21 : decode cX5_unit 21 = .ok (.iload_n 1, 1) := by decide +kernel
theorem dX5_unit_22 : decode cX5_unit 22 = .ok (.bipush 6, 2) := by decide +kernel
theorem dX5_unit_24 : decode cX5_unit 24 = .ok (.if_icmp .lt 8, 3) := by decide +kernel
theorem dX5_unit_27 : decode cX5_unit 27 = .ok (.aload_n 0, 1) := by decide +kernel
theorem dX5_unit_28 : decode cX5_unit 28 = .ok (.invokevirtual 63, 3) := by decide +kernel
theorem dX5_unit_31 : decode cX5_unit 31 = .ok (.ireturn, 1) := by decide +kernel
theorem dX5_unit_32 : decode cX5_unit 32 = .ok (.aload_n 0, 1) := by decide +kernel
theorem dX5_unit_33 : decode cX5_unit 33 = .ok (.dup, 1) := by decide +kernel
theorem dX5_unit_34 : decode cX5_unit 34 = .ok (.getfield 40, 3) := by decide +kernel
theorem dX5_unit_37 : decode cX5_unit 37 = .ok (.iconst 1, 1) := by decide +kernel
theorem dX5_unit_38 : decode cX5_unit 38 = .ok (.iadd, 1) := by decide +kernel
theorem dX5_unit_39 : decode cX5_unit 39 = .ok (.putfield 40, 3) := by decide +kernel
theorem dX5_unit_42 : decode cX5_unit 42 = .ok (.iload_n 3, 1) := by decide +kernel
theorem dX5_unit_43 : decode cX5_unit 43 = .ok (.bipush 40, 2) := by decide +kernel
theorem dX5_unit_45 : decode cX5_unit 45 = .ok (.if_icmp .ne 29, 3) := by decide +kernel
theorem dX5_unit_48 : decode cX5_unit 48 = .ok (.aload_n 0, 1) := by decide +kernel
theorem dX5_unit_49 : decode cX5_unit 49 = .ok (.iload_n 1, 1) := by decide +kernel
theorem dX5_unit_50 : decode cX5_unit 50 = .ok (.iconst 1, 1) := by decide +kernel
theorem dX5_unit_51 : decode cX5_unit 51 = .ok (.iadd, 1) := by decide +kernel
theorem dX5_unit_52 : decode cX5_unit 52 = .ok (.iconst 0, 1) := by decide +kernel
theorem dX5_unit_53 : decode cX5_unit 53 = .ok (.invokevirtual 53, 3) := by decide +kernel
theorem dX5_unit_56 : decode cX5_unit 56 = .ok (.ifCond .eq 16, 3) := by decide +kernel
theorem dX5_unit_59 : decode cX5_unit 59 = .ok (.aload_n 0, 1) := by decide +kernel
theorem dX5_unit_60 : decode cX5_unit 60 = .ok (.bipush 41, 2) := by decide +kernel
theorem dX5_unit_62 : decode cX5_unit 62 = .ok (.invokevirtual 36, 3) := by decide +kernel
theorem dX5_unit_65 : decode cX5_unit 65 = .ok (.ifCond .eq 7, 3) := by decide +kernel
theorem dX5_unit_68 : decode cX5_unit 68 = .ok (.iconst 1, 1) := by decide +kernel
theorem dX5_unit_69 : decode cX5_unit 69 = .ok (.goto 4, 3) := by decide +kernel
theorem dX5_unit_72 : decode cX5_unit 72 = .ok (.iconst 0, 1) := by decide +kernel
theorem dX5_unit_73 : decode cX5_unit 73 = .ok (.ireturn, 1) := by decide +kernel
theorem dX5_unit_74 : decode cX5_unit 74 = .ok (.aload_n 0, 1) := by decide +kernel
theorem dX5_unit_75 : decode cX5_unit 75 = .ok (.iload_n 1, 1) := by decide +kernel
theorem dX5_unit_76 : decode cX5_unit 76 = .ok (.iconst 1, 1) := by decide +kernel
theorem dX5_unit_77 : decode cX5_unit 77 = .ok (.iadd, 1) := by decide +kernel
theorem dX5_unit_78 : decode cX5_unit 78 = .ok (.iconst 0, 1) := by decide +kernel
theorem dX5_unit_79 : decode cX5_unit 79 = .ok (.invokevirtual 60, 3) := by decide +kernel
theorem dX5_unit_82 : decode cX5_unit 82 = .ok (.ifCond .eq 17, 3) := by decide +kernel
theorem dX5_unit_85 : decode cX5_unit 85 = .ok (.aload_n 0, 1) := by decide +kernel
theorem dX5_unit_86 : decode cX5_unit 86 = .ok (.sipush 20033, 3) := by decide +kernel
theorem dX5_unit_89 : decode cX5_unit 89 = .ok (.invokevirtual 52, 3) := by decide +kernel
theorem dX5_unit_92 : decode cX5_unit 92 = .ok (.ifCond .eq 7, 3) := by decide +kernel
theorem dX5_unit_95 : decode cX5_unit 95 = .ok (.iconst 1, 1) := by decide +kernel
theorem dX5_unit_96 : decode cX5_unit 96 = .ok (.goto 4, 3) := by decide +kernel
theorem dX5_unit_99 : decode cX5_unit 99 = .ok (.iconst 0, 1) := by decide +kernel
theorem dX5_unit_100 : decode cX5_unit 100 = .ok (.ireturn, 1) := by decide +kernel
theorem dX5_unit_101 : decode cX5_unit 101 = .ok (.iload_n 2, 1) := by decide +kernel
theorem dX5_unit_102 : decode cX5_unit 102 = .ok (.ifCond .ne 13, 3) := by decide +kernel
theorem dX5_unit_105 : decode cX5_unit 105 = .ok (.aload_n 0, 1) := by decide +kernel
theorem dX5_unit_106 : decode cX5_unit 106 = .ok (.iload_n 1, 1) := by decide +kernel
theorem dX5_unit_107 : decode cX5_unit 107 = .ok (.invokevirtual 46, 3) := by decide +kernel
theorem dX5_unit_110 : decode cX5_unit 110 = .ok (.ifCond .ne 5, 3) := by decide +kernel
theorem dX5_unit_113 : decode cX5_unit 113 = .ok (.iconst 0, 1) := by decide +kernel
theorem dX5_unit_114 : decode cX5_unit 114 = .ok (.ireturn, 1) := by decide +kernel
theorem dX5_unit_115 : decode cX5_unit 115 = .ok (.aload_n 0, 1) := by decide +kernel
theorem dX5_unit_116 : decode cX5_unit 116 = .ok (.invokevirtual 32, 3) := by decide +kernel
theorem dX5_unit_119 : decode cX5_unit 119 = .ok (.istore 4, 2) := by decide +kernel
theorem dX5_unit_121 : decode cX5_unit 121 = .ok (.iload 4, 2) := by decide +kernel
theorem dX5_unit_123 : decode cX5_unit 123 = .ok (.invokestatic 49, 3) := by decide +kernel
theorem dX5_unit_126 : decode cX5_unit 126 = .ok (.ifCond .ne 8, 3) := by decide +kernel
theorem dX5_unit_129 : decode cX5_unit 129 = .ok (.aload_n 0, 1) := by decide +kernel
theorem dX5_unit_130 : decode cX5_unit 130 = .ok (.invokevirtual 63, 3) := by decide +kernel
theorem dX5_unit_133 : decode cX5_unit 133 = .ok (.ireturn, 1) := by decide +kernel
theorem dX5_unit_134 : decode cX5_unit 134 = .ok (.aload_n 0, 1) := by decide +kernel
theorem dX5_unit_135 : decode cX5_unit 135 = .ok (.dup, 1) := by decide +kernel
theorem dX5_unit_136 : decode cX5_unit 136 = .ok (.getfield 40, 3) := by decide +kernel
theorem dX5_unit_139 : decode cX5_unit 139 = .ok (.iconst 1, 1) := by decide +kernel
theorem dX5_unit_140 : decode cX5_unit 140 = .ok (.iadd, 1) := by decide +kernel
theorem dX5_unit_141 : decode cX5_unit 141 = .ok (.putfield 40, 3) := by decide +kernel
theorem dX5_unit_144 : decode cX5_unit 144 = .ok (.aload_n 0, 1) := by decide +kernel
theorem dX5_unit_145 : decode cX5_unit 145 = .ok (.iload_n 1, 1) := by decide +kernel
theorem dX5_unit_146 : decode cX5_unit 146 = .ok (.invokevirtual 46, 3) := by decide +kernel
theorem dX5_unit_149 : decode cX5_unit 149 = .ok (.ifCond .eq 20, 3) := by decide +kernel
theorem dX5_unit_152 : decode cX5_unit 152 = .ok (.aload_n 0, 1) := by decide +kernel
theorem dX5_unit_153 : decode cX5_unit 153 = .ok (.sipush 20000, 3) := by decide +kernel
theorem dX5_unit_156 : decode cX5_unit 156 = .ok (.iload 4, 2) := by decide +kernel
theorem dX5_unit_158 : decode cX5_unit 158 = .ok (.iadd, 1) := by decide +kernel
theorem dX5_unit_159 : decode cX5_unit 159 = .ok (.invokevirtual 52, 3) := by decide +kernel
theorem dX5_unit_162 : decode cX5_unit 162 = .ok (.ifCond .eq 7, 3) := by decide +kernel
theorem dX5_unit_165 : decode cX5_unit 165 = .ok (.iconst 1, 1) := by decide +kernel
theorem dX5_unit_166 : decode cX5_unit 166 = .ok (.goto 4, 3) := by decide +kernel
theorem dX5_unit_169 : decode cX5_unit 169 = .ok (.iconst 0, 1) := by decide +kernel
theorem dX5_unit_170 : decode cX5_unit 170 = .ok (.ireturn, 1) := by decide +kernel
theorem dX5_isComparison_0 : decode cX5_isComparison 0 = .ok (.iload_n 0, 1) := by decide +kernel
theorem dX5_isComparison_1 : decode cX5_isComparison 1 = .ok (.bipush 61, 2) := by decide +kernel
theorem dX5_isComparison_3 : decode cX5_isComparison 3 = .ok (.if_icmp .eq 15, 3) := by decide +kernel
theorem dX5_isComparison_6 : decode cX5_isComparison 6 = .ok (.iload_n 0, 1) := by decide +kernel
theorem dX5_isComparison_7 : decode cX5_isComparison 7 = .ok (.bipush 60, 2) := by decide +kernel
theorem dX5_isComparison_9 : decode cX5_isComparison 9 = .ok (.if_icmp .eq 9, 3) := by decide +kernel
theorem dX5_isComparison_12 : decode cX5_isComparison 12 = .ok (.iload_n 0, 1) := by decide +kernel
theorem dX5_isComparison_13 : decode cX5_isComparison 13 = .ok (.bipush 62, 2) := by decide +kernel
theorem dX5_isComparison_15 : decode cX5_isComparison 15 = .ok (.if_icmp .ne 7, 3) := by decide +kernel
theorem dX5_isComparison_18 : decode cX5_isComparison 18 = .ok (.iconst 1, 1) := by decide +kernel
theorem dX5_isComparison_19 : decode cX5_isComparison 19 = .ok (.goto 4, 3) := by decide +kernel
theorem dX5_isComparison_22 : decode cX5_isComparison 22 = .ok (.iconst 0, 1) := by decide +kernel
theorem dX5_isComparison_23 : decode cX5_isComparison 23 = .ok (.ireturn, 1) := by decide +kernel
theorem dX5_sum_0 : decode cX5_sum 0 = .ok (.iconst (-1), 1) := by decide +kernel
theorem dX5_sum_1 : decode cX5_sum 1 = .ok (.istore_n 2, 1) := by decide +kernel
theorem dX5_sum_2 : decode cX5_sum 2 = .ok (.iconst (-1), 1) := by decide +kernel
theorem dX5_sum_3 : decode cX5_sum 3 = .ok (.istore_n 3, 1) := by decide +kernel
theorem dX5_sum_4 : decode cX5_sum 4 = .ok (.iconst 0, 1) := by decide +kernel
theorem dX5_sum_5 : decode cX5_sum 5 = .ok (.istore 4, 2) := by decide +kernel
theorem dX5_sum_7 : decode cX5_sum 7 = .ok (.iload 4, 2) := by decide +kernel
theorem dX5_sum_9 : decode cX5_sum 9 = .ok (.sipush 160, 3) := by decide +kernel
theorem dX5_sum_12 : decode cX5_sum 12 = .ok (.if_icmp .ge 110, 3) := by decide +kernel
theorem dX5_sum_15 : decode cX5_sum 15 = .ok (.aload_n 0, 1) := by decide +kernel
theorem dX5_sum_16 : decode cX5_sum 16 = .ok (.iload_n 1, 1) := by decide +kernel
theorem dX5_sum_17 : decode cX5_sum 17 = .ok (.invokevirtual 66, 3) := by decide +kernel
theorem dX5_sum_20 : decode cX5_sum 20 = .ok (.ifCond .ne 5, 3) := by decide +kernel
theorem dX5_sum_23 : decode cX5_sum 23 = .ok (.iconst 0, 1) := by decide +kernel
theorem dX5_sum_24 : decode cX5_sum 24 = .ok (.ireturn, 1) := by decide +kernel
theorem dX5_sum_25 : decode cX5_sum 25 = .ok (.iload_n 2, 1) := by decide +kernel
theorem dX5_sum_26 : decode cX5_sum 26 = .ok (.iconst (-1), 1) := by decide +kernel
theorem dX5_sum_27 : decode cX5_sum 27 = .ok (.if_icmp .eq 13, 3) := by decide +kernel
theorem dX5_sum_30 : decode cX5_sum 30 = .ok (.aload_n 0, 1) := by decide +kernel
theorem dX5_sum_31 : decode cX5_sum 31 = .ok (.sipush 20000, 3) := by decide +kernel
theorem dX5_sum_34 : decode cX5_sum 34 = .ok (.iload_n 2, 1) := by decide +kernel
theorem dX5_sum_35 : decode cX5_sum 35 = .ok (.iadd, 1) := by decide +kernel
theorem dX5_sum_36 : decode cX5_sum 36 = .ok (.invokevirtual 52, 3) := by decide +kernel
theorem dX5_sum_39 : decode cX5_sum 39 = .ok (.pop, 1) := by decide +kernel
theorem dX5_sum_40 : decode cX5_sum 40 = .ok (.aload_n 0, 1) := by decide +kernel
theorem dX5_sum_41 : decode cX5_sum 41 = .ok (.invokevirtual 32, 3) := by decide +kernel
theorem dX5_sum_44 : decode cX5_sum 44 = .ok (.istore 5, 2) := by decide +kernel
theorem dX5_sum_46 : decode cX5_sum 46 = .ok (.iload 5, 2) := by decide +kernel
theorem dX5_sum_48 : decode cX5_sum 48 = .ok (.bipush 42, 2) := by decide +kernel
theorem dX5_sum_50 : decode cX5_sum 50 = .ok (.if_icmp .eq 10, 3) := by decide +kernel
theorem dX5_sum_53 : decode cX5_sum 53 = .ok (.iload 5, 2) := by decide +kernel
theorem dX5_sum_55 : decode cX5_sum 55 = .ok (.bipush 47, 2) := by decide +kernel
theorem dX5_sum_57 : decode cX5_sum 57 = .ok (.if_icmp .ne 8, 3) := by decide +kernel
theorem dX5_sum_60 : decode cX5_sum 60 = .ok (.iload 5, 2) := by decide +kernel
theorem dX5_sum_62 : decode cX5_sum 62 = .ok (.goto 4, 3) := by decide +kernel
theorem dX5_sum_65 : decode cX5_sum 65 = .ok (.iconst (-1), 1) := by decide +kernel
theorem dX5_sum_66 : decode cX5_sum 66 = .ok (.istore_n 2, 1) := by decide +kernel
theorem dX5_sum_67 : decode cX5_sum 67 = .ok (.iload_n 2, 1) := by decide +kernel
theorem dX5_sum_68 : decode cX5_sum 68 = .ok (.iconst (-1), 1) := by decide +kernel
theorem dX5_sum_69 : decode cX5_sum 69 = .ok (.if_icmp .ne 37, 3) := by decide +kernel
theorem dX5_sum_72 : decode cX5_sum 72 = .ok (.iload_n 3, 1) := by decide +kernel
theorem dX5_sum_73 : decode cX5_sum 73 = .ok (.iconst (-1), 1) := by decide +kernel
theorem dX5_sum_74 : decode cX5_sum 74 = .ok (.if_icmp .eq 13, 3) := by decide +kernel
theorem dX5_sum_77 : decode cX5_sum 77 = .ok (.aload_n 0, 1) := by decide +kernel
theorem dX5_sum_78 : decode cX5_sum 78 = .ok (.sipush 20000, 3) := by decide +kernel
theorem dX5_sum_81 : decode cX5_sum 81 = .ok (.iload_n 3, 1) := by decide +kernel
theorem dX5_sum_82 : decode cX5_sum 82 = .ok (.iadd, 1) := by decide +kernel
theorem dX5_sum_83 : decode cX5_sum 83 = .ok (.invokevirtual 52, 3) := by decide +kernel
theorem dX5_sum_86 : decode cX5_sum 86 = .ok (.pop, 1) := by decide +kernel
theorem dX5_sum_87 : decode cX5_sum 87 = .ok (.iload 5, 2) := by decide +kernel
theorem dX5_sum_89 : decode cX5_sum 89 = .ok (.bipush 43, 2) := by decide +kernel
theorem dX5_sum_91 : decode cX5_sum 91 = .ok (.if_icmp .eq 12, 3) := by decide +kernel
theorem dX5_sum_94 : decode cX5_sum 94 = .ok (.iload 5, 2) := by decide +kernel
theorem dX5_sum_96 : decode cX5_sum 96 = .ok (.bipush 45, 2) := by decide +kernel
theorem dX5_sum_98 : decode cX5_sum 98 = .ok (.if_icmp .eq 5, 3) := by decide +kernel
theorem dX5_sum_101 : decode cX5_sum 101 = .ok (.iconst 1, 1) := by decide +kernel
theorem dX5_sum_102 : decode cX5_sum 102 = .ok (.ireturn, 1) := by decide +kernel
theorem dX5_sum_103 : decode cX5_sum 103 = .ok (.iload 5, 2) := by decide +kernel
theorem dX5_sum_105 : decode cX5_sum 105 = .ok (.istore_n 3, 1) := by decide +kernel
theorem dX5_sum_106 : decode cX5_sum 106 = .ok (.aload_n 0, 1) := by decide +kernel
theorem dX5_sum_107 : decode cX5_sum 107 = .ok (.dup, 1) := by decide +kernel
theorem dX5_sum_108 : decode cX5_sum 108 = .ok (.getfield 40, 3) := by decide +kernel
theorem dX5_sum_111 : decode cX5_sum 111 = .ok (.iconst 1, 1) := by decide +kernel
theorem dX5_sum_112 : decode cX5_sum 112 = .ok (.iadd, 1) := by decide +kernel
theorem dX5_sum_113 : decode cX5_sum 113 = .ok (.putfield 40, 3) := by decide +kernel
theorem dX5_sum_116 : decode cX5_sum 116 = .ok (.iinc 4 1, 3) := by decide +kernel
theorem dX5_sum_119 : decode cX5_sum 119 = .ok (.goto (-112), 3) := by decide +kernel
theorem dX5_sum_122 : decode cX5_sum 122 = .ok (.aload_n 0, 1) := by decide +kernel
theorem dX5_sum_123 : decode cX5_sum 123 = .ok (.invokevirtual 63, 3) := by decide +kernel
theorem dX5_sum_126 : decode cX5_sum 126 = .ok (.ireturn, 1) := by decide +kernel
theorem dX5_atom_0 : decode cX5_atom 0 = .ok (.aload_n 0, 1) := by decide +kernel
theorem dX5_atom_1 : decode cX5_atom 1 = .ok (.invokevirtual 32, 3) := by decide +kernel
theorem dX5_atom_4 : decode cX5_atom 4 = .ok (.istore_n 2, 1) := by decide +kernel
theorem dX5_atom_5 : decode cX5_atom 5 = .ok (.iload_n 2, 1) := by decide +kernel
theorem dX5_atom_6 : decode cX5_atom 6 = .ok (.bipush 48, 2) := by decide +kernel
theorem dX5_atom_8 : decode cX5_atom 8 = .ok (.if_icmp .lt 34, 3) := by decide +kernel
theorem dX5_atom_11 : decode cX5_atom 11 = .ok (.iload_n 2, 1) := by decide +kernel
theorem dX5_atom_12 : decode cX5_atom 12 = .ok (.bipush 57, 2) := by decide +kernel
theorem dX5_atom_14 : decode cX5_atom 14 = .ok (.if_icmp .gt 28, 3) := by decide +kernel
theorem dX5_atom_17 : decode cX5_atom 17 = .ok (.aload_n 0, 1) := by decide +kernel
theorem dX5_atom_18 : decode cX5_atom 18 = .ok (.iconst 4, 1) := by decide +kernel
theorem dX5_atom_19 : decode cX5_atom 19 = .ok (.invokevirtual 69, 3) := by decide +kernel
theorem dX5_atom_22 : decode cX5_atom 22 = .ok (.istore_n 3, 1) := by decide +kernel
theorem dX5_atom_23 : decode cX5_atom 23 = .ok (.iload_n 3, 1) := by decide +kernel
theorem dX5_atom_24 : decode cX5_atom 24 = .ok (.iconst (-1), 1) := by decide +kernel
theorem dX5_atom_25 : decode cX5_atom 25 = .ok (.if_icmp .eq 15, 3) := by decide +kernel
theorem dX5_atom_28 : decode cX5_atom 28 = .ok (.aload_n 0, 1) := by decide +kernel
theorem dX5_atom_29 : decode cX5_atom 29 = .ok (.iload_n 3, 1) := by decide +kernel
theorem dX5_atom_30 : decode cX5_atom 30 = .ok (.invokevirtual 52, 3) := by decide +kernel
theorem dX5_atom_33 : decode cX5_atom 33 = .ok (.ifCond .eq 7, 3) := by decide +kernel
theorem dX5_atom_36 : decode cX5_atom 36 = .ok (.iconst 1, 1) := by decide +kernel
theorem dX5_atom_37 : decode cX5_atom 37 = .ok (.goto 4, 3) := by decide +kernel
theorem dX5_atom_40 : decode cX5_atom 40 = .ok (.iconst 0, 1) := by decide +kernel
theorem dX5_atom_41 : decode cX5_atom 41 = .ok (.ireturn, 1) := by decide +kernel
theorem dX5_atom_42 : decode cX5_atom 42 = .ok (.iload_n 2, 1) := by decide +kernel
theorem dX5_atom_43 : decode cX5_atom 43 = .ok (.bipush 91, 2) := by decide +kernel
theorem dX5_atom_45 : decode cX5_atom 45 = .ok (.if_icmp .ne 49, 3) := by decide +kernel
theorem dX5_atom_48 : decode cX5_atom 48 = .ok (.iload_n 1, 1) := by decide +kernel
theorem dX5_atom_49 : decode cX5_atom 49 = .ok (.bipush 6, 2) := by decide +kernel
theorem dX5_atom_51 : decode cX5_atom 51 = .ok (.if_icmp .lt 8, 3) := by decide +kernel
theorem dX5_atom_54 : decode cX5_atom 54 = .ok (.aload_n 0, 1) := by decide +kernel
theorem dX5_atom_55 : decode cX5_atom 55 = .ok (.invokevirtual 63, 3) := by decide +kernel
theorem dX5_atom_58 : decode cX5_atom 58 = .ok (.ireturn, 1) := by decide +kernel
theorem dX5_atom_59 : decode cX5_atom 59 = .ok (.aload_n 0, 1) := by decide +kernel
theorem dX5_atom_60 : decode cX5_atom 60 = .ok (.dup, 1) := by decide +kernel
theorem dX5_atom_61 : decode cX5_atom 61 = .ok (.getfield 40, 3) := by decide +kernel
theorem dX5_atom_64 : decode cX5_atom 64 = .ok (.iconst 1, 1) := by decide +kernel
theorem dX5_atom_65 : decode cX5_atom 65 = .ok (.iadd, 1) := by decide +kernel
theorem dX5_atom_66 : decode cX5_atom 66 = .ok (.putfield 40, 3) := by decide +kernel
theorem dX5_atom_69 : decode cX5_atom 69 = .ok (.aload_n 0, 1) := by decide +kernel
theorem dX5_atom_70 : decode cX5_atom 70 = .ok (.iload_n 1, 1) := by decide +kernel
theorem dX5_atom_71 : decode cX5_atom 71 = .ok (.iconst 1, 1) := by decide +kernel
theorem dX5_atom_72 : decode cX5_atom 72 = .ok (.iadd, 1) := by decide +kernel
theorem dX5_atom_73 : decode cX5_atom 73 = .ok (.invokevirtual 46, 3) := by decide +kernel
theorem dX5_atom_76 : decode cX5_atom 76 = .ok (.ifCond .eq 16, 3) := by decide +kernel
theorem dX5_atom_79 : decode cX5_atom 79 = .ok (.aload_n 0, 1) := by decide +kernel
theorem dX5_atom_80 : decode cX5_atom 80 = .ok (.bipush 93, 2) := by decide +kernel
theorem dX5_atom_82 : decode cX5_atom 82 = .ok (.invokevirtual 36, 3) := by decide +kernel
theorem dX5_atom_85 : decode cX5_atom 85 = .ok (.ifCond .eq 7, 3) := by decide +kernel
theorem dX5_atom_88 : decode cX5_atom 88 = .ok (.iconst 1, 1) := by decide +kernel
theorem dX5_atom_89 : decode cX5_atom 89 = .ok (.goto 4, 3) := by decide +kernel
theorem dX5_atom_92 : decode cX5_atom 92 = .ok (.iconst 0, 1) := by decide +kernel
theorem dX5_atom_93 : decode cX5_atom 93 = .ok (.ireturn, 1) := by decide +kernel
theorem dX5_atom_94 : decode cX5_atom 94 = .ok (.iconst 0, 1) := by decide +kernel
theorem dX5_atom_95 : decode cX5_atom 95 = .ok (.istore_n 3, 1) := by decide +kernel
theorem dX5_atom_96 : decode cX5_atom 96 = .ok (.iload_n 3, 1) := by decide +kernel
theorem dX5_atom_97 : decode cX5_atom 97 = .ok (.ldc 73, 2) := by decide +kernel
theorem dX5_atom_99 : decode cX5_atom 99 = .ok (.invokevirtual 75, 3) := by decide +kernel
theorem dX5_atom_102 : decode cX5_atom 102 = .ok (.if_icmp .ge 39, 3) := by decide +kernel
theorem dX5_atom_105 : decode cX5_atom 105 = .ok (.ldc 73, 2) := by decide +kernel
theorem dX5_atom_107 : decode cX5_atom 107 = .ok (.iload_n 3, 1) := by decide +kernel
theorem dX5_atom_108 : decode cX5_atom 108 = .ok (.invokevirtual 79, 3) := by decide +kernel
theorem dX5_atom_111 : decode cX5_atom 111 = .ok (.iload_n 2, 1) := by decide +kernel
theorem dX5_atom_112 : decode cX5_atom 112 = .ok (.if_icmp .ne 23, 3) := by decide +kernel
theorem dX5_atom_115 : decode cX5_atom 115 = .ok (.aload_n 0, 1) := by decide +kernel
theorem dX5_atom_116 : decode cX5_atom 116 = .ok (.dup, 1) := by decide +kernel
theorem dX5_atom_117 : decode cX5_atom 117 = .ok (.getfield 40, 3) := by decide +kernel
theorem dX5_atom_120 : decode cX5_atom 120 = .ok (.iconst 1, 1) := by decide +kernel
theorem dX5_atom_121 : decode cX5_atom 121 = .ok (.iadd, 1) := by decide +kernel
theorem dX5_atom_122 : decode cX5_atom 122 = .ok (.putfield 40, 3) := by decide +kernel
theorem dX5_atom_125 : decode cX5_atom 125 = .ok (.aload_n 0, 1) := by decide +kernel
theorem dX5_atom_126 : decode cX5_atom 126 = .ok (.sipush 10000, 3) := by decide +kernel
theorem dX5_atom_129 : decode cX5_atom 129 = .ok (.iload_n 3, 1) := by decide +kernel
theorem dX5_atom_130 : decode cX5_atom 130 = .ok (.iadd, 1) := by decide +kernel
theorem dX5_atom_131 : decode cX5_atom 131 = .ok (.invokevirtual 52, 3) := by decide +kernel
theorem dX5_atom_134 : decode cX5_atom 134 = .ok (.ireturn, 1) := by decide +kernel
theorem dX5_atom_135 : decode cX5_atom 135 = .ok (.iinc 3 1, 3) := by decide +kernel
theorem dX5_atom_138 : decode cX5_atom 138 = .ok (.goto (-42), 3) := by decide +kernel
theorem dX5_atom_141 : decode cX5_atom 141 = .ok (.aload_n 0, 1) := by decide +kernel
theorem dX5_atom_142 : decode cX5_atom 142 = .ok (.invokevirtual 63, 3) := by decide +kernel
theorem dX5_atom_145 : decode cX5_atom 145 = .ok (.ireturn, 1) := by decide +kernel
theorem dX6_init_0 : decode cX6_init 0 = .ok (.aload_n 0, 1) := by decide +kernel
theorem dX6_init_1 : decode cX6_init 1 = .ok (.invokespecial 3, 3) := by decide +kernel
theorem dX6_init_4 : decode cX6_init 4 = .ok (.aload_n 0, 1) := by decide +kernel
theorem dX6_init_5 : decode cX6_init 5 = .ok (.bipush 6, 2) := by decide +kernel
theorem dX6_init_7 : decode cX6_init 7 = .ok (.newarray .int, 2) := by decide +kernel
theorem dX6_init_9 : decode cX6_init 9 = .ok (.putfield 9, 3) := by decide +kernel
theorem dX6_init_12 : decode cX6_init 12 = .ok (.aload_n 0, 1) := by decide +kernel
theorem dX6_init_13 : decode cX6_init 13 = .ok (.bipush 6, 2) := by decide +kernel
theorem dX6_init_15 : decode cX6_init 15 = .ok (.newarray .int, 2) := by decide +kernel
theorem dX6_init_17 : decode cX6_init 17 = .ok (.putfield 15, 3) := by decide +kernel
theorem dX6_init_20 : decode cX6_init 20 = .ok (.aload_n 0, 1) := by decide +kernel
theorem dX6_init_21 : decode cX6_init 21 = .ok (.bipush 6, 2) := by decide +kernel
theorem dX6_init_23 : decode cX6_init 23 = .ok (.newarray .int, 2) := by decide +kernel
theorem dX6_init_25 : decode cX6_init 25 = .ok (.putfield 18, 3) := by decide +kernel
theorem dX6_init_28 : decode cX6_init 28 = .ok (.aload_n 0, 1) := by decide +kernel
theorem dX6_init_29 : decode cX6_init 29 = .ok (.bipush 6, 2) := by decide +kernel
theorem dX6_init_31 : decode cX6_init 31 = .ok (.newarray .int, 2) := by decide +kernel
theorem dX6_init_33 : decode cX6_init 33 = .ok (.putfield 21, 3) := by decide +kernel
theorem dX6_init_36 : decode cX6_init 36 = .ok (.aload_n 0, 1) := by decide +kernel
theorem dX6_init_37 : decode cX6_init 37 = .ok (.bipush 6, 2) := by decide +kernel
theorem dX6_init_39 : decode cX6_init 39 = .ok (.newarray .int, 2) := by decide +kernel
theorem dX6_init_41 : decode cX6_init 41 = .ok (.putfield 24, 3) := by decide +kernel
theorem dX6_init_44 : decode cX6_init 44 = .ok (.aload_n 0, 1) := by decide +kernel
theorem dX6_init_45 : decode cX6_init 45 = .ok (.aload_n 1, 1) := by decide +kernel
theorem dX6_init_46 : decode cX6_init 46 = .ok (.putfield 27, 3) := by decide +kernel
theorem dX6_init_49 : decode cX6_init 49 = .ok (.aload_n 0, 1) := by decide +kernel
theorem dX6_init_50 : decode cX6_init 50 = .ok (.aload_n 2, 1) := by decide +kernel
theorem dX6_init_51 : decode cX6_init 51 = .ok (.putfield 31, 3) := by decide +kernel
theorem dX6_init_54 : decode cX6_init 54 = .ok (.return_, 1) := by decide +kernel
theorem dX6_begin_0 : decode cX6_begin 0 = .ok (.aload_n 0, 1) := by decide +kernel
theorem dX6_begin_1 : decode cX6_begin 1 = .ok (.aload_n 0, 1) := by decide +kernel
theorem dX6_begin_2 : decode cX6_begin 2 = .ok (.getfield 27, 3) := by decide +kernel
theorem dX6_begin_5 : decode cX6_begin 5 = .ok (.getfield 35, 3) := by decide +kernel
theorem dX6_begin_8 : decode cX6_begin 8 = .ok (.putfield 41, 3) := by decide +kernel
theorem dX6_begin_11 : decode cX6_begin 11 = .ok (.aload_n 0, 1) := by decide +kernel
theorem dX6_begin_12 : decode cX6_begin 12 = .ok (.aload_n 0, 1) := by decide +kernel
theorem dX6_begin_13 : decode cX6_begin 13 = .ok (.getfield 27, 3) := by decide +kernel
theorem dX6_begin_16 : decode cX6_begin 16 = .ok (.getfield 44, 3) := by decide +kernel
theorem dX6_begin_19 : decode cX6_begin 19 = .ok (.putfield 47, 3) := by decide +kernel
theorem dX6_begin_22 : decode cX6_begin 22 = .ok (.iconst 0, 1) := by decide +kernel
theorem dX6_begin_23 : decode cX6_begin 23 = .ok (.istore_n 1, 1) := by decide +kernel
theorem dX6_begin_24 : decode cX6_begin 24 = .ok (.iload_n 1, 1) := by decide +kernel
theorem dX6_begin_25 : decode cX6_begin 25 = .ok (.bipush 6, 2) := by decide +kernel
theorem dX6_begin_27 : decode cX6_begin 27 = .ok (.if_icmp .ge 16, 3) := by decide +kernel
theorem dX6_begin_30 : decode cX6_begin 30 = .ok (.aload_n 0, 1) := by decide +kernel
theorem dX6_begin_31 : decode cX6_begin 31 = .ok (.getfield 9, 3) := by decide +kernel
theorem dX6_begin_34 : decode cX6_begin 34 = .ok (.iload_n 1, 1) := by decide +kernel
theorem dX6_begin_35 : decode cX6_begin 35 = .ok (.iconst (-1), 1) := by decide +kernel
theorem dX6_begin_36 : decode cX6_begin 36 = .ok (.iastore, 1) := by decide +kernel
theorem dX6_begin_37 : decode cX6_begin 37 = .ok (.iinc 1 1, 3) := by decide +kernel
theorem dX6_begin_40 : decode cX6_begin 40 = .ok (.goto (-16), 3) := by decide +kernel
theorem dX6_begin_43 : decode cX6_begin 43 = .ok (.return_, 1) := by decide +kernel
theorem dX6_runDay_0 : decode cX6_runDay 0 = .ok (.aload_n 0, 1) := by decide +kernel
theorem dX6_runDay_1 : decode cX6_runDay 1 = .ok (.aload_n 1, 1) := by decide +kernel
theorem dX6_runDay_2 : decode cX6_runDay 2 = .ok (.iload_n 2, 1) := by decide +kernel
theorem dX6_runDay_3 : decode cX6_runDay 3 = .ok (.invokevirtual 48, 3) := by decide +kernel
theorem dX6_runDay_6 : decode cX6_runDay 6 = .ok (.istore_n 3, 1) := by decide +kernel
theorem dX6_runDay_7 : decode cX6_runDay 7 = .ok (.aload_n 0, 1) := by decide +kernel
theorem dX6_runDay_8 : decode cX6_runDay 8 = .ok (.aload_n 1, 1) := by decide +kernel
theorem dX6_runDay_9 : decode cX6_runDay 9 = .ok (.iload_n 3, 1) := by decide +kernel
theorem dX6_runDay_10 : decode cX6_runDay 10 = .ok (.invokevirtual 52, 3) := by decide +kernel
theorem dX6_runDay_13 : decode cX6_runDay 13 = .ok (.aload_n 0, 1) := by decide +kernel
theorem dX6_runDay_14 : decode cX6_runDay 14 = .ok (.aload_n 1, 1) := by decide +kernel
theorem dX6_runDay_15 : decode cX6_runDay 15 = .ok (.invokevirtual 56, 3) := by decide +kernel
theorem dX6_runDay_18 : decode cX6_runDay 18 = .ok (.aload_n 0, 1) := by decide +kernel
theorem dX6_runDay_19 : decode cX6_runDay 19 = .ok (.aload_n 1, 1) := by decide +kernel
theorem dX6_runDay_20 : decode cX6_runDay 20 = .ok (.invokevirtual 60, 3) := by decide +kernel
theorem dX6_runDay_23 : decode cX6_runDay 23 = .ok (.aload_n 0, 1) := by decide +kernel
theorem dX6_runDay_24 : decode cX6_runDay 24 = .ok (.aload_n 1, 1) := by decide +kernel
theorem dX6_runDay_25 : decode cX6_runDay 25 = .ok (.invokevirtual 63, 3) := by decide +kernel
theorem dX6_runDay_28 : decode cX6_runDay 28 = .ok (.aload_n 0, 1) := by decide +kernel
theorem dX6_runDay_29 : decode cX6_runDay 29 = .ok (.aload_n 1, 1) := by decide +kernel
theorem dX6_runDay_30 : decode cX6_runDay 30 = .ok (.invokevirtual 66, 3) := by decide +kernel
theorem dX6_runDay_33 : decode cX6_runDay 33 = .ok (.return_, 1) := by decide +kernel
theorem dX6_openDay_0 : decode cX6_openDay 0 = .ok (.iconst 0, 1) := by decide +kernel
theorem dX6_openDay_1 : decode cX6_openDay 1 = .ok (.istore_n 3, 1) := by decide +kernel
theorem dX6_openDay_2 : decode cX6_openDay 2 = .ok (.iload_n 3, 1) := by decide +kernel
theorem dX6_openDay_3 : decode cX6_openDay 3 = .ok (.aload_n 0, 1) := by decide +kernel
theorem dX6_openDay_4 : decode cX6_openDay 4 = .ok (.getfield 41, 3) := by decide +kernel
theorem dX6_openDay_7 : decode cX6_openDay 7 = .ok (.if_icmp .ge 83, 3) := by decide +kernel
theorem dX6_openDay_10 : decode cX6_openDay 10 = .ok (.aload_n 0, 1) := by decide +kernel
theorem dX6_openDay_11 : decode cX6_openDay 11 = .ok (.getfield 27, 3) := by decide +kernel
theorem dX6_openDay_14 : decode cX6_openDay 14 = .ok (.getfield 69, 3) := by decide +kernel
theorem dX6_openDay_17 : decode cX6_openDay 17 = .ok (.iload_n 3, 1) := by decide +kernel
theorem dX6_openDay_18 : decode cX6_openDay 18 = .ok (.iaload, 1) := by decide +kernel
theorem dX6_openDay_19 : decode cX6_openDay 19 = .ok (.bipush 99, 2) := by decide +kernel
theorem dX6_openDay_21 : decode cX6_openDay 21 = .ok (.aload_n 1, 1) := by decide +kernel
theorem dX6_openDay_22 : decode cX6_openDay 22 = .ok (.getfield 72, 3) := by decide +kernel
theorem dX6_openDay_25 : decode cX6_openDay 25 = .ok (.iload_n 3, 1) := by decide +kernel
theorem dX6_openDay_26 : decode cX6_openDay 26 = .ok (.iaload, 1) := by decide +kernel
theorem dX6_openDay_27 : decode cX6_openDay 27 = .ok (.isub, 1) := by decide +kernel
theorem dX6_openDay_28 : decode cX6_openDay 28 = .ok (.invokestatic 77, 3) := by decide +kernel
theorem dX6_openDay_31 : decode cX6_openDay 31 = .ok (.istore 4, 2) := by decide +kernel
theorem dX6_openDay_33 : decode cX6_openDay 33 = .ok (.aload_n 1, 1) := by decide +kernel
theorem dX6_openDay_34 : decode cX6_openDay 34 = .ok (.getfield 72, 3) := by decide +kernel
theorem dX6_openDay_37 : decode cX6_openDay 37 = .ok (.iload_n 3, 1) := by decide +kernel
theorem dX6_openDay_38 : decode cX6_openDay 38 = .ok (.dup2, 1) := by decide +kernel
theorem dX6_openDay_39 : decode cX6_openDay 39 = .ok (.iaload, 1) := by decide +kernel
theorem dX6_openDay_40 : decode cX6_openDay 40 = .ok (.iload 4, 2) := by decide +kernel
theorem dX6_openDay_42 : decode cX6_openDay 42 = .ok (.iadd, 1) := by decide +kernel
theorem dX6_openDay_43 : decode cX6_openDay 43 = .ok (.iastore, 1) := by decide +kernel
theorem dX6_openDay_44 : decode cX6_openDay 44 = .ok (.aload_n 1, 1) := by decide +kernel
theorem dX6_openDay_45 : decode cX6_openDay 45 = .ok (.getfield 83, 3) := by decide +kernel
theorem dX6_openDay_48 : decode cX6_openDay 48 = .ok (.iload_n 3, 1) := by decide +kernel
theorem dX6_openDay_49 : decode cX6_openDay 49 = .ok (.dup2, 1) := by decide +kernel
theorem dX6_openDay_50 : decode cX6_openDay 50 = .ok (.iaload, 1) := by decide +kernel
theorem dX6_openDay_51 : decode cX6_openDay 51 = .ok (.iload 4, 2) := by decide +kernel
theorem dX6_openDay_53 : decode cX6_openDay 53 = .ok (.aload_n 0, 1) := by decide +kernel
theorem dX6_openDay_54 : decode cX6_openDay 54 = .ok (.getfield 27, 3) := by decide +kernel
theorem dX6_openDay_57 : decode cX6_openDay 57 = .ok (.getfield 86, 3) := by decide +kernel
theorem dX6_openDay_60 : decode cX6_openDay 60 = .ok (.iload_n 3, 1) := by decide +kernel
theorem dX6_openDay_61 : decode cX6_openDay 61 = .ok (.iaload, 1) := by decide +kernel
theorem dX6_openDay_62 : decode cX6_openDay 62 = .ok (.imul, 1) := by decide +kernel
theorem dX6_openDay_63 : decode cX6_openDay 63 = .ok (.isub, 1) := by decide +kernel
theorem dX6_openDay_64 : decode cX6_openDay 64 = .ok (.iastore, 1) := by decide +kernel
theorem dX6_openDay_65 : decode cX6_openDay 65 = .ok (.aload_n 1, 1) := by decide +kernel
theorem dX6_openDay_66 : decode cX6_openDay 66 = .ok (.getfield 89, 3) := by decide +kernel
theorem dX6_openDay_69 : decode cX6_openDay 69 = .ok (.iload_n 3, 1) := by decide +kernel
theorem dX6_openDay_70 : decode cX6_openDay 70 = .ok (.iconst 0, 1) := by decide +kernel
theorem dX6_openDay_71 : decode cX6_openDay 71 = .ok (.iastore, 1) := by decide +kernel
theorem dX6_openDay_72 : decode cX6_openDay 72 = .ok (.aload_n 0, 1) := by decide +kernel
theorem dX6_openDay_73 : decode cX6_openDay 73 = .ok (.getfield 15, 3) := by decide +kernel
theorem dX6_openDay_76 : decode cX6_openDay 76 = .ok (.iload_n 3, 1) := by decide +kernel
theorem dX6_openDay_77 : decode cX6_openDay 77 = .ok (.aload_n 1, 1) := by decide +kernel
theorem dX6_openDay_78 : decode cX6_openDay 78 = .ok (.getfield 72, 3) := by decide +kernel
theorem dX6_openDay_81 : decode cX6_openDay 81 = .ok (.iload_n 3, 1) := by decide +kernel
theorem dX6_openDay_82 : decode cX6_openDay 82 = .ok (.iaload, 1) := by decide +kernel
theorem dX6_openDay_83 : decode cX6_openDay 83 = .ok (.iastore, 1) := by decide +kernel
theorem dX6_openDay_84 : decode cX6_openDay 84 = .ok (.iinc 3 1, 3) := by decide +kernel
theorem dX6_openDay_87 : decode cX6_openDay 87 = .ok (.goto (-85), 3) := by decide +kernel
theorem dX6_openDay_90 : decode cX6_openDay 90 = .ok (.iconst 0, 1) := by decide +kernel
theorem dX6_openDay_91 : decode cX6_openDay 91 = .ok (.istore_n 3, 1) := by decide +kernel
theorem dX6_openDay_92 : decode cX6_openDay 92 = .ok (.iconst 0, 1) := by decide +kernel
theorem dX6_openDay_93 : decode cX6_openDay 93 = .ok (.istore 4, 2) := by decide +kernel
theorem dX6_openDay_95 : decode cX6_openDay 95 = .ok (.iload 4, 2) := by decide +kernel
theorem dX6_openDay_97 : decode cX6_openDay 97 = .ok (.aload_n 0, 1) := by decide +kernel
theorem dX6_openDay_98 : decode cX6_openDay 98 = .ok (.getfield 27, 3) := by decide +kernel
theorem dX6_openDay_101 : decode cX6_openDay 101 = .ok (.getfield 92, 3) := by decide +kernel
theorem dX6_openDay_104 : decode cX6_openDay 104 = .ok (.if_icmp .ge 77, 3) := by decide +kernel
theorem dX6_openDay_107 : decode cX6_openDay 107 = .ok (.aload_n 1, 1) := by decide +kernel
theorem dX6_openDay_108 : decode cX6_openDay 108 = .ok (.getfield 95, 3) := by decide +kernel
theorem dX6_openDay_111 : decode cX6_openDay 111 = .ok (.iload 4, 2) := by decide +kernel
theorem dX6_openDay_113 : decode cX6_openDay 113 = .ok (.iconst 4, 1) := by decide +kernel
theorem dX6_openDay_114 : decode cX6_openDay 114 = .ok (.imul, 1) := by decide +kernel
theorem dX6_openDay_115 : decode cX6_openDay 115 = .ok (.iload_n 2, 1) := by decide +kernel
theorem dX6_openDay_116 : decode cX6_openDay 116 = .ok (.ifCond .eq 18, 3) := by decide +kernel
theorem dX6_openDay_119 : decode cX6_openDay 119 = .ok (.iconst 2, 1) := by decide +kernel
theorem dX6_openDay_120 : decode cX6_openDay 120 = .ok (.aload_n 0, 1) := by decide +kernel
theorem dX6_openDay_121 : decode cX6_openDay 121 = .ok (.getfield 27, 3) := by decide +kernel
theorem dX6_openDay_124 : decode cX6_openDay 124 = .ok (.getfield 98, 3) := by decide +kernel
theorem dX6_openDay_127 : decode cX6_openDay 127 = .ok (.iload 4, 2) := by decide +kernel
theorem dX6_openDay_129 : decode cX6_openDay 129 = .ok (.iaload, 1) := by decide +kernel
theorem dX6_openDay_130 : decode cX6_openDay 130 = .ok (.imul, 1) := by decide +kernel
theorem dX6_openDay_131 : decode cX6_openDay 131 = .ok (.goto 13, 3) := by decide +kernel
theorem dX6_openDay_134 : decode cX6_openDay 134 = .ok (.aload_n 0, 1) := by decide +kernel
theorem dX6_openDay_135 : decode cX6_openDay 135 = .ok (.getfield 27, 3) := by decide +kernel
theorem dX6_openDay_138 : decode cX6_openDay 138 = .ok (.getfield 98, 3) := by decide +kernel
theorem dX6_openDay_141 : decode cX6_openDay 141 = .ok (.iload 4, 2) := by decide +kernel
theorem dX6_openDay_143 : decode cX6_openDay 143 = .ok (.iaload, 1) := by decide +kernel
theorem dX6_openDay_144 : decode cX6_openDay 144 = .ok (.iastore, 1) := by decide +kernel
theorem dX6_openDay_145 : decode cX6_openDay 145 = .ok (.iconst 0, 1) := by decide +kernel
theorem dX6_openDay_146 : decode cX6_openDay 146 = .ok (.istore 5, 2) := by decide +kernel
theorem dX6_openDay_148 : decode cX6_openDay 148 = .ok (.iload 5, 2) := by decide +kernel
theorem dX6_openDay_150 : decode cX6_openDay 150 = .ok (.iconst 4, 1) := by decide +kernel
theorem dX6_openDay_151 : decode cX6_openDay 151 = .ok (.if_icmp .ge 24, 3) := by decide +kernel
theorem dX6_openDay_154 : decode cX6_openDay 154 = .ok (.iload_n 3, 1) := by decide +kernel
theorem dX6_openDay_155 : decode cX6_openDay 155 = .ok (.aload_n 1, 1) := by decide +kernel
theorem dX6_openDay_156 : decode cX6_openDay 156 = .ok (.getfield 95, 3) := by decide +kernel
theorem dX6_openDay_159 : decode cX6_openDay 159 = .ok (.iload 4, 2) := by decide +kernel
theorem dX6_openDay_161 : decode cX6_openDay 161 = .ok (.iconst 4, 1) := by decide +kernel
theorem dX6_openDay_162 : decode cX6_openDay 162 = .ok (.imul, 1) := by decide +kernel
theorem dX6_openDay_163 : decode cX6_openDay 163 = .ok (.iload 5, 2) := by decide +kernel
theorem dX6_openDay_165 : decode cX6_openDay 165 = .ok (.iadd, 1) := by decide +kernel
theorem dX6_openDay_166 : decode cX6_openDay 166 = .ok (.iaload, 1) := by decide +kernel
theorem dX6_openDay_167 : decode cX6_openDay 167 = .ok (.iadd, 1) := by decide +kernel
theorem dX6_openDay_168 : decode cX6_openDay 168 = .ok (.istore_n 3, 1) := by decide +kernel
theorem dX6_openDay_169 : decode cX6_openDay 169 = .ok (.iinc 5 1, 3) := by decide +kernel
theorem dX6_openDay_172 : decode cX6_openDay 172 = .ok (.goto (-24), 3) := by decide +kernel
theorem dX6_openDay_175 : decode cX6_openDay 175 = .ok (.iinc 4 1, 3) := by decide +kernel
theorem dX6_openDay_178 : decode cX6_openDay 178 = .ok (.goto (-83), 3) := by decide +kernel
theorem dX6_openDay_181 : decode cX6_openDay 181 = .ok (.iload_n 3, 1) := by decide +kernel
theorem dX6_openDay_182 : decode cX6_openDay 182 = .ok (.ireturn, 1) := by decide +kernel
theorem dX6_setAskings_0 : decode cX6_setAskings 0 = .ok (.aload_n 0, 1) := by decide +kernel
theorem dX6_setAskings_1 : decode cX6_setAskings 1 = .ok (.getfield 24, 3) := by decide +kernel
theorem dX6_setAskings_4 : decode cX6_setAskings 4 = .ok (.iconst 0, 1) := by decide +kernel
theorem dX6_setAskings_5 : decode cX6_setAskings 5 = .ok (.aload_n 1, 1) := by decide +kernel
theorem dX6_setAskings_6 : decode cX6_setAskings 6 = .ok (.getfield 101, 3) := by decide +kernel
theorem dX6_setAskings_9 : decode cX6_setAskings 9 = .ok (.iastore, 1) := by decide +kernel
theorem dX6_setAskings_10 : decode cX6_setAskings 10 = .ok (.aload_n 0, 1) := by decide +kernel
theorem dX6_setAskings_11 : decode cX6_setAskings 11 = .ok (.getfield 24, 3) := by decide +kernel
theorem dX6_setAskings_14 : decode cX6_setAskings 14 = .ok (.iconst 3, 1) := by decide +kernel
theorem dX6_setAskings_15 : decode cX6_setAskings 15 = .ok (.aload_n 1, 1) := by decide +kernel
theorem dX6_setAskings_16 : decode cX6_setAskings 16 = .ok (.getfield 104, 3) := by decide +kernel
theorem dX6_setAskings_19 : decode cX6_setAskings 19 = .ok (.iastore, 1) := by decide +kernel
theorem dX6_setAskings_20 : decode cX6_setAskings 20 = .ok (.aload_n 0, 1) := by decide +kernel
theorem dX6_setAskings_21 : decode cX6_setAskings 21 = .ok (.getfield 24, 3) := by decide +kernel
theorem dX6_setAskings_24 : decode cX6_setAskings 24 = .ok (.iconst 5, 1) := by decide +kernel
theorem dX6_setAskings_25 : decode cX6_setAskings 25 = .ok (.iload_n 2, 1) := by decide +kernel
theorem dX6_setAskings_26 : decode cX6_setAskings 26 = .ok (.iastore, 1) := by decide +kernel
theorem dX6_setAskings_27 : decode cX6_setAskings 27 = .ok (.iconst 0, 1) := by decide +kernel
theorem dX6_setAskings_28 : decode cX6_setAskings 28 = .ok (.istore_n 3, 1) := by decide +kernel
theorem dX6_setAskings_29 : decode cX6_setAskings 29 = .ok (.iload_n 3, 1) := by decide +kernel
theorem dX6_setAskings_30 : decode cX6_setAskings 30 = .ok (.aload_n 0, 1) := by decide +kernel
theorem dX6_setAskings_31 : decode cX6_setAskings 31 = .ok (.getfield 41, 3) := by decide +kernel
theorem dX6_setAskings_34 : decode cX6_setAskings 34 = .ok (.if_icmp .ge 162, 3) := by decide +kernel
theorem dX6_setAskings_37 : decode cX6_setAskings 37 = .ok (.aload_n 1, 1) := by decide +kernel
theorem dX6_setAskings_38 : decode cX6_setAskings 38 = .ok (.getfield 107, 3) := by decide +kernel
theorem dX6_setAskings_41 : decode cX6_setAskings 41 = .ok (.iload_n 3, 1) := by decide +kernel
theorem dX6_setAskings_42 : decode cX6_setAskings 42 = .ok (.iaload, 1) := by decide +kernel
theorem dX6_setAskings_43 : decode cX6_setAskings 43 = .ok (.istore 4, 2) := by decide +kernel
theorem dX6_setAskings_45 : decode cX6_setAskings 45 = .ok (.aload_n 0, 1) := by decide +kernel
theorem dX6_setAskings_46 : decode cX6_setAskings 46 = .ok (.getfield 9, 3) := by decide +kernel
theorem dX6_setAskings_49 : decode cX6_setAskings 49 = .ok (.iload_n 3, 1) := by decide +kernel
theorem dX6_setAskings_50 : decode cX6_setAskings 50 = .ok (.iaload, 1) := by decide +kernel
theorem dX6_setAskings_51 : decode cX6_setAskings 51 = .ok (.iconst (-1), 1) := by decide +kernel
theorem dX6_setAskings_52 : decode cX6_setAskings 52 = .ok (.if_icmp .eq 18, 3) := by decide +kernel
theorem dX6_setAskings_55 : decode cX6_setAskings 55 = .ok (.aload_n 1, 1) := by decide +kernel
theorem dX6_setAskings_56 : decode cX6_setAskings 56 = .ok (.getfield 110, 3) := by decide +kernel
theorem dX6_setAskings_59 : decode cX6_setAskings 59 = .ok (.iload_n 3, 1) := by decide +kernel
theorem dX6_setAskings_60 : decode cX6_setAskings 60 = .ok (.aload_n 0, 1) := by decide +kernel
theorem dX6_setAskings_61 : decode cX6_setAskings 61 = .ok (.getfield 9, 3) := by decide +kernel
theorem dX6_setAskings_64 : decode cX6_setAskings 64 = .ok (.iload_n 3, 1) := by decide +kernel
theorem dX6_setAskings_65 : decode cX6_setAskings 65 = .ok (.iaload, 1) := by decide +kernel
theorem dX6_setAskings_66 : decode cX6_setAskings 66 = .ok (.iastore, 1) := by decide +kernel
theorem dX6_setAskings_67 : decode cX6_setAskings 67 = .ok (.goto 123, 3) := by decide +kernel
theorem dX6_setAskings_70 : decode cX6_setAskings 70 = .ok (.aload_n 1, 1) := by decide +kernel
theorem dX6_setAskings_71 : decode cX6_setAskings 71 = .ok (.iload_n 3, 1) := by decide +kernel
theorem dX6_setAskings_72 : decode cX6_setAskings 72 = .ok (.invokevirtual 113, 3) := by decide +kernel
theorem dX6_setAskings_75 : decode cX6_setAskings 75 = .ok (.ifCond .ne 28, 3) := by decide +kernel
theorem dX6_setAskings_78 : decode cX6_setAskings 78 = .ok (.iload 4, 2) := by decide +kernel
theorem dX6_setAskings_80 : decode cX6_setAskings 80 = .ok (.ifCond .lt 23, 3) := by decide +kernel
theorem dX6_setAskings_83 : decode cX6_setAskings 83 = .ok (.iload 4, 2) := by decide +kernel
theorem dX6_setAskings_85 : decode cX6_setAskings 85 = .ok (.aload_n 0, 1) := by decide +kernel
theorem dX6_setAskings_86 : decode cX6_setAskings 86 = .ok (.getfield 31, 3) := by decide +kernel
theorem dX6_setAskings_89 : decode cX6_setAskings 89 = .ok (.arraylength, 1) := by decide +kernel
theorem dX6_setAskings_90 : decode cX6_setAskings 90 = .ok (.if_icmp .ge 13, 3) := by decide +kernel
theorem dX6_setAskings_93 : decode cX6_setAskings 93 = .ok (.aload_n 0, 1) := by decide +kernel
theorem dX6_setAskings_94 : decode cX6_setAskings 94 = .ok (.getfield 31, 3) := by decide +kernel
theorem dX6_setAskings_97 : decode cX6_setAskings 97 = .ok (.iload 4, 2) := by decide +kernel
theorem dX6_setAskings_99 : decode cX6_setAskings 99 = .ok (.aaload, 1) := by decide +kernel
theorem dX6_setAskings_100 : decode cX6_setAskings 100 = .ok (.ifnonnull 16, 3) := by decide +kernel
theorem dX6_setAskings_103 : decode cX6_setAskings 103 = .ok (.aload_n 1, 1) := by decide +kernel
theorem dX6_setAskings_104 : decode cX6_setAskings 104 = .ok (.getfield 110, 3) := by decide +kernel
theorem dX6_setAskings_107 : decode cX6_setAskings 107 = .ok (.iload_n 3, 1) := by decide +kernel
theorem dX6_setAskings_108 : decode cX6_setAskings 108 = .ok (.aload_n 1, 1) := by decide +kernel
theorem dX6_setAskings_109 : decode cX6_setAskings 109 = .ok (.getfield 101, 3) := by decide +kernel
theorem dX6_setAskings_112 : decode cX6_setAskings 112 = .ok (.iastore, 1) := by decide +kernel
theorem dX6_setAskings_113 : decode cX6_setAskings 113 = .ok (.goto 77, 3) := by decide +kernel
theorem dX6_setAskings_116 : decode cX6_setAskings 116 = .ok (.aload_n 0, 1) := by decide +kernel
theorem dX6_setAskings_117 : decode cX6_setAskings 117 = .ok (.getfield 24, 3) := by decide +kernel
theorem dX6_setAskings_120 : decode cX6_setAskings 120 = .ok (.iconst 1, 1) := by decide +kernel
theorem dX6_setAskings_121 : decode cX6_setAskings 121 = .ok (.aload_n 1, 1) := by decide +kernel
theorem dX6_setAskings_122 : decode cX6_setAskings 122 = .ok (.getfield 72, 3) := by decide +kernel
theorem dX6_setAskings_125 : decode cX6_setAskings 125 = .ok (.iload_n 3, 1) := by decide +kernel
theorem dX6_setAskings_126 : decode cX6_setAskings 126 = .ok (.iaload, 1) := by decide +kernel
theorem dX6_setAskings_127 : decode cX6_setAskings 127 = .ok (.iastore, 1) := by decide +kernel
theorem dX6_setAskings_128 : decode cX6_setAskings 128 = .ok (.aload_n 0, 1) := by decide +kernel
theorem dX6_setAskings_129 : decode cX6_setAskings 129 = .ok (.getfield 24, 3) := by decide +kernel
theorem dX6_setAskings_132 : decode cX6_setAskings 132 = .ok (.iconst 2, 1) := by decide +kernel
theorem dX6_setAskings_133 : decode cX6_setAskings 133 = .ok (.aload_n 0, 1) := by decide +kernel
theorem dX6_setAskings_134 : decode cX6_setAskings 134 = .ok (.getfield 27, 3) := by decide +kernel
theorem dX6_setAskings_137 : decode cX6_setAskings 137 = .ok (.getfield 86, 3) := by decide +kernel
theorem dX6_setAskings_140 : decode cX6_setAskings 140 = .ok (.iload_n 3, 1) := by decide +kernel
theorem dX6_setAskings_141 : decode cX6_setAskings 141 = .ok (.iaload, 1) := by decide +kernel
theorem dX6_setAskings_142 : decode cX6_setAskings 142 = .ok (.iastore, 1) := by decide +kernel
theorem dX6_setAskings_143 : decode cX6_setAskings 143 = .ok (.aload_n 0, 1) := by decide +kernel
theorem dX6_setAskings_144 : decode cX6_setAskings 144 = .ok (.getfield 24, 3) := by decide +kernel
theorem dX6_setAskings_147 : decode cX6_setAskings 147 = .ok (.iconst 4, 1) := by decide +kernel
theorem dX6_setAskings_148 : decode cX6_setAskings 148 = .ok (.aload_n 1, 1) := by decide +kernel
theorem dX6_setAskings_149 : decode cX6_setAskings 149 = .ok (.getfield 117, 3) := by decide +kernel
theorem dX6_setAskings_152 : decode cX6_setAskings 152 = .ok (.iload_n 3, 1) := by decide +kernel
theorem dX6_setAskings_153 : decode cX6_setAskings 153 = .ok (.iaload, 1) := by decide +kernel
theorem dX6_setAskings_154 : decode cX6_setAskings 154 = .ok (.iastore, 1) := by decide +kernel
theorem dX6_setAskings_155 : decode cX6_setAskings 155 = .ok (.aload_n 0, 1) := by decide +kernel
theorem dX6_setAskings_156 : decode cX6_setAskings 156 = .ok (.getfield 31, 3) := by decide +kernel
theorem dX6_setAskings_159 : decode cX6_setAskings 159 = .ok (.iload 4, 2) := by decide +kernel
theorem dX6_setAskings_161 : decode cX6_setAskings 161 = .ok (.aaload, 1) := by decide +kernel
theorem dX6_setAskings_162 : decode cX6_setAskings 162 = .ok (.aload_n 0, 1) := by decide +kernel
theorem dX6_setAskings_163 : decode cX6_setAskings 163 = .ok (.getfield 24, 3) := by decide +kernel
theorem dX6_setAskings_166 : decode cX6_setAskings 166 = .ok (.invokevirtual 120, 3) := by decide +kernel
theorem dX6_setAskings_169 : decode cX6_setAskings 169 = .ok (.istore 5, 2) := by decide +kernel
theorem dX6_setAskings_171 : decode cX6_setAskings 171 = .ok (.aload_n 1, 1) := by decide +kernel
theorem dX6_setAskings_172 : decode cX6_setAskings 172 = .ok (.getfield 110, 3) := by decide +kernel
theorem dX6_setAskings_175 : decode cX6_setAskings 175 = .ok (.iload_n 3, 1) := by decide +kernel
theorem dX6_setAskings_176 : decode cX6_setAskings 176 = .ok (.iconst 0, 1) := by decide +kernel
theorem dX6_setAskings_177 : decode cX6_setAskings 177 = .ok (.aload_n 1, 1) := by decide +kernel
theorem dX6_setAskings_178 : decode cX6_setAskings 178 = .ok (.getfield 101, 3) := by decide +kernel
theorem dX6_setAskings_181 : decode cX6_setAskings 181 = .ok (.iload 5, 2) := by decide +kernel
theorem dX6_setAskings_183 : decode cX6_setAskings 183 = .ok (.invokestatic 77, 3) := by decide +kernel
theorem dX6_setAskings_186 : decode cX6_setAskings 186 = .ok (.invokestatic 126, 3) := by decide +kernel
theorem dX6_setAskings_189 : decode cX6_setAskings 189 = .ok (.iastore, 1) := by decide +kernel
theorem dX6_setAskings_190 : decode cX6_setAskings 190 = .ok (.iinc 3 1, 3) := by decide +kernel
theorem dX6_setAskings_193 : decode cX6_setAskings 193 = .ok (.goto (-164), 3) := by decide +kernel
theorem dX6_setAskings_196 : decode cX6_setAskings 196 = .ok (.return_, 1) := by decide +kernel
theorem dX6_lineUp_0 : decode cX6_lineUp 0 = .ok (.aload_n 0, 1) := by decide +kernel
theorem dX6_lineUp_1 : decode cX6_lineUp 1 = .ok (.iconst 0, 1) := by decide +kernel
theorem dX6_lineUp_2 : decode cX6_lineUp 2 = .ok (.putfield 129, 3) := by decide +kernel
theorem dX6_lineUp_5 : decode cX6_lineUp 5 = .ok (.iconst 0, 1) := by decide +kernel
theorem dX6_lineUp_6 : decode cX6_lineUp 6 = .ok (.istore_n 2, 1) := by decide +kernel
theorem dX6_lineUp_7 : decode cX6_lineUp 7 = .ok (.iload_n 2, 1) := by decide +kernel
theorem dX6_lineUp_8 : decode cX6_lineUp 8 = .ok (.aload_n 0, 1) := by decide +kernel
theorem dX6_lineUp_9 : decode cX6_lineUp 9 = .ok (.getfield 41, 3) := by decide +kernel
theorem dX6_lineUp_12 : decode cX6_lineUp 12 = .ok (.if_icmp .ge 97, 3) := by decide +kernel
theorem dX6_lineUp_15 : decode cX6_lineUp 15 = .ok (.aload_n 1, 1) := by decide +kernel
theorem dX6_lineUp_16 : decode cX6_lineUp 16 = .ok (.getfield 72, 3) := by decide +kernel
theorem dX6_lineUp_19 : decode cX6_lineUp 19 = .ok (.iload_n 2, 1) := by decide +kernel
theorem dX6_lineUp_20 : decode cX6_lineUp 20 = .ok (.iaload, 1) := by decide +kernel
theorem dX6_lineUp_21 : decode cX6_lineUp 21 = .ok (.ifCond .eq 82, 3) := by decide +kernel
theorem dX6_lineUp_24 : decode cX6_lineUp 24 = .ok (.aload_n 1, 1) := by decide +kernel
theorem dX6_lineUp_25 : decode cX6_lineUp 25 = .ok (.iload_n 2, 1) := by decide +kernel
theorem dX6_lineUp_26 : decode cX6_lineUp 26 = .ok (.invokevirtual 113, 3) := by decide +kernel
theorem dX6_lineUp_29 : decode cX6_lineUp 29 = .ok (.ifCond .eq 6, 3) := by decide +kernel
theorem dX6_lineUp_32 : decode cX6_lineUp 32 = .ok (.goto 71, 3) := by decide +kernel
theorem dX6_lineUp_35 : decode cX6_lineUp 35 = .ok (.aload_n 0, 1) := by decide +kernel
theorem dX6_lineUp_36 : decode cX6_lineUp 36 = .ok (.getfield 129, 3) := by decide +kernel
theorem dX6_lineUp_39 : decode cX6_lineUp 39 = .ok (.istore_n 3, 1) := by decide +kernel
theorem dX6_lineUp_40 : decode cX6_lineUp 40 = .ok (.iload_n 3, 1) := by decide +kernel
theorem dX6_lineUp_41 : decode cX6_lineUp 41 = .ok (.ifCond .le 45, 3) := by decide +kernel
theorem dX6_lineUp_44 : decode cX6_lineUp 44 = .ok (.aload_n 1, 1) := by decide +kernel
theorem dX6_lineUp_45 : decode cX6_lineUp 45 = .ok (.getfield 110, 3) := by decide +kernel
theorem dX6_lineUp_48 : decode cX6_lineUp 48 = .ok (.aload_n 0, 1) := by decide +kernel
theorem dX6_lineUp_49 : decode cX6_lineUp 49 = .ok (.getfield 18, 3) := by decide +kernel
theorem dX6_lineUp_52 : decode cX6_lineUp 52 = .ok (.iload_n 3, 1) := by decide +kernel
theorem dX6_lineUp_53 : decode cX6_lineUp 53 = .ok (.iconst 1, 1) := by decide +kernel
theorem dX6_lineUp_54 : decode cX6_lineUp 54 = .ok (.isub, 1) := by decide +kernel
theorem dX6_lineUp_55 : decode cX6_lineUp 55 = .ok (.iaload, 1) := by decide +kernel
theorem dX6_lineUp_56 : decode cX6_lineUp 56 = .ok (.iaload, 1) := by decide +kernel
theorem dX6_lineUp_57 : decode cX6_lineUp 57 = .ok (.aload_n 1, 1) := by decide +kernel
theorem dX6_lineUp_58 : decode cX6_lineUp 58 = .ok (.getfield 110, 3) := by decide +kernel
theorem dX6_lineUp_61 : decode cX6_lineUp 61 = .ok (.iload_n 2, 1) := by decide +kernel
theorem dX6_lineUp_62 : decode cX6_lineUp 62 = .ok (.iaload, 1) := by decide +kernel
theorem dX6_lineUp_63 : decode cX6_lineUp 63 = .ok (.if_icmp .le 23, 3) := by decide +kernel
theorem dX6_lineUp_66 : decode cX6_lineUp 66 = .ok (.aload_n 0, 1) := by decide +kernel
theorem dX6_lineUp_67 : decode cX6_lineUp 67 = .ok (.getfield 18, 3) := by decide +kernel
theorem dX6_lineUp_70 : decode cX6_lineUp 70 = .ok (.iload_n 3, 1) := by decide +kernel
theorem dX6_lineUp_71 : decode cX6_lineUp 71 = .ok (.aload_n 0, 1) := by decide +kernel
theorem dX6_lineUp_72 : decode cX6_lineUp 72 = .ok (.getfield 18, 3) := by decide +kernel
theorem dX6_lineUp_75 : decode cX6_lineUp 75 = .ok (.iload_n 3, 1) := by decide +kernel
theorem dX6_lineUp_76 : decode cX6_lineUp 76 = .ok (.iconst 1, 1) := by decide +kernel
theorem dX6_lineUp_77 : decode cX6_lineUp 77 = .ok (.isub, 1) := by decide +kernel
theorem dX6_lineUp_78 : decode cX6_lineUp 78 = .ok (.iaload, 1) := by decide +kernel
theorem dX6_lineUp_79 : decode cX6_lineUp 79 = .ok (.iastore, 1) := by decide +kernel
theorem dX6_lineUp_80 : decode cX6_lineUp 80 = .ok (.iinc 3 (-1), 3) := by decide +kernel
theorem dX6_lineUp_83 : decode cX6_lineUp 83 = .ok (.goto (-43), 3) := by decide +kernel
theorem dX6_lineUp_86 : decode cX6_lineUp 86 = .ok (.aload_n 0, 1) := by decide +kernel
theorem dX6_lineUp_87 : decode cX6_lineUp 87 = .ok (.getfield 18, 3) := by decide +kernel
theorem dX6_lineUp_90 : decode cX6_lineUp 90 = .ok (.iload_n 3, 1) := by decide +kernel
theorem dX6_lineUp_91 : decode cX6_lineUp 91 = .ok (.iload_n 2, 1) := by decide +kernel
theorem dX6_lineUp_92 : decode cX6_lineUp 92 = .ok (.iastore, 1) := by decide +kernel
theorem dX6_lineUp_93 : decode cX6_lineUp 93 = .ok (.aload_n 0, 1) := by decide +kernel
theorem dX6_lineUp_94 : decode cX6_lineUp 94 = .ok (.dup, 1) := by decide +kernel
theorem dX6_lineUp_95 : decode cX6_lineUp 95 = .ok (.getfield 129, 3) := by decide +kernel
theorem dX6_lineUp_98 : decode cX6_lineUp 98 = .ok (.iconst 1, 1) := by decide +kernel
theorem dX6_lineUp_99 : decode cX6_lineUp 99 = .ok (.iadd, 1) := by decide +kernel
theorem dX6_lineUp_100 : decode cX6_lineUp 100 = .ok (.putfield 129, 3) := by decide +kernel
theorem dX6_lineUp_103 : decode cX6_lineUp 103 = .ok (.iinc 2 1, 3) := by decide +kernel
theorem dX6_lineUp_106 : decode cX6_lineUp 106 = .ok (.goto (-99), 3) := by decide +kernel
theorem dX6_lineUp_109 : decode cX6_lineUp 109 = .ok (.return_, 1) := by decide +kernel
theorem dX6_sell_0 : decode cX6_sell 0 = .ok (.iconst 0, 1) := by decide +kernel
theorem dX6_sell_1 : decode cX6_sell 1 = .ok (.istore_n 2, 1) := by decide +kernel
theorem dX6_sell_2 : decode cX6_sell 2 = .ok (.iload_n 2, 1) := by decide +kernel
theorem dX6_sell_3 : decode cX6_sell 3 = .ok (.aload_n 0, 1) := by decide +kernel
theorem dX6_sell_4 : decode cX6_sell 4 = .ok (.getfield 27, 3) := by decide +kernel
theorem dX6_sell_7 : decode cX6_sell 7 = .ok (.getfield 92, 3) := by decide +kernel
theorem dX6_sell_10 : decode cX6_sell 10 = .ok (.if_icmp .ge 74, 3) := by decide +kernel
theorem dX6_sell_13 : decode cX6_sell 13 = .ok (.aload_n 0, 1) := by decide +kernel
theorem dX6_sell_14 : decode cX6_sell 14 = .ok (.getfield 27, 3) := by decide +kernel
theorem dX6_sell_17 : decode cX6_sell 17 = .ok (.getfield 132, 3) := by decide +kernel
theorem dX6_sell_20 : decode cX6_sell 20 = .ok (.iload_n 2, 1) := by decide +kernel
theorem dX6_sell_21 : decode cX6_sell 21 = .ok (.iaload, 1) := by decide +kernel
theorem dX6_sell_22 : decode cX6_sell 22 = .ok (.istore_n 3, 1) := by decide +kernel
theorem dX6_sell_23 : decode cX6_sell 23 = .ok (.iconst 3, 1) := by decide +kernel
theorem dX6_sell_24 : decode cX6_sell 24 = .ok (.istore 4, 2) := by decide +kernel
theorem dX6_sell_26 : decode cX6_sell 26 = .ok (.iload 4, 2) := by decide +kernel
theorem dX6_sell_28 : decode cX6_sell 28 = .ok (.ifCond .lt 50, 3) := by decide +kernel
theorem dX6_sell_31 : decode cX6_sell 31 = .ok (.iload_n 3, 1) := by decide +kernel
theorem dX6_sell_32 : decode cX6_sell 32 = .ok (.iconst 4, 1) := by decide +kernel
theorem dX6_sell_33 : decode cX6_sell 33 = .ok (.imul, 1) := by decide +kernel
theorem dX6_sell_34 : decode cX6_sell 34 = .ok (.iload 4, 2) := by decide +kernel
theorem dX6_sell_36 : decode cX6_sell 36 = .ok (.iadd, 1) := by decide +kernel
theorem dX6_sell_37 : decode cX6_sell 37 = .ok (.istore 5, 2) := by decide +kernel
theorem dX6_sell_39 : decode cX6_sell 39 = .ok (.aload_n 1, 1) := by decide +kernel
theorem dX6_sell_40 : decode cX6_sell 40 = .ok (.getfield 95, 3) := by decide +kernel
theorem dX6_sell_43 : decode cX6_sell 43 = .ok (.iload 5, 2) := by decide +kernel
theorem dX6_sell_45 : decode cX6_sell 45 = .ok (.iaload, 1) := by decide +kernel
theorem dX6_sell_46 : decode cX6_sell 46 = .ok (.ifCond .le 26, 3) := by decide +kernel
theorem dX6_sell_49 : decode cX6_sell 49 = .ok (.aload_n 1, 1) := by decide +kernel
theorem dX6_sell_50 : decode cX6_sell 50 = .ok (.getfield 95, 3) := by decide +kernel
theorem dX6_sell_53 : decode cX6_sell 53 = .ok (.iload 5, 2) := by decide +kernel
theorem dX6_sell_55 : decode cX6_sell 55 = .ok (.dup2, 1) := by decide +kernel
theorem dX6_sell_56 : decode cX6_sell 56 = .ok (.iaload, 1) := by decide +kernel
theorem dX6_sell_57 : decode cX6_sell 57 = .ok (.aload_n 0, 1) := by decide +kernel
theorem dX6_sell_58 : decode cX6_sell 58 = .ok (.aload_n 1, 1) := by decide +kernel
theorem dX6_sell_59 : decode cX6_sell 59 = .ok (.iload_n 3, 1) := by decide +kernel
theorem dX6_sell_60 : decode cX6_sell 60 = .ok (.aload_n 1, 1) := by decide +kernel
theorem dX6_sell_61 : decode cX6_sell 61 = .ok (.getfield 95, 3) := by decide +kernel
theorem dX6_sell_64 : decode cX6_sell 64 = .ok (.iload 5, 2) := by decide +kernel
theorem dX6_sell_66 : decode cX6_sell 66 = .ok (.iaload, 1) := by decide +kernel
theorem dX6_sell_67 : decode cX6_sell 67 = .ok (.invokevirtual 135, 3) := by decide +kernel
theorem dX6_sell_70 : decode cX6_sell 70 = .ok (.isub, 1) := by decide +kernel
theorem dX6_sell_71 : decode cX6_sell 71 = .ok (.iastore, 1) := by decide +kernel
theorem dX6_sell_72 : decode cX6_sell 72 = .ok (.iinc 4 (-1), 3) := by decide +kernel
theorem dX6_sell_75 : decode cX6_sell 75 = .ok (.goto (-49), 3) := by decide +kernel
theorem dX6_sell_78 : decode cX6_sell 78 = .ok (.iinc 2 1, 3) := by decide +kernel
theorem dX6_sell_81 : decode cX6_sell 81 = .ok (.goto (-79), 3) := by decide +kernel
theorem dX6_sell_84 : decode cX6_sell 84 = .ok (.return_, 1) := by decide +kernel
theorem dX6_sellTo_0 : decode cX6_sellTo 0 = .ok (.aload_n 0, 1) := by decide +kernel
theorem dX6_sellTo_1 : decode cX6_sellTo 1 = .ok (.getfield 27, 3) := by decide +kernel
theorem dX6_sellTo_4 : decode cX6_sellTo 4 = .ok (.getfield 139, 3) := by decide +kernel
theorem dX6_sellTo_7 : decode cX6_sellTo 7 = .ok (.iload_n 2, 1) := by decide +kernel
theorem dX6_sellTo_8 : decode cX6_sellTo 8 = .ok (.iaload, 1) := by decide +kernel
theorem dX6_sellTo_9 : decode cX6_sellTo 9 = .ok (.istore 4, 2) := by decide +kernel
theorem dX6_sellTo_11 : decode cX6_sellTo 11 = .ok (.iload_n 3, 1) := by decide +kernel
theorem dX6_sellTo_12 : decode cX6_sellTo 12 = .ok (.istore 5, 2) := by decide +kernel
theorem dX6_sellTo_14 : decode cX6_sellTo 14 = .ok (.iconst 0, 1) := by decide +kernel
theorem dX6_sellTo_15 : decode cX6_sellTo 15 = .ok (.istore 6, 2) := by decide +kernel
theorem dX6_sellTo_17 : decode cX6_sellTo 17 = .ok (.iload 6, 2) := by decide +kernel
theorem dX6_sellTo_19 : decode cX6_sellTo 19 = .ok (.aload_n 0, 1) := by decide +kernel
theorem dX6_sellTo_20 : decode cX6_sellTo 20 = .ok (.getfield 129, 3) := by decide +kernel
theorem dX6_sellTo_23 : decode cX6_sellTo 23 = .ok (.if_icmp .ge 119, 3) := by decide +kernel
theorem dX6_sellTo_26 : decode cX6_sellTo 26 = .ok (.iload 5, 2) := by decide +kernel
theorem dX6_sellTo_28 : decode cX6_sellTo 28 = .ok (.ifCond .le 114, 3) := by decide +kernel
theorem dX6_sellTo_31 : decode cX6_sellTo 31 = .ok (.aload_n 0, 1) := by decide +kernel
theorem dX6_sellTo_32 : decode cX6_sellTo 32 = .ok (.getfield 18, 3) := by decide +kernel
theorem dX6_sellTo_35 : decode cX6_sellTo 35 = .ok (.iload 6, 2) := by decide +kernel
theorem dX6_sellTo_37 : decode cX6_sellTo 37 = .ok (.iaload, 1) := by decide +kernel
theorem dX6_sellTo_38 : decode cX6_sellTo 38 = .ok (.istore 7, 2) := by decide +kernel
theorem dX6_sellTo_40 : decode cX6_sellTo 40 = .ok (.aload_n 1, 1) := by decide +kernel
theorem dX6_sellTo_41 : decode cX6_sellTo 41 = .ok (.getfield 110, 3) := by decide +kernel
theorem dX6_sellTo_44 : decode cX6_sellTo 44 = .ok (.iload 7, 2) := by decide +kernel
theorem dX6_sellTo_46 : decode cX6_sellTo 46 = .ok (.iaload, 1) := by decide +kernel
theorem dX6_sellTo_47 : decode cX6_sellTo 47 = .ok (.istore 8, 2) := by decide +kernel
theorem dX6_sellTo_49 : decode cX6_sellTo 49 = .ok (.iload 8, 2) := by decide +kernel
theorem dX6_sellTo_51 : decode cX6_sellTo 51 = .ok (.iload 4, 2) := by decide +kernel
theorem dX6_sellTo_53 : decode cX6_sellTo 53 = .ok (.if_icmp .le 6, 3) := by decide +kernel
theorem dX6_sellTo_56 : decode cX6_sellTo 56 = .ok (.goto 86, 3) := by decide +kernel
theorem dX6_sellTo_59 : decode cX6_sellTo 59 = .ok (.iload 5, 2) := by decide +kernel
theorem dX6_sellTo_61 : decode cX6_sellTo 61 = .ok (.aload_n 1, 1) := by decide +kernel
theorem dX6_sellTo_62 : decode cX6_sellTo 62 = .ok (.getfield 72, 3) := by decide +kernel
theorem dX6_sellTo_65 : decode cX6_sellTo 65 = .ok (.iload 7, 2) := by decide +kernel
theorem dX6_sellTo_67 : decode cX6_sellTo 67 = .ok (.iaload, 1) := by decide +kernel
theorem dX6_sellTo_68 : decode cX6_sellTo 68 = .ok (.invokestatic 77, 3) := by decide +kernel
theorem dX6_sellTo_71 : decode cX6_sellTo 71 = .ok (.istore 9, 2) := by decide +kernel
theorem dX6_sellTo_73 : decode cX6_sellTo 73 = .ok (.aload_n 1, 1) := by decide +kernel
theorem dX6_sellTo_74 : decode cX6_sellTo 74 = .ok (.getfield 72, 3) := by decide +kernel
theorem dX6_sellTo_77 : decode cX6_sellTo 77 = .ok (.iload 7, 2) := by decide +kernel
theorem dX6_sellTo_79 : decode cX6_sellTo 79 = .ok (.dup2, 1) := by decide +kernel
theorem dX6_sellTo_80 : decode cX6_sellTo 80 = .ok (.iaload, 1) := by decide +kernel
theorem dX6_sellTo_81 : decode cX6_sellTo 81 = .ok (.iload 9, 2) := by decide +kernel
theorem dX6_sellTo_83 : decode cX6_sellTo 83 = .ok (.isub, 1) := by decide +kernel
theorem dX6_sellTo_84 : decode cX6_sellTo 84 = .ok (.iastore, 1) := by decide +kernel
theorem dX6_sellTo_85 : decode cX6_sellTo 85 = .ok (.aload_n 1, 1) := by decide +kernel
theorem dX6_sellTo_86 : decode cX6_sellTo 86 = .ok (.getfield 89, 3) := by decide +kernel
theorem dX6_sellTo_89 : decode cX6_sellTo 89 = .ok (.iload 7, 2) := by decide +kernel
theorem dX6_sellTo_91 : decode cX6_sellTo 91 = .ok (.dup2, 1) := by decide +kernel
theorem dX6_sellTo_92 : decode cX6_sellTo 92 = .ok (.iaload, 1) := by decide +kernel
theorem dX6_sellTo_93 : decode cX6_sellTo 93 = .ok (.iload 9, 2) := by decide +kernel
theorem dX6_sellTo_95 : decode cX6_sellTo 95 = .ok (.iadd, 1) := by decide +kernel
theorem dX6_sellTo_96 : decode cX6_sellTo 96 = .ok (.iastore, 1) := by decide +kernel
theorem dX6_sellTo_97 : decode cX6_sellTo 97 = .ok (.aload_n 1, 1) := by decide +kernel
theorem dX6_sellTo_98 : decode cX6_sellTo 98 = .ok (.getfield 83, 3) := by decide +kernel
theorem dX6_sellTo_101 : decode cX6_sellTo 101 = .ok (.iload 7, 2) := by decide +kernel
theorem dX6_sellTo_103 : decode cX6_sellTo 103 = .ok (.dup2, 1) := by decide +kernel
theorem dX6_sellTo_104 : decode cX6_sellTo 104 = .ok (.iaload, 1) := by decide +kernel
theorem dX6_sellTo_105 : decode cX6_sellTo 105 = .ok (.iload 9, 2) := by decide +kernel
theorem dX6_sellTo_107 : decode cX6_sellTo 107 = .ok (.iload 8, 2) := by decide +kernel
theorem dX6_sellTo_109 : decode cX6_sellTo 109 = .ok (.imul, 1) := by decide +kernel
theorem dX6_sellTo_110 : decode cX6_sellTo 110 = .ok (.iadd, 1) := by decide +kernel
theorem dX6_sellTo_111 : decode cX6_sellTo 111 = .ok (.iastore, 1) := by decide +kernel
theorem dX6_sellTo_112 : decode cX6_sellTo 112 = .ok (.aload_n 1, 1) := by decide +kernel
theorem dX6_sellTo_113 : decode cX6_sellTo 113 = .ok (.dup, 1) := by decide +kernel
theorem dX6_sellTo_114 : decode cX6_sellTo 114 = .ok (.getfield 141, 3) := by decide +kernel
theorem dX6_sellTo_117 : decode cX6_sellTo 117 = .ok (.iload 9, 2) := by decide +kernel
theorem dX6_sellTo_119 : decode cX6_sellTo 119 = .ok (.iload 4, 2) := by decide +kernel
theorem dX6_sellTo_121 : decode cX6_sellTo 121 = .ok (.iload 8, 2) := by decide +kernel
theorem dX6_sellTo_123 : decode cX6_sellTo 123 = .ok (.isub, 1) := by decide +kernel
theorem dX6_sellTo_124 : decode cX6_sellTo 124 = .ok (.imul, 1) := by decide +kernel
theorem dX6_sellTo_125 : decode cX6_sellTo 125 = .ok (.iadd, 1) := by decide +kernel
theorem dX6_sellTo_126 : decode cX6_sellTo 126 = .ok (.putfield 141, 3) := by decide +kernel
theorem dX6_sellTo_129 : decode cX6_sellTo 129 = .ok (.iload 5, 2) := by decide +kernel
theorem dX6_sellTo_131 : decode cX6_sellTo 131 = .ok (.iload 9, 2) := by decide +kernel
theorem dX6_sellTo_133 : decode cX6_sellTo 133 = .ok (.isub, 1) := by decide +kernel
theorem dX6_sellTo_134 : decode cX6_sellTo 134 = .ok (.istore 5, 2) := by decide +kernel
theorem dX6_sellTo_136 : decode cX6_sellTo 136 = .ok (.iinc 6 1, 3) := by decide +kernel
theorem dX6_sellTo_139 : decode cX6_sellTo 139 = .ok (.goto (-122), 3) := by decide +kernel
theorem dX6_sellTo_142 : decode cX6_sellTo 142 = .ok (.aload_n 1, 1) := by decide +kernel
theorem dX6_sellTo_143 : decode cX6_sellTo 143 = .ok (.getfield 144, 3) := by decide +kernel
theorem dX6_sellTo_146 : decode cX6_sellTo 146 = .ok (.iload_n 2, 1) := by decide +kernel
theorem dX6_sellTo_147 : decode cX6_sellTo 147 = .ok (.dup2, 1) := by decide +kernel
theorem dX6_sellTo_148 : decode cX6_sellTo 148 = .ok (.iaload, 1) := by decide +kernel
theorem dX6_sellTo_149 : decode cX6_sellTo 149 = .ok (.iload_n 3, 1) := by decide +kernel
theorem dX6_sellTo_150 : decode cX6_sellTo 150 = .ok (.iload 5, 2) := by decide +kernel
theorem dX6_sellTo_152 : decode cX6_sellTo 152 = .ok (.isub, 1) := by decide +kernel
theorem dX6_sellTo_153 : decode cX6_sellTo 153 = .ok (.iadd, 1) := by decide +kernel
theorem dX6_sellTo_154 : decode cX6_sellTo 154 = .ok (.iastore, 1) := by decide +kernel
theorem dX6_sellTo_155 : decode cX6_sellTo 155 = .ok (.iload_n 3, 1) := by decide +kernel
theorem dX6_sellTo_156 : decode cX6_sellTo 156 = .ok (.iload 5, 2) := by decide +kernel
theorem dX6_sellTo_158 : decode cX6_sellTo 158 = .ok (.isub, 1) := by decide +kernel
theorem dX6_sellTo_159 : decode cX6_sellTo 159 = .ok (.ireturn, 1) := by decide +kernel
theorem dX6_leadBoard_0 : decode cX6_leadBoard 0 = .ok (.iconst 0, 1) := by decide +kernel
theorem dX6_leadBoard_1 : decode cX6_leadBoard 1 = .ok (.istore_n 2, 1) := by decide +kernel
theorem dX6_leadBoard_2 : decode cX6_leadBoard 2 = .ok (.iconst 0, 1) := by decide +kernel
theorem dX6_leadBoard_3 : decode cX6_leadBoard 3 = .ok (.istore_n 3, 1) := by decide +kernel
theorem dX6_leadBoard_4 : decode cX6_leadBoard 4 = .ok (.iload_n 3, 1) := by decide +kernel
theorem dX6_leadBoard_5 : decode cX6_leadBoard 5 = .ok (.aload_n 0, 1) := by decide +kernel
theorem dX6_leadBoard_6 : decode cX6_leadBoard 6 = .ok (.getfield 41, 3) := by decide +kernel
theorem dX6_leadBoard_9 : decode cX6_leadBoard 9 = .ok (.if_icmp .ge 85, 3) := by decide +kernel
theorem dX6_leadBoard_12 : decode cX6_leadBoard 12 = .ok (.aload_n 1, 1) := by decide +kernel
theorem dX6_leadBoard_13 : decode cX6_leadBoard 13 = .ok (.getfield 72, 3) := by decide +kernel
theorem dX6_leadBoard_16 : decode cX6_leadBoard 16 = .ok (.iload_n 3, 1) := by decide +kernel
theorem dX6_leadBoard_17 : decode cX6_leadBoard 17 = .ok (.iaload, 1) := by decide +kernel
theorem dX6_leadBoard_18 : decode cX6_leadBoard 18 = .ok (.ifCond .ne 6, 3) := by decide +kernel
theorem dX6_leadBoard_21 : decode cX6_leadBoard 21 = .ok (.goto 67, 3) := by decide +kernel
theorem dX6_leadBoard_24 : decode cX6_leadBoard 24 = .ok (.iload_n 2, 1) := by decide +kernel
theorem dX6_leadBoard_25 : decode cX6_leadBoard 25 = .ok (.istore 4, 2) := by decide +kernel
theorem dX6_leadBoard_27 : decode cX6_leadBoard 27 = .ok (.iload 4, 2) := by decide +kernel
theorem dX6_leadBoard_29 : decode cX6_leadBoard 29 = .ok (.ifCond .le 43, 3) := by decide +kernel
theorem dX6_leadBoard_32 : decode cX6_leadBoard 32 = .ok (.aload_n 0, 1) := by decide +kernel
theorem dX6_leadBoard_33 : decode cX6_leadBoard 33 = .ok (.getfield 21, 3) := by decide +kernel
theorem dX6_leadBoard_36 : decode cX6_leadBoard 36 = .ok (.iload 4, 2) := by decide +kernel
theorem dX6_leadBoard_38 : decode cX6_leadBoard 38 = .ok (.iconst 1, 1) := by decide +kernel
theorem dX6_leadBoard_39 : decode cX6_leadBoard 39 = .ok (.isub, 1) := by decide +kernel
theorem dX6_leadBoard_40 : decode cX6_leadBoard 40 = .ok (.iaload, 1) := by decide +kernel
theorem dX6_leadBoard_41 : decode cX6_leadBoard 41 = .ok (.aload_n 1, 1) := by decide +kernel
theorem dX6_leadBoard_42 : decode cX6_leadBoard 42 = .ok (.getfield 110, 3) := by decide +kernel
theorem dX6_leadBoard_45 : decode cX6_leadBoard 45 = .ok (.iload_n 3, 1) := by decide +kernel
theorem dX6_leadBoard_46 : decode cX6_leadBoard 46 = .ok (.iaload, 1) := by decide +kernel
theorem dX6_leadBoard_47 : decode cX6_leadBoard 47 = .ok (.if_icmp .le 25, 3) := by decide +kernel
theorem dX6_leadBoard_50 : decode cX6_leadBoard 50 = .ok (.aload_n 0, 1) := by decide +kernel
theorem dX6_leadBoard_51 : decode cX6_leadBoard 51 = .ok (.getfield 21, 3) := by decide +kernel
theorem dX6_leadBoard_54 : decode cX6_leadBoard 54 = .ok (.iload 4, 2) := by decide +kernel
theorem dX6_leadBoard_56 : decode cX6_leadBoard 56 = .ok (.aload_n 0, 1) := by decide +kernel
theorem dX6_leadBoard_57 : decode cX6_leadBoard 57 = .ok (.getfield 21, 3) := by decide +kernel
theorem dX6_leadBoard_60 : decode cX6_leadBoard 60 = .ok (.iload 4, 2) := by decide +kernel
theorem dX6_leadBoard_62 : decode cX6_leadBoard 62 = .ok (.iconst 1, 1) := by decide +kernel
theorem dX6_leadBoard_63 : decode cX6_leadBoard 63 = .ok (.isub, 1) := by decide +kernel
theorem dX6_leadBoard_64 : decode cX6_leadBoard 64 = .ok (.iaload, 1) := by decide +kernel
theorem dX6_leadBoard_65 : decode cX6_leadBoard 65 = .ok (.iastore, 1) := by decide +kernel
theorem dX6_leadBoard_66 : decode cX6_leadBoard 66 = .ok (.iinc 4 (-1), 3) := by decide +kernel
theorem dX6_leadBoard_69 : decode cX6_leadBoard 69 = .ok (.goto (-42), 3) := by decide +kernel
theorem dX6_leadBoard_72 : decode cX6_leadBoard 72 = .ok (.aload_n 0, 1) := by decide +kernel
theorem dX6_leadBoard_73 : decode cX6_leadBoard 73 = .ok (.getfield 21, 3) := by decide +kernel
theorem dX6_leadBoard_76 : decode cX6_leadBoard 76 = .ok (.iload 4, 2) := by decide +kernel
theorem dX6_leadBoard_78 : decode cX6_leadBoard 78 = .ok (.aload_n 1, 1) := by decide +kernel
theorem dX6_leadBoard_79 : decode cX6_leadBoard 79 = .ok (.getfield 110, 3) := by decide +kernel
theorem dX6_leadBoard_82 : decode cX6_leadBoard 82 = .ok (.iload_n 3, 1) := by decide +kernel
theorem dX6_leadBoard_83 : decode cX6_leadBoard 83 = .ok (.iaload, 1) := by decide +kernel
theorem dX6_leadBoard_84 : decode cX6_leadBoard 84 = .ok (.iastore, 1) := by decide +kernel
theorem dX6_leadBoard_85 : decode cX6_leadBoard 85 = .ok (.iinc 2 1, 3) := by decide +kernel
theorem dX6_leadBoard_88 : decode cX6_leadBoard 88 = .ok (.iinc 3 1, 3) := by decide +kernel
theorem dX6_leadBoard_91 : decode cX6_leadBoard 91 = .ok (.goto (-87), 3) := by decide +kernel
theorem dX6_leadBoard_94 : decode cX6_leadBoard 94 = .ok (.aload_n 0, 1) := by decide +kernel
theorem dX6_leadBoard_95 : decode cX6_leadBoard 95 = .ok (.iload_n 2, 1) := by decide +kernel
theorem dX6_leadBoard_96 : decode cX6_leadBoard 96 = .ok (.ifCond .ne 7, 3) := by decide +kernel
theorem dX6_leadBoard_99 : decode cX6_leadBoard 99 = .ok (.iconst 1, 1) := by decide +kernel
theorem dX6_leadBoard_100 : decode cX6_leadBoard 100 = .ok (.goto 4, 3) := by decide +kernel
theorem dX6_leadBoard_103 : decode cX6_leadBoard 103 = .ok (.iconst 0, 1) := by decide +kernel
theorem dX6_leadBoard_104 : decode cX6_leadBoard 104 = .ok (.putfield 147, 3) := by decide +kernel
theorem dX6_leadBoard_107 : decode cX6_leadBoard 107 = .ok (.aload_n 0, 1) := by decide +kernel
theorem dX6_leadBoard_108 : decode cX6_leadBoard 108 = .ok (.getfield 147, 3) := by decide +kernel
theorem dX6_leadBoard_111 : decode cX6_leadBoard 111 = .ok (.ifCond .eq 15, 3) := by decide +kernel
theorem dX6_leadBoard_114 : decode cX6_leadBoard 114 = .ok (.aload_n 1, 1) := by decide +kernel
theorem dX6_leadBoard_115 : decode cX6_leadBoard 115 = .ok (.aload_n 0, 1) := by decide +kernel
theorem dX6_leadBoard_116 : decode cX6_leadBoard 116 = .ok (.getfield 27, 3) := by decide +kernel
theorem dX6_leadBoard_119 : decode cX6_leadBoard 119 = .ok (.getfield 151, 3) := by decide +kernel
theorem dX6_leadBoard_122 : decode cX6_leadBoard 122 = .ok (.putfield 101, 3) := by decide +kernel
theorem dX6_leadBoard_125 : decode cX6_leadBoard 125 = .ok (.return_, 1) := by decide +kernel
theorem dX6_leadBoard_126 : decode cX6_leadBoard 126 = .ok (.aload_n 0, 1) := by decide +kernel
theorem dX6_leadBoard_127 : decode cX6_leadBoard 127 = .ok (.getfield 47, 3) := by decide +kernel
theorem dX6_leadBoard_130 : decode cX6_leadBoard 130 = .ok (.lookupswitch 54 #[(0, 26), (1, 39)], 26) := by decide +kernel
theorem dX6_leadBoard_156 : decode cX6_leadBoard 156 = .ok (.aload_n 1, 1) := by decide +kernel
theorem dX6_leadBoard_157 : decode cX6_leadBoard 157 = .ok (.aload_n 0, 1) := by decide +kernel
theorem dX6_leadBoard_158 : decode cX6_leadBoard 158 = .ok (.getfield 21, 3) := by decide +kernel
theorem dX6_leadBoard_161 : decode cX6_leadBoard 161 = .ok (.iconst 0, 1) := by decide +kernel
theorem dX6_leadBoard_162 : decode cX6_leadBoard 162 = .ok (.iaload, 1) := by decide +kernel
theorem dX6_leadBoard_163 : decode cX6_leadBoard 163 = .ok (.putfield 101, 3) := by decide +kernel
theorem dX6_leadBoard_166 : decode cX6_leadBoard 166 = .ok (.goto 32, 3) := by decide +kernel
theorem dX6_leadBoard_169 : decode cX6_leadBoard 169 = .ok (.aload_n 1, 1) := by decide +kernel
theorem dX6_leadBoard_170 : decode cX6_leadBoard 170 = .ok (.aload_n 0, 1) := by decide +kernel
theorem dX6_leadBoard_171 : decode cX6_leadBoard 171 = .ok (.getfield 21, 3) := by decide +kernel
theorem dX6_leadBoard_174 : decode cX6_leadBoard 174 = .ok (.iload_n 2, 1) := by decide +kernel
theorem dX6_leadBoard_175 : decode cX6_leadBoard 175 = .ok (.iconst 1, 1) := by decide +kernel
theorem dX6_leadBoard_176 : decode cX6_leadBoard 176 = .ok (.isub, 1) := by decide +kernel
theorem dX6_leadBoard_177 : decode cX6_leadBoard 177 = .ok (.iaload, 1) := by decide +kernel
theorem dX6_leadBoard_178 : decode cX6_leadBoard 178 = .ok (.putfield 101, 3) := by decide +kernel
theorem dX6_leadBoard_181 : decode cX6_leadBoard 181 = .ok (.goto 17, 3) := by decide +kernel
theorem dX6_leadBoard_184 : decode cX6_leadBoard 184 = .ok (.aload_n 1, 1) := by decide +kernel
theorem dX6_leadBoard_185 : decode cX6_leadBoard 185 = .ok (.aload_n 0, 1) := by decide +kernel
theorem dX6_leadBoard_186 : decode cX6_leadBoard 186 = .ok (.getfield 21, 3) := by decide +kernel
theorem dX6_leadBoard_189 : decode cX6_leadBoard 189 = .ok (.iload_n 2, 1) := by decide +kernel
theorem dX6_leadBoard_190 : decode cX6_leadBoard 190 = .ok (.iconst 1, 1) := by decide +kernel
theorem dX6_leadBoard_191 : decode cX6_leadBoard 191 = .ok (.isub, 1) := by decide +kernel
theorem dX6_leadBoard_192 : decode cX6_leadBoard 192 = .ok (.iconst 2, 1) := by decide +kernel
theorem dX6_leadBoard_193 : decode cX6_leadBoard 193 = .ok (.idiv, 1) := by decide +kernel
theorem dX6_leadBoard_194 : decode cX6_leadBoard 194 = .ok (.iaload, 1) := by decide +kernel
theorem dX6_leadBoard_195 : decode cX6_leadBoard 195 = .ok (.putfield 101, 3) := by decide +kernel
theorem dX6_leadBoard_198 : decode cX6_leadBoard 198 = .ok (.return_, 1) := by decide +kernel
theorem dX6_closeDay_0 : decode cX6_closeDay 0 = .ok (.iconst 0, 1) := by decide +kernel
theorem dX6_closeDay_1 : decode cX6_closeDay 1 = .ok (.istore_n 2, 1) := by decide +kernel
theorem dX6_closeDay_2 : decode cX6_closeDay 2 = .ok (.iload_n 2, 1) := by decide +kernel
theorem dX6_closeDay_3 : decode cX6_closeDay 3 = .ok (.aload_n 0, 1) := by decide +kernel
theorem dX6_closeDay_4 : decode cX6_closeDay 4 = .ok (.getfield 41, 3) := by decide +kernel
theorem dX6_closeDay_7 : decode cX6_closeDay 7 = .ok (.if_icmp .ge 48, 3) := by decide +kernel
theorem dX6_closeDay_10 : decode cX6_closeDay 10 = .ok (.aload_n 1, 1) := by decide +kernel
theorem dX6_closeDay_11 : decode cX6_closeDay 11 = .ok (.getfield 117, 3) := by decide +kernel
theorem dX6_closeDay_14 : decode cX6_closeDay 14 = .ok (.iload_n 2, 1) := by decide +kernel
theorem dX6_closeDay_15 : decode cX6_closeDay 15 = .ok (.aload_n 1, 1) := by decide +kernel
theorem dX6_closeDay_16 : decode cX6_closeDay 16 = .ok (.getfield 72, 3) := by decide +kernel
theorem dX6_closeDay_19 : decode cX6_closeDay 19 = .ok (.iload_n 2, 1) := by decide +kernel
theorem dX6_closeDay_20 : decode cX6_closeDay 20 = .ok (.iaload, 1) := by decide +kernel
theorem dX6_closeDay_21 : decode cX6_closeDay 21 = .ok (.iastore, 1) := by decide +kernel
theorem dX6_closeDay_22 : decode cX6_closeDay 22 = .ok (.aload_n 1, 1) := by decide +kernel
theorem dX6_closeDay_23 : decode cX6_closeDay 23 = .ok (.getfield 72, 3) := by decide +kernel
theorem dX6_closeDay_26 : decode cX6_closeDay 26 = .ok (.iload_n 2, 1) := by decide +kernel
theorem dX6_closeDay_27 : decode cX6_closeDay 27 = .ok (.dup2, 1) := by decide +kernel
theorem dX6_closeDay_28 : decode cX6_closeDay 28 = .ok (.iaload, 1) := by decide +kernel
theorem dX6_closeDay_29 : decode cX6_closeDay 29 = .ok (.aload_n 0, 1) := by decide +kernel
theorem dX6_closeDay_30 : decode cX6_closeDay 30 = .ok (.getfield 27, 3) := by decide +kernel
theorem dX6_closeDay_33 : decode cX6_closeDay 33 = .ok (.getfield 154, 3) := by decide +kernel
theorem dX6_closeDay_36 : decode cX6_closeDay 36 = .ok (.iload_n 2, 1) := by decide +kernel
theorem dX6_closeDay_37 : decode cX6_closeDay 37 = .ok (.iaload, 1) := by decide +kernel
theorem dX6_closeDay_38 : decode cX6_closeDay 38 = .ok (.aload_n 1, 1) := by decide +kernel
theorem dX6_closeDay_39 : decode cX6_closeDay 39 = .ok (.getfield 72, 3) := by decide +kernel
theorem dX6_closeDay_42 : decode cX6_closeDay 42 = .ok (.iload_n 2, 1) := by decide +kernel
theorem dX6_closeDay_43 : decode cX6_closeDay 43 = .ok (.iaload, 1) := by decide +kernel
theorem dX6_closeDay_44 : decode cX6_closeDay 44 = .ok (.invokestatic 77, 3) := by decide +kernel
theorem dX6_closeDay_47 : decode cX6_closeDay 47 = .ok (.isub, 1) := by decide +kernel
theorem dX6_closeDay_48 : decode cX6_closeDay 48 = .ok (.iastore, 1) := by decide +kernel
theorem dX6_closeDay_49 : decode cX6_closeDay 49 = .ok (.iinc 2 1, 3) := by decide +kernel
theorem dX6_closeDay_52 : decode cX6_closeDay 52 = .ok (.goto (-50), 3) := by decide +kernel
theorem dX6_closeDay_55 : decode cX6_closeDay 55 = .ok (.iconst 0, 1) := by decide +kernel
theorem dX6_closeDay_56 : decode cX6_closeDay 56 = .ok (.istore_n 2, 1) := by decide +kernel
theorem dX6_closeDay_57 : decode cX6_closeDay 57 = .ok (.iload_n 2, 1) := by decide +kernel
theorem dX6_closeDay_58 : decode cX6_closeDay 58 = .ok (.aload_n 0, 1) := by decide +kernel
theorem dX6_closeDay_59 : decode cX6_closeDay 59 = .ok (.getfield 27, 3) := by decide +kernel
theorem dX6_closeDay_62 : decode cX6_closeDay 62 = .ok (.getfield 92, 3) := by decide +kernel
theorem dX6_closeDay_65 : decode cX6_closeDay 65 = .ok (.if_icmp .ge 97, 3) := by decide +kernel
theorem dX6_closeDay_68 : decode cX6_closeDay 68 = .ok (.iload_n 2, 1) := by decide +kernel
theorem dX6_closeDay_69 : decode cX6_closeDay 69 = .ok (.iconst 4, 1) := by decide +kernel
theorem dX6_closeDay_70 : decode cX6_closeDay 70 = .ok (.imul, 1) := by decide +kernel
theorem dX6_closeDay_71 : decode cX6_closeDay 71 = .ok (.istore_n 3, 1) := by decide +kernel
theorem dX6_closeDay_72 : decode cX6_closeDay 72 = .ok (.iconst 3, 1) := by decide +kernel
theorem dX6_closeDay_73 : decode cX6_closeDay 73 = .ok (.istore 4, 2) := by decide +kernel
theorem dX6_closeDay_75 : decode cX6_closeDay 75 = .ok (.iload 4, 2) := by decide +kernel
theorem dX6_closeDay_77 : decode cX6_closeDay 77 = .ok (.ifCond .lt 79, 3) := by decide +kernel
theorem dX6_closeDay_80 : decode cX6_closeDay 80 = .ok (.aload_n 1, 1) := by decide +kernel
theorem dX6_closeDay_81 : decode cX6_closeDay 81 = .ok (.getfield 95, 3) := by decide +kernel
theorem dX6_closeDay_84 : decode cX6_closeDay 84 = .ok (.iload_n 3, 1) := by decide +kernel
theorem dX6_closeDay_85 : decode cX6_closeDay 85 = .ok (.iload 4, 2) := by decide +kernel
theorem dX6_closeDay_87 : decode cX6_closeDay 87 = .ok (.iadd, 1) := by decide +kernel
theorem dX6_closeDay_88 : decode cX6_closeDay 88 = .ok (.iaload, 1) := by decide +kernel
theorem dX6_closeDay_89 : decode cX6_closeDay 89 = .ok (.istore 5, 2) := by decide +kernel
theorem dX6_closeDay_91 : decode cX6_closeDay 91 = .ok (.aload_n 1, 1) := by decide +kernel
theorem dX6_closeDay_92 : decode cX6_closeDay 92 = .ok (.getfield 95, 3) := by decide +kernel
theorem dX6_closeDay_95 : decode cX6_closeDay 95 = .ok (.iload_n 3, 1) := by decide +kernel
theorem dX6_closeDay_96 : decode cX6_closeDay 96 = .ok (.iload 4, 2) := by decide +kernel
theorem dX6_closeDay_98 : decode cX6_closeDay 98 = .ok (.iadd, 1) := by decide +kernel
theorem dX6_closeDay_99 : decode cX6_closeDay 99 = .ok (.iconst 0, 1) := by decide +kernel
theorem dX6_closeDay_100 : decode cX6_closeDay 100 = .ok (.iastore, 1) := by decide +kernel
theorem dX6_closeDay_101 : decode cX6_closeDay 101 = .ok (.iload 4, 2) := by decide +kernel
theorem dX6_closeDay_103 : decode cX6_closeDay 103 = .ok (.aload_n 0, 1) := by decide +kernel
theorem dX6_closeDay_104 : decode cX6_closeDay 104 = .ok (.getfield 27, 3) := by decide +kernel
theorem dX6_closeDay_107 : decode cX6_closeDay 107 = .ok (.getfield 157, 3) := by decide +kernel
theorem dX6_closeDay_110 : decode cX6_closeDay 110 = .ok (.iload_n 2, 1) := by decide +kernel
theorem dX6_closeDay_111 : decode cX6_closeDay 111 = .ok (.iaload, 1) := by decide +kernel
theorem dX6_closeDay_112 : decode cX6_closeDay 112 = .ok (.if_icmp .ge 27, 3) := by decide +kernel
theorem dX6_closeDay_115 : decode cX6_closeDay 115 = .ok (.iload 4, 2) := by decide +kernel
theorem dX6_closeDay_117 : decode cX6_closeDay 117 = .ok (.iconst 1, 1) := by decide +kernel
theorem dX6_closeDay_118 : decode cX6_closeDay 118 = .ok (.iadd, 1) := by decide +kernel
theorem dX6_closeDay_119 : decode cX6_closeDay 119 = .ok (.iconst 4, 1) := by decide +kernel
theorem dX6_closeDay_120 : decode cX6_closeDay 120 = .ok (.if_icmp .ge 19, 3) := by decide +kernel
theorem dX6_closeDay_123 : decode cX6_closeDay 123 = .ok (.aload_n 1, 1) := by decide +kernel
theorem dX6_closeDay_124 : decode cX6_closeDay 124 = .ok (.getfield 95, 3) := by decide +kernel
theorem dX6_closeDay_127 : decode cX6_closeDay 127 = .ok (.iload_n 3, 1) := by decide +kernel
theorem dX6_closeDay_128 : decode cX6_closeDay 128 = .ok (.iload 4, 2) := by decide +kernel
theorem dX6_closeDay_130 : decode cX6_closeDay 130 = .ok (.iadd, 1) := by decide +kernel
theorem dX6_closeDay_131 : decode cX6_closeDay 131 = .ok (.iconst 1, 1) := by decide +kernel
theorem dX6_closeDay_132 : decode cX6_closeDay 132 = .ok (.iadd, 1) := by decide +kernel
theorem dX6_closeDay_133 : decode cX6_closeDay 133 = .ok (.iload 5, 2) := by decide +kernel
theorem dX6_closeDay_135 : decode cX6_closeDay 135 = .ok (.iastore, 1) := by decide +kernel
theorem dX6_closeDay_136 : decode cX6_closeDay 136 = .ok (.goto 14, 3) := by decide +kernel
theorem dX6_closeDay_139 : decode cX6_closeDay 139 = .ok (.aload_n 1, 1) := by decide +kernel
theorem dX6_closeDay_140 : decode cX6_closeDay 140 = .ok (.getfield 158, 3) := by decide +kernel
theorem dX6_closeDay_143 : decode cX6_closeDay 143 = .ok (.iload_n 2, 1) := by decide +kernel
theorem dX6_closeDay_144 : decode cX6_closeDay 144 = .ok (.dup2, 1) := by decide +kernel
theorem dX6_closeDay_145 : decode cX6_closeDay 145 = .ok (.iaload, 1) := by decide +kernel
theorem dX6_closeDay_146 : decode cX6_closeDay 146 = .ok (.iload 5, 2) := by decide +kernel
theorem dX6_closeDay_148 : decode cX6_closeDay 148 = .ok (.iadd, 1) := by decide +kernel
theorem dX6_closeDay_149 : decode cX6_closeDay 149 = .ok (.iastore, 1) := by decide +kernel
theorem dX6_closeDay_150 : decode cX6_closeDay 150 = .ok (.iinc 4 (-1), 3) := by decide +kernel
theorem dX6_closeDay_153 : decode cX6_closeDay 153 = .ok (.goto (-78), 3) := by decide +kernel
theorem dX6_closeDay_156 : decode cX6_closeDay 156 = .ok (.iinc 2 1, 3) := by decide +kernel
theorem dX6_closeDay_159 : decode cX6_closeDay 159 = .ok (.goto (-102), 3) := by decide +kernel
theorem dX6_closeDay_162 : decode cX6_closeDay 162 = .ok (.aload_n 1, 1) := by decide +kernel
theorem dX6_closeDay_163 : decode cX6_closeDay 163 = .ok (.dup, 1) := by decide +kernel
theorem dX6_closeDay_164 : decode cX6_closeDay 164 = .ok (.getfield 104, 3) := by decide +kernel
theorem dX6_closeDay_167 : decode cX6_closeDay 167 = .ok (.iconst 1, 1) := by decide +kernel
theorem dX6_closeDay_168 : decode cX6_closeDay 168 = .ok (.iadd, 1) := by decide +kernel
theorem dX6_closeDay_169 : decode cX6_closeDay 169 = .ok (.putfield 104, 3) := by decide +kernel
theorem dX6_closeDay_172 : decode cX6_closeDay 172 = .ok (.return_, 1) := by decide +kernel
theorem dX7_init_0 : decode cX7_init 0 = .ok (.aload_n 0, 1) := by decide +kernel
theorem dX7_init_1 : decode cX7_init 1 = .ok (.invokespecial 3, 3) := by decide +kernel
theorem dX7_init_4 : decode cX7_init 4 = .ok (.aload_n 0, 1) := by decide +kernel
theorem dX7_init_5 : decode cX7_init 5 = .ok (.bipush 61, 2) := by decide +kernel
theorem dX7_init_7 : decode cX7_init 7 = .ok (.anewarray 9, 3) := by decide +kernel
theorem dX7_init_10 : decode cX7_init 10 = .ok (.putfield 11, 3) := by decide +kernel
theorem dX7_init_13 : decode cX7_init 13 = .ok (.aload_n 0, 1) := by decide +kernel
theorem dX7_init_14 : decode cX7_init 14 = .ok (.iconst 3, 1) := by decide +kernel
theorem dX7_init_15 : decode cX7_init 15 = .ok (.sipush 9261, 3) := by decide +kernel
theorem dX7_init_18 : decode cX7_init 18 = .ok (.multianewarray 17 2, 4) := by decide +kernel
theorem dX7_init_22 : decode cX7_init 22 = .ok (.putfield 19, 3) := by decide +kernel
theorem dX7_init_25 : decode cX7_init 25 = .ok (.aload_n 0, 1) := by decide +kernel
theorem dX7_init_26 : decode cX7_init 26 = .ok (.aload_n 1, 1) := by decide +kernel
theorem dX7_init_27 : decode cX7_init 27 = .ok (.putfield 22, 3) := by decide +kernel
theorem dX7_init_30 : decode cX7_init 30 = .ok (.aload_n 0, 1) := by decide +kernel
theorem dX7_init_31 : decode cX7_init 31 = .ok (.aload_n 2, 1) := by decide +kernel
theorem dX7_init_32 : decode cX7_init 32 = .ok (.putfield 26, 3) := by decide +kernel
theorem dX7_init_35 : decode cX7_init 35 = .ok (.aload_n 0, 1) := by decide +kernel
theorem dX7_init_36 : decode cX7_init 36 = .ok (.aload_n 3, 1) := by decide +kernel
theorem dX7_init_37 : decode cX7_init 37 = .ok (.putfield 30, 3) := by decide +kernel
theorem dX7_init_40 : decode cX7_init 40 = .ok (.iconst 0, 1) := by decide +kernel
theorem dX7_init_41 : decode cX7_init 41 = .ok (.istore 4, 2) := by decide +kernel
theorem dX7_init_43 : decode cX7_init 43 = .ok (.iload 4, 2) := by decide +kernel
theorem dX7_init_45 : decode cX7_init 45 = .ok (.aload_n 0, 1) := by decide +kernel
theorem dX7_init_46 : decode cX7_init 46 = .ok (.getfield 11, 3) := by decide +kernel
theorem dX7_init_49 : decode cX7_init 49 = .ok (.arraylength, 1) := by decide +kernel
theorem dX7_init_50 : decode cX7_init 50 = .ok (.if_icmp .ge 23, 3) := by decide +kernel
theorem dX7_init_53 : decode cX7_init 53 = .ok (.aload_n 0, 1) := by decide +kernel
theorem dX7_init_54 : decode cX7_init 54 = .ok (.getfield 11, 3) := by decide +kernel
theorem dX7_init_57 : decode cX7_init 57 = .ok (.iload 4, 2) := by decide +kernel
theorem dX7_init_59 : decode cX7_init 59 = .ok (.new 9, 3) := by decide +kernel
theorem dX7_init_62 : decode cX7_init 62 = .ok (.dup, 1) := by decide +kernel
theorem dX7_init_63 : decode cX7_init 63 = .ok (.invokespecial 34, 3) := by decide +kernel
theorem dX7_init_66 : decode cX7_init 66 = .ok (.aastore, 1) := by decide +kernel
theorem dX7_init_67 : decode cX7_init 67 = .ok (.iinc 4 1, 3) := by decide +kernel
theorem dX7_init_70 : decode cX7_init 70 = .ok (.goto (-27), 3) := by decide +kernel
theorem dX7_init_73 : decode cX7_init 73 = .ok (.return_, 1) := by decide +kernel
theorem dX7_begin_0 : decode cX7_begin 0 = .ok (.aload_n 0, 1) := by decide +kernel
theorem dX7_begin_1 : decode cX7_begin 1 = .ok (.getfield 26, 3) := by decide +kernel
theorem dX7_begin_4 : decode cX7_begin 4 = .ok (.invokevirtual 35, 3) := by decide +kernel
theorem dX7_begin_7 : decode cX7_begin 7 = .ok (.aload_n 0, 1) := by decide +kernel
theorem dX7_begin_8 : decode cX7_begin 8 = .ok (.getfield 11, 3) := by decide +kernel
theorem dX7_begin_11 : decode cX7_begin 11 = .ok (.iconst 0, 1) := by decide +kernel
theorem dX7_begin_12 : decode cX7_begin 12 = .ok (.aaload, 1) := by decide +kernel
theorem dX7_begin_13 : decode cX7_begin 13 = .ok (.astore_n 1, 1) := by decide +kernel
theorem dX7_begin_14 : decode cX7_begin 14 = .ok (.aload_n 1, 1) := by decide +kernel
theorem dX7_begin_15 : decode cX7_begin 15 = .ok (.ifnull 11, 3) := by decide +kernel
theorem dX7_begin_18 : decode cX7_begin 18 = .ok (.aload_n 1, 1) := by decide +kernel
theorem dX7_begin_19 : decode cX7_begin 19 = .ok (.aload_n 0, 1) := by decide +kernel
theorem dX7_begin_20 : decode cX7_begin 20 = .ok (.getfield 30, 3) := by decide +kernel
theorem dX7_begin_23 : decode cX7_begin 23 = .ok (.invokevirtual 40, 3) := by decide +kernel
theorem dX7_begin_26 : decode cX7_begin 26 = .ok (.aload_n 1, 1) := by decide +kernel
theorem dX7_begin_27 : decode cX7_begin 27 = .ok (.areturn, 1) := by decide +kernel
theorem dX7_next_0 : decode cX7_next 0 = .ok (.iload_n 1, 1) := by decide +kernel
theorem dX7_next_1 : decode cX7_next 1 = .ok (.ifCond .lt 14, 3) := by decide +kernel
theorem dX7_next_4 : decode cX7_next 4 = .ok (.iload_n 1, 1) := by decide +kernel
theorem dX7_next_5 : decode cX7_next 5 = .ok (.iconst 1, 1) := by decide +kernel
theorem dX7_next_6 : decode cX7_next 6 = .ok (.iadd, 1) := by decide +kernel
theorem dX7_next_7 : decode cX7_next 7 = .ok (.aload_n 0, 1) := by decide +kernel
theorem dX7_next_8 : decode cX7_next 8 = .ok (.getfield 11, 3) := by decide +kernel
theorem dX7_next_11 : decode cX7_next 11 = .ok (.arraylength, 1) := by decide +kernel
theorem dX7_next_12 : decode cX7_next 12 = .ok (.if_icmp .lt 5, 3) := by decide +kernel
theorem dX7_next_15 : decode cX7_next 15 = .ok (.aconst_null, 1) := by decide +kernel
theorem dX7_next_16 : decode cX7_next 16 = .ok (.areturn, 1) := by decide +kernel
theorem dX7_next_17 : decode cX7_next 17 = .ok (.aload_n 0, 1) := by decide +kernel
theorem dX7_next_18 : decode cX7_next 18 = .ok (.getfield 11, 3) := by decide +kernel
theorem dX7_next_21 : decode cX7_next 21 = .ok (.iload_n 1, 1) := by decide +kernel
theorem dX7_next_22 : decode cX7_next 22 = .ok (.aaload, 1) := by decide +kernel
theorem dX7_next_23 : decode cX7_next 23 = .ok (.astore_n 3, 1) := by decide +kernel
theorem dX7_next_24 : decode cX7_next 24 = .ok (.aload_n 0, 1) := by decide +kernel
theorem dX7_next_25 : decode cX7_next 25 = .ok (.getfield 11, 3) := by decide +kernel
theorem dX7_next_28 : decode cX7_next 28 = .ok (.iload_n 1, 1) := by decide +kernel
theorem dX7_next_29 : decode cX7_next 29 = .ok (.iconst 1, 1) := by decide +kernel
theorem dX7_next_30 : decode cX7_next 30 = .ok (.iadd, 1) := by decide +kernel
theorem dX7_next_31 : decode cX7_next 31 = .ok (.aaload, 1) := by decide +kernel
theorem dX7_next_32 : decode cX7_next 32 = .ok (.astore 4, 2) := by decide +kernel
theorem dX7_next_34 : decode cX7_next 34 = .ok (.aload_n 3, 1) := by decide +kernel
theorem dX7_next_35 : decode cX7_next 35 = .ok (.ifnull 8, 3) := by decide +kernel
theorem dX7_next_38 : decode cX7_next 38 = .ok (.aload 4, 2) := by decide +kernel
theorem dX7_next_40 : decode cX7_next 40 = .ok (.ifnonnull 5, 3) := by decide +kernel
theorem dX7_next_43 : decode cX7_next 43 = .ok (.aconst_null, 1) := by decide +kernel
theorem dX7_next_44 : decode cX7_next 44 = .ok (.areturn, 1) := by decide +kernel
theorem dX7_next_45 : decode cX7_next 45 = .ok (.aload 4, 2) := by decide +kernel
theorem dX7_next_47 : decode cX7_next 47 = .ok (.aload_n 3, 1) := by decide +kernel
theorem dX7_next_48 : decode cX7_next 48 = .ok (.invokevirtual 40, 3) := by decide +kernel
theorem dX7_next_51 : decode cX7_next 51 = .ok (.aload_n 0, 1) := by decide +kernel
theorem dX7_next_52 : decode cX7_next 52 = .ok (.getfield 26, 3) := by decide +kernel
theorem dX7_next_55 : decode cX7_next 55 = .ok (.aload 4, 2) := by decide +kernel
theorem dX7_next_57 : decode cX7_next 57 = .ok (.iload_n 2, 1) := by decide +kernel
theorem dX7_next_58 : decode cX7_next 58 = .ok (.invokevirtual 44, 3) := by decide +kernel
theorem dX7_next_61 : decode cX7_next 61 = .ok (.aload 4, 2) := by decide +kernel
theorem dX7_next_63 : decode cX7_next 63 = .ok (.areturn, 1) := by decide +kernel
theorem dX7_findRing_0 : decode cX7_findRing 0 = .ok (.aload_n 0, 1) := by decide +kernel
theorem dX7_findRing_1 : decode cX7_findRing 1 = .ok (.invokevirtual 48, 3) := by decide +kernel
theorem dX7_findRing_4 : decode cX7_findRing 4 = .ok (.pop, 1) := by decide +kernel
theorem dX7_findRing_5 : decode cX7_findRing 5 = .ok (.iconst 0, 1) := by decide +kernel
theorem dX7_findRing_6 : decode cX7_findRing 6 = .ok (.istore_n 1, 1) := by decide +kernel
theorem dX7_findRing_7 : decode cX7_findRing 7 = .ok (.iload_n 1, 1) := by decide +kernel
theorem dX7_findRing_8 : decode cX7_findRing 8 = .ok (.bipush 60, 2) := by decide +kernel
theorem dX7_findRing_10 : decode cX7_findRing 10 = .ok (.if_icmp .ge 71, 3) := by decide +kernel
theorem dX7_findRing_13 : decode cX7_findRing 13 = .ok (.aload_n 0, 1) := by decide +kernel
theorem dX7_findRing_14 : decode cX7_findRing 14 = .ok (.iload_n 1, 1) := by decide +kernel
theorem dX7_findRing_15 : decode cX7_findRing 15 = .ok (.iconst 0, 1) := by decide +kernel
theorem dX7_findRing_16 : decode cX7_findRing 16 = .ok (.invokevirtual 51, 3) := by decide +kernel
theorem dX7_findRing_19 : decode cX7_findRing 19 = .ok (.astore_n 2, 1) := by decide +kernel
theorem dX7_findRing_20 : decode cX7_findRing 20 = .ok (.iconst 0, 1) := by decide +kernel
theorem dX7_findRing_21 : decode cX7_findRing 21 = .ok (.istore_n 3, 1) := by decide +kernel
theorem dX7_findRing_22 : decode cX7_findRing 22 = .ok (.iload_n 3, 1) := by decide +kernel
theorem dX7_findRing_23 : decode cX7_findRing 23 = .ok (.iload_n 1, 1) := by decide +kernel
theorem dX7_findRing_24 : decode cX7_findRing 24 = .ok (.if_icmp .gt 51, 3) := by decide +kernel
theorem dX7_findRing_27 : decode cX7_findRing 27 = .ok (.aload_n 2, 1) := by decide +kernel
theorem dX7_findRing_28 : decode cX7_findRing 28 = .ok (.ifnull 47, 3) := by decide +kernel
theorem dX7_findRing_31 : decode cX7_findRing 31 = .ok (.aload_n 0, 1) := by decide +kernel
theorem dX7_findRing_32 : decode cX7_findRing 32 = .ok (.getfield 11, 3) := by decide +kernel
theorem dX7_findRing_35 : decode cX7_findRing 35 = .ok (.iload_n 3, 1) := by decide +kernel
theorem dX7_findRing_36 : decode cX7_findRing 36 = .ok (.aaload, 1) := by decide +kernel
theorem dX7_findRing_37 : decode cX7_findRing 37 = .ok (.ifnull 32, 3) := by decide +kernel
theorem dX7_findRing_40 : decode cX7_findRing 40 = .ok (.aload_n 0, 1) := by decide +kernel
theorem dX7_findRing_41 : decode cX7_findRing 41 = .ok (.getfield 11, 3) := by decide +kernel
theorem dX7_findRing_44 : decode cX7_findRing 44 = .ok (.iload_n 3, 1) := by decide +kernel
theorem dX7_findRing_45 : decode cX7_findRing 45 = .ok (.aaload, 1) := by decide +kernel
theorem dX7_findRing_46 : decode cX7_findRing 46 = .ok (.aload_n 2, 1) := by decide +kernel
theorem dX7_findRing_47 : decode cX7_findRing 47 = .ok (.invokevirtual 55, 3) := by decide +kernel
theorem dX7_findRing_50 : decode cX7_findRing 50 = .ok (.ifCond .eq 19, 3) := by decide +kernel
theorem dX7_findRing_53 : decode cX7_findRing 53 = .ok (.aload_n 0, 1) := by decide +kernel
theorem dX7_findRing_54 : decode cX7_findRing 54 = .ok (.iload_n 3, 1) := by decide +kernel
theorem dX7_findRing_55 : decode cX7_findRing 55 = .ok (.putfield 59, 3) := by decide +kernel
theorem dX7_findRing_58 : decode cX7_findRing 58 = .ok (.aload_n 0, 1) := by decide +kernel
theorem dX7_findRing_59 : decode cX7_findRing 59 = .ok (.iload_n 1, 1) := by decide +kernel
theorem dX7_findRing_60 : decode cX7_findRing 60 = .ok (.iconst 1, 1) := by decide +kernel
theorem dX7_findRing_61 : decode cX7_findRing 61 = .ok (.iadd, 1) := by decide +kernel
theorem dX7_findRing_62 : decode cX7_findRing 62 = .ok (.iload_n 3, 1) := by decide +kernel
theorem dX7_findRing_63 : decode cX7_findRing 63 = .ok (.isub, 1) := by decide +kernel
theorem dX7_findRing_64 : decode cX7_findRing 64 = .ok (.putfield 63, 3) := by decide +kernel
theorem dX7_findRing_67 : decode cX7_findRing 67 = .ok (.iconst 1, 1) := by decide +kernel
theorem dX7_findRing_68 : decode cX7_findRing 68 = .ok (.ireturn, 1) := by decide +kernel
theorem dX7_findRing_69 : decode cX7_findRing 69 = .ok (.iinc 3 1, 3) := by decide +kernel
theorem dX7_findRing_72 : decode cX7_findRing 72 = .ok (.goto (-50), 3) := by decide +kernel
theorem dX7_findRing_75 : decode cX7_findRing 75 = .ok (.iinc 1 1, 3) := by decide +kernel
theorem dX7_findRing_78 : decode cX7_findRing 78 = .ok (.goto (-71), 3) := by decide +kernel
theorem dX7_findRing_81 : decode cX7_findRing 81 = .ok (.iconst 0, 1) := by decide +kernel
theorem dX7_findRing_82 : decode cX7_findRing 82 = .ok (.ireturn, 1) := by decide +kernel
theorem dX7_findBest_0 : decode cX7_findBest 0 = .ok (.aload_n 0, 1) := by decide +kernel
theorem dX7_findBest_1 : decode cX7_findBest 1 = .ok (.invokevirtual 48, 3) := by decide +kernel
theorem dX7_findBest_4 : decode cX7_findBest 4 = .ok (.astore_n 3, 1) := by decide +kernel
theorem dX7_findBest_5 : decode cX7_findBest 5 = .ok (.aload_n 0, 1) := by decide +kernel
theorem dX7_findBest_6 : decode cX7_findBest 6 = .ok (.iload_n 1, 1) := by decide +kernel
theorem dX7_findBest_7 : decode cX7_findBest 7 = .ok (.putfield 66, 3) := by decide +kernel
theorem dX7_findBest_10 : decode cX7_findBest 10 = .ok (.aload_n 0, 1) := by decide +kernel
theorem dX7_findBest_11 : decode cX7_findBest 11 = .ok (.iload_n 2, 1) := by decide +kernel
theorem dX7_findBest_12 : decode cX7_findBest 12 = .ok (.putfield 69, 3) := by decide +kernel
theorem dX7_findBest_15 : decode cX7_findBest 15 = .ok (.aload_n 0, 1) := by decide +kernel
theorem dX7_findBest_16 : decode cX7_findBest 16 = .ok (.iconst (-1), 1) := by decide +kernel
theorem dX7_findBest_17 : decode cX7_findBest 17 = .ok (.putfield 72, 3) := by decide +kernel
theorem dX7_findBest_20 : decode cX7_findBest 20 = .ok (.aload_n 0, 1) := by decide +kernel
theorem dX7_findBest_21 : decode cX7_findBest 21 = .ok (.iconst 0, 1) := by decide +kernel
theorem dX7_findBest_22 : decode cX7_findBest 22 = .ok (.putfield 75, 3) := by decide +kernel
theorem dX7_findBest_25 : decode cX7_findBest 25 = .ok (.aload_n 3, 1) := by decide +kernel
theorem dX7_findBest_26 : decode cX7_findBest 26 = .ok (.ifnull 15, 3) := by decide +kernel
theorem dX7_findBest_29 : decode cX7_findBest 29 = .ok (.aload_n 3, 1) := by decide +kernel
theorem dX7_findBest_30 : decode cX7_findBest 30 = .ok (.iload_n 1, 1) := by decide +kernel
theorem dX7_findBest_31 : decode cX7_findBest 31 = .ok (.iconst 0, 1) := by decide +kernel
theorem dX7_findBest_32 : decode cX7_findBest 32 = .ok (.invokevirtual 78, 3) := by decide +kernel
theorem dX7_findBest_35 : decode cX7_findBest 35 = .ok (.aload_n 0, 1) := by decide +kernel
theorem dX7_findBest_36 : decode cX7_findBest 36 = .ok (.iconst 0, 1) := by decide +kernel
theorem dX7_findBest_37 : decode cX7_findBest 37 = .ok (.iconst 0, 1) := by decide +kernel
theorem dX7_findBest_38 : decode cX7_findBest 38 = .ok (.invokevirtual 82, 3) := by decide +kernel
theorem dX7_findBest_41 : decode cX7_findBest 41 = .ok (.return_, 1) := by decide +kernel
theorem dX7_tryAskings_0 : decode cX7_tryAskings 0 = .ok (.iload_n 1, 1) := by decide +kernel
theorem dX7_tryAskings_1 : decode cX7_tryAskings 1 = .ok (.ifCond .lt 41, 3) := by decide +kernel
theorem dX7_tryAskings_4 : decode cX7_tryAskings 4 = .ok (.iload_n 1, 1) := by decide +kernel
theorem dX7_tryAskings_5 : decode cX7_tryAskings 5 = .ok (.iconst 3, 1) := by decide +kernel
theorem dX7_tryAskings_6 : decode cX7_tryAskings 6 = .ok (.if_icmp .gt 36, 3) := by decide +kernel
theorem dX7_tryAskings_9 : decode cX7_tryAskings 9 = .ok (.iload_n 1, 1) := by decide +kernel
theorem dX7_tryAskings_10 : decode cX7_tryAskings 10 = .ok (.aload_n 0, 1) := by decide +kernel
theorem dX7_tryAskings_11 : decode cX7_tryAskings 11 = .ok (.getfield 11, 3) := by decide +kernel
theorem dX7_tryAskings_14 : decode cX7_tryAskings 14 = .ok (.arraylength, 1) := by decide +kernel
theorem dX7_tryAskings_15 : decode cX7_tryAskings 15 = .ok (.if_icmp .ge 27, 3) := by decide +kernel
theorem dX7_tryAskings_18 : decode cX7_tryAskings 18 = .ok (.aload_n 0, 1) := by decide +kernel
theorem dX7_tryAskings_19 : decode cX7_tryAskings 19 = .ok (.getfield 11, 3) := by decide +kernel
theorem dX7_tryAskings_22 : decode cX7_tryAskings 22 = .ok (.iload_n 1, 1) := by decide +kernel
theorem dX7_tryAskings_23 : decode cX7_tryAskings 23 = .ok (.aaload, 1) := by decide +kernel
theorem dX7_tryAskings_24 : decode cX7_tryAskings 24 = .ok (.ifnull 18, 3) := by decide +kernel
theorem dX7_tryAskings_27 : decode cX7_tryAskings 27 = .ok (.aload_n 0, 1) := by decide +kernel
theorem dX7_tryAskings_28 : decode cX7_tryAskings 28 = .ok (.getfield 66, 3) := by decide +kernel
theorem dX7_tryAskings_31 : decode cX7_tryAskings 31 = .ok (.ifCond .lt 11, 3) := by decide +kernel
theorem dX7_tryAskings_34 : decode cX7_tryAskings 34 = .ok (.aload_n 0, 1) := by decide +kernel
theorem dX7_tryAskings_35 : decode cX7_tryAskings 35 = .ok (.getfield 66, 3) := by decide +kernel
theorem dX7_tryAskings_38 : decode cX7_tryAskings 38 = .ok (.iconst 5, 1) := by decide +kernel
theorem dX7_tryAskings_39 : decode cX7_tryAskings 39 = .ok (.if_icmp .lt 4, 3) := by decide +kernel
theorem dX7_tryAskings_42 : decode cX7_tryAskings 42 = .ok (.return_, 1) := by decide +kernel
theorem dX7_tryAskings_43 : decode cX7_tryAskings 43 = .ok (.aload_n 0, 1) := by decide +kernel
theorem dX7_tryAskings_44 : decode cX7_tryAskings 44 = .ok (.getfield 11, 3) := by decide +kernel
theorem dX7_tryAskings_47 : decode cX7_tryAskings 47 = .ok (.iload_n 1, 1) := by decide +kernel
theorem dX7_tryAskings_48 : decode cX7_tryAskings 48 = .ok (.aaload, 1) := by decide +kernel
theorem dX7_tryAskings_49 : decode cX7_tryAskings 49 = .ok (.astore_n 3, 1) := by decide +kernel
theorem dX7_tryAskings_50 : decode cX7_tryAskings 50 = .ok (.iload_n 1, 1) := by decide +kernel
theorem dX7_tryAskings_51 : decode cX7_tryAskings 51 = .ok (.aload_n 0, 1) := by decide +kernel
theorem dX7_tryAskings_52 : decode cX7_tryAskings 52 = .ok (.getfield 69, 3) := by decide +kernel
theorem dX7_tryAskings_55 : decode cX7_tryAskings 55 = .ok (.if_icmp .ne 56, 3) := by decide +kernel
theorem dX7_tryAskings_58 : decode cX7_tryAskings 58 = .ok (.aload_n 3, 1) := by decide +kernel
theorem dX7_tryAskings_59 : decode cX7_tryAskings 59 = .ok (.getfield 86, 3) := by decide +kernel
theorem dX7_tryAskings_62 : decode cX7_tryAskings 62 = .ok (.aload_n 0, 1) := by decide +kernel
theorem dX7_tryAskings_63 : decode cX7_tryAskings 63 = .ok (.getfield 66, 3) := by decide +kernel
theorem dX7_tryAskings_66 : decode cX7_tryAskings 66 = .ok (.iaload, 1) := by decide +kernel
theorem dX7_tryAskings_67 : decode cX7_tryAskings 67 = .ok (.aload_n 0, 1) := by decide +kernel
theorem dX7_tryAskings_68 : decode cX7_tryAskings 68 = .ok (.getfield 30, 3) := by decide +kernel
theorem dX7_tryAskings_71 : decode cX7_tryAskings 71 = .ok (.getfield 86, 3) := by decide +kernel
theorem dX7_tryAskings_74 : decode cX7_tryAskings 74 = .ok (.aload_n 0, 1) := by decide +kernel
theorem dX7_tryAskings_75 : decode cX7_tryAskings 75 = .ok (.getfield 66, 3) := by decide +kernel
theorem dX7_tryAskings_78 : decode cX7_tryAskings 78 = .ok (.iaload, 1) := by decide +kernel
theorem dX7_tryAskings_79 : decode cX7_tryAskings 79 = .ok (.isub, 1) := by decide +kernel
theorem dX7_tryAskings_80 : decode cX7_tryAskings 80 = .ok (.istore 4, 2) := by decide +kernel
theorem dX7_tryAskings_82 : decode cX7_tryAskings 82 = .ok (.aload_n 0, 1) := by decide +kernel
theorem dX7_tryAskings_83 : decode cX7_tryAskings 83 = .ok (.getfield 72, 3) := by decide +kernel
theorem dX7_tryAskings_86 : decode cX7_tryAskings 86 = .ok (.iconst (-1), 1) := by decide +kernel
theorem dX7_tryAskings_87 : decode cX7_tryAskings 87 = .ok (.if_icmp .eq 12, 3) := by decide +kernel
theorem dX7_tryAskings_90 : decode cX7_tryAskings 90 = .ok (.iload 4, 2) := by decide +kernel
theorem dX7_tryAskings_92 : decode cX7_tryAskings 92 = .ok (.aload_n 0, 1) := by decide +kernel
theorem dX7_tryAskings_93 : decode cX7_tryAskings 93 = .ok (.getfield 75, 3) := by decide +kernel
theorem dX7_tryAskings_96 : decode cX7_tryAskings 96 = .ok (.if_icmp .le 14, 3) := by decide +kernel
theorem dX7_tryAskings_99 : decode cX7_tryAskings 99 = .ok (.aload_n 0, 1) := by decide +kernel
theorem dX7_tryAskings_100 : decode cX7_tryAskings 100 = .ok (.iload_n 2, 1) := by decide +kernel
theorem dX7_tryAskings_101 : decode cX7_tryAskings 101 = .ok (.putfield 72, 3) := by decide +kernel
theorem dX7_tryAskings_104 : decode cX7_tryAskings 104 = .ok (.aload_n 0, 1) := by decide +kernel
theorem dX7_tryAskings_105 : decode cX7_tryAskings 105 = .ok (.iload 4, 2) := by decide +kernel
theorem dX7_tryAskings_107 : decode cX7_tryAskings 107 = .ok (.putfield 75, 3) := by decide +kernel
theorem dX7_tryAskings_110 : decode cX7_tryAskings 110 = .ok (.return_, 1) := by decide +kernel
theorem dX7_tryAskings_111 : decode cX7_tryAskings 111 = .ok (.iconst 0, 1) := by decide +kernel
theorem dX7_tryAskings_112 : decode cX7_tryAskings 112 = .ok (.istore 4, 2) := by decide +kernel
theorem dX7_tryAskings_114 : decode cX7_tryAskings 114 = .ok (.iload 4, 2) := by decide +kernel
theorem dX7_tryAskings_116 : decode cX7_tryAskings 116 = .ok (.aload_n 3, 1) := by decide +kernel
theorem dX7_tryAskings_117 : decode cX7_tryAskings 117 = .ok (.getfield 90, 3) := by decide +kernel
theorem dX7_tryAskings_120 : decode cX7_tryAskings 120 = .ok (.if_icmp .gt 44, 3) := by decide +kernel
theorem dX7_tryAskings_123 : decode cX7_tryAskings 123 = .ok (.aload_n 0, 1) := by decide +kernel
theorem dX7_tryAskings_124 : decode cX7_tryAskings 124 = .ok (.getfield 26, 3) := by decide +kernel
theorem dX7_tryAskings_127 : decode cX7_tryAskings 127 = .ok (.getfield 93, 3) := by decide +kernel
theorem dX7_tryAskings_130 : decode cX7_tryAskings 130 = .ok (.aload_n 0, 1) := by decide +kernel
theorem dX7_tryAskings_131 : decode cX7_tryAskings 131 = .ok (.getfield 66, 3) := by decide +kernel
theorem dX7_tryAskings_134 : decode cX7_tryAskings 134 = .ok (.iload 4, 2) := by decide +kernel
theorem dX7_tryAskings_136 : decode cX7_tryAskings 136 = .ok (.iastore, 1) := by decide +kernel
theorem dX7_tryAskings_137 : decode cX7_tryAskings 137 = .ok (.aload_n 0, 1) := by decide +kernel
theorem dX7_tryAskings_138 : decode cX7_tryAskings 138 = .ok (.iload_n 1, 1) := by decide +kernel
theorem dX7_tryAskings_139 : decode cX7_tryAskings 139 = .ok (.iconst 0, 1) := by decide +kernel
theorem dX7_tryAskings_140 : decode cX7_tryAskings 140 = .ok (.invokevirtual 51, 3) := by decide +kernel
theorem dX7_tryAskings_143 : decode cX7_tryAskings 143 = .ok (.pop, 1) := by decide +kernel
theorem dX7_tryAskings_144 : decode cX7_tryAskings 144 = .ok (.aload_n 0, 1) := by decide +kernel
theorem dX7_tryAskings_145 : decode cX7_tryAskings 145 = .ok (.iload_n 1, 1) := by decide +kernel
theorem dX7_tryAskings_146 : decode cX7_tryAskings 146 = .ok (.iconst 1, 1) := by decide +kernel
theorem dX7_tryAskings_147 : decode cX7_tryAskings 147 = .ok (.iadd, 1) := by decide +kernel
theorem dX7_tryAskings_148 : decode cX7_tryAskings 148 = .ok (.iload_n 2, 1) := by decide +kernel
theorem dX7_tryAskings_149 : decode cX7_tryAskings 149 = .ok (.bipush 100, 2) := by decide +kernel
theorem dX7_tryAskings_151 : decode cX7_tryAskings 151 = .ok (.imul, 1) := by decide +kernel
theorem dX7_tryAskings_152 : decode cX7_tryAskings 152 = .ok (.iload 4, 2) := by decide +kernel
theorem dX7_tryAskings_154 : decode cX7_tryAskings 154 = .ok (.iadd, 1) := by decide +kernel
theorem dX7_tryAskings_155 : decode cX7_tryAskings 155 = .ok (.invokevirtual 82, 3) := by decide +kernel
theorem dX7_tryAskings_158 : decode cX7_tryAskings 158 = .ok (.iinc 4 1, 3) := by decide +kernel
theorem dX7_tryAskings_161 : decode cX7_tryAskings 161 = .ok (.goto (-47), 3) := by decide +kernel
theorem dX7_tryAskings_164 : decode cX7_tryAskings 164 = .ok (.return_, 1) := by decide +kernel
theorem dX7_partsFrom_0 : decode cX7_partsFrom 0 = .ok (.aload_n 0, 1) := by decide +kernel
theorem dX7_partsFrom_1 : decode cX7_partsFrom 1 = .ok (.invokevirtual 48, 3) := by decide +kernel
theorem dX7_partsFrom_4 : decode cX7_partsFrom 4 = .ok (.pop, 1) := by decide +kernel
theorem dX7_partsFrom_5 : decode cX7_partsFrom 5 = .ok (.aload_n 0, 1) := by decide +kernel
theorem dX7_partsFrom_6 : decode cX7_partsFrom 6 = .ok (.iload_n 1, 1) := by decide +kernel
theorem dX7_partsFrom_7 : decode cX7_partsFrom 7 = .ok (.putfield 69, 3) := by decide +kernel
theorem dX7_partsFrom_10 : decode cX7_partsFrom 10 = .ok (.aload_n 0, 1) := by decide +kernel
theorem dX7_partsFrom_11 : decode cX7_partsFrom 11 = .ok (.iload_n 2, 1) := by decide +kernel
theorem dX7_partsFrom_12 : decode cX7_partsFrom 12 = .ok (.putfield 96, 3) := by decide +kernel
theorem dX7_partsFrom_15 : decode cX7_partsFrom 15 = .ok (.aload_n 0, 1) := by decide +kernel
theorem dX7_partsFrom_16 : decode cX7_partsFrom 16 = .ok (.iload_n 3, 1) := by decide +kernel
theorem dX7_partsFrom_17 : decode cX7_partsFrom 17 = .ok (.putfield 99, 3) := by decide +kernel
theorem dX7_partsFrom_20 : decode cX7_partsFrom 20 = .ok (.aload_n 0, 1) := by decide +kernel
theorem dX7_partsFrom_21 : decode cX7_partsFrom 21 = .ok (.iconst 0, 1) := by decide +kernel
theorem dX7_partsFrom_22 : decode cX7_partsFrom 22 = .ok (.ldc 102, 2) := by decide +kernel
theorem dX7_partsFrom_24 : decode cX7_partsFrom 24 = .ok (.invokevirtual 103, 3) := by decide +kernel
theorem dX7_partsFrom_27 : decode cX7_partsFrom 27 = .ok (.ireturn, 1) := by decide +kernel
theorem dX7_split_0 : decode cX7_split 0 = .ok (.iload_n 2, 1) := by decide +kernel
theorem dX7_split_1 : decode cX7_split 1 = .ok (.ifCond .eq 31, 3) := by decide +kernel
theorem dX7_split_4 : decode cX7_split 4 = .ok (.iload_n 1, 1) := by decide +kernel
theorem dX7_split_5 : decode cX7_split 5 = .ok (.ifCond .lt 27, 3) := by decide +kernel
theorem dX7_split_8 : decode cX7_split 8 = .ok (.iload_n 1, 1) := by decide +kernel
theorem dX7_split_9 : decode cX7_split 9 = .ok (.bipush 10, 2) := by decide +kernel
theorem dX7_split_11 : decode cX7_split 11 = .ok (.if_icmp .gt 21, 3) := by decide +kernel
theorem dX7_split_14 : decode cX7_split 14 = .ok (.iload_n 1, 1) := by decide +kernel
theorem dX7_split_15 : decode cX7_split 15 = .ok (.aload_n 0, 1) := by decide +kernel
theorem dX7_split_16 : decode cX7_split 16 = .ok (.getfield 11, 3) := by decide +kernel
theorem dX7_split_19 : decode cX7_split 19 = .ok (.arraylength, 1) := by decide +kernel
theorem dX7_split_20 : decode cX7_split 20 = .ok (.if_icmp .ge 12, 3) := by decide +kernel
theorem dX7_split_23 : decode cX7_split 23 = .ok (.aload_n 0, 1) := by decide +kernel
theorem dX7_split_24 : decode cX7_split 24 = .ok (.getfield 11, 3) := by decide +kernel
theorem dX7_split_27 : decode cX7_split 27 = .ok (.iload_n 1, 1) := by decide +kernel
theorem dX7_split_28 : decode cX7_split 28 = .ok (.aaload, 1) := by decide +kernel
theorem dX7_split_29 : decode cX7_split 29 = .ok (.ifnonnull 5, 3) := by decide +kernel
theorem dX7_split_32 : decode cX7_split 32 = .ok (.iconst 0, 1) := by decide +kernel
theorem dX7_split_33 : decode cX7_split 33 = .ok (.ireturn, 1) := by decide +kernel
theorem dX7_split_34 : decode cX7_split 34 = .ok (.iload_n 1, 1) := by decide +kernel
theorem dX7_split_35 : decode cX7_split 35 = .ok (.aload_n 0, 1) := by decide +kernel
theorem dX7_split_36 : decode cX7_split 36 = .ok (.getfield 69, 3) := by decide +kernel
theorem dX7_split_39 : decode cX7_split 39 = .ok (.if_icmp .ne 25, 3) := by decide +kernel
theorem dX7_split_42 : decode cX7_split 42 = .ok (.aload_n 0, 1) := by decide +kernel
theorem dX7_split_43 : decode cX7_split 43 = .ok (.getfield 11, 3) := by decide +kernel
theorem dX7_split_46 : decode cX7_split 46 = .ok (.iload_n 1, 1) := by decide +kernel
theorem dX7_split_47 : decode cX7_split 47 = .ok (.aaload, 1) := by decide +kernel
theorem dX7_split_48 : decode cX7_split 48 = .ok (.getfield 90, 3) := by decide +kernel
theorem dX7_split_51 : decode cX7_split 51 = .ok (.aload_n 0, 1) := by decide +kernel
theorem dX7_split_52 : decode cX7_split 52 = .ok (.getfield 96, 3) := by decide +kernel
theorem dX7_split_55 : decode cX7_split 55 = .ok (.if_icmp .lt 7, 3) := by decide +kernel
theorem dX7_split_58 : decode cX7_split 58 = .ok (.iload_n 2, 1) := by decide +kernel
theorem dX7_split_59 : decode cX7_split 59 = .ok (.goto 4, 3) := by decide +kernel
theorem dX7_split_62 : decode cX7_split 62 = .ok (.iconst 0, 1) := by decide +kernel
theorem dX7_split_63 : decode cX7_split 63 = .ok (.ireturn, 1) := by decide +kernel
theorem dX7_split_64 : decode cX7_split 64 = .ok (.iload_n 2, 1) := by decide +kernel
theorem dX7_split_65 : decode cX7_split 65 = .ok (.i2l, 1) := by decide +kernel
theorem dX7_split_66 : decode cX7_split 66 = .ok (.aload_n 0, 1) := by decide +kernel
theorem dX7_split_67 : decode cX7_split 67 = .ok (.getfield 99, 3) := by decide +kernel
theorem dX7_split_70 : decode cX7_split 70 = .ok (.i2l, 1) := by decide +kernel
theorem dX7_split_71 : decode cX7_split 71 = .ok (.lmul, 1) := by decide +kernel
theorem dX7_split_72 : decode cX7_split 72 = .ok (.ldc2_w 107, 3) := by decide +kernel
theorem dX7_split_75 : decode cX7_split 75 = .ok (.ldiv, 1) := by decide +kernel
theorem dX7_split_76 : decode cX7_split 76 = .ok (.l2i, 1) := by decide +kernel
theorem dX7_split_77 : decode cX7_split 77 = .ok (.istore_n 3, 1) := by decide +kernel
theorem dX7_split_78 : decode cX7_split 78 = .ok (.iconst 0, 1) := by decide +kernel
theorem dX7_split_79 : decode cX7_split 79 = .ok (.istore 4, 2) := by decide +kernel
theorem dX7_split_81 : decode cX7_split 81 = .ok (.iload_n 3, 1) := by decide +kernel
theorem dX7_split_82 : decode cX7_split 82 = .ok (.ifCond .le 20, 3) := by decide +kernel
theorem dX7_split_85 : decode cX7_split 85 = .ok (.aload_n 0, 1) := by decide +kernel
theorem dX7_split_86 : decode cX7_split 86 = .ok (.iload_n 1, 1) := by decide +kernel
theorem dX7_split_87 : decode cX7_split 87 = .ok (.iconst 1, 1) := by decide +kernel
theorem dX7_split_88 : decode cX7_split 88 = .ok (.invokevirtual 51, 3) := by decide +kernel
theorem dX7_split_91 : decode cX7_split 91 = .ok (.pop, 1) := by decide +kernel
theorem dX7_split_92 : decode cX7_split 92 = .ok (.aload_n 0, 1) := by decide +kernel
theorem dX7_split_93 : decode cX7_split 93 = .ok (.iload_n 1, 1) := by decide +kernel
theorem dX7_split_94 : decode cX7_split 94 = .ok (.iconst 1, 1) := by decide +kernel
theorem dX7_split_95 : decode cX7_split 95 = .ok (.iadd, 1) := by decide +kernel
theorem dX7_split_96 : decode cX7_split 96 = .ok (.iload_n 3, 1) := by decide +kernel
theorem dX7_split_97 : decode cX7_split 97 = .ok (.invokevirtual 103, 3) := by decide +kernel
theorem dX7_split_100 : decode cX7_split 100 = .ok (.istore 4, 2) := by decide +kernel
theorem dX7_split_102 : decode cX7_split 102 = .ok (.iload_n 3, 1) := by decide +kernel
theorem dX7_split_103 : decode cX7_split 103 = .ok (.iload_n 2, 1) := by decide +kernel
theorem dX7_split_104 : decode cX7_split 104 = .ok (.if_icmp .ge 25, 3) := by decide +kernel
theorem dX7_split_107 : decode cX7_split 107 = .ok (.aload_n 0, 1) := by decide +kernel
theorem dX7_split_108 : decode cX7_split 108 = .ok (.iload_n 1, 1) := by decide +kernel
theorem dX7_split_109 : decode cX7_split 109 = .ok (.iconst 0, 1) := by decide +kernel
theorem dX7_split_110 : decode cX7_split 110 = .ok (.invokevirtual 51, 3) := by decide +kernel
theorem dX7_split_113 : decode cX7_split 113 = .ok (.pop, 1) := by decide +kernel
theorem dX7_split_114 : decode cX7_split 114 = .ok (.iload 4, 2) := by decide +kernel
theorem dX7_split_116 : decode cX7_split 116 = .ok (.aload_n 0, 1) := by decide +kernel
theorem dX7_split_117 : decode cX7_split 117 = .ok (.iload_n 1, 1) := by decide +kernel
theorem dX7_split_118 : decode cX7_split 118 = .ok (.iconst 1, 1) := by decide +kernel
theorem dX7_split_119 : decode cX7_split 119 = .ok (.iadd, 1) := by decide +kernel
theorem dX7_split_120 : decode cX7_split 120 = .ok (.iload_n 2, 1) := by decide +kernel
theorem dX7_split_121 : decode cX7_split 121 = .ok (.iload_n 3, 1) := by decide +kernel
theorem dX7_split_122 : decode cX7_split 122 = .ok (.isub, 1) := by decide +kernel
theorem dX7_split_123 : decode cX7_split 123 = .ok (.invokevirtual 103, 3) := by decide +kernel
theorem dX7_split_126 : decode cX7_split 126 = .ok (.iadd, 1) := by decide +kernel
theorem dX7_split_127 : decode cX7_split 127 = .ok (.istore 4, 2) := by decide +kernel
theorem dX7_split_129 : decode cX7_split 129 = .ok (.iload 4, 2) := by decide +kernel
theorem dX7_split_131 : decode cX7_split 131 = .ok (.ireturn, 1) := by decide +kernel
theorem dX7_findRests_0 : decode cX7_findRests 0 = .ok (.aload_n 0, 1) := by decide +kernel
theorem dX7_findRests_1 : decode cX7_findRests 1 = .ok (.getfield 30, 3) := by decide +kernel
theorem dX7_findRests_4 : decode cX7_findRests 4 = .ok (.getfield 90, 3) := by decide +kernel
theorem dX7_findRests_7 : decode cX7_findRests 7 = .ok (.iconst 1, 1) := by decide +kernel
theorem dX7_findRests_8 : decode cX7_findRests 8 = .ok (.iadd, 1) := by decide +kernel
theorem dX7_findRests_9 : decode cX7_findRests 9 = .ok (.istore_n 2, 1) := by decide +kernel
theorem dX7_findRests_10 : decode cX7_findRests 10 = .ok (.iconst 1, 1) := by decide +kernel
theorem dX7_findRests_11 : decode cX7_findRests 11 = .ok (.istore_n 3, 1) := by decide +kernel
theorem dX7_findRests_12 : decode cX7_findRests 12 = .ok (.iconst 0, 1) := by decide +kernel
theorem dX7_findRests_13 : decode cX7_findRests 13 = .ok (.istore 4, 2) := by decide +kernel
theorem dX7_findRests_15 : decode cX7_findRests 15 = .ok (.iload 4, 2) := by decide +kernel
theorem dX7_findRests_17 : decode cX7_findRests 17 = .ok (.aload_n 0, 1) := by decide +kernel
theorem dX7_findRests_18 : decode cX7_findRests 18 = .ok (.getfield 22, 3) := by decide +kernel
theorem dX7_findRests_21 : decode cX7_findRests 21 = .ok (.getfield 109, 3) := by decide +kernel
theorem dX7_findRests_24 : decode cX7_findRests 24 = .ok (.if_icmp .ge 19, 3) := by decide +kernel
theorem dX7_findRests_27 : decode cX7_findRests 27 = .ok (.iload 4, 2) := by decide +kernel
theorem dX7_findRests_29 : decode cX7_findRests 29 = .ok (.iconst 3, 1) := by decide +kernel
theorem dX7_findRests_30 : decode cX7_findRests 30 = .ok (.if_icmp .ge 13, 3) := by decide +kernel
theorem dX7_findRests_33 : decode cX7_findRests 33 = .ok (.iload_n 3, 1) := by decide +kernel
theorem dX7_findRests_34 : decode cX7_findRests 34 = .ok (.iload_n 2, 1) := by decide +kernel
theorem dX7_findRests_35 : decode cX7_findRests 35 = .ok (.imul, 1) := by decide +kernel
theorem dX7_findRests_36 : decode cX7_findRests 36 = .ok (.istore_n 3, 1) := by decide +kernel
theorem dX7_findRests_37 : decode cX7_findRests 37 = .ok (.iinc 4 1, 3) := by decide +kernel
theorem dX7_findRests_40 : decode cX7_findRests 40 = .ok (.goto (-25), 3) := by decide +kernel
theorem dX7_findRests_43 : decode cX7_findRests 43 = .ok (.iload_n 3, 1) := by decide +kernel
theorem dX7_findRests_44 : decode cX7_findRests 44 = .ok (.sipush 9261, 3) := by decide +kernel
theorem dX7_findRests_47 : decode cX7_findRests 47 = .ok (.invokestatic 114, 3) := by decide +kernel
theorem dX7_findRests_50 : decode cX7_findRests 50 = .ok (.istore_n 3, 1) := by decide +kernel
theorem dX7_findRests_51 : decode cX7_findRests 51 = .ok (.aload_n 0, 1) := by decide +kernel
theorem dX7_findRests_52 : decode cX7_findRests 52 = .ok (.iload_n 3, 1) := by decide +kernel
theorem dX7_findRests_53 : decode cX7_findRests 53 = .ok (.iload_n 2, 1) := by decide +kernel
theorem dX7_findRests_54 : decode cX7_findRests 54 = .ok (.invokevirtual 119, 3) := by decide +kernel
theorem dX7_findRests_57 : decode cX7_findRests 57 = .ok (.iconst 0, 1) := by decide +kernel
theorem dX7_findRests_58 : decode cX7_findRests 58 = .ok (.istore 4, 2) := by decide +kernel
theorem dX7_findRests_60 : decode cX7_findRests 60 = .ok (.iconst 0, 1) := by decide +kernel
theorem dX7_findRests_61 : decode cX7_findRests 61 = .ok (.istore 5, 2) := by decide +kernel
theorem dX7_findRests_63 : decode cX7_findRests 63 = .ok (.iload 5, 2) := by decide +kernel
theorem dX7_findRests_65 : decode cX7_findRests 65 = .ok (.iload_n 3, 1) := by decide +kernel
theorem dX7_findRests_66 : decode cX7_findRests 66 = .ok (.if_icmp .ge 42, 3) := by decide +kernel
theorem dX7_findRests_69 : decode cX7_findRests 69 = .ok (.aload_n 0, 1) := by decide +kernel
theorem dX7_findRests_70 : decode cX7_findRests 70 = .ok (.iload 5, 2) := by decide +kernel
theorem dX7_findRests_72 : decode cX7_findRests 72 = .ok (.iload_n 2, 1) := by decide +kernel
theorem dX7_findRests_73 : decode cX7_findRests 73 = .ok (.invokevirtual 122, 3) := by decide +kernel
theorem dX7_findRests_76 : decode cX7_findRests 76 = .ok (.ifCond .ne 6, 3) := by decide +kernel
theorem dX7_findRests_79 : decode cX7_findRests 79 = .ok (.goto 23, 3) := by decide +kernel
theorem dX7_findRests_82 : decode cX7_findRests 82 = .ok (.iload 4, 2) := by decide +kernel
theorem dX7_findRests_84 : decode cX7_findRests 84 = .ok (.iload_n 1, 1) := by decide +kernel
theorem dX7_findRests_85 : decode cX7_findRests 85 = .ok (.if_icmp .ne 14, 3) := by decide +kernel
theorem dX7_findRests_88 : decode cX7_findRests 88 = .ok (.aload_n 0, 1) := by decide +kernel
theorem dX7_findRests_89 : decode cX7_findRests 89 = .ok (.aload_n 0, 1) := by decide +kernel
theorem dX7_findRests_90 : decode cX7_findRests 90 = .ok (.iload 5, 2) := by decide +kernel
theorem dX7_findRests_92 : decode cX7_findRests 92 = .ok (.iload_n 2, 1) := by decide +kernel
theorem dX7_findRests_93 : decode cX7_findRests 93 = .ok (.invokevirtual 126, 3) := by decide +kernel
theorem dX7_findRests_96 : decode cX7_findRests 96 = .ok (.putfield 129, 3) := by decide +kernel
theorem dX7_findRests_99 : decode cX7_findRests 99 = .ok (.iinc 4 1, 3) := by decide +kernel
theorem dX7_findRests_102 : decode cX7_findRests 102 = .ok (.iinc 5 1, 3) := by decide +kernel
theorem dX7_findRests_105 : decode cX7_findRests 105 = .ok (.goto (-42), 3) := by decide +kernel
theorem dX7_findRests_108 : decode cX7_findRests 108 = .ok (.iload 4, 2) := by decide +kernel
theorem dX7_findRests_110 : decode cX7_findRests 110 = .ok (.ireturn, 1) := by decide +kernel
theorem dX7_fillTakes_0 : decode cX7_fillTakes 0 = .ok (.aload_n 0, 1) := by decide +kernel
theorem dX7_fillTakes_1 : decode cX7_fillTakes 1 = .ok (.invokevirtual 48, 3) := by decide +kernel
theorem dX7_fillTakes_4 : decode cX7_fillTakes 4 = .ok (.astore_n 3, 1) := by decide +kernel
theorem dX7_fillTakes_5 : decode cX7_fillTakes 5 = .ok (.aload_n 0, 1) := by decide +kernel
theorem dX7_fillTakes_6 : decode cX7_fillTakes 6 = .ok (.getfield 11, 3) := by decide +kernel
theorem dX7_fillTakes_9 : decode cX7_fillTakes 9 = .ok (.iconst 1, 1) := by decide +kernel
theorem dX7_fillTakes_10 : decode cX7_fillTakes 10 = .ok (.aaload, 1) := by decide +kernel
theorem dX7_fillTakes_11 : decode cX7_fillTakes 11 = .ok (.astore 4, 2) := by decide +kernel
theorem dX7_fillTakes_13 : decode cX7_fillTakes 13 = .ok (.aload_n 3, 1) := by decide +kernel
theorem dX7_fillTakes_14 : decode cX7_fillTakes 14 = .ok (.ifnull 13, 3) := by decide +kernel
theorem dX7_fillTakes_17 : decode cX7_fillTakes 17 = .ok (.aload 4, 2) := by decide +kernel
theorem dX7_fillTakes_19 : decode cX7_fillTakes 19 = .ok (.ifnull 8, 3) := by decide +kernel
theorem dX7_fillTakes_22 : decode cX7_fillTakes 22 = .ok (.iload_n 2, 1) := by decide +kernel
theorem dX7_fillTakes_23 : decode cX7_fillTakes 23 = .ok (.iconst 1, 1) := by decide +kernel
theorem dX7_fillTakes_24 : decode cX7_fillTakes 24 = .ok (.if_icmp .ge 4, 3) := by decide +kernel
theorem dX7_fillTakes_27 : decode cX7_fillTakes 27 = .ok (.return_, 1) := by decide +kernel
theorem dX7_fillTakes_28 : decode cX7_fillTakes 28 = .ok (.aload_n 0, 1) := by decide +kernel
theorem dX7_fillTakes_29 : decode cX7_fillTakes 29 = .ok (.getfield 26, 3) := by decide +kernel
theorem dX7_fillTakes_32 : decode cX7_fillTakes 32 = .ok (.aload_n 3, 1) := by decide +kernel
theorem dX7_fillTakes_33 : decode cX7_fillTakes 33 = .ok (.iconst 0, 1) := by decide +kernel
theorem dX7_fillTakes_34 : decode cX7_fillTakes 34 = .ok (.invokevirtual 132, 3) := by decide +kernel
theorem dX7_fillTakes_37 : decode cX7_fillTakes 37 = .ok (.pop, 1) := by decide +kernel
theorem dX7_fillTakes_38 : decode cX7_fillTakes 38 = .ok (.iconst 0, 1) := by decide +kernel
theorem dX7_fillTakes_39 : decode cX7_fillTakes 39 = .ok (.istore 5, 2) := by decide +kernel
theorem dX7_fillTakes_41 : decode cX7_fillTakes 41 = .ok (.iload 5, 2) := by decide +kernel
theorem dX7_fillTakes_43 : decode cX7_fillTakes 43 = .ok (.iload_n 1, 1) := by decide +kernel
theorem dX7_fillTakes_44 : decode cX7_fillTakes 44 = .ok (.if_icmp .ge 143, 3) := by decide +kernel
theorem dX7_fillTakes_47 : decode cX7_fillTakes 47 = .ok (.iload 5, 2) := by decide +kernel
theorem dX7_fillTakes_49 : decode cX7_fillTakes 49 = .ok (.sipush 9261, 3) := by decide +kernel
theorem dX7_fillTakes_52 : decode cX7_fillTakes 52 = .ok (.if_icmp .ge 135, 3) := by decide +kernel
theorem dX7_fillTakes_55 : decode cX7_fillTakes 55 = .ok (.aload 4, 2) := by decide +kernel
theorem dX7_fillTakes_57 : decode cX7_fillTakes 57 = .ok (.aload_n 3, 1) := by decide +kernel
theorem dX7_fillTakes_58 : decode cX7_fillTakes 58 = .ok (.invokevirtual 40, 3) := by decide +kernel
theorem dX7_fillTakes_61 : decode cX7_fillTakes 61 = .ok (.iload 5, 2) := by decide +kernel
theorem dX7_fillTakes_63 : decode cX7_fillTakes 63 = .ok (.istore 6, 2) := by decide +kernel
theorem dX7_fillTakes_65 : decode cX7_fillTakes 65 = .ok (.aload_n 0, 1) := by decide +kernel
theorem dX7_fillTakes_66 : decode cX7_fillTakes 66 = .ok (.getfield 22, 3) := by decide +kernel
theorem dX7_fillTakes_69 : decode cX7_fillTakes 69 = .ok (.getfield 109, 3) := by decide +kernel
theorem dX7_fillTakes_72 : decode cX7_fillTakes 72 = .ok (.iconst 3, 1) := by decide +kernel
theorem dX7_fillTakes_73 : decode cX7_fillTakes 73 = .ok (.invokestatic 114, 3) := by decide +kernel
theorem dX7_fillTakes_76 : decode cX7_fillTakes 76 = .ok (.iconst 1, 1) := by decide +kernel
theorem dX7_fillTakes_77 : decode cX7_fillTakes 77 = .ok (.isub, 1) := by decide +kernel
theorem dX7_fillTakes_78 : decode cX7_fillTakes 78 = .ok (.istore 7, 2) := by decide +kernel
theorem dX7_fillTakes_80 : decode cX7_fillTakes 80 = .ok (.iload 7, 2) := by decide +kernel
theorem dX7_fillTakes_82 : decode cX7_fillTakes 82 = .ok (.ifCond .lt 27, 3) := by decide +kernel
theorem dX7_fillTakes_85 : decode cX7_fillTakes 85 = .ok (.aload 4, 2) := by decide +kernel
theorem dX7_fillTakes_87 : decode cX7_fillTakes 87 = .ok (.getfield 136, 3) := by decide +kernel
theorem dX7_fillTakes_90 : decode cX7_fillTakes 90 = .ok (.iload 7, 2) := by decide +kernel
theorem dX7_fillTakes_92 : decode cX7_fillTakes 92 = .ok (.iload 6, 2) := by decide +kernel
theorem dX7_fillTakes_94 : decode cX7_fillTakes 94 = .ok (.iload_n 2, 1) := by decide +kernel
theorem dX7_fillTakes_95 : decode cX7_fillTakes 95 = .ok (.irem, 1) := by decide +kernel
theorem dX7_fillTakes_96 : decode cX7_fillTakes 96 = .ok (.iastore, 1) := by decide +kernel
theorem dX7_fillTakes_97 : decode cX7_fillTakes 97 = .ok (.iload 6, 2) := by decide +kernel
theorem dX7_fillTakes_99 : decode cX7_fillTakes 99 = .ok (.iload_n 2, 1) := by decide +kernel
theorem dX7_fillTakes_100 : decode cX7_fillTakes 100 = .ok (.idiv, 1) := by decide +kernel
theorem dX7_fillTakes_101 : decode cX7_fillTakes 101 = .ok (.istore 6, 2) := by decide +kernel
theorem dX7_fillTakes_103 : decode cX7_fillTakes 103 = .ok (.iinc 7 (-1), 3) := by decide +kernel
theorem dX7_fillTakes_106 : decode cX7_fillTakes 106 = .ok (.goto (-26), 3) := by decide +kernel
theorem dX7_fillTakes_109 : decode cX7_fillTakes 109 = .ok (.aload_n 0, 1) := by decide +kernel
theorem dX7_fillTakes_110 : decode cX7_fillTakes 110 = .ok (.getfield 26, 3) := by decide +kernel
theorem dX7_fillTakes_113 : decode cX7_fillTakes 113 = .ok (.aload 4, 2) := by decide +kernel
theorem dX7_fillTakes_115 : decode cX7_fillTakes 115 = .ok (.invokevirtual 139, 3) := by decide +kernel
theorem dX7_fillTakes_118 : decode cX7_fillTakes 118 = .ok (.aload_n 0, 1) := by decide +kernel
theorem dX7_fillTakes_119 : decode cX7_fillTakes 119 = .ok (.getfield 26, 3) := by decide +kernel
theorem dX7_fillTakes_122 : decode cX7_fillTakes 122 = .ok (.aload 4, 2) := by decide +kernel
theorem dX7_fillTakes_124 : decode cX7_fillTakes 124 = .ok (.invokevirtual 142, 3) := by decide +kernel
theorem dX7_fillTakes_127 : decode cX7_fillTakes 127 = .ok (.iconst 0, 1) := by decide +kernel
theorem dX7_fillTakes_128 : decode cX7_fillTakes 128 = .ok (.istore 7, 2) := by decide +kernel
theorem dX7_fillTakes_130 : decode cX7_fillTakes 130 = .ok (.iload 7, 2) := by decide +kernel
theorem dX7_fillTakes_132 : decode cX7_fillTakes 132 = .ok (.aload_n 0, 1) := by decide +kernel
theorem dX7_fillTakes_133 : decode cX7_fillTakes 133 = .ok (.getfield 22, 3) := by decide +kernel
theorem dX7_fillTakes_136 : decode cX7_fillTakes 136 = .ok (.getfield 109, 3) := by decide +kernel
theorem dX7_fillTakes_139 : decode cX7_fillTakes 139 = .ok (.if_icmp .ge 42, 3) := by decide +kernel
theorem dX7_fillTakes_142 : decode cX7_fillTakes 142 = .ok (.iload 7, 2) := by decide +kernel
theorem dX7_fillTakes_144 : decode cX7_fillTakes 144 = .ok (.iconst 3, 1) := by decide +kernel
theorem dX7_fillTakes_145 : decode cX7_fillTakes 145 = .ok (.if_icmp .ge 36, 3) := by decide +kernel
theorem dX7_fillTakes_148 : decode cX7_fillTakes 148 = .ok (.aload_n 0, 1) := by decide +kernel
theorem dX7_fillTakes_149 : decode cX7_fillTakes 149 = .ok (.getfield 19, 3) := by decide +kernel
theorem dX7_fillTakes_152 : decode cX7_fillTakes 152 = .ok (.iload 7, 2) := by decide +kernel
theorem dX7_fillTakes_154 : decode cX7_fillTakes 154 = .ok (.aaload, 1) := by decide +kernel
theorem dX7_fillTakes_155 : decode cX7_fillTakes 155 = .ok (.iload 5, 2) := by decide +kernel
theorem dX7_fillTakes_157 : decode cX7_fillTakes 157 = .ok (.aload 4, 2) := by decide +kernel
theorem dX7_fillTakes_159 : decode cX7_fillTakes 159 = .ok (.getfield 145, 3) := by decide +kernel
theorem dX7_fillTakes_162 : decode cX7_fillTakes 162 = .ok (.iload 7, 2) := by decide +kernel
theorem dX7_fillTakes_164 : decode cX7_fillTakes 164 = .ok (.iaload, 1) := by decide +kernel
theorem dX7_fillTakes_165 : decode cX7_fillTakes 165 = .ok (.aload 4, 2) := by decide +kernel
theorem dX7_fillTakes_167 : decode cX7_fillTakes 167 = .ok (.getfield 136, 3) := by decide +kernel
theorem dX7_fillTakes_170 : decode cX7_fillTakes 170 = .ok (.iload 7, 2) := by decide +kernel
theorem dX7_fillTakes_172 : decode cX7_fillTakes 172 = .ok (.iaload, 1) := by decide +kernel
theorem dX7_fillTakes_173 : decode cX7_fillTakes 173 = .ok (.imul, 1) := by decide +kernel
theorem dX7_fillTakes_174 : decode cX7_fillTakes 174 = .ok (.iastore, 1) := by decide +kernel
theorem dX7_fillTakes_175 : decode cX7_fillTakes 175 = .ok (.iinc 7 1, 3) := by decide +kernel
theorem dX7_fillTakes_178 : decode cX7_fillTakes 178 = .ok (.goto (-48), 3) := by decide +kernel
theorem dX7_fillTakes_181 : decode cX7_fillTakes 181 = .ok (.iinc 5 1, 3) := by decide +kernel
theorem dX7_fillTakes_184 : decode cX7_fillTakes 184 = .ok (.goto (-143), 3) := by decide +kernel
theorem dX7_fillTakes_187 : decode cX7_fillTakes 187 = .ok (.return_, 1) := by decide +kernel
theorem dX7_isAtRest_0 : decode cX7_isAtRest 0 = .ok (.iconst 1, 1) := by decide +kernel
theorem dX7_isAtRest_1 : decode cX7_isAtRest 1 = .ok (.istore_n 3, 1) := by decide +kernel
theorem dX7_isAtRest_2 : decode cX7_isAtRest 2 = .ok (.aload_n 0, 1) := by decide +kernel
theorem dX7_isAtRest_3 : decode cX7_isAtRest 3 = .ok (.getfield 22, 3) := by decide +kernel
theorem dX7_isAtRest_6 : decode cX7_isAtRest 6 = .ok (.getfield 109, 3) := by decide +kernel
theorem dX7_isAtRest_9 : decode cX7_isAtRest 9 = .ok (.iconst 3, 1) := by decide +kernel
theorem dX7_isAtRest_10 : decode cX7_isAtRest 10 = .ok (.invokestatic 114, 3) := by decide +kernel
theorem dX7_isAtRest_13 : decode cX7_isAtRest 13 = .ok (.iconst 1, 1) := by decide +kernel
theorem dX7_isAtRest_14 : decode cX7_isAtRest 14 = .ok (.isub, 1) := by decide +kernel
theorem dX7_isAtRest_15 : decode cX7_isAtRest 15 = .ok (.istore 4, 2) := by decide +kernel
theorem dX7_isAtRest_17 : decode cX7_isAtRest 17 = .ok (.iload 4, 2) := by decide +kernel
theorem dX7_isAtRest_19 : decode cX7_isAtRest 19 = .ok (.ifCond .lt 142, 3) := by decide +kernel
theorem dX7_isAtRest_22 : decode cX7_isAtRest 22 = .ok (.iload_n 3, 1) := by decide +kernel
theorem dX7_isAtRest_23 : decode cX7_isAtRest 23 = .ok (.iconst 1, 1) := by decide +kernel
theorem dX7_isAtRest_24 : decode cX7_isAtRest 24 = .ok (.if_icmp .lt 8, 3) := by decide +kernel
theorem dX7_isAtRest_27 : decode cX7_isAtRest 27 = .ok (.iload_n 2, 1) := by decide +kernel
theorem dX7_isAtRest_28 : decode cX7_isAtRest 28 = .ok (.iconst 1, 1) := by decide +kernel
theorem dX7_isAtRest_29 : decode cX7_isAtRest 29 = .ok (.if_icmp .ge 5, 3) := by decide +kernel
theorem dX7_isAtRest_32 : decode cX7_isAtRest 32 = .ok (.iconst 0, 1) := by decide +kernel
theorem dX7_isAtRest_33 : decode cX7_isAtRest 33 = .ok (.ireturn, 1) := by decide +kernel
theorem dX7_isAtRest_34 : decode cX7_isAtRest 34 = .ok (.iload_n 1, 1) := by decide +kernel
theorem dX7_isAtRest_35 : decode cX7_isAtRest 35 = .ok (.iload_n 3, 1) := by decide +kernel
theorem dX7_isAtRest_36 : decode cX7_isAtRest 36 = .ok (.idiv, 1) := by decide +kernel
theorem dX7_isAtRest_37 : decode cX7_isAtRest 37 = .ok (.iload_n 2, 1) := by decide +kernel
theorem dX7_isAtRest_38 : decode cX7_isAtRest 38 = .ok (.irem, 1) := by decide +kernel
theorem dX7_isAtRest_39 : decode cX7_isAtRest 39 = .ok (.istore 5, 2) := by decide +kernel
theorem dX7_isAtRest_41 : decode cX7_isAtRest 41 = .ok (.aload_n 0, 1) := by decide +kernel
theorem dX7_isAtRest_42 : decode cX7_isAtRest 42 = .ok (.getfield 30, 3) := by decide +kernel
theorem dX7_isAtRest_45 : decode cX7_isAtRest 45 = .ok (.iload 4, 2) := by decide +kernel
theorem dX7_isAtRest_47 : decode cX7_isAtRest 47 = .ok (.invokevirtual 148, 3) := by decide +kernel
theorem dX7_isAtRest_50 : decode cX7_isAtRest 50 = .ok (.ifCond .eq 13, 3) := by decide +kernel
theorem dX7_isAtRest_53 : decode cX7_isAtRest 53 = .ok (.iload 5, 2) := by decide +kernel
theorem dX7_isAtRest_55 : decode cX7_isAtRest 55 = .ok (.iload_n 2, 1) := by decide +kernel
theorem dX7_isAtRest_56 : decode cX7_isAtRest 56 = .ok (.iconst 1, 1) := by decide +kernel
theorem dX7_isAtRest_57 : decode cX7_isAtRest 57 = .ok (.isub, 1) := by decide +kernel
theorem dX7_isAtRest_58 : decode cX7_isAtRest 58 = .ok (.if_icmp .eq 5, 3) := by decide +kernel
theorem dX7_isAtRest_61 : decode cX7_isAtRest 61 = .ok (.iconst 0, 1) := by decide +kernel
theorem dX7_isAtRest_62 : decode cX7_isAtRest 62 = .ok (.ireturn, 1) := by decide +kernel
theorem dX7_isAtRest_63 : decode cX7_isAtRest 63 = .ok (.iload_n 1, 1) := by decide +kernel
theorem dX7_isAtRest_64 : decode cX7_isAtRest 64 = .ok (.iload 5, 2) := by decide +kernel
theorem dX7_isAtRest_66 : decode cX7_isAtRest 66 = .ok (.iload_n 3, 1) := by decide +kernel
theorem dX7_isAtRest_67 : decode cX7_isAtRest 67 = .ok (.imul, 1) := by decide +kernel
theorem dX7_isAtRest_68 : decode cX7_isAtRest 68 = .ok (.isub, 1) := by decide +kernel
theorem dX7_isAtRest_69 : decode cX7_isAtRest 69 = .ok (.istore 6, 2) := by decide +kernel
theorem dX7_isAtRest_71 : decode cX7_isAtRest 71 = .ok (.iconst 0, 1) := by decide +kernel
theorem dX7_isAtRest_72 : decode cX7_isAtRest 72 = .ok (.istore 7, 2) := by decide +kernel
theorem dX7_isAtRest_74 : decode cX7_isAtRest 74 = .ok (.iload 7, 2) := by decide +kernel
theorem dX7_isAtRest_76 : decode cX7_isAtRest 76 = .ok (.iload_n 2, 1) := by decide +kernel
theorem dX7_isAtRest_77 : decode cX7_isAtRest 77 = .ok (.if_icmp .ge 74, 3) := by decide +kernel
theorem dX7_isAtRest_80 : decode cX7_isAtRest 80 = .ok (.aload_n 0, 1) := by decide +kernel
theorem dX7_isAtRest_81 : decode cX7_isAtRest 81 = .ok (.getfield 30, 3) := by decide +kernel
theorem dX7_isAtRest_84 : decode cX7_isAtRest 84 = .ok (.iload 4, 2) := by decide +kernel
theorem dX7_isAtRest_86 : decode cX7_isAtRest 86 = .ok (.invokevirtual 148, 3) := by decide +kernel
theorem dX7_isAtRest_89 : decode cX7_isAtRest 89 = .ok (.ifCond .ne 62, 3) := by decide +kernel
theorem dX7_isAtRest_92 : decode cX7_isAtRest 92 = .ok (.iload 6, 2) := by decide +kernel
theorem dX7_isAtRest_94 : decode cX7_isAtRest 94 = .ok (.iload 7, 2) := by decide +kernel
theorem dX7_isAtRest_96 : decode cX7_isAtRest 96 = .ok (.iload_n 3, 1) := by decide +kernel
theorem dX7_isAtRest_97 : decode cX7_isAtRest 97 = .ok (.imul, 1) := by decide +kernel
theorem dX7_isAtRest_98 : decode cX7_isAtRest 98 = .ok (.iadd, 1) := by decide +kernel
theorem dX7_isAtRest_99 : decode cX7_isAtRest 99 = .ok (.istore 8, 2) := by decide +kernel
theorem dX7_isAtRest_101 : decode cX7_isAtRest 101 = .ok (.iload_n 1, 1) := by decide +kernel
theorem dX7_isAtRest_102 : decode cX7_isAtRest 102 = .ok (.sipush 9261, 3) := by decide +kernel
theorem dX7_isAtRest_105 : decode cX7_isAtRest 105 = .ok (.if_icmp .ge 40, 3) := by decide +kernel
theorem dX7_isAtRest_108 : decode cX7_isAtRest 108 = .ok (.iload 8, 2) := by decide +kernel
theorem dX7_isAtRest_110 : decode cX7_isAtRest 110 = .ok (.ifCond .lt 35, 3) := by decide +kernel
theorem dX7_isAtRest_113 : decode cX7_isAtRest 113 = .ok (.iload 8, 2) := by decide +kernel
theorem dX7_isAtRest_115 : decode cX7_isAtRest 115 = .ok (.sipush 9261, 3) := by decide +kernel
theorem dX7_isAtRest_118 : decode cX7_isAtRest 118 = .ok (.if_icmp .ge 27, 3) := by decide +kernel
theorem dX7_isAtRest_121 : decode cX7_isAtRest 121 = .ok (.aload_n 0, 1) := by decide +kernel
theorem dX7_isAtRest_122 : decode cX7_isAtRest 122 = .ok (.getfield 19, 3) := by decide +kernel
theorem dX7_isAtRest_125 : decode cX7_isAtRest 125 = .ok (.iload 4, 2) := by decide +kernel
theorem dX7_isAtRest_127 : decode cX7_isAtRest 127 = .ok (.aaload, 1) := by decide +kernel
theorem dX7_isAtRest_128 : decode cX7_isAtRest 128 = .ok (.iload 8, 2) := by decide +kernel
theorem dX7_isAtRest_130 : decode cX7_isAtRest 130 = .ok (.iaload, 1) := by decide +kernel
theorem dX7_isAtRest_131 : decode cX7_isAtRest 131 = .ok (.aload_n 0, 1) := by decide +kernel
theorem dX7_isAtRest_132 : decode cX7_isAtRest 132 = .ok (.getfield 19, 3) := by decide +kernel
theorem dX7_isAtRest_135 : decode cX7_isAtRest 135 = .ok (.iload 4, 2) := by decide +kernel
theorem dX7_isAtRest_137 : decode cX7_isAtRest 137 = .ok (.aaload, 1) := by decide +kernel
theorem dX7_isAtRest_138 : decode cX7_isAtRest 138 = .ok (.iload_n 1, 1) := by decide +kernel
theorem dX7_isAtRest_139 : decode cX7_isAtRest 139 = .ok (.iaload, 1) := by decide +kernel
theorem dX7_isAtRest_140 : decode cX7_isAtRest 140 = .ok (.if_icmp .le 5, 3) := by decide +kernel
theorem dX7_isAtRest_143 : decode cX7_isAtRest 143 = .ok (.iconst 0, 1) := by decide +kernel
theorem dX7_isAtRest_144 : decode cX7_isAtRest 144 = .ok (.ireturn, 1) := by decide +kernel
theorem dX7_isAtRest_145 : decode cX7_isAtRest 145 = .ok (.iinc 7 1, 3) := by decide +kernel
theorem dX7_isAtRest_148 : decode cX7_isAtRest 148 = .ok (.goto (-74), 3) := by decide +kernel
theorem dX7_isAtRest_151 : decode cX7_isAtRest 151 = .ok (.iload_n 3, 1) := by decide +kernel
theorem dX7_isAtRest_152 : decode cX7_isAtRest 152 = .ok (.iload_n 2, 1) := by decide +kernel
theorem dX7_isAtRest_153 : decode cX7_isAtRest 153 = .ok (.imul, 1) := by decide +kernel
theorem dX7_isAtRest_154 : decode cX7_isAtRest 154 = .ok (.istore_n 3, 1) := by decide +kernel
theorem dX7_isAtRest_155 : decode cX7_isAtRest 155 = .ok (.iinc 4 (-1), 3) := by decide +kernel
theorem dX7_isAtRest_158 : decode cX7_isAtRest 158 = .ok (.goto (-141), 3) := by decide +kernel
theorem dX7_isAtRest_161 : decode cX7_isAtRest 161 = .ok (.iconst 1, 1) := by decide +kernel
theorem dX7_isAtRest_162 : decode cX7_isAtRest 162 = .ok (.ireturn, 1) := by decide +kernel
theorem dX7_inHundreds_0 : decode cX7_inHundreds 0 = .ok (.iconst 0, 1) := by decide +kernel
theorem dX7_inHundreds_1 : decode cX7_inHundreds 1 = .ok (.istore_n 3, 1) := by decide +kernel
theorem dX7_inHundreds_2 : decode cX7_inHundreds 2 = .ok (.iconst 1, 1) := by decide +kernel
theorem dX7_inHundreds_3 : decode cX7_inHundreds 3 = .ok (.istore 4, 2) := by decide +kernel
theorem dX7_inHundreds_5 : decode cX7_inHundreds 5 = .ok (.iload_n 1, 1) := by decide +kernel
theorem dX7_inHundreds_6 : decode cX7_inHundreds 6 = .ok (.istore 5, 2) := by decide +kernel
theorem dX7_inHundreds_8 : decode cX7_inHundreds 8 = .ok (.iconst 0, 1) := by decide +kernel
theorem dX7_inHundreds_9 : decode cX7_inHundreds 9 = .ok (.istore 6, 2) := by decide +kernel
theorem dX7_inHundreds_11 : decode cX7_inHundreds 11 = .ok (.iload 6, 2) := by decide +kernel
theorem dX7_inHundreds_13 : decode cX7_inHundreds 13 = .ok (.aload_n 0, 1) := by decide +kernel
theorem dX7_inHundreds_14 : decode cX7_inHundreds 14 = .ok (.getfield 22, 3) := by decide +kernel
theorem dX7_inHundreds_17 : decode cX7_inHundreds 17 = .ok (.getfield 109, 3) := by decide +kernel
theorem dX7_inHundreds_20 : decode cX7_inHundreds 20 = .ok (.if_icmp .ge 42, 3) := by decide +kernel
theorem dX7_inHundreds_23 : decode cX7_inHundreds 23 = .ok (.iload 6, 2) := by decide +kernel
theorem dX7_inHundreds_25 : decode cX7_inHundreds 25 = .ok (.iconst 3, 1) := by decide +kernel
theorem dX7_inHundreds_26 : decode cX7_inHundreds 26 = .ok (.if_icmp .ge 36, 3) := by decide +kernel
theorem dX7_inHundreds_29 : decode cX7_inHundreds 29 = .ok (.iload_n 2, 1) := by decide +kernel
theorem dX7_inHundreds_30 : decode cX7_inHundreds 30 = .ok (.ifCond .le 32, 3) := by decide +kernel
theorem dX7_inHundreds_33 : decode cX7_inHundreds 33 = .ok (.iload_n 3, 1) := by decide +kernel
theorem dX7_inHundreds_34 : decode cX7_inHundreds 34 = .ok (.iload 5, 2) := by decide +kernel
theorem dX7_inHundreds_36 : decode cX7_inHundreds 36 = .ok (.iload_n 2, 1) := by decide +kernel
theorem dX7_inHundreds_37 : decode cX7_inHundreds 37 = .ok (.irem, 1) := by decide +kernel
theorem dX7_inHundreds_38 : decode cX7_inHundreds 38 = .ok (.iload 4, 2) := by decide +kernel
theorem dX7_inHundreds_40 : decode cX7_inHundreds 40 = .ok (.imul, 1) := by decide +kernel
theorem dX7_inHundreds_41 : decode cX7_inHundreds 41 = .ok (.iadd, 1) := by decide +kernel
theorem dX7_inHundreds_42 : decode cX7_inHundreds 42 = .ok (.istore_n 3, 1) := by decide +kernel
theorem dX7_inHundreds_43 : decode cX7_inHundreds 43 = .ok (.iload 5, 2) := by decide +kernel
theorem dX7_inHundreds_45 : decode cX7_inHundreds 45 = .ok (.iload_n 2, 1) := by decide +kernel
theorem dX7_inHundreds_46 : decode cX7_inHundreds 46 = .ok (.idiv, 1) := by decide +kernel
theorem dX7_inHundreds_47 : decode cX7_inHundreds 47 = .ok (.istore 5, 2) := by decide +kernel
theorem dX7_inHundreds_49 : decode cX7_inHundreds 49 = .ok (.iload 4, 2) := by decide +kernel
theorem dX7_inHundreds_51 : decode cX7_inHundreds 51 = .ok (.bipush 100, 2) := by decide +kernel
theorem dX7_inHundreds_53 : decode cX7_inHundreds 53 = .ok (.imul, 1) := by decide +kernel
theorem dX7_inHundreds_54 : decode cX7_inHundreds 54 = .ok (.istore 4, 2) := by decide +kernel
theorem dX7_inHundreds_56 : decode cX7_inHundreds 56 = .ok (.iinc 6 1, 3) := by decide +kernel
theorem dX7_inHundreds_59 : decode cX7_inHundreds 59 = .ok (.goto (-48), 3) := by decide +kernel
theorem dX7_inHundreds_62 : decode cX7_inHundreds 62 = .ok (.iload_n 3, 1) := by decide +kernel
theorem dX7_inHundreds_63 : decode cX7_inHundreds 63 = .ok (.ireturn, 1) := by decide +kernel
theorem dX8_init_0 : decode cX8_init 0 = .ok (.aload_n 0, 1) := by decide +kernel
theorem dX8_init_1 : decode cX8_init 1 = .ok (.invokespecial 3, 3) := by decide +kernel
theorem dX8_init_4 : decode cX8_init 4 = .ok (.aload_n 0, 1) := by decide +kernel
theorem dX8_init_5 : decode cX8_init 5 = .ok (.bipush 6, 2) := by decide +kernel
theorem dX8_init_7 : decode cX8_init 7 = .ok (.newarray .int, 2) := by decide +kernel
theorem dX8_init_9 : decode cX8_init 9 = .ok (.putfield 9, 3) := by decide +kernel
theorem dX8_init_12 : decode cX8_init 12 = .ok (.aload_n 0, 1) := by decide +kernel
theorem dX8_init_13 : decode cX8_init 13 = .ok (.bipush 6, 2) := by decide +kernel
theorem dX8_init_15 : decode cX8_init 15 = .ok (.newarray .int, 2) := by decide +kernel
theorem dX8_init_17 : decode cX8_init 17 = .ok (.putfield 15, 3) := by decide +kernel
theorem dX8_init_20 : decode cX8_init 20 = .ok (.aload_n 0, 1) := by decide +kernel
theorem dX8_init_21 : decode cX8_init 21 = .ok (.bipush 6, 2) := by decide +kernel
theorem dX8_init_23 : decode cX8_init 23 = .ok (.newarray .int, 2) := by decide +kernel
theorem dX8_init_25 : decode cX8_init 25 = .ok (.putfield 18, 3) := by decide +kernel
theorem dX8_init_28 : decode cX8_init 28 = .ok (.aload_n 0, 1) := by decide +kernel
theorem dX8_init_29 : decode cX8_init 29 = .ok (.bipush 6, 2) := by decide +kernel
theorem dX8_init_31 : decode cX8_init 31 = .ok (.newarray .int, 2) := by decide +kernel
theorem dX8_init_33 : decode cX8_init 33 = .ok (.putfield 21, 3) := by decide +kernel
theorem dX8_init_36 : decode cX8_init 36 = .ok (.aload_n 0, 1) := by decide +kernel
theorem dX8_init_37 : decode cX8_init 37 = .ok (.bipush 6, 2) := by decide +kernel
theorem dX8_init_39 : decode cX8_init 39 = .ok (.newarray .int, 2) := by decide +kernel
theorem dX8_init_41 : decode cX8_init 41 = .ok (.putfield 24, 3) := by decide +kernel
theorem dX8_init_44 : decode cX8_init 44 = .ok (.aload_n 0, 1) := by decide +kernel
theorem dX8_init_45 : decode cX8_init 45 = .ok (.bipush 6, 2) := by decide +kernel
theorem dX8_init_47 : decode cX8_init 47 = .ok (.newarray .int, 2) := by decide +kernel
theorem dX8_init_49 : decode cX8_init 49 = .ok (.putfield 27, 3) := by decide +kernel
theorem dX8_init_52 : decode cX8_init 52 = .ok (.aload_n 0, 1) := by decide +kernel
theorem dX8_init_53 : decode cX8_init 53 = .ok (.bipush 24, 2) := by decide +kernel
theorem dX8_init_55 : decode cX8_init 55 = .ok (.newarray .int, 2) := by decide +kernel
theorem dX8_init_57 : decode cX8_init 57 = .ok (.putfield 30, 3) := by decide +kernel
theorem dX8_init_60 : decode cX8_init 60 = .ok (.aload_n 0, 1) := by decide +kernel
theorem dX8_init_61 : decode cX8_init 61 = .ok (.bipush 6, 2) := by decide +kernel
theorem dX8_init_63 : decode cX8_init 63 = .ok (.newarray .int, 2) := by decide +kernel
theorem dX8_init_65 : decode cX8_init 65 = .ok (.putfield 33, 3) := by decide +kernel
theorem dX8_init_68 : decode cX8_init 68 = .ok (.aload_n 0, 1) := by decide +kernel
theorem dX8_init_69 : decode cX8_init 69 = .ok (.bipush 6, 2) := by decide +kernel
theorem dX8_init_71 : decode cX8_init 71 = .ok (.newarray .int, 2) := by decide +kernel
theorem dX8_init_73 : decode cX8_init 73 = .ok (.putfield 36, 3) := by decide +kernel
theorem dX8_init_76 : decode cX8_init 76 = .ok (.return_, 1) := by decide +kernel
theorem dX8_clear_0 : decode cX8_clear 0 = .ok (.aload_n 0, 1) := by decide +kernel
theorem dX8_clear_1 : decode cX8_clear 1 = .ok (.iload_n 1, 1) := by decide +kernel
theorem dX8_clear_2 : decode cX8_clear 2 = .ok (.putfield 39, 3) := by decide +kernel
theorem dX8_clear_5 : decode cX8_clear 5 = .ok (.aload_n 0, 1) := by decide +kernel
theorem dX8_clear_6 : decode cX8_clear 6 = .ok (.iconst 0, 1) := by decide +kernel
theorem dX8_clear_7 : decode cX8_clear 7 = .ok (.putfield 43, 3) := by decide +kernel
theorem dX8_clear_10 : decode cX8_clear 10 = .ok (.aload_n 0, 1) := by decide +kernel
theorem dX8_clear_11 : decode cX8_clear 11 = .ok (.iconst 0, 1) := by decide +kernel
theorem dX8_clear_12 : decode cX8_clear 12 = .ok (.putfield 46, 3) := by decide +kernel
theorem dX8_clear_15 : decode cX8_clear 15 = .ok (.aload_n 0, 1) := by decide +kernel
theorem dX8_clear_16 : decode cX8_clear 16 = .ok (.iconst 0, 1) := by decide +kernel
theorem dX8_clear_17 : decode cX8_clear 17 = .ok (.putfield 49, 3) := by decide +kernel
theorem dX8_clear_20 : decode cX8_clear 20 = .ok (.iconst 0, 1) := by decide +kernel
theorem dX8_clear_21 : decode cX8_clear 21 = .ok (.istore_n 2, 1) := by decide +kernel
theorem dX8_clear_22 : decode cX8_clear 22 = .ok (.iload_n 2, 1) := by decide +kernel
theorem dX8_clear_23 : decode cX8_clear 23 = .ok (.bipush 6, 2) := by decide +kernel
theorem dX8_clear_25 : decode cX8_clear 25 = .ok (.if_icmp .ge 51, 3) := by decide +kernel
theorem dX8_clear_28 : decode cX8_clear 28 = .ok (.aload_n 0, 1) := by decide +kernel
theorem dX8_clear_29 : decode cX8_clear 29 = .ok (.getfield 9, 3) := by decide +kernel
theorem dX8_clear_32 : decode cX8_clear 32 = .ok (.iload_n 2, 1) := by decide +kernel
theorem dX8_clear_33 : decode cX8_clear 33 = .ok (.iconst 0, 1) := by decide +kernel
theorem dX8_clear_34 : decode cX8_clear 34 = .ok (.iastore, 1) := by decide +kernel
theorem dX8_clear_35 : decode cX8_clear 35 = .ok (.aload_n 0, 1) := by decide +kernel
theorem dX8_clear_36 : decode cX8_clear 36 = .ok (.getfield 15, 3) := by decide +kernel
theorem dX8_clear_39 : decode cX8_clear 39 = .ok (.iload_n 2, 1) := by decide +kernel
theorem dX8_clear_40 : decode cX8_clear 40 = .ok (.iconst 0, 1) := by decide +kernel
theorem dX8_clear_41 : decode cX8_clear 41 = .ok (.iastore, 1) := by decide +kernel
theorem dX8_clear_42 : decode cX8_clear 42 = .ok (.aload_n 0, 1) := by decide +kernel
theorem dX8_clear_43 : decode cX8_clear 43 = .ok (.getfield 18, 3) := by decide +kernel
theorem dX8_clear_46 : decode cX8_clear 46 = .ok (.iload_n 2, 1) := by decide +kernel
theorem dX8_clear_47 : decode cX8_clear 47 = .ok (.iconst 0, 1) := by decide +kernel
theorem dX8_clear_48 : decode cX8_clear 48 = .ok (.iastore, 1) := by decide +kernel
theorem dX8_clear_49 : decode cX8_clear 49 = .ok (.aload_n 0, 1) := by decide +kernel
theorem dX8_clear_50 : decode cX8_clear 50 = .ok (.getfield 21, 3) := by decide +kernel
theorem dX8_clear_53 : decode cX8_clear 53 = .ok (.iload_n 2, 1) := by decide +kernel
theorem dX8_clear_54 : decode cX8_clear 54 = .ok (.iconst (-1), 1) := by decide +kernel
theorem dX8_clear_55 : decode cX8_clear 55 = .ok (.iastore, 1) := by decide +kernel
theorem dX8_clear_56 : decode cX8_clear 56 = .ok (.aload_n 0, 1) := by decide +kernel
theorem dX8_clear_57 : decode cX8_clear 57 = .ok (.getfield 24, 3) := by decide +kernel
theorem dX8_clear_60 : decode cX8_clear 60 = .ok (.iload_n 2, 1) := by decide +kernel
theorem dX8_clear_61 : decode cX8_clear 61 = .ok (.iconst 0, 1) := by decide +kernel
theorem dX8_clear_62 : decode cX8_clear 62 = .ok (.iastore, 1) := by decide +kernel
theorem dX8_clear_63 : decode cX8_clear 63 = .ok (.aload_n 0, 1) := by decide +kernel
theorem dX8_clear_64 : decode cX8_clear 64 = .ok (.getfield 27, 3) := by decide +kernel
theorem dX8_clear_67 : decode cX8_clear 67 = .ok (.iload_n 2, 1) := by decide +kernel
theorem dX8_clear_68 : decode cX8_clear 68 = .ok (.iconst (-1), 1) := by decide +kernel
theorem dX8_clear_69 : decode cX8_clear 69 = .ok (.iastore, 1) := by decide +kernel
theorem dX8_clear_70 : decode cX8_clear 70 = .ok (.iinc 2 1, 3) := by decide +kernel
theorem dX8_clear_73 : decode cX8_clear 73 = .ok (.goto (-51), 3) := by decide +kernel
theorem dX8_clear_76 : decode cX8_clear 76 = .ok (.iconst 0, 1) := by decide +kernel
theorem dX8_clear_77 : decode cX8_clear 77 = .ok (.istore_n 2, 1) := by decide +kernel
theorem dX8_clear_78 : decode cX8_clear 78 = .ok (.iload_n 2, 1) := by decide +kernel
theorem dX8_clear_79 : decode cX8_clear 79 = .ok (.aload_n 0, 1) := by decide +kernel
theorem dX8_clear_80 : decode cX8_clear 80 = .ok (.getfield 30, 3) := by decide +kernel
theorem dX8_clear_83 : decode cX8_clear 83 = .ok (.arraylength, 1) := by decide +kernel
theorem dX8_clear_84 : decode cX8_clear 84 = .ok (.if_icmp .ge 16, 3) := by decide +kernel
theorem dX8_clear_87 : decode cX8_clear 87 = .ok (.aload_n 0, 1) := by decide +kernel
theorem dX8_clear_88 : decode cX8_clear 88 = .ok (.getfield 30, 3) := by decide +kernel
theorem dX8_clear_91 : decode cX8_clear 91 = .ok (.iload_n 2, 1) := by decide +kernel
theorem dX8_clear_92 : decode cX8_clear 92 = .ok (.iconst 0, 1) := by decide +kernel
theorem dX8_clear_93 : decode cX8_clear 93 = .ok (.iastore, 1) := by decide +kernel
theorem dX8_clear_94 : decode cX8_clear 94 = .ok (.iinc 2 1, 3) := by decide +kernel
theorem dX8_clear_97 : decode cX8_clear 97 = .ok (.goto (-19), 3) := by decide +kernel
theorem dX8_clear_100 : decode cX8_clear 100 = .ok (.iconst 0, 1) := by decide +kernel
theorem dX8_clear_101 : decode cX8_clear 101 = .ok (.istore_n 2, 1) := by decide +kernel
theorem dX8_clear_102 : decode cX8_clear 102 = .ok (.iload_n 2, 1) := by decide +kernel
theorem dX8_clear_103 : decode cX8_clear 103 = .ok (.bipush 6, 2) := by decide +kernel
theorem dX8_clear_105 : decode cX8_clear 105 = .ok (.if_icmp .ge 23, 3) := by decide +kernel
theorem dX8_clear_108 : decode cX8_clear 108 = .ok (.aload_n 0, 1) := by decide +kernel
theorem dX8_clear_109 : decode cX8_clear 109 = .ok (.getfield 33, 3) := by decide +kernel
theorem dX8_clear_112 : decode cX8_clear 112 = .ok (.iload_n 2, 1) := by decide +kernel
theorem dX8_clear_113 : decode cX8_clear 113 = .ok (.iconst 0, 1) := by decide +kernel
theorem dX8_clear_114 : decode cX8_clear 114 = .ok (.iastore, 1) := by decide +kernel
theorem dX8_clear_115 : decode cX8_clear 115 = .ok (.aload_n 0, 1) := by decide +kernel
theorem dX8_clear_116 : decode cX8_clear 116 = .ok (.getfield 36, 3) := by decide +kernel
theorem dX8_clear_119 : decode cX8_clear 119 = .ok (.iload_n 2, 1) := by decide +kernel
theorem dX8_clear_120 : decode cX8_clear 120 = .ok (.iconst 0, 1) := by decide +kernel
theorem dX8_clear_121 : decode cX8_clear 121 = .ok (.iastore, 1) := by decide +kernel
theorem dX8_clear_122 : decode cX8_clear 122 = .ok (.iinc 2 1, 3) := by decide +kernel
theorem dX8_clear_125 : decode cX8_clear 125 = .ok (.goto (-23), 3) := by decide +kernel
theorem dX8_clear_128 : decode cX8_clear 128 = .ok (.return_, 1) := by decide +kernel
theorem dX8_copyFrom_0 : decode cX8_copyFrom 0 = .ok (.aload_n 0, 1) := by decide +kernel
theorem dX8_copyFrom_1 : decode cX8_copyFrom 1 = .ok (.aload_n 1, 1) := by decide +kernel
theorem dX8_copyFrom_2 : decode cX8_copyFrom 2 = .ok (.getfield 39, 3) := by decide +kernel
theorem dX8_copyFrom_5 : decode cX8_copyFrom 5 = .ok (.putfield 39, 3) := by decide +kernel
theorem dX8_copyFrom_8 : decode cX8_copyFrom 8 = .ok (.aload_n 0, 1) := by decide +kernel
theorem dX8_copyFrom_9 : decode cX8_copyFrom 9 = .ok (.aload_n 1, 1) := by decide +kernel
theorem dX8_copyFrom_10 : decode cX8_copyFrom 10 = .ok (.getfield 43, 3) := by decide +kernel
theorem dX8_copyFrom_13 : decode cX8_copyFrom 13 = .ok (.putfield 43, 3) := by decide +kernel
theorem dX8_copyFrom_16 : decode cX8_copyFrom 16 = .ok (.aload_n 0, 1) := by decide +kernel
theorem dX8_copyFrom_17 : decode cX8_copyFrom 17 = .ok (.aload_n 1, 1) := by decide +kernel
theorem dX8_copyFrom_18 : decode cX8_copyFrom 18 = .ok (.getfield 46, 3) := by decide +kernel
theorem dX8_copyFrom_21 : decode cX8_copyFrom 21 = .ok (.putfield 46, 3) := by decide +kernel
theorem dX8_copyFrom_24 : decode cX8_copyFrom 24 = .ok (.aload_n 0, 1) := by decide +kernel
theorem dX8_copyFrom_25 : decode cX8_copyFrom 25 = .ok (.aload_n 1, 1) := by decide +kernel
theorem dX8_copyFrom_26 : decode cX8_copyFrom 26 = .ok (.getfield 49, 3) := by decide +kernel
theorem dX8_copyFrom_29 : decode cX8_copyFrom 29 = .ok (.putfield 49, 3) := by decide +kernel
theorem dX8_copyFrom_32 : decode cX8_copyFrom 32 = .ok (.aload_n 0, 1) := by decide +kernel
theorem dX8_copyFrom_33 : decode cX8_copyFrom 33 = .ok (.aload_n 1, 1) := by decide +kernel
theorem dX8_copyFrom_34 : decode cX8_copyFrom 34 = .ok (.getfield 52, 3) := by decide +kernel
theorem dX8_copyFrom_37 : decode cX8_copyFrom 37 = .ok (.putfield 52, 3) := by decide +kernel
theorem dX8_copyFrom_40 : decode cX8_copyFrom 40 = .ok (.aload_n 1, 1) := by decide +kernel
theorem dX8_copyFrom_41 : decode cX8_copyFrom 41 = .ok (.getfield 9, 3) := by decide +kernel
theorem dX8_copyFrom_44 : decode cX8_copyFrom 44 = .ok (.iconst 0, 1) := by decide +kernel
theorem dX8_copyFrom_45 : decode cX8_copyFrom 45 = .ok (.aload_n 0, 1) := by decide +kernel
theorem dX8_copyFrom_46 : decode cX8_copyFrom 46 = .ok (.getfield 9, 3) := by decide +kernel
theorem dX8_copyFrom_49 : decode cX8_copyFrom 49 = .ok (.iconst 0, 1) := by decide +kernel
theorem dX8_copyFrom_50 : decode cX8_copyFrom 50 = .ok (.bipush 6, 2) := by decide +kernel
theorem dX8_copyFrom_52 : decode cX8_copyFrom 52 = .ok (.invokestatic 56, 3) := by decide +kernel
theorem dX8_copyFrom_55 : decode cX8_copyFrom 55 = .ok (.aload_n 1, 1) := by decide +kernel
theorem dX8_copyFrom_56 : decode cX8_copyFrom 56 = .ok (.getfield 15, 3) := by decide +kernel
theorem dX8_copyFrom_59 : decode cX8_copyFrom 59 = .ok (.iconst 0, 1) := by decide +kernel
theorem dX8_copyFrom_60 : decode cX8_copyFrom 60 = .ok (.aload_n 0, 1) := by decide +kernel
theorem dX8_copyFrom_61 : decode cX8_copyFrom 61 = .ok (.getfield 15, 3) := by decide +kernel
theorem dX8_copyFrom_64 : decode cX8_copyFrom 64 = .ok (.iconst 0, 1) := by decide +kernel
theorem dX8_copyFrom_65 : decode cX8_copyFrom 65 = .ok (.bipush 6, 2) := by decide +kernel
theorem dX8_copyFrom_67 : decode cX8_copyFrom 67 = .ok (.invokestatic 56, 3) := by decide +kernel
theorem dX8_copyFrom_70 : decode cX8_copyFrom 70 = .ok (.aload_n 1, 1) := by decide +kernel
theorem dX8_copyFrom_71 : decode cX8_copyFrom 71 = .ok (.getfield 18, 3) := by decide +kernel
theorem dX8_copyFrom_74 : decode cX8_copyFrom 74 = .ok (.iconst 0, 1) := by decide +kernel
theorem dX8_copyFrom_75 : decode cX8_copyFrom 75 = .ok (.aload_n 0, 1) := by decide +kernel
theorem dX8_copyFrom_76 : decode cX8_copyFrom 76 = .ok (.getfield 18, 3) := by decide +kernel
theorem dX8_copyFrom_79 : decode cX8_copyFrom 79 = .ok (.iconst 0, 1) := by decide +kernel
theorem dX8_copyFrom_80 : decode cX8_copyFrom 80 = .ok (.bipush 6, 2) := by decide +kernel
theorem dX8_copyFrom_82 : decode cX8_copyFrom 82 = .ok (.invokestatic 56, 3) := by decide +kernel
theorem dX8_copyFrom_85 : decode cX8_copyFrom 85 = .ok (.aload_n 1, 1) := by decide +kernel
theorem dX8_copyFrom_86 : decode cX8_copyFrom 86 = .ok (.getfield 21, 3) := by decide +kernel
theorem dX8_copyFrom_89 : decode cX8_copyFrom 89 = .ok (.iconst 0, 1) := by decide +kernel
theorem dX8_copyFrom_90 : decode cX8_copyFrom 90 = .ok (.aload_n 0, 1) := by decide +kernel
theorem dX8_copyFrom_91 : decode cX8_copyFrom 91 = .ok (.getfield 21, 3) := by decide +kernel
theorem dX8_copyFrom_94 : decode cX8_copyFrom 94 = .ok (.iconst 0, 1) := by decide +kernel
theorem dX8_copyFrom_95 : decode cX8_copyFrom 95 = .ok (.bipush 6, 2) := by decide +kernel
theorem dX8_copyFrom_97 : decode cX8_copyFrom 97 = .ok (.invokestatic 56, 3) := by decide +kernel
theorem dX8_copyFrom_100 : decode cX8_copyFrom 100 = .ok (.aload_n 1, 1) := by decide +kernel
theorem dX8_copyFrom_101 : decode cX8_copyFrom 101 = .ok (.getfield 24, 3) := by decide +kernel
theorem dX8_copyFrom_104 : decode cX8_copyFrom 104 = .ok (.iconst 0, 1) := by decide +kernel
theorem dX8_copyFrom_105 : decode cX8_copyFrom 105 = .ok (.aload_n 0, 1) := by decide +kernel
theorem dX8_copyFrom_106 : decode cX8_copyFrom 106 = .ok (.getfield 24, 3) := by decide +kernel
theorem dX8_copyFrom_109 : decode cX8_copyFrom 109 = .ok (.iconst 0, 1) := by decide +kernel
theorem dX8_copyFrom_110 : decode cX8_copyFrom 110 = .ok (.bipush 6, 2) := by decide +kernel
theorem dX8_copyFrom_112 : decode cX8_copyFrom 112 = .ok (.invokestatic 56, 3) := by decide +kernel
theorem dX8_copyFrom_115 : decode cX8_copyFrom 115 = .ok (.aload_n 1, 1) := by decide +kernel
theorem dX8_copyFrom_116 : decode cX8_copyFrom 116 = .ok (.getfield 27, 3) := by decide +kernel
theorem dX8_copyFrom_119 : decode cX8_copyFrom 119 = .ok (.iconst 0, 1) := by decide +kernel
theorem dX8_copyFrom_120 : decode cX8_copyFrom 120 = .ok (.aload_n 0, 1) := by decide +kernel
theorem dX8_copyFrom_121 : decode cX8_copyFrom 121 = .ok (.getfield 27, 3) := by decide +kernel
theorem dX8_copyFrom_124 : decode cX8_copyFrom 124 = .ok (.iconst 0, 1) := by decide +kernel
theorem dX8_copyFrom_125 : decode cX8_copyFrom 125 = .ok (.bipush 6, 2) := by decide +kernel
theorem dX8_copyFrom_127 : decode cX8_copyFrom 127 = .ok (.invokestatic 56, 3) := by decide +kernel
theorem dX8_copyFrom_130 : decode cX8_copyFrom 130 = .ok (.aload_n 1, 1) := by decide +kernel
theorem dX8_copyFrom_131 : decode cX8_copyFrom 131 = .ok (.getfield 30, 3) := by decide +kernel
theorem dX8_copyFrom_134 : decode cX8_copyFrom 134 = .ok (.iconst 0, 1) := by decide +kernel
theorem dX8_copyFrom_135 : decode cX8_copyFrom 135 = .ok (.aload_n 0, 1) := by decide +kernel
theorem dX8_copyFrom_136 : decode cX8_copyFrom 136 = .ok (.getfield 30, 3) := by decide +kernel
theorem dX8_copyFrom_139 : decode cX8_copyFrom 139 = .ok (.iconst 0, 1) := by decide +kernel
theorem dX8_copyFrom_140 : decode cX8_copyFrom 140 = .ok (.bipush 24, 2) := by decide +kernel
theorem dX8_copyFrom_142 : decode cX8_copyFrom 142 = .ok (.invokestatic 56, 3) := by decide +kernel
theorem dX8_copyFrom_145 : decode cX8_copyFrom 145 = .ok (.aload_n 1, 1) := by decide +kernel
theorem dX8_copyFrom_146 : decode cX8_copyFrom 146 = .ok (.getfield 33, 3) := by decide +kernel
theorem dX8_copyFrom_149 : decode cX8_copyFrom 149 = .ok (.iconst 0, 1) := by decide +kernel
theorem dX8_copyFrom_150 : decode cX8_copyFrom 150 = .ok (.aload_n 0, 1) := by decide +kernel
theorem dX8_copyFrom_151 : decode cX8_copyFrom 151 = .ok (.getfield 33, 3) := by decide +kernel
theorem dX8_copyFrom_154 : decode cX8_copyFrom 154 = .ok (.iconst 0, 1) := by decide +kernel
theorem dX8_copyFrom_155 : decode cX8_copyFrom 155 = .ok (.bipush 6, 2) := by decide +kernel
theorem dX8_copyFrom_157 : decode cX8_copyFrom 157 = .ok (.invokestatic 56, 3) := by decide +kernel
theorem dX8_copyFrom_160 : decode cX8_copyFrom 160 = .ok (.aload_n 1, 1) := by decide +kernel
theorem dX8_copyFrom_161 : decode cX8_copyFrom 161 = .ok (.getfield 36, 3) := by decide +kernel
theorem dX8_copyFrom_164 : decode cX8_copyFrom 164 = .ok (.iconst 0, 1) := by decide +kernel
theorem dX8_copyFrom_165 : decode cX8_copyFrom 165 = .ok (.aload_n 0, 1) := by decide +kernel
theorem dX8_copyFrom_166 : decode cX8_copyFrom 166 = .ok (.getfield 36, 3) := by decide +kernel
theorem dX8_copyFrom_169 : decode cX8_copyFrom 169 = .ok (.iconst 0, 1) := by decide +kernel
theorem dX8_copyFrom_170 : decode cX8_copyFrom 170 = .ok (.bipush 6, 2) := by decide +kernel
theorem dX8_copyFrom_172 : decode cX8_copyFrom 172 = .ok (.invokestatic 56, 3) := by decide +kernel
theorem dX8_copyFrom_175 : decode cX8_copyFrom 175 = .ok (.return_, 1) := by decide +kernel
theorem dX8_isHolding_0 : decode cX8_isHolding 0 = .ok (.aload_n 0, 1) := by decide +kernel
theorem dX8_isHolding_1 : decode cX8_isHolding 1 = .ok (.getfield 49, 3) := by decide +kernel
theorem dX8_isHolding_4 : decode cX8_isHolding 4 = .ok (.iload_n 1, 1) := by decide +kernel
theorem dX8_isHolding_5 : decode cX8_isHolding 5 = .ok (.ishr, 1) := by decide +kernel
theorem dX8_isHolding_6 : decode cX8_isHolding 6 = .ok (.iconst 1, 1) := by decide +kernel
theorem dX8_isHolding_7 : decode cX8_isHolding 7 = .ok (.iand, 1) := by decide +kernel
theorem dX8_isHolding_8 : decode cX8_isHolding 8 = .ok (.ifCond .eq 7, 3) := by decide +kernel
theorem dX8_isHolding_11 : decode cX8_isHolding 11 = .ok (.iconst 1, 1) := by decide +kernel
theorem dX8_isHolding_12 : decode cX8_isHolding 12 = .ok (.goto 4, 3) := by decide +kernel
theorem dX8_isHolding_15 : decode cX8_isHolding 15 = .ok (.iconst 0, 1) := by decide +kernel
theorem dX8_isHolding_16 : decode cX8_isHolding 16 = .ok (.ireturn, 1) := by decide +kernel
theorem dX8_setHolding_0 : decode cX8_setHolding 0 = .ok (.aload_n 0, 1) := by decide +kernel
theorem dX8_setHolding_1 : decode cX8_setHolding 1 = .ok (.iload_n 2, 1) := by decide +kernel
theorem dX8_setHolding_2 : decode cX8_setHolding 2 = .ok (.ifCond .eq 14, 3) := by decide +kernel
theorem dX8_setHolding_5 : decode cX8_setHolding 5 = .ok (.aload_n 0, 1) := by decide +kernel
theorem dX8_setHolding_6 : decode cX8_setHolding 6 = .ok (.getfield 49, 3) := by decide +kernel
theorem dX8_setHolding_9 : decode cX8_setHolding 9 = .ok (.iconst 1, 1) := by decide +kernel
theorem dX8_setHolding_10 : decode cX8_setHolding 10 = .ok (.iload_n 1, 1) := by decide +kernel
theorem dX8_setHolding_11 : decode cX8_setHolding 11 = .ok (.ishl, 1) := by decide +kernel
theorem dX8_setHolding_12 : decode cX8_setHolding 12 = .ok (.ior, 1) := by decide +kernel
theorem dX8_setHolding_13 : decode cX8_setHolding 13 = .ok (.goto 13, 3) := by decide +kernel
theorem dX8_setHolding_16 : decode cX8_setHolding 16 = .ok (.aload_n 0, 1) := by decide +kernel
theorem dX8_setHolding_17 : decode cX8_setHolding 17 = .ok (.getfield 49, 3) := by decide +kernel
theorem dX8_setHolding_20 : decode cX8_setHolding 20 = .ok (.iconst 1, 1) := by decide +kernel
theorem dX8_setHolding_21 : decode cX8_setHolding 21 = .ok (.iload_n 1, 1) := by decide +kernel
theorem dX8_setHolding_22 : decode cX8_setHolding 22 = .ok (.ishl, 1) := by decide +kernel
theorem dX8_setHolding_23 : decode cX8_setHolding 23 = .ok (.iconst (-1), 1) := by decide +kernel
theorem dX8_setHolding_24 : decode cX8_setHolding 24 = .ok (.ixor, 1) := by decide +kernel
theorem dX8_setHolding_25 : decode cX8_setHolding 25 = .ok (.iand, 1) := by decide +kernel
theorem dX8_setHolding_26 : decode cX8_setHolding 26 = .ok (.putfield 49, 3) := by decide +kernel
theorem dX8_setHolding_29 : decode cX8_setHolding 29 = .ok (.return_, 1) := by decide +kernel
theorem dX8_waiting_0 : decode cX8_waiting 0 = .ok (.iconst 0, 1) := by decide +kernel
theorem dX8_waiting_1 : decode cX8_waiting 1 = .ok (.istore_n 2, 1) := by decide +kernel
theorem dX8_waiting_2 : decode cX8_waiting 2 = .ok (.iconst 1, 1) := by decide +kernel
theorem dX8_waiting_3 : decode cX8_waiting 3 = .ok (.istore_n 3, 1) := by decide +kernel
theorem dX8_waiting_4 : decode cX8_waiting 4 = .ok (.iload_n 3, 1) := by decide +kernel
theorem dX8_waiting_5 : decode cX8_waiting 5 = .ok (.iconst 4, 1) := by decide +kernel
theorem dX8_waiting_6 : decode cX8_waiting 6 = .ok (.if_icmp .ge 41, 3) := by decide +kernel
theorem dX8_waiting_9 : decode cX8_waiting 9 = .ok (.iload_n 1, 1) := by decide +kernel
theorem dX8_waiting_10 : decode cX8_waiting 10 = .ok (.iconst 4, 1) := by decide +kernel
theorem dX8_waiting_11 : decode cX8_waiting 11 = .ok (.imul, 1) := by decide +kernel
theorem dX8_waiting_12 : decode cX8_waiting 12 = .ok (.iload_n 3, 1) := by decide +kernel
theorem dX8_waiting_13 : decode cX8_waiting 13 = .ok (.iadd, 1) := by decide +kernel
theorem dX8_waiting_14 : decode cX8_waiting 14 = .ok (.istore 4, 2) := by decide +kernel
theorem dX8_waiting_16 : decode cX8_waiting 16 = .ok (.iload 4, 2) := by decide +kernel
theorem dX8_waiting_18 : decode cX8_waiting 18 = .ok (.ifCond .lt 23, 3) := by decide +kernel
theorem dX8_waiting_21 : decode cX8_waiting 21 = .ok (.iload 4, 2) := by decide +kernel
theorem dX8_waiting_23 : decode cX8_waiting 23 = .ok (.aload_n 0, 1) := by decide +kernel
theorem dX8_waiting_24 : decode cX8_waiting 24 = .ok (.getfield 30, 3) := by decide +kernel
theorem dX8_waiting_27 : decode cX8_waiting 27 = .ok (.arraylength, 1) := by decide +kernel
theorem dX8_waiting_28 : decode cX8_waiting 28 = .ok (.if_icmp .ge 13, 3) := by decide +kernel
theorem dX8_waiting_31 : decode cX8_waiting 31 = .ok (.iload_n 2, 1) := by decide +kernel
theorem dX8_waiting_32 : decode cX8_waiting 32 = .ok (.aload_n 0, 1) := by decide +kernel
theorem dX8_waiting_33 : decode cX8_waiting 33 = .ok (.getfield 30, 3) := by decide +kernel
theorem dX8_waiting_36 : decode cX8_waiting 36 = .ok (.iload 4, 2) := by decide +kernel
theorem dX8_waiting_38 : decode cX8_waiting 38 = .ok (.iaload, 1) := by decide +kernel
theorem dX8_waiting_39 : decode cX8_waiting 39 = .ok (.iadd, 1) := by decide +kernel
theorem dX8_waiting_40 : decode cX8_waiting 40 = .ok (.istore_n 2, 1) := by decide +kernel
theorem dX8_waiting_41 : decode cX8_waiting 41 = .ok (.iinc 3 1, 3) := by decide +kernel
theorem dX8_waiting_44 : decode cX8_waiting 44 = .ok (.goto (-40), 3) := by decide +kernel
theorem dX8_waiting_47 : decode cX8_waiting 47 = .ok (.iload_n 2, 1) := by decide +kernel
theorem dX8_waiting_48 : decode cX8_waiting 48 = .ok (.ireturn, 1) := by decide +kernel
theorem dX8_draw_0 : decode cX8_draw 0 = .ok (.aload_n 0, 1) := by decide +kernel
theorem dX8_draw_1 : decode cX8_draw 1 = .ok (.aload_n 0, 1) := by decide +kernel
theorem dX8_draw_2 : decode cX8_draw 2 = .ok (.getfield 52, 3) := by decide +kernel
theorem dX8_draw_5 : decode cX8_draw 5 = .ok (.ldc2_w 62, 3) := by decide +kernel
theorem dX8_draw_8 : decode cX8_draw 8 = .ok (.lmul, 1) := by decide +kernel
theorem dX8_draw_9 : decode cX8_draw 9 = .ok (.ldc2_w 64, 3) := by decide +kernel
theorem dX8_draw_12 : decode cX8_draw 12 = .ok (.ladd, 1) := by decide +kernel
theorem dX8_draw_13 : decode cX8_draw 13 = .ok (.putfield 52, 3) := by decide +kernel
theorem dX8_draw_16 : decode cX8_draw 16 = .ok (.aload_n 0, 1) := by decide +kernel
theorem dX8_draw_17 : decode cX8_draw 17 = .ok (.getfield 52, 3) := by decide +kernel
theorem dX8_draw_20 : decode cX8_draw 20 = .ok (.bipush 33, 2) := by decide +kernel
theorem dX8_draw_22 : decode cX8_draw 22 = .ok (.lushr, 1) := by decide +kernel
theorem dX8_draw_23 : decode cX8_draw 23 = .ok (.ldc2_w 66, 3) := by decide +kernel
theorem dX8_draw_26 : decode cX8_draw 26 = .ok (.lrem, 1) := by decide +kernel
theorem dX8_draw_27 : decode cX8_draw 27 = .ok (.l2i, 1) := by decide +kernel
theorem dX8_draw_28 : decode cX8_draw 28 = .ok (.ireturn, 1) := by decide +kernel
theorem dX8_isLike_0 : decode cX8_isLike 0 = .ok (.aload_n 0, 1) := by decide +kernel
theorem dX8_isLike_1 : decode cX8_isLike 1 = .ok (.getfield 39, 3) := by decide +kernel
theorem dX8_isLike_4 : decode cX8_isLike 4 = .ok (.aload_n 1, 1) := by decide +kernel
theorem dX8_isLike_5 : decode cX8_isLike 5 = .ok (.getfield 39, 3) := by decide +kernel
theorem dX8_isLike_8 : decode cX8_isLike 8 = .ok (.if_icmp .ne 7, 3) := by decide +kernel
theorem dX8_isLike_11 : decode cX8_isLike 11 = .ok (.iconst 1, 1) := by decide +kernel
theorem dX8_isLike_12 : decode cX8_isLike 12 = .ok (.goto 4, 3) := by decide +kernel
theorem dX8_isLike_15 : decode cX8_isLike 15 = .ok (.iconst 0, 1) := by decide +kernel
theorem dX8_isLike_16 : decode cX8_isLike 16 = .ok (.istore_n 2, 1) := by decide +kernel
theorem dX8_isLike_17 : decode cX8_isLike 17 = .ok (.iconst 0, 1) := by decide +kernel
theorem dX8_isLike_18 : decode cX8_isLike 18 = .ok (.istore_n 3, 1) := by decide +kernel
theorem dX8_isLike_19 : decode cX8_isLike 19 = .ok (.iload_n 3, 1) := by decide +kernel
theorem dX8_isLike_20 : decode cX8_isLike 20 = .ok (.iconst 5, 1) := by decide +kernel
theorem dX8_isLike_21 : decode cX8_isLike 21 = .ok (.if_icmp .ge 49, 3) := by decide +kernel
theorem dX8_isLike_24 : decode cX8_isLike 24 = .ok (.iload_n 2, 1) := by decide +kernel
theorem dX8_isLike_25 : decode cX8_isLike 25 = .ok (.ifCond .eq 37, 3) := by decide +kernel
theorem dX8_isLike_28 : decode cX8_isLike 28 = .ok (.aload_n 0, 1) := by decide +kernel
theorem dX8_isLike_29 : decode cX8_isLike 29 = .ok (.getfield 9, 3) := by decide +kernel
theorem dX8_isLike_32 : decode cX8_isLike 32 = .ok (.iload_n 3, 1) := by decide +kernel
theorem dX8_isLike_33 : decode cX8_isLike 33 = .ok (.iaload, 1) := by decide +kernel
theorem dX8_isLike_34 : decode cX8_isLike 34 = .ok (.aload_n 1, 1) := by decide +kernel
theorem dX8_isLike_35 : decode cX8_isLike 35 = .ok (.getfield 9, 3) := by decide +kernel
theorem dX8_isLike_38 : decode cX8_isLike 38 = .ok (.iload_n 3, 1) := by decide +kernel
theorem dX8_isLike_39 : decode cX8_isLike 39 = .ok (.iaload, 1) := by decide +kernel
theorem dX8_isLike_40 : decode cX8_isLike 40 = .ok (.if_icmp .ne 22, 3) := by decide +kernel
theorem dX8_isLike_43 : decode cX8_isLike 43 = .ok (.aload_n 0, 1) := by decide +kernel
theorem dX8_isLike_44 : decode cX8_isLike 44 = .ok (.getfield 15, 3) := by decide +kernel
theorem dX8_isLike_47 : decode cX8_isLike 47 = .ok (.iload_n 3, 1) := by decide +kernel
theorem dX8_isLike_48 : decode cX8_isLike 48 = .ok (.iaload, 1) := by decide +kernel
theorem dX8_isLike_49 : decode cX8_isLike 49 = .ok (.aload_n 1, 1) := by decide +kernel
theorem dX8_isLike_50 : decode cX8_isLike 50 = .ok (.getfield 15, 3) := by decide +kernel
theorem dX8_isLike_53 : decode cX8_isLike 53 = .ok (.iload_n 3, 1) := by decide +kernel
theorem dX8_isLike_54 : decode cX8_isLike 54 = .ok (.iaload, 1) := by decide +kernel
theorem dX8_isLike_55 : decode cX8_isLike 55 = .ok (.if_icmp .ne 7, 3) := by decide +kernel
theorem dX8_isLike_58 : decode cX8_isLike 58 = .ok (.iconst 1, 1) := by decide +kernel
theorem dX8_isLike_59 : decode cX8_isLike 59 = .ok (.goto 4, 3) := by decide +kernel
theorem dX8_isLike_62 : decode cX8_isLike 62 = .ok (.iconst 0, 1) := by decide +kernel
theorem dX8_isLike_63 : decode cX8_isLike 63 = .ok (.istore_n 2, 1) := by decide +kernel
theorem dX8_isLike_64 : decode cX8_isLike 64 = .ok (.iinc 3 1, 3) := by decide +kernel
theorem dX8_isLike_67 : decode cX8_isLike 67 = .ok (.goto (-48), 3) := by decide +kernel
theorem dX8_isLike_70 : decode cX8_isLike 70 = .ok (.iconst 0, 1) := by decide +kernel
theorem dX8_isLike_71 : decode cX8_isLike 71 = .ok (.istore_n 3, 1) := by decide +kernel
theorem dX8_isLike_72 : decode cX8_isLike 72 = .ok (.iload_n 3, 1) := by decide +kernel
theorem dX8_isLike_73 : decode cX8_isLike 73 = .ok (.aload_n 0, 1) := by decide +kernel
theorem dX8_isLike_74 : decode cX8_isLike 74 = .ok (.getfield 30, 3) := by decide +kernel
theorem dX8_isLike_77 : decode cX8_isLike 77 = .ok (.arraylength, 1) := by decide +kernel
theorem dX8_isLike_78 : decode cX8_isLike 78 = .ok (.if_icmp .ge 43, 3) := by decide +kernel
theorem dX8_isLike_81 : decode cX8_isLike 81 = .ok (.iload_n 3, 1) := by decide +kernel
theorem dX8_isLike_82 : decode cX8_isLike 82 = .ok (.aload_n 1, 1) := by decide +kernel
theorem dX8_isLike_83 : decode cX8_isLike 83 = .ok (.getfield 30, 3) := by decide +kernel
theorem dX8_isLike_86 : decode cX8_isLike 86 = .ok (.arraylength, 1) := by decide +kernel
theorem dX8_isLike_87 : decode cX8_isLike 87 = .ok (.if_icmp .ge 34, 3) := by decide +kernel
theorem dX8_isLike_90 : decode cX8_isLike 90 = .ok (.iload_n 2, 1) := by decide +kernel
theorem dX8_isLike_91 : decode cX8_isLike 91 = .ok (.ifCond .eq 22, 3) := by decide +kernel
theorem dX8_isLike_94 : decode cX8_isLike 94 = .ok (.aload_n 0, 1) := by decide +kernel
theorem dX8_isLike_95 : decode cX8_isLike 95 = .ok (.getfield 30, 3) := by decide +kernel
theorem dX8_isLike_98 : decode cX8_isLike 98 = .ok (.iload_n 3, 1) := by decide +kernel
theorem dX8_isLike_99 : decode cX8_isLike 99 = .ok (.iaload, 1) := by decide +kernel
theorem dX8_isLike_100 : decode cX8_isLike 100 = .ok (.aload_n 1, 1) := by decide +kernel
theorem dX8_isLike_101 : decode cX8_isLike 101 = .ok (.getfield 30, 3) := by decide +kernel
theorem dX8_isLike_104 : decode cX8_isLike 104 = .ok (.iload_n 3, 1) := by decide +kernel
theorem dX8_isLike_105 : decode cX8_isLike 105 = .ok (.iaload, 1) := by decide +kernel
theorem dX8_isLike_106 : decode cX8_isLike 106 = .ok (.if_icmp .ne 7, 3) := by decide +kernel
theorem dX8_isLike_109 : decode cX8_isLike 109 = .ok (.iconst 1, 1) := by decide +kernel
theorem dX8_isLike_110 : decode cX8_isLike 110 = .ok (.goto 4, 3) := by decide +kernel
theorem dX8_isLike_113 : decode cX8_isLike 113 = .ok (.iconst 0, 1) := by decide +kernel
theorem dX8_isLike_114 : decode cX8_isLike 114 = .ok (.istore_n 2, 1) := by decide +kernel
theorem dX8_isLike_115 : decode cX8_isLike 115 = .ok (.iinc 3 1, 3) := by decide +kernel
theorem dX8_isLike_118 : decode cX8_isLike 118 = .ok (.goto (-46), 3) := by decide +kernel
theorem dX8_isLike_121 : decode cX8_isLike 121 = .ok (.iload_n 2, 1) := by decide +kernel
theorem dX8_isLike_122 : decode cX8_isLike 122 = .ok (.ireturn, 1) := by decide +kernel
theorem dX9_init_0 : decode cX9_init 0 = .ok (.aload_n 0, 1) := by decide +kernel
theorem dX9_init_1 : decode cX9_init 1 = .ok (.invokespecial 3, 3) := by decide +kernel
theorem dX9_init_4 : decode cX9_init 4 = .ok (.aload_n 0, 1) := by decide +kernel
theorem dX9_init_5 : decode cX9_init 5 = .ok (.sipush 160, 3) := by decide +kernel
theorem dX9_init_8 : decode cX9_init 8 = .ok (.newarray .int, 2) := by decide +kernel
theorem dX9_init_10 : decode cX9_init 10 = .ok (.putfield 9, 3) := by decide +kernel
theorem dX9_init_13 : decode cX9_init 13 = .ok (.return_, 1) := by decide +kernel
theorem dX9_add_0 : decode cX9_add 0 = .ok (.bipush 24, 2) := by decide +kernel
theorem dX9_add_2 : decode cX9_add 2 = .ok (.istore_n 2, 1) := by decide +kernel
theorem dX9_add_3 : decode cX9_add 3 = .ok (.iload_n 2, 1) := by decide +kernel
theorem dX9_add_4 : decode cX9_add 4 = .ok (.ifCond .lt 53, 3) := by decide +kernel
theorem dX9_add_7 : decode cX9_add 7 = .ok (.iload_n 1, 1) := by decide +kernel
theorem dX9_add_8 : decode cX9_add 8 = .ok (.iload_n 2, 1) := by decide +kernel
theorem dX9_add_9 : decode cX9_add 9 = .ok (.ishr, 1) := by decide +kernel
theorem dX9_add_10 : decode cX9_add 10 = .ok (.sipush 255, 3) := by decide +kernel
theorem dX9_add_13 : decode cX9_add 13 = .ok (.iand, 1) := by decide +kernel
theorem dX9_add_14 : decode cX9_add 14 = .ok (.istore_n 3, 1) := by decide +kernel
theorem dX9_add_15 : decode cX9_add 15 = .ok (.iload_n 3, 1) := by decide +kernel
theorem dX9_add_16 : decode cX9_add 16 = .ok (.ifCond .eq 35, 3) := by decide +kernel
theorem dX9_add_19 : decode cX9_add 19 = .ok (.aload_n 0, 1) := by decide +kernel
theorem dX9_add_20 : decode cX9_add 20 = .ok (.getfield 15, 3) := by decide +kernel
theorem dX9_add_23 : decode cX9_add 23 = .ok (.aload_n 0, 1) := by decide +kernel
theorem dX9_add_24 : decode cX9_add 24 = .ok (.getfield 9, 3) := by decide +kernel
theorem dX9_add_27 : decode cX9_add 27 = .ok (.arraylength, 1) := by decide +kernel
theorem dX9_add_28 : decode cX9_add 28 = .ok (.if_icmp .ge 23, 3) := by decide +kernel
theorem dX9_add_31 : decode cX9_add 31 = .ok (.aload_n 0, 1) := by decide +kernel
theorem dX9_add_32 : decode cX9_add 32 = .ok (.getfield 9, 3) := by decide +kernel
theorem dX9_add_35 : decode cX9_add 35 = .ok (.aload_n 0, 1) := by decide +kernel
theorem dX9_add_36 : decode cX9_add 36 = .ok (.getfield 15, 3) := by decide +kernel
theorem dX9_add_39 : decode cX9_add 39 = .ok (.iload_n 3, 1) := by decide +kernel
theorem dX9_add_40 : decode cX9_add 40 = .ok (.iastore, 1) := by decide +kernel
theorem dX9_add_41 : decode cX9_add 41 = .ok (.aload_n 0, 1) := by decide +kernel
theorem dX9_add_42 : decode cX9_add 42 = .ok (.dup, 1) := by decide +kernel
theorem dX9_add_43 : decode cX9_add 43 = .ok (.getfield 15, 3) := by decide +kernel
theorem dX9_add_46 : decode cX9_add 46 = .ok (.iconst 1, 1) := by decide +kernel
theorem dX9_add_47 : decode cX9_add 47 = .ok (.iadd, 1) := by decide +kernel
theorem dX9_add_48 : decode cX9_add 48 = .ok (.putfield 15, 3) := by decide +kernel
theorem dX9_add_51 : decode cX9_add 51 = .ok (.iinc 2 (-8), 3) := by decide +kernel
theorem dX9_add_54 : decode cX9_add 54 = .ok (.goto (-51), 3) := by decide +kernel
theorem dX9_add_57 : decode cX9_add 57 = .ok (.return_, 1) := by decide +kernel
theorem dX9_byteAt_0 : decode cX9_byteAt 0 = .ok (.iload_n 1, 1) := by decide +kernel
theorem dX9_byteAt_1 : decode cX9_byteAt 1 = .ok (.ifCond .lt 29, 3) := by decide +kernel
theorem dX9_byteAt_4 : decode cX9_byteAt 4 = .ok (.iload_n 1, 1) := by decide +kernel
theorem dX9_byteAt_5 : decode cX9_byteAt 5 = .ok (.aload_n 0, 1) := by decide +kernel
theorem dX9_byteAt_6 : decode cX9_byteAt 6 = .ok (.getfield 15, 3) := by decide +kernel
theorem dX9_byteAt_9 : decode cX9_byteAt 9 = .ok (.if_icmp .ge 21, 3) := by decide +kernel
theorem dX9_byteAt_12 : decode cX9_byteAt 12 = .ok (.iload_n 1, 1) := by decide +kernel
theorem dX9_byteAt_13 : decode cX9_byteAt 13 = .ok (.aload_n 0, 1) := by decide +kernel
theorem dX9_byteAt_14 : decode cX9_byteAt 14 = .ok (.getfield 9, 3) := by decide +kernel
theorem dX9_byteAt_17 : decode cX9_byteAt 17 = .ok (.arraylength, 1) := by decide +kernel
theorem dX9_byteAt_18 : decode cX9_byteAt 18 = .ok (.if_icmp .ge 12, 3) := by decide +kernel
theorem dX9_byteAt_21 : decode cX9_byteAt 21 = .ok (.aload_n 0, 1) := by decide +kernel
theorem dX9_byteAt_22 : decode cX9_byteAt 22 = .ok (.getfield 9, 3) := by decide +kernel
theorem dX9_byteAt_25 : decode cX9_byteAt 25 = .ok (.iload_n 1, 1) := by decide +kernel
theorem dX9_byteAt_26 : decode cX9_byteAt 26 = .ok (.iaload, 1) := by decide +kernel
theorem dX9_byteAt_27 : decode cX9_byteAt 27 = .ok (.goto 4, 3) := by decide +kernel
theorem dX9_byteAt_30 : decode cX9_byteAt 30 = .ok (.iconst (-1), 1) := by decide +kernel
theorem dX9_byteAt_31 : decode cX9_byteAt 31 = .ok (.ireturn, 1) := by decide +kernel
theorem dX10_init_0 : decode cX10_init 0 = .ok (.aload_n 0, 1) := by decide +kernel
theorem dX10_init_1 : decode cX10_init 1 = .ok (.invokespecial 3, 3) := by decide +kernel
theorem dX10_init_4 : decode cX10_init 4 = .ok (.aload_n 0, 1) := by decide +kernel
theorem dX10_init_5 : decode cX10_init 5 = .ok (.new 9, 3) := by decide +kernel
theorem dX10_init_8 : decode cX10_init 8 = .ok (.dup, 1) := by decide +kernel
theorem dX10_init_9 : decode cX10_init 9 = .ok (.invokespecial 11, 3) := by decide +kernel
theorem dX10_init_12 : decode cX10_init 12 = .ok (.putfield 12, 3) := by decide +kernel
theorem dX10_init_15 : decode cX10_init 15 = .ok (.aload_n 0, 1) := by decide +kernel
theorem dX10_init_16 : decode cX10_init 16 = .ok (.aload_n 1, 1) := by decide +kernel
theorem dX10_init_17 : decode cX10_init 17 = .ok (.putfield 18, 3) := by decide +kernel
theorem dX10_init_20 : decode cX10_init 20 = .ok (.aload_n 0, 1) := by decide +kernel
theorem dX10_init_21 : decode cX10_init 21 = .ok (.aload_n 2, 1) := by decide +kernel
theorem dX10_init_22 : decode cX10_init 22 = .ok (.putfield 22, 3) := by decide +kernel
theorem dX10_init_25 : decode cX10_init 25 = .ok (.aload_n 0, 1) := by decide +kernel
theorem dX10_init_26 : decode cX10_init 26 = .ok (.aload_n 3, 1) := by decide +kernel
theorem dX10_init_27 : decode cX10_init 27 = .ok (.putfield 26, 3) := by decide +kernel
theorem dX10_init_30 : decode cX10_init 30 = .ok (.return_, 1) := by decide +kernel
theorem dX10_begin_0 : decode cX10_begin 0 = .ok (.aload_n 0, 1) := by decide +kernel
theorem dX10_begin_1 : decode cX10_begin 1 = .ok (.getfield 12, 3) := by decide +kernel
theorem dX10_begin_4 : decode cX10_begin 4 = .ok (.aload_n 0, 1) := by decide +kernel
theorem dX10_begin_5 : decode cX10_begin 5 = .ok (.getfield 26, 3) := by decide +kernel
theorem dX10_begin_8 : decode cX10_begin 8 = .ok (.invokevirtual 29, 3) := by decide +kernel
theorem dX10_begin_11 : decode cX10_begin 11 = .ok (.aload_n 0, 1) := by decide +kernel
theorem dX10_begin_12 : decode cX10_begin 12 = .ok (.getfield 22, 3) := by decide +kernel
theorem dX10_begin_15 : decode cX10_begin 15 = .ok (.invokevirtual 33, 3) := by decide +kernel
theorem dX10_begin_18 : decode cX10_begin 18 = .ok (.aload_n 0, 1) := by decide +kernel
theorem dX10_begin_19 : decode cX10_begin 19 = .ok (.iconst 0, 1) := by decide +kernel
theorem dX10_begin_20 : decode cX10_begin 20 = .ok (.putfield 38, 3) := by decide +kernel
theorem dX10_begin_23 : decode cX10_begin 23 = .ok (.aload_n 0, 1) := by decide +kernel
theorem dX10_begin_24 : decode cX10_begin 24 = .ok (.iconst 0, 1) := by decide +kernel
theorem dX10_begin_25 : decode cX10_begin 25 = .ok (.putfield 42, 3) := by decide +kernel
theorem dX10_begin_28 : decode cX10_begin 28 = .ok (.aload_n 0, 1) := by decide +kernel
theorem dX10_begin_29 : decode cX10_begin 29 = .ok (.aload_n 0, 1) := by decide +kernel
theorem dX10_begin_30 : decode cX10_begin 30 = .ok (.getfield 12, 3) := by decide +kernel
theorem dX10_begin_33 : decode cX10_begin 33 = .ok (.getfield 45, 3) := by decide +kernel
theorem dX10_begin_36 : decode cX10_begin 36 = .ok (.putfield 48, 3) := by decide +kernel
theorem dX10_begin_39 : decode cX10_begin 39 = .ok (.aload_n 0, 1) := by decide +kernel
theorem dX10_begin_40 : decode cX10_begin 40 = .ok (.aload_n 0, 1) := by decide +kernel
theorem dX10_begin_41 : decode cX10_begin 41 = .ok (.getfield 12, 3) := by decide +kernel
theorem dX10_begin_44 : decode cX10_begin 44 = .ok (.getfield 45, 3) := by decide +kernel
theorem dX10_begin_47 : decode cX10_begin 47 = .ok (.putfield 51, 3) := by decide +kernel
theorem dX10_begin_50 : decode cX10_begin 50 = .ok (.aload_n 0, 1) := by decide +kernel
theorem dX10_begin_51 : decode cX10_begin 51 = .ok (.aload_n 0, 1) := by decide +kernel
theorem dX10_begin_52 : decode cX10_begin 52 = .ok (.getfield 12, 3) := by decide +kernel
theorem dX10_begin_55 : decode cX10_begin 55 = .ok (.getfield 45, 3) := by decide +kernel
theorem dX10_begin_58 : decode cX10_begin 58 = .ok (.putfield 54, 3) := by decide +kernel
theorem dX10_begin_61 : decode cX10_begin 61 = .ok (.aload_n 0, 1) := by decide +kernel
theorem dX10_begin_62 : decode cX10_begin 62 = .ok (.iconst 0, 1) := by decide +kernel
theorem dX10_begin_63 : decode cX10_begin 63 = .ok (.putfield 57, 3) := by decide +kernel
theorem dX10_begin_66 : decode cX10_begin 66 = .ok (.aload_n 0, 1) := by decide +kernel
theorem dX10_begin_67 : decode cX10_begin 67 = .ok (.iconst 0, 1) := by decide +kernel
theorem dX10_begin_68 : decode cX10_begin 68 = .ok (.putfield 60, 3) := by decide +kernel
theorem dX10_begin_71 : decode cX10_begin 71 = .ok (.aload_n 0, 1) := by decide +kernel
theorem dX10_begin_72 : decode cX10_begin 72 = .ok (.iconst (-1), 1) := by decide +kernel
theorem dX10_begin_73 : decode cX10_begin 73 = .ok (.putfield 63, 3) := by decide +kernel
theorem dX10_begin_76 : decode cX10_begin 76 = .ok (.aload_n 0, 1) := by decide +kernel
theorem dX10_begin_77 : decode cX10_begin 77 = .ok (.iconst (-1), 1) := by decide +kernel
theorem dX10_begin_78 : decode cX10_begin 78 = .ok (.putfield 66, 3) := by decide +kernel
theorem dX10_begin_81 : decode cX10_begin 81 = .ok (.aload_n 0, 1) := by decide +kernel
theorem dX10_begin_82 : decode cX10_begin 82 = .ok (.iconst 0, 1) := by decide +kernel
theorem dX10_begin_83 : decode cX10_begin 83 = .ok (.putfield 69, 3) := by decide +kernel
theorem dX10_begin_86 : decode cX10_begin 86 = .ok (.return_, 1) := by decide +kernel
theorem dX10_beginHolding_0 : decode cX10_beginHolding 0 = .ok (.aload_n 0, 1) := by decide +kernel
theorem dX10_beginHolding_1 : decode cX10_beginHolding 1 = .ok (.invokevirtual 72, 3) := by decide +kernel
theorem dX10_beginHolding_4 : decode cX10_beginHolding 4 = .ok (.aload_n 0, 1) := by decide +kernel
theorem dX10_beginHolding_5 : decode cX10_beginHolding 5 = .ok (.getfield 12, 3) := by decide +kernel
theorem dX10_beginHolding_8 : decode cX10_beginHolding 8 = .ok (.iload_n 1, 1) := by decide +kernel
theorem dX10_beginHolding_9 : decode cX10_beginHolding 9 = .ok (.iload_n 2, 1) := by decide +kernel
theorem dX10_beginHolding_10 : decode cX10_beginHolding 10 = .ok (.invokevirtual 73, 3) := by decide +kernel
theorem dX10_beginHolding_13 : decode cX10_beginHolding 13 = .ok (.return_, 1) := by decide +kernel
theorem dX10_addStranger_0 : decode cX10_addStranger 0 = .ok (.aload_n 0, 1) := by decide +kernel
theorem dX10_addStranger_1 : decode cX10_addStranger 1 = .ok (.getfield 18, 3) := by decide +kernel
theorem dX10_addStranger_4 : decode cX10_addStranger 4 = .ok (.getfield 77, 3) := by decide +kernel
theorem dX10_addStranger_7 : decode cX10_addStranger 7 = .ok (.istore_n 3, 1) := by decide +kernel
theorem dX10_addStranger_8 : decode cX10_addStranger 8 = .ok (.iload_n 3, 1) := by decide +kernel
theorem dX10_addStranger_9 : decode cX10_addStranger 9 = .ok (.bipush 6, 2) := by decide +kernel
theorem dX10_addStranger_11 : decode cX10_addStranger 11 = .ok (.if_icmp .lt 4, 3) := by decide +kernel
theorem dX10_addStranger_14 : decode cX10_addStranger 14 = .ok (.return_, 1) := by decide +kernel
theorem dX10_addStranger_15 : decode cX10_addStranger 15 = .ok (.aload_n 0, 1) := by decide +kernel
theorem dX10_addStranger_16 : decode cX10_addStranger 16 = .ok (.getfield 22, 3) := by decide +kernel
theorem dX10_addStranger_19 : decode cX10_addStranger 19 = .ok (.iload_n 3, 1) := by decide +kernel
theorem dX10_addStranger_20 : decode cX10_addStranger 20 = .ok (.iconst 1, 1) := by decide +kernel
theorem dX10_addStranger_21 : decode cX10_addStranger 21 = .ok (.iadd, 1) := by decide +kernel
theorem dX10_addStranger_22 : decode cX10_addStranger 22 = .ok (.putfield 82, 3) := by decide +kernel
theorem dX10_addStranger_25 : decode cX10_addStranger 25 = .ok (.aload_n 0, 1) := by decide +kernel
theorem dX10_addStranger_26 : decode cX10_addStranger 26 = .ok (.getfield 22, 3) := by decide +kernel
theorem dX10_addStranger_29 : decode cX10_addStranger 29 = .ok (.getfield 85, 3) := by decide +kernel
theorem dX10_addStranger_32 : decode cX10_addStranger 32 = .ok (.iload_n 3, 1) := by decide +kernel
theorem dX10_addStranger_33 : decode cX10_addStranger 33 = .ok (.iload_n 2, 1) := by decide +kernel
theorem dX10_addStranger_34 : decode cX10_addStranger 34 = .ok (.iastore, 1) := by decide +kernel
theorem dX10_addStranger_35 : decode cX10_addStranger 35 = .ok (.aload_n 0, 1) := by decide +kernel
theorem dX10_addStranger_36 : decode cX10_addStranger 36 = .ok (.getfield 12, 3) := by decide +kernel
theorem dX10_addStranger_39 : decode cX10_addStranger 39 = .ok (.getfield 89, 3) := by decide +kernel
theorem dX10_addStranger_42 : decode cX10_addStranger 42 = .ok (.iload_n 3, 1) := by decide +kernel
theorem dX10_addStranger_43 : decode cX10_addStranger 43 = .ok (.iload_n 1, 1) := by decide +kernel
theorem dX10_addStranger_44 : decode cX10_addStranger 44 = .ok (.iastore, 1) := by decide +kernel
theorem dX10_addStranger_45 : decode cX10_addStranger 45 = .ok (.return_, 1) := by decide +kernel
theorem dX10_pass_0 : decode cX10_pass 0 = .ok (.iconst 0, 1) := by decide +kernel
theorem dX10_pass_1 : decode cX10_pass 1 = .ok (.istore_n 2, 1) := by decide +kernel
theorem dX10_pass_2 : decode cX10_pass 2 = .ok (.iload_n 2, 1) := by decide +kernel
theorem dX10_pass_3 : decode cX10_pass 3 = .ok (.iload_n 1, 1) := by decide +kernel
theorem dX10_pass_4 : decode cX10_pass 4 = .ok (.if_icmp .ge 13, 3) := by decide +kernel
theorem dX10_pass_7 : decode cX10_pass 7 = .ok (.aload_n 0, 1) := by decide +kernel
theorem dX10_pass_8 : decode cX10_pass 8 = .ok (.invokevirtual 92, 3) := by decide +kernel
theorem dX10_pass_11 : decode cX10_pass 11 = .ok (.iinc 2 1, 3) := by decide +kernel
theorem dX10_pass_14 : decode cX10_pass 14 = .ok (.goto (-12), 3) := by decide +kernel
theorem dX10_pass_17 : decode cX10_pass 17 = .ok (.return_, 1) := by decide +kernel
theorem dX10_step_0 : decode cX10_step 0 = .ok (.aload_n 0, 1) := by decide +kernel
theorem dX10_step_1 : decode cX10_step 1 = .ok (.getfield 22, 3) := by decide +kernel
theorem dX10_step_4 : decode cX10_step 4 = .ok (.aload_n 0, 1) := by decide +kernel
theorem dX10_step_5 : decode cX10_step 5 = .ok (.getfield 12, 3) := by decide +kernel
theorem dX10_step_8 : decode cX10_step 8 = .ok (.iconst 0, 1) := by decide +kernel
theorem dX10_step_9 : decode cX10_step 9 = .ok (.invokevirtual 95, 3) := by decide +kernel
theorem dX10_step_12 : decode cX10_step 12 = .ok (.aload_n 0, 1) := by decide +kernel
theorem dX10_step_13 : decode cX10_step 13 = .ok (.invokevirtual 99, 3) := by decide +kernel
theorem dX10_step_16 : decode cX10_step 16 = .ok (.aload_n 0, 1) := by decide +kernel
theorem dX10_step_17 : decode cX10_step 17 = .ok (.invokevirtual 102, 3) := by decide +kernel
theorem dX10_step_20 : decode cX10_step 20 = .ok (.aload_n 0, 1) := by decide +kernel
theorem dX10_step_21 : decode cX10_step 21 = .ok (.invokevirtual 105, 3) := by decide +kernel
theorem dX10_step_24 : decode cX10_step 24 = .ok (.aload_n 0, 1) := by decide +kernel
theorem dX10_step_25 : decode cX10_step 25 = .ok (.dup, 1) := by decide +kernel
theorem dX10_step_26 : decode cX10_step 26 = .ok (.getfield 69, 3) := by decide +kernel
theorem dX10_step_29 : decode cX10_step 29 = .ok (.iconst 1, 1) := by decide +kernel
theorem dX10_step_30 : decode cX10_step 30 = .ok (.iadd, 1) := by decide +kernel
theorem dX10_step_31 : decode cX10_step 31 = .ok (.putfield 69, 3) := by decide +kernel
theorem dX10_step_34 : decode cX10_step 34 = .ok (.return_, 1) := by decide +kernel
theorem dX10_noteBoard_0 : decode cX10_noteBoard 0 = .ok (.aload_n 0, 1) := by decide +kernel
theorem dX10_noteBoard_1 : decode cX10_noteBoard 1 = .ok (.getfield 12, 3) := by decide +kernel
theorem dX10_noteBoard_4 : decode cX10_noteBoard 4 = .ok (.getfield 45, 3) := by decide +kernel
theorem dX10_noteBoard_7 : decode cX10_noteBoard 7 = .ok (.istore_n 1, 1) := by decide +kernel
theorem dX10_noteBoard_8 : decode cX10_noteBoard 8 = .ok (.aload_n 0, 1) := by decide +kernel
theorem dX10_noteBoard_9 : decode cX10_noteBoard 9 = .ok (.getfield 22, 3) := by decide +kernel
theorem dX10_noteBoard_12 : decode cX10_noteBoard 12 = .ok (.getfield 108, 3) := by decide +kernel
theorem dX10_noteBoard_15 : decode cX10_noteBoard 15 = .ok (.ifCond .eq 18, 3) := by decide +kernel
theorem dX10_noteBoard_18 : decode cX10_noteBoard 18 = .ok (.aload_n 0, 1) := by decide +kernel
theorem dX10_noteBoard_19 : decode cX10_noteBoard 19 = .ok (.dup, 1) := by decide +kernel
theorem dX10_noteBoard_20 : decode cX10_noteBoard 20 = .ok (.getfield 38, 3) := by decide +kernel
theorem dX10_noteBoard_23 : decode cX10_noteBoard 23 = .ok (.iconst 1, 1) := by decide +kernel
theorem dX10_noteBoard_24 : decode cX10_noteBoard 24 = .ok (.iadd, 1) := by decide +kernel
theorem dX10_noteBoard_25 : decode cX10_noteBoard 25 = .ok (.putfield 38, 3) := by decide +kernel
theorem dX10_noteBoard_28 : decode cX10_noteBoard 28 = .ok (.aload_n 0, 1) := by decide +kernel
theorem dX10_noteBoard_29 : decode cX10_noteBoard 29 = .ok (.iload_n 1, 1) := by decide +kernel
theorem dX10_noteBoard_30 : decode cX10_noteBoard 30 = .ok (.putfield 48, 3) := by decide +kernel
theorem dX10_noteBoard_33 : decode cX10_noteBoard 33 = .ok (.aload_n 0, 1) := by decide +kernel
theorem dX10_noteBoard_34 : decode cX10_noteBoard 34 = .ok (.aload_n 0, 1) := by decide +kernel
theorem dX10_noteBoard_35 : decode cX10_noteBoard 35 = .ok (.getfield 42, 3) := by decide +kernel
theorem dX10_noteBoard_38 : decode cX10_noteBoard 38 = .ok (.aload_n 0, 1) := by decide +kernel
theorem dX10_noteBoard_39 : decode cX10_noteBoard 39 = .ok (.getfield 48, 3) := by decide +kernel
theorem dX10_noteBoard_42 : decode cX10_noteBoard 42 = .ok (.iload_n 1, 1) := by decide +kernel
theorem dX10_noteBoard_43 : decode cX10_noteBoard 43 = .ok (.isub, 1) := by decide +kernel
theorem dX10_noteBoard_44 : decode cX10_noteBoard 44 = .ok (.invokestatic 112, 3) := by decide +kernel
theorem dX10_noteBoard_47 : decode cX10_noteBoard 47 = .ok (.putfield 42, 3) := by decide +kernel
theorem dX10_noteBoard_50 : decode cX10_noteBoard 50 = .ok (.aload_n 0, 1) := by decide +kernel
theorem dX10_noteBoard_51 : decode cX10_noteBoard 51 = .ok (.aload_n 0, 1) := by decide +kernel
theorem dX10_noteBoard_52 : decode cX10_noteBoard 52 = .ok (.getfield 48, 3) := by decide +kernel
theorem dX10_noteBoard_55 : decode cX10_noteBoard 55 = .ok (.iload_n 1, 1) := by decide +kernel
theorem dX10_noteBoard_56 : decode cX10_noteBoard 56 = .ok (.invokestatic 112, 3) := by decide +kernel
theorem dX10_noteBoard_59 : decode cX10_noteBoard 59 = .ok (.putfield 48, 3) := by decide +kernel
theorem dX10_noteBoard_62 : decode cX10_noteBoard 62 = .ok (.aload_n 0, 1) := by decide +kernel
theorem dX10_noteBoard_63 : decode cX10_noteBoard 63 = .ok (.aload_n 0, 1) := by decide +kernel
theorem dX10_noteBoard_64 : decode cX10_noteBoard 64 = .ok (.getfield 51, 3) := by decide +kernel
theorem dX10_noteBoard_67 : decode cX10_noteBoard 67 = .ok (.iload_n 1, 1) := by decide +kernel
theorem dX10_noteBoard_68 : decode cX10_noteBoard 68 = .ok (.invokestatic 112, 3) := by decide +kernel
theorem dX10_noteBoard_71 : decode cX10_noteBoard 71 = .ok (.putfield 51, 3) := by decide +kernel
theorem dX10_noteBoard_74 : decode cX10_noteBoard 74 = .ok (.aload_n 0, 1) := by decide +kernel
theorem dX10_noteBoard_75 : decode cX10_noteBoard 75 = .ok (.aload_n 0, 1) := by decide +kernel
theorem dX10_noteBoard_76 : decode cX10_noteBoard 76 = .ok (.getfield 54, 3) := by decide +kernel
theorem dX10_noteBoard_79 : decode cX10_noteBoard 79 = .ok (.iload_n 1, 1) := by decide +kernel
theorem dX10_noteBoard_80 : decode cX10_noteBoard 80 = .ok (.invokestatic 118, 3) := by decide +kernel
theorem dX10_noteBoard_83 : decode cX10_noteBoard 83 = .ok (.putfield 54, 3) := by decide +kernel
theorem dX10_noteBoard_86 : decode cX10_noteBoard 86 = .ok (.aload_n 0, 1) := by decide +kernel
theorem dX10_noteBoard_87 : decode cX10_noteBoard 87 = .ok (.dup, 1) := by decide +kernel
theorem dX10_noteBoard_88 : decode cX10_noteBoard 88 = .ok (.getfield 57, 3) := by decide +kernel
theorem dX10_noteBoard_91 : decode cX10_noteBoard 91 = .ok (.iload_n 1, 1) := by decide +kernel
theorem dX10_noteBoard_92 : decode cX10_noteBoard 92 = .ok (.iadd, 1) := by decide +kernel
theorem dX10_noteBoard_93 : decode cX10_noteBoard 93 = .ok (.putfield 57, 3) := by decide +kernel
theorem dX10_noteBoard_96 : decode cX10_noteBoard 96 = .ok (.return_, 1) := by decide +kernel
theorem dX10_noteCheapest_0 : decode cX10_noteCheapest 0 = .ok (.iconst 0, 1) := by decide +kernel
theorem dX10_noteCheapest_1 : decode cX10_noteCheapest 1 = .ok (.istore_n 1, 1) := by decide +kernel
theorem dX10_noteCheapest_2 : decode cX10_noteCheapest 2 = .ok (.iload_n 1, 1) := by decide +kernel
theorem dX10_noteCheapest_3 : decode cX10_noteCheapest 3 = .ok (.aload_n 0, 1) := by decide +kernel
theorem dX10_noteCheapest_4 : decode cX10_noteCheapest 4 = .ok (.getfield 18, 3) := by decide +kernel
theorem dX10_noteCheapest_7 : decode cX10_noteCheapest 7 = .ok (.getfield 77, 3) := by decide +kernel
theorem dX10_noteCheapest_10 : decode cX10_noteCheapest 10 = .ok (.if_icmp .ge 80, 3) := by decide +kernel
theorem dX10_noteCheapest_13 : decode cX10_noteCheapest 13 = .ok (.aload_n 0, 1) := by decide +kernel
theorem dX10_noteCheapest_14 : decode cX10_noteCheapest 14 = .ok (.getfield 22, 3) := by decide +kernel
theorem dX10_noteCheapest_17 : decode cX10_noteCheapest 17 = .ok (.getfield 121, 3) := by decide +kernel
theorem dX10_noteCheapest_20 : decode cX10_noteCheapest 20 = .ok (.iload_n 1, 1) := by decide +kernel
theorem dX10_noteCheapest_21 : decode cX10_noteCheapest 21 = .ok (.iaload, 1) := by decide +kernel
theorem dX10_noteCheapest_22 : decode cX10_noteCheapest 22 = .ok (.ifCond .eq 62, 3) := by decide +kernel
theorem dX10_noteCheapest_25 : decode cX10_noteCheapest 25 = .ok (.aload_n 0, 1) := by decide +kernel
theorem dX10_noteCheapest_26 : decode cX10_noteCheapest 26 = .ok (.getfield 12, 3) := by decide +kernel
theorem dX10_noteCheapest_29 : decode cX10_noteCheapest 29 = .ok (.iload_n 1, 1) := by decide +kernel
theorem dX10_noteCheapest_30 : decode cX10_noteCheapest 30 = .ok (.invokevirtual 124, 3) := by decide +kernel
theorem dX10_noteCheapest_33 : decode cX10_noteCheapest 33 = .ok (.ifCond .eq 6, 3) := by decide +kernel
theorem dX10_noteCheapest_36 : decode cX10_noteCheapest 36 = .ok (.goto 48, 3) := by decide +kernel
theorem dX10_noteCheapest_39 : decode cX10_noteCheapest 39 = .ok (.aload_n 0, 1) := by decide +kernel
theorem dX10_noteCheapest_40 : decode cX10_noteCheapest 40 = .ok (.getfield 63, 3) := by decide +kernel
theorem dX10_noteCheapest_43 : decode cX10_noteCheapest 43 = .ok (.iconst (-1), 1) := by decide +kernel
theorem dX10_noteCheapest_44 : decode cX10_noteCheapest 44 = .ok (.if_icmp .eq 19, 3) := by decide +kernel
theorem dX10_noteCheapest_47 : decode cX10_noteCheapest 47 = .ok (.aload_n 0, 1) := by decide +kernel
theorem dX10_noteCheapest_48 : decode cX10_noteCheapest 48 = .ok (.getfield 12, 3) := by decide +kernel
theorem dX10_noteCheapest_51 : decode cX10_noteCheapest 51 = .ok (.getfield 128, 3) := by decide +kernel
theorem dX10_noteCheapest_54 : decode cX10_noteCheapest 54 = .ok (.iload_n 1, 1) := by decide +kernel
theorem dX10_noteCheapest_55 : decode cX10_noteCheapest 55 = .ok (.iaload, 1) := by decide +kernel
theorem dX10_noteCheapest_56 : decode cX10_noteCheapest 56 = .ok (.aload_n 0, 1) := by decide +kernel
theorem dX10_noteCheapest_57 : decode cX10_noteCheapest 57 = .ok (.getfield 66, 3) := by decide +kernel
theorem dX10_noteCheapest_60 : decode cX10_noteCheapest 60 = .ok (.if_icmp .ge 24, 3) := by decide +kernel
theorem dX10_noteCheapest_63 : decode cX10_noteCheapest 63 = .ok (.aload_n 0, 1) := by decide +kernel
theorem dX10_noteCheapest_64 : decode cX10_noteCheapest 64 = .ok (.aload_n 0, 1) := by decide +kernel
theorem dX10_noteCheapest_65 : decode cX10_noteCheapest 65 = .ok (.getfield 69, 3) := by decide +kernel
theorem dX10_noteCheapest_68 : decode cX10_noteCheapest 68 = .ok (.putfield 63, 3) := by decide +kernel
theorem dX10_noteCheapest_71 : decode cX10_noteCheapest 71 = .ok (.aload_n 0, 1) := by decide +kernel
theorem dX10_noteCheapest_72 : decode cX10_noteCheapest 72 = .ok (.aload_n 0, 1) := by decide +kernel
theorem dX10_noteCheapest_73 : decode cX10_noteCheapest 73 = .ok (.getfield 12, 3) := by decide +kernel
theorem dX10_noteCheapest_76 : decode cX10_noteCheapest 76 = .ok (.getfield 128, 3) := by decide +kernel
theorem dX10_noteCheapest_79 : decode cX10_noteCheapest 79 = .ok (.iload_n 1, 1) := by decide +kernel
theorem dX10_noteCheapest_80 : decode cX10_noteCheapest 80 = .ok (.iaload, 1) := by decide +kernel
theorem dX10_noteCheapest_81 : decode cX10_noteCheapest 81 = .ok (.putfield 66, 3) := by decide +kernel
theorem dX10_noteCheapest_84 : decode cX10_noteCheapest 84 = .ok (.iinc 1 1, 3) := by decide +kernel
theorem dX10_noteCheapest_87 : decode cX10_noteCheapest 87 = .ok (.goto (-85), 3) := by decide +kernel
theorem dX10_noteCheapest_90 : decode cX10_noteCheapest 90 = .ok (.return_, 1) := by decide +kernel
theorem dX10_noteGlut_0 : decode cX10_noteGlut 0 = .ok (.iconst 0, 1) := by decide +kernel
theorem dX10_noteGlut_1 : decode cX10_noteGlut 1 = .ok (.istore_n 1, 1) := by decide +kernel
theorem dX10_noteGlut_2 : decode cX10_noteGlut 2 = .ok (.iload_n 1, 1) := by decide +kernel
theorem dX10_noteGlut_3 : decode cX10_noteGlut 3 = .ok (.aload_n 0, 1) := by decide +kernel
theorem dX10_noteGlut_4 : decode cX10_noteGlut 4 = .ok (.getfield 18, 3) := by decide +kernel
theorem dX10_noteGlut_7 : decode cX10_noteGlut 7 = .ok (.getfield 77, 3) := by decide +kernel
theorem dX10_noteGlut_10 : decode cX10_noteGlut 10 = .ok (.if_icmp .ge 41, 3) := by decide +kernel
theorem dX10_noteGlut_13 : decode cX10_noteGlut 13 = .ok (.aload_n 0, 1) := by decide +kernel
theorem dX10_noteGlut_14 : decode cX10_noteGlut 14 = .ok (.getfield 12, 3) := by decide +kernel
theorem dX10_noteGlut_17 : decode cX10_noteGlut 17 = .ok (.getfield 131, 3) := by decide +kernel
theorem dX10_noteGlut_20 : decode cX10_noteGlut 20 = .ok (.iload_n 1, 1) := by decide +kernel
theorem dX10_noteGlut_21 : decode cX10_noteGlut 21 = .ok (.iaload, 1) := by decide +kernel
theorem dX10_noteGlut_22 : decode cX10_noteGlut 22 = .ok (.aload_n 0, 1) := by decide +kernel
theorem dX10_noteGlut_23 : decode cX10_noteGlut 23 = .ok (.getfield 18, 3) := by decide +kernel
theorem dX10_noteGlut_26 : decode cX10_noteGlut 26 = .ok (.getfield 134, 3) := by decide +kernel
theorem dX10_noteGlut_29 : decode cX10_noteGlut 29 = .ok (.iload_n 1, 1) := by decide +kernel
theorem dX10_noteGlut_30 : decode cX10_noteGlut 30 = .ok (.iaload, 1) := by decide +kernel
theorem dX10_noteGlut_31 : decode cX10_noteGlut 31 = .ok (.if_icmp .le 14, 3) := by decide +kernel
theorem dX10_noteGlut_34 : decode cX10_noteGlut 34 = .ok (.aload_n 0, 1) := by decide +kernel
theorem dX10_noteGlut_35 : decode cX10_noteGlut 35 = .ok (.dup, 1) := by decide +kernel
theorem dX10_noteGlut_36 : decode cX10_noteGlut 36 = .ok (.getfield 60, 3) := by decide +kernel
theorem dX10_noteGlut_39 : decode cX10_noteGlut 39 = .ok (.iconst 1, 1) := by decide +kernel
theorem dX10_noteGlut_40 : decode cX10_noteGlut 40 = .ok (.iadd, 1) := by decide +kernel
theorem dX10_noteGlut_41 : decode cX10_noteGlut 41 = .ok (.putfield 60, 3) := by decide +kernel
theorem dX10_noteGlut_44 : decode cX10_noteGlut 44 = .ok (.return_, 1) := by decide +kernel
theorem dX10_noteGlut_45 : decode cX10_noteGlut 45 = .ok (.iinc 1 1, 3) := by decide +kernel
theorem dX10_noteGlut_48 : decode cX10_noteGlut 48 = .ok (.goto (-46), 3) := by decide +kernel
theorem dX10_noteGlut_51 : decode cX10_noteGlut 51 = .ok (.return_, 1) := by decide +kernel
theorem dX10_gainOf_0 : decode cX10_gainOf 0 = .ok (.iload_n 1, 1) := by decide +kernel
theorem dX10_gainOf_1 : decode cX10_gainOf 1 = .ok (.ifCond .lt 9, 3) := by decide +kernel
theorem dX10_gainOf_4 : decode cX10_gainOf 4 = .ok (.iload_n 1, 1) := by decide +kernel
theorem dX10_gainOf_5 : decode cX10_gainOf 5 = .ok (.bipush 6, 2) := by decide +kernel
theorem dX10_gainOf_7 : decode cX10_gainOf 7 = .ok (.if_icmp .lt 5, 3) := by decide +kernel
theorem dX10_gainOf_10 : decode cX10_gainOf 10 = .ok (.iconst 0, 1) := by decide +kernel
theorem dX10_gainOf_11 : decode cX10_gainOf 11 = .ok (.ireturn, 1) := by decide +kernel
theorem dX10_gainOf_12 : decode cX10_gainOf 12 = .ok (.aload_n 0, 1) := by decide +kernel
theorem dX10_gainOf_13 : decode cX10_gainOf 13 = .ok (.getfield 12, 3) := by decide +kernel
theorem dX10_gainOf_16 : decode cX10_gainOf 16 = .ok (.getfield 137, 3) := by decide +kernel
theorem dX10_gainOf_19 : decode cX10_gainOf 19 = .ok (.iload_n 1, 1) := by decide +kernel
theorem dX10_gainOf_20 : decode cX10_gainOf 20 = .ok (.iaload, 1) := by decide +kernel
theorem dX10_gainOf_21 : decode cX10_gainOf 21 = .ok (.aload_n 0, 1) := by decide +kernel
theorem dX10_gainOf_22 : decode cX10_gainOf 22 = .ok (.getfield 26, 3) := by decide +kernel
theorem dX10_gainOf_25 : decode cX10_gainOf 25 = .ok (.getfield 137, 3) := by decide +kernel
theorem dX10_gainOf_28 : decode cX10_gainOf 28 = .ok (.iload_n 1, 1) := by decide +kernel
theorem dX10_gainOf_29 : decode cX10_gainOf 29 = .ok (.iaload, 1) := by decide +kernel
theorem dX10_gainOf_30 : decode cX10_gainOf 30 = .ok (.isub, 1) := by decide +kernel
theorem dX10_gainOf_31 : decode cX10_gainOf 31 = .ok (.ireturn, 1) := by decide +kernel
theorem dX10_gainOfAll_0 : decode cX10_gainOfAll 0 = .ok (.iconst 0, 1) := by decide +kernel
theorem dX10_gainOfAll_1 : decode cX10_gainOfAll 1 = .ok (.istore_n 1, 1) := by decide +kernel
theorem dX10_gainOfAll_2 : decode cX10_gainOfAll 2 = .ok (.iconst 0, 1) := by decide +kernel
theorem dX10_gainOfAll_3 : decode cX10_gainOfAll 3 = .ok (.istore_n 2, 1) := by decide +kernel
theorem dX10_gainOfAll_4 : decode cX10_gainOfAll 4 = .ok (.iload_n 2, 1) := by decide +kernel
theorem dX10_gainOfAll_5 : decode cX10_gainOfAll 5 = .ok (.aload_n 0, 1) := by decide +kernel
theorem dX10_gainOfAll_6 : decode cX10_gainOfAll 6 = .ok (.getfield 18, 3) := by decide +kernel
theorem dX10_gainOfAll_9 : decode cX10_gainOfAll 9 = .ok (.getfield 77, 3) := by decide +kernel
theorem dX10_gainOfAll_12 : decode cX10_gainOfAll 12 = .ok (.if_icmp .ge 17, 3) := by decide +kernel
theorem dX10_gainOfAll_15 : decode cX10_gainOfAll 15 = .ok (.iload_n 1, 1) := by decide +kernel
theorem dX10_gainOfAll_16 : decode cX10_gainOfAll 16 = .ok (.aload_n 0, 1) := by decide +kernel
theorem dX10_gainOfAll_17 : decode cX10_gainOfAll 17 = .ok (.iload_n 2, 1) := by decide +kernel
theorem dX10_gainOfAll_18 : decode cX10_gainOfAll 18 = .ok (.invokevirtual 140, 3) := by decide +kernel
theorem dX10_gainOfAll_21 : decode cX10_gainOfAll 21 = .ok (.iadd, 1) := by decide +kernel
theorem dX10_gainOfAll_22 : decode cX10_gainOfAll 22 = .ok (.istore_n 1, 1) := by decide +kernel
theorem dX10_gainOfAll_23 : decode cX10_gainOfAll 23 = .ok (.iinc 2 1, 3) := by decide +kernel
theorem dX10_gainOfAll_26 : decode cX10_gainOfAll 26 = .ok (.goto (-22), 3) := by decide +kernel
theorem dX10_gainOfAll_29 : decode cX10_gainOfAll 29 = .ok (.iload_n 1, 1) := by decide +kernel
theorem dX10_gainOfAll_30 : decode cX10_gainOfAll 30 = .ok (.ireturn, 1) := by decide +kernel
theorem dX10_leastGainer_0 : decode cX10_leastGainer 0 = .ok (.iconst 0, 1) := by decide +kernel
theorem dX10_leastGainer_1 : decode cX10_leastGainer 1 = .ok (.istore_n 1, 1) := by decide +kernel
theorem dX10_leastGainer_2 : decode cX10_leastGainer 2 = .ok (.iconst 1, 1) := by decide +kernel
theorem dX10_leastGainer_3 : decode cX10_leastGainer 3 = .ok (.istore_n 2, 1) := by decide +kernel
theorem dX10_leastGainer_4 : decode cX10_leastGainer 4 = .ok (.iload_n 2, 1) := by decide +kernel
theorem dX10_leastGainer_5 : decode cX10_leastGainer 5 = .ok (.aload_n 0, 1) := by decide +kernel
theorem dX10_leastGainer_6 : decode cX10_leastGainer 6 = .ok (.getfield 18, 3) := by decide +kernel
theorem dX10_leastGainer_9 : decode cX10_leastGainer 9 = .ok (.getfield 77, 3) := by decide +kernel
theorem dX10_leastGainer_12 : decode cX10_leastGainer 12 = .ok (.if_icmp .ge 24, 3) := by decide +kernel
theorem dX10_leastGainer_15 : decode cX10_leastGainer 15 = .ok (.aload_n 0, 1) := by decide +kernel
theorem dX10_leastGainer_16 : decode cX10_leastGainer 16 = .ok (.iload_n 2, 1) := by decide +kernel
theorem dX10_leastGainer_17 : decode cX10_leastGainer 17 = .ok (.invokevirtual 140, 3) := by decide +kernel
theorem dX10_leastGainer_20 : decode cX10_leastGainer 20 = .ok (.aload_n 0, 1) := by decide +kernel
theorem dX10_leastGainer_21 : decode cX10_leastGainer 21 = .ok (.iload_n 1, 1) := by decide +kernel
theorem dX10_leastGainer_22 : decode cX10_leastGainer 22 = .ok (.invokevirtual 140, 3) := by decide +kernel
theorem dX10_leastGainer_25 : decode cX10_leastGainer 25 = .ok (.if_icmp .ge 5, 3) := by decide +kernel
theorem dX10_leastGainer_28 : decode cX10_leastGainer 28 = .ok (.iload_n 2, 1) := by decide +kernel
theorem dX10_leastGainer_29 : decode cX10_leastGainer 29 = .ok (.istore_n 1, 1) := by decide +kernel
theorem dX10_leastGainer_30 : decode cX10_leastGainer 30 = .ok (.iinc 2 1, 3) := by decide +kernel
theorem dX10_leastGainer_33 : decode cX10_leastGainer 33 = .ok (.goto (-29), 3) := by decide +kernel
theorem dX10_leastGainer_36 : decode cX10_leastGainer 36 = .ok (.iload_n 1, 1) := by decide +kernel
theorem dX10_leastGainer_37 : decode cX10_leastGainer 37 = .ok (.ireturn, 1) := by decide +kernel
theorem dX10_fullest_0 : decode cX10_fullest 0 = .ok (.iconst 0, 1) := by decide +kernel
theorem dX10_fullest_1 : decode cX10_fullest 1 = .ok (.istore_n 1, 1) := by decide +kernel
theorem dX10_fullest_2 : decode cX10_fullest 2 = .ok (.iconst 1, 1) := by decide +kernel
theorem dX10_fullest_3 : decode cX10_fullest 3 = .ok (.istore_n 2, 1) := by decide +kernel
theorem dX10_fullest_4 : decode cX10_fullest 4 = .ok (.iload_n 2, 1) := by decide +kernel
theorem dX10_fullest_5 : decode cX10_fullest 5 = .ok (.aload_n 0, 1) := by decide +kernel
theorem dX10_fullest_6 : decode cX10_fullest 6 = .ok (.getfield 18, 3) := by decide +kernel
theorem dX10_fullest_9 : decode cX10_fullest 9 = .ok (.getfield 77, 3) := by decide +kernel
theorem dX10_fullest_12 : decode cX10_fullest 12 = .ok (.if_icmp .ge 32, 3) := by decide +kernel
theorem dX10_fullest_15 : decode cX10_fullest 15 = .ok (.aload_n 0, 1) := by decide +kernel
theorem dX10_fullest_16 : decode cX10_fullest 16 = .ok (.getfield 12, 3) := by decide +kernel
theorem dX10_fullest_19 : decode cX10_fullest 19 = .ok (.getfield 89, 3) := by decide +kernel
theorem dX10_fullest_22 : decode cX10_fullest 22 = .ok (.iload_n 2, 1) := by decide +kernel
theorem dX10_fullest_23 : decode cX10_fullest 23 = .ok (.iaload, 1) := by decide +kernel
theorem dX10_fullest_24 : decode cX10_fullest 24 = .ok (.aload_n 0, 1) := by decide +kernel
theorem dX10_fullest_25 : decode cX10_fullest 25 = .ok (.getfield 12, 3) := by decide +kernel
theorem dX10_fullest_28 : decode cX10_fullest 28 = .ok (.getfield 89, 3) := by decide +kernel
theorem dX10_fullest_31 : decode cX10_fullest 31 = .ok (.iload_n 1, 1) := by decide +kernel
theorem dX10_fullest_32 : decode cX10_fullest 32 = .ok (.iaload, 1) := by decide +kernel
theorem dX10_fullest_33 : decode cX10_fullest 33 = .ok (.if_icmp .le 5, 3) := by decide +kernel
theorem dX10_fullest_36 : decode cX10_fullest 36 = .ok (.iload_n 2, 1) := by decide +kernel
theorem dX10_fullest_37 : decode cX10_fullest 37 = .ok (.istore_n 1, 1) := by decide +kernel
theorem dX10_fullest_38 : decode cX10_fullest 38 = .ok (.iinc 2 1, 3) := by decide +kernel
theorem dX10_fullest_41 : decode cX10_fullest 41 = .ok (.goto (-37), 3) := by decide +kernel
theorem dX10_fullest_44 : decode cX10_fullest 44 = .ok (.iload_n 1, 1) := by decide +kernel
theorem dX10_fullest_45 : decode cX10_fullest 45 = .ok (.ireturn, 1) := by decide +kernel
theorem dX11_init_0 : decode cX11_init 0 = .ok (.aload_n 0, 1) := by decide +kernel
theorem dX11_init_1 : decode cX11_init 1 = .ok (.invokespecial 1, 3) := by decide +kernel
theorem dX11_init_4 : decode cX11_init 4 = .ok (.new 7, 3) := by decide +kernel
theorem dX11_init_7 : decode cX11_init 7 = .ok (.dup, 1) := by decide +kernel
theorem dX11_init_8 : decode cX11_init 8 = .ok (.invokespecial 9, 3) := by decide +kernel
theorem dX11_init_11 : decode cX11_init 11 = .ok (.astore_n 1, 1) := by decide +kernel
theorem dX11_init_12 : decode cX11_init 12 = .ok (.new 10, 3) := by decide +kernel
theorem dX11_init_15 : decode cX11_init 15 = .ok (.dup, 1) := by decide +kernel
theorem dX11_init_16 : decode cX11_init 16 = .ok (.invokespecial 12, 3) := by decide +kernel
theorem dX11_init_19 : decode cX11_init 19 = .ok (.astore_n 2, 1) := by decide +kernel
theorem dX11_init_20 : decode cX11_init 20 = .ok (.iconst 5, 1) := by decide +kernel
theorem dX11_init_21 : decode cX11_init 21 = .ok (.anewarray 15, 3) := by decide +kernel
theorem dX11_init_24 : decode cX11_init 24 = .ok (.astore_n 3, 1) := by decide +kernel
theorem dX11_init_25 : decode cX11_init 25 = .ok (.iconst 0, 1) := by decide +kernel
theorem dX11_init_26 : decode cX11_init 26 = .ok (.istore 4, 2) := by decide +kernel
theorem dX11_init_28 : decode cX11_init 28 = .ok (.iload 4, 2) := by decide +kernel
theorem dX11_init_30 : decode cX11_init 30 = .ok (.iconst 5, 1) := by decide +kernel
theorem dX11_init_31 : decode cX11_init 31 = .ok (.if_icmp .ge 20, 3) := by decide +kernel
theorem dX11_init_34 : decode cX11_init 34 = .ok (.aload_n 3, 1) := by decide +kernel
theorem dX11_init_35 : decode cX11_init 35 = .ok (.iload 4, 2) := by decide +kernel
theorem dX11_init_37 : decode cX11_init 37 = .ok (.new 15, 3) := by decide +kernel
theorem dX11_init_40 : decode cX11_init 40 = .ok (.dup, 1) := by decide +kernel
theorem dX11_init_41 : decode cX11_init 41 = .ok (.invokespecial 17, 3) := by decide +kernel
theorem dX11_init_44 : decode cX11_init 44 = .ok (.aastore, 1) := by decide +kernel
theorem dX11_init_45 : decode cX11_init 45 = .ok (.iinc 4 1, 3) := by decide +kernel
theorem dX11_init_48 : decode cX11_init 48 = .ok (.goto (-20), 3) := by decide +kernel
theorem dX11_init_51 : decode cX11_init 51 = .ok (.new 18, 3) := by decide +kernel
theorem dX11_init_54 : decode cX11_init 54 = .ok (.dup, 1) := by decide +kernel
theorem dX11_init_55 : decode cX11_init 55 = .ok (.invokespecial 20, 3) := by decide +kernel
theorem dX11_init_58 : decode cX11_init 58 = .ok (.astore 4, 2) := by decide +kernel
theorem dX11_init_60 : decode cX11_init 60 = .ok (.new 21, 3) := by decide +kernel
theorem dX11_init_63 : decode cX11_init 63 = .ok (.dup, 1) := by decide +kernel
theorem dX11_init_64 : decode cX11_init 64 = .ok (.aload_n 2, 1) := by decide +kernel
theorem dX11_init_65 : decode cX11_init 65 = .ok (.aload_n 3, 1) := by decide +kernel
theorem dX11_init_66 : decode cX11_init 66 = .ok (.invokespecial 23, 3) := by decide +kernel
theorem dX11_init_69 : decode cX11_init 69 = .ok (.astore 5, 2) := by decide +kernel
theorem dX11_init_71 : decode cX11_init 71 = .ok (.aload_n 0, 1) := by decide +kernel
theorem dX11_init_72 : decode cX11_init 72 = .ok (.aload_n 1, 1) := by decide +kernel
theorem dX11_init_73 : decode cX11_init 73 = .ok (.putfield 26, 3) := by decide +kernel
theorem dX11_init_76 : decode cX11_init 76 = .ok (.aload_n 0, 1) := by decide +kernel
theorem dX11_init_77 : decode cX11_init 77 = .ok (.new 30, 3) := by decide +kernel
theorem dX11_init_80 : decode cX11_init 80 = .ok (.dup, 1) := by decide +kernel
theorem dX11_init_81 : decode cX11_init 81 = .ok (.aload_n 1, 1) := by decide +kernel
theorem dX11_init_82 : decode cX11_init 82 = .ok (.invokespecial 32, 3) := by decide +kernel
theorem dX11_init_85 : decode cX11_init 85 = .ok (.putfield 35, 3) := by decide +kernel
theorem dX11_init_88 : decode cX11_init 88 = .ok (.aload_n 0, 1) := by decide +kernel
theorem dX11_init_89 : decode cX11_init 89 = .ok (.new 39, 3) := by decide +kernel
theorem dX11_init_92 : decode cX11_init 92 = .ok (.dup, 1) := by decide +kernel
theorem dX11_init_93 : decode cX11_init 93 = .ok (.aload_n 1, 1) := by decide +kernel
theorem dX11_init_94 : decode cX11_init 94 = .ok (.invokespecial 41, 3) := by decide +kernel
theorem dX11_init_97 : decode cX11_init 97 = .ok (.putfield 42, 3) := by decide +kernel
theorem dX11_init_100 : decode cX11_init 100 = .ok (.aload_n 0, 1) := by decide +kernel
theorem dX11_init_101 : decode cX11_init 101 = .ok (.aload_n 2, 1) := by decide +kernel
theorem dX11_init_102 : decode cX11_init 102 = .ok (.putfield 46, 3) := by decide +kernel
theorem dX11_init_105 : decode cX11_init 105 = .ok (.aload_n 0, 1) := by decide +kernel
theorem dX11_init_106 : decode cX11_init 106 = .ok (.new 10, 3) := by decide +kernel
theorem dX11_init_109 : decode cX11_init 109 = .ok (.dup, 1) := by decide +kernel
theorem dX11_init_110 : decode cX11_init 110 = .ok (.invokespecial 12, 3) := by decide +kernel
theorem dX11_init_113 : decode cX11_init 113 = .ok (.putfield 50, 3) := by decide +kernel
theorem dX11_init_116 : decode cX11_init 116 = .ok (.aload_n 0, 1) := by decide +kernel
theorem dX11_init_117 : decode cX11_init 117 = .ok (.aload_n 3, 1) := by decide +kernel
theorem dX11_init_118 : decode cX11_init 118 = .ok (.putfield 53, 3) := by decide +kernel
theorem dX11_init_121 : decode cX11_init 121 = .ok (.aload_n 0, 1) := by decide +kernel
theorem dX11_init_122 : decode cX11_init 122 = .ok (.new 15, 3) := by decide +kernel
theorem dX11_init_125 : decode cX11_init 125 = .ok (.dup, 1) := by decide +kernel
theorem dX11_init_126 : decode cX11_init 126 = .ok (.invokespecial 17, 3) := by decide +kernel
theorem dX11_init_129 : decode cX11_init 129 = .ok (.putfield 57, 3) := by decide +kernel
theorem dX11_init_132 : decode cX11_init 132 = .ok (.aload_n 0, 1) := by decide +kernel
theorem dX11_init_133 : decode cX11_init 133 = .ok (.aload 4, 2) := by decide +kernel
theorem dX11_init_135 : decode cX11_init 135 = .ok (.putfield 61, 3) := by decide +kernel
theorem dX11_init_138 : decode cX11_init 138 = .ok (.aload_n 0, 1) := by decide +kernel
theorem dX11_init_139 : decode cX11_init 139 = .ok (.new 18, 3) := by decide +kernel
theorem dX11_init_142 : decode cX11_init 142 = .ok (.dup, 1) := by decide +kernel
theorem dX11_init_143 : decode cX11_init 143 = .ok (.invokespecial 20, 3) := by decide +kernel
theorem dX11_init_146 : decode cX11_init 146 = .ok (.putfield 65, 3) := by decide +kernel
theorem dX11_init_149 : decode cX11_init 149 = .ok (.aload_n 0, 1) := by decide +kernel
theorem dX11_init_150 : decode cX11_init 150 = .ok (.aload 5, 2) := by decide +kernel
theorem dX11_init_152 : decode cX11_init 152 = .ok (.putfield 68, 3) := by decide +kernel
theorem dX11_init_155 : decode cX11_init 155 = .ok (.aload_n 0, 1) := by decide +kernel
theorem dX11_init_156 : decode cX11_init 156 = .ok (.new 72, 3) := by decide +kernel
theorem dX11_init_159 : decode cX11_init 159 = .ok (.dup, 1) := by decide +kernel
theorem dX11_init_160 : decode cX11_init 160 = .ok (.aload_n 2, 1) := by decide +kernel
theorem dX11_init_161 : decode cX11_init 161 = .ok (.aload 5, 2) := by decide +kernel
theorem dX11_init_163 : decode cX11_init 163 = .ok (.aload 4, 2) := by decide +kernel
theorem dX11_init_165 : decode cX11_init 165 = .ok (.invokespecial 74, 3) := by decide +kernel
theorem dX11_init_168 : decode cX11_init 168 = .ok (.putfield 77, 3) := by decide +kernel
theorem dX11_init_171 : decode cX11_init 171 = .ok (.aload_n 0, 1) := by decide +kernel
theorem dX11_init_172 : decode cX11_init 172 = .ok (.new 81, 3) := by decide +kernel
theorem dX11_init_175 : decode cX11_init 175 = .ok (.dup, 1) := by decide +kernel
theorem dX11_init_176 : decode cX11_init 176 = .ok (.aload_n 2, 1) := by decide +kernel
theorem dX11_init_177 : decode cX11_init 177 = .ok (.aload 5, 2) := by decide +kernel
theorem dX11_init_179 : decode cX11_init 179 = .ok (.aload 4, 2) := by decide +kernel
theorem dX11_init_181 : decode cX11_init 181 = .ok (.invokespecial 83, 3) := by decide +kernel
theorem dX11_init_184 : decode cX11_init 184 = .ok (.putfield 84, 3) := by decide +kernel
theorem dX11_init_187 : decode cX11_init 187 = .ok (.aload_n 0, 1) := by decide +kernel
theorem dX11_init_188 : decode cX11_init 188 = .ok (.new 88, 3) := by decide +kernel
theorem dX11_init_191 : decode cX11_init 191 = .ok (.dup, 1) := by decide +kernel
theorem dX11_init_192 : decode cX11_init 192 = .ok (.bipush 20, 2) := by decide +kernel
theorem dX11_init_194 : decode cX11_init 194 = .ok (.invokespecial 90, 3) := by decide +kernel
theorem dX11_init_197 : decode cX11_init 197 = .ok (.putfield 93, 3) := by decide +kernel
theorem dX11_init_200 : decode cX11_init 200 = .ok (.aload_n 0, 1) := by decide +kernel
theorem dX11_init_201 : decode cX11_init 201 = .ok (.new 88, 3) := by decide +kernel
theorem dX11_init_204 : decode cX11_init 204 = .ok (.dup, 1) := by decide +kernel
theorem dX11_init_205 : decode cX11_init 205 = .ok (.bipush 60, 2) := by decide +kernel
theorem dX11_init_207 : decode cX11_init 207 = .ok (.invokespecial 90, 3) := by decide +kernel
theorem dX11_init_210 : decode cX11_init 210 = .ok (.putfield 97, 3) := by decide +kernel
theorem dX11_init_213 : decode cX11_init 213 = .ok (.return_, 1) := by decide +kernel
theorem dX11_feed_0 : decode cX11_feed 0 = .ok (.iload_n 1, 1) := by decide +kernel
theorem dX11_feed_1 : decode cX11_feed 1 = .ok (.invokestatic 100, 3) := by decide +kernel
theorem dX11_feed_4 : decode cX11_feed 4 = .ok (.iload_n 2, 1) := by decide +kernel
theorem dX11_feed_5 : decode cX11_feed 5 = .ok (.invokestatic 100, 3) := by decide +kernel
theorem dX11_feed_8 : decode cX11_feed 8 = .ok (.iadd, 1) := by decide +kernel
theorem dX11_feed_9 : decode cX11_feed 9 = .ok (.iload_n 3, 1) := by decide +kernel
theorem dX11_feed_10 : decode cX11_feed 10 = .ok (.invokestatic 100, 3) := by decide +kernel
theorem dX11_feed_13 : decode cX11_feed 13 = .ok (.iadd, 1) := by decide +kernel
theorem dX11_feed_14 : decode cX11_feed 14 = .ok (.iload 4, 2) := by decide +kernel
theorem dX11_feed_16 : decode cX11_feed 16 = .ok (.invokestatic 100, 3) := by decide +kernel
theorem dX11_feed_19 : decode cX11_feed 19 = .ok (.iadd, 1) := by decide +kernel
theorem dX11_feed_20 : decode cX11_feed 20 = .ok (.iload 5, 2) := by decide +kernel
theorem dX11_feed_22 : decode cX11_feed 22 = .ok (.invokestatic 100, 3) := by decide +kernel
theorem dX11_feed_25 : decode cX11_feed 25 = .ok (.iadd, 1) := by decide +kernel
theorem dX11_feed_26 : decode cX11_feed 26 = .ok (.istore 6, 2) := by decide +kernel
theorem dX11_feed_28 : decode cX11_feed 28 = .ok (.aload_n 0, 1) := by decide +kernel
theorem dX11_feed_29 : decode cX11_feed 29 = .ok (.getfield 26, 3) := by decide +kernel
theorem dX11_feed_32 : decode cX11_feed 32 = .ok (.getfield 104, 3) := by decide +kernel
theorem dX11_feed_35 : decode cX11_feed 35 = .ok (.iload 6, 2) := by decide +kernel
theorem dX11_feed_37 : decode cX11_feed 37 = .ok (.iadd, 1) := by decide +kernel
theorem dX11_feed_38 : decode cX11_feed 38 = .ok (.sipush 160, 3) := by decide +kernel
theorem dX11_feed_41 : decode cX11_feed 41 = .ok (.if_icmp .le 5, 3) := by decide +kernel
theorem dX11_feed_44 : decode cX11_feed 44 = .ok (.iconst (-1), 1) := by decide +kernel
theorem dX11_feed_45 : decode cX11_feed 45 = .ok (.ireturn, 1) := by decide +kernel
theorem dX11_feed_46 : decode cX11_feed 46 = .ok (.aload_n 0, 1) := by decide +kernel
theorem dX11_feed_47 : decode cX11_feed 47 = .ok (.getfield 26, 3) := by decide +kernel
theorem dX11_feed_50 : decode cX11_feed 50 = .ok (.iload_n 1, 1) := by decide +kernel
theorem dX11_feed_51 : decode cX11_feed 51 = .ok (.invokevirtual 108, 3) := by decide +kernel
theorem dX11_feed_54 : decode cX11_feed 54 = .ok (.aload_n 0, 1) := by decide +kernel
theorem dX11_feed_55 : decode cX11_feed 55 = .ok (.getfield 26, 3) := by decide +kernel
theorem dX11_feed_58 : decode cX11_feed 58 = .ok (.iload_n 2, 1) := by decide +kernel
theorem dX11_feed_59 : decode cX11_feed 59 = .ok (.invokevirtual 108, 3) := by decide +kernel
theorem dX11_feed_62 : decode cX11_feed 62 = .ok (.aload_n 0, 1) := by decide +kernel
theorem dX11_feed_63 : decode cX11_feed 63 = .ok (.getfield 26, 3) := by decide +kernel
theorem dX11_feed_66 : decode cX11_feed 66 = .ok (.iload_n 3, 1) := by decide +kernel
theorem dX11_feed_67 : decode cX11_feed 67 = .ok (.invokevirtual 108, 3) := by decide +kernel
theorem dX11_feed_70 : decode cX11_feed 70 = .ok (.aload_n 0, 1) := by decide +kernel
theorem dX11_feed_71 : decode cX11_feed 71 = .ok (.getfield 26, 3) := by decide +kernel
theorem dX11_feed_74 : decode cX11_feed 74 = .ok (.iload 4, 2) := by decide +kernel
theorem dX11_feed_76 : decode cX11_feed 76 = .ok (.invokevirtual 108, 3) := by decide +kernel
theorem dX11_feed_79 : decode cX11_feed 79 = .ok (.aload_n 0, 1) := by decide +kernel
theorem dX11_feed_80 : decode cX11_feed 80 = .ok (.getfield 26, 3) := by decide +kernel
theorem dX11_feed_83 : decode cX11_feed 83 = .ok (.iload 5, 2) := by decide +kernel
theorem dX11_feed_85 : decode cX11_feed 85 = .ok (.invokevirtual 108, 3) := by decide +kernel
theorem dX11_feed_88 : decode cX11_feed 88 = .ok (.aload_n 0, 1) := by decide +kernel
theorem dX11_feed_89 : decode cX11_feed 89 = .ok (.getfield 26, 3) := by decide +kernel
theorem dX11_feed_92 : decode cX11_feed 92 = .ok (.getfield 104, 3) := by decide +kernel
theorem dX11_feed_95 : decode cX11_feed 95 = .ok (.ireturn, 1) := by decide +kernel
theorem dX11_end_0 : decode cX11_end 0 = .ok (.iload_n 1, 1) := by decide +kernel
theorem dX11_end_1 : decode cX11_end 1 = .ok (.ifCond .lt 14, 3) := by decide +kernel
theorem dX11_end_4 : decode cX11_end 4 = .ok (.iload_n 1, 1) := by decide +kernel
theorem dX11_end_5 : decode cX11_end 5 = .ok (.aload_n 0, 1) := by decide +kernel
theorem dX11_end_6 : decode cX11_end 6 = .ok (.getfield 26, 3) := by decide +kernel
theorem dX11_end_9 : decode cX11_end 9 = .ok (.getfield 104, 3) := by decide +kernel
theorem dX11_end_12 : decode cX11_end 12 = .ok (.if_icmp .le 5, 3) := by decide +kernel
theorem dX11_end_15 : decode cX11_end 15 = .ok (.iconst 0, 1) := by decide +kernel
theorem dX11_end_16 : decode cX11_end 16 = .ok (.ireturn, 1) := by decide +kernel
theorem dX11_end_17 : decode cX11_end 17 = .ok (.aload_n 0, 1) := by decide +kernel
theorem dX11_end_18 : decode cX11_end 18 = .ok (.getfield 26, 3) := by decide +kernel
theorem dX11_end_21 : decode cX11_end 21 = .ok (.iload_n 1, 1) := by decide +kernel
theorem dX11_end_22 : decode cX11_end 22 = .ok (.putfield 104, 3) := by decide +kernel
theorem dX11_end_25 : decode cX11_end 25 = .ok (.iconst 1, 1) := by decide +kernel
theorem dX11_end_26 : decode cX11_end 26 = .ok (.ireturn, 1) := by decide +kernel
theorem dX11_fault_0 : decode cX11_fault 0 = .ok (.iload_n 1, 1) := by decide +kernel
theorem dX11_fault_1 : decode cX11_fault 1 = .ok (.lookupswitch 51 #[(0, 27), (1, 39)], 27) := by decide +kernel
theorem dX11_fault_28 : decode cX11_fault 28 = .ok (.aload_n 0, 1) := by decide +kernel
theorem dX11_fault_29 : decode cX11_fault 29 = .ok (.getfield 35, 3) := by decide +kernel
theorem dX11_fault_32 : decode cX11_fault 32 = .ok (.aload_n 0, 1) := by decide +kernel
theorem dX11_fault_33 : decode cX11_fault 33 = .ok (.getfield 50, 3) := by decide +kernel
theorem dX11_fault_36 : decode cX11_fault 36 = .ok (.invokevirtual 111, 3) := by decide +kernel
theorem dX11_fault_39 : decode cX11_fault 39 = .ok (.ireturn, 1) := by decide +kernel
theorem dX11_fault_40 : decode cX11_fault 40 = .ok (.aload_n 0, 1) := by decide +kernel
theorem dX11_fault_41 : decode cX11_fault 41 = .ok (.getfield 42, 3) := by decide +kernel
theorem dX11_fault_44 : decode cX11_fault 44 = .ok (.aload_n 0, 1) := by decide +kernel
theorem dX11_fault_45 : decode cX11_fault 45 = .ok (.getfield 57, 3) := by decide +kernel
theorem dX11_fault_48 : decode cX11_fault 48 = .ok (.invokevirtual 115, 3) := by decide +kernel
theorem dX11_fault_51 : decode cX11_fault 51 = .ok (.ireturn, 1) := by decide +kernel
theorem dX11_fault_52 : decode cX11_fault 52 = .ok (.bipush (-2), 2) := by decide +kernel
theorem dX11_fault_54 : decode cX11_fault 54 = .ok (.ireturn, 1) := by decide +kernel
theorem dX11_text_0 : decode cX11_text 0 = .ok (.iload_n 1, 1) := by decide +kernel
theorem dX11_text_1 : decode cX11_text 1 = .ok (.ifCond .ne 23, 3) := by decide +kernel
theorem dX11_text_4 : decode cX11_text 4 = .ok (.aload_n 0, 1) := by decide +kernel
theorem dX11_text_5 : decode cX11_text 5 = .ok (.getfield 35, 3) := by decide +kernel
theorem dX11_text_8 : decode cX11_text 8 = .ok (.aload_n 0, 1) := by decide +kernel
theorem dX11_text_9 : decode cX11_text 9 = .ok (.getfield 50, 3) := by decide +kernel
theorem dX11_text_12 : decode cX11_text 12 = .ok (.invokevirtual 111, 3) := by decide +kernel
theorem dX11_text_15 : decode cX11_text 15 = .ok (.iconst (-1), 1) := by decide +kernel
theorem dX11_text_16 : decode cX11_text 16 = .ok (.if_icmp .ne 8, 3) := by decide +kernel
theorem dX11_text_19 : decode cX11_text 19 = .ok (.aload_n 0, 1) := by decide +kernel
theorem dX11_text_20 : decode cX11_text 20 = .ok (.invokevirtual 118, 3) := by decide +kernel
theorem dX11_text_23 : decode cX11_text 23 = .ok (.ireturn, 1) := by decide +kernel
theorem dX11_text_24 : decode cX11_text 24 = .ok (.iload_n 1, 1) := by decide +kernel
theorem dX11_text_25 : decode cX11_text 25 = .ok (.iconst 1, 1) := by decide +kernel
theorem dX11_text_26 : decode cX11_text 26 = .ok (.if_icmp .ne 31, 3) := by decide +kernel
