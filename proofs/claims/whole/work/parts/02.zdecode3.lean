theorem dX12_seller_144 : decode cX12_seller 144 = .ok (.getfield 55, 3) := by decide +kernel
theorem dX12_seller_147 : decode cX12_seller 147 = .ok (.bipush 18, 2) := by decide +kernel
theorem dX12_seller_149 : decode cX12_seller 149 = .ok (.iload_n 1, 1) := by decide +kernel
theorem dX12_seller_150 : decode cX12_seller 150 = .ok (.iadd, 1) := by decide +kernel
theorem dX12_seller_151 : decode cX12_seller 151 = .ok (.iaload, 1) := by decide +kernel
theorem dX12_seller_152 : decode cX12_seller 152 = .ok (.ireturn, 1) := by decide +kernel
theorem dX12_seller_153 : decode cX12_seller 153 = .ok (.aload_n 0, 1) := by decide +kernel
theorem dX12_seller_154 : decode cX12_seller 154 = .ok (.getfield 55, 3) := by decide +kernel
theorem dX12_seller_157 : decode cX12_seller 157 = .ok (.bipush 24, 2) := by decide +kernel
theorem dX12_seller_159 : decode cX12_seller 159 = .ok (.iload_n 1, 1) := by decide +kernel
theorem dX12_seller_160 : decode cX12_seller 160 = .ok (.iadd, 1) := by decide +kernel
theorem dX12_seller_161 : decode cX12_seller 161 = .ok (.iaload, 1) := by decide +kernel
theorem dX12_seller_162 : decode cX12_seller 162 = .ok (.ireturn, 1) := by decide +kernel
theorem dX12_waitingOf_0 : decode cX12_waitingOf 0 = .ok (.iconst 0, 1) := by decide +kernel
theorem dX12_waitingOf_1 : decode cX12_waitingOf 1 = .ok (.istore_n 2, 1) := by decide +kernel
theorem dX12_waitingOf_2 : decode cX12_waitingOf 2 = .ok (.iconst 0, 1) := by decide +kernel
theorem dX12_waitingOf_3 : decode cX12_waitingOf 3 = .ok (.istore_n 3, 1) := by decide +kernel
theorem dX12_waitingOf_4 : decode cX12_waitingOf 4 = .ok (.iload_n 3, 1) := by decide +kernel
theorem dX12_waitingOf_5 : decode cX12_waitingOf 5 = .ok (.iconst 4, 1) := by decide +kernel
theorem dX12_waitingOf_6 : decode cX12_waitingOf 6 = .ok (.if_icmp .ge 25, 3) := by decide +kernel
theorem dX12_waitingOf_9 : decode cX12_waitingOf 9 = .ok (.iload_n 2, 1) := by decide +kernel
theorem dX12_waitingOf_10 : decode cX12_waitingOf 10 = .ok (.aload_n 0, 1) := by decide +kernel
theorem dX12_waitingOf_11 : decode cX12_waitingOf 11 = .ok (.getfield 55, 3) := by decide +kernel
theorem dX12_waitingOf_14 : decode cX12_waitingOf 14 = .ok (.bipush 30, 2) := by decide +kernel
theorem dX12_waitingOf_16 : decode cX12_waitingOf 16 = .ok (.iconst 4, 1) := by decide +kernel
theorem dX12_waitingOf_17 : decode cX12_waitingOf 17 = .ok (.iload_n 1, 1) := by decide +kernel
theorem dX12_waitingOf_18 : decode cX12_waitingOf 18 = .ok (.imul, 1) := by decide +kernel
theorem dX12_waitingOf_19 : decode cX12_waitingOf 19 = .ok (.iadd, 1) := by decide +kernel
theorem dX12_waitingOf_20 : decode cX12_waitingOf 20 = .ok (.iload_n 3, 1) := by decide +kernel
theorem dX12_waitingOf_21 : decode cX12_waitingOf 21 = .ok (.iadd, 1) := by decide +kernel
theorem dX12_waitingOf_22 : decode cX12_waitingOf 22 = .ok (.iaload, 1) := by decide +kernel
theorem dX12_waitingOf_23 : decode cX12_waitingOf 23 = .ok (.iadd, 1) := by decide +kernel
theorem dX12_waitingOf_24 : decode cX12_waitingOf 24 = .ok (.istore_n 2, 1) := by decide +kernel
theorem dX12_waitingOf_25 : decode cX12_waitingOf 25 = .ok (.iinc 3 1, 3) := by decide +kernel
theorem dX12_waitingOf_28 : decode cX12_waitingOf 28 = .ok (.goto (-24), 3) := by decide +kernel
theorem dX12_waitingOf_31 : decode cX12_waitingOf 31 = .ok (.iload_n 2, 1) := by decide +kernel
theorem dX12_waitingOf_32 : decode cX12_waitingOf 32 = .ok (.ireturn, 1) := by decide +kernel
theorem dX12_buyers_0 : decode cX12_buyers 0 = .ok (.aload_n 0, 1) := by decide +kernel
theorem dX12_buyers_1 : decode cX12_buyers 1 = .ok (.iconst 0, 1) := by decide +kernel
theorem dX12_buyers_2 : decode cX12_buyers 2 = .ok (.putfield 131, 3) := by decide +kernel
theorem dX12_buyers_5 : decode cX12_buyers 5 = .ok (.iload_n 1, 1) := by decide +kernel
theorem dX12_buyers_6 : decode cX12_buyers 6 = .ok (.i2l, 1) := by decide +kernel
theorem dX12_buyers_7 : decode cX12_buyers 7 = .ok (.lconst 0, 1) := by decide +kernel
theorem dX12_buyers_8 : decode cX12_buyers 8 = .ok (.aload_n 0, 1) := by decide +kernel
theorem dX12_buyers_9 : decode cX12_buyers 9 = .ok (.getfield 308, 3) := by decide +kernel
theorem dX12_buyers_12 : decode cX12_buyers 12 = .ok (.iconst 1, 1) := by decide +kernel
theorem dX12_buyers_13 : decode cX12_buyers 13 = .ok (.isub, 1) := by decide +kernel
theorem dX12_buyers_14 : decode cX12_buyers 14 = .ok (.i2l, 1) := by decide +kernel
theorem dX12_buyers_15 : decode cX12_buyers 15 = .ok (.invokestatic 253, 3) := by decide +kernel
theorem dX12_buyers_18 : decode cX12_buyers 18 = .ok (.ifCond .eq 15, 3) := by decide +kernel
theorem dX12_buyers_21 : decode cX12_buyers 21 = .ok (.iload_n 2, 1) := by decide +kernel
theorem dX12_buyers_22 : decode cX12_buyers 22 = .ok (.i2l, 1) := by decide +kernel
theorem dX12_buyers_23 : decode cX12_buyers 23 = .ok (.lconst 0, 1) := by decide +kernel
theorem dX12_buyers_24 : decode cX12_buyers 24 = .ok (.ldc2_w 328, 3) := by decide +kernel
theorem dX12_buyers_27 : decode cX12_buyers 27 = .ok (.invokestatic 253, 3) := by decide +kernel
theorem dX12_buyers_30 : decode cX12_buyers 30 = .ok (.ifCond .ne 5, 3) := by decide +kernel
theorem dX12_buyers_33 : decode cX12_buyers 33 = .ok (.iconst (-1), 1) := by decide +kernel
theorem dX12_buyers_34 : decode cX12_buyers 34 = .ok (.ireturn, 1) := by decide +kernel
theorem dX12_buyers_35 : decode cX12_buyers 35 = .ok (.iload_n 2, 1) := by decide +kernel
theorem dX12_buyers_36 : decode cX12_buyers 36 = .ok (.iconst 3, 1) := by decide +kernel
theorem dX12_buyers_37 : decode cX12_buyers 37 = .ok (.if_icmp .ge 16, 3) := by decide +kernel
theorem dX12_buyers_40 : decode cX12_buyers 40 = .ok (.aload_n 0, 1) := by decide +kernel
theorem dX12_buyers_41 : decode cX12_buyers 41 = .ok (.getfield 40, 3) := by decide +kernel
theorem dX12_buyers_44 : decode cX12_buyers 44 = .ok (.iconst 3, 1) := by decide +kernel
theorem dX12_buyers_45 : decode cX12_buyers 45 = .ok (.iload_n 1, 1) := by decide +kernel
theorem dX12_buyers_46 : decode cX12_buyers 46 = .ok (.imul, 1) := by decide +kernel
theorem dX12_buyers_47 : decode cX12_buyers 47 = .ok (.iload_n 2, 1) := by decide +kernel
theorem dX12_buyers_48 : decode cX12_buyers 48 = .ok (.iadd, 1) := by decide +kernel
theorem dX12_buyers_49 : decode cX12_buyers 49 = .ok (.iaload, 1) := by decide +kernel
theorem dX12_buyers_50 : decode cX12_buyers 50 = .ok (.goto 8, 3) := by decide +kernel
theorem dX12_buyers_53 : decode cX12_buyers 53 = .ok (.aload_n 0, 1) := by decide +kernel
theorem dX12_buyers_54 : decode cX12_buyers 54 = .ok (.iload_n 1, 1) := by decide +kernel
theorem dX12_buyers_55 : decode cX12_buyers 55 = .ok (.invokevirtual 330, 3) := by decide +kernel
theorem dX12_buyers_58 : decode cX12_buyers 58 = .ok (.ireturn, 1) := by decide +kernel
theorem dX12_rule_0 : decode cX12_rule 0 = .ok (.aload_n 0, 1) := by decide +kernel
theorem dX12_rule_1 : decode cX12_rule 1 = .ok (.iconst 0, 1) := by decide +kernel
theorem dX12_rule_2 : decode cX12_rule 2 = .ok (.putfield 131, 3) := by decide +kernel
theorem dX12_rule_5 : decode cX12_rule 5 = .ok (.aload_n 0, 1) := by decide +kernel
theorem dX12_rule_6 : decode cX12_rule 6 = .ok (.iload_n 1, 1) := by decide +kernel
theorem dX12_rule_7 : decode cX12_rule 7 = .ok (.invokevirtual 323, 3) := by decide +kernel
theorem dX12_rule_10 : decode cX12_rule 10 = .ok (.ifCond .eq 24, 3) := by decide +kernel
theorem dX12_rule_13 : decode cX12_rule 13 = .ok (.iload_n 2, 1) := by decide +kernel
theorem dX12_rule_14 : decode cX12_rule 14 = .ok (.iconst (-1), 1) := by decide +kernel
theorem dX12_rule_15 : decode cX12_rule 15 = .ok (.if_icmp .eq 21, 3) := by decide +kernel
theorem dX12_rule_18 : decode cX12_rule 18 = .ok (.iload_n 2, 1) := by decide +kernel
theorem dX12_rule_19 : decode cX12_rule 19 = .ok (.i2l, 1) := by decide +kernel
theorem dX12_rule_20 : decode cX12_rule 20 = .ok (.lconst 0, 1) := by decide +kernel
theorem dX12_rule_21 : decode cX12_rule 21 = .ok (.aload_n 0, 1) := by decide +kernel
theorem dX12_rule_22 : decode cX12_rule 22 = .ok (.getfield 300, 3) := by decide +kernel
theorem dX12_rule_25 : decode cX12_rule 25 = .ok (.iconst 1, 1) := by decide +kernel
theorem dX12_rule_26 : decode cX12_rule 26 = .ok (.isub, 1) := by decide +kernel
theorem dX12_rule_27 : decode cX12_rule 27 = .ok (.i2l, 1) := by decide +kernel
theorem dX12_rule_28 : decode cX12_rule 28 = .ok (.invokestatic 253, 3) := by decide +kernel
theorem dX12_rule_31 : decode cX12_rule 31 = .ok (.ifCond .ne 5, 3) := by decide +kernel
theorem dX12_rule_34 : decode cX12_rule 34 = .ok (.iconst 0, 1) := by decide +kernel
theorem dX12_rule_35 : decode cX12_rule 35 = .ok (.ireturn, 1) := by decide +kernel
theorem dX12_rule_36 : decode cX12_rule 36 = .ok (.aload_n 0, 1) := by decide +kernel
theorem dX12_rule_37 : decode cX12_rule 37 = .ok (.getfield 61, 3) := by decide +kernel
theorem dX12_rule_40 : decode cX12_rule 40 = .ok (.iload_n 1, 1) := by decide +kernel
theorem dX12_rule_41 : decode cX12_rule 41 = .ok (.iload_n 2, 1) := by decide +kernel
theorem dX12_rule_42 : decode cX12_rule 42 = .ok (.iastore, 1) := by decide +kernel
theorem dX12_rule_43 : decode cX12_rule 43 = .ok (.iconst 1, 1) := by decide +kernel
theorem dX12_rule_44 : decode cX12_rule 44 = .ok (.ireturn, 1) := by decide +kernel
theorem dX12_hold_0 : decode cX12_hold 0 = .ok (.aload_n 0, 1) := by decide +kernel
theorem dX12_hold_1 : decode cX12_hold 1 = .ok (.iconst 0, 1) := by decide +kernel
theorem dX12_hold_2 : decode cX12_hold 2 = .ok (.putfield 131, 3) := by decide +kernel
theorem dX12_hold_5 : decode cX12_hold 5 = .ok (.aload_n 0, 1) := by decide +kernel
theorem dX12_hold_6 : decode cX12_hold 6 = .ok (.iload_n 1, 1) := by decide +kernel
theorem dX12_hold_7 : decode cX12_hold 7 = .ok (.invokevirtual 323, 3) := by decide +kernel
theorem dX12_hold_10 : decode cX12_hold 10 = .ok (.ifCond .eq 15, 3) := by decide +kernel
theorem dX12_hold_13 : decode cX12_hold 13 = .ok (.aload_n 0, 1) := by decide +kernel
theorem dX12_hold_14 : decode cX12_hold 14 = .ok (.getfield 311, 3) := by decide +kernel
theorem dX12_hold_17 : decode cX12_hold 17 = .ok (.iload_n 1, 1) := by decide +kernel
theorem dX12_hold_18 : decode cX12_hold 18 = .ok (.invokestatic 280, 3) := by decide +kernel
theorem dX12_hold_21 : decode cX12_hold 21 = .ok (.iload_n 2, 1) := by decide +kernel
theorem dX12_hold_22 : decode cX12_hold 22 = .ok (.if_icmp .ne 5, 3) := by decide +kernel
theorem dX12_hold_25 : decode cX12_hold 25 = .ok (.iconst 0, 1) := by decide +kernel
theorem dX12_hold_26 : decode cX12_hold 26 = .ok (.ireturn, 1) := by decide +kernel
theorem dX12_hold_27 : decode cX12_hold 27 = .ok (.aload_n 0, 1) := by decide +kernel
theorem dX12_hold_28 : decode cX12_hold 28 = .ok (.dup, 1) := by decide +kernel
theorem dX12_hold_29 : decode cX12_hold 29 = .ok (.getfield 311, 3) := by decide +kernel
theorem dX12_hold_32 : decode cX12_hold 32 = .ok (.iconst 1, 1) := by decide +kernel
theorem dX12_hold_33 : decode cX12_hold 33 = .ok (.iload_n 1, 1) := by decide +kernel
theorem dX12_hold_34 : decode cX12_hold 34 = .ok (.ishl, 1) := by decide +kernel
theorem dX12_hold_35 : decode cX12_hold 35 = .ok (.ixor, 1) := by decide +kernel
theorem dX12_hold_36 : decode cX12_hold 36 = .ok (.putfield 311, 3) := by decide +kernel
theorem dX12_hold_39 : decode cX12_hold 39 = .ok (.iconst 1, 1) := by decide +kernel
theorem dX12_hold_40 : decode cX12_hold 40 = .ok (.ireturn, 1) := by decide +kernel
theorem dX12_risk_0 : decode cX12_risk 0 = .ok (.aload_n 0, 1) := by decide +kernel
theorem dX12_risk_1 : decode cX12_risk 1 = .ok (.iconst 0, 1) := by decide +kernel
theorem dX12_risk_2 : decode cX12_risk 2 = .ok (.putfield 131, 3) := by decide +kernel
theorem dX12_risk_5 : decode cX12_risk 5 = .ok (.iload_n 1, 1) := by decide +kernel
theorem dX12_risk_6 : decode cX12_risk 6 = .ok (.i2l, 1) := by decide +kernel
theorem dX12_risk_7 : decode cX12_risk 7 = .ok (.lconst 0, 1) := by decide +kernel
theorem dX12_risk_8 : decode cX12_risk 8 = .ok (.ldc2_w 333, 3) := by decide +kernel
theorem dX12_risk_11 : decode cX12_risk 11 = .ok (.invokestatic 253, 3) := by decide +kernel
theorem dX12_risk_14 : decode cX12_risk 14 = .ok (.ifCond .ne 5, 3) := by decide +kernel
theorem dX12_risk_17 : decode cX12_risk 17 = .ok (.iconst 0, 1) := by decide +kernel
theorem dX12_risk_18 : decode cX12_risk 18 = .ok (.ireturn, 1) := by decide +kernel
theorem dX12_risk_19 : decode cX12_risk 19 = .ok (.aload_n 0, 1) := by decide +kernel
theorem dX12_risk_20 : decode cX12_risk 20 = .ok (.iload_n 1, 1) := by decide +kernel
theorem dX12_risk_21 : decode cX12_risk 21 = .ok (.putfield 335, 3) := by decide +kernel
theorem dX12_risk_24 : decode cX12_risk 24 = .ok (.iconst 1, 1) := by decide +kernel
theorem dX12_risk_25 : decode cX12_risk 25 = .ok (.ireturn, 1) := by decide +kernel
theorem dX12_seed_0 : decode cX12_seed 0 = .ok (.aload_n 0, 1) := by decide +kernel
theorem dX12_seed_1 : decode cX12_seed 1 = .ok (.iconst 0, 1) := by decide +kernel
theorem dX12_seed_2 : decode cX12_seed 2 = .ok (.putfield 131, 3) := by decide +kernel
theorem dX12_seed_5 : decode cX12_seed 5 = .ok (.aload_n 0, 1) := by decide +kernel
theorem dX12_seed_6 : decode cX12_seed 6 = .ok (.lload_n 1, 1) := by decide +kernel
theorem dX12_seed_7 : decode cX12_seed 7 = .ok (.putfield 338, 3) := by decide +kernel
theorem dX12_seed_10 : decode cX12_seed 10 = .ok (.iconst 1, 1) := by decide +kernel
theorem dX12_seed_11 : decode cX12_seed 11 = .ok (.ireturn, 1) := by decide +kernel
theorem dX12_askOf_0 : decode cX12_askOf 0 = .ok (.aload_n 0, 1) := by decide +kernel
theorem dX12_askOf_1 : decode cX12_askOf 1 = .ok (.getfield 55, 3) := by decide +kernel
theorem dX12_askOf_4 : decode cX12_askOf 4 = .ok (.bipush 54, 2) := by decide +kernel
theorem dX12_askOf_6 : decode cX12_askOf 6 = .ok (.iaload, 1) := by decide +kernel
theorem dX12_askOf_7 : decode cX12_askOf 7 = .ok (.istore_n 2, 1) := by decide +kernel
theorem dX12_askOf_8 : decode cX12_askOf 8 = .ok (.aload_n 0, 1) := by decide +kernel
theorem dX12_askOf_9 : decode cX12_askOf 9 = .ok (.getfield 64, 3) := by decide +kernel
theorem dX12_askOf_12 : decode cX12_askOf 12 = .ok (.iload_n 1, 1) := by decide +kernel
theorem dX12_askOf_13 : decode cX12_askOf 13 = .ok (.iaload, 1) := by decide +kernel
theorem dX12_askOf_14 : decode cX12_askOf 14 = .ok (.iconst (-1), 1) := by decide +kernel
theorem dX12_askOf_15 : decode cX12_askOf 15 = .ok (.if_icmp .eq 10, 3) := by decide +kernel
theorem dX12_askOf_18 : decode cX12_askOf 18 = .ok (.aload_n 0, 1) := by decide +kernel
theorem dX12_askOf_19 : decode cX12_askOf 19 = .ok (.getfield 64, 3) := by decide +kernel
theorem dX12_askOf_22 : decode cX12_askOf 22 = .ok (.iload_n 1, 1) := by decide +kernel
theorem dX12_askOf_23 : decode cX12_askOf 23 = .ok (.iaload, 1) := by decide +kernel
theorem dX12_askOf_24 : decode cX12_askOf 24 = .ok (.ireturn, 1) := by decide +kernel
theorem dX12_askOf_25 : decode cX12_askOf 25 = .ok (.aload_n 0, 1) := by decide +kernel
theorem dX12_askOf_26 : decode cX12_askOf 26 = .ok (.getfield 342, 3) := by decide +kernel
theorem dX12_askOf_29 : decode cX12_askOf 29 = .ok (.iload_n 1, 1) := by decide +kernel
theorem dX12_askOf_30 : decode cX12_askOf 30 = .ok (.invokestatic 280, 3) := by decide +kernel
theorem dX12_askOf_33 : decode cX12_askOf 33 = .ok (.ifCond .eq 5, 3) := by decide +kernel
theorem dX12_askOf_36 : decode cX12_askOf 36 = .ok (.iload_n 2, 1) := by decide +kernel
theorem dX12_askOf_37 : decode cX12_askOf 37 = .ok (.ireturn, 1) := by decide +kernel
theorem dX12_askOf_38 : decode cX12_askOf 38 = .ok (.aload_n 0, 1) := by decide +kernel
theorem dX12_askOf_39 : decode cX12_askOf 39 = .ok (.getfield 61, 3) := by decide +kernel
theorem dX12_askOf_42 : decode cX12_askOf 42 = .ok (.iload_n 1, 1) := by decide +kernel
theorem dX12_askOf_43 : decode cX12_askOf 43 = .ok (.iaload, 1) := by decide +kernel
theorem dX12_askOf_44 : decode cX12_askOf 44 = .ok (.iconst (-1), 1) := by decide +kernel
theorem dX12_askOf_45 : decode cX12_askOf 45 = .ok (.if_icmp .ne 5, 3) := by decide +kernel
theorem dX12_askOf_48 : decode cX12_askOf 48 = .ok (.iload_n 2, 1) := by decide +kernel
theorem dX12_askOf_49 : decode cX12_askOf 49 = .ok (.ireturn, 1) := by decide +kernel
theorem dX12_askOf_50 : decode cX12_askOf 50 = .ok (.iconst 0, 1) := by decide +kernel
theorem dX12_askOf_51 : decode cX12_askOf 51 = .ok (.istore_n 3, 1) := by decide +kernel
theorem dX12_askOf_52 : decode cX12_askOf 52 = .ok (.iconst 0, 1) := by decide +kernel
theorem dX12_askOf_53 : decode cX12_askOf 53 = .ok (.istore 4, 2) := by decide +kernel
theorem dX12_askOf_55 : decode cX12_askOf 55 = .ok (.iload 4, 2) := by decide +kernel
theorem dX12_askOf_57 : decode cX12_askOf 57 = .ok (.bipush 24, 2) := by decide +kernel
theorem dX12_askOf_59 : decode cX12_askOf 59 = .ok (.if_icmp .ge 19, 3) := by decide +kernel
theorem dX12_askOf_62 : decode cX12_askOf 62 = .ok (.iload_n 3, 1) := by decide +kernel
theorem dX12_askOf_63 : decode cX12_askOf 63 = .ok (.aload_n 0, 1) := by decide +kernel
theorem dX12_askOf_64 : decode cX12_askOf 64 = .ok (.getfield 76, 3) := by decide +kernel
theorem dX12_askOf_67 : decode cX12_askOf 67 = .ok (.iload 4, 2) := by decide +kernel
theorem dX12_askOf_69 : decode cX12_askOf 69 = .ok (.iaload, 1) := by decide +kernel
theorem dX12_askOf_70 : decode cX12_askOf 70 = .ok (.iadd, 1) := by decide +kernel
theorem dX12_askOf_71 : decode cX12_askOf 71 = .ok (.istore_n 3, 1) := by decide +kernel
theorem dX12_askOf_72 : decode cX12_askOf 72 = .ok (.iinc 4 1, 3) := by decide +kernel
theorem dX12_askOf_75 : decode cX12_askOf 75 = .ok (.goto (-20), 3) := by decide +kernel
theorem dX12_askOf_78 : decode cX12_askOf 78 = .ok (.aload_n 0, 1) := by decide +kernel
theorem dX12_askOf_79 : decode cX12_askOf 79 = .ok (.getfield 20, 3) := by decide +kernel
theorem dX12_askOf_82 : decode cX12_askOf 82 = .ok (.bipush 112, 2) := by decide +kernel
theorem dX12_askOf_84 : decode cX12_askOf 84 = .ok (.iload_n 2, 1) := by decide +kernel
theorem dX12_askOf_85 : decode cX12_askOf 85 = .ok (.iastore, 1) := by decide +kernel
theorem dX12_askOf_86 : decode cX12_askOf 86 = .ok (.aload_n 0, 1) := by decide +kernel
theorem dX12_askOf_87 : decode cX12_askOf 87 = .ok (.getfield 20, 3) := by decide +kernel
theorem dX12_askOf_90 : decode cX12_askOf 90 = .ok (.bipush 103, 2) := by decide +kernel
theorem dX12_askOf_92 : decode cX12_askOf 92 = .ok (.aload_n 0, 1) := by decide +kernel
theorem dX12_askOf_93 : decode cX12_askOf 93 = .ok (.getfield 55, 3) := by decide +kernel
theorem dX12_askOf_96 : decode cX12_askOf 96 = .ok (.iload_n 1, 1) := by decide +kernel
theorem dX12_askOf_97 : decode cX12_askOf 97 = .ok (.iaload, 1) := by decide +kernel
theorem dX12_askOf_98 : decode cX12_askOf 98 = .ok (.iastore, 1) := by decide +kernel
theorem dX12_askOf_99 : decode cX12_askOf 99 = .ok (.aload_n 0, 1) := by decide +kernel
theorem dX12_askOf_100 : decode cX12_askOf 100 = .ok (.getfield 20, 3) := by decide +kernel
theorem dX12_askOf_103 : decode cX12_askOf 103 = .ok (.bipush 99, 2) := by decide +kernel
theorem dX12_askOf_105 : decode cX12_askOf 105 = .ok (.aload_n 0, 1) := by decide +kernel
theorem dX12_askOf_106 : decode cX12_askOf 106 = .ok (.getfield 37, 3) := by decide +kernel
theorem dX12_askOf_109 : decode cX12_askOf 109 = .ok (.iconst 3, 1) := by decide +kernel
theorem dX12_askOf_110 : decode cX12_askOf 110 = .ok (.iload_n 1, 1) := by decide +kernel
theorem dX12_askOf_111 : decode cX12_askOf 111 = .ok (.imul, 1) := by decide +kernel
theorem dX12_askOf_112 : decode cX12_askOf 112 = .ok (.iconst 1, 1) := by decide +kernel
theorem dX12_askOf_113 : decode cX12_askOf 113 = .ok (.iadd, 1) := by decide +kernel
theorem dX12_askOf_114 : decode cX12_askOf 114 = .ok (.iaload, 1) := by decide +kernel
theorem dX12_askOf_115 : decode cX12_askOf 115 = .ok (.iastore, 1) := by decide +kernel
theorem dX12_askOf_116 : decode cX12_askOf 116 = .ok (.aload_n 0, 1) := by decide +kernel
theorem dX12_askOf_117 : decode cX12_askOf 117 = .ok (.getfield 20, 3) := by decide +kernel
theorem dX12_askOf_120 : decode cX12_askOf 120 = .ok (.bipush 100, 2) := by decide +kernel
theorem dX12_askOf_122 : decode cX12_askOf 122 = .ok (.aload_n 0, 1) := by decide +kernel
theorem dX12_askOf_123 : decode cX12_askOf 123 = .ok (.getfield 55, 3) := by decide +kernel
theorem dX12_askOf_126 : decode cX12_askOf 126 = .ok (.bipush 56, 2) := by decide +kernel
theorem dX12_askOf_128 : decode cX12_askOf 128 = .ok (.iaload, 1) := by decide +kernel
theorem dX12_askOf_129 : decode cX12_askOf 129 = .ok (.iastore, 1) := by decide +kernel
theorem dX12_askOf_130 : decode cX12_askOf 130 = .ok (.aload_n 0, 1) := by decide +kernel
theorem dX12_askOf_131 : decode cX12_askOf 131 = .ok (.getfield 20, 3) := by decide +kernel
theorem dX12_askOf_134 : decode cX12_askOf 134 = .ok (.bipush 117, 2) := by decide +kernel
theorem dX12_askOf_136 : decode cX12_askOf 136 = .ok (.aload_n 0, 1) := by decide +kernel
theorem dX12_askOf_137 : decode cX12_askOf 137 = .ok (.getfield 55, 3) := by decide +kernel
theorem dX12_askOf_140 : decode cX12_askOf 140 = .ok (.bipush 6, 2) := by decide +kernel
theorem dX12_askOf_142 : decode cX12_askOf 142 = .ok (.iload_n 1, 1) := by decide +kernel
theorem dX12_askOf_143 : decode cX12_askOf 143 = .ok (.iadd, 1) := by decide +kernel
theorem dX12_askOf_144 : decode cX12_askOf 144 = .ok (.iaload, 1) := by decide +kernel
theorem dX12_askOf_145 : decode cX12_askOf 145 = .ok (.iastore, 1) := by decide +kernel
theorem dX12_askOf_146 : decode cX12_askOf 146 = .ok (.aload_n 0, 1) := by decide +kernel
theorem dX12_askOf_147 : decode cX12_askOf 147 = .ok (.getfield 20, 3) := by decide +kernel
theorem dX12_askOf_150 : decode cX12_askOf 150 = .ok (.bipush 119, 2) := by decide +kernel
theorem dX12_askOf_152 : decode cX12_askOf 152 = .ok (.iload_n 3, 1) := by decide +kernel
theorem dX12_askOf_153 : decode cX12_askOf 153 = .ok (.iastore, 1) := by decide +kernel
theorem dX12_askOf_154 : decode cX12_askOf 154 = .ok (.aload_n 0, 1) := by decide +kernel
theorem dX12_askOf_155 : decode cX12_askOf 155 = .ok (.aload_n 0, 1) := by decide +kernel
theorem dX12_askOf_156 : decode cX12_askOf 156 = .ok (.getfield 13, 3) := by decide +kernel
theorem dX12_askOf_159 : decode cX12_askOf 159 = .ok (.sipush 160, 3) := by decide +kernel
theorem dX12_askOf_162 : decode cX12_askOf 162 = .ok (.aload_n 0, 1) := by decide +kernel
theorem dX12_askOf_163 : decode cX12_askOf 163 = .ok (.getfield 61, 3) := by decide +kernel
theorem dX12_askOf_166 : decode cX12_askOf 166 = .ok (.iload_n 1, 1) := by decide +kernel
theorem dX12_askOf_167 : decode cX12_askOf 167 = .ok (.iaload, 1) := by decide +kernel
theorem dX12_askOf_168 : decode cX12_askOf 168 = .ok (.imul, 1) := by decide +kernel
theorem dX12_askOf_169 : decode cX12_askOf 169 = .ok (.aload_n 0, 1) := by decide +kernel
theorem dX12_askOf_170 : decode cX12_askOf 170 = .ok (.getfield 16, 3) := by decide +kernel
theorem dX12_askOf_173 : decode cX12_askOf 173 = .ok (.aload_n 0, 1) := by decide +kernel
theorem dX12_askOf_174 : decode cX12_askOf 174 = .ok (.getfield 61, 3) := by decide +kernel
theorem dX12_askOf_177 : decode cX12_askOf 177 = .ok (.iload_n 1, 1) := by decide +kernel
theorem dX12_askOf_178 : decode cX12_askOf 178 = .ok (.iaload, 1) := by decide +kernel
theorem dX12_askOf_179 : decode cX12_askOf 179 = .ok (.iaload, 1) := by decide +kernel
theorem dX12_askOf_180 : decode cX12_askOf 180 = .ok (.invokevirtual 297, 3) := by decide +kernel
theorem dX12_askOf_183 : decode cX12_askOf 183 = .ok (.iconst 0, 1) := by decide +kernel
theorem dX12_askOf_184 : decode cX12_askOf 184 = .ok (.iload_n 2, 1) := by decide +kernel
theorem dX12_askOf_185 : decode cX12_askOf 185 = .ok (.aload_n 0, 1) := by decide +kernel
theorem dX12_askOf_186 : decode cX12_askOf 186 = .ok (.getfield 240, 3) := by decide +kernel
theorem dX12_askOf_189 : decode cX12_askOf 189 = .ok (.invokestatic 345, 3) := by decide +kernel
theorem dX12_askOf_192 : decode cX12_askOf 192 = .ok (.invokestatic 347, 3) := by decide +kernel
theorem dX12_askOf_195 : decode cX12_askOf 195 = .ok (.ireturn, 1) := by decide +kernel
theorem dX12_isSelling_0 : decode cX12_isSelling 0 = .ok (.iload_n 1, 1) := by decide +kernel
theorem dX12_isSelling_1 : decode cX12_isSelling 1 = .ok (.aload_n 0, 1) := by decide +kernel
theorem dX12_isSelling_2 : decode cX12_isSelling 2 = .ok (.getfield 305, 3) := by decide +kernel
theorem dX12_isSelling_5 : decode cX12_isSelling 5 = .ok (.if_icmp .ne 22, 3) := by decide +kernel
theorem dX12_isSelling_8 : decode cX12_isSelling 8 = .ok (.aload_n 0, 1) := by decide +kernel
theorem dX12_isSelling_9 : decode cX12_isSelling 9 = .ok (.getfield 349, 3) := by decide +kernel
theorem dX12_isSelling_12 : decode cX12_isSelling 12 = .ok (.aload_n 0, 1) := by decide +kernel
theorem dX12_isSelling_13 : decode cX12_isSelling 13 = .ok (.getfield 352, 3) := by decide +kernel
theorem dX12_isSelling_16 : decode cX12_isSelling 16 = .ok (.if_icmp .le 7, 3) := by decide +kernel
theorem dX12_isSelling_19 : decode cX12_isSelling 19 = .ok (.iconst 1, 1) := by decide +kernel
theorem dX12_isSelling_20 : decode cX12_isSelling 20 = .ok (.goto 32, 3) := by decide +kernel
theorem dX12_isSelling_23 : decode cX12_isSelling 23 = .ok (.iconst 0, 1) := by decide +kernel
theorem dX12_isSelling_24 : decode cX12_isSelling 24 = .ok (.goto 28, 3) := by decide +kernel
theorem dX12_isSelling_27 : decode cX12_isSelling 27 = .ok (.aload_n 0, 1) := by decide +kernel
theorem dX12_isSelling_28 : decode cX12_isSelling 28 = .ok (.getfield 55, 3) := by decide +kernel
theorem dX12_isSelling_31 : decode cX12_isSelling 31 = .ok (.iload_n 1, 1) := by decide +kernel
theorem dX12_isSelling_32 : decode cX12_isSelling 32 = .ok (.iaload, 1) := by decide +kernel
theorem dX12_isSelling_33 : decode cX12_isSelling 33 = .ok (.ifCond .le 18, 3) := by decide +kernel
theorem dX12_isSelling_36 : decode cX12_isSelling 36 = .ok (.aload_n 0, 1) := by decide +kernel
theorem dX12_isSelling_37 : decode cX12_isSelling 37 = .ok (.getfield 342, 3) := by decide +kernel
theorem dX12_isSelling_40 : decode cX12_isSelling 40 = .ok (.iload_n 1, 1) := by decide +kernel
theorem dX12_isSelling_41 : decode cX12_isSelling 41 = .ok (.invokestatic 280, 3) := by decide +kernel
theorem dX12_isSelling_44 : decode cX12_isSelling 44 = .ok (.ifCond .ne 7, 3) := by decide +kernel
theorem dX12_isSelling_47 : decode cX12_isSelling 47 = .ok (.iconst 1, 1) := by decide +kernel
theorem dX12_isSelling_48 : decode cX12_isSelling 48 = .ok (.goto 4, 3) := by decide +kernel
theorem dX12_isSelling_51 : decode cX12_isSelling 51 = .ok (.iconst 0, 1) := by decide +kernel
theorem dX12_isSelling_52 : decode cX12_isSelling 52 = .ok (.ireturn, 1) := by decide +kernel
theorem dX12_cheapest_0 : decode cX12_cheapest 0 = .ok (.iconst (-1), 1) := by decide +kernel
theorem dX12_cheapest_1 : decode cX12_cheapest 1 = .ok (.istore_n 1, 1) := by decide +kernel
theorem dX12_cheapest_2 : decode cX12_cheapest 2 = .ok (.iconst 0, 1) := by decide +kernel
theorem dX12_cheapest_3 : decode cX12_cheapest 3 = .ok (.istore_n 2, 1) := by decide +kernel
theorem dX12_cheapest_4 : decode cX12_cheapest 4 = .ok (.iload_n 2, 1) := by decide +kernel
theorem dX12_cheapest_5 : decode cX12_cheapest 5 = .ok (.aload_n 0, 1) := by decide +kernel
theorem dX12_cheapest_6 : decode cX12_cheapest 6 = .ok (.getfield 305, 3) := by decide +kernel
theorem dX12_cheapest_9 : decode cX12_cheapest 9 = .ok (.if_icmp .gt 39, 3) := by decide +kernel
theorem dX12_cheapest_12 : decode cX12_cheapest 12 = .ok (.aload_n 0, 1) := by decide +kernel
theorem dX12_cheapest_13 : decode cX12_cheapest 13 = .ok (.iload_n 2, 1) := by decide +kernel
theorem dX12_cheapest_14 : decode cX12_cheapest 14 = .ok (.invokevirtual 355, 3) := by decide +kernel
theorem dX12_cheapest_17 : decode cX12_cheapest 17 = .ok (.ifCond .eq 25, 3) := by decide +kernel
theorem dX12_cheapest_20 : decode cX12_cheapest 20 = .ok (.iload_n 1, 1) := by decide +kernel
theorem dX12_cheapest_21 : decode cX12_cheapest 21 = .ok (.iconst (-1), 1) := by decide +kernel
theorem dX12_cheapest_22 : decode cX12_cheapest 22 = .ok (.if_icmp .eq 18, 3) := by decide +kernel
theorem dX12_cheapest_25 : decode cX12_cheapest 25 = .ok (.aload_n 0, 1) := by decide +kernel
theorem dX12_cheapest_26 : decode cX12_cheapest 26 = .ok (.getfield 67, 3) := by decide +kernel
theorem dX12_cheapest_29 : decode cX12_cheapest 29 = .ok (.iload_n 2, 1) := by decide +kernel
theorem dX12_cheapest_30 : decode cX12_cheapest 30 = .ok (.iaload, 1) := by decide +kernel
theorem dX12_cheapest_31 : decode cX12_cheapest 31 = .ok (.aload_n 0, 1) := by decide +kernel
theorem dX12_cheapest_32 : decode cX12_cheapest 32 = .ok (.getfield 67, 3) := by decide +kernel
theorem dX12_cheapest_35 : decode cX12_cheapest 35 = .ok (.iload_n 1, 1) := by decide +kernel
theorem dX12_cheapest_36 : decode cX12_cheapest 36 = .ok (.iaload, 1) := by decide +kernel
theorem dX12_cheapest_37 : decode cX12_cheapest 37 = .ok (.if_icmp .ge 5, 3) := by decide +kernel
theorem dX12_cheapest_40 : decode cX12_cheapest 40 = .ok (.iload_n 2, 1) := by decide +kernel
theorem dX12_cheapest_41 : decode cX12_cheapest 41 = .ok (.istore_n 1, 1) := by decide +kernel
theorem dX12_cheapest_42 : decode cX12_cheapest 42 = .ok (.iinc 2 1, 3) := by decide +kernel
theorem dX12_cheapest_45 : decode cX12_cheapest 45 = .ok (.goto (-41), 3) := by decide +kernel
theorem dX12_cheapest_48 : decode cX12_cheapest 48 = .ok (.iload_n 1, 1) := by decide +kernel
theorem dX12_cheapest_49 : decode cX12_cheapest 49 = .ok (.ireturn, 1) := by decide +kernel
theorem dX12_buys_0 : decode cX12_buys 0 = .ok (.aload_n 0, 1) := by decide +kernel
theorem dX12_buys_1 : decode cX12_buys 1 = .ok (.invokevirtual 358, 3) := by decide +kernel
theorem dX12_buys_4 : decode cX12_buys 4 = .ok (.istore_n 2, 1) := by decide +kernel
theorem dX12_buys_5 : decode cX12_buys 5 = .ok (.iload_n 2, 1) := by decide +kernel
theorem dX12_buys_6 : decode cX12_buys 6 = .ok (.iconst (-1), 1) := by decide +kernel
theorem dX12_buys_7 : decode cX12_buys 7 = .ok (.if_icmp .eq 20, 3) := by decide +kernel
theorem dX12_buys_10 : decode cX12_buys 10 = .ok (.aload_n 0, 1) := by decide +kernel
theorem dX12_buys_11 : decode cX12_buys 11 = .ok (.getfield 67, 3) := by decide +kernel
theorem dX12_buys_14 : decode cX12_buys 14 = .ok (.iload_n 2, 1) := by decide +kernel
theorem dX12_buys_15 : decode cX12_buys 15 = .ok (.iaload, 1) := by decide +kernel
theorem dX12_buys_16 : decode cX12_buys 16 = .ok (.aload_n 0, 1) := by decide +kernel
theorem dX12_buys_17 : decode cX12_buys 17 = .ok (.getfield 40, 3) := by decide +kernel
theorem dX12_buys_20 : decode cX12_buys 20 = .ok (.iconst 3, 1) := by decide +kernel
theorem dX12_buys_21 : decode cX12_buys 21 = .ok (.iload_n 1, 1) := by decide +kernel
theorem dX12_buys_22 : decode cX12_buys 22 = .ok (.imul, 1) := by decide +kernel
theorem dX12_buys_23 : decode cX12_buys 23 = .ok (.iaload, 1) := by decide +kernel
theorem dX12_buys_24 : decode cX12_buys 24 = .ok (.if_icmp .le 5, 3) := by decide +kernel
theorem dX12_buys_27 : decode cX12_buys 27 = .ok (.iconst 0, 1) := by decide +kernel
theorem dX12_buys_28 : decode cX12_buys 28 = .ok (.ireturn, 1) := by decide +kernel
theorem dX12_buys_29 : decode cX12_buys 29 = .ok (.aload_n 0, 1) := by decide +kernel
theorem dX12_buys_30 : decode cX12_buys 30 = .ok (.getfield 70, 3) := by decide +kernel
theorem dX12_buys_33 : decode cX12_buys 33 = .ok (.iload_n 2, 1) := by decide +kernel
theorem dX12_buys_34 : decode cX12_buys 34 = .ok (.dup2, 1) := by decide +kernel
theorem dX12_buys_35 : decode cX12_buys 35 = .ok (.iaload, 1) := by decide +kernel
theorem dX12_buys_36 : decode cX12_buys 36 = .ok (.aload_n 0, 1) := by decide +kernel
theorem dX12_buys_37 : decode cX12_buys 37 = .ok (.getfield 67, 3) := by decide +kernel
theorem dX12_buys_40 : decode cX12_buys 40 = .ok (.iload_n 2, 1) := by decide +kernel
theorem dX12_buys_41 : decode cX12_buys 41 = .ok (.iaload, 1) := by decide +kernel
theorem dX12_buys_42 : decode cX12_buys 42 = .ok (.iadd, 1) := by decide +kernel
theorem dX12_buys_43 : decode cX12_buys 43 = .ok (.iastore, 1) := by decide +kernel
theorem dX12_buys_44 : decode cX12_buys 44 = .ok (.aload_n 0, 1) := by decide +kernel
theorem dX12_buys_45 : decode cX12_buys 45 = .ok (.getfield 55, 3) := by decide +kernel
theorem dX12_buys_48 : decode cX12_buys 48 = .ok (.bipush 55, 2) := by decide +kernel
theorem dX12_buys_50 : decode cX12_buys 50 = .ok (.dup2, 1) := by decide +kernel
theorem dX12_buys_51 : decode cX12_buys 51 = .ok (.iaload, 1) := by decide +kernel
theorem dX12_buys_52 : decode cX12_buys 52 = .ok (.aload_n 0, 1) := by decide +kernel
theorem dX12_buys_53 : decode cX12_buys 53 = .ok (.getfield 40, 3) := by decide +kernel
theorem dX12_buys_56 : decode cX12_buys 56 = .ok (.iconst 3, 1) := by decide +kernel
theorem dX12_buys_57 : decode cX12_buys 57 = .ok (.iload_n 1, 1) := by decide +kernel
theorem dX12_buys_58 : decode cX12_buys 58 = .ok (.imul, 1) := by decide +kernel
theorem dX12_buys_59 : decode cX12_buys 59 = .ok (.iaload, 1) := by decide +kernel
theorem dX12_buys_60 : decode cX12_buys 60 = .ok (.aload_n 0, 1) := by decide +kernel
theorem dX12_buys_61 : decode cX12_buys 61 = .ok (.getfield 67, 3) := by decide +kernel
theorem dX12_buys_64 : decode cX12_buys 64 = .ok (.iload_n 2, 1) := by decide +kernel
theorem dX12_buys_65 : decode cX12_buys 65 = .ok (.iaload, 1) := by decide +kernel
theorem dX12_buys_66 : decode cX12_buys 66 = .ok (.isub, 1) := by decide +kernel
theorem dX12_buys_67 : decode cX12_buys 67 = .ok (.iadd, 1) := by decide +kernel
theorem dX12_buys_68 : decode cX12_buys 68 = .ok (.iastore, 1) := by decide +kernel
theorem dX12_buys_69 : decode cX12_buys 69 = .ok (.iload_n 2, 1) := by decide +kernel
theorem dX12_buys_70 : decode cX12_buys 70 = .ok (.aload_n 0, 1) := by decide +kernel
theorem dX12_buys_71 : decode cX12_buys 71 = .ok (.getfield 305, 3) := by decide +kernel
theorem dX12_buys_74 : decode cX12_buys 74 = .ok (.if_icmp .ne 15, 3) := by decide +kernel
theorem dX12_buys_77 : decode cX12_buys 77 = .ok (.aload_n 0, 1) := by decide +kernel
theorem dX12_buys_78 : decode cX12_buys 78 = .ok (.dup, 1) := by decide +kernel
theorem dX12_buys_79 : decode cX12_buys 79 = .ok (.getfield 352, 3) := by decide +kernel
theorem dX12_buys_82 : decode cX12_buys 82 = .ok (.iconst 1, 1) := by decide +kernel
theorem dX12_buys_83 : decode cX12_buys 83 = .ok (.iadd, 1) := by decide +kernel
theorem dX12_buys_84 : decode cX12_buys 84 = .ok (.putfield 352, 3) := by decide +kernel
theorem dX12_buys_87 : decode cX12_buys 87 = .ok (.iconst 1, 1) := by decide +kernel
theorem dX12_buys_88 : decode cX12_buys 88 = .ok (.ireturn, 1) := by decide +kernel
theorem dX12_buys_89 : decode cX12_buys 89 = .ok (.aload_n 0, 1) := by decide +kernel
theorem dX12_buys_90 : decode cX12_buys 90 = .ok (.getfield 55, 3) := by decide +kernel
theorem dX12_buys_93 : decode cX12_buys 93 = .ok (.iload_n 2, 1) := by decide +kernel
theorem dX12_buys_94 : decode cX12_buys 94 = .ok (.dup2, 1) := by decide +kernel
theorem dX12_buys_95 : decode cX12_buys 95 = .ok (.iaload, 1) := by decide +kernel
theorem dX12_buys_96 : decode cX12_buys 96 = .ok (.iconst 1, 1) := by decide +kernel
theorem dX12_buys_97 : decode cX12_buys 97 = .ok (.isub, 1) := by decide +kernel
theorem dX12_buys_98 : decode cX12_buys 98 = .ok (.iastore, 1) := by decide +kernel
theorem dX12_buys_99 : decode cX12_buys 99 = .ok (.aload_n 0, 1) := by decide +kernel
theorem dX12_buys_100 : decode cX12_buys 100 = .ok (.getfield 55, 3) := by decide +kernel
theorem dX12_buys_103 : decode cX12_buys 103 = .ok (.bipush 12, 2) := by decide +kernel
theorem dX12_buys_105 : decode cX12_buys 105 = .ok (.iload_n 2, 1) := by decide +kernel
theorem dX12_buys_106 : decode cX12_buys 106 = .ok (.iadd, 1) := by decide +kernel
theorem dX12_buys_107 : decode cX12_buys 107 = .ok (.dup2, 1) := by decide +kernel
theorem dX12_buys_108 : decode cX12_buys 108 = .ok (.iaload, 1) := by decide +kernel
theorem dX12_buys_109 : decode cX12_buys 109 = .ok (.aload_n 0, 1) := by decide +kernel
theorem dX12_buys_110 : decode cX12_buys 110 = .ok (.getfield 67, 3) := by decide +kernel
theorem dX12_buys_113 : decode cX12_buys 113 = .ok (.iload_n 2, 1) := by decide +kernel
theorem dX12_buys_114 : decode cX12_buys 114 = .ok (.iaload, 1) := by decide +kernel
theorem dX12_buys_115 : decode cX12_buys 115 = .ok (.iadd, 1) := by decide +kernel
theorem dX12_buys_116 : decode cX12_buys 116 = .ok (.iastore, 1) := by decide +kernel
theorem dX12_buys_117 : decode cX12_buys 117 = .ok (.aload_n 0, 1) := by decide +kernel
theorem dX12_buys_118 : decode cX12_buys 118 = .ok (.getfield 55, 3) := by decide +kernel
theorem dX12_buys_121 : decode cX12_buys 121 = .ok (.bipush 24, 2) := by decide +kernel
theorem dX12_buys_123 : decode cX12_buys 123 = .ok (.iload_n 2, 1) := by decide +kernel
theorem dX12_buys_124 : decode cX12_buys 124 = .ok (.iadd, 1) := by decide +kernel
theorem dX12_buys_125 : decode cX12_buys 125 = .ok (.dup2, 1) := by decide +kernel
theorem dX12_buys_126 : decode cX12_buys 126 = .ok (.iaload, 1) := by decide +kernel
theorem dX12_buys_127 : decode cX12_buys 127 = .ok (.iconst 1, 1) := by decide +kernel
theorem dX12_buys_128 : decode cX12_buys 128 = .ok (.iadd, 1) := by decide +kernel
theorem dX12_buys_129 : decode cX12_buys 129 = .ok (.iastore, 1) := by decide +kernel
theorem dX12_buys_130 : decode cX12_buys 130 = .ok (.iconst 1, 1) := by decide +kernel
theorem dX12_buys_131 : decode cX12_buys 131 = .ok (.ireturn, 1) := by decide +kernel
theorem dX12_serve_0 : decode cX12_serve 0 = .ok (.iconst 0, 1) := by decide +kernel
theorem dX12_serve_1 : decode cX12_serve 1 = .ok (.istore_n 2, 1) := by decide +kernel
theorem dX12_serve_2 : decode cX12_serve 2 = .ok (.iload_n 2, 1) := by decide +kernel
theorem dX12_serve_3 : decode cX12_serve 3 = .ok (.iconst 4, 1) := by decide +kernel
theorem dX12_serve_4 : decode cX12_serve 4 = .ok (.if_icmp .ge 96, 3) := by decide +kernel
theorem dX12_serve_7 : decode cX12_serve 7 = .ok (.aload_n 0, 1) := by decide +kernel
theorem dX12_serve_8 : decode cX12_serve 8 = .ok (.getfield 76, 3) := by decide +kernel
theorem dX12_serve_11 : decode cX12_serve 11 = .ok (.iconst 4, 1) := by decide +kernel
theorem dX12_serve_12 : decode cX12_serve 12 = .ok (.iload_n 1, 1) := by decide +kernel
theorem dX12_serve_13 : decode cX12_serve 13 = .ok (.imul, 1) := by decide +kernel
theorem dX12_serve_14 : decode cX12_serve 14 = .ok (.iload_n 2, 1) := by decide +kernel
theorem dX12_serve_15 : decode cX12_serve 15 = .ok (.iadd, 1) := by decide +kernel
theorem dX12_serve_16 : decode cX12_serve 16 = .ok (.iaload, 1) := by decide +kernel
theorem dX12_serve_17 : decode cX12_serve 17 = .ok (.istore_n 3, 1) := by decide +kernel
theorem dX12_serve_18 : decode cX12_serve 18 = .ok (.iconst 0, 1) := by decide +kernel
theorem dX12_serve_19 : decode cX12_serve 19 = .ok (.istore 4, 2) := by decide +kernel
theorem dX12_serve_21 : decode cX12_serve 21 = .ok (.iload 4, 2) := by decide +kernel
theorem dX12_serve_23 : decode cX12_serve 23 = .ok (.iload_n 3, 1) := by decide +kernel
theorem dX12_serve_24 : decode cX12_serve 24 = .ok (.if_icmp .ge 70, 3) := by decide +kernel
theorem dX12_serve_27 : decode cX12_serve 27 = .ok (.aload_n 0, 1) := by decide +kernel
theorem dX12_serve_28 : decode cX12_serve 28 = .ok (.iload_n 1, 1) := by decide +kernel
theorem dX12_serve_29 : decode cX12_serve 29 = .ok (.invokevirtual 361, 3) := by decide +kernel
theorem dX12_serve_32 : decode cX12_serve 32 = .ok (.istore 5, 2) := by decide +kernel
theorem dX12_serve_34 : decode cX12_serve 34 = .ok (.iload 5, 2) := by decide +kernel
theorem dX12_serve_36 : decode cX12_serve 36 = .ok (.ifCond .eq 16, 3) := by decide +kernel
theorem dX12_serve_39 : decode cX12_serve 39 = .ok (.aload_n 0, 1) := by decide +kernel
theorem dX12_serve_40 : decode cX12_serve 40 = .ok (.getfield 82, 3) := by decide +kernel
theorem dX12_serve_43 : decode cX12_serve 43 = .ok (.iload_n 1, 1) := by decide +kernel
theorem dX12_serve_44 : decode cX12_serve 44 = .ok (.dup2, 1) := by decide +kernel
theorem dX12_serve_45 : decode cX12_serve 45 = .ok (.iaload, 1) := by decide +kernel
theorem dX12_serve_46 : decode cX12_serve 46 = .ok (.iconst 1, 1) := by decide +kernel
theorem dX12_serve_47 : decode cX12_serve 47 = .ok (.iadd, 1) := by decide +kernel
theorem dX12_serve_48 : decode cX12_serve 48 = .ok (.iastore, 1) := by decide +kernel
theorem dX12_serve_49 : decode cX12_serve 49 = .ok (.goto 39, 3) := by decide +kernel
theorem dX12_serve_52 : decode cX12_serve 52 = .ok (.iload_n 2, 1) := by decide +kernel
theorem dX12_serve_53 : decode cX12_serve 53 = .ok (.ifCond .le 25, 3) := by decide +kernel
theorem dX12_serve_56 : decode cX12_serve 56 = .ok (.aload_n 0, 1) := by decide +kernel
theorem dX12_serve_57 : decode cX12_serve 57 = .ok (.getfield 55, 3) := by decide +kernel
theorem dX12_serve_60 : decode cX12_serve 60 = .ok (.bipush 30, 2) := by decide +kernel
theorem dX12_serve_62 : decode cX12_serve 62 = .ok (.iconst 4, 1) := by decide +kernel
theorem dX12_serve_63 : decode cX12_serve 63 = .ok (.iload_n 1, 1) := by decide +kernel
theorem dX12_serve_64 : decode cX12_serve 64 = .ok (.imul, 1) := by decide +kernel
theorem dX12_serve_65 : decode cX12_serve 65 = .ok (.iadd, 1) := by decide +kernel
theorem dX12_serve_66 : decode cX12_serve 66 = .ok (.iload_n 2, 1) := by decide +kernel
theorem dX12_serve_67 : decode cX12_serve 67 = .ok (.iadd, 1) := by decide +kernel
theorem dX12_serve_68 : decode cX12_serve 68 = .ok (.iconst 1, 1) := by decide +kernel
theorem dX12_serve_69 : decode cX12_serve 69 = .ok (.isub, 1) := by decide +kernel
theorem dX12_serve_70 : decode cX12_serve 70 = .ok (.dup2, 1) := by decide +kernel
theorem dX12_serve_71 : decode cX12_serve 71 = .ok (.iaload, 1) := by decide +kernel
theorem dX12_serve_72 : decode cX12_serve 72 = .ok (.iconst 1, 1) := by decide +kernel
theorem dX12_serve_73 : decode cX12_serve 73 = .ok (.iadd, 1) := by decide +kernel
theorem dX12_serve_74 : decode cX12_serve 74 = .ok (.iastore, 1) := by decide +kernel
theorem dX12_serve_75 : decode cX12_serve 75 = .ok (.goto 13, 3) := by decide +kernel
theorem dX12_serve_78 : decode cX12_serve 78 = .ok (.aload_n 0, 1) := by decide +kernel
theorem dX12_serve_79 : decode cX12_serve 79 = .ok (.getfield 85, 3) := by decide +kernel
theorem dX12_serve_82 : decode cX12_serve 82 = .ok (.iload_n 1, 1) := by decide +kernel
theorem dX12_serve_83 : decode cX12_serve 83 = .ok (.dup2, 1) := by decide +kernel
theorem dX12_serve_84 : decode cX12_serve 84 = .ok (.iaload, 1) := by decide +kernel
theorem dX12_serve_85 : decode cX12_serve 85 = .ok (.iconst 1, 1) := by decide +kernel
theorem dX12_serve_86 : decode cX12_serve 86 = .ok (.iadd, 1) := by decide +kernel
theorem dX12_serve_87 : decode cX12_serve 87 = .ok (.iastore, 1) := by decide +kernel
theorem dX12_serve_88 : decode cX12_serve 88 = .ok (.iinc 4 1, 3) := by decide +kernel
theorem dX12_serve_91 : decode cX12_serve 91 = .ok (.goto (-70), 3) := by decide +kernel
theorem dX12_serve_94 : decode cX12_serve 94 = .ok (.iinc 2 1, 3) := by decide +kernel
theorem dX12_serve_97 : decode cX12_serve 97 = .ok (.goto (-95), 3) := by decide +kernel
theorem dX12_serve_100 : decode cX12_serve 100 = .ok (.return_, 1) := by decide +kernel
theorem dX12_serveAll_0 : decode cX12_serveAll 0 = .ok (.iconst 0, 1) := by decide +kernel
theorem dX12_serveAll_1 : decode cX12_serveAll 1 = .ok (.istore_n 1, 1) := by decide +kernel
theorem dX12_serveAll_2 : decode cX12_serveAll 2 = .ok (.iload_n 1, 1) := by decide +kernel
theorem dX12_serveAll_3 : decode cX12_serveAll 3 = .ok (.bipush 24, 2) := by decide +kernel
theorem dX12_serveAll_5 : decode cX12_serveAll 5 = .ok (.if_icmp .ge 19, 3) := by decide +kernel
theorem dX12_serveAll_8 : decode cX12_serveAll 8 = .ok (.aload_n 0, 1) := by decide +kernel
theorem dX12_serveAll_9 : decode cX12_serveAll 9 = .ok (.getfield 55, 3) := by decide +kernel
theorem dX12_serveAll_12 : decode cX12_serveAll 12 = .ok (.bipush 30, 2) := by decide +kernel
theorem dX12_serveAll_14 : decode cX12_serveAll 14 = .ok (.iload_n 1, 1) := by decide +kernel
theorem dX12_serveAll_15 : decode cX12_serveAll 15 = .ok (.iadd, 1) := by decide +kernel
theorem dX12_serveAll_16 : decode cX12_serveAll 16 = .ok (.iconst 0, 1) := by decide +kernel
theorem dX12_serveAll_17 : decode cX12_serveAll 17 = .ok (.iastore, 1) := by decide +kernel
theorem dX12_serveAll_18 : decode cX12_serveAll 18 = .ok (.iinc 1 1, 3) := by decide +kernel
theorem dX12_serveAll_21 : decode cX12_serveAll 21 = .ok (.goto (-19), 3) := by decide +kernel
theorem dX12_serveAll_24 : decode cX12_serveAll 24 = .ok (.bipush 20, 2) := by decide +kernel
theorem dX12_serveAll_26 : decode cX12_serveAll 26 = .ok (.istore_n 1, 1) := by decide +kernel
theorem dX12_serveAll_27 : decode cX12_serveAll 27 = .ok (.iload_n 1, 1) := by decide +kernel
theorem dX12_serveAll_28 : decode cX12_serveAll 28 = .ok (.ifCond .lt 42, 3) := by decide +kernel
theorem dX12_serveAll_31 : decode cX12_serveAll 31 = .ok (.iconst 0, 1) := by decide +kernel
theorem dX12_serveAll_32 : decode cX12_serveAll 32 = .ok (.istore_n 2, 1) := by decide +kernel
theorem dX12_serveAll_33 : decode cX12_serveAll 33 = .ok (.iload_n 2, 1) := by decide +kernel
theorem dX12_serveAll_34 : decode cX12_serveAll 34 = .ok (.aload_n 0, 1) := by decide +kernel
theorem dX12_serveAll_35 : decode cX12_serveAll 35 = .ok (.getfield 308, 3) := by decide +kernel
theorem dX12_serveAll_38 : decode cX12_serveAll 38 = .ok (.if_icmp .ge 26, 3) := by decide +kernel
theorem dX12_serveAll_41 : decode cX12_serveAll 41 = .ok (.aload_n 0, 1) := by decide +kernel
theorem dX12_serveAll_42 : decode cX12_serveAll 42 = .ok (.getfield 40, 3) := by decide +kernel
theorem dX12_serveAll_45 : decode cX12_serveAll 45 = .ok (.iconst 3, 1) := by decide +kernel
theorem dX12_serveAll_46 : decode cX12_serveAll 46 = .ok (.iload_n 2, 1) := by decide +kernel
theorem dX12_serveAll_47 : decode cX12_serveAll 47 = .ok (.imul, 1) := by decide +kernel
theorem dX12_serveAll_48 : decode cX12_serveAll 48 = .ok (.iaload, 1) := by decide +kernel
theorem dX12_serveAll_49 : decode cX12_serveAll 49 = .ok (.iload_n 1, 1) := by decide +kernel
theorem dX12_serveAll_50 : decode cX12_serveAll 50 = .ok (.if_icmp .ne 8, 3) := by decide +kernel
theorem dX12_serveAll_53 : decode cX12_serveAll 53 = .ok (.aload_n 0, 1) := by decide +kernel
theorem dX12_serveAll_54 : decode cX12_serveAll 54 = .ok (.iload_n 2, 1) := by decide +kernel
theorem dX12_serveAll_55 : decode cX12_serveAll 55 = .ok (.invokevirtual 364, 3) := by decide +kernel
theorem dX12_serveAll_58 : decode cX12_serveAll 58 = .ok (.iinc 2 1, 3) := by decide +kernel
theorem dX12_serveAll_61 : decode cX12_serveAll 61 = .ok (.goto (-28), 3) := by decide +kernel
theorem dX12_serveAll_64 : decode cX12_serveAll 64 = .ok (.iinc 1 (-1), 3) := by decide +kernel
theorem dX12_serveAll_67 : decode cX12_serveAll 67 = .ok (.goto (-40), 3) := by decide +kernel
theorem dX12_serveAll_70 : decode cX12_serveAll 70 = .ok (.return_, 1) := by decide +kernel
theorem dX12_board_0 : decode cX12_board 0 = .ok (.iconst 0, 1) := by decide +kernel
theorem dX12_board_1 : decode cX12_board 1 = .ok (.istore_n 1, 1) := by decide +kernel
theorem dX12_board_2 : decode cX12_board 2 = .ok (.iconst 0, 1) := by decide +kernel
theorem dX12_board_3 : decode cX12_board 3 = .ok (.istore_n 2, 1) := by decide +kernel
theorem dX12_board_4 : decode cX12_board 4 = .ok (.iload_n 2, 1) := by decide +kernel
theorem dX12_board_5 : decode cX12_board 5 = .ok (.aload_n 0, 1) := by decide +kernel
theorem dX12_board_6 : decode cX12_board 6 = .ok (.getfield 305, 3) := by decide +kernel
theorem dX12_board_9 : decode cX12_board 9 = .ok (.if_icmp .gt 131, 3) := by decide +kernel
theorem dX12_board_12 : decode cX12_board 12 = .ok (.iload_n 2, 1) := by decide +kernel
theorem dX12_board_13 : decode cX12_board 13 = .ok (.aload_n 0, 1) := by decide +kernel
theorem dX12_board_14 : decode cX12_board 14 = .ok (.getfield 305, 3) := by decide +kernel
theorem dX12_board_17 : decode cX12_board 17 = .ok (.if_icmp .ne 22, 3) := by decide +kernel
theorem dX12_board_20 : decode cX12_board 20 = .ok (.aload_n 0, 1) := by decide +kernel
theorem dX12_board_21 : decode cX12_board 21 = .ok (.getfield 349, 3) := by decide +kernel
theorem dX12_board_24 : decode cX12_board 24 = .ok (.aload_n 0, 1) := by decide +kernel
theorem dX12_board_25 : decode cX12_board 25 = .ok (.getfield 352, 3) := by decide +kernel
theorem dX12_board_28 : decode cX12_board 28 = .ok (.if_icmp .le 7, 3) := by decide +kernel
theorem dX12_board_31 : decode cX12_board 31 = .ok (.iconst 1, 1) := by decide +kernel
theorem dX12_board_32 : decode cX12_board 32 = .ok (.goto 30, 3) := by decide +kernel
theorem dX12_board_35 : decode cX12_board 35 = .ok (.iconst 0, 1) := by decide +kernel
theorem dX12_board_36 : decode cX12_board 36 = .ok (.goto 26, 3) := by decide +kernel
theorem dX12_board_39 : decode cX12_board 39 = .ok (.aload_n 0, 1) := by decide +kernel
theorem dX12_board_40 : decode cX12_board 40 = .ok (.getfield 73, 3) := by decide +kernel
theorem dX12_board_43 : decode cX12_board 43 = .ok (.iload_n 2, 1) := by decide +kernel
theorem dX12_board_44 : decode cX12_board 44 = .ok (.iaload, 1) := by decide +kernel
theorem dX12_board_45 : decode cX12_board 45 = .ok (.ifCond .le 16, 3) := by decide +kernel
theorem dX12_board_48 : decode cX12_board 48 = .ok (.aload_n 0, 1) := by decide +kernel
theorem dX12_board_49 : decode cX12_board 49 = .ok (.getfield 55, 3) := by decide +kernel
theorem dX12_board_52 : decode cX12_board 52 = .ok (.iload_n 2, 1) := by decide +kernel
theorem dX12_board_53 : decode cX12_board 53 = .ok (.iaload, 1) := by decide +kernel
theorem dX12_board_54 : decode cX12_board 54 = .ok (.ifCond .le 7, 3) := by decide +kernel
theorem dX12_board_57 : decode cX12_board 57 = .ok (.iconst 1, 1) := by decide +kernel
theorem dX12_board_58 : decode cX12_board 58 = .ok (.goto 4, 3) := by decide +kernel
theorem dX12_board_61 : decode cX12_board 61 = .ok (.iconst 0, 1) := by decide +kernel
theorem dX12_board_62 : decode cX12_board 62 = .ok (.istore_n 3, 1) := by decide +kernel
theorem dX12_board_63 : decode cX12_board 63 = .ok (.iload_n 3, 1) := by decide +kernel
theorem dX12_board_64 : decode cX12_board 64 = .ok (.ifCond .ne 6, 3) := by decide +kernel
theorem dX12_board_67 : decode cX12_board 67 = .ok (.goto 67, 3) := by decide +kernel
theorem dX12_board_70 : decode cX12_board 70 = .ok (.iload_n 1, 1) := by decide +kernel
theorem dX12_board_71 : decode cX12_board 71 = .ok (.istore 4, 2) := by decide +kernel
theorem dX12_board_73 : decode cX12_board 73 = .ok (.iload 4, 2) := by decide +kernel
theorem dX12_board_75 : decode cX12_board 75 = .ok (.ifCond .le 43, 3) := by decide +kernel
theorem dX12_board_78 : decode cX12_board 78 = .ok (.aload_n 0, 1) := by decide +kernel
theorem dX12_board_79 : decode cX12_board 79 = .ok (.getfield 79, 3) := by decide +kernel
theorem dX12_board_82 : decode cX12_board 82 = .ok (.iload 4, 2) := by decide +kernel
theorem dX12_board_84 : decode cX12_board 84 = .ok (.iconst 1, 1) := by decide +kernel
theorem dX12_board_85 : decode cX12_board 85 = .ok (.isub, 1) := by decide +kernel
theorem dX12_board_86 : decode cX12_board 86 = .ok (.iaload, 1) := by decide +kernel
theorem dX12_board_87 : decode cX12_board 87 = .ok (.aload_n 0, 1) := by decide +kernel
theorem dX12_board_88 : decode cX12_board 88 = .ok (.getfield 67, 3) := by decide +kernel
theorem dX12_board_91 : decode cX12_board 91 = .ok (.iload_n 2, 1) := by decide +kernel
theorem dX12_board_92 : decode cX12_board 92 = .ok (.iaload, 1) := by decide +kernel
theorem dX12_board_93 : decode cX12_board 93 = .ok (.if_icmp .le 25, 3) := by decide +kernel
theorem dX12_board_96 : decode cX12_board 96 = .ok (.aload_n 0, 1) := by decide +kernel
theorem dX12_board_97 : decode cX12_board 97 = .ok (.getfield 79, 3) := by decide +kernel
theorem dX12_board_100 : decode cX12_board 100 = .ok (.iload 4, 2) := by decide +kernel
theorem dX12_board_102 : decode cX12_board 102 = .ok (.aload_n 0, 1) := by decide +kernel
theorem dX12_board_103 : decode cX12_board 103 = .ok (.getfield 79, 3) := by decide +kernel
theorem dX12_board_106 : decode cX12_board 106 = .ok (.iload 4, 2) := by decide +kernel
theorem dX12_board_108 : decode cX12_board 108 = .ok (.iconst 1, 1) := by decide +kernel
theorem dX12_board_109 : decode cX12_board 109 = .ok (.isub, 1) := by decide +kernel
theorem dX12_board_110 : decode cX12_board 110 = .ok (.iaload, 1) := by decide +kernel
theorem dX12_board_111 : decode cX12_board 111 = .ok (.iastore, 1) := by decide +kernel
theorem dX12_board_112 : decode cX12_board 112 = .ok (.iinc 4 (-1), 3) := by decide +kernel
theorem dX12_board_115 : decode cX12_board 115 = .ok (.goto (-42), 3) := by decide +kernel
theorem dX12_board_118 : decode cX12_board 118 = .ok (.aload_n 0, 1) := by decide +kernel
theorem dX12_board_119 : decode cX12_board 119 = .ok (.getfield 79, 3) := by decide +kernel
theorem dX12_board_122 : decode cX12_board 122 = .ok (.iload 4, 2) := by decide +kernel
theorem dX12_board_124 : decode cX12_board 124 = .ok (.aload_n 0, 1) := by decide +kernel
theorem dX12_board_125 : decode cX12_board 125 = .ok (.getfield 67, 3) := by decide +kernel
theorem dX12_board_128 : decode cX12_board 128 = .ok (.iload_n 2, 1) := by decide +kernel
theorem dX12_board_129 : decode cX12_board 129 = .ok (.iaload, 1) := by decide +kernel
theorem dX12_board_130 : decode cX12_board 130 = .ok (.iastore, 1) := by decide +kernel
theorem dX12_board_131 : decode cX12_board 131 = .ok (.iinc 1 1, 3) := by decide +kernel
theorem dX12_board_134 : decode cX12_board 134 = .ok (.iinc 2 1, 3) := by decide +kernel
theorem dX12_board_137 : decode cX12_board 137 = .ok (.goto (-133), 3) := by decide +kernel
theorem dX12_board_140 : decode cX12_board 140 = .ok (.aload_n 0, 1) := by decide +kernel
theorem dX12_board_141 : decode cX12_board 141 = .ok (.iload_n 1, 1) := by decide +kernel
theorem dX12_board_142 : decode cX12_board 142 = .ok (.ifCond .ne 7, 3) := by decide +kernel
theorem dX12_board_145 : decode cX12_board 145 = .ok (.iconst 1, 1) := by decide +kernel
theorem dX12_board_146 : decode cX12_board 146 = .ok (.goto 4, 3) := by decide +kernel
theorem dX12_board_149 : decode cX12_board 149 = .ok (.iconst 0, 1) := by decide +kernel
theorem dX12_board_150 : decode cX12_board 150 = .ok (.putfield 367, 3) := by decide +kernel
theorem dX12_board_153 : decode cX12_board 153 = .ok (.aload_n 0, 1) := by decide +kernel
theorem dX12_board_154 : decode cX12_board 154 = .ok (.getfield 55, 3) := by decide +kernel
theorem dX12_board_157 : decode cX12_board 157 = .ok (.bipush 54, 2) := by decide +kernel
theorem dX12_board_159 : decode cX12_board 159 = .ok (.iload_n 1, 1) := by decide +kernel
theorem dX12_board_160 : decode cX12_board 160 = .ok (.ifCond .ne 12, 3) := by decide +kernel
theorem dX12_board_163 : decode cX12_board 163 = .ok (.aload_n 0, 1) := by decide +kernel
theorem dX12_board_164 : decode cX12_board 164 = .ok (.getfield 43, 3) := by decide +kernel
theorem dX12_board_167 : decode cX12_board 167 = .ok (.iconst 1, 1) := by decide +kernel
theorem dX12_board_168 : decode cX12_board 168 = .ok (.iaload, 1) := by decide +kernel
theorem dX12_board_169 : decode cX12_board 169 = .ok (.goto 48, 3) := by decide +kernel
theorem dX12_board_172 : decode cX12_board 172 = .ok (.aload_n 0, 1) := by decide +kernel
theorem dX12_board_173 : decode cX12_board 173 = .ok (.getfield 370, 3) := by decide +kernel
theorem dX12_board_176 : decode cX12_board 176 = .ok (.ifCond .ne 12, 3) := by decide +kernel
theorem dX12_board_179 : decode cX12_board 179 = .ok (.aload_n 0, 1) := by decide +kernel
theorem dX12_board_180 : decode cX12_board 180 = .ok (.getfield 79, 3) := by decide +kernel
theorem dX12_board_183 : decode cX12_board 183 = .ok (.iconst 0, 1) := by decide +kernel
theorem dX12_board_184 : decode cX12_board 184 = .ok (.iaload, 1) := by decide +kernel
theorem dX12_board_185 : decode cX12_board 185 = .ok (.goto 32, 3) := by decide +kernel
theorem dX12_board_188 : decode cX12_board 188 = .ok (.aload_n 0, 1) := by decide +kernel
theorem dX12_board_189 : decode cX12_board 189 = .ok (.getfield 370, 3) := by decide +kernel
theorem dX12_board_192 : decode cX12_board 192 = .ok (.iconst 1, 1) := by decide +kernel
theorem dX12_board_193 : decode cX12_board 193 = .ok (.if_icmp .ne 14, 3) := by decide +kernel
theorem dX12_board_196 : decode cX12_board 196 = .ok (.aload_n 0, 1) := by decide +kernel
theorem dX12_board_197 : decode cX12_board 197 = .ok (.getfield 79, 3) := by decide +kernel
theorem dX12_board_200 : decode cX12_board 200 = .ok (.iload_n 1, 1) := by decide +kernel
theorem dX12_board_201 : decode cX12_board 201 = .ok (.iconst 1, 1) := by decide +kernel
theorem dX12_board_202 : decode cX12_board 202 = .ok (.isub, 1) := by decide +kernel
theorem dX12_board_203 : decode cX12_board 203 = .ok (.iaload, 1) := by decide +kernel
theorem dX12_board_204 : decode cX12_board 204 = .ok (.goto 13, 3) := by decide +kernel
theorem dX12_board_207 : decode cX12_board 207 = .ok (.aload_n 0, 1) := by decide +kernel
theorem dX12_board_208 : decode cX12_board 208 = .ok (.getfield 79, 3) := by decide +kernel
theorem dX12_board_211 : decode cX12_board 211 = .ok (.iload_n 1, 1) := by decide +kernel
theorem dX12_board_212 : decode cX12_board 212 = .ok (.iconst 1, 1) := by decide +kernel
theorem dX12_board_213 : decode cX12_board 213 = .ok (.isub, 1) := by decide +kernel
theorem dX12_board_214 : decode cX12_board 214 = .ok (.iconst 2, 1) := by decide +kernel
theorem dX12_board_215 : decode cX12_board 215 = .ok (.idiv, 1) := by decide +kernel
theorem dX12_board_216 : decode cX12_board 216 = .ok (.iaload, 1) := by decide +kernel
theorem dX12_board_217 : decode cX12_board 217 = .ok (.iastore, 1) := by decide +kernel
theorem dX12_board_218 : decode cX12_board 218 = .ok (.return_, 1) := by decide +kernel
theorem dX12_goes_0 : decode cX12_goes 0 = .ok (.aload_n 0, 1) := by decide +kernel
theorem dX12_goes_1 : decode cX12_goes 1 = .ok (.iconst 0, 1) := by decide +kernel
theorem dX12_goes_2 : decode cX12_goes 2 = .ok (.putfield 352, 3) := by decide +kernel
theorem dX12_goes_5 : decode cX12_goes 5 = .ok (.iconst 0, 1) := by decide +kernel
theorem dX12_goes_6 : decode cX12_goes 6 = .ok (.istore_n 2, 1) := by decide +kernel
theorem dX12_goes_7 : decode cX12_goes 7 = .ok (.iload_n 2, 1) := by decide +kernel
theorem dX12_goes_8 : decode cX12_goes 8 = .ok (.aload_n 0, 1) := by decide +kernel
theorem dX12_goes_9 : decode cX12_goes 9 = .ok (.getfield 305, 3) := by decide +kernel
theorem dX12_goes_12 : decode cX12_goes 12 = .ok (.if_icmp .ge 93, 3) := by decide +kernel
theorem dX12_goes_15 : decode cX12_goes 15 = .ok (.aload_n 0, 1) := by decide +kernel
theorem dX12_goes_16 : decode cX12_goes 16 = .ok (.getfield 37, 3) := by decide +kernel
theorem dX12_goes_19 : decode cX12_goes 19 = .ok (.iconst 3, 1) := by decide +kernel
theorem dX12_goes_20 : decode cX12_goes 20 = .ok (.iload_n 2, 1) := by decide +kernel
theorem dX12_goes_21 : decode cX12_goes 21 = .ok (.imul, 1) := by decide +kernel
theorem dX12_goes_22 : decode cX12_goes 22 = .ok (.iaload, 1) := by decide +kernel
theorem dX12_goes_23 : decode cX12_goes 23 = .ok (.bipush 99, 2) := by decide +kernel
theorem dX12_goes_25 : decode cX12_goes 25 = .ok (.aload_n 0, 1) := by decide +kernel
theorem dX12_goes_26 : decode cX12_goes 26 = .ok (.getfield 55, 3) := by decide +kernel
theorem dX12_goes_29 : decode cX12_goes 29 = .ok (.iload_n 2, 1) := by decide +kernel
theorem dX12_goes_30 : decode cX12_goes 30 = .ok (.iaload, 1) := by decide +kernel
theorem dX12_goes_31 : decode cX12_goes 31 = .ok (.isub, 1) := by decide +kernel
theorem dX12_goes_32 : decode cX12_goes 32 = .ok (.invokestatic 345, 3) := by decide +kernel
theorem dX12_goes_35 : decode cX12_goes 35 = .ok (.istore_n 3, 1) := by decide +kernel
theorem dX12_goes_36 : decode cX12_goes 36 = .ok (.aload_n 0, 1) := by decide +kernel
theorem dX12_goes_37 : decode cX12_goes 37 = .ok (.getfield 55, 3) := by decide +kernel
theorem dX12_goes_40 : decode cX12_goes 40 = .ok (.iload_n 2, 1) := by decide +kernel
theorem dX12_goes_41 : decode cX12_goes 41 = .ok (.dup2, 1) := by decide +kernel
theorem dX12_goes_42 : decode cX12_goes 42 = .ok (.iaload, 1) := by decide +kernel
theorem dX12_goes_43 : decode cX12_goes 43 = .ok (.iload_n 3, 1) := by decide +kernel
theorem dX12_goes_44 : decode cX12_goes 44 = .ok (.iadd, 1) := by decide +kernel
theorem dX12_goes_45 : decode cX12_goes 45 = .ok (.iastore, 1) := by decide +kernel
theorem dX12_goes_46 : decode cX12_goes 46 = .ok (.aload_n 0, 1) := by decide +kernel
theorem dX12_goes_47 : decode cX12_goes 47 = .ok (.getfield 55, 3) := by decide +kernel
theorem dX12_goes_50 : decode cX12_goes 50 = .ok (.bipush 12, 2) := by decide +kernel
theorem dX12_goes_52 : decode cX12_goes 52 = .ok (.iload_n 2, 1) := by decide +kernel
theorem dX12_goes_53 : decode cX12_goes 53 = .ok (.iadd, 1) := by decide +kernel
theorem dX12_goes_54 : decode cX12_goes 54 = .ok (.dup2, 1) := by decide +kernel
theorem dX12_goes_55 : decode cX12_goes 55 = .ok (.iaload, 1) := by decide +kernel
theorem dX12_goes_56 : decode cX12_goes 56 = .ok (.iload_n 3, 1) := by decide +kernel
theorem dX12_goes_57 : decode cX12_goes 57 = .ok (.aload_n 0, 1) := by decide +kernel
theorem dX12_goes_58 : decode cX12_goes 58 = .ok (.getfield 37, 3) := by decide +kernel
theorem dX12_goes_61 : decode cX12_goes 61 = .ok (.iconst 3, 1) := by decide +kernel
theorem dX12_goes_62 : decode cX12_goes 62 = .ok (.iload_n 2, 1) := by decide +kernel
theorem dX12_goes_63 : decode cX12_goes 63 = .ok (.imul, 1) := by decide +kernel
theorem dX12_goes_64 : decode cX12_goes 64 = .ok (.iconst 1, 1) := by decide +kernel
theorem dX12_goes_65 : decode cX12_goes 65 = .ok (.iadd, 1) := by decide +kernel
theorem dX12_goes_66 : decode cX12_goes 66 = .ok (.iaload, 1) := by decide +kernel
theorem dX12_goes_67 : decode cX12_goes 67 = .ok (.imul, 1) := by decide +kernel
theorem dX12_goes_68 : decode cX12_goes 68 = .ok (.isub, 1) := by decide +kernel
theorem dX12_goes_69 : decode cX12_goes 69 = .ok (.iastore, 1) := by decide +kernel
theorem dX12_goes_70 : decode cX12_goes 70 = .ok (.aload_n 0, 1) := by decide +kernel
theorem dX12_goes_71 : decode cX12_goes 71 = .ok (.getfield 73, 3) := by decide +kernel
theorem dX12_goes_74 : decode cX12_goes 74 = .ok (.iload_n 2, 1) := by decide +kernel
theorem dX12_goes_75 : decode cX12_goes 75 = .ok (.aload_n 0, 1) := by decide +kernel
theorem dX12_goes_76 : decode cX12_goes 76 = .ok (.getfield 55, 3) := by decide +kernel
theorem dX12_goes_79 : decode cX12_goes 79 = .ok (.iload_n 2, 1) := by decide +kernel
theorem dX12_goes_80 : decode cX12_goes 80 = .ok (.iaload, 1) := by decide +kernel
theorem dX12_goes_81 : decode cX12_goes 81 = .ok (.iastore, 1) := by decide +kernel
theorem dX12_goes_82 : decode cX12_goes 82 = .ok (.aload_n 0, 1) := by decide +kernel
theorem dX12_goes_83 : decode cX12_goes 83 = .ok (.getfield 55, 3) := by decide +kernel
theorem dX12_goes_86 : decode cX12_goes 86 = .ok (.bipush 24, 2) := by decide +kernel
theorem dX12_goes_88 : decode cX12_goes 88 = .ok (.iload_n 2, 1) := by decide +kernel
theorem dX12_goes_89 : decode cX12_goes 89 = .ok (.iadd, 1) := by decide +kernel
theorem dX12_goes_90 : decode cX12_goes 90 = .ok (.iconst 0, 1) := by decide +kernel
theorem dX12_goes_91 : decode cX12_goes 91 = .ok (.iastore, 1) := by decide +kernel
theorem dX12_goes_92 : decode cX12_goes 92 = .ok (.aload_n 0, 1) := by decide +kernel
theorem dX12_goes_93 : decode cX12_goes 93 = .ok (.getfield 70, 3) := by decide +kernel
theorem dX12_goes_96 : decode cX12_goes 96 = .ok (.iload_n 2, 1) := by decide +kernel
theorem dX12_goes_97 : decode cX12_goes 97 = .ok (.iconst 0, 1) := by decide +kernel
theorem dX12_goes_98 : decode cX12_goes 98 = .ok (.iastore, 1) := by decide +kernel
theorem dX12_goes_99 : decode cX12_goes 99 = .ok (.iinc 2 1, 3) := by decide +kernel
theorem dX12_goes_102 : decode cX12_goes 102 = .ok (.goto (-95), 3) := by decide +kernel
theorem dX12_goes_105 : decode cX12_goes 105 = .ok (.aload_n 0, 1) := by decide +kernel
theorem dX12_goes_106 : decode cX12_goes 106 = .ok (.getfield 70, 3) := by decide +kernel
theorem dX12_goes_109 : decode cX12_goes 109 = .ok (.aload_n 0, 1) := by decide +kernel
theorem dX12_goes_110 : decode cX12_goes 110 = .ok (.getfield 305, 3) := by decide +kernel
theorem dX12_goes_113 : decode cX12_goes 113 = .ok (.iconst 0, 1) := by decide +kernel
theorem dX12_goes_114 : decode cX12_goes 114 = .ok (.iastore, 1) := by decide +kernel
theorem dX12_goes_115 : decode cX12_goes 115 = .ok (.iconst 0, 1) := by decide +kernel
theorem dX12_goes_116 : decode cX12_goes 116 = .ok (.istore_n 2, 1) := by decide +kernel
theorem dX12_goes_117 : decode cX12_goes 117 = .ok (.iload_n 2, 1) := by decide +kernel
theorem dX12_goes_118 : decode cX12_goes 118 = .ok (.aload_n 0, 1) := by decide +kernel
theorem dX12_goes_119 : decode cX12_goes 119 = .ok (.getfield 308, 3) := by decide +kernel
theorem dX12_goes_122 : decode cX12_goes 122 = .ok (.if_icmp .ge 87, 3) := by decide +kernel
theorem dX12_goes_125 : decode cX12_goes 125 = .ok (.iconst 0, 1) := by decide +kernel
theorem dX12_goes_126 : decode cX12_goes 126 = .ok (.istore_n 3, 1) := by decide +kernel
theorem dX12_goes_127 : decode cX12_goes 127 = .ok (.iload_n 3, 1) := by decide +kernel
theorem dX12_goes_128 : decode cX12_goes 128 = .ok (.iconst 4, 1) := by decide +kernel
theorem dX12_goes_129 : decode cX12_goes 129 = .ok (.if_icmp .ge 32, 3) := by decide +kernel
theorem dX12_goes_132 : decode cX12_goes 132 = .ok (.aload_n 0, 1) := by decide +kernel
theorem dX12_goes_133 : decode cX12_goes 133 = .ok (.getfield 76, 3) := by decide +kernel
theorem dX12_goes_136 : decode cX12_goes 136 = .ok (.iconst 4, 1) := by decide +kernel
theorem dX12_goes_137 : decode cX12_goes 137 = .ok (.iload_n 2, 1) := by decide +kernel
theorem dX12_goes_138 : decode cX12_goes 138 = .ok (.imul, 1) := by decide +kernel
theorem dX12_goes_139 : decode cX12_goes 139 = .ok (.iload_n 3, 1) := by decide +kernel
theorem dX12_goes_140 : decode cX12_goes 140 = .ok (.iadd, 1) := by decide +kernel
theorem dX12_goes_141 : decode cX12_goes 141 = .ok (.aload_n 0, 1) := by decide +kernel
theorem dX12_goes_142 : decode cX12_goes 142 = .ok (.getfield 55, 3) := by decide +kernel
theorem dX12_goes_145 : decode cX12_goes 145 = .ok (.bipush 30, 2) := by decide +kernel
theorem dX12_goes_147 : decode cX12_goes 147 = .ok (.iconst 4, 1) := by decide +kernel
theorem dX12_goes_148 : decode cX12_goes 148 = .ok (.iload_n 2, 1) := by decide +kernel
theorem dX12_goes_149 : decode cX12_goes 149 = .ok (.imul, 1) := by decide +kernel
theorem dX12_goes_150 : decode cX12_goes 150 = .ok (.iadd, 1) := by decide +kernel
theorem dX12_goes_151 : decode cX12_goes 151 = .ok (.iload_n 3, 1) := by decide +kernel
theorem dX12_goes_152 : decode cX12_goes 152 = .ok (.iadd, 1) := by decide +kernel
theorem dX12_goes_153 : decode cX12_goes 153 = .ok (.iaload, 1) := by decide +kernel
theorem dX12_goes_154 : decode cX12_goes 154 = .ok (.iastore, 1) := by decide +kernel
theorem dX12_goes_155 : decode cX12_goes 155 = .ok (.iinc 3 1, 3) := by decide +kernel
theorem dX12_goes_158 : decode cX12_goes 158 = .ok (.goto (-31), 3) := by decide +kernel
theorem dX12_goes_161 : decode cX12_goes 161 = .ok (.aload_n 0, 1) := by decide +kernel
theorem dX12_goes_162 : decode cX12_goes 162 = .ok (.getfield 76, 3) := by decide +kernel
theorem dX12_goes_165 : decode cX12_goes 165 = .ok (.iconst 4, 1) := by decide +kernel
theorem dX12_goes_166 : decode cX12_goes 166 = .ok (.iload_n 2, 1) := by decide +kernel
theorem dX12_goes_167 : decode cX12_goes 167 = .ok (.imul, 1) := by decide +kernel
theorem dX12_goes_168 : decode cX12_goes 168 = .ok (.aload_n 0, 1) := by decide +kernel
theorem dX12_goes_169 : decode cX12_goes 169 = .ok (.getfield 40, 3) := by decide +kernel
theorem dX12_goes_172 : decode cX12_goes 172 = .ok (.iconst 3, 1) := by decide +kernel
theorem dX12_goes_173 : decode cX12_goes 173 = .ok (.iload_n 2, 1) := by decide +kernel
theorem dX12_goes_174 : decode cX12_goes 174 = .ok (.imul, 1) := by decide +kernel
theorem dX12_goes_175 : decode cX12_goes 175 = .ok (.iconst 2, 1) := by decide +kernel
theorem dX12_goes_176 : decode cX12_goes 176 = .ok (.iadd, 1) := by decide +kernel
theorem dX12_goes_177 : decode cX12_goes 177 = .ok (.iaload, 1) := by decide +kernel
theorem dX12_goes_178 : decode cX12_goes 178 = .ok (.iadd, 1) := by decide +kernel
theorem dX12_goes_179 : decode cX12_goes 179 = .ok (.dup2, 1) := by decide +kernel
theorem dX12_goes_180 : decode cX12_goes 180 = .ok (.iaload, 1) := by decide +kernel
theorem dX12_goes_181 : decode cX12_goes 181 = .ok (.aload_n 0, 1) := by decide +kernel
theorem dX12_goes_182 : decode cX12_goes 182 = .ok (.getfield 40, 3) := by decide +kernel
theorem dX12_goes_185 : decode cX12_goes 185 = .ok (.iconst 3, 1) := by decide +kernel
theorem dX12_goes_186 : decode cX12_goes 186 = .ok (.iload_n 2, 1) := by decide +kernel
theorem dX12_goes_187 : decode cX12_goes 187 = .ok (.imul, 1) := by decide +kernel
theorem dX12_goes_188 : decode cX12_goes 188 = .ok (.iconst 1, 1) := by decide +kernel
theorem dX12_goes_189 : decode cX12_goes 189 = .ok (.iadd, 1) := by decide +kernel
theorem dX12_goes_190 : decode cX12_goes 190 = .ok (.iaload, 1) := by decide +kernel
theorem dX12_goes_191 : decode cX12_goes 191 = .ok (.iload_n 1, 1) := by decide +kernel
theorem dX12_goes_192 : decode cX12_goes 192 = .ok (.ifCond .eq 7, 3) := by decide +kernel
theorem dX12_goes_195 : decode cX12_goes 195 = .ok (.iconst 2, 1) := by decide +kernel
theorem dX12_goes_196 : decode cX12_goes 196 = .ok (.goto 4, 3) := by decide +kernel
theorem dX12_goes_199 : decode cX12_goes 199 = .ok (.iconst 1, 1) := by decide +kernel
theorem dX12_goes_200 : decode cX12_goes 200 = .ok (.imul, 1) := by decide +kernel
theorem dX12_goes_201 : decode cX12_goes 201 = .ok (.iadd, 1) := by decide +kernel
theorem dX12_goes_202 : decode cX12_goes 202 = .ok (.iastore, 1) := by decide +kernel
theorem dX12_goes_203 : decode cX12_goes 203 = .ok (.iinc 2 1, 3) := by decide +kernel
theorem dX12_goes_206 : decode cX12_goes 206 = .ok (.goto (-89), 3) := by decide +kernel
theorem dX12_goes_209 : decode cX12_goes 209 = .ok (.aload_n 0, 1) := by decide +kernel
theorem dX12_goes_210 : decode cX12_goes 210 = .ok (.getfield 308, 3) := by decide +kernel
theorem dX12_goes_213 : decode cX12_goes 213 = .ok (.istore_n 2, 1) := by decide +kernel
theorem dX12_goes_214 : decode cX12_goes 214 = .ok (.iload_n 2, 1) := by decide +kernel
theorem dX12_goes_215 : decode cX12_goes 215 = .ok (.bipush 6, 2) := by decide +kernel
theorem dX12_goes_217 : decode cX12_goes 217 = .ok (.if_icmp .ge 33, 3) := by decide +kernel
theorem dX12_goes_220 : decode cX12_goes 220 = .ok (.iconst 0, 1) := by decide +kernel
theorem dX12_goes_221 : decode cX12_goes 221 = .ok (.istore_n 3, 1) := by decide +kernel
theorem dX12_goes_222 : decode cX12_goes 222 = .ok (.iload_n 3, 1) := by decide +kernel
theorem dX12_goes_223 : decode cX12_goes 223 = .ok (.iconst 4, 1) := by decide +kernel
theorem dX12_goes_224 : decode cX12_goes 224 = .ok (.if_icmp .ge 20, 3) := by decide +kernel
theorem dX12_goes_227 : decode cX12_goes 227 = .ok (.aload_n 0, 1) := by decide +kernel
theorem dX12_goes_228 : decode cX12_goes 228 = .ok (.getfield 76, 3) := by decide +kernel
theorem dX12_goes_231 : decode cX12_goes 231 = .ok (.iconst 4, 1) := by decide +kernel
theorem dX12_goes_232 : decode cX12_goes 232 = .ok (.iload_n 2, 1) := by decide +kernel
theorem dX12_goes_233 : decode cX12_goes 233 = .ok (.imul, 1) := by decide +kernel
theorem dX12_goes_234 : decode cX12_goes 234 = .ok (.iload_n 3, 1) := by decide +kernel
theorem dX12_goes_235 : decode cX12_goes 235 = .ok (.iadd, 1) := by decide +kernel
theorem dX12_goes_236 : decode cX12_goes 236 = .ok (.iconst 0, 1) := by decide +kernel
theorem dX12_goes_237 : decode cX12_goes 237 = .ok (.iastore, 1) := by decide +kernel
theorem dX12_goes_238 : decode cX12_goes 238 = .ok (.iinc 3 1, 3) := by decide +kernel
theorem dX12_goes_241 : decode cX12_goes 241 = .ok (.goto (-19), 3) := by decide +kernel
theorem dX12_goes_244 : decode cX12_goes 244 = .ok (.iinc 2 1, 3) := by decide +kernel
theorem dX12_goes_247 : decode cX12_goes 247 = .ok (.goto (-33), 3) := by decide +kernel
theorem dX12_goes_250 : decode cX12_goes 250 = .ok (.iconst 0, 1) := by decide +kernel
theorem dX12_goes_251 : decode cX12_goes 251 = .ok (.istore_n 2, 1) := by decide +kernel
theorem dX12_goes_252 : decode cX12_goes 252 = .ok (.iload_n 2, 1) := by decide +kernel
theorem dX12_goes_253 : decode cX12_goes 253 = .ok (.aload_n 0, 1) := by decide +kernel
theorem dX12_goes_254 : decode cX12_goes 254 = .ok (.getfield 305, 3) := by decide +kernel
theorem dX12_goes_257 : decode cX12_goes 257 = .ok (.if_icmp .ge 35, 3) := by decide +kernel
theorem dX12_goes_260 : decode cX12_goes 260 = .ok (.aload_n 0, 1) := by decide +kernel
theorem dX12_goes_261 : decode cX12_goes 261 = .ok (.getfield 67, 3) := by decide +kernel
theorem dX12_goes_264 : decode cX12_goes 264 = .ok (.iload_n 2, 1) := by decide +kernel
theorem dX12_goes_265 : decode cX12_goes 265 = .ok (.aload_n 0, 1) := by decide +kernel
theorem dX12_goes_266 : decode cX12_goes 266 = .ok (.iload_n 2, 1) := by decide +kernel
theorem dX12_goes_267 : decode cX12_goes 267 = .ok (.invokevirtual 373, 3) := by decide +kernel
theorem dX12_goes_270 : decode cX12_goes 270 = .ok (.iastore, 1) := by decide +kernel
theorem dX12_goes_271 : decode cX12_goes 271 = .ok (.aload_n 0, 1) := by decide +kernel
theorem dX12_goes_272 : decode cX12_goes 272 = .ok (.getfield 55, 3) := by decide +kernel
theorem dX12_goes_275 : decode cX12_goes 275 = .ok (.bipush 18, 2) := by decide +kernel
theorem dX12_goes_277 : decode cX12_goes 277 = .ok (.iload_n 2, 1) := by decide +kernel
theorem dX12_goes_278 : decode cX12_goes 278 = .ok (.iadd, 1) := by decide +kernel
theorem dX12_goes_279 : decode cX12_goes 279 = .ok (.aload_n 0, 1) := by decide +kernel
theorem dX12_goes_280 : decode cX12_goes 280 = .ok (.getfield 67, 3) := by decide +kernel
theorem dX12_goes_283 : decode cX12_goes 283 = .ok (.iload_n 2, 1) := by decide +kernel
theorem dX12_goes_284 : decode cX12_goes 284 = .ok (.iaload, 1) := by decide +kernel
theorem dX12_goes_285 : decode cX12_goes 285 = .ok (.iastore, 1) := by decide +kernel
theorem dX12_goes_286 : decode cX12_goes 286 = .ok (.iinc 2 1, 3) := by decide +kernel
theorem dX12_goes_289 : decode cX12_goes 289 = .ok (.goto (-37), 3) := by decide +kernel
theorem dX12_goes_292 : decode cX12_goes 292 = .ok (.aload_n 0, 1) := by decide +kernel
theorem dX12_goes_293 : decode cX12_goes 293 = .ok (.getfield 67, 3) := by decide +kernel
theorem dX12_goes_296 : decode cX12_goes 296 = .ok (.aload_n 0, 1) := by decide +kernel
theorem dX12_goes_297 : decode cX12_goes 297 = .ok (.getfield 305, 3) := by decide +kernel
theorem dX12_goes_300 : decode cX12_goes 300 = .ok (.aload_n 0, 1) := by decide +kernel
theorem dX12_goes_301 : decode cX12_goes 301 = .ok (.getfield 376, 3) := by decide +kernel
theorem dX12_goes_304 : decode cX12_goes 304 = .ok (.iastore, 1) := by decide +kernel
theorem dX12_goes_305 : decode cX12_goes 305 = .ok (.aload_n 0, 1) := by decide +kernel
theorem dX12_goes_306 : decode cX12_goes 306 = .ok (.invokevirtual 379, 3) := by decide +kernel
theorem dX12_goes_309 : decode cX12_goes 309 = .ok (.aload_n 0, 1) := by decide +kernel
theorem dX12_goes_310 : decode cX12_goes 310 = .ok (.invokevirtual 382, 3) := by decide +kernel
theorem dX12_goes_313 : decode cX12_goes 313 = .ok (.iconst 0, 1) := by decide +kernel
theorem dX12_goes_314 : decode cX12_goes 314 = .ok (.istore_n 2, 1) := by decide +kernel
theorem dX12_goes_315 : decode cX12_goes 315 = .ok (.iload_n 2, 1) := by decide +kernel
theorem dX12_goes_316 : decode cX12_goes 316 = .ok (.aload_n 0, 1) := by decide +kernel
theorem dX12_goes_317 : decode cX12_goes 317 = .ok (.getfield 305, 3) := by decide +kernel
theorem dX12_goes_320 : decode cX12_goes 320 = .ok (.if_icmp .ge 52, 3) := by decide +kernel
theorem dX12_goes_323 : decode cX12_goes 323 = .ok (.aload_n 0, 1) := by decide +kernel
theorem dX12_goes_324 : decode cX12_goes 324 = .ok (.getfield 55, 3) := by decide +kernel
theorem dX12_goes_327 : decode cX12_goes 327 = .ok (.bipush 6, 2) := by decide +kernel
theorem dX12_goes_329 : decode cX12_goes 329 = .ok (.iload_n 2, 1) := by decide +kernel
theorem dX12_goes_330 : decode cX12_goes 330 = .ok (.iadd, 1) := by decide +kernel
theorem dX12_goes_331 : decode cX12_goes 331 = .ok (.aload_n 0, 1) := by decide +kernel
theorem dX12_goes_332 : decode cX12_goes 332 = .ok (.getfield 55, 3) := by decide +kernel
theorem dX12_goes_335 : decode cX12_goes 335 = .ok (.iload_n 2, 1) := by decide +kernel
theorem dX12_goes_336 : decode cX12_goes 336 = .ok (.iaload, 1) := by decide +kernel
theorem dX12_goes_337 : decode cX12_goes 337 = .ok (.iastore, 1) := by decide +kernel
theorem dX12_goes_338 : decode cX12_goes 338 = .ok (.aload_n 0, 1) := by decide +kernel
theorem dX12_goes_339 : decode cX12_goes 339 = .ok (.getfield 55, 3) := by decide +kernel
theorem dX12_goes_342 : decode cX12_goes 342 = .ok (.iload_n 2, 1) := by decide +kernel
theorem dX12_goes_343 : decode cX12_goes 343 = .ok (.dup2, 1) := by decide +kernel
theorem dX12_goes_344 : decode cX12_goes 344 = .ok (.iaload, 1) := by decide +kernel
theorem dX12_goes_345 : decode cX12_goes 345 = .ok (.aload_n 0, 1) := by decide +kernel
theorem dX12_goes_346 : decode cX12_goes 346 = .ok (.getfield 55, 3) := by decide +kernel
theorem dX12_goes_349 : decode cX12_goes 349 = .ok (.iload_n 2, 1) := by decide +kernel
theorem dX12_goes_350 : decode cX12_goes 350 = .ok (.iaload, 1) := by decide +kernel
theorem dX12_goes_351 : decode cX12_goes 351 = .ok (.aload_n 0, 1) := by decide +kernel
theorem dX12_goes_352 : decode cX12_goes 352 = .ok (.getfield 37, 3) := by decide +kernel
theorem dX12_goes_355 : decode cX12_goes 355 = .ok (.iconst 3, 1) := by decide +kernel
theorem dX12_goes_356 : decode cX12_goes 356 = .ok (.iload_n 2, 1) := by decide +kernel
theorem dX12_goes_357 : decode cX12_goes 357 = .ok (.imul, 1) := by decide +kernel
theorem dX12_goes_358 : decode cX12_goes 358 = .ok (.iconst 2, 1) := by decide +kernel
theorem dX12_goes_359 : decode cX12_goes 359 = .ok (.iadd, 1) := by decide +kernel
theorem dX12_goes_360 : decode cX12_goes 360 = .ok (.iaload, 1) := by decide +kernel
theorem dX12_goes_361 : decode cX12_goes 361 = .ok (.invokestatic 345, 3) := by decide +kernel
theorem dX12_goes_364 : decode cX12_goes 364 = .ok (.isub, 1) := by decide +kernel
theorem dX12_goes_365 : decode cX12_goes 365 = .ok (.iastore, 1) := by decide +kernel
theorem dX12_goes_366 : decode cX12_goes 366 = .ok (.iinc 2 1, 3) := by decide +kernel
theorem dX12_goes_369 : decode cX12_goes 369 = .ok (.goto (-54), 3) := by decide +kernel
theorem dX12_goes_372 : decode cX12_goes 372 = .ok (.aload_n 0, 1) := by decide +kernel
theorem dX12_goes_373 : decode cX12_goes 373 = .ok (.getfield 55, 3) := by decide +kernel
theorem dX12_goes_376 : decode cX12_goes 376 = .ok (.bipush 56, 2) := by decide +kernel
theorem dX12_goes_378 : decode cX12_goes 378 = .ok (.dup2, 1) := by decide +kernel
theorem dX12_goes_379 : decode cX12_goes 379 = .ok (.iaload, 1) := by decide +kernel
theorem dX12_goes_380 : decode cX12_goes 380 = .ok (.iconst 1, 1) := by decide +kernel
theorem dX12_goes_381 : decode cX12_goes 381 = .ok (.iadd, 1) := by decide +kernel
theorem dX12_goes_382 : decode cX12_goes 382 = .ok (.iastore, 1) := by decide +kernel
theorem dX12_goes_383 : decode cX12_goes 383 = .ok (.return_, 1) := by decide +kernel
theorem dX12_plainly_0 : decode cX12_plainly 0 = .ok (.aload_n 0, 1) := by decide +kernel
theorem dX12_plainly_1 : decode cX12_plainly 1 = .ok (.aload_n 0, 1) := by decide +kernel
theorem dX12_plainly_2 : decode cX12_plainly 2 = .ok (.getfield 311, 3) := by decide +kernel
theorem dX12_plainly_5 : decode cX12_plainly 5 = .ok (.putfield 342, 3) := by decide +kernel
theorem dX12_plainly_8 : decode cX12_plainly 8 = .ok (.aload_n 0, 1) := by decide +kernel
theorem dX12_plainly_9 : decode cX12_plainly 9 = .ok (.aload_n 0, 1) := by decide +kernel
theorem dX12_plainly_10 : decode cX12_plainly 10 = .ok (.getfield 43, 3) := by decide +kernel
theorem dX12_plainly_13 : decode cX12_plainly 13 = .ok (.iconst 0, 1) := by decide +kernel
theorem dX12_plainly_14 : decode cX12_plainly 14 = .ok (.iaload, 1) := by decide +kernel
theorem dX12_plainly_15 : decode cX12_plainly 15 = .ok (.putfield 370, 3) := by decide +kernel
theorem dX12_plainly_18 : decode cX12_plainly 18 = .ok (.aload_n 0, 1) := by decide +kernel
theorem dX12_plainly_19 : decode cX12_plainly 19 = .ok (.iconst 0, 1) := by decide +kernel
theorem dX12_plainly_20 : decode cX12_plainly 20 = .ok (.putfield 349, 3) := by decide +kernel
theorem dX12_plainly_23 : decode cX12_plainly 23 = .ok (.iconst 0, 1) := by decide +kernel
theorem dX12_plainly_24 : decode cX12_plainly 24 = .ok (.istore_n 1, 1) := by decide +kernel
theorem dX12_plainly_25 : decode cX12_plainly 25 = .ok (.iload_n 1, 1) := by decide +kernel
theorem dX12_plainly_26 : decode cX12_plainly 26 = .ok (.iconst 5, 1) := by decide +kernel
theorem dX12_plainly_27 : decode cX12_plainly 27 = .ok (.if_icmp .ge 16, 3) := by decide +kernel
theorem dX12_plainly_30 : decode cX12_plainly 30 = .ok (.aload_n 0, 1) := by decide +kernel
theorem dX12_plainly_31 : decode cX12_plainly 31 = .ok (.getfield 64, 3) := by decide +kernel
theorem dX12_plainly_34 : decode cX12_plainly 34 = .ok (.iload_n 1, 1) := by decide +kernel
theorem dX12_plainly_35 : decode cX12_plainly 35 = .ok (.iconst (-1), 1) := by decide +kernel
theorem dX12_plainly_36 : decode cX12_plainly 36 = .ok (.iastore, 1) := by decide +kernel
theorem dX12_plainly_37 : decode cX12_plainly 37 = .ok (.iinc 1 1, 3) := by decide +kernel
theorem dX12_plainly_40 : decode cX12_plainly 40 = .ok (.goto (-15), 3) := by decide +kernel
theorem dX12_plainly_43 : decode cX12_plainly 43 = .ok (.return_, 1) := by decide +kernel
theorem dX12_areDays_0 : decode cX12_areDays 0 = .ok (.iload_n 0, 1) := by decide +kernel
theorem dX12_areDays_1 : decode cX12_areDays 1 = .ok (.i2l, 1) := by decide +kernel
theorem dX12_areDays_2 : decode cX12_areDays 2 = .ok (.lconst 1, 1) := by decide +kernel
theorem dX12_areDays_3 : decode cX12_areDays 3 = .ok (.ldc2_w 385, 3) := by decide +kernel
theorem dX12_areDays_6 : decode cX12_areDays 6 = .ok (.invokestatic 253, 3) := by decide +kernel
theorem dX12_areDays_9 : decode cX12_areDays 9 = .ok (.ireturn, 1) := by decide +kernel
theorem dX12_isReady_0 : decode cX12_isReady 0 = .ok (.aload_n 0, 1) := by decide +kernel
theorem dX12_isReady_1 : decode cX12_isReady 1 = .ok (.getfield 305, 3) := by decide +kernel
theorem dX12_isReady_4 : decode cX12_isReady 4 = .ok (.ifCond .le 14, 3) := by decide +kernel
theorem dX12_isReady_7 : decode cX12_isReady 7 = .ok (.iload_n 1, 1) := by decide +kernel
theorem dX12_isReady_8 : decode cX12_isReady 8 = .ok (.invokestatic 387, 3) := by decide +kernel
theorem dX12_isReady_11 : decode cX12_isReady 11 = .ok (.ifCond .eq 7, 3) := by decide +kernel
theorem dX12_isReady_14 : decode cX12_isReady 14 = .ok (.iconst 1, 1) := by decide +kernel
theorem dX12_isReady_15 : decode cX12_isReady 15 = .ok (.goto 4, 3) := by decide +kernel
theorem dX12_isReady_18 : decode cX12_isReady 18 = .ok (.iconst 0, 1) := by decide +kernel
theorem dX12_isReady_19 : decode cX12_isReady 19 = .ok (.ireturn, 1) := by decide +kernel
theorem dX12_days_0 : decode cX12_days 0 = .ok (.aload_n 0, 1) := by decide +kernel
theorem dX12_days_1 : decode cX12_days 1 = .ok (.iconst 0, 1) := by decide +kernel
theorem dX12_days_2 : decode cX12_days 2 = .ok (.putfield 131, 3) := by decide +kernel
theorem dX12_days_5 : decode cX12_days 5 = .ok (.aload_n 0, 1) := by decide +kernel
theorem dX12_days_6 : decode cX12_days 6 = .ok (.iload_n 1, 1) := by decide +kernel
theorem dX12_days_7 : decode cX12_days 7 = .ok (.invokevirtual 390, 3) := by decide +kernel
theorem dX12_days_10 : decode cX12_days 10 = .ok (.ifCond .ne 5, 3) := by decide +kernel
theorem dX12_days_13 : decode cX12_days 13 = .ok (.iconst (-1), 1) := by decide +kernel
theorem dX12_days_14 : decode cX12_days 14 = .ok (.ireturn, 1) := by decide +kernel
theorem dX12_days_15 : decode cX12_days 15 = .ok (.aload_n 0, 1) := by decide +kernel
theorem dX12_days_16 : decode cX12_days 16 = .ok (.invokevirtual 393, 3) := by decide +kernel
theorem dX12_days_19 : decode cX12_days 19 = .ok (.iconst 0, 1) := by decide +kernel
theorem dX12_days_20 : decode cX12_days 20 = .ok (.istore_n 2, 1) := by decide +kernel
theorem dX12_days_21 : decode cX12_days 21 = .ok (.iload_n 2, 1) := by decide +kernel
theorem dX12_days_22 : decode cX12_days 22 = .ok (.iload_n 1, 1) := by decide +kernel
theorem dX12_days_23 : decode cX12_days 23 = .ok (.if_icmp .ge 65, 3) := by decide +kernel
theorem dX12_days_26 : decode cX12_days 26 = .ok (.iconst 0, 1) := by decide +kernel
theorem dX12_days_27 : decode cX12_days 27 = .ok (.istore_n 3, 1) := by decide +kernel
theorem dX12_days_28 : decode cX12_days 28 = .ok (.aload_n 0, 1) := by decide +kernel
theorem dX12_days_29 : decode cX12_days 29 = .ok (.getfield 335, 3) := by decide +kernel
theorem dX12_days_32 : decode cX12_days 32 = .ok (.ifCond .le 45, 3) := by decide +kernel
theorem dX12_days_35 : decode cX12_days 35 = .ok (.aload_n 0, 1) := by decide +kernel
theorem dX12_days_36 : decode cX12_days 36 = .ok (.aload_n 0, 1) := by decide +kernel
theorem dX12_days_37 : decode cX12_days 37 = .ok (.getfield 338, 3) := by decide +kernel
theorem dX12_days_40 : decode cX12_days 40 = .ok (.ldc2_w 396, 3) := by decide +kernel
theorem dX12_days_43 : decode cX12_days 43 = .ok (.lmul, 1) := by decide +kernel
theorem dX12_days_44 : decode cX12_days 44 = .ok (.ldc2_w 398, 3) := by decide +kernel
theorem dX12_days_47 : decode cX12_days 47 = .ok (.ladd, 1) := by decide +kernel
theorem dX12_days_48 : decode cX12_days 48 = .ok (.putfield 338, 3) := by decide +kernel
theorem dX12_days_51 : decode cX12_days 51 = .ok (.aload_n 0, 1) := by decide +kernel
theorem dX12_days_52 : decode cX12_days 52 = .ok (.getfield 338, 3) := by decide +kernel
theorem dX12_days_55 : decode cX12_days 55 = .ok (.bipush 33, 2) := by decide +kernel
theorem dX12_days_57 : decode cX12_days 57 = .ok (.lushr, 1) := by decide +kernel
theorem dX12_days_58 : decode cX12_days 58 = .ok (.ldc2_w 333, 3) := by decide +kernel
theorem dX12_days_61 : decode cX12_days 61 = .ok (.lrem, 1) := by decide +kernel
theorem dX12_days_62 : decode cX12_days 62 = .ok (.aload_n 0, 1) := by decide +kernel
theorem dX12_days_63 : decode cX12_days 63 = .ok (.getfield 335, 3) := by decide +kernel
theorem dX12_days_66 : decode cX12_days 66 = .ok (.i2l, 1) := by decide +kernel
theorem dX12_days_67 : decode cX12_days 67 = .ok (.lcmp, 1) := by decide +kernel
theorem dX12_days_68 : decode cX12_days 68 = .ok (.ifCond .ge 7, 3) := by decide +kernel
theorem dX12_days_71 : decode cX12_days 71 = .ok (.iconst 1, 1) := by decide +kernel
theorem dX12_days_72 : decode cX12_days 72 = .ok (.goto 4, 3) := by decide +kernel
theorem dX12_days_75 : decode cX12_days 75 = .ok (.iconst 0, 1) := by decide +kernel
theorem dX12_days_76 : decode cX12_days 76 = .ok (.istore_n 3, 1) := by decide +kernel
theorem dX12_days_77 : decode cX12_days 77 = .ok (.aload_n 0, 1) := by decide +kernel
theorem dX12_days_78 : decode cX12_days 78 = .ok (.iload_n 3, 1) := by decide +kernel
theorem dX12_days_79 : decode cX12_days 79 = .ok (.invokevirtual 400, 3) := by decide +kernel
theorem dX12_days_82 : decode cX12_days 82 = .ok (.iinc 2 1, 3) := by decide +kernel
theorem dX12_days_85 : decode cX12_days 85 = .ok (.goto (-64), 3) := by decide +kernel
theorem dX12_days_88 : decode cX12_days 88 = .ok (.aload_n 0, 1) := by decide +kernel
theorem dX12_days_89 : decode cX12_days 89 = .ok (.getfield 55, 3) := by decide +kernel
theorem dX12_days_92 : decode cX12_days 92 = .ok (.bipush 54, 2) := by decide +kernel
theorem dX12_days_94 : decode cX12_days 94 = .ok (.iaload, 1) := by decide +kernel
theorem dX12_days_95 : decode cX12_days 95 = .ok (.ireturn, 1) := by decide +kernel
theorem dX12_keep_0 : decode cX12_keep 0 = .ok (.iconst 0, 1) := by decide +kernel
theorem dX12_keep_1 : decode cX12_keep 1 = .ok (.istore_n 1, 1) := by decide +kernel
theorem dX12_keep_2 : decode cX12_keep 2 = .ok (.iload_n 1, 1) := by decide +kernel
theorem dX12_keep_3 : decode cX12_keep 3 = .ok (.bipush 57, 2) := by decide +kernel
theorem dX12_keep_5 : decode cX12_keep 5 = .ok (.if_icmp .ge 21, 3) := by decide +kernel
theorem dX12_keep_8 : decode cX12_keep 8 = .ok (.aload_n 0, 1) := by decide +kernel
theorem dX12_keep_9 : decode cX12_keep 9 = .ok (.getfield 58, 3) := by decide +kernel
theorem dX12_keep_12 : decode cX12_keep 12 = .ok (.iload_n 1, 1) := by decide +kernel
theorem dX12_keep_13 : decode cX12_keep 13 = .ok (.aload_n 0, 1) := by decide +kernel
theorem dX12_keep_14 : decode cX12_keep 14 = .ok (.getfield 55, 3) := by decide +kernel
theorem dX12_keep_17 : decode cX12_keep 17 = .ok (.iload_n 1, 1) := by decide +kernel
theorem dX12_keep_18 : decode cX12_keep 18 = .ok (.iaload, 1) := by decide +kernel
theorem dX12_keep_19 : decode cX12_keep 19 = .ok (.iastore, 1) := by decide +kernel
theorem dX12_keep_20 : decode cX12_keep 20 = .ok (.iinc 1 1, 3) := by decide +kernel
theorem dX12_keep_23 : decode cX12_keep 23 = .ok (.goto (-21), 3) := by decide +kernel
theorem dX12_keep_26 : decode cX12_keep 26 = .ok (.aload_n 0, 1) := by decide +kernel
theorem dX12_keep_27 : decode cX12_keep 27 = .ok (.invokevirtual 393, 3) := by decide +kernel
theorem dX12_keep_30 : decode cX12_keep 30 = .ok (.return_, 1) := by decide +kernel
theorem dX12_putBack_0 : decode cX12_putBack 0 = .ok (.iconst 0, 1) := by decide +kernel
theorem dX12_putBack_1 : decode cX12_putBack 1 = .ok (.istore_n 1, 1) := by decide +kernel
theorem dX12_putBack_2 : decode cX12_putBack 2 = .ok (.iload_n 1, 1) := by decide +kernel
theorem dX12_putBack_3 : decode cX12_putBack 3 = .ok (.bipush 57, 2) := by decide +kernel
theorem dX12_putBack_5 : decode cX12_putBack 5 = .ok (.if_icmp .ge 21, 3) := by decide +kernel
theorem dX12_putBack_8 : decode cX12_putBack 8 = .ok (.aload_n 0, 1) := by decide +kernel
theorem dX12_putBack_9 : decode cX12_putBack 9 = .ok (.getfield 55, 3) := by decide +kernel
theorem dX12_putBack_12 : decode cX12_putBack 12 = .ok (.iload_n 1, 1) := by decide +kernel
theorem dX12_putBack_13 : decode cX12_putBack 13 = .ok (.aload_n 0, 1) := by decide +kernel
theorem dX12_putBack_14 : decode cX12_putBack 14 = .ok (.getfield 58, 3) := by decide +kernel
theorem dX12_putBack_17 : decode cX12_putBack 17 = .ok (.iload_n 1, 1) := by decide +kernel
theorem dX12_putBack_18 : decode cX12_putBack 18 = .ok (.iaload, 1) := by decide +kernel
theorem dX12_putBack_19 : decode cX12_putBack 19 = .ok (.iastore, 1) := by decide +kernel
theorem dX12_putBack_20 : decode cX12_putBack 20 = .ok (.iinc 1 1, 3) := by decide +kernel
theorem dX12_putBack_23 : decode cX12_putBack 23 = .ok (.goto (-21), 3) := by decide +kernel
theorem dX12_putBack_26 : decode cX12_putBack 26 = .ok (.return_, 1) := by decide +kernel
theorem dX12_tries_0 : decode cX12_tries 0 = .ok (.aload_n 0, 1) := by decide +kernel
theorem dX12_tries_1 : decode cX12_tries 1 = .ok (.getfield 88, 3) := by decide +kernel
theorem dX12_tries_4 : decode cX12_tries 4 = .ok (.iconst 0, 1) := by decide +kernel
theorem dX12_tries_5 : decode cX12_tries 5 = .ok (.aload_n 0, 1) := by decide +kernel
theorem dX12_tries_6 : decode cX12_tries 6 = .ok (.getfield 55, 3) := by decide +kernel
theorem dX12_tries_9 : decode cX12_tries 9 = .ok (.bipush 54, 2) := by decide +kernel
theorem dX12_tries_11 : decode cX12_tries 11 = .ok (.iaload, 1) := by decide +kernel
theorem dX12_tries_12 : decode cX12_tries 12 = .ok (.iastore, 1) := by decide +kernel
theorem dX12_tries_13 : decode cX12_tries 13 = .ok (.aload_n 0, 1) := by decide +kernel
theorem dX12_tries_14 : decode cX12_tries 14 = .ok (.getfield 91, 3) := by decide +kernel
theorem dX12_tries_17 : decode cX12_tries 17 = .ok (.iconst 0, 1) := by decide +kernel
theorem dX12_tries_18 : decode cX12_tries 18 = .ok (.iconst 0, 1) := by decide +kernel
theorem dX12_tries_19 : decode cX12_tries 19 = .ok (.bastore, 1) := by decide +kernel
theorem dX12_tries_20 : decode cX12_tries 20 = .ok (.iconst 1, 1) := by decide +kernel
theorem dX12_tries_21 : decode cX12_tries 21 = .ok (.istore_n 2, 1) := by decide +kernel
theorem dX12_tries_22 : decode cX12_tries 22 = .ok (.iload_n 2, 1) := by decide +kernel
theorem dX12_tries_23 : decode cX12_tries 23 = .ok (.iload_n 1, 1) := by decide +kernel
theorem dX12_tries_24 : decode cX12_tries 24 = .ok (.if_icmp .gt 37, 3) := by decide +kernel
theorem dX12_tries_27 : decode cX12_tries 27 = .ok (.aload_n 0, 1) := by decide +kernel
theorem dX12_tries_28 : decode cX12_tries 28 = .ok (.iconst 0, 1) := by decide +kernel
theorem dX12_tries_29 : decode cX12_tries 29 = .ok (.invokevirtual 400, 3) := by decide +kernel
theorem dX12_tries_32 : decode cX12_tries 32 = .ok (.aload_n 0, 1) := by decide +kernel
theorem dX12_tries_33 : decode cX12_tries 33 = .ok (.getfield 88, 3) := by decide +kernel
theorem dX12_tries_36 : decode cX12_tries 36 = .ok (.iload_n 2, 1) := by decide +kernel
theorem dX12_tries_37 : decode cX12_tries 37 = .ok (.aload_n 0, 1) := by decide +kernel
theorem dX12_tries_38 : decode cX12_tries 38 = .ok (.getfield 55, 3) := by decide +kernel
theorem dX12_tries_41 : decode cX12_tries 41 = .ok (.bipush 54, 2) := by decide +kernel
theorem dX12_tries_43 : decode cX12_tries 43 = .ok (.iaload, 1) := by decide +kernel
theorem dX12_tries_44 : decode cX12_tries 44 = .ok (.iastore, 1) := by decide +kernel
theorem dX12_tries_45 : decode cX12_tries 45 = .ok (.aload_n 0, 1) := by decide +kernel
theorem dX12_tries_46 : decode cX12_tries 46 = .ok (.getfield 91, 3) := by decide +kernel
theorem dX12_tries_49 : decode cX12_tries 49 = .ok (.iload_n 2, 1) := by decide +kernel
theorem dX12_tries_50 : decode cX12_tries 50 = .ok (.aload_n 0, 1) := by decide +kernel
theorem dX12_tries_51 : decode cX12_tries 51 = .ok (.getfield 367, 3) := by decide +kernel
theorem dX12_tries_54 : decode cX12_tries 54 = .ok (.bastore, 1) := by decide +kernel
theorem dX12_tries_55 : decode cX12_tries 55 = .ok (.iinc 2 1, 3) := by decide +kernel
theorem dX12_tries_58 : decode cX12_tries 58 = .ok (.goto (-36), 3) := by decide +kernel
theorem dX12_tries_61 : decode cX12_tries 61 = .ok (.return_, 1) := by decide +kernel
theorem dX12_jumpMany_0 : decode cX12_jumpMany 0 = .ok (.iconst 0, 1) := by decide +kernel
theorem dX12_jumpMany_1 : decode cX12_jumpMany 1 = .ok (.istore_n 2, 1) := by decide +kernel
theorem dX12_jumpMany_2 : decode cX12_jumpMany 2 = .ok (.iconst 1, 1) := by decide +kernel
theorem dX12_jumpMany_3 : decode cX12_jumpMany 3 = .ok (.istore_n 3, 1) := by decide +kernel
theorem dX12_jumpMany_4 : decode cX12_jumpMany 4 = .ok (.iload_n 3, 1) := by decide +kernel
theorem dX12_jumpMany_5 : decode cX12_jumpMany 5 = .ok (.iload_n 1, 1) := by decide +kernel
theorem dX12_jumpMany_6 : decode cX12_jumpMany 6 = .ok (.if_icmp .gt 26, 3) := by decide +kernel
theorem dX12_jumpMany_9 : decode cX12_jumpMany 9 = .ok (.iload_n 2, 1) := by decide +kernel
theorem dX12_jumpMany_10 : decode cX12_jumpMany 10 = .ok (.aload_n 0, 1) := by decide +kernel
theorem dX12_jumpMany_11 : decode cX12_jumpMany 11 = .ok (.getfield 91, 3) := by decide +kernel
theorem dX12_jumpMany_14 : decode cX12_jumpMany 14 = .ok (.iload_n 3, 1) := by decide +kernel
theorem dX12_jumpMany_15 : decode cX12_jumpMany 15 = .ok (.baload, 1) := by decide +kernel
theorem dX12_jumpMany_16 : decode cX12_jumpMany 16 = .ok (.ifCond .eq 7, 3) := by decide +kernel
theorem dX12_jumpMany_19 : decode cX12_jumpMany 19 = .ok (.iconst 1, 1) := by decide +kernel
theorem dX12_jumpMany_20 : decode cX12_jumpMany 20 = .ok (.goto 4, 3) := by decide +kernel
theorem dX12_jumpMany_23 : decode cX12_jumpMany 23 = .ok (.iconst 0, 1) := by decide +kernel
theorem dX12_jumpMany_24 : decode cX12_jumpMany 24 = .ok (.iadd, 1) := by decide +kernel
theorem dX12_jumpMany_25 : decode cX12_jumpMany 25 = .ok (.istore_n 2, 1) := by decide +kernel
theorem dX12_jumpMany_26 : decode cX12_jumpMany 26 = .ok (.iinc 3 1, 3) := by decide +kernel
theorem dX12_jumpMany_29 : decode cX12_jumpMany 29 = .ok (.goto (-25), 3) := by decide +kernel
theorem dX12_jumpMany_32 : decode cX12_jumpMany 32 = .ok (.iload_n 2, 1) := by decide +kernel
theorem dX12_jumpMany_33 : decode cX12_jumpMany 33 = .ok (.ireturn, 1) := by decide +kernel
theorem dX12_ahead_0 : decode cX12_ahead 0 = .ok (.aload_n 0, 1) := by decide +kernel
theorem dX12_ahead_1 : decode cX12_ahead 1 = .ok (.iconst 0, 1) := by decide +kernel
theorem dX12_ahead_2 : decode cX12_ahead 2 = .ok (.putfield 131, 3) := by decide +kernel
theorem dX12_ahead_5 : decode cX12_ahead 5 = .ok (.aload_n 0, 1) := by decide +kernel
theorem dX12_ahead_6 : decode cX12_ahead 6 = .ok (.iload_n 1, 1) := by decide +kernel
theorem dX12_ahead_7 : decode cX12_ahead 7 = .ok (.invokevirtual 390, 3) := by decide +kernel
theorem dX12_ahead_10 : decode cX12_ahead 10 = .ok (.ifCond .ne 5, 3) := by decide +kernel
theorem dX12_ahead_13 : decode cX12_ahead 13 = .ok (.iconst (-1), 1) := by decide +kernel
theorem dX12_ahead_14 : decode cX12_ahead 14 = .ok (.ireturn, 1) := by decide +kernel
theorem dX12_ahead_15 : decode cX12_ahead 15 = .ok (.aload_n 0, 1) := by decide +kernel
theorem dX12_ahead_16 : decode cX12_ahead 16 = .ok (.invokevirtual 404, 3) := by decide +kernel
theorem dX12_ahead_19 : decode cX12_ahead 19 = .ok (.aload_n 0, 1) := by decide +kernel
theorem dX12_ahead_20 : decode cX12_ahead 20 = .ok (.iload_n 1, 1) := by decide +kernel
theorem dX12_ahead_21 : decode cX12_ahead 21 = .ok (.invokevirtual 407, 3) := by decide +kernel
theorem dX12_ahead_24 : decode cX12_ahead 24 = .ok (.aload_n 0, 1) := by decide +kernel
theorem dX12_ahead_25 : decode cX12_ahead 25 = .ok (.invokevirtual 410, 3) := by decide +kernel
theorem dX12_ahead_28 : decode cX12_ahead 28 = .ok (.aload_n 0, 1) := by decide +kernel
theorem dX12_ahead_29 : decode cX12_ahead 29 = .ok (.getfield 88, 3) := by decide +kernel
theorem dX12_ahead_32 : decode cX12_ahead 32 = .ok (.iload_n 1, 1) := by decide +kernel
theorem dX12_ahead_33 : decode cX12_ahead 33 = .ok (.iaload, 1) := by decide +kernel
theorem dX12_ahead_34 : decode cX12_ahead 34 = .ok (.ireturn, 1) := by decide +kernel
theorem dX12_falls_0 : decode cX12_falls 0 = .ok (.aload_n 0, 1) := by decide +kernel
theorem dX12_falls_1 : decode cX12_falls 1 = .ok (.iconst 0, 1) := by decide +kernel
theorem dX12_falls_2 : decode cX12_falls 2 = .ok (.putfield 131, 3) := by decide +kernel
theorem dX12_falls_5 : decode cX12_falls 5 = .ok (.aload_n 0, 1) := by decide +kernel
theorem dX12_falls_6 : decode cX12_falls 6 = .ok (.iload_n 1, 1) := by decide +kernel
theorem dX12_falls_7 : decode cX12_falls 7 = .ok (.invokevirtual 390, 3) := by decide +kernel
theorem dX12_falls_10 : decode cX12_falls 10 = .ok (.ifCond .eq 13, 3) := by decide +kernel
theorem dX12_falls_13 : decode cX12_falls 13 = .ok (.iload_n 2, 1) := by decide +kernel
theorem dX12_falls_14 : decode cX12_falls 14 = .ok (.i2l, 1) := by decide +kernel
theorem dX12_falls_15 : decode cX12_falls 15 = .ok (.lconst 0, 1) := by decide +kernel
theorem dX12_falls_16 : decode cX12_falls 16 = .ok (.lconst 1, 1) := by decide +kernel
theorem dX12_falls_17 : decode cX12_falls 17 = .ok (.invokestatic 253, 3) := by decide +kernel
theorem dX12_falls_20 : decode cX12_falls 20 = .ok (.ifCond .ne 5, 3) := by decide +kernel
theorem dX12_falls_23 : decode cX12_falls 23 = .ok (.iconst (-1), 1) := by decide +kernel
theorem dX12_falls_24 : decode cX12_falls 24 = .ok (.ireturn, 1) := by decide +kernel
theorem dX12_falls_25 : decode cX12_falls 25 = .ok (.aload_n 0, 1) := by decide +kernel
theorem dX12_falls_26 : decode cX12_falls 26 = .ok (.invokevirtual 404, 3) := by decide +kernel
theorem dX12_falls_29 : decode cX12_falls 29 = .ok (.aload_n 0, 1) := by decide +kernel
theorem dX12_falls_30 : decode cX12_falls 30 = .ok (.iload_n 1, 1) := by decide +kernel
theorem dX12_falls_31 : decode cX12_falls 31 = .ok (.invokevirtual 407, 3) := by decide +kernel
theorem dX12_falls_34 : decode cX12_falls 34 = .ok (.aload_n 0, 1) := by decide +kernel
theorem dX12_falls_35 : decode cX12_falls 35 = .ok (.invokevirtual 410, 3) := by decide +kernel
theorem dX12_falls_38 : decode cX12_falls 38 = .ok (.iload_n 2, 1) := by decide +kernel
theorem dX12_falls_39 : decode cX12_falls 39 = .ok (.ifCond .ne 9, 3) := by decide +kernel
theorem dX12_falls_42 : decode cX12_falls 42 = .ok (.aload_n 0, 1) := by decide +kernel
theorem dX12_falls_43 : decode cX12_falls 43 = .ok (.iload_n 1, 1) := by decide +kernel
theorem dX12_falls_44 : decode cX12_falls 44 = .ok (.invokevirtual 413, 3) := by decide +kernel
theorem dX12_falls_47 : decode cX12_falls 47 = .ok (.ireturn, 1) := by decide +kernel
theorem dX12_falls_48 : decode cX12_falls 48 = .ok (.iconst 0, 1) := by decide +kernel
theorem dX12_falls_49 : decode cX12_falls 49 = .ok (.istore_n 3, 1) := by decide +kernel
theorem dX12_falls_50 : decode cX12_falls 50 = .ok (.iconst 0, 1) := by decide +kernel
theorem dX12_falls_51 : decode cX12_falls 51 = .ok (.istore 4, 2) := by decide +kernel
theorem dX12_falls_53 : decode cX12_falls 53 = .ok (.iload 4, 2) := by decide +kernel
theorem dX12_falls_55 : decode cX12_falls 55 = .ok (.iload_n 1, 1) := by decide +kernel
theorem dX12_falls_56 : decode cX12_falls 56 = .ok (.if_icmp .ge 57, 3) := by decide +kernel
theorem dX12_falls_59 : decode cX12_falls 59 = .ok (.iload 4, 2) := by decide +kernel
theorem dX12_falls_61 : decode cX12_falls 61 = .ok (.iconst 1, 1) := by decide +kernel
theorem dX12_falls_62 : decode cX12_falls 62 = .ok (.iadd, 1) := by decide +kernel
theorem dX12_falls_63 : decode cX12_falls 63 = .ok (.istore 5, 2) := by decide +kernel
theorem dX12_falls_65 : decode cX12_falls 65 = .ok (.iload 5, 2) := by decide +kernel
theorem dX12_falls_67 : decode cX12_falls 67 = .ok (.iload_n 1, 1) := by decide +kernel
theorem dX12_falls_68 : decode cX12_falls 68 = .ok (.if_icmp .gt 39, 3) := by decide +kernel
theorem dX12_falls_71 : decode cX12_falls 71 = .ok (.aload_n 0, 1) := by decide +kernel
theorem dX12_falls_72 : decode cX12_falls 72 = .ok (.getfield 91, 3) := by decide +kernel
theorem dX12_falls_75 : decode cX12_falls 75 = .ok (.iload 5, 2) := by decide +kernel
theorem dX12_falls_77 : decode cX12_falls 77 = .ok (.baload, 1) := by decide +kernel
theorem dX12_falls_78 : decode cX12_falls 78 = .ok (.ifCond .ne 29, 3) := by decide +kernel
theorem dX12_falls_81 : decode cX12_falls 81 = .ok (.iload_n 3, 1) := by decide +kernel
theorem dX12_falls_82 : decode cX12_falls 82 = .ok (.aload_n 0, 1) := by decide +kernel
theorem dX12_falls_83 : decode cX12_falls 83 = .ok (.getfield 88, 3) := by decide +kernel
theorem dX12_falls_86 : decode cX12_falls 86 = .ok (.iload 4, 2) := by decide +kernel
theorem dX12_falls_88 : decode cX12_falls 88 = .ok (.iaload, 1) := by decide +kernel
theorem dX12_falls_89 : decode cX12_falls 89 = .ok (.aload_n 0, 1) := by decide +kernel
theorem dX12_falls_90 : decode cX12_falls 90 = .ok (.getfield 88, 3) := by decide +kernel
theorem dX12_falls_93 : decode cX12_falls 93 = .ok (.iload 5, 2) := by decide +kernel
theorem dX12_falls_95 : decode cX12_falls 95 = .ok (.iaload, 1) := by decide +kernel
theorem dX12_falls_96 : decode cX12_falls 96 = .ok (.isub, 1) := by decide +kernel
theorem dX12_falls_97 : decode cX12_falls 97 = .ok (.invokestatic 347, 3) := by decide +kernel
theorem dX12_falls_100 : decode cX12_falls 100 = .ok (.istore_n 3, 1) := by decide +kernel
theorem dX12_falls_101 : decode cX12_falls 101 = .ok (.iinc 5 1, 3) := by decide +kernel
theorem dX12_falls_104 : decode cX12_falls 104 = .ok (.goto (-39), 3) := by decide +kernel
theorem dX12_falls_107 : decode cX12_falls 107 = .ok (.iinc 4 1, 3) := by decide +kernel
theorem dX12_falls_110 : decode cX12_falls 110 = .ok (.goto (-57), 3) := by decide +kernel
theorem dX12_falls_113 : decode cX12_falls 113 = .ok (.iload_n 3, 1) := by decide +kernel
theorem dX12_falls_114 : decode cX12_falls 114 = .ok (.ireturn, 1) := by decide +kernel
theorem dX12_keepState_0 : decode cX12_keepState 0 = .ok (.bipush 35, 2) := by decide +kernel
theorem dX12_keepState_2 : decode cX12_keepState 2 = .ok (.iload_n 1, 1) := by decide +kernel
theorem dX12_keepState_3 : decode cX12_keepState 3 = .ok (.imul, 1) := by decide +kernel
theorem dX12_keepState_4 : decode cX12_keepState 4 = .ok (.istore_n 2, 1) := by decide +kernel
theorem dX12_keepState_5 : decode cX12_keepState 5 = .ok (.iconst 0, 1) := by decide +kernel
theorem dX12_keepState_6 : decode cX12_keepState 6 = .ok (.istore_n 3, 1) := by decide +kernel
theorem dX12_keepState_7 : decode cX12_keepState 7 = .ok (.iload_n 3, 1) := by decide +kernel
theorem dX12_keepState_8 : decode cX12_keepState 8 = .ok (.iconst 5, 1) := by decide +kernel
theorem dX12_keepState_9 : decode cX12_keepState 9 = .ok (.if_icmp .ge 46, 3) := by decide +kernel
theorem dX12_keepState_12 : decode cX12_keepState 12 = .ok (.aload_n 0, 1) := by decide +kernel
theorem dX12_keepState_13 : decode cX12_keepState 13 = .ok (.getfield 95, 3) := by decide +kernel
theorem dX12_keepState_16 : decode cX12_keepState 16 = .ok (.iload_n 2, 1) := by decide +kernel
theorem dX12_keepState_17 : decode cX12_keepState 17 = .ok (.iconst 2, 1) := by decide +kernel
theorem dX12_keepState_18 : decode cX12_keepState 18 = .ok (.iload_n 3, 1) := by decide +kernel
theorem dX12_keepState_19 : decode cX12_keepState 19 = .ok (.imul, 1) := by decide +kernel
theorem dX12_keepState_20 : decode cX12_keepState 20 = .ok (.iadd, 1) := by decide +kernel
theorem dX12_keepState_21 : decode cX12_keepState 21 = .ok (.aload_n 0, 1) := by decide +kernel
theorem dX12_keepState_22 : decode cX12_keepState 22 = .ok (.getfield 55, 3) := by decide +kernel
theorem dX12_keepState_25 : decode cX12_keepState 25 = .ok (.iload_n 3, 1) := by decide +kernel
theorem dX12_keepState_26 : decode cX12_keepState 26 = .ok (.iaload, 1) := by decide +kernel
theorem dX12_keepState_27 : decode cX12_keepState 27 = .ok (.iastore, 1) := by decide +kernel
theorem dX12_keepState_28 : decode cX12_keepState 28 = .ok (.aload_n 0, 1) := by decide +kernel
theorem dX12_keepState_29 : decode cX12_keepState 29 = .ok (.getfield 95, 3) := by decide +kernel
theorem dX12_keepState_32 : decode cX12_keepState 32 = .ok (.iload_n 2, 1) := by decide +kernel
theorem dX12_keepState_33 : decode cX12_keepState 33 = .ok (.iconst 2, 1) := by decide +kernel
theorem dX12_keepState_34 : decode cX12_keepState 34 = .ok (.iload_n 3, 1) := by decide +kernel
theorem dX12_keepState_35 : decode cX12_keepState 35 = .ok (.imul, 1) := by decide +kernel
theorem dX12_keepState_36 : decode cX12_keepState 36 = .ok (.iadd, 1) := by decide +kernel
theorem dX12_keepState_37 : decode cX12_keepState 37 = .ok (.iconst 1, 1) := by decide +kernel
theorem dX12_keepState_38 : decode cX12_keepState 38 = .ok (.iadd, 1) := by decide +kernel
theorem dX12_keepState_39 : decode cX12_keepState 39 = .ok (.aload_n 0, 1) := by decide +kernel
theorem dX12_keepState_40 : decode cX12_keepState 40 = .ok (.getfield 55, 3) := by decide +kernel
theorem dX12_keepState_43 : decode cX12_keepState 43 = .ok (.bipush 6, 2) := by decide +kernel
theorem dX12_keepState_45 : decode cX12_keepState 45 = .ok (.iload_n 3, 1) := by decide +kernel
theorem dX12_keepState_46 : decode cX12_keepState 46 = .ok (.iadd, 1) := by decide +kernel
theorem dX12_keepState_47 : decode cX12_keepState 47 = .ok (.iaload, 1) := by decide +kernel
theorem dX12_keepState_48 : decode cX12_keepState 48 = .ok (.iastore, 1) := by decide +kernel
theorem dX12_keepState_49 : decode cX12_keepState 49 = .ok (.iinc 3 1, 3) := by decide +kernel
theorem dX12_keepState_52 : decode cX12_keepState 52 = .ok (.goto (-45), 3) := by decide +kernel
theorem dX12_keepState_55 : decode cX12_keepState 55 = .ok (.iconst 0, 1) := by decide +kernel
theorem dX12_keepState_56 : decode cX12_keepState 56 = .ok (.istore_n 3, 1) := by decide +kernel
theorem dX12_keepState_57 : decode cX12_keepState 57 = .ok (.iload_n 3, 1) := by decide +kernel
theorem dX12_keepState_58 : decode cX12_keepState 58 = .ok (.bipush 24, 2) := by decide +kernel
theorem dX12_keepState_60 : decode cX12_keepState 60 = .ok (.if_icmp .ge 29, 3) := by decide +kernel
theorem dX12_keepState_63 : decode cX12_keepState 63 = .ok (.aload_n 0, 1) := by decide +kernel
theorem dX12_keepState_64 : decode cX12_keepState 64 = .ok (.getfield 95, 3) := by decide +kernel
theorem dX12_keepState_67 : decode cX12_keepState 67 = .ok (.iload_n 2, 1) := by decide +kernel
theorem dX12_keepState_68 : decode cX12_keepState 68 = .ok (.bipush 10, 2) := by decide +kernel
theorem dX12_keepState_70 : decode cX12_keepState 70 = .ok (.iadd, 1) := by decide +kernel
theorem dX12_keepState_71 : decode cX12_keepState 71 = .ok (.iload_n 3, 1) := by decide +kernel
theorem dX12_keepState_72 : decode cX12_keepState 72 = .ok (.iadd, 1) := by decide +kernel
theorem dX12_keepState_73 : decode cX12_keepState 73 = .ok (.aload_n 0, 1) := by decide +kernel
theorem dX12_keepState_74 : decode cX12_keepState 74 = .ok (.getfield 55, 3) := by decide +kernel
theorem dX12_keepState_77 : decode cX12_keepState 77 = .ok (.bipush 30, 2) := by decide +kernel
theorem dX12_keepState_79 : decode cX12_keepState 79 = .ok (.iload_n 3, 1) := by decide +kernel
theorem dX12_keepState_80 : decode cX12_keepState 80 = .ok (.iadd, 1) := by decide +kernel
theorem dX12_keepState_81 : decode cX12_keepState 81 = .ok (.iaload, 1) := by decide +kernel
theorem dX12_keepState_82 : decode cX12_keepState 82 = .ok (.iastore, 1) := by decide +kernel
theorem dX12_keepState_83 : decode cX12_keepState 83 = .ok (.iinc 3 1, 3) := by decide +kernel
theorem dX12_keepState_86 : decode cX12_keepState 86 = .ok (.goto (-29), 3) := by decide +kernel
theorem dX12_keepState_89 : decode cX12_keepState 89 = .ok (.aload_n 0, 1) := by decide +kernel
theorem dX12_keepState_90 : decode cX12_keepState 90 = .ok (.getfield 95, 3) := by decide +kernel
theorem dX12_keepState_93 : decode cX12_keepState 93 = .ok (.iload_n 2, 1) := by decide +kernel
theorem dX12_keepState_94 : decode cX12_keepState 94 = .ok (.bipush 35, 2) := by decide +kernel
theorem dX12_keepState_96 : decode cX12_keepState 96 = .ok (.iadd, 1) := by decide +kernel
theorem dX12_keepState_97 : decode cX12_keepState 97 = .ok (.iconst 1, 1) := by decide +kernel
theorem dX12_keepState_98 : decode cX12_keepState 98 = .ok (.isub, 1) := by decide +kernel
theorem dX12_keepState_99 : decode cX12_keepState 99 = .ok (.aload_n 0, 1) := by decide +kernel
theorem dX12_keepState_100 : decode cX12_keepState 100 = .ok (.getfield 55, 3) := by decide +kernel
theorem dX12_keepState_103 : decode cX12_keepState 103 = .ok (.bipush 54, 2) := by decide +kernel
theorem dX12_keepState_105 : decode cX12_keepState 105 = .ok (.iaload, 1) := by decide +kernel
theorem dX12_keepState_106 : decode cX12_keepState 106 = .ok (.iastore, 1) := by decide +kernel
theorem dX12_keepState_107 : decode cX12_keepState 107 = .ok (.return_, 1) := by decide +kernel
theorem dX12_areAlike_0 : decode cX12_areAlike 0 = .ok (.iconst 0, 1) := by decide +kernel
theorem dX12_areAlike_1 : decode cX12_areAlike 1 = .ok (.istore_n 3, 1) := by decide +kernel
theorem dX12_areAlike_2 : decode cX12_areAlike 2 = .ok (.iload_n 3, 1) := by decide +kernel
theorem dX12_areAlike_3 : decode cX12_areAlike 3 = .ok (.bipush 35, 2) := by decide +kernel
theorem dX12_areAlike_5 : decode cX12_areAlike 5 = .ok (.if_icmp .ge 36, 3) := by decide +kernel
theorem dX12_areAlike_8 : decode cX12_areAlike 8 = .ok (.aload_n 0, 1) := by decide +kernel
theorem dX12_areAlike_9 : decode cX12_areAlike 9 = .ok (.getfield 95, 3) := by decide +kernel
theorem dX12_areAlike_12 : decode cX12_areAlike 12 = .ok (.bipush 35, 2) := by decide +kernel
theorem dX12_areAlike_14 : decode cX12_areAlike 14 = .ok (.iload_n 1, 1) := by decide +kernel
theorem dX12_areAlike_15 : decode cX12_areAlike 15 = .ok (.imul, 1) := by decide +kernel
theorem dX12_areAlike_16 : decode cX12_areAlike 16 = .ok (.iload_n 3, 1) := by decide +kernel
theorem dX12_areAlike_17 : decode cX12_areAlike 17 = .ok (.iadd, 1) := by decide +kernel
theorem dX12_areAlike_18 : decode cX12_areAlike 18 = .ok (.iaload, 1) := by decide +kernel
theorem dX12_areAlike_19 : decode cX12_areAlike 19 = .ok (.aload_n 0, 1) := by decide +kernel
theorem dX12_areAlike_20 : decode cX12_areAlike 20 = .ok (.getfield 95, 3) := by decide +kernel
theorem dX12_areAlike_23 : decode cX12_areAlike 23 = .ok (.bipush 35, 2) := by decide +kernel
theorem dX12_areAlike_25 : decode cX12_areAlike 25 = .ok (.iload_n 2, 1) := by decide +kernel
theorem dX12_areAlike_26 : decode cX12_areAlike 26 = .ok (.imul, 1) := by decide +kernel
theorem dX12_areAlike_27 : decode cX12_areAlike 27 = .ok (.iload_n 3, 1) := by decide +kernel
theorem dX12_areAlike_28 : decode cX12_areAlike 28 = .ok (.iadd, 1) := by decide +kernel
theorem dX12_areAlike_29 : decode cX12_areAlike 29 = .ok (.iaload, 1) := by decide +kernel
theorem dX12_areAlike_30 : decode cX12_areAlike 30 = .ok (.if_icmp .eq 5, 3) := by decide +kernel
theorem dX12_areAlike_33 : decode cX12_areAlike 33 = .ok (.iconst 0, 1) := by decide +kernel
theorem dX12_areAlike_34 : decode cX12_areAlike 34 = .ok (.ireturn, 1) := by decide +kernel
theorem dX12_areAlike_35 : decode cX12_areAlike 35 = .ok (.iinc 3 1, 3) := by decide +kernel
theorem dX12_areAlike_38 : decode cX12_areAlike 38 = .ok (.goto (-36), 3) := by decide +kernel
theorem dX12_areAlike_41 : decode cX12_areAlike 41 = .ok (.iconst 1, 1) := by decide +kernel
theorem dX12_areAlike_42 : decode cX12_areAlike 42 = .ok (.ireturn, 1) := by decide +kernel
theorem dX12_ring_0 : decode cX12_ring 0 = .ok (.aload_n 0, 1) := by decide +kernel
theorem dX12_ring_1 : decode cX12_ring 1 = .ok (.iconst 0, 1) := by decide +kernel
theorem dX12_ring_2 : decode cX12_ring 2 = .ok (.putfield 131, 3) := by decide +kernel
theorem dX12_ring_5 : decode cX12_ring 5 = .ok (.aload_n 0, 1) := by decide +kernel
theorem dX12_ring_6 : decode cX12_ring 6 = .ok (.getfield 305, 3) := by decide +kernel
theorem dX12_ring_9 : decode cX12_ring 9 = .ok (.ifCond .eq 13, 3) := by decide +kernel
theorem dX12_ring_12 : decode cX12_ring 12 = .ok (.iload_n 1, 1) := by decide +kernel
theorem dX12_ring_13 : decode cX12_ring 13 = .ok (.i2l, 1) := by decide +kernel
theorem dX12_ring_14 : decode cX12_ring 14 = .ok (.lconst 0, 1) := by decide +kernel
theorem dX12_ring_15 : decode cX12_ring 15 = .ok (.lconst 1, 1) := by decide +kernel
theorem dX12_ring_16 : decode cX12_ring 16 = .ok (.invokestatic 253, 3) := by decide +kernel
theorem dX12_ring_19 : decode cX12_ring 19 = .ok (.ifCond .ne 5, 3) := by decide +kernel
theorem dX12_ring_22 : decode cX12_ring 22 = .ok (.iconst (-1), 1) := by decide +kernel
theorem dX12_ring_23 : decode cX12_ring 23 = .ok (.ireturn, 1) := by decide +kernel
theorem dX12_ring_24 : decode cX12_ring 24 = .ok (.aload_n 0, 1) := by decide +kernel
theorem dX12_ring_25 : decode cX12_ring 25 = .ok (.invokevirtual 404, 3) := by decide +kernel
theorem dX12_ring_28 : decode cX12_ring 28 = .ok (.iconst (-1), 1) := by decide +kernel
theorem dX12_ring_29 : decode cX12_ring 29 = .ok (.istore_n 2, 1) := by decide +kernel
theorem dX12_ring_30 : decode cX12_ring 30 = .ok (.iconst (-1), 1) := by decide +kernel
theorem dX12_ring_31 : decode cX12_ring 31 = .ok (.istore_n 3, 1) := by decide +kernel
theorem dX12_ring_32 : decode cX12_ring 32 = .ok (.iconst 0, 1) := by decide +kernel
theorem dX12_ring_33 : decode cX12_ring 33 = .ok (.istore 4, 2) := by decide +kernel
theorem dX12_ring_35 : decode cX12_ring 35 = .ok (.iload 4, 2) := by decide +kernel
theorem dX12_ring_37 : decode cX12_ring 37 = .ok (.bipush 60, 2) := by decide +kernel
theorem dX12_ring_39 : decode cX12_ring 39 = .ok (.if_icmp .gt 69, 3) := by decide +kernel
theorem dX12_ring_42 : decode cX12_ring 42 = .ok (.iload_n 2, 1) := by decide +kernel
theorem dX12_ring_43 : decode cX12_ring 43 = .ok (.iconst (-1), 1) := by decide +kernel
theorem dX12_ring_44 : decode cX12_ring 44 = .ok (.if_icmp .ne 64, 3) := by decide +kernel
theorem dX12_ring_47 : decode cX12_ring 47 = .ok (.aload_n 0, 1) := by decide +kernel
theorem dX12_ring_48 : decode cX12_ring 48 = .ok (.iload 4, 2) := by decide +kernel
theorem dX12_ring_50 : decode cX12_ring 50 = .ok (.invokevirtual 416, 3) := by decide +kernel
theorem dX12_ring_53 : decode cX12_ring 53 = .ok (.iconst 0, 1) := by decide +kernel
theorem dX12_ring_54 : decode cX12_ring 54 = .ok (.istore 5, 2) := by decide +kernel
theorem dX12_ring_56 : decode cX12_ring 56 = .ok (.iload 5, 2) := by decide +kernel
theorem dX12_ring_58 : decode cX12_ring 58 = .ok (.iload 4, 2) := by decide +kernel
theorem dX12_ring_60 : decode cX12_ring 60 = .ok (.if_icmp .ge 37, 3) := by decide +kernel
theorem dX12_ring_63 : decode cX12_ring 63 = .ok (.iload_n 2, 1) := by decide +kernel
theorem dX12_ring_64 : decode cX12_ring 64 = .ok (.iconst (-1), 1) := by decide +kernel
theorem dX12_ring_65 : decode cX12_ring 65 = .ok (.if_icmp .ne 32, 3) := by decide +kernel
theorem dX12_ring_68 : decode cX12_ring 68 = .ok (.aload_n 0, 1) := by decide +kernel
theorem dX12_ring_69 : decode cX12_ring 69 = .ok (.iload 5, 2) := by decide +kernel
theorem dX12_ring_71 : decode cX12_ring 71 = .ok (.iload 4, 2) := by decide +kernel
theorem dX12_ring_73 : decode cX12_ring 73 = .ok (.invokevirtual 419, 3) := by decide +kernel
theorem dX12_ring_76 : decode cX12_ring 76 = .ok (.ifCond .ne 6, 3) := by decide +kernel
theorem dX12_ring_79 : decode cX12_ring 79 = .ok (.goto 12, 3) := by decide +kernel
theorem dX12_ring_82 : decode cX12_ring 82 = .ok (.iload 5, 2) := by decide +kernel
theorem dX12_ring_84 : decode cX12_ring 84 = .ok (.istore_n 2, 1) := by decide +kernel
theorem dX12_ring_85 : decode cX12_ring 85 = .ok (.iload 4, 2) := by decide +kernel
theorem dX12_ring_87 : decode cX12_ring 87 = .ok (.iload 5, 2) := by decide +kernel
theorem dX12_ring_89 : decode cX12_ring 89 = .ok (.isub, 1) := by decide +kernel
theorem dX12_ring_90 : decode cX12_ring 90 = .ok (.istore_n 3, 1) := by decide +kernel
theorem dX12_ring_91 : decode cX12_ring 91 = .ok (.iinc 5 1, 3) := by decide +kernel
theorem dX12_ring_94 : decode cX12_ring 94 = .ok (.goto (-38), 3) := by decide +kernel
theorem dX12_ring_97 : decode cX12_ring 97 = .ok (.aload_n 0, 1) := by decide +kernel
theorem dX12_ring_98 : decode cX12_ring 98 = .ok (.iconst 0, 1) := by decide +kernel
theorem dX12_ring_99 : decode cX12_ring 99 = .ok (.invokevirtual 400, 3) := by decide +kernel
theorem dX12_ring_102 : decode cX12_ring 102 = .ok (.iinc 4 1, 3) := by decide +kernel
theorem dX12_ring_105 : decode cX12_ring 105 = .ok (.goto (-70), 3) := by decide +kernel
theorem dX12_ring_108 : decode cX12_ring 108 = .ok (.aload_n 0, 1) := by decide +kernel
theorem dX12_ring_109 : decode cX12_ring 109 = .ok (.invokevirtual 410, 3) := by decide +kernel
theorem dX12_ring_112 : decode cX12_ring 112 = .ok (.iload_n 1, 1) := by decide +kernel
theorem dX12_ring_113 : decode cX12_ring 113 = .ok (.ifCond .ne 7, 3) := by decide +kernel
theorem dX12_ring_116 : decode cX12_ring 116 = .ok (.iload_n 2, 1) := by decide +kernel
theorem dX12_ring_117 : decode cX12_ring 117 = .ok (.goto 4, 3) := by decide +kernel
theorem dX12_ring_120 : decode cX12_ring 120 = .ok (.iload_n 3, 1) := by decide +kernel
theorem dX12_ring_121 : decode cX12_ring 121 = .ok (.ireturn, 1) := by decide +kernel
theorem dX12_goBest_0 : decode cX12_goBest 0 = .ok (.iload_n 2, 1) := by decide +kernel
theorem dX12_goBest_1 : decode cX12_goBest 1 = .ok (.ifCond .ne 54, 3) := by decide +kernel
theorem dX12_goBest_4 : decode cX12_goBest 4 = .ok (.aload_n 0, 1) := by decide +kernel
theorem dX12_goBest_5 : decode cX12_goBest 5 = .ok (.getfield 55, 3) := by decide +kernel
theorem dX12_goBest_8 : decode cX12_goBest 8 = .ok (.bipush 12, 2) := by decide +kernel
theorem dX12_goBest_10 : decode cX12_goBest 10 = .ok (.iload_n 1, 1) := by decide +kernel
theorem dX12_goBest_11 : decode cX12_goBest 11 = .ok (.iadd, 1) := by decide +kernel
theorem dX12_goBest_12 : decode cX12_goBest 12 = .ok (.iaload, 1) := by decide +kernel
theorem dX12_goBest_13 : decode cX12_goBest 13 = .ok (.aload_n 0, 1) := by decide +kernel
theorem dX12_goBest_14 : decode cX12_goBest 14 = .ok (.getfield 58, 3) := by decide +kernel
theorem dX12_goBest_17 : decode cX12_goBest 17 = .ok (.bipush 12, 2) := by decide +kernel
theorem dX12_goBest_19 : decode cX12_goBest 19 = .ok (.iload_n 1, 1) := by decide +kernel
theorem dX12_goBest_20 : decode cX12_goBest 20 = .ok (.iadd, 1) := by decide +kernel
theorem dX12_goBest_21 : decode cX12_goBest 21 = .ok (.iaload, 1) := by decide +kernel
theorem dX12_goBest_22 : decode cX12_goBest 22 = .ok (.isub, 1) := by decide +kernel
theorem dX12_goBest_23 : decode cX12_goBest 23 = .ok (.istore 4, 2) := by decide +kernel
theorem dX12_goBest_25 : decode cX12_goBest 25 = .ok (.aload_n 0, 1) := by decide +kernel
theorem dX12_goBest_26 : decode cX12_goBest 26 = .ok (.getfield 422, 3) := by decide +kernel
theorem dX12_goBest_29 : decode cX12_goBest 29 = .ok (.iconst (-1), 1) := by decide +kernel
theorem dX12_goBest_30 : decode cX12_goBest 30 = .ok (.if_icmp .eq 13, 3) := by decide +kernel
theorem dX12_goBest_33 : decode cX12_goBest 33 = .ok (.iload 4, 2) := by decide +kernel
theorem dX12_goBest_35 : decode cX12_goBest 35 = .ok (.aload_n 0, 1) := by decide +kernel
theorem dX12_goBest_36 : decode cX12_goBest 36 = .ok (.getfield 425, 3) := by decide +kernel
theorem dX12_goBest_39 : decode cX12_goBest 39 = .ok (.if_icmp .gt 4, 3) := by decide +kernel
theorem dX12_goBest_42 : decode cX12_goBest 42 = .ok (.return_, 1) := by decide +kernel
theorem dX12_goBest_43 : decode cX12_goBest 43 = .ok (.aload_n 0, 1) := by decide +kernel
theorem dX12_goBest_44 : decode cX12_goBest 44 = .ok (.iload_n 3, 1) := by decide +kernel
theorem dX12_goBest_45 : decode cX12_goBest 45 = .ok (.putfield 422, 3) := by decide +kernel
theorem dX12_goBest_48 : decode cX12_goBest 48 = .ok (.aload_n 0, 1) := by decide +kernel
theorem dX12_goBest_49 : decode cX12_goBest 49 = .ok (.iload 4, 2) := by decide +kernel
theorem dX12_goBest_51 : decode cX12_goBest 51 = .ok (.putfield 425, 3) := by decide +kernel
theorem dX12_goBest_54 : decode cX12_goBest 54 = .ok (.return_, 1) := by decide +kernel
theorem dX12_goBest_55 : decode cX12_goBest 55 = .ok (.iload_n 2, 1) := by decide +kernel
theorem dX12_goBest_56 : decode cX12_goBest 56 = .ok (.iconst 1, 1) := by decide +kernel
theorem dX12_goBest_57 : decode cX12_goBest 57 = .ok (.if_icmp .ne 10, 3) := by decide +kernel
theorem dX12_goBest_60 : decode cX12_goBest 60 = .ok (.aload_n 0, 1) := by decide +kernel
theorem dX12_goBest_61 : decode cX12_goBest 61 = .ok (.getfield 98, 3) := by decide +kernel
theorem dX12_goBest_64 : decode cX12_goBest 64 = .ok (.goto 19, 3) := by decide +kernel
theorem dX12_goBest_67 : decode cX12_goBest 67 = .ok (.iload_n 2, 1) := by decide +kernel
theorem dX12_goBest_68 : decode cX12_goBest 68 = .ok (.iconst 2, 1) := by decide +kernel
theorem dX12_goBest_69 : decode cX12_goBest 69 = .ok (.if_icmp .ne 10, 3) := by decide +kernel
theorem dX12_goBest_72 : decode cX12_goBest 72 = .ok (.aload_n 0, 1) := by decide +kernel
theorem dX12_goBest_73 : decode cX12_goBest 73 = .ok (.getfield 101, 3) := by decide +kernel
theorem dX12_goBest_76 : decode cX12_goBest 76 = .ok (.goto 7, 3) := by decide +kernel
theorem dX12_goBest_79 : decode cX12_goBest 79 = .ok (.aload_n 0, 1) := by decide +kernel
theorem dX12_goBest_80 : decode cX12_goBest 80 = .ok (.getfield 104, 3) := by decide +kernel
theorem dX12_goBest_83 : decode cX12_goBest 83 = .ok (.astore 4, 2) := by decide +kernel
theorem dX12_goBest_85 : decode cX12_goBest 85 = .ok (.iconst 0, 1) := by decide +kernel
theorem dX12_goBest_86 : decode cX12_goBest 86 = .ok (.istore 5, 2) := by decide +kernel
theorem dX12_goBest_88 : decode cX12_goBest 88 = .ok (.iload 5, 2) := by decide +kernel
theorem dX12_goBest_90 : decode cX12_goBest 90 = .ok (.bipush 57, 2) := by decide +kernel
theorem dX12_goBest_92 : decode cX12_goBest 92 = .ok (.if_icmp .ge 21, 3) := by decide +kernel
theorem dX12_goBest_95 : decode cX12_goBest 95 = .ok (.aload 4, 2) := by decide +kernel
theorem dX12_goBest_97 : decode cX12_goBest 97 = .ok (.iload 5, 2) := by decide +kernel
theorem dX12_goBest_99 : decode cX12_goBest 99 = .ok (.aload_n 0, 1) := by decide +kernel
theorem dX12_goBest_100 : decode cX12_goBest 100 = .ok (.getfield 55, 3) := by decide +kernel
theorem dX12_goBest_103 : decode cX12_goBest 103 = .ok (.iload 5, 2) := by decide +kernel
theorem dX12_goBest_105 : decode cX12_goBest 105 = .ok (.iaload, 1) := by decide +kernel
theorem dX12_goBest_106 : decode cX12_goBest 106 = .ok (.iastore, 1) := by decide +kernel
theorem dX12_goBest_107 : decode cX12_goBest 107 = .ok (.iinc 5 1, 3) := by decide +kernel
theorem dX12_goBest_110 : decode cX12_goBest 110 = .ok (.goto (-22), 3) := by decide +kernel
theorem dX12_goBest_113 : decode cX12_goBest 113 = .ok (.iconst 0, 1) := by decide +kernel
theorem dX12_goBest_114 : decode cX12_goBest 114 = .ok (.istore 5, 2) := by decide +kernel
theorem dX12_goBest_116 : decode cX12_goBest 116 = .ok (.iload 5, 2) := by decide +kernel
theorem dX12_goBest_118 : decode cX12_goBest 118 = .ok (.aload 4, 2) := by decide +kernel
theorem dX12_goBest_120 : decode cX12_goBest 120 = .ok (.bipush 54, 2) := by decide +kernel
theorem dX12_goBest_122 : decode cX12_goBest 122 = .ok (.iaload, 1) := by decide +kernel
theorem dX12_goBest_123 : decode cX12_goBest 123 = .ok (.if_icmp .gt 65, 3) := by decide +kernel
theorem dX12_goBest_126 : decode cX12_goBest 126 = .ok (.aload_n 0, 1) := by decide +kernel
theorem dX12_goBest_127 : decode cX12_goBest 127 = .ok (.getfield 64, 3) := by decide +kernel
theorem dX12_goBest_130 : decode cX12_goBest 130 = .ok (.iload_n 1, 1) := by decide +kernel
theorem dX12_goBest_131 : decode cX12_goBest 131 = .ok (.iload 5, 2) := by decide +kernel
theorem dX12_goBest_133 : decode cX12_goBest 133 = .ok (.iastore, 1) := by decide +kernel
theorem dX12_goBest_134 : decode cX12_goBest 134 = .ok (.aload_n 0, 1) := by decide +kernel
theorem dX12_goBest_135 : decode cX12_goBest 135 = .ok (.iconst 0, 1) := by decide +kernel
theorem dX12_goBest_136 : decode cX12_goBest 136 = .ok (.invokevirtual 400, 3) := by decide +kernel
theorem dX12_goBest_139 : decode cX12_goBest 139 = .ok (.aload_n 0, 1) := by decide +kernel
theorem dX12_goBest_140 : decode cX12_goBest 140 = .ok (.iload_n 1, 1) := by decide +kernel
theorem dX12_goBest_141 : decode cX12_goBest 141 = .ok (.iload_n 2, 1) := by decide +kernel
theorem dX12_goBest_142 : decode cX12_goBest 142 = .ok (.iconst 1, 1) := by decide +kernel
theorem dX12_goBest_143 : decode cX12_goBest 143 = .ok (.isub, 1) := by decide +kernel
theorem dX12_goBest_144 : decode cX12_goBest 144 = .ok (.bipush 100, 2) := by decide +kernel
theorem dX12_goBest_146 : decode cX12_goBest 146 = .ok (.iload_n 3, 1) := by decide +kernel
theorem dX12_goBest_147 : decode cX12_goBest 147 = .ok (.imul, 1) := by decide +kernel
theorem dX12_goBest_148 : decode cX12_goBest 148 = .ok (.iload 5, 2) := by decide +kernel
theorem dX12_goBest_150 : decode cX12_goBest 150 = .ok (.iadd, 1) := by decide +kernel
theorem dX12_goBest_151 : decode cX12_goBest 151 = .ok (.invokevirtual 428, 3) := by decide +kernel
theorem dX12_goBest_154 : decode cX12_goBest 154 = .ok (.iconst 0, 1) := by decide +kernel
theorem dX12_goBest_155 : decode cX12_goBest 155 = .ok (.istore 6, 2) := by decide +kernel
theorem dX12_goBest_157 : decode cX12_goBest 157 = .ok (.iload 6, 2) := by decide +kernel
theorem dX12_goBest_159 : decode cX12_goBest 159 = .ok (.bipush 57, 2) := by decide +kernel
theorem dX12_goBest_161 : decode cX12_goBest 161 = .ok (.if_icmp .ge 21, 3) := by decide +kernel
theorem dX12_goBest_164 : decode cX12_goBest 164 = .ok (.aload_n 0, 1) := by decide +kernel
theorem dX12_goBest_165 : decode cX12_goBest 165 = .ok (.getfield 55, 3) := by decide +kernel
theorem dX12_goBest_168 : decode cX12_goBest 168 = .ok (.iload 6, 2) := by decide +kernel
theorem dX12_goBest_170 : decode cX12_goBest 170 = .ok (.aload 4, 2) := by decide +kernel
theorem dX12_goBest_172 : decode cX12_goBest 172 = .ok (.iload 6, 2) := by decide +kernel
theorem dX12_goBest_174 : decode cX12_goBest 174 = .ok (.iaload, 1) := by decide +kernel
theorem dX12_goBest_175 : decode cX12_goBest 175 = .ok (.iastore, 1) := by decide +kernel
theorem dX12_goBest_176 : decode cX12_goBest 176 = .ok (.iinc 6 1, 3) := by decide +kernel
theorem dX12_goBest_179 : decode cX12_goBest 179 = .ok (.goto (-22), 3) := by decide +kernel
theorem dX12_goBest_182 : decode cX12_goBest 182 = .ok (.iinc 5 1, 3) := by decide +kernel
theorem dX12_goBest_185 : decode cX12_goBest 185 = .ok (.goto (-69), 3) := by decide +kernel
theorem dX12_goBest_188 : decode cX12_goBest 188 = .ok (.return_, 1) := by decide +kernel
theorem dX12_best_0 : decode cX12_best 0 = .ok (.aload_n 0, 1) := by decide +kernel
theorem dX12_best_1 : decode cX12_best 1 = .ok (.iconst 0, 1) := by decide +kernel
theorem dX12_best_2 : decode cX12_best 2 = .ok (.putfield 131, 3) := by decide +kernel
theorem dX12_best_5 : decode cX12_best 5 = .ok (.aload_n 0, 1) := by decide +kernel
theorem dX12_best_6 : decode cX12_best 6 = .ok (.iload_n 1, 1) := by decide +kernel
theorem dX12_best_7 : decode cX12_best 7 = .ok (.invokevirtual 323, 3) := by decide +kernel
theorem dX12_best_10 : decode cX12_best 10 = .ok (.ifCond .eq 25, 3) := by decide +kernel
theorem dX12_best_13 : decode cX12_best 13 = .ok (.iload_n 2, 1) := by decide +kernel
theorem dX12_best_14 : decode cX12_best 14 = .ok (.i2l, 1) := by decide +kernel
theorem dX12_best_15 : decode cX12_best 15 = .ok (.lconst 1, 1) := by decide +kernel
theorem dX12_best_16 : decode cX12_best 16 = .ok (.ldc2_w 328, 3) := by decide +kernel
theorem dX12_best_19 : decode cX12_best 19 = .ok (.invokestatic 253, 3) := by decide +kernel
theorem dX12_best_22 : decode cX12_best 22 = .ok (.ifCond .eq 13, 3) := by decide +kernel
theorem dX12_best_25 : decode cX12_best 25 = .ok (.iload_n 3, 1) := by decide +kernel
theorem dX12_best_26 : decode cX12_best 26 = .ok (.i2l, 1) := by decide +kernel
theorem dX12_best_27 : decode cX12_best 27 = .ok (.lconst 0, 1) := by decide +kernel
theorem dX12_best_28 : decode cX12_best 28 = .ok (.lconst 1, 1) := by decide +kernel
theorem dX12_best_29 : decode cX12_best 29 = .ok (.invokestatic 253, 3) := by decide +kernel
theorem dX12_best_32 : decode cX12_best 32 = .ok (.ifCond .ne 7, 3) := by decide +kernel
theorem dX12_best_35 : decode cX12_best 35 = .ok (.ldc_w 432, 3) := by decide +kernel
theorem dX12_best_38 : decode cX12_best 38 = .ok (.ireturn, 1) := by decide +kernel
theorem dX12_best_39 : decode cX12_best 39 = .ok (.aload_n 0, 1) := by decide +kernel
theorem dX12_best_40 : decode cX12_best 40 = .ok (.invokevirtual 404, 3) := by decide +kernel
theorem dX12_best_43 : decode cX12_best 43 = .ok (.aload_n 0, 1) := by decide +kernel
theorem dX12_best_44 : decode cX12_best 44 = .ok (.dup, 1) := by decide +kernel
theorem dX12_best_45 : decode cX12_best 45 = .ok (.getfield 342, 3) := by decide +kernel
theorem dX12_best_48 : decode cX12_best 48 = .ok (.iconst 1, 1) := by decide +kernel
theorem dX12_best_49 : decode cX12_best 49 = .ok (.iload_n 1, 1) := by decide +kernel
theorem dX12_best_50 : decode cX12_best 50 = .ok (.ishl, 1) := by decide +kernel
theorem dX12_best_51 : decode cX12_best 51 = .ok (.iconst (-1), 1) := by decide +kernel
theorem dX12_best_52 : decode cX12_best 52 = .ok (.ixor, 1) := by decide +kernel
theorem dX12_best_53 : decode cX12_best 53 = .ok (.iand, 1) := by decide +kernel
theorem dX12_best_54 : decode cX12_best 54 = .ok (.putfield 342, 3) := by decide +kernel
theorem dX12_best_57 : decode cX12_best 57 = .ok (.aload_n 0, 1) := by decide +kernel
theorem dX12_best_58 : decode cX12_best 58 = .ok (.iconst (-1), 1) := by decide +kernel
theorem dX12_best_59 : decode cX12_best 59 = .ok (.putfield 422, 3) := by decide +kernel
theorem dX12_best_62 : decode cX12_best 62 = .ok (.aload_n 0, 1) := by decide +kernel
theorem dX12_best_63 : decode cX12_best 63 = .ok (.iload_n 1, 1) := by decide +kernel
theorem dX12_best_64 : decode cX12_best 64 = .ok (.iload_n 2, 1) := by decide +kernel
theorem dX12_best_65 : decode cX12_best 65 = .ok (.iconst 0, 1) := by decide +kernel
theorem dX12_best_66 : decode cX12_best 66 = .ok (.invokevirtual 428, 3) := by decide +kernel
theorem dX12_best_69 : decode cX12_best 69 = .ok (.aload_n 0, 1) := by decide +kernel
theorem dX12_best_70 : decode cX12_best 70 = .ok (.invokevirtual 410, 3) := by decide +kernel
theorem dX12_best_73 : decode cX12_best 73 = .ok (.aload_n 0, 1) := by decide +kernel
theorem dX12_best_74 : decode cX12_best 74 = .ok (.invokevirtual 393, 3) := by decide +kernel
theorem dX12_best_77 : decode cX12_best 77 = .ok (.iload_n 3, 1) := by decide +kernel
theorem dX12_best_78 : decode cX12_best 78 = .ok (.ifCond .ne 10, 3) := by decide +kernel
theorem dX12_best_81 : decode cX12_best 81 = .ok (.aload_n 0, 1) := by decide +kernel
theorem dX12_best_82 : decode cX12_best 82 = .ok (.getfield 422, 3) := by decide +kernel
theorem dX12_best_85 : decode cX12_best 85 = .ok (.goto 7, 3) := by decide +kernel
theorem dX12_best_88 : decode cX12_best 88 = .ok (.aload_n 0, 1) := by decide +kernel
theorem dX12_best_89 : decode cX12_best 89 = .ok (.getfield 425, 3) := by decide +kernel
theorem dX12_best_92 : decode cX12_best 92 = .ok (.ireturn, 1) := by decide +kernel
theorem dX12_takenBy_0 : decode cX12_takenBy 0 = .ok (.aload_n 0, 1) := by decide +kernel
theorem dX12_takenBy_1 : decode cX12_takenBy 1 = .ok (.iconst 0, 1) := by decide +kernel
theorem dX12_takenBy_2 : decode cX12_takenBy 2 = .ok (.invokevirtual 400, 3) := by decide +kernel
theorem dX12_takenBy_5 : decode cX12_takenBy 5 = .ok (.aload_n 0, 1) := by decide +kernel
theorem dX12_takenBy_6 : decode cX12_takenBy 6 = .ok (.getfield 70, 3) := by decide +kernel
theorem dX12_takenBy_9 : decode cX12_takenBy 9 = .ok (.iload_n 1, 1) := by decide +kernel
theorem dX12_takenBy_10 : decode cX12_takenBy 10 = .ok (.iaload, 1) := by decide +kernel
theorem dX12_takenBy_11 : decode cX12_takenBy 11 = .ok (.istore_n 2, 1) := by decide +kernel
theorem dX12_takenBy_12 : decode cX12_takenBy 12 = .ok (.aload_n 0, 1) := by decide +kernel
theorem dX12_takenBy_13 : decode cX12_takenBy 13 = .ok (.invokevirtual 410, 3) := by decide +kernel
theorem dX12_takenBy_16 : decode cX12_takenBy 16 = .ok (.iload_n 2, 1) := by decide +kernel
theorem dX12_takenBy_17 : decode cX12_takenBy 17 = .ok (.ireturn, 1) := by decide +kernel
theorem dX12_isRest_0 : decode cX12_isRest 0 = .ok (.iconst 0, 1) := by decide +kernel
theorem dX12_isRest_1 : decode cX12_isRest 1 = .ok (.istore_n 1, 1) := by decide +kernel
theorem dX12_isRest_2 : decode cX12_isRest 2 = .ok (.iload_n 1, 1) := by decide +kernel
theorem dX12_isRest_3 : decode cX12_isRest 3 = .ok (.aload_n 0, 1) := by decide +kernel
theorem dX12_isRest_4 : decode cX12_isRest 4 = .ok (.getfield 305, 3) := by decide +kernel
theorem dX12_isRest_7 : decode cX12_isRest 7 = .ok (.if_icmp .ge 103, 3) := by decide +kernel
theorem dX12_isRest_10 : decode cX12_isRest 10 = .ok (.aload_n 0, 1) := by decide +kernel
theorem dX12_isRest_11 : decode cX12_isRest 11 = .ok (.getfield 342, 3) := by decide +kernel
theorem dX12_isRest_14 : decode cX12_isRest 14 = .ok (.iload_n 1, 1) := by decide +kernel
theorem dX12_isRest_15 : decode cX12_isRest 15 = .ok (.invokestatic 280, 3) := by decide +kernel
theorem dX12_isRest_18 : decode cX12_isRest 18 = .ok (.ifCond .eq 6, 3) := by decide +kernel
theorem dX12_isRest_21 : decode cX12_isRest 21 = .ok (.goto 83, 3) := by decide +kernel
theorem dX12_isRest_24 : decode cX12_isRest 24 = .ok (.aload_n 0, 1) := by decide +kernel
theorem dX12_isRest_25 : decode cX12_isRest 25 = .ok (.getfield 64, 3) := by decide +kernel
theorem dX12_isRest_28 : decode cX12_isRest 28 = .ok (.iload_n 1, 1) := by decide +kernel
theorem dX12_isRest_29 : decode cX12_isRest 29 = .ok (.iaload, 1) := by decide +kernel
theorem dX12_isRest_30 : decode cX12_isRest 30 = .ok (.istore_n 2, 1) := by decide +kernel
theorem dX12_isRest_31 : decode cX12_isRest 31 = .ok (.aload_n 0, 1) := by decide +kernel
theorem dX12_isRest_32 : decode cX12_isRest 32 = .ok (.iload_n 1, 1) := by decide +kernel
theorem dX12_isRest_33 : decode cX12_isRest 33 = .ok (.invokevirtual 433, 3) := by decide +kernel
theorem dX12_isRest_36 : decode cX12_isRest 36 = .ok (.istore_n 3, 1) := by decide +kernel
theorem dX12_isRest_37 : decode cX12_isRest 37 = .ok (.iconst 0, 1) := by decide +kernel
theorem dX12_isRest_38 : decode cX12_isRest 38 = .ok (.istore 4, 2) := by decide +kernel
theorem dX12_isRest_40 : decode cX12_isRest 40 = .ok (.iconst 0, 1) := by decide +kernel
theorem dX12_isRest_41 : decode cX12_isRest 41 = .ok (.istore 5, 2) := by decide +kernel
theorem dX12_isRest_43 : decode cX12_isRest 43 = .ok (.iload 5, 2) := by decide +kernel
theorem dX12_isRest_45 : decode cX12_isRest 45 = .ok (.aload_n 0, 1) := by decide +kernel
theorem dX12_isRest_46 : decode cX12_isRest 46 = .ok (.getfield 58, 3) := by decide +kernel
theorem dX12_isRest_49 : decode cX12_isRest 49 = .ok (.bipush 54, 2) := by decide +kernel
theorem dX12_isRest_51 : decode cX12_isRest 51 = .ok (.iaload, 1) := by decide +kernel
theorem dX12_isRest_52 : decode cX12_isRest 52 = .ok (.if_icmp .gt 38, 3) := by decide +kernel
theorem dX12_isRest_55 : decode cX12_isRest 55 = .ok (.iload 4, 2) := by decide +kernel
theorem dX12_isRest_57 : decode cX12_isRest 57 = .ok (.ifCond .ne 33, 3) := by decide +kernel
theorem dX12_isRest_60 : decode cX12_isRest 60 = .ok (.aload_n 0, 1) := by decide +kernel
theorem dX12_isRest_61 : decode cX12_isRest 61 = .ok (.getfield 64, 3) := by decide +kernel
theorem dX12_isRest_64 : decode cX12_isRest 64 = .ok (.iload_n 1, 1) := by decide +kernel
theorem dX12_isRest_65 : decode cX12_isRest 65 = .ok (.iload 5, 2) := by decide +kernel
theorem dX12_isRest_67 : decode cX12_isRest 67 = .ok (.iastore, 1) := by decide +kernel
theorem dX12_isRest_68 : decode cX12_isRest 68 = .ok (.aload_n 0, 1) := by decide +kernel
theorem dX12_isRest_69 : decode cX12_isRest 69 = .ok (.iload_n 1, 1) := by decide +kernel
theorem dX12_isRest_70 : decode cX12_isRest 70 = .ok (.invokevirtual 433, 3) := by decide +kernel
theorem dX12_isRest_73 : decode cX12_isRest 73 = .ok (.iload_n 3, 1) := by decide +kernel
theorem dX12_isRest_74 : decode cX12_isRest 74 = .ok (.if_icmp .le 7, 3) := by decide +kernel
theorem dX12_isRest_77 : decode cX12_isRest 77 = .ok (.iconst 1, 1) := by decide +kernel
theorem dX12_isRest_78 : decode cX12_isRest 78 = .ok (.goto 4, 3) := by decide +kernel
theorem dX12_isRest_81 : decode cX12_isRest 81 = .ok (.iconst 0, 1) := by decide +kernel
theorem dX12_isRest_82 : decode cX12_isRest 82 = .ok (.istore 4, 2) := by decide +kernel
theorem dX12_isRest_84 : decode cX12_isRest 84 = .ok (.iinc 5 1, 3) := by decide +kernel
theorem dX12_isRest_87 : decode cX12_isRest 87 = .ok (.goto (-44), 3) := by decide +kernel
theorem dX12_isRest_90 : decode cX12_isRest 90 = .ok (.aload_n 0, 1) := by decide +kernel
theorem dX12_isRest_91 : decode cX12_isRest 91 = .ok (.getfield 64, 3) := by decide +kernel
theorem dX12_isRest_94 : decode cX12_isRest 94 = .ok (.iload_n 1, 1) := by decide +kernel
theorem dX12_isRest_95 : decode cX12_isRest 95 = .ok (.iload_n 2, 1) := by decide +kernel
theorem dX12_isRest_96 : decode cX12_isRest 96 = .ok (.iastore, 1) := by decide +kernel
theorem dX12_isRest_97 : decode cX12_isRest 97 = .ok (.iload 4, 2) := by decide +kernel
theorem dX12_isRest_99 : decode cX12_isRest 99 = .ok (.ifCond .eq 5, 3) := by decide +kernel
theorem dX12_isRest_102 : decode cX12_isRest 102 = .ok (.iconst 0, 1) := by decide +kernel
theorem dX12_isRest_103 : decode cX12_isRest 103 = .ok (.ireturn, 1) := by decide +kernel
theorem dX12_isRest_104 : decode cX12_isRest 104 = .ok (.iinc 1 1, 3) := by decide +kernel
theorem dX12_isRest_107 : decode cX12_isRest 107 = .ok (.goto (-105), 3) := by decide +kernel
theorem dX12_isRest_110 : decode cX12_isRest 110 = .ok (.iconst 1, 1) := by decide +kernel
theorem dX12_isRest_111 : decode cX12_isRest 111 = .ok (.ireturn, 1) := by decide +kernel
theorem dX12_goRests_0 : decode cX12_goRests 0 = .ok (.iload_n 1, 1) := by decide +kernel
theorem dX12_goRests_1 : decode cX12_goRests 1 = .ok (.aload_n 0, 1) := by decide +kernel
theorem dX12_goRests_2 : decode cX12_goRests 2 = .ok (.getfield 305, 3) := by decide +kernel
theorem dX12_goRests_5 : decode cX12_goRests 5 = .ok (.if_icmp .ne 38, 3) := by decide +kernel
theorem dX12_goRests_8 : decode cX12_goRests 8 = .ok (.aload_n 0, 1) := by decide +kernel
theorem dX12_goRests_9 : decode cX12_goRests 9 = .ok (.invokevirtual 436, 3) := by decide +kernel
theorem dX12_goRests_12 : decode cX12_goRests 12 = .ok (.ifCond .ne 4, 3) := by decide +kernel
theorem dX12_goRests_15 : decode cX12_goRests 15 = .ok (.return_, 1) := by decide +kernel
theorem dX12_goRests_16 : decode cX12_goRests 16 = .ok (.aload_n 0, 1) := by decide +kernel
theorem dX12_goRests_17 : decode cX12_goRests 17 = .ok (.getfield 439, 3) := by decide +kernel
theorem dX12_goRests_20 : decode cX12_goRests 20 = .ok (.aload_n 0, 1) := by decide +kernel
theorem dX12_goRests_21 : decode cX12_goRests 21 = .ok (.getfield 442, 3) := by decide +kernel
theorem dX12_goRests_24 : decode cX12_goRests 24 = .ok (.if_icmp .ne 8, 3) := by decide +kernel
theorem dX12_goRests_27 : decode cX12_goRests 27 = .ok (.aload_n 0, 1) := by decide +kernel
theorem dX12_goRests_28 : decode cX12_goRests 28 = .ok (.iload_n 2, 1) := by decide +kernel
theorem dX12_goRests_29 : decode cX12_goRests 29 = .ok (.putfield 445, 3) := by decide +kernel
theorem dX12_goRests_32 : decode cX12_goRests 32 = .ok (.aload_n 0, 1) := by decide +kernel
theorem dX12_goRests_33 : decode cX12_goRests 33 = .ok (.dup, 1) := by decide +kernel
theorem dX12_goRests_34 : decode cX12_goRests 34 = .ok (.getfield 439, 3) := by decide +kernel
theorem dX12_goRests_37 : decode cX12_goRests 37 = .ok (.iconst 1, 1) := by decide +kernel
theorem dX12_goRests_38 : decode cX12_goRests 38 = .ok (.iadd, 1) := by decide +kernel
theorem dX12_goRests_39 : decode cX12_goRests 39 = .ok (.putfield 439, 3) := by decide +kernel
theorem dX12_goRests_42 : decode cX12_goRests 42 = .ok (.return_, 1) := by decide +kernel
theorem dX12_goRests_43 : decode cX12_goRests 43 = .ok (.aload_n 0, 1) := by decide +kernel
theorem dX12_goRests_44 : decode cX12_goRests 44 = .ok (.getfield 342, 3) := by decide +kernel
theorem dX12_goRests_47 : decode cX12_goRests 47 = .ok (.iload_n 1, 1) := by decide +kernel
theorem dX12_goRests_48 : decode cX12_goRests 48 = .ok (.invokestatic 280, 3) := by decide +kernel
theorem dX12_goRests_51 : decode cX12_goRests 51 = .ok (.ifCond .eq 13, 3) := by decide +kernel
theorem dX12_goRests_54 : decode cX12_goRests 54 = .ok (.aload_n 0, 1) := by decide +kernel
theorem dX12_goRests_55 : decode cX12_goRests 55 = .ok (.getfield 58, 3) := by decide +kernel
theorem dX12_goRests_58 : decode cX12_goRests 58 = .ok (.bipush 54, 2) := by decide +kernel
theorem dX12_goRests_60 : decode cX12_goRests 60 = .ok (.iaload, 1) := by decide +kernel
theorem dX12_goRests_61 : decode cX12_goRests 61 = .ok (.goto 4, 3) := by decide +kernel
theorem dX12_goRests_64 : decode cX12_goRests 64 = .ok (.iconst 0, 1) := by decide +kernel
theorem dX12_goRests_65 : decode cX12_goRests 65 = .ok (.istore_n 3, 1) := by decide +kernel
theorem dX12_goRests_66 : decode cX12_goRests 66 = .ok (.iload_n 3, 1) := by decide +kernel
theorem dX12_goRests_67 : decode cX12_goRests 67 = .ok (.aload_n 0, 1) := by decide +kernel
theorem dX12_goRests_68 : decode cX12_goRests 68 = .ok (.getfield 58, 3) := by decide +kernel
theorem dX12_goRests_71 : decode cX12_goRests 71 = .ok (.bipush 54, 2) := by decide +kernel
theorem dX12_goRests_73 : decode cX12_goRests 73 = .ok (.iaload, 1) := by decide +kernel
theorem dX12_goRests_74 : decode cX12_goRests 74 = .ok (.if_icmp .gt 29, 3) := by decide +kernel
theorem dX12_goRests_77 : decode cX12_goRests 77 = .ok (.aload_n 0, 1) := by decide +kernel
theorem dX12_goRests_78 : decode cX12_goRests 78 = .ok (.getfield 64, 3) := by decide +kernel
theorem dX12_goRests_81 : decode cX12_goRests 81 = .ok (.iload_n 1, 1) := by decide +kernel
theorem dX12_goRests_82 : decode cX12_goRests 82 = .ok (.iload_n 3, 1) := by decide +kernel
theorem dX12_goRests_83 : decode cX12_goRests 83 = .ok (.iastore, 1) := by decide +kernel
theorem dX12_goRests_84 : decode cX12_goRests 84 = .ok (.aload_n 0, 1) := by decide +kernel
theorem dX12_goRests_85 : decode cX12_goRests 85 = .ok (.iload_n 1, 1) := by decide +kernel
theorem dX12_goRests_86 : decode cX12_goRests 86 = .ok (.iconst 1, 1) := by decide +kernel
theorem dX12_goRests_87 : decode cX12_goRests 87 = .ok (.iadd, 1) := by decide +kernel
theorem dX12_goRests_88 : decode cX12_goRests 88 = .ok (.bipush 100, 2) := by decide +kernel
theorem dX12_goRests_90 : decode cX12_goRests 90 = .ok (.iload_n 2, 1) := by decide +kernel
theorem dX12_goRests_91 : decode cX12_goRests 91 = .ok (.imul, 1) := by decide +kernel
theorem dX12_goRests_92 : decode cX12_goRests 92 = .ok (.iload_n 3, 1) := by decide +kernel
theorem dX12_goRests_93 : decode cX12_goRests 93 = .ok (.iadd, 1) := by decide +kernel
theorem dX12_goRests_94 : decode cX12_goRests 94 = .ok (.invokevirtual 448, 3) := by decide +kernel
theorem dX12_goRests_97 : decode cX12_goRests 97 = .ok (.iinc 3 1, 3) := by decide +kernel
theorem dX12_goRests_100 : decode cX12_goRests 100 = .ok (.goto (-34), 3) := by decide +kernel
theorem dX12_goRests_103 : decode cX12_goRests 103 = .ok (.return_, 1) := by decide +kernel
theorem dX12_rest_0 : decode cX12_rest 0 = .ok (.aload_n 0, 1) := by decide +kernel
theorem dX12_rest_1 : decode cX12_rest 1 = .ok (.iconst 0, 1) := by decide +kernel
theorem dX12_rest_2 : decode cX12_rest 2 = .ok (.putfield 131, 3) := by decide +kernel
theorem dX12_rest_5 : decode cX12_rest 5 = .ok (.aload_n 0, 1) := by decide +kernel
theorem dX12_rest_6 : decode cX12_rest 6 = .ok (.getfield 305, 3) := by decide +kernel
theorem dX12_rest_9 : decode cX12_rest 9 = .ok (.ifCond .eq 11, 3) := by decide +kernel
theorem dX12_rest_12 : decode cX12_rest 12 = .ok (.aload_n 0, 1) := by decide +kernel
theorem dX12_rest_13 : decode cX12_rest 13 = .ok (.getfield 305, 3) := by decide +kernel
theorem dX12_rest_16 : decode cX12_rest 16 = .ok (.iconst 3, 1) := by decide +kernel
theorem dX12_rest_17 : decode cX12_rest 17 = .ok (.if_icmp .le 7, 3) := by decide +kernel
theorem dX12_rest_20 : decode cX12_rest 20 = .ok (.ldc_w 432, 3) := by decide +kernel
theorem dX12_rest_23 : decode cX12_rest 23 = .ok (.ireturn, 1) := by decide +kernel
theorem dX12_rest_24 : decode cX12_rest 24 = .ok (.iload_n 1, 1) := by decide +kernel
theorem dX12_rest_25 : decode cX12_rest 25 = .ok (.iconst (-1), 1) := by decide +kernel
theorem dX12_rest_26 : decode cX12_rest 26 = .ok (.if_icmp .ge 5, 3) := by decide +kernel
theorem dX12_rest_29 : decode cX12_rest 29 = .ok (.iconst (-1), 1) := by decide +kernel
theorem dX12_rest_30 : decode cX12_rest 30 = .ok (.ireturn, 1) := by decide +kernel
theorem dX12_rest_31 : decode cX12_rest 31 = .ok (.aload_n 0, 1) := by decide +kernel
theorem dX12_rest_32 : decode cX12_rest 32 = .ok (.invokevirtual 404, 3) := by decide +kernel
theorem dX12_rest_35 : decode cX12_rest 35 = .ok (.aload_n 0, 1) := by decide +kernel
theorem dX12_rest_36 : decode cX12_rest 36 = .ok (.iconst 0, 1) := by decide +kernel
theorem dX12_rest_37 : decode cX12_rest 37 = .ok (.putfield 439, 3) := by decide +kernel
theorem dX12_rest_40 : decode cX12_rest 40 = .ok (.aload_n 0, 1) := by decide +kernel
theorem dX12_rest_41 : decode cX12_rest 41 = .ok (.iload_n 1, 1) := by decide +kernel
theorem dX12_rest_42 : decode cX12_rest 42 = .ok (.putfield 442, 3) := by decide +kernel
theorem dX12_rest_45 : decode cX12_rest 45 = .ok (.aload_n 0, 1) := by decide +kernel
theorem dX12_rest_46 : decode cX12_rest 46 = .ok (.iconst (-1), 1) := by decide +kernel
theorem dX12_rest_47 : decode cX12_rest 47 = .ok (.putfield 445, 3) := by decide +kernel
theorem dX12_rest_50 : decode cX12_rest 50 = .ok (.aload_n 0, 1) := by decide +kernel
theorem dX12_rest_51 : decode cX12_rest 51 = .ok (.iconst 0, 1) := by decide +kernel
theorem dX12_rest_52 : decode cX12_rest 52 = .ok (.iconst 0, 1) := by decide +kernel
theorem dX12_rest_53 : decode cX12_rest 53 = .ok (.invokevirtual 448, 3) := by decide +kernel
theorem dX12_rest_56 : decode cX12_rest 56 = .ok (.aload_n 0, 1) := by decide +kernel
theorem dX12_rest_57 : decode cX12_rest 57 = .ok (.invokevirtual 410, 3) := by decide +kernel
theorem dX12_rest_60 : decode cX12_rest 60 = .ok (.aload_n 0, 1) := by decide +kernel
theorem dX12_rest_61 : decode cX12_rest 61 = .ok (.invokevirtual 393, 3) := by decide +kernel
theorem dX12_rest_64 : decode cX12_rest 64 = .ok (.iload_n 1, 1) := by decide +kernel
theorem dX12_rest_65 : decode cX12_rest 65 = .ok (.iconst (-1), 1) := by decide +kernel
theorem dX12_rest_66 : decode cX12_rest 66 = .ok (.if_icmp .ne 10, 3) := by decide +kernel
theorem dX12_rest_69 : decode cX12_rest 69 = .ok (.aload_n 0, 1) := by decide +kernel
theorem dX12_rest_70 : decode cX12_rest 70 = .ok (.getfield 439, 3) := by decide +kernel
theorem dX12_rest_73 : decode cX12_rest 73 = .ok (.goto 7, 3) := by decide +kernel
theorem dX12_rest_76 : decode cX12_rest 76 = .ok (.aload_n 0, 1) := by decide +kernel
theorem dX12_rest_77 : decode cX12_rest 77 = .ok (.getfield 445, 3) := by decide +kernel
theorem dX12_rest_80 : decode cX12_rest 80 = .ok (.ireturn, 1) := by decide +kernel
theorem dX12_gainsBy_0 : decode cX12_gainsBy 0 = .ok (.aload_n 0, 1) := by decide +kernel
theorem dX12_gainsBy_1 : decode cX12_gainsBy 1 = .ok (.invokevirtual 410, 3) := by decide +kernel
theorem dX12_gainsBy_4 : decode cX12_gainsBy 4 = .ok (.aload_n 0, 1) := by decide +kernel
theorem dX12_gainsBy_5 : decode cX12_gainsBy 5 = .ok (.iload_n 1, 1) := by decide +kernel
theorem dX12_gainsBy_6 : decode cX12_gainsBy 6 = .ok (.putfield 342, 3) := by decide +kernel
theorem dX12_gainsBy_9 : decode cX12_gainsBy 9 = .ok (.aload_n 0, 1) := by decide +kernel
theorem dX12_gainsBy_10 : decode cX12_gainsBy 10 = .ok (.iload_n 2, 1) := by decide +kernel
theorem dX12_gainsBy_11 : decode cX12_gainsBy 11 = .ok (.invokevirtual 407, 3) := by decide +kernel
theorem dX12_gainsBy_14 : decode cX12_gainsBy 14 = .ok (.iconst 0, 1) := by decide +kernel
theorem dX12_gainsBy_15 : decode cX12_gainsBy 15 = .ok (.istore 5, 2) := by decide +kernel
theorem dX12_gainsBy_17 : decode cX12_gainsBy 17 = .ok (.iconst 0, 1) := by decide +kernel
theorem dX12_gainsBy_18 : decode cX12_gainsBy 18 = .ok (.istore 6, 2) := by decide +kernel
theorem dX12_gainsBy_20 : decode cX12_gainsBy 20 = .ok (.iload 6, 2) := by decide +kernel
theorem dX12_gainsBy_22 : decode cX12_gainsBy 22 = .ok (.aload_n 0, 1) := by decide +kernel
theorem dX12_gainsBy_23 : decode cX12_gainsBy 23 = .ok (.getfield 305, 3) := by decide +kernel
theorem dX12_gainsBy_26 : decode cX12_gainsBy 26 = .ok (.if_icmp .ge 44, 3) := by decide +kernel
theorem dX12_gainsBy_29 : decode cX12_gainsBy 29 = .ok (.iload 5, 2) := by decide +kernel
theorem dX12_gainsBy_31 : decode cX12_gainsBy 31 = .ok (.iload 6, 2) := by decide +kernel
theorem dX12_gainsBy_33 : decode cX12_gainsBy 33 = .ok (.iload_n 3, 1) := by decide +kernel
theorem dX12_gainsBy_34 : decode cX12_gainsBy 34 = .ok (.if_icmp .ne 7, 3) := by decide +kernel
theorem dX12_gainsBy_37 : decode cX12_gainsBy 37 = .ok (.iconst 1, 1) := by decide +kernel
theorem dX12_gainsBy_38 : decode cX12_gainsBy 38 = .ok (.goto 4, 3) := by decide +kernel
theorem dX12_gainsBy_41 : decode cX12_gainsBy 41 = .ok (.iconst 0, 1) := by decide +kernel
theorem dX12_gainsBy_42 : decode cX12_gainsBy 42 = .ok (.iload 4, 2) := by decide +kernel
theorem dX12_gainsBy_44 : decode cX12_gainsBy 44 = .ok (.if_icmp .eq 16, 3) := by decide +kernel
theorem dX12_gainsBy_47 : decode cX12_gainsBy 47 = .ok (.aload_n 0, 1) := by decide +kernel
theorem dX12_gainsBy_48 : decode cX12_gainsBy 48 = .ok (.getfield 55, 3) := by decide +kernel
theorem dX12_gainsBy_51 : decode cX12_gainsBy 51 = .ok (.bipush 12, 2) := by decide +kernel
theorem dX12_gainsBy_53 : decode cX12_gainsBy 53 = .ok (.iload 6, 2) := by decide +kernel
theorem dX12_gainsBy_55 : decode cX12_gainsBy 55 = .ok (.iadd, 1) := by decide +kernel
theorem dX12_gainsBy_56 : decode cX12_gainsBy 56 = .ok (.iaload, 1) := by decide +kernel
theorem dX12_gainsBy_57 : decode cX12_gainsBy 57 = .ok (.goto 4, 3) := by decide +kernel
theorem dX12_gainsBy_60 : decode cX12_gainsBy 60 = .ok (.iconst 0, 1) := by decide +kernel
theorem dX12_gainsBy_61 : decode cX12_gainsBy 61 = .ok (.iadd, 1) := by decide +kernel
theorem dX12_gainsBy_62 : decode cX12_gainsBy 62 = .ok (.istore 5, 2) := by decide +kernel
theorem dX12_gainsBy_64 : decode cX12_gainsBy 64 = .ok (.iinc 6 1, 3) := by decide +kernel
theorem dX12_gainsBy_67 : decode cX12_gainsBy 67 = .ok (.goto (-47), 3) := by decide +kernel
theorem dX12_gainsBy_70 : decode cX12_gainsBy 70 = .ok (.aload_n 0, 1) := by decide +kernel
theorem dX12_gainsBy_71 : decode cX12_gainsBy 71 = .ok (.invokevirtual 410, 3) := by decide +kernel
theorem dX12_gainsBy_74 : decode cX12_gainsBy 74 = .ok (.iload 5, 2) := by decide +kernel
theorem dX12_gainsBy_76 : decode cX12_gainsBy 76 = .ok (.ireturn, 1) := by decide +kernel
theorem dX12_fool_0 : decode cX12_fool 0 = .ok (.aload_n 0, 1) := by decide +kernel
theorem dX12_fool_1 : decode cX12_fool 1 = .ok (.iconst 0, 1) := by decide +kernel
theorem dX12_fool_2 : decode cX12_fool 2 = .ok (.putfield 131, 3) := by decide +kernel
theorem dX12_fool_5 : decode cX12_fool 5 = .ok (.aload_n 0, 1) := by decide +kernel
theorem dX12_fool_6 : decode cX12_fool 6 = .ok (.iload_n 1, 1) := by decide +kernel
theorem dX12_fool_7 : decode cX12_fool 7 = .ok (.invokevirtual 323, 3) := by decide +kernel
theorem dX12_fool_10 : decode cX12_fool 10 = .ok (.ifCond .eq 20, 3) := by decide +kernel
theorem dX12_fool_13 : decode cX12_fool 13 = .ok (.iload_n 2, 1) := by decide +kernel
theorem dX12_fool_14 : decode cX12_fool 14 = .ok (.invokestatic 387, 3) := by decide +kernel
theorem dX12_fool_17 : decode cX12_fool 17 = .ok (.ifCond .eq 13, 3) := by decide +kernel
theorem dX12_fool_20 : decode cX12_fool 20 = .ok (.iload_n 3, 1) := by decide +kernel
theorem dX12_fool_21 : decode cX12_fool 21 = .ok (.i2l, 1) := by decide +kernel
theorem dX12_fool_22 : decode cX12_fool 22 = .ok (.lconst 0, 1) := by decide +kernel
theorem dX12_fool_23 : decode cX12_fool 23 = .ok (.lconst 1, 1) := by decide +kernel
theorem dX12_fool_24 : decode cX12_fool 24 = .ok (.invokestatic 253, 3) := by decide +kernel
theorem dX12_fool_27 : decode cX12_fool 27 = .ok (.ifCond .ne 7, 3) := by decide +kernel
theorem dX12_fool_30 : decode cX12_fool 30 = .ok (.ldc_w 432, 3) := by decide +kernel
theorem dX12_fool_33 : decode cX12_fool 33 = .ok (.ireturn, 1) := by decide +kernel
theorem dX12_fool_34 : decode cX12_fool 34 = .ok (.aload_n 0, 1) := by decide +kernel
theorem dX12_fool_35 : decode cX12_fool 35 = .ok (.invokevirtual 404, 3) := by decide +kernel
theorem dX12_fool_38 : decode cX12_fool 38 = .ok (.aload_n 0, 1) := by decide +kernel
theorem dX12_fool_39 : decode cX12_fool 39 = .ok (.aload_n 0, 1) := by decide +kernel
theorem dX12_fool_40 : decode cX12_fool 40 = .ok (.getfield 311, 3) := by decide +kernel
theorem dX12_fool_43 : decode cX12_fool 43 = .ok (.iconst 1, 1) := by decide +kernel
theorem dX12_fool_44 : decode cX12_fool 44 = .ok (.iload_n 1, 1) := by decide +kernel
theorem dX12_fool_45 : decode cX12_fool 45 = .ok (.ishl, 1) := by decide +kernel
theorem dX12_fool_46 : decode cX12_fool 46 = .ok (.ior, 1) := by decide +kernel
theorem dX12_fool_47 : decode cX12_fool 47 = .ok (.iload_n 2, 1) := by decide +kernel
theorem dX12_fool_48 : decode cX12_fool 48 = .ok (.iload_n 1, 1) := by decide +kernel
theorem dX12_fool_49 : decode cX12_fool 49 = .ok (.iload_n 3, 1) := by decide +kernel
theorem dX12_fool_50 : decode cX12_fool 50 = .ok (.iconst 1, 1) := by decide +kernel
theorem dX12_fool_51 : decode cX12_fool 51 = .ok (.if_icmp .ne 7, 3) := by decide +kernel
theorem dX12_fool_54 : decode cX12_fool 54 = .ok (.iconst 1, 1) := by decide +kernel
theorem dX12_fool_55 : decode cX12_fool 55 = .ok (.goto 4, 3) := by decide +kernel
theorem dX12_fool_58 : decode cX12_fool 58 = .ok (.iconst 0, 1) := by decide +kernel
theorem dX12_fool_59 : decode cX12_fool 59 = .ok (.invokevirtual 452, 3) := by decide +kernel
theorem dX12_fool_62 : decode cX12_fool 62 = .ok (.istore 4, 2) := by decide +kernel
theorem dX12_fool_64 : decode cX12_fool 64 = .ok (.aload_n 0, 1) := by decide +kernel
theorem dX12_fool_65 : decode cX12_fool 65 = .ok (.aload_n 0, 1) := by decide +kernel
theorem dX12_fool_66 : decode cX12_fool 66 = .ok (.getfield 311, 3) := by decide +kernel
theorem dX12_fool_69 : decode cX12_fool 69 = .ok (.iconst 1, 1) := by decide +kernel
theorem dX12_fool_70 : decode cX12_fool 70 = .ok (.iload_n 1, 1) := by decide +kernel
theorem dX12_fool_71 : decode cX12_fool 71 = .ok (.ishl, 1) := by decide +kernel
theorem dX12_fool_72 : decode cX12_fool 72 = .ok (.iconst (-1), 1) := by decide +kernel
theorem dX12_fool_73 : decode cX12_fool 73 = .ok (.ixor, 1) := by decide +kernel
theorem dX12_fool_74 : decode cX12_fool 74 = .ok (.iand, 1) := by decide +kernel
theorem dX12_fool_75 : decode cX12_fool 75 = .ok (.iload_n 2, 1) := by decide +kernel
theorem dX12_fool_76 : decode cX12_fool 76 = .ok (.iload_n 1, 1) := by decide +kernel
theorem dX12_fool_77 : decode cX12_fool 77 = .ok (.iload_n 3, 1) := by decide +kernel
theorem dX12_fool_78 : decode cX12_fool 78 = .ok (.iconst 1, 1) := by decide +kernel
theorem dX12_fool_79 : decode cX12_fool 79 = .ok (.if_icmp .ne 7, 3) := by decide +kernel
theorem dX12_fool_82 : decode cX12_fool 82 = .ok (.iconst 1, 1) := by decide +kernel
theorem dX12_fool_83 : decode cX12_fool 83 = .ok (.goto 4, 3) := by decide +kernel
theorem dX12_fool_86 : decode cX12_fool 86 = .ok (.iconst 0, 1) := by decide +kernel
theorem dX12_fool_87 : decode cX12_fool 87 = .ok (.invokevirtual 452, 3) := by decide +kernel
theorem dX12_fool_90 : decode cX12_fool 90 = .ok (.istore 5, 2) := by decide +kernel
theorem dX12_fool_92 : decode cX12_fool 92 = .ok (.iload_n 3, 1) := by decide +kernel
theorem dX12_fool_93 : decode cX12_fool 93 = .ok (.ifCond .ne 11, 3) := by decide +kernel
theorem dX12_fool_96 : decode cX12_fool 96 = .ok (.iload 5, 2) := by decide +kernel
theorem dX12_fool_98 : decode cX12_fool 98 = .ok (.iload 4, 2) := by decide +kernel
theorem dX12_fool_100 : decode cX12_fool 100 = .ok (.isub, 1) := by decide +kernel
theorem dX12_fool_101 : decode cX12_fool 101 = .ok (.goto 8, 3) := by decide +kernel
theorem dX12_fool_104 : decode cX12_fool 104 = .ok (.iload 4, 2) := by decide +kernel
theorem dX12_fool_106 : decode cX12_fool 106 = .ok (.iload 5, 2) := by decide +kernel
theorem dX12_fool_108 : decode cX12_fool 108 = .ok (.isub, 1) := by decide +kernel
theorem dX12_fool_109 : decode cX12_fool 109 = .ok (.ireturn, 1) := by decide +kernel
theorem dX12_up_0 : decode cX12_up 0 = .ok (.aload_n 0, 1) := by decide +kernel
theorem dX12_up_1 : decode cX12_up 1 = .ok (.iconst 0, 1) := by decide +kernel
theorem dX12_up_2 : decode cX12_up 2 = .ok (.putfield 131, 3) := by decide +kernel
theorem dX12_up_5 : decode cX12_up 5 = .ok (.aload_n 0, 1) := by decide +kernel
theorem dX12_up_6 : decode cX12_up 6 = .ok (.iload_n 1, 1) := by decide +kernel
theorem dX12_up_7 : decode cX12_up 7 = .ok (.invokevirtual 390, 3) := by decide +kernel
theorem dX12_up_10 : decode cX12_up 10 = .ok (.ifCond .eq 15, 3) := by decide +kernel
theorem dX12_up_13 : decode cX12_up 13 = .ok (.iload_n 2, 1) := by decide +kernel
theorem dX12_up_14 : decode cX12_up 14 = .ok (.i2l, 1) := by decide +kernel
theorem dX12_up_15 : decode cX12_up 15 = .ok (.lconst 0, 1) := by decide +kernel
theorem dX12_up_16 : decode cX12_up 16 = .ok (.ldc2_w 456, 3) := by decide +kernel
theorem dX12_up_19 : decode cX12_up 19 = .ok (.invokestatic 253, 3) := by decide +kernel
theorem dX12_up_22 : decode cX12_up 22 = .ok (.ifCond .ne 5, 3) := by decide +kernel
theorem dX12_up_25 : decode cX12_up 25 = .ok (.iconst (-1), 1) := by decide +kernel
theorem dX12_up_26 : decode cX12_up 26 = .ok (.ireturn, 1) := by decide +kernel
theorem dX12_up_27 : decode cX12_up 27 = .ok (.aload_n 0, 1) := by decide +kernel
theorem dX12_up_28 : decode cX12_up 28 = .ok (.invokevirtual 404, 3) := by decide +kernel
theorem dX12_up_31 : decode cX12_up 31 = .ok (.iconst (-1), 1) := by decide +kernel
theorem dX12_up_32 : decode cX12_up 32 = .ok (.istore_n 3, 1) := by decide +kernel
theorem dX12_up_33 : decode cX12_up 33 = .ok (.iconst 0, 1) := by decide +kernel
theorem dX12_up_34 : decode cX12_up 34 = .ok (.istore 4, 2) := by decide +kernel
theorem dX12_up_36 : decode cX12_up 36 = .ok (.iload 4, 2) := by decide +kernel
theorem dX12_up_38 : decode cX12_up 38 = .ok (.iconst 1, 1) := by decide +kernel
theorem dX12_up_39 : decode cX12_up 39 = .ok (.aload_n 0, 1) := by decide +kernel
theorem dX12_up_40 : decode cX12_up 40 = .ok (.getfield 305, 3) := by decide +kernel
theorem dX12_up_43 : decode cX12_up 43 = .ok (.ishl, 1) := by decide +kernel
theorem dX12_up_44 : decode cX12_up 44 = .ok (.if_icmp .ge 57, 3) := by decide +kernel
theorem dX12_up_47 : decode cX12_up 47 = .ok (.iload_n 3, 1) := by decide +kernel
theorem dX12_up_48 : decode cX12_up 48 = .ok (.iconst (-1), 1) := by decide +kernel
theorem dX12_up_49 : decode cX12_up 49 = .ok (.if_icmp .eq 18, 3) := by decide +kernel
theorem dX12_up_52 : decode cX12_up 52 = .ok (.iload 4, 2) := by decide +kernel
theorem dX12_up_54 : decode cX12_up 54 = .ok (.invokestatic 458, 3) := by decide +kernel
theorem dX12_up_57 : decode cX12_up 57 = .ok (.iload_n 3, 1) := by decide +kernel
theorem dX12_up_58 : decode cX12_up 58 = .ok (.invokestatic 458, 3) := by decide +kernel
theorem dX12_up_61 : decode cX12_up 61 = .ok (.if_icmp .lt 6, 3) := by decide +kernel
theorem dX12_up_64 : decode cX12_up 64 = .ok (.goto 31, 3) := by decide +kernel
theorem dX12_up_67 : decode cX12_up 67 = .ok (.aload_n 0, 1) := by decide +kernel
theorem dX12_up_68 : decode cX12_up 68 = .ok (.iload 4, 2) := by decide +kernel
theorem dX12_up_70 : decode cX12_up 70 = .ok (.putfield 342, 3) := by decide +kernel
theorem dX12_up_73 : decode cX12_up 73 = .ok (.aload_n 0, 1) := by decide +kernel
theorem dX12_up_74 : decode cX12_up 74 = .ok (.iload_n 1, 1) := by decide +kernel
theorem dX12_up_75 : decode cX12_up 75 = .ok (.invokevirtual 407, 3) := by decide +kernel
theorem dX12_up_78 : decode cX12_up 78 = .ok (.aload_n 0, 1) := by decide +kernel
theorem dX12_up_79 : decode cX12_up 79 = .ok (.invokevirtual 410, 3) := by decide +kernel
theorem dX12_up_82 : decode cX12_up 82 = .ok (.aload_n 0, 1) := by decide +kernel
theorem dX12_up_83 : decode cX12_up 83 = .ok (.getfield 88, 3) := by decide +kernel
theorem dX12_up_86 : decode cX12_up 86 = .ok (.iload_n 1, 1) := by decide +kernel
theorem dX12_up_87 : decode cX12_up 87 = .ok (.iaload, 1) := by decide +kernel
theorem dX12_up_88 : decode cX12_up 88 = .ok (.iload_n 2, 1) := by decide +kernel
theorem dX12_up_89 : decode cX12_up 89 = .ok (.if_icmp .lt 6, 3) := by decide +kernel
theorem dX12_up_92 : decode cX12_up 92 = .ok (.iload 4, 2) := by decide +kernel
theorem dX12_up_94 : decode cX12_up 94 = .ok (.istore_n 3, 1) := by decide +kernel
theorem dX12_up_95 : decode cX12_up 95 = .ok (.iinc 4 1, 3) := by decide +kernel
theorem dX12_up_98 : decode cX12_up 98 = .ok (.goto (-62), 3) := by decide +kernel
theorem dX12_up_101 : decode cX12_up 101 = .ok (.iload_n 3, 1) := by decide +kernel
theorem dX12_up_102 : decode cX12_up 102 = .ok (.ireturn, 1) := by decide +kernel
theorem dX12_when_0 : decode cX12_when 0 = .ok (.aload_n 0, 1) := by decide +kernel
theorem dX12_when_1 : decode cX12_when 1 = .ok (.iconst 0, 1) := by decide +kernel
theorem dX12_when_2 : decode cX12_when 2 = .ok (.putfield 131, 3) := by decide +kernel
theorem dX12_when_5 : decode cX12_when 5 = .ok (.aload_n 0, 1) := by decide +kernel
theorem dX12_when_6 : decode cX12_when 6 = .ok (.iload_n 1, 1) := by decide +kernel
theorem dX12_when_7 : decode cX12_when 7 = .ok (.invokevirtual 390, 3) := by decide +kernel
theorem dX12_when_10 : decode cX12_when 10 = .ok (.ifCond .eq 13, 3) := by decide +kernel
theorem dX12_when_13 : decode cX12_when 13 = .ok (.iload_n 2, 1) := by decide +kernel
theorem dX12_when_14 : decode cX12_when 14 = .ok (.i2l, 1) := by decide +kernel
theorem dX12_when_15 : decode cX12_when 15 = .ok (.lconst 0, 1) := by decide +kernel
theorem dX12_when_16 : decode cX12_when 16 = .ok (.lconst 1, 1) := by decide +kernel
theorem dX12_when_17 : decode cX12_when 17 = .ok (.invokestatic 253, 3) := by decide +kernel
theorem dX12_when_20 : decode cX12_when 20 = .ok (.ifCond .ne 5, 3) := by decide +kernel
theorem dX12_when_23 : decode cX12_when 23 = .ok (.iconst (-1), 1) := by decide +kernel
theorem dX12_when_24 : decode cX12_when 24 = .ok (.ireturn, 1) := by decide +kernel
theorem dX12_when_25 : decode cX12_when 25 = .ok (.aload_n 0, 1) := by decide +kernel
theorem dX12_when_26 : decode cX12_when 26 = .ok (.invokevirtual 404, 3) := by decide +kernel
theorem dX12_when_29 : decode cX12_when 29 = .ok (.iconst (-1), 1) := by decide +kernel
theorem dX12_when_30 : decode cX12_when 30 = .ok (.istore_n 3, 1) := by decide +kernel
theorem dX12_when_31 : decode cX12_when 31 = .ok (.iconst 0, 1) := by decide +kernel
theorem dX12_when_32 : decode cX12_when 32 = .ok (.istore 4, 2) := by decide +kernel
theorem dX12_when_34 : decode cX12_when 34 = .ok (.iconst 0, 1) := by decide +kernel
theorem dX12_when_35 : decode cX12_when 35 = .ok (.istore 5, 2) := by decide +kernel
theorem dX12_when_37 : decode cX12_when 37 = .ok (.iload 5, 2) := by decide +kernel
theorem dX12_when_39 : decode cX12_when 39 = .ok (.iload_n 1, 1) := by decide +kernel
theorem dX12_when_40 : decode cX12_when 40 = .ok (.if_icmp .ge 86, 3) := by decide +kernel
theorem dX12_when_43 : decode cX12_when 43 = .ok (.aload_n 0, 1) := by decide +kernel
theorem dX12_when_44 : decode cX12_when 44 = .ok (.iconst 0, 1) := by decide +kernel
theorem dX12_when_45 : decode cX12_when 45 = .ok (.invokevirtual 400, 3) := by decide +kernel
theorem dX12_when_48 : decode cX12_when 48 = .ok (.iconst 0, 1) := by decide +kernel
theorem dX12_when_49 : decode cX12_when 49 = .ok (.istore 6, 2) := by decide +kernel
theorem dX12_when_51 : decode cX12_when 51 = .ok (.iload 6, 2) := by decide +kernel
theorem dX12_when_53 : decode cX12_when 53 = .ok (.aload_n 0, 1) := by decide +kernel
theorem dX12_when_54 : decode cX12_when 54 = .ok (.getfield 305, 3) := by decide +kernel
theorem dX12_when_57 : decode cX12_when 57 = .ok (.if_icmp .ge 63, 3) := by decide +kernel
theorem dX12_when_60 : decode cX12_when 60 = .ok (.aload_n 0, 1) := by decide +kernel
theorem dX12_when_61 : decode cX12_when 61 = .ok (.getfield 73, 3) := by decide +kernel
theorem dX12_when_64 : decode cX12_when 64 = .ok (.iload 6, 2) := by decide +kernel
theorem dX12_when_66 : decode cX12_when 66 = .ok (.iaload, 1) := by decide +kernel
theorem dX12_when_67 : decode cX12_when 67 = .ok (.ifCond .eq 47, 3) := by decide +kernel
theorem dX12_when_70 : decode cX12_when 70 = .ok (.aload_n 0, 1) := by decide +kernel
theorem dX12_when_71 : decode cX12_when 71 = .ok (.getfield 342, 3) := by decide +kernel
theorem dX12_when_74 : decode cX12_when 74 = .ok (.iload 6, 2) := by decide +kernel
theorem dX12_when_76 : decode cX12_when 76 = .ok (.invokestatic 280, 3) := by decide +kernel
theorem dX12_when_79 : decode cX12_when 79 = .ok (.ifCond .ne 35, 3) := by decide +kernel
theorem dX12_when_82 : decode cX12_when 82 = .ok (.iload_n 3, 1) := by decide +kernel
theorem dX12_when_83 : decode cX12_when 83 = .ok (.iconst (-1), 1) := by decide +kernel
theorem dX12_when_84 : decode cX12_when 84 = .ok (.if_icmp .eq 18, 3) := by decide +kernel
theorem dX12_when_87 : decode cX12_when 87 = .ok (.aload_n 0, 1) := by decide +kernel
theorem dX12_when_88 : decode cX12_when 88 = .ok (.getfield 67, 3) := by decide +kernel
theorem dX12_when_91 : decode cX12_when 91 = .ok (.iload 6, 2) := by decide +kernel
theorem dX12_when_93 : decode cX12_when 93 = .ok (.iaload, 1) := by decide +kernel
theorem dX12_when_94 : decode cX12_when 94 = .ok (.iload 4, 2) := by decide +kernel
theorem dX12_when_96 : decode cX12_when 96 = .ok (.if_icmp .lt 6, 3) := by decide +kernel
theorem dX12_when_99 : decode cX12_when 99 = .ok (.goto 15, 3) := by decide +kernel
theorem dX12_when_102 : decode cX12_when 102 = .ok (.iload 5, 2) := by decide +kernel
theorem dX12_when_104 : decode cX12_when 104 = .ok (.istore_n 3, 1) := by decide +kernel
theorem dX12_when_105 : decode cX12_when 105 = .ok (.aload_n 0, 1) := by decide +kernel
theorem dX12_when_106 : decode cX12_when 106 = .ok (.getfield 67, 3) := by decide +kernel
theorem dX12_when_109 : decode cX12_when 109 = .ok (.iload 6, 2) := by decide +kernel
theorem dX12_when_111 : decode cX12_when 111 = .ok (.iaload, 1) := by decide +kernel
theorem dX12_when_112 : decode cX12_when 112 = .ok (.istore 4, 2) := by decide +kernel
theorem dX12_when_114 : decode cX12_when 114 = .ok (.iinc 6 1, 3) := by decide +kernel
theorem dX12_when_117 : decode cX12_when 117 = .ok (.goto (-66), 3) := by decide +kernel
theorem dX12_when_120 : decode cX12_when 120 = .ok (.iinc 5 1, 3) := by decide +kernel
theorem dX12_when_123 : decode cX12_when 123 = .ok (.goto (-86), 3) := by decide +kernel
theorem dX12_when_126 : decode cX12_when 126 = .ok (.aload_n 0, 1) := by decide +kernel
theorem dX12_when_127 : decode cX12_when 127 = .ok (.invokevirtual 410, 3) := by decide +kernel
theorem dX12_when_130 : decode cX12_when 130 = .ok (.iload_n 3, 1) := by decide +kernel
theorem dX12_when_131 : decode cX12_when 131 = .ok (.iconst (-1), 1) := by decide +kernel
theorem dX12_when_132 : decode cX12_when 132 = .ok (.if_icmp .ne 7, 3) := by decide +kernel
theorem dX12_when_135 : decode cX12_when 135 = .ok (.iconst (-1), 1) := by decide +kernel
theorem dX12_when_136 : decode cX12_when 136 = .ok (.goto 13, 3) := by decide +kernel
theorem dX12_when_139 : decode cX12_when 139 = .ok (.iload_n 2, 1) := by decide +kernel
theorem dX12_when_140 : decode cX12_when 140 = .ok (.ifCond .ne 7, 3) := by decide +kernel
theorem dX12_when_143 : decode cX12_when 143 = .ok (.iload_n 3, 1) := by decide +kernel
theorem dX12_when_144 : decode cX12_when 144 = .ok (.goto 5, 3) := by decide +kernel
theorem dX12_when_147 : decode cX12_when 147 = .ok (.iload 4, 2) := by decide +kernel
theorem dX12_when_149 : decode cX12_when 149 = .ok (.ireturn, 1) := by decide +kernel
theorem dX12_takenByAll_0 : decode cX12_takenByAll 0 = .ok (.iconst 0, 1) := by decide +kernel
theorem dX12_takenByAll_1 : decode cX12_takenByAll 1 = .ok (.istore_n 1, 1) := by decide +kernel
theorem dX12_takenByAll_2 : decode cX12_takenByAll 2 = .ok (.iconst 0, 1) := by decide +kernel
theorem dX12_takenByAll_3 : decode cX12_takenByAll 3 = .ok (.istore_n 2, 1) := by decide +kernel
theorem dX12_takenByAll_4 : decode cX12_takenByAll 4 = .ok (.iload_n 2, 1) := by decide +kernel
theorem dX12_takenByAll_5 : decode cX12_takenByAll 5 = .ok (.aload_n 0, 1) := by decide +kernel
theorem dX12_takenByAll_6 : decode cX12_takenByAll 6 = .ok (.getfield 305, 3) := by decide +kernel
theorem dX12_takenByAll_9 : decode cX12_takenByAll 9 = .ok (.if_icmp .ge 18, 3) := by decide +kernel
theorem dX12_takenByAll_12 : decode cX12_takenByAll 12 = .ok (.iload_n 1, 1) := by decide +kernel
theorem dX12_takenByAll_13 : decode cX12_takenByAll 13 = .ok (.aload_n 0, 1) := by decide +kernel
theorem dX12_takenByAll_14 : decode cX12_takenByAll 14 = .ok (.getfield 70, 3) := by decide +kernel
theorem dX12_takenByAll_17 : decode cX12_takenByAll 17 = .ok (.iload_n 2, 1) := by decide +kernel
theorem dX12_takenByAll_18 : decode cX12_takenByAll 18 = .ok (.iaload, 1) := by decide +kernel
theorem dX12_takenByAll_19 : decode cX12_takenByAll 19 = .ok (.iadd, 1) := by decide +kernel
theorem dX12_takenByAll_20 : decode cX12_takenByAll 20 = .ok (.istore_n 1, 1) := by decide +kernel
theorem dX12_takenByAll_21 : decode cX12_takenByAll 21 = .ok (.iinc 2 1, 3) := by decide +kernel
theorem dX12_takenByAll_24 : decode cX12_takenByAll 24 = .ok (.goto (-20), 3) := by decide +kernel
theorem dX12_takenByAll_27 : decode cX12_takenByAll 27 = .ok (.iload_n 1, 1) := by decide +kernel
theorem dX12_takenByAll_28 : decode cX12_takenByAll 28 = .ok (.ireturn, 1) := by decide +kernel
theorem dX12_stranger_0 : decode cX12_stranger 0 = .ok (.aload_n 0, 1) := by decide +kernel
theorem dX12_stranger_1 : decode cX12_stranger 1 = .ok (.iconst 0, 1) := by decide +kernel
theorem dX12_stranger_2 : decode cX12_stranger 2 = .ok (.putfield 131, 3) := by decide +kernel
theorem dX12_stranger_5 : decode cX12_stranger 5 = .ok (.aload_n 0, 1) := by decide +kernel
theorem dX12_stranger_6 : decode cX12_stranger 6 = .ok (.getfield 305, 3) := by decide +kernel
theorem dX12_stranger_9 : decode cX12_stranger 9 = .ok (.ifCond .eq 39, 3) := by decide +kernel
theorem dX12_stranger_12 : decode cX12_stranger 12 = .ok (.iload_n 1, 1) := by decide +kernel
theorem dX12_stranger_13 : decode cX12_stranger 13 = .ok (.i2l, 1) := by decide +kernel
theorem dX12_stranger_14 : decode cX12_stranger 14 = .ok (.lconst 1, 1) := by decide +kernel
theorem dX12_stranger_15 : decode cX12_stranger 15 = .ok (.ldc2_w 463, 3) := by decide +kernel
theorem dX12_stranger_18 : decode cX12_stranger 18 = .ok (.invokestatic 253, 3) := by decide +kernel
theorem dX12_stranger_21 : decode cX12_stranger 21 = .ok (.ifCond .eq 27, 3) := by decide +kernel
theorem dX12_stranger_24 : decode cX12_stranger 24 = .ok (.iload_n 2, 1) := by decide +kernel
theorem dX12_stranger_25 : decode cX12_stranger 25 = .ok (.i2l, 1) := by decide +kernel
theorem dX12_stranger_26 : decode cX12_stranger 26 = .ok (.lconst 0, 1) := by decide +kernel
theorem dX12_stranger_27 : decode cX12_stranger 27 = .ok (.ldc2_w 456, 3) := by decide +kernel
theorem dX12_stranger_30 : decode cX12_stranger 30 = .ok (.invokestatic 253, 3) := by decide +kernel
theorem dX12_stranger_33 : decode cX12_stranger 33 = .ok (.ifCond .eq 15, 3) := by decide +kernel
theorem dX12_stranger_36 : decode cX12_stranger 36 = .ok (.iload_n 3, 1) := by decide +kernel
theorem dX12_stranger_37 : decode cX12_stranger 37 = .ok (.i2l, 1) := by decide +kernel
theorem dX12_stranger_38 : decode cX12_stranger 38 = .ok (.lconst 0, 1) := by decide +kernel
theorem dX12_stranger_39 : decode cX12_stranger 39 = .ok (.ldc2_w 465, 3) := by decide +kernel
theorem dX12_stranger_42 : decode cX12_stranger 42 = .ok (.invokestatic 253, 3) := by decide +kernel
theorem dX12_stranger_45 : decode cX12_stranger 45 = .ok (.ifCond .ne 7, 3) := by decide +kernel
theorem dX12_stranger_48 : decode cX12_stranger 48 = .ok (.ldc_w 432, 3) := by decide +kernel
theorem dX12_stranger_51 : decode cX12_stranger 51 = .ok (.ireturn, 1) := by decide +kernel
theorem dX12_stranger_52 : decode cX12_stranger 52 = .ok (.aload_n 0, 1) := by decide +kernel
theorem dX12_stranger_53 : decode cX12_stranger 53 = .ok (.invokevirtual 404, 3) := by decide +kernel
theorem dX12_stranger_56 : decode cX12_stranger 56 = .ok (.aload_n 0, 1) := by decide +kernel
theorem dX12_stranger_57 : decode cX12_stranger 57 = .ok (.iconst 0, 1) := by decide +kernel
theorem dX12_stranger_58 : decode cX12_stranger 58 = .ok (.invokevirtual 400, 3) := by decide +kernel
theorem dX12_stranger_61 : decode cX12_stranger 61 = .ok (.aload_n 0, 1) := by decide +kernel
theorem dX12_stranger_62 : decode cX12_stranger 62 = .ok (.invokevirtual 467, 3) := by decide +kernel
theorem dX12_stranger_65 : decode cX12_stranger 65 = .ok (.istore 4, 2) := by decide +kernel
theorem dX12_stranger_67 : decode cX12_stranger 67 = .ok (.aload_n 0, 1) := by decide +kernel
theorem dX12_stranger_68 : decode cX12_stranger 68 = .ok (.invokevirtual 410, 3) := by decide +kernel
theorem dX12_stranger_71 : decode cX12_stranger 71 = .ok (.aload_n 0, 1) := by decide +kernel
theorem dX12_stranger_72 : decode cX12_stranger 72 = .ok (.iload_n 1, 1) := by decide +kernel
theorem dX12_stranger_73 : decode cX12_stranger 73 = .ok (.putfield 349, 3) := by decide +kernel
theorem dX12_stranger_76 : decode cX12_stranger 76 = .ok (.aload_n 0, 1) := by decide +kernel
theorem dX12_stranger_77 : decode cX12_stranger 77 = .ok (.iload_n 2, 1) := by decide +kernel
theorem dX12_stranger_78 : decode cX12_stranger 78 = .ok (.putfield 376, 3) := by decide +kernel
theorem dX12_stranger_81 : decode cX12_stranger 81 = .ok (.aload_n 0, 1) := by decide +kernel
theorem dX12_stranger_82 : decode cX12_stranger 82 = .ok (.iconst 0, 1) := by decide +kernel
theorem dX12_stranger_83 : decode cX12_stranger 83 = .ok (.invokevirtual 400, 3) := by decide +kernel
theorem dX12_stranger_86 : decode cX12_stranger 86 = .ok (.aload_n 0, 1) := by decide +kernel
theorem dX12_stranger_87 : decode cX12_stranger 87 = .ok (.getfield 55, 3) := by decide +kernel
theorem dX12_stranger_90 : decode cX12_stranger 90 = .ok (.bipush 54, 2) := by decide +kernel
theorem dX12_stranger_92 : decode cX12_stranger 92 = .ok (.iaload, 1) := by decide +kernel
theorem dX12_stranger_93 : decode cX12_stranger 93 = .ok (.istore 5, 2) := by decide +kernel
theorem dX12_stranger_95 : decode cX12_stranger 95 = .ok (.iload 4, 2) := by decide +kernel
theorem dX12_stranger_97 : decode cX12_stranger 97 = .ok (.aload_n 0, 1) := by decide +kernel
theorem dX12_stranger_98 : decode cX12_stranger 98 = .ok (.invokevirtual 467, 3) := by decide +kernel
theorem dX12_stranger_101 : decode cX12_stranger 101 = .ok (.isub, 1) := by decide +kernel
theorem dX12_stranger_102 : decode cX12_stranger 102 = .ok (.istore 6, 2) := by decide +kernel
theorem dX12_stranger_104 : decode cX12_stranger 104 = .ok (.aload_n 0, 1) := by decide +kernel
theorem dX12_stranger_105 : decode cX12_stranger 105 = .ok (.invokevirtual 410, 3) := by decide +kernel
theorem dX12_stranger_108 : decode cX12_stranger 108 = .ok (.aload_n 0, 1) := by decide +kernel
theorem dX12_stranger_109 : decode cX12_stranger 109 = .ok (.iconst 0, 1) := by decide +kernel
theorem dX12_stranger_110 : decode cX12_stranger 110 = .ok (.putfield 349, 3) := by decide +kernel
theorem dX12_stranger_113 : decode cX12_stranger 113 = .ok (.iload_n 3, 1) := by decide +kernel
theorem dX12_stranger_114 : decode cX12_stranger 114 = .ok (.ifCond .ne 8, 3) := by decide +kernel
theorem dX12_stranger_117 : decode cX12_stranger 117 = .ok (.iload 5, 2) := by decide +kernel
theorem dX12_stranger_119 : decode cX12_stranger 119 = .ok (.goto 17, 3) := by decide +kernel
theorem dX12_stranger_122 : decode cX12_stranger 122 = .ok (.iload_n 3, 1) := by decide +kernel
theorem dX12_stranger_123 : decode cX12_stranger 123 = .ok (.iconst 1, 1) := by decide +kernel
theorem dX12_stranger_124 : decode cX12_stranger 124 = .ok (.if_icmp .ne 10, 3) := by decide +kernel
theorem dX12_stranger_127 : decode cX12_stranger 127 = .ok (.aload_n 0, 1) := by decide +kernel
theorem dX12_stranger_128 : decode cX12_stranger 128 = .ok (.getfield 352, 3) := by decide +kernel
theorem dX12_stranger_131 : decode cX12_stranger 131 = .ok (.goto 5, 3) := by decide +kernel
theorem dX12_stranger_134 : decode cX12_stranger 134 = .ok (.iload 6, 2) := by decide +kernel
theorem dX12_stranger_136 : decode cX12_stranger 136 = .ok (.ireturn, 1) := by decide +kernel
theorem dX12_see_0 : decode cX12_see 0 = .ok (.aload_n 0, 1) := by decide +kernel
theorem dX12_see_1 : decode cX12_see 1 = .ok (.iconst 0, 1) := by decide +kernel
theorem dX12_see_2 : decode cX12_see 2 = .ok (.putfield 131, 3) := by decide +kernel
theorem dX12_see_5 : decode cX12_see 5 = .ok (.aload_n 0, 1) := by decide +kernel
theorem dX12_see_6 : decode cX12_see 6 = .ok (.getfield 305, 3) := by decide +kernel
theorem dX12_see_9 : decode cX12_see 9 = .ok (.ifCond .eq 31, 3) := by decide +kernel
theorem dX12_see_12 : decode cX12_see 12 = .ok (.aload_n 0, 1) := by decide +kernel
theorem dX12_see_13 : decode cX12_see 13 = .ok (.getfield 314, 3) := by decide +kernel
theorem dX12_see_16 : decode cX12_see 16 = .ok (.bipush 20, 2) := by decide +kernel
theorem dX12_see_18 : decode cX12_see 18 = .ok (.if_icmp .eq 22, 3) := by decide +kernel
theorem dX12_see_21 : decode cX12_see 21 = .ok (.iload_n 1, 1) := by decide +kernel
theorem dX12_see_22 : decode cX12_see 22 = .ok (.invokestatic 387, 3) := by decide +kernel
theorem dX12_see_25 : decode cX12_see 25 = .ok (.ifCond .eq 15, 3) := by decide +kernel
theorem dX12_see_28 : decode cX12_see 28 = .ok (.iload_n 2, 1) := by decide +kernel
theorem dX12_see_29 : decode cX12_see 29 = .ok (.i2l, 1) := by decide +kernel
theorem dX12_see_30 : decode cX12_see 30 = .ok (.lconst 0, 1) := by decide +kernel
theorem dX12_see_31 : decode cX12_see 31 = .ok (.ldc2_w 456, 3) := by decide +kernel
theorem dX12_see_34 : decode cX12_see 34 = .ok (.invokestatic 253, 3) := by decide +kernel
theorem dX12_see_37 : decode cX12_see 37 = .ok (.ifCond .ne 5, 3) := by decide +kernel
theorem dX12_see_40 : decode cX12_see 40 = .ok (.iconst (-1), 1) := by decide +kernel
theorem dX12_see_41 : decode cX12_see 41 = .ok (.ireturn, 1) := by decide +kernel
theorem dX12_see_42 : decode cX12_see 42 = .ok (.aload_n 0, 1) := by decide +kernel
theorem dX12_see_43 : decode cX12_see 43 = .ok (.getfield 107, 3) := by decide +kernel
theorem dX12_see_46 : decode cX12_see 46 = .ok (.aload_n 0, 1) := by decide +kernel
theorem dX12_see_47 : decode cX12_see 47 = .ok (.getfield 314, 3) := by decide +kernel
theorem dX12_see_50 : decode cX12_see 50 = .ok (.iload_n 1, 1) := by decide +kernel
theorem dX12_see_51 : decode cX12_see 51 = .ok (.iastore, 1) := by decide +kernel
theorem dX12_see_52 : decode cX12_see 52 = .ok (.aload_n 0, 1) := by decide +kernel
theorem dX12_see_53 : decode cX12_see 53 = .ok (.getfield 110, 3) := by decide +kernel
theorem dX12_see_56 : decode cX12_see 56 = .ok (.aload_n 0, 1) := by decide +kernel
theorem dX12_see_57 : decode cX12_see 57 = .ok (.getfield 314, 3) := by decide +kernel
theorem dX12_see_60 : decode cX12_see 60 = .ok (.iload_n 2, 1) := by decide +kernel
theorem dX12_see_61 : decode cX12_see 61 = .ok (.iastore, 1) := by decide +kernel
theorem dX12_see_62 : decode cX12_see 62 = .ok (.aload_n 0, 1) := by decide +kernel
theorem dX12_see_63 : decode cX12_see 63 = .ok (.dup, 1) := by decide +kernel
theorem dX12_see_64 : decode cX12_see 64 = .ok (.getfield 314, 3) := by decide +kernel
theorem dX12_see_67 : decode cX12_see 67 = .ok (.iconst 1, 1) := by decide +kernel
theorem dX12_see_68 : decode cX12_see 68 = .ok (.iadd, 1) := by decide +kernel
theorem dX12_see_69 : decode cX12_see 69 = .ok (.putfield 314, 3) := by decide +kernel
theorem dX12_see_72 : decode cX12_see 72 = .ok (.aload_n 0, 1) := by decide +kernel
theorem dX12_see_73 : decode cX12_see 73 = .ok (.getfield 314, 3) := by decide +kernel
theorem dX12_see_76 : decode cX12_see 76 = .ok (.ireturn, 1) := by decide +kernel
theorem dX12_fits_0 : decode cX12_fits 0 = .ok (.aload_n 0, 1) := by decide +kernel
theorem dX12_fits_1 : decode cX12_fits 1 = .ok (.iconst 0, 1) := by decide +kernel
theorem dX12_fits_2 : decode cX12_fits 2 = .ok (.putfield 131, 3) := by decide +kernel
theorem dX12_fits_5 : decode cX12_fits 5 = .ok (.aload_n 0, 1) := by decide +kernel
theorem dX12_fits_6 : decode cX12_fits 6 = .ok (.getfield 305, 3) := by decide +kernel
theorem dX12_fits_9 : decode cX12_fits 9 = .ok (.ifCond .eq 8, 3) := by decide +kernel
theorem dX12_fits_12 : decode cX12_fits 12 = .ok (.iload_n 1, 1) := by decide +kernel
theorem dX12_fits_13 : decode cX12_fits 13 = .ok (.iconst (-1), 1) := by decide +kernel
theorem dX12_fits_14 : decode cX12_fits 14 = .ok (.if_icmp .ge 5, 3) := by decide +kernel
theorem dX12_fits_17 : decode cX12_fits 17 = .ok (.iconst (-1), 1) := by decide +kernel
theorem dX12_fits_18 : decode cX12_fits 18 = .ok (.ireturn, 1) := by decide +kernel
theorem dX12_fits_19 : decode cX12_fits 19 = .ok (.aload_n 0, 1) := by decide +kernel
theorem dX12_fits_20 : decode cX12_fits 20 = .ok (.invokevirtual 404, 3) := by decide +kernel
theorem dX12_fits_23 : decode cX12_fits 23 = .ok (.iconst 0, 1) := by decide +kernel
theorem dX12_fits_24 : decode cX12_fits 24 = .ok (.istore_n 2, 1) := by decide +kernel
theorem dX12_fits_25 : decode cX12_fits 25 = .ok (.iconst (-1), 1) := by decide +kernel
theorem dX12_fits_26 : decode cX12_fits 26 = .ok (.istore_n 3, 1) := by decide +kernel
theorem dX12_fits_27 : decode cX12_fits 27 = .ok (.iconst 0, 1) := by decide +kernel
theorem dX12_fits_28 : decode cX12_fits 28 = .ok (.istore 4, 2) := by decide +kernel
theorem dX12_fits_30 : decode cX12_fits 30 = .ok (.iload 4, 2) := by decide +kernel
theorem dX12_fits_32 : decode cX12_fits 32 = .ok (.iconst 1, 1) := by decide +kernel
theorem dX12_fits_33 : decode cX12_fits 33 = .ok (.aload_n 0, 1) := by decide +kernel
theorem dX12_fits_34 : decode cX12_fits 34 = .ok (.getfield 305, 3) := by decide +kernel
theorem dX12_fits_37 : decode cX12_fits 37 = .ok (.ishl, 1) := by decide +kernel
theorem dX12_fits_38 : decode cX12_fits 38 = .ok (.if_icmp .ge 99, 3) := by decide +kernel
theorem dX12_fits_41 : decode cX12_fits 41 = .ok (.aload_n 0, 1) := by decide +kernel
theorem dX12_fits_42 : decode cX12_fits 42 = .ok (.iload 4, 2) := by decide +kernel
theorem dX12_fits_44 : decode cX12_fits 44 = .ok (.putfield 342, 3) := by decide +kernel
theorem dX12_fits_47 : decode cX12_fits 47 = .ok (.aload_n 0, 1) := by decide +kernel
theorem dX12_fits_48 : decode cX12_fits 48 = .ok (.bipush 30, 2) := by decide +kernel
theorem dX12_fits_50 : decode cX12_fits 50 = .ok (.invokevirtual 407, 3) := by decide +kernel
theorem dX12_fits_53 : decode cX12_fits 53 = .ok (.aload_n 0, 1) := by decide +kernel
theorem dX12_fits_54 : decode cX12_fits 54 = .ok (.invokevirtual 410, 3) := by decide +kernel
theorem dX12_fits_57 : decode cX12_fits 57 = .ok (.iconst 1, 1) := by decide +kernel
theorem dX12_fits_58 : decode cX12_fits 58 = .ok (.istore 5, 2) := by decide +kernel
theorem dX12_fits_60 : decode cX12_fits 60 = .ok (.iconst 0, 1) := by decide +kernel
theorem dX12_fits_61 : decode cX12_fits 61 = .ok (.istore 6, 2) := by decide +kernel
theorem dX12_fits_63 : decode cX12_fits 63 = .ok (.iload 6, 2) := by decide +kernel
theorem dX12_fits_65 : decode cX12_fits 65 = .ok (.aload_n 0, 1) := by decide +kernel
theorem dX12_fits_66 : decode cX12_fits 66 = .ok (.getfield 314, 3) := by decide +kernel
theorem dX12_fits_69 : decode cX12_fits 69 = .ok (.if_icmp .ge 43, 3) := by decide +kernel
theorem dX12_fits_72 : decode cX12_fits 72 = .ok (.iload 5, 2) := by decide +kernel
theorem dX12_fits_74 : decode cX12_fits 74 = .ok (.ifCond .eq 29, 3) := by decide +kernel
theorem dX12_fits_77 : decode cX12_fits 77 = .ok (.aload_n 0, 1) := by decide +kernel
theorem dX12_fits_78 : decode cX12_fits 78 = .ok (.getfield 88, 3) := by decide +kernel
theorem dX12_fits_81 : decode cX12_fits 81 = .ok (.aload_n 0, 1) := by decide +kernel
theorem dX12_fits_82 : decode cX12_fits 82 = .ok (.getfield 107, 3) := by decide +kernel
theorem dX12_fits_85 : decode cX12_fits 85 = .ok (.iload 6, 2) := by decide +kernel
theorem dX12_fits_87 : decode cX12_fits 87 = .ok (.iaload, 1) := by decide +kernel
theorem dX12_fits_88 : decode cX12_fits 88 = .ok (.iaload, 1) := by decide +kernel
theorem dX12_fits_89 : decode cX12_fits 89 = .ok (.aload_n 0, 1) := by decide +kernel
theorem dX12_fits_90 : decode cX12_fits 90 = .ok (.getfield 110, 3) := by decide +kernel
theorem dX12_fits_93 : decode cX12_fits 93 = .ok (.iload 6, 2) := by decide +kernel
theorem dX12_fits_95 : decode cX12_fits 95 = .ok (.iaload, 1) := by decide +kernel
theorem dX12_fits_96 : decode cX12_fits 96 = .ok (.if_icmp .ne 7, 3) := by decide +kernel
theorem dX12_fits_99 : decode cX12_fits 99 = .ok (.iconst 1, 1) := by decide +kernel
theorem dX12_fits_100 : decode cX12_fits 100 = .ok (.goto 4, 3) := by decide +kernel
theorem dX12_fits_103 : decode cX12_fits 103 = .ok (.iconst 0, 1) := by decide +kernel
theorem dX12_fits_104 : decode cX12_fits 104 = .ok (.istore 5, 2) := by decide +kernel
theorem dX12_fits_106 : decode cX12_fits 106 = .ok (.iinc 6 1, 3) := by decide +kernel
theorem dX12_fits_109 : decode cX12_fits 109 = .ok (.goto (-46), 3) := by decide +kernel
theorem dX12_fits_112 : decode cX12_fits 112 = .ok (.iload 5, 2) := by decide +kernel
theorem dX12_fits_114 : decode cX12_fits 114 = .ok (.ifCond .ne 6, 3) := by decide +kernel
theorem dX12_fits_117 : decode cX12_fits 117 = .ok (.goto 14, 3) := by decide +kernel
theorem dX12_fits_120 : decode cX12_fits 120 = .ok (.iload_n 2, 1) := by decide +kernel
theorem dX12_fits_121 : decode cX12_fits 121 = .ok (.iload_n 1, 1) := by decide +kernel
theorem dX12_fits_122 : decode cX12_fits 122 = .ok (.if_icmp .ne 6, 3) := by decide +kernel
theorem dX12_fits_125 : decode cX12_fits 125 = .ok (.iload 4, 2) := by decide +kernel
theorem dX12_fits_127 : decode cX12_fits 127 = .ok (.istore_n 3, 1) := by decide +kernel
theorem dX12_fits_128 : decode cX12_fits 128 = .ok (.iinc 2 1, 3) := by decide +kernel
theorem dX12_fits_131 : decode cX12_fits 131 = .ok (.iinc 4 1, 3) := by decide +kernel
theorem dX12_fits_134 : decode cX12_fits 134 = .ok (.goto (-104), 3) := by decide +kernel
theorem dX12_fits_137 : decode cX12_fits 137 = .ok (.iload_n 1, 1) := by decide +kernel
theorem dX12_fits_138 : decode cX12_fits 138 = .ok (.iconst (-1), 1) := by decide +kernel
theorem dX12_fits_139 : decode cX12_fits 139 = .ok (.if_icmp .ne 7, 3) := by decide +kernel
theorem dX12_fits_142 : decode cX12_fits 142 = .ok (.iload_n 2, 1) := by decide +kernel
theorem dX12_fits_143 : decode cX12_fits 143 = .ok (.goto 4, 3) := by decide +kernel
theorem dX12_fits_146 : decode cX12_fits 146 = .ok (.iload_n 3, 1) := by decide +kernel
theorem dX12_fits_147 : decode cX12_fits 147 = .ok (.ireturn, 1) := by decide +kernel
theorem dX12_other_0 : decode cX12_other 0 = .ok (.aload_n 0, 1) := by decide +kernel
theorem dX12_other_1 : decode cX12_other 1 = .ok (.iconst 0, 1) := by decide +kernel
theorem dX12_other_2 : decode cX12_other 2 = .ok (.putfield 131, 3) := by decide +kernel
theorem dX12_other_5 : decode cX12_other 5 = .ok (.aload_n 0, 1) := by decide +kernel
theorem dX12_other_6 : decode cX12_other 6 = .ok (.iload_n 2, 1) := by decide +kernel
theorem dX12_other_7 : decode cX12_other 7 = .ok (.invokevirtual 390, 3) := by decide +kernel
theorem dX12_other_10 : decode cX12_other 10 = .ok (.ifCond .eq 27, 3) := by decide +kernel
theorem dX12_other_13 : decode cX12_other 13 = .ok (.iload_n 1, 1) := by decide +kernel
theorem dX12_other_14 : decode cX12_other 14 = .ok (.i2l, 1) := by decide +kernel
theorem dX12_other_15 : decode cX12_other 15 = .ok (.lconst 0, 1) := by decide +kernel
theorem dX12_other_16 : decode cX12_other 16 = .ok (.ldc2_w 465, 3) := by decide +kernel
theorem dX12_other_19 : decode cX12_other 19 = .ok (.invokestatic 253, 3) := by decide +kernel
theorem dX12_other_22 : decode cX12_other 22 = .ok (.ifCond .eq 15, 3) := by decide +kernel
theorem dX12_other_25 : decode cX12_other 25 = .ok (.iload_n 3, 1) := by decide +kernel
theorem dX12_other_26 : decode cX12_other 26 = .ok (.i2l, 1) := by decide +kernel
theorem dX12_other_27 : decode cX12_other 27 = .ok (.lconst 0, 1) := by decide +kernel
theorem dX12_other_28 : decode cX12_other 28 = .ok (.ldc2_w 465, 3) := by decide +kernel
theorem dX12_other_31 : decode cX12_other 31 = .ok (.invokestatic 253, 3) := by decide +kernel
theorem dX12_other_34 : decode cX12_other 34 = .ok (.ifCond .ne 7, 3) := by decide +kernel
theorem dX12_other_37 : decode cX12_other 37 = .ok (.ldc_w 432, 3) := by decide +kernel
theorem dX12_other_40 : decode cX12_other 40 = .ok (.ireturn, 1) := by decide +kernel
theorem dX12_other_41 : decode cX12_other 41 = .ok (.aload_n 0, 1) := by decide +kernel
theorem dX12_other_42 : decode cX12_other 42 = .ok (.invokevirtual 404, 3) := by decide +kernel
theorem dX12_other_45 : decode cX12_other 45 = .ok (.aload_n 0, 1) := by decide +kernel
theorem dX12_other_46 : decode cX12_other 46 = .ok (.iload_n 1, 1) := by decide +kernel
theorem dX12_other_47 : decode cX12_other 47 = .ok (.putfield 370, 3) := by decide +kernel
theorem dX12_other_50 : decode cX12_other 50 = .ok (.aload_n 0, 1) := by decide +kernel
theorem dX12_other_51 : decode cX12_other 51 = .ok (.iload_n 2, 1) := by decide +kernel
theorem dX12_other_52 : decode cX12_other 52 = .ok (.invokevirtual 407, 3) := by decide +kernel
theorem dX12_other_55 : decode cX12_other 55 = .ok (.iconst 0, 1) := by decide +kernel
theorem dX12_other_56 : decode cX12_other 56 = .ok (.istore 4, 2) := by decide +kernel
theorem dX12_other_58 : decode cX12_other 58 = .ok (.iconst 0, 1) := by decide +kernel
theorem dX12_other_59 : decode cX12_other 59 = .ok (.istore 5, 2) := by decide +kernel
theorem dX12_other_61 : decode cX12_other 61 = .ok (.iload 5, 2) := by decide +kernel
theorem dX12_other_63 : decode cX12_other 63 = .ok (.aload_n 0, 1) := by decide +kernel
theorem dX12_other_64 : decode cX12_other 64 = .ok (.getfield 305, 3) := by decide +kernel
theorem dX12_other_67 : decode cX12_other 67 = .ok (.if_icmp .ge 35, 3) := by decide +kernel
theorem dX12_other_70 : decode cX12_other 70 = .ok (.iload 4, 2) := by decide +kernel
theorem dX12_other_72 : decode cX12_other 72 = .ok (.aload_n 0, 1) := by decide +kernel
theorem dX12_other_73 : decode cX12_other 73 = .ok (.getfield 55, 3) := by decide +kernel
theorem dX12_other_76 : decode cX12_other 76 = .ok (.bipush 12, 2) := by decide +kernel
theorem dX12_other_78 : decode cX12_other 78 = .ok (.iload 5, 2) := by decide +kernel
theorem dX12_other_80 : decode cX12_other 80 = .ok (.iadd, 1) := by decide +kernel
theorem dX12_other_81 : decode cX12_other 81 = .ok (.iaload, 1) := by decide +kernel
theorem dX12_other_82 : decode cX12_other 82 = .ok (.aload_n 0, 1) := by decide +kernel
theorem dX12_other_83 : decode cX12_other 83 = .ok (.getfield 58, 3) := by decide +kernel
theorem dX12_other_86 : decode cX12_other 86 = .ok (.bipush 12, 2) := by decide +kernel
theorem dX12_other_88 : decode cX12_other 88 = .ok (.iload 5, 2) := by decide +kernel
theorem dX12_other_90 : decode cX12_other 90 = .ok (.iadd, 1) := by decide +kernel
theorem dX12_other_91 : decode cX12_other 91 = .ok (.iaload, 1) := by decide +kernel
theorem dX12_other_92 : decode cX12_other 92 = .ok (.isub, 1) := by decide +kernel
theorem dX12_other_93 : decode cX12_other 93 = .ok (.iadd, 1) := by decide +kernel
theorem dX12_other_94 : decode cX12_other 94 = .ok (.istore 4, 2) := by decide +kernel
theorem dX12_other_96 : decode cX12_other 96 = .ok (.iinc 5 1, 3) := by decide +kernel
theorem dX12_other_99 : decode cX12_other 99 = .ok (.goto (-38), 3) := by decide +kernel
theorem dX12_other_102 : decode cX12_other 102 = .ok (.aload_n 0, 1) := by decide +kernel
theorem dX12_other_103 : decode cX12_other 103 = .ok (.getfield 55, 3) := by decide +kernel
theorem dX12_other_106 : decode cX12_other 106 = .ok (.bipush 55, 2) := by decide +kernel
theorem dX12_other_108 : decode cX12_other 108 = .ok (.iaload, 1) := by decide +kernel
theorem dX12_other_109 : decode cX12_other 109 = .ok (.aload_n 0, 1) := by decide +kernel
theorem dX12_other_110 : decode cX12_other 110 = .ok (.getfield 58, 3) := by decide +kernel
theorem dX12_other_113 : decode cX12_other 113 = .ok (.bipush 55, 2) := by decide +kernel
theorem dX12_other_115 : decode cX12_other 115 = .ok (.iaload, 1) := by decide +kernel
theorem dX12_other_116 : decode cX12_other 116 = .ok (.isub, 1) := by decide +kernel
theorem dX12_other_117 : decode cX12_other 117 = .ok (.istore 5, 2) := by decide +kernel
theorem dX12_other_119 : decode cX12_other 119 = .ok (.aload_n 0, 1) := by decide +kernel
theorem dX12_other_120 : decode cX12_other 120 = .ok (.invokevirtual 410, 3) := by decide +kernel
theorem dX12_other_123 : decode cX12_other 123 = .ok (.iload_n 3, 1) := by decide +kernel
theorem dX12_other_124 : decode cX12_other 124 = .ok (.ifCond .ne 8, 3) := by decide +kernel
theorem dX12_other_127 : decode cX12_other 127 = .ok (.iload 4, 2) := by decide +kernel
theorem dX12_other_129 : decode cX12_other 129 = .ok (.goto 18, 3) := by decide +kernel
theorem dX12_other_132 : decode cX12_other 132 = .ok (.iload_n 3, 1) := by decide +kernel
theorem dX12_other_133 : decode cX12_other 133 = .ok (.iconst 1, 1) := by decide +kernel
theorem dX12_other_134 : decode cX12_other 134 = .ok (.if_icmp .ne 8, 3) := by decide +kernel
theorem dX12_other_137 : decode cX12_other 137 = .ok (.iload 5, 2) := by decide +kernel
theorem dX12_other_139 : decode cX12_other 139 = .ok (.goto 8, 3) := by decide +kernel
theorem dX12_other_142 : decode cX12_other 142 = .ok (.aload_n 0, 1) := by decide +kernel
theorem dX12_other_143 : decode cX12_other 143 = .ok (.iload_n 2, 1) := by decide +kernel
theorem dX12_other_144 : decode cX12_other 144 = .ok (.invokevirtual 413, 3) := by decide +kernel
theorem dX12_other_147 : decode cX12_other 147 = .ok (.ireturn, 1) := by decide +kernel
theorem dX12_ask_0 : decode cX12_ask 0 = .ok (.aload_n 0, 1) := by decide +kernel
theorem dX12_ask_1 : decode cX12_ask 1 = .ok (.iconst 0, 1) := by decide +kernel
theorem dX12_ask_2 : decode cX12_ask 2 = .ok (.putfield 131, 3) := by decide +kernel
theorem dX12_ask_5 : decode cX12_ask 5 = .ok (.aload_n 0, 1) := by decide +kernel
theorem dX12_ask_6 : decode cX12_ask 6 = .ok (.getfield 317, 3) := by decide +kernel
theorem dX12_ask_9 : decode cX12_ask 9 = .ok (.bipush 60, 2) := by decide +kernel
theorem dX12_ask_11 : decode cX12_ask 11 = .ok (.if_icmp .eq 35, 3) := by decide +kernel
theorem dX12_ask_14 : decode cX12_ask 14 = .ok (.aload_n 0, 1) := by decide +kernel
theorem dX12_ask_15 : decode cX12_ask 15 = .ok (.iload_n 1, 1) := by decide +kernel
theorem dX12_ask_16 : decode cX12_ask 16 = .ok (.invokevirtual 323, 3) := by decide +kernel
theorem dX12_ask_19 : decode cX12_ask 19 = .ok (.ifCond .eq 27, 3) := by decide +kernel
theorem dX12_ask_22 : decode cX12_ask 22 = .ok (.iload_n 2, 1) := by decide +kernel
theorem dX12_ask_23 : decode cX12_ask 23 = .ok (.i2l, 1) := by decide +kernel
theorem dX12_ask_24 : decode cX12_ask 24 = .ok (.lconst 0, 1) := by decide +kernel
theorem dX12_ask_25 : decode cX12_ask 25 = .ok (.ldc2_w 470, 3) := by decide +kernel
theorem dX12_ask_28 : decode cX12_ask 28 = .ok (.invokestatic 253, 3) := by decide +kernel
theorem dX12_ask_31 : decode cX12_ask 31 = .ok (.ifCond .eq 15, 3) := by decide +kernel
theorem dX12_ask_34 : decode cX12_ask 34 = .ok (.iload_n 3, 1) := by decide +kernel
theorem dX12_ask_35 : decode cX12_ask 35 = .ok (.i2l, 1) := by decide +kernel
theorem dX12_ask_36 : decode cX12_ask 36 = .ok (.lconst 0, 1) := by decide +kernel
theorem dX12_ask_37 : decode cX12_ask 37 = .ok (.ldc2_w 456, 3) := by decide +kernel
theorem dX12_ask_40 : decode cX12_ask 40 = .ok (.invokestatic 253, 3) := by decide +kernel
theorem dX12_ask_43 : decode cX12_ask 43 = .ok (.ifCond .ne 5, 3) := by decide +kernel
theorem dX12_ask_46 : decode cX12_ask 46 = .ok (.iconst (-1), 1) := by decide +kernel
theorem dX12_ask_47 : decode cX12_ask 47 = .ok (.ireturn, 1) := by decide +kernel
theorem dX12_ask_48 : decode cX12_ask 48 = .ok (.aload_n 0, 1) := by decide +kernel
theorem dX12_ask_49 : decode cX12_ask 49 = .ok (.getfield 113, 3) := by decide +kernel
theorem dX12_ask_52 : decode cX12_ask 52 = .ok (.aload_n 0, 1) := by decide +kernel
theorem dX12_ask_53 : decode cX12_ask 53 = .ok (.getfield 317, 3) := by decide +kernel
theorem dX12_ask_56 : decode cX12_ask 56 = .ok (.iload_n 1, 1) := by decide +kernel
theorem dX12_ask_57 : decode cX12_ask 57 = .ok (.iastore, 1) := by decide +kernel
theorem dX12_ask_58 : decode cX12_ask 58 = .ok (.aload_n 0, 1) := by decide +kernel
theorem dX12_ask_59 : decode cX12_ask 59 = .ok (.getfield 116, 3) := by decide +kernel
theorem dX12_ask_62 : decode cX12_ask 62 = .ok (.aload_n 0, 1) := by decide +kernel
theorem dX12_ask_63 : decode cX12_ask 63 = .ok (.getfield 317, 3) := by decide +kernel
theorem dX12_ask_66 : decode cX12_ask 66 = .ok (.iload_n 2, 1) := by decide +kernel
theorem dX12_ask_67 : decode cX12_ask 67 = .ok (.iastore, 1) := by decide +kernel
theorem dX12_ask_68 : decode cX12_ask 68 = .ok (.aload_n 0, 1) := by decide +kernel
theorem dX12_ask_69 : decode cX12_ask 69 = .ok (.getfield 119, 3) := by decide +kernel
theorem dX12_ask_72 : decode cX12_ask 72 = .ok (.aload_n 0, 1) := by decide +kernel
theorem dX12_ask_73 : decode cX12_ask 73 = .ok (.getfield 317, 3) := by decide +kernel
theorem dX12_ask_76 : decode cX12_ask 76 = .ok (.iload_n 3, 1) := by decide +kernel
theorem dX12_ask_77 : decode cX12_ask 77 = .ok (.iastore, 1) := by decide +kernel
theorem dX12_ask_78 : decode cX12_ask 78 = .ok (.aload_n 0, 1) := by decide +kernel
theorem dX12_ask_79 : decode cX12_ask 79 = .ok (.dup, 1) := by decide +kernel
theorem dX12_ask_80 : decode cX12_ask 80 = .ok (.getfield 317, 3) := by decide +kernel
theorem dX12_ask_83 : decode cX12_ask 83 = .ok (.iconst 1, 1) := by decide +kernel
theorem dX12_ask_84 : decode cX12_ask 84 = .ok (.iadd, 1) := by decide +kernel
theorem dX12_ask_85 : decode cX12_ask 85 = .ok (.putfield 317, 3) := by decide +kernel
theorem dX12_ask_88 : decode cX12_ask 88 = .ok (.aload_n 0, 1) := by decide +kernel
theorem dX12_ask_89 : decode cX12_ask 89 = .ok (.getfield 317, 3) := by decide +kernel
theorem dX12_ask_92 : decode cX12_ask 92 = .ok (.ireturn, 1) := by decide +kernel
theorem dX12_month_0 : decode cX12_month 0 = .ok (.aload_n 0, 1) := by decide +kernel
theorem dX12_month_1 : decode cX12_month 1 = .ok (.iconst 0, 1) := by decide +kernel
theorem dX12_month_2 : decode cX12_month 2 = .ok (.putfield 131, 3) := by decide +kernel
theorem dX12_month_5 : decode cX12_month 5 = .ok (.aload_n 0, 1) := by decide +kernel
theorem dX12_month_6 : decode cX12_month 6 = .ok (.iload_n 1, 1) := by decide +kernel
theorem dX12_month_7 : decode cX12_month 7 = .ok (.invokevirtual 390, 3) := by decide +kernel
theorem dX12_month_10 : decode cX12_month 10 = .ok (.ifCond .eq 13, 3) := by decide +kernel
theorem dX12_month_13 : decode cX12_month 13 = .ok (.iload_n 2, 1) := by decide +kernel
theorem dX12_month_14 : decode cX12_month 14 = .ok (.i2l, 1) := by decide +kernel
theorem dX12_month_15 : decode cX12_month 15 = .ok (.lconst 0, 1) := by decide +kernel
theorem dX12_month_16 : decode cX12_month 16 = .ok (.lconst 1, 1) := by decide +kernel
theorem dX12_month_17 : decode cX12_month 17 = .ok (.invokestatic 253, 3) := by decide +kernel
theorem dX12_month_20 : decode cX12_month 20 = .ok (.ifCond .ne 5, 3) := by decide +kernel
theorem dX12_month_23 : decode cX12_month 23 = .ok (.iconst (-1), 1) := by decide +kernel
theorem dX12_month_24 : decode cX12_month 24 = .ok (.ireturn, 1) := by decide +kernel
theorem dX12_month_25 : decode cX12_month 25 = .ok (.aload_n 0, 1) := by decide +kernel
theorem dX12_month_26 : decode cX12_month 26 = .ok (.invokevirtual 404, 3) := by decide +kernel
theorem dX12_month_29 : decode cX12_month 29 = .ok (.iconst (-1), 1) := by decide +kernel
theorem dX12_month_30 : decode cX12_month 30 = .ok (.istore_n 3, 1) := by decide +kernel
theorem dX12_month_31 : decode cX12_month 31 = .ok (.iconst (-1), 1) := by decide +kernel
theorem dX12_month_32 : decode cX12_month 32 = .ok (.istore 4, 2) := by decide +kernel
theorem dX12_month_34 : decode cX12_month 34 = .ok (.iconst 0, 1) := by decide +kernel
theorem dX12_month_35 : decode cX12_month 35 = .ok (.istore 5, 2) := by decide +kernel
theorem dX12_month_37 : decode cX12_month 37 = .ok (.iload 5, 2) := by decide +kernel
theorem dX12_month_39 : decode cX12_month 39 = .ok (.iload_n 1, 1) := by decide +kernel
theorem dX12_month_40 : decode cX12_month 40 = .ok (.if_icmp .ge 141, 3) := by decide +kernel
theorem dX12_month_43 : decode cX12_month 43 = .ok (.iload_n 3, 1) := by decide +kernel
theorem dX12_month_44 : decode cX12_month 44 = .ok (.iconst (-1), 1) := by decide +kernel
theorem dX12_month_45 : decode cX12_month 45 = .ok (.if_icmp .ne 136, 3) := by decide +kernel
theorem dX12_month_48 : decode cX12_month 48 = .ok (.iconst 0, 1) := by decide +kernel
theorem dX12_month_49 : decode cX12_month 49 = .ok (.istore 6, 2) := by decide +kernel
theorem dX12_month_51 : decode cX12_month 51 = .ok (.iload 6, 2) := by decide +kernel
theorem dX12_month_53 : decode cX12_month 53 = .ok (.iconst 5, 1) := by decide +kernel
theorem dX12_month_54 : decode cX12_month 54 = .ok (.if_icmp .ge 17, 3) := by decide +kernel
theorem dX12_month_57 : decode cX12_month 57 = .ok (.aload_n 0, 1) := by decide +kernel
theorem dX12_month_58 : decode cX12_month 58 = .ok (.getfield 64, 3) := by decide +kernel
theorem dX12_month_61 : decode cX12_month 61 = .ok (.iload 6, 2) := by decide +kernel
theorem dX12_month_63 : decode cX12_month 63 = .ok (.iconst (-1), 1) := by decide +kernel
theorem dX12_month_64 : decode cX12_month 64 = .ok (.iastore, 1) := by decide +kernel
theorem dX12_month_65 : decode cX12_month 65 = .ok (.iinc 6 1, 3) := by decide +kernel
theorem dX12_month_68 : decode cX12_month 68 = .ok (.goto (-17), 3) := by decide +kernel
theorem dX12_month_71 : decode cX12_month 71 = .ok (.iconst 0, 1) := by decide +kernel
theorem dX12_month_72 : decode cX12_month 72 = .ok (.istore 6, 2) := by decide +kernel
theorem dX12_month_74 : decode cX12_month 74 = .ok (.iload 6, 2) := by decide +kernel
theorem dX12_month_76 : decode cX12_month 76 = .ok (.aload_n 0, 1) := by decide +kernel
theorem dX12_month_77 : decode cX12_month 77 = .ok (.getfield 317, 3) := by decide +kernel
theorem dX12_month_80 : decode cX12_month 80 = .ok (.if_icmp .ge 40, 3) := by decide +kernel
theorem dX12_month_83 : decode cX12_month 83 = .ok (.aload_n 0, 1) := by decide +kernel
theorem dX12_month_84 : decode cX12_month 84 = .ok (.getfield 116, 3) := by decide +kernel
theorem dX12_month_87 : decode cX12_month 87 = .ok (.iload 6, 2) := by decide +kernel
theorem dX12_month_89 : decode cX12_month 89 = .ok (.iaload, 1) := by decide +kernel
theorem dX12_month_90 : decode cX12_month 90 = .ok (.iload 5, 2) := by decide +kernel
theorem dX12_month_92 : decode cX12_month 92 = .ok (.if_icmp .ne 22, 3) := by decide +kernel
theorem dX12_month_95 : decode cX12_month 95 = .ok (.aload_n 0, 1) := by decide +kernel
theorem dX12_month_96 : decode cX12_month 96 = .ok (.getfield 64, 3) := by decide +kernel
theorem dX12_month_99 : decode cX12_month 99 = .ok (.aload_n 0, 1) := by decide +kernel
theorem dX12_month_100 : decode cX12_month 100 = .ok (.getfield 113, 3) := by decide +kernel
theorem dX12_month_103 : decode cX12_month 103 = .ok (.iload 6, 2) := by decide +kernel
theorem dX12_month_105 : decode cX12_month 105 = .ok (.iaload, 1) := by decide +kernel
theorem dX12_month_106 : decode cX12_month 106 = .ok (.aload_n 0, 1) := by decide +kernel
theorem dX12_month_107 : decode cX12_month 107 = .ok (.getfield 119, 3) := by decide +kernel
theorem dX12_month_110 : decode cX12_month 110 = .ok (.iload 6, 2) := by decide +kernel
theorem dX12_month_112 : decode cX12_month 112 = .ok (.iaload, 1) := by decide +kernel
theorem dX12_month_113 : decode cX12_month 113 = .ok (.iastore, 1) := by decide +kernel
theorem dX12_month_114 : decode cX12_month 114 = .ok (.iinc 6 1, 3) := by decide +kernel
theorem dX12_month_117 : decode cX12_month 117 = .ok (.goto (-43), 3) := by decide +kernel
theorem dX12_month_120 : decode cX12_month 120 = .ok (.aload_n 0, 1) := by decide +kernel
theorem dX12_month_121 : decode cX12_month 121 = .ok (.getfield 55, 3) := by decide +kernel
theorem dX12_month_124 : decode cX12_month 124 = .ok (.bipush 54, 2) := by decide +kernel
theorem dX12_month_126 : decode cX12_month 126 = .ok (.iaload, 1) := by decide +kernel
theorem dX12_month_127 : decode cX12_month 127 = .ok (.istore 6, 2) := by decide +kernel
theorem dX12_month_129 : decode cX12_month 129 = .ok (.aload_n 0, 1) := by decide +kernel
theorem dX12_month_130 : decode cX12_month 130 = .ok (.iconst 0, 1) := by decide +kernel
theorem dX12_month_131 : decode cX12_month 131 = .ok (.invokevirtual 400, 3) := by decide +kernel
theorem dX12_month_134 : decode cX12_month 134 = .ok (.aload_n 0, 1) := by decide +kernel
theorem dX12_month_135 : decode cX12_month 135 = .ok (.getfield 305, 3) := by decide +kernel
theorem dX12_month_138 : decode cX12_month 138 = .ok (.iconst 1, 1) := by decide +kernel
theorem dX12_month_139 : decode cX12_month 139 = .ok (.isub, 1) := by decide +kernel
theorem dX12_month_140 : decode cX12_month 140 = .ok (.istore 7, 2) := by decide +kernel
theorem dX12_month_142 : decode cX12_month 142 = .ok (.iload 7, 2) := by decide +kernel
theorem dX12_month_144 : decode cX12_month 144 = .ok (.ifCond .lt 31, 3) := by decide +kernel
theorem dX12_month_147 : decode cX12_month 147 = .ok (.aload_n 0, 1) := by decide +kernel
theorem dX12_month_148 : decode cX12_month 148 = .ok (.getfield 67, 3) := by decide +kernel
theorem dX12_month_151 : decode cX12_month 151 = .ok (.iload 7, 2) := by decide +kernel
theorem dX12_month_153 : decode cX12_month 153 = .ok (.iaload, 1) := by decide +kernel
theorem dX12_month_154 : decode cX12_month 154 = .ok (.iload 6, 2) := by decide +kernel
theorem dX12_month_156 : decode cX12_month 156 = .ok (.if_icmp .gt 6, 3) := by decide +kernel
theorem dX12_month_159 : decode cX12_month 159 = .ok (.goto 10, 3) := by decide +kernel
theorem dX12_month_162 : decode cX12_month 162 = .ok (.iload 5, 2) := by decide +kernel
theorem dX12_month_164 : decode cX12_month 164 = .ok (.istore_n 3, 1) := by decide +kernel
theorem dX12_month_165 : decode cX12_month 165 = .ok (.iload 7, 2) := by decide +kernel
theorem dX12_month_167 : decode cX12_month 167 = .ok (.istore 4, 2) := by decide +kernel
theorem dX12_month_169 : decode cX12_month 169 = .ok (.iinc 7 (-1), 3) := by decide +kernel
theorem dX12_month_172 : decode cX12_month 172 = .ok (.goto (-30), 3) := by decide +kernel
theorem dX12_month_175 : decode cX12_month 175 = .ok (.iinc 5 1, 3) := by decide +kernel
theorem dX12_month_178 : decode cX12_month 178 = .ok (.goto (-141), 3) := by decide +kernel
theorem dX12_month_181 : decode cX12_month 181 = .ok (.aload_n 0, 1) := by decide +kernel
theorem dX12_month_182 : decode cX12_month 182 = .ok (.invokevirtual 410, 3) := by decide +kernel
theorem dX12_month_185 : decode cX12_month 185 = .ok (.aload_n 0, 1) := by decide +kernel
theorem dX12_month_186 : decode cX12_month 186 = .ok (.invokevirtual 393, 3) := by decide +kernel
theorem dX12_month_189 : decode cX12_month 189 = .ok (.iload_n 2, 1) := by decide +kernel
theorem dX12_month_190 : decode cX12_month 190 = .ok (.ifCond .ne 7, 3) := by decide +kernel
theorem dX12_month_193 : decode cX12_month 193 = .ok (.iload_n 3, 1) := by decide +kernel
theorem dX12_month_194 : decode cX12_month 194 = .ok (.goto 5, 3) := by decide +kernel
theorem dX12_month_197 : decode cX12_month 197 = .ok (.iload 4, 2) := by decide +kernel
theorem dX12_month_199 : decode cX12_month 199 = .ok (.ireturn, 1) := by decide +kernel
theorem dX12_inTurn_0 : decode cX12_inTurn 0 = .ok (.aload_n 0, 1) := by decide +kernel
theorem dX12_inTurn_1 : decode cX12_inTurn 1 = .ok (.iconst 0, 1) := by decide +kernel
theorem dX12_inTurn_2 : decode cX12_inTurn 2 = .ok (.putfield 131, 3) := by decide +kernel
theorem dX12_inTurn_5 : decode cX12_inTurn 5 = .ok (.aload_n 0, 1) := by decide +kernel
theorem dX12_inTurn_6 : decode cX12_inTurn 6 = .ok (.iload_n 1, 1) := by decide +kernel
theorem dX12_inTurn_7 : decode cX12_inTurn 7 = .ok (.invokevirtual 390, 3) := by decide +kernel
theorem dX12_inTurn_10 : decode cX12_inTurn 10 = .ok (.ifCond .eq 15, 3) := by decide +kernel
theorem dX12_inTurn_13 : decode cX12_inTurn 13 = .ok (.iload_n 2, 1) := by decide +kernel
theorem dX12_inTurn_14 : decode cX12_inTurn 14 = .ok (.i2l, 1) := by decide +kernel
theorem dX12_inTurn_15 : decode cX12_inTurn 15 = .ok (.lconst 0, 1) := by decide +kernel
theorem dX12_inTurn_16 : decode cX12_inTurn 16 = .ok (.ldc2_w 465, 3) := by decide +kernel
theorem dX12_inTurn_19 : decode cX12_inTurn 19 = .ok (.invokestatic 253, 3) := by decide +kernel
theorem dX12_inTurn_22 : decode cX12_inTurn 22 = .ok (.ifCond .ne 7, 3) := by decide +kernel
theorem dX12_inTurn_25 : decode cX12_inTurn 25 = .ok (.ldc_w 432, 3) := by decide +kernel
theorem dX12_inTurn_28 : decode cX12_inTurn 28 = .ok (.ireturn, 1) := by decide +kernel
theorem dX12_inTurn_29 : decode cX12_inTurn 29 = .ok (.aload_n 0, 1) := by decide +kernel
theorem dX12_inTurn_30 : decode cX12_inTurn 30 = .ok (.invokevirtual 404, 3) := by decide +kernel
theorem dX12_inTurn_33 : decode cX12_inTurn 33 = .ok (.iconst 0, 1) := by decide +kernel
theorem dX12_inTurn_34 : decode cX12_inTurn 34 = .ok (.istore_n 3, 1) := by decide +kernel
theorem dX12_inTurn_35 : decode cX12_inTurn 35 = .ok (.iload_n 3, 1) := by decide +kernel
theorem dX12_inTurn_36 : decode cX12_inTurn 36 = .ok (.iload_n 1, 1) := by decide +kernel
theorem dX12_inTurn_37 : decode cX12_inTurn 37 = .ok (.if_icmp .ge 26, 3) := by decide +kernel
theorem dX12_inTurn_40 : decode cX12_inTurn 40 = .ok (.aload_n 0, 1) := by decide +kernel
theorem dX12_inTurn_41 : decode cX12_inTurn 41 = .ok (.iconst 1, 1) := by decide +kernel
theorem dX12_inTurn_42 : decode cX12_inTurn 42 = .ok (.iload_n 3, 1) := by decide +kernel
theorem dX12_inTurn_43 : decode cX12_inTurn 43 = .ok (.aload_n 0, 1) := by decide +kernel
theorem dX12_inTurn_44 : decode cX12_inTurn 44 = .ok (.getfield 305, 3) := by decide +kernel
theorem dX12_inTurn_47 : decode cX12_inTurn 47 = .ok (.irem, 1) := by decide +kernel
theorem dX12_inTurn_48 : decode cX12_inTurn 48 = .ok (.ishl, 1) := by decide +kernel
theorem dX12_inTurn_49 : decode cX12_inTurn 49 = .ok (.putfield 342, 3) := by decide +kernel
theorem dX12_inTurn_52 : decode cX12_inTurn 52 = .ok (.aload_n 0, 1) := by decide +kernel
theorem dX12_inTurn_53 : decode cX12_inTurn 53 = .ok (.iconst 0, 1) := by decide +kernel
theorem dX12_inTurn_54 : decode cX12_inTurn 54 = .ok (.invokevirtual 400, 3) := by decide +kernel
theorem dX12_inTurn_57 : decode cX12_inTurn 57 = .ok (.iinc 3 1, 3) := by decide +kernel
theorem dX12_inTurn_60 : decode cX12_inTurn 60 = .ok (.goto (-25), 3) := by decide +kernel
theorem dX12_inTurn_63 : decode cX12_inTurn 63 = .ok (.aload_n 0, 1) := by decide +kernel
theorem dX12_inTurn_64 : decode cX12_inTurn 64 = .ok (.getfield 55, 3) := by decide +kernel
theorem dX12_inTurn_67 : decode cX12_inTurn 67 = .ok (.bipush 54, 2) := by decide +kernel
theorem dX12_inTurn_69 : decode cX12_inTurn 69 = .ok (.iaload, 1) := by decide +kernel
theorem dX12_inTurn_70 : decode cX12_inTurn 70 = .ok (.istore_n 3, 1) := by decide +kernel
theorem dX12_inTurn_71 : decode cX12_inTurn 71 = .ok (.iconst 0, 1) := by decide +kernel
theorem dX12_inTurn_72 : decode cX12_inTurn 72 = .ok (.istore 4, 2) := by decide +kernel
theorem dX12_inTurn_74 : decode cX12_inTurn 74 = .ok (.iconst 0, 1) := by decide +kernel
theorem dX12_inTurn_75 : decode cX12_inTurn 75 = .ok (.istore 5, 2) := by decide +kernel
theorem dX12_inTurn_77 : decode cX12_inTurn 77 = .ok (.iconst 0, 1) := by decide +kernel
theorem dX12_inTurn_78 : decode cX12_inTurn 78 = .ok (.istore 6, 2) := by decide +kernel
theorem dX12_inTurn_80 : decode cX12_inTurn 80 = .ok (.iload 6, 2) := by decide +kernel
theorem dX12_inTurn_82 : decode cX12_inTurn 82 = .ok (.aload_n 0, 1) := by decide +kernel
theorem dX12_inTurn_83 : decode cX12_inTurn 83 = .ok (.getfield 305, 3) := by decide +kernel
theorem dX12_inTurn_86 : decode cX12_inTurn 86 = .ok (.if_icmp .ge 89, 3) := by decide +kernel
theorem dX12_inTurn_89 : decode cX12_inTurn 89 = .ok (.iload 4, 2) := by decide +kernel
theorem dX12_inTurn_91 : decode cX12_inTurn 91 = .ok (.aload_n 0, 1) := by decide +kernel
theorem dX12_inTurn_92 : decode cX12_inTurn 92 = .ok (.getfield 55, 3) := by decide +kernel
theorem dX12_inTurn_95 : decode cX12_inTurn 95 = .ok (.bipush 12, 2) := by decide +kernel
theorem dX12_inTurn_97 : decode cX12_inTurn 97 = .ok (.iload 6, 2) := by decide +kernel
theorem dX12_inTurn_99 : decode cX12_inTurn 99 = .ok (.iadd, 1) := by decide +kernel
theorem dX12_inTurn_100 : decode cX12_inTurn 100 = .ok (.iaload, 1) := by decide +kernel
theorem dX12_inTurn_101 : decode cX12_inTurn 101 = .ok (.aload_n 0, 1) := by decide +kernel
theorem dX12_inTurn_102 : decode cX12_inTurn 102 = .ok (.getfield 58, 3) := by decide +kernel
theorem dX12_inTurn_105 : decode cX12_inTurn 105 = .ok (.bipush 12, 2) := by decide +kernel
theorem dX12_inTurn_107 : decode cX12_inTurn 107 = .ok (.iload 6, 2) := by decide +kernel
theorem dX12_inTurn_109 : decode cX12_inTurn 109 = .ok (.iadd, 1) := by decide +kernel
theorem dX12_inTurn_110 : decode cX12_inTurn 110 = .ok (.iaload, 1) := by decide +kernel
theorem dX12_inTurn_111 : decode cX12_inTurn 111 = .ok (.isub, 1) := by decide +kernel
theorem dX12_inTurn_112 : decode cX12_inTurn 112 = .ok (.iadd, 1) := by decide +kernel
theorem dX12_inTurn_113 : decode cX12_inTurn 113 = .ok (.istore 4, 2) := by decide +kernel
theorem dX12_inTurn_115 : decode cX12_inTurn 115 = .ok (.aload_n 0, 1) := by decide +kernel
theorem dX12_inTurn_116 : decode cX12_inTurn 116 = .ok (.getfield 55, 3) := by decide +kernel
theorem dX12_inTurn_119 : decode cX12_inTurn 119 = .ok (.bipush 12, 2) := by decide +kernel
theorem dX12_inTurn_121 : decode cX12_inTurn 121 = .ok (.iload 6, 2) := by decide +kernel
theorem dX12_inTurn_123 : decode cX12_inTurn 123 = .ok (.iadd, 1) := by decide +kernel
theorem dX12_inTurn_124 : decode cX12_inTurn 124 = .ok (.iaload, 1) := by decide +kernel
theorem dX12_inTurn_125 : decode cX12_inTurn 125 = .ok (.aload_n 0, 1) := by decide +kernel
theorem dX12_inTurn_126 : decode cX12_inTurn 126 = .ok (.getfield 58, 3) := by decide +kernel
theorem dX12_inTurn_129 : decode cX12_inTurn 129 = .ok (.bipush 12, 2) := by decide +kernel
theorem dX12_inTurn_131 : decode cX12_inTurn 131 = .ok (.iload 6, 2) := by decide +kernel
theorem dX12_inTurn_133 : decode cX12_inTurn 133 = .ok (.iadd, 1) := by decide +kernel
theorem dX12_inTurn_134 : decode cX12_inTurn 134 = .ok (.iaload, 1) := by decide +kernel
theorem dX12_inTurn_135 : decode cX12_inTurn 135 = .ok (.isub, 1) := by decide +kernel
theorem dX12_inTurn_136 : decode cX12_inTurn 136 = .ok (.aload_n 0, 1) := by decide +kernel
theorem dX12_inTurn_137 : decode cX12_inTurn 137 = .ok (.getfield 55, 3) := by decide +kernel
theorem dX12_inTurn_140 : decode cX12_inTurn 140 = .ok (.bipush 12, 2) := by decide +kernel
theorem dX12_inTurn_142 : decode cX12_inTurn 142 = .ok (.iload 5, 2) := by decide +kernel
theorem dX12_inTurn_144 : decode cX12_inTurn 144 = .ok (.iadd, 1) := by decide +kernel
theorem dX12_inTurn_145 : decode cX12_inTurn 145 = .ok (.iaload, 1) := by decide +kernel
theorem dX12_inTurn_146 : decode cX12_inTurn 146 = .ok (.aload_n 0, 1) := by decide +kernel
theorem dX12_inTurn_147 : decode cX12_inTurn 147 = .ok (.getfield 58, 3) := by decide +kernel
theorem dX12_inTurn_150 : decode cX12_inTurn 150 = .ok (.bipush 12, 2) := by decide +kernel
theorem dX12_inTurn_152 : decode cX12_inTurn 152 = .ok (.iload 5, 2) := by decide +kernel
theorem dX12_inTurn_154 : decode cX12_inTurn 154 = .ok (.iadd, 1) := by decide +kernel
theorem dX12_inTurn_155 : decode cX12_inTurn 155 = .ok (.iaload, 1) := by decide +kernel
theorem dX12_inTurn_156 : decode cX12_inTurn 156 = .ok (.isub, 1) := by decide +kernel
theorem dX12_inTurn_157 : decode cX12_inTurn 157 = .ok (.if_icmp .ge 8, 3) := by decide +kernel
theorem dX12_inTurn_160 : decode cX12_inTurn 160 = .ok (.iload 6, 2) := by decide +kernel
theorem dX12_inTurn_162 : decode cX12_inTurn 162 = .ok (.goto 5, 3) := by decide +kernel
theorem dX12_inTurn_165 : decode cX12_inTurn 165 = .ok (.iload 5, 2) := by decide +kernel
theorem dX12_inTurn_167 : decode cX12_inTurn 167 = .ok (.istore 5, 2) := by decide +kernel
theorem dX12_inTurn_169 : decode cX12_inTurn 169 = .ok (.iinc 6 1, 3) := by decide +kernel
theorem dX12_inTurn_172 : decode cX12_inTurn 172 = .ok (.goto (-92), 3) := by decide +kernel
theorem dX12_inTurn_175 : decode cX12_inTurn 175 = .ok (.aload_n 0, 1) := by decide +kernel
theorem dX12_inTurn_176 : decode cX12_inTurn 176 = .ok (.invokevirtual 410, 3) := by decide +kernel
theorem dX12_inTurn_179 : decode cX12_inTurn 179 = .ok (.iload_n 2, 1) := by decide +kernel
theorem dX12_inTurn_180 : decode cX12_inTurn 180 = .ok (.ifCond .ne 7, 3) := by decide +kernel
theorem dX12_inTurn_183 : decode cX12_inTurn 183 = .ok (.iload_n 3, 1) := by decide +kernel
theorem dX12_inTurn_184 : decode cX12_inTurn 184 = .ok (.goto 15, 3) := by decide +kernel
theorem dX12_inTurn_187 : decode cX12_inTurn 187 = .ok (.iload_n 2, 1) := by decide +kernel
theorem dX12_inTurn_188 : decode cX12_inTurn 188 = .ok (.iconst 1, 1) := by decide +kernel
theorem dX12_inTurn_189 : decode cX12_inTurn 189 = .ok (.if_icmp .ne 8, 3) := by decide +kernel
theorem dX12_inTurn_192 : decode cX12_inTurn 192 = .ok (.iload 4, 2) := by decide +kernel
theorem dX12_inTurn_194 : decode cX12_inTurn 194 = .ok (.goto 5, 3) := by decide +kernel
theorem dX12_inTurn_197 : decode cX12_inTurn 197 = .ok (.iload 5, 2) := by decide +kernel
theorem dX12_inTurn_199 : decode cX12_inTurn 199 = .ok (.ireturn, 1) := by decide +kernel
theorem dX12_bribe_0 : decode cX12_bribe 0 = .ok (.aload_n 0, 1) := by decide +kernel
theorem dX12_bribe_1 : decode cX12_bribe 1 = .ok (.iconst 0, 1) := by decide +kernel
theorem dX12_bribe_2 : decode cX12_bribe 2 = .ok (.putfield 131, 3) := by decide +kernel
theorem dX12_bribe_5 : decode cX12_bribe 5 = .ok (.aload_n 0, 1) := by decide +kernel
theorem dX12_bribe_6 : decode cX12_bribe 6 = .ok (.iload_n 1, 1) := by decide +kernel
theorem dX12_bribe_7 : decode cX12_bribe 7 = .ok (.invokevirtual 390, 3) := by decide +kernel
theorem dX12_bribe_10 : decode cX12_bribe 10 = .ok (.ifCond .eq 13, 3) := by decide +kernel
theorem dX12_bribe_13 : decode cX12_bribe 13 = .ok (.iload_n 2, 1) := by decide +kernel
theorem dX12_bribe_14 : decode cX12_bribe 14 = .ok (.i2l, 1) := by decide +kernel
theorem dX12_bribe_15 : decode cX12_bribe 15 = .ok (.lconst 0, 1) := by decide +kernel
theorem dX12_bribe_16 : decode cX12_bribe 16 = .ok (.lconst 1, 1) := by decide +kernel
theorem dX12_bribe_17 : decode cX12_bribe 17 = .ok (.invokestatic 253, 3) := by decide +kernel
theorem dX12_bribe_20 : decode cX12_bribe 20 = .ok (.ifCond .ne 7, 3) := by decide +kernel
theorem dX12_bribe_23 : decode cX12_bribe 23 = .ok (.ldc_w 432, 3) := by decide +kernel
theorem dX12_bribe_26 : decode cX12_bribe 26 = .ok (.ireturn, 1) := by decide +kernel
theorem dX12_bribe_27 : decode cX12_bribe 27 = .ok (.aload_n 0, 1) := by decide +kernel
theorem dX12_bribe_28 : decode cX12_bribe 28 = .ok (.invokevirtual 404, 3) := by decide +kernel
theorem dX12_bribe_31 : decode cX12_bribe 31 = .ok (.iconst (-1), 1) := by decide +kernel
theorem dX12_bribe_32 : decode cX12_bribe 32 = .ok (.istore_n 3, 1) := by decide +kernel
theorem dX12_bribe_33 : decode cX12_bribe 33 = .ok (.iconst 0, 1) := by decide +kernel
theorem dX12_bribe_34 : decode cX12_bribe 34 = .ok (.istore 4, 2) := by decide +kernel
theorem dX12_bribe_36 : decode cX12_bribe 36 = .ok (.iconst 0, 1) := by decide +kernel
theorem dX12_bribe_37 : decode cX12_bribe 37 = .ok (.istore 5, 2) := by decide +kernel
theorem dX12_bribe_39 : decode cX12_bribe 39 = .ok (.iload 5, 2) := by decide +kernel
theorem dX12_bribe_41 : decode cX12_bribe 41 = .ok (.aload_n 0, 1) := by decide +kernel
theorem dX12_bribe_42 : decode cX12_bribe 42 = .ok (.getfield 305, 3) := by decide +kernel
theorem dX12_bribe_45 : decode cX12_bribe 45 = .ok (.if_icmp .ge 78, 3) := by decide +kernel
theorem dX12_bribe_48 : decode cX12_bribe 48 = .ok (.aload_n 0, 1) := by decide +kernel
theorem dX12_bribe_49 : decode cX12_bribe 49 = .ok (.getfield 311, 3) := by decide +kernel
theorem dX12_bribe_52 : decode cX12_bribe 52 = .ok (.iload 5, 2) := by decide +kernel
theorem dX12_bribe_54 : decode cX12_bribe 54 = .ok (.invokestatic 280, 3) := by decide +kernel
theorem dX12_bribe_57 : decode cX12_bribe 57 = .ok (.ifCond .eq 6, 3) := by decide +kernel
theorem dX12_bribe_60 : decode cX12_bribe 60 = .ok (.goto 57, 3) := by decide +kernel
theorem dX12_bribe_63 : decode cX12_bribe 63 = .ok (.aload_n 0, 1) := by decide +kernel
theorem dX12_bribe_64 : decode cX12_bribe 64 = .ok (.aload_n 0, 1) := by decide +kernel
theorem dX12_bribe_65 : decode cX12_bribe 65 = .ok (.getfield 311, 3) := by decide +kernel
theorem dX12_bribe_68 : decode cX12_bribe 68 = .ok (.iload_n 1, 1) := by decide +kernel
theorem dX12_bribe_69 : decode cX12_bribe 69 = .ok (.iload 5, 2) := by decide +kernel
theorem dX12_bribe_71 : decode cX12_bribe 71 = .ok (.iconst 0, 1) := by decide +kernel
theorem dX12_bribe_72 : decode cX12_bribe 72 = .ok (.invokevirtual 452, 3) := by decide +kernel
theorem dX12_bribe_75 : decode cX12_bribe 75 = .ok (.aload_n 0, 1) := by decide +kernel
theorem dX12_bribe_76 : decode cX12_bribe 76 = .ok (.aload_n 0, 1) := by decide +kernel
theorem dX12_bribe_77 : decode cX12_bribe 77 = .ok (.getfield 311, 3) := by decide +kernel
theorem dX12_bribe_80 : decode cX12_bribe 80 = .ok (.iconst 1, 1) := by decide +kernel
theorem dX12_bribe_81 : decode cX12_bribe 81 = .ok (.iload 5, 2) := by decide +kernel
theorem dX12_bribe_83 : decode cX12_bribe 83 = .ok (.ishl, 1) := by decide +kernel
theorem dX12_bribe_84 : decode cX12_bribe 84 = .ok (.ior, 1) := by decide +kernel
theorem dX12_bribe_85 : decode cX12_bribe 85 = .ok (.iload_n 1, 1) := by decide +kernel
theorem dX12_bribe_86 : decode cX12_bribe 86 = .ok (.iload 5, 2) := by decide +kernel
theorem dX12_bribe_88 : decode cX12_bribe 88 = .ok (.iconst 0, 1) := by decide +kernel
theorem dX12_bribe_89 : decode cX12_bribe 89 = .ok (.invokevirtual 452, 3) := by decide +kernel
theorem dX12_bribe_92 : decode cX12_bribe 92 = .ok (.isub, 1) := by decide +kernel
theorem dX12_bribe_93 : decode cX12_bribe 93 = .ok (.istore 6, 2) := by decide +kernel
theorem dX12_bribe_95 : decode cX12_bribe 95 = .ok (.iload_n 3, 1) := by decide +kernel
theorem dX12_bribe_96 : decode cX12_bribe 96 = .ok (.iconst (-1), 1) := by decide +kernel
theorem dX12_bribe_97 : decode cX12_bribe 97 = .ok (.if_icmp .eq 13, 3) := by decide +kernel
theorem dX12_bribe_100 : decode cX12_bribe 100 = .ok (.iload 6, 2) := by decide +kernel
theorem dX12_bribe_102 : decode cX12_bribe 102 = .ok (.iload 4, 2) := by decide +kernel
theorem dX12_bribe_104 : decode cX12_bribe 104 = .ok (.if_icmp .lt 6, 3) := by decide +kernel
theorem dX12_bribe_107 : decode cX12_bribe 107 = .ok (.goto 10, 3) := by decide +kernel
theorem dX12_bribe_110 : decode cX12_bribe 110 = .ok (.iload 5, 2) := by decide +kernel
theorem dX12_bribe_112 : decode cX12_bribe 112 = .ok (.istore_n 3, 1) := by decide +kernel
theorem dX12_bribe_113 : decode cX12_bribe 113 = .ok (.iload 6, 2) := by decide +kernel
theorem dX12_bribe_115 : decode cX12_bribe 115 = .ok (.istore 4, 2) := by decide +kernel
theorem dX12_bribe_117 : decode cX12_bribe 117 = .ok (.iinc 5 1, 3) := by decide +kernel
theorem dX12_bribe_120 : decode cX12_bribe 120 = .ok (.goto (-81), 3) := by decide +kernel
theorem dX12_bribe_123 : decode cX12_bribe 123 = .ok (.iload_n 2, 1) := by decide +kernel
theorem dX12_bribe_124 : decode cX12_bribe 124 = .ok (.ifCond .ne 7, 3) := by decide +kernel
theorem dX12_bribe_127 : decode cX12_bribe 127 = .ok (.iload_n 3, 1) := by decide +kernel
theorem dX12_bribe_128 : decode cX12_bribe 128 = .ok (.goto 16, 3) := by decide +kernel
theorem dX12_bribe_131 : decode cX12_bribe 131 = .ok (.iload_n 3, 1) := by decide +kernel
theorem dX12_bribe_132 : decode cX12_bribe 132 = .ok (.iconst (-1), 1) := by decide +kernel
theorem dX12_bribe_133 : decode cX12_bribe 133 = .ok (.if_icmp .ne 9, 3) := by decide +kernel
theorem dX12_bribe_136 : decode cX12_bribe 136 = .ok (.ldc_w 432, 3) := by decide +kernel
theorem dX12_bribe_139 : decode cX12_bribe 139 = .ok (.goto 5, 3) := by decide +kernel
theorem dX12_bribe_142 : decode cX12_bribe 142 = .ok (.iload 4, 2) := by decide +kernel
theorem dX12_bribe_144 : decode cX12_bribe 144 = .ok (.ireturn, 1) := by decide +kernel
theorem dX12_spread_0 : decode cX12_spread 0 = .ok (.aload_n 0, 1) := by decide +kernel
theorem dX12_spread_1 : decode cX12_spread 1 = .ok (.iconst 0, 1) := by decide +kernel
theorem dX12_spread_2 : decode cX12_spread 2 = .ok (.putfield 131, 3) := by decide +kernel
theorem dX12_spread_5 : decode cX12_spread 5 = .ok (.aload_n 0, 1) := by decide +kernel
theorem dX12_spread_6 : decode cX12_spread 6 = .ok (.iload_n 1, 1) := by decide +kernel
theorem dX12_spread_7 : decode cX12_spread 7 = .ok (.invokevirtual 390, 3) := by decide +kernel
theorem dX12_spread_10 : decode cX12_spread 10 = .ok (.ifCond .eq 13, 3) := by decide +kernel
theorem dX12_spread_13 : decode cX12_spread 13 = .ok (.iload_n 2, 1) := by decide +kernel
theorem dX12_spread_14 : decode cX12_spread 14 = .ok (.i2l, 1) := by decide +kernel
theorem dX12_spread_15 : decode cX12_spread 15 = .ok (.lconst 0, 1) := by decide +kernel
theorem dX12_spread_16 : decode cX12_spread 16 = .ok (.lconst 1, 1) := by decide +kernel
theorem dX12_spread_17 : decode cX12_spread 17 = .ok (.invokestatic 253, 3) := by decide +kernel
theorem dX12_spread_20 : decode cX12_spread 20 = .ok (.ifCond .ne 5, 3) := by decide +kernel
theorem dX12_spread_23 : decode cX12_spread 23 = .ok (.iconst (-1), 1) := by decide +kernel
theorem dX12_spread_24 : decode cX12_spread 24 = .ok (.ireturn, 1) := by decide +kernel
theorem dX12_spread_25 : decode cX12_spread 25 = .ok (.aload_n 0, 1) := by decide +kernel
theorem dX12_spread_26 : decode cX12_spread 26 = .ok (.invokevirtual 404, 3) := by decide +kernel
theorem dX12_spread_29 : decode cX12_spread 29 = .ok (.aload_n 0, 1) := by decide +kernel
theorem dX12_spread_30 : decode cX12_spread 30 = .ok (.iload_n 1, 1) := by decide +kernel
theorem dX12_spread_31 : decode cX12_spread 31 = .ok (.invokevirtual 407, 3) := by decide +kernel
theorem dX12_spread_34 : decode cX12_spread 34 = .ok (.aload_n 0, 1) := by decide +kernel
theorem dX12_spread_35 : decode cX12_spread 35 = .ok (.invokevirtual 410, 3) := by decide +kernel
theorem dX12_spread_38 : decode cX12_spread 38 = .ok (.aload_n 0, 1) := by decide +kernel
theorem dX12_spread_39 : decode cX12_spread 39 = .ok (.getfield 88, 3) := by decide +kernel
theorem dX12_spread_42 : decode cX12_spread 42 = .ok (.iconst 0, 1) := by decide +kernel
theorem dX12_spread_43 : decode cX12_spread 43 = .ok (.iaload, 1) := by decide +kernel
theorem dX12_spread_44 : decode cX12_spread 44 = .ok (.istore_n 3, 1) := by decide +kernel
theorem dX12_spread_45 : decode cX12_spread 45 = .ok (.aload_n 0, 1) := by decide +kernel
theorem dX12_spread_46 : decode cX12_spread 46 = .ok (.getfield 88, 3) := by decide +kernel
theorem dX12_spread_49 : decode cX12_spread 49 = .ok (.iconst 0, 1) := by decide +kernel
theorem dX12_spread_50 : decode cX12_spread 50 = .ok (.iaload, 1) := by decide +kernel
theorem dX12_spread_51 : decode cX12_spread 51 = .ok (.istore 4, 2) := by decide +kernel
theorem dX12_spread_53 : decode cX12_spread 53 = .ok (.iconst 0, 1) := by decide +kernel
theorem dX12_spread_54 : decode cX12_spread 54 = .ok (.istore 5, 2) := by decide +kernel
theorem dX12_spread_56 : decode cX12_spread 56 = .ok (.iconst 1, 1) := by decide +kernel
theorem dX12_spread_57 : decode cX12_spread 57 = .ok (.istore 6, 2) := by decide +kernel
theorem dX12_spread_59 : decode cX12_spread 59 = .ok (.iload 6, 2) := by decide +kernel
theorem dX12_spread_61 : decode cX12_spread 61 = .ok (.iload_n 1, 1) := by decide +kernel
theorem dX12_spread_62 : decode cX12_spread 62 = .ok (.if_icmp .gt 47, 3) := by decide +kernel
theorem dX12_spread_65 : decode cX12_spread 65 = .ok (.iload_n 3, 1) := by decide +kernel
theorem dX12_spread_66 : decode cX12_spread 66 = .ok (.aload_n 0, 1) := by decide +kernel
theorem dX12_spread_67 : decode cX12_spread 67 = .ok (.getfield 88, 3) := by decide +kernel
theorem dX12_spread_70 : decode cX12_spread 70 = .ok (.iload 6, 2) := by decide +kernel
theorem dX12_spread_72 : decode cX12_spread 72 = .ok (.iaload, 1) := by decide +kernel
theorem dX12_spread_73 : decode cX12_spread 73 = .ok (.invokestatic 345, 3) := by decide +kernel
theorem dX12_spread_76 : decode cX12_spread 76 = .ok (.istore_n 3, 1) := by decide +kernel
theorem dX12_spread_77 : decode cX12_spread 77 = .ok (.iload 4, 2) := by decide +kernel
theorem dX12_spread_79 : decode cX12_spread 79 = .ok (.aload_n 0, 1) := by decide +kernel
theorem dX12_spread_80 : decode cX12_spread 80 = .ok (.getfield 88, 3) := by decide +kernel
theorem dX12_spread_83 : decode cX12_spread 83 = .ok (.iload 6, 2) := by decide +kernel
theorem dX12_spread_85 : decode cX12_spread 85 = .ok (.iaload, 1) := by decide +kernel
theorem dX12_spread_86 : decode cX12_spread 86 = .ok (.invokestatic 347, 3) := by decide +kernel
theorem dX12_spread_89 : decode cX12_spread 89 = .ok (.istore 4, 2) := by decide +kernel
theorem dX12_spread_91 : decode cX12_spread 91 = .ok (.iload 5, 2) := by decide +kernel
theorem dX12_spread_93 : decode cX12_spread 93 = .ok (.aload_n 0, 1) := by decide +kernel
theorem dX12_spread_94 : decode cX12_spread 94 = .ok (.getfield 88, 3) := by decide +kernel
theorem dX12_spread_97 : decode cX12_spread 97 = .ok (.iload 6, 2) := by decide +kernel
theorem dX12_spread_99 : decode cX12_spread 99 = .ok (.iaload, 1) := by decide +kernel
theorem dX12_spread_100 : decode cX12_spread 100 = .ok (.iadd, 1) := by decide +kernel
theorem dX12_spread_101 : decode cX12_spread 101 = .ok (.istore 5, 2) := by decide +kernel
theorem dX12_spread_103 : decode cX12_spread 103 = .ok (.iinc 6 1, 3) := by decide +kernel
theorem dX12_spread_106 : decode cX12_spread 106 = .ok (.goto (-47), 3) := by decide +kernel
theorem dX12_spread_109 : decode cX12_spread 109 = .ok (.iload_n 2, 1) := by decide +kernel
theorem dX12_spread_110 : decode cX12_spread 110 = .ok (.ifCond .ne 10, 3) := by decide +kernel
theorem dX12_spread_113 : decode cX12_spread 113 = .ok (.iload 4, 2) := by decide +kernel
theorem dX12_spread_115 : decode cX12_spread 115 = .ok (.iload_n 3, 1) := by decide +kernel
theorem dX12_spread_116 : decode cX12_spread 116 = .ok (.isub, 1) := by decide +kernel
theorem dX12_spread_117 : decode cX12_spread 117 = .ok (.goto 5, 3) := by decide +kernel
theorem dX12_spread_120 : decode cX12_spread 120 = .ok (.iload 5, 2) := by decide +kernel
theorem dX12_spread_122 : decode cX12_spread 122 = .ok (.ireturn, 1) := by decide +kernel
theorem dX12_served_0 : decode cX12_served 0 = .ok (.aload_n 0, 1) := by decide +kernel
theorem dX12_served_1 : decode cX12_served 1 = .ok (.iconst 0, 1) := by decide +kernel
theorem dX12_served_2 : decode cX12_served 2 = .ok (.putfield 131, 3) := by decide +kernel
theorem dX12_served_5 : decode cX12_served 5 = .ok (.aload_n 0, 1) := by decide +kernel
theorem dX12_served_6 : decode cX12_served 6 = .ok (.iload_n 2, 1) := by decide +kernel
theorem dX12_served_7 : decode cX12_served 7 = .ok (.invokevirtual 390, 3) := by decide +kernel
theorem dX12_served_10 : decode cX12_served 10 = .ok (.ifCond .eq 29, 3) := by decide +kernel
theorem dX12_served_13 : decode cX12_served 13 = .ok (.iload_n 1, 1) := by decide +kernel
theorem dX12_served_14 : decode cX12_served 14 = .ok (.i2l, 1) := by decide +kernel
theorem dX12_served_15 : decode cX12_served 15 = .ok (.lconst 0, 1) := by decide +kernel
theorem dX12_served_16 : decode cX12_served 16 = .ok (.aload_n 0, 1) := by decide +kernel
theorem dX12_served_17 : decode cX12_served 17 = .ok (.getfield 308, 3) := by decide +kernel
theorem dX12_served_20 : decode cX12_served 20 = .ok (.iconst 1, 1) := by decide +kernel
theorem dX12_served_21 : decode cX12_served 21 = .ok (.isub, 1) := by decide +kernel
theorem dX12_served_22 : decode cX12_served 22 = .ok (.i2l, 1) := by decide +kernel
theorem dX12_served_23 : decode cX12_served 23 = .ok (.invokestatic 253, 3) := by decide +kernel
theorem dX12_served_26 : decode cX12_served 26 = .ok (.ifCond .eq 13, 3) := by decide +kernel
theorem dX12_served_29 : decode cX12_served 29 = .ok (.iload_n 3, 1) := by decide +kernel
theorem dX12_served_30 : decode cX12_served 30 = .ok (.i2l, 1) := by decide +kernel
theorem dX12_served_31 : decode cX12_served 31 = .ok (.lconst 0, 1) := by decide +kernel
theorem dX12_served_32 : decode cX12_served 32 = .ok (.lconst 1, 1) := by decide +kernel
theorem dX12_served_33 : decode cX12_served 33 = .ok (.invokestatic 253, 3) := by decide +kernel
theorem dX12_served_36 : decode cX12_served 36 = .ok (.ifCond .ne 5, 3) := by decide +kernel
theorem dX12_served_39 : decode cX12_served 39 = .ok (.iconst (-1), 1) := by decide +kernel
theorem dX12_served_40 : decode cX12_served 40 = .ok (.ireturn, 1) := by decide +kernel
theorem dX12_served_41 : decode cX12_served 41 = .ok (.aload_n 0, 1) := by decide +kernel
theorem dX12_served_42 : decode cX12_served 42 = .ok (.invokevirtual 404, 3) := by decide +kernel
theorem dX12_served_45 : decode cX12_served 45 = .ok (.aload_n 0, 1) := by decide +kernel
theorem dX12_served_46 : decode cX12_served 46 = .ok (.getfield 82, 3) := by decide +kernel
theorem dX12_served_49 : decode cX12_served 49 = .ok (.iload_n 1, 1) := by decide +kernel
theorem dX12_served_50 : decode cX12_served 50 = .ok (.iconst 0, 1) := by decide +kernel
theorem dX12_served_51 : decode cX12_served 51 = .ok (.iastore, 1) := by decide +kernel
theorem dX12_served_52 : decode cX12_served 52 = .ok (.aload_n 0, 1) := by decide +kernel
theorem dX12_served_53 : decode cX12_served 53 = .ok (.getfield 85, 3) := by decide +kernel
theorem dX12_served_56 : decode cX12_served 56 = .ok (.iload_n 1, 1) := by decide +kernel
theorem dX12_served_57 : decode cX12_served 57 = .ok (.iconst 0, 1) := by decide +kernel
theorem dX12_served_58 : decode cX12_served 58 = .ok (.iastore, 1) := by decide +kernel
theorem dX12_served_59 : decode cX12_served 59 = .ok (.aload_n 0, 1) := by decide +kernel
theorem dX12_served_60 : decode cX12_served 60 = .ok (.iload_n 2, 1) := by decide +kernel
theorem dX12_served_61 : decode cX12_served 61 = .ok (.invokevirtual 407, 3) := by decide +kernel
theorem dX12_served_64 : decode cX12_served 64 = .ok (.aload_n 0, 1) := by decide +kernel
theorem dX12_served_65 : decode cX12_served 65 = .ok (.invokevirtual 410, 3) := by decide +kernel
theorem dX12_served_68 : decode cX12_served 68 = .ok (.iload_n 3, 1) := by decide +kernel
theorem dX12_served_69 : decode cX12_served 69 = .ok (.ifCond .ne 12, 3) := by decide +kernel
theorem dX12_served_72 : decode cX12_served 72 = .ok (.aload_n 0, 1) := by decide +kernel
theorem dX12_served_73 : decode cX12_served 73 = .ok (.getfield 82, 3) := by decide +kernel
theorem dX12_served_76 : decode cX12_served 76 = .ok (.iload_n 1, 1) := by decide +kernel
theorem dX12_served_77 : decode cX12_served 77 = .ok (.iaload, 1) := by decide +kernel
theorem dX12_served_78 : decode cX12_served 78 = .ok (.goto 9, 3) := by decide +kernel
theorem dX12_served_81 : decode cX12_served 81 = .ok (.aload_n 0, 1) := by decide +kernel
theorem dX12_served_82 : decode cX12_served 82 = .ok (.getfield 85, 3) := by decide +kernel
theorem dX12_served_85 : decode cX12_served 85 = .ok (.iload_n 1, 1) := by decide +kernel
theorem dX12_served_86 : decode cX12_served 86 = .ok (.iaload, 1) := by decide +kernel
theorem dX12_served_87 : decode cX12_served 87 = .ok (.ireturn, 1) := by decide +kernel
theorem dX12_goOdds_0 : decode cX12_goOdds 0 = .ok (.iload_n 2, 1) := by decide +kernel
theorem dX12_goOdds_1 : decode cX12_goOdds 1 = .ok (.ifCond .ne 4, 3) := by decide +kernel
theorem dX12_goOdds_4 : decode cX12_goOdds 4 = .ok (.return_, 1) := by decide +kernel
theorem dX12_goOdds_5 : decode cX12_goOdds 5 = .ok (.iload_n 1, 1) := by decide +kernel
theorem dX12_goOdds_6 : decode cX12_goOdds 6 = .ok (.ifCond .ne 29, 3) := by decide +kernel
theorem dX12_goOdds_9 : decode cX12_goOdds 9 = .ok (.aload_n 0, 1) := by decide +kernel
theorem dX12_goOdds_10 : decode cX12_goOdds 10 = .ok (.dup, 1) := by decide +kernel
theorem dX12_goOdds_11 : decode cX12_goOdds 11 = .ok (.getfield 472, 3) := by decide +kernel
theorem dX12_goOdds_14 : decode cX12_goOdds 14 = .ok (.aload_n 0, 1) := by decide +kernel
theorem dX12_goOdds_15 : decode cX12_goOdds 15 = .ok (.getfield 55, 3) := by decide +kernel
theorem dX12_goOdds_18 : decode cX12_goOdds 18 = .ok (.bipush 54, 2) := by decide +kernel
theorem dX12_goOdds_20 : decode cX12_goOdds 20 = .ok (.iaload, 1) := by decide +kernel
theorem dX12_goOdds_21 : decode cX12_goOdds 21 = .ok (.iload_n 3, 1) := by decide +kernel
theorem dX12_goOdds_22 : decode cX12_goOdds 22 = .ok (.if_icmp .lt 7, 3) := by decide +kernel
theorem dX12_goOdds_25 : decode cX12_goOdds 25 = .ok (.iload_n 2, 1) := by decide +kernel
theorem dX12_goOdds_26 : decode cX12_goOdds 26 = .ok (.goto 4, 3) := by decide +kernel
theorem dX12_goOdds_29 : decode cX12_goOdds 29 = .ok (.iconst 0, 1) := by decide +kernel
theorem dX12_goOdds_30 : decode cX12_goOdds 30 = .ok (.iadd, 1) := by decide +kernel
theorem dX12_goOdds_31 : decode cX12_goOdds 31 = .ok (.putfield 472, 3) := by decide +kernel
theorem dX12_goOdds_34 : decode cX12_goOdds 34 = .ok (.return_, 1) := by decide +kernel
theorem dX12_goOdds_35 : decode cX12_goOdds 35 = .ok (.iconst 0, 1) := by decide +kernel
theorem dX12_goOdds_36 : decode cX12_goOdds 36 = .ok (.istore 4, 2) := by decide +kernel
theorem dX12_goOdds_38 : decode cX12_goOdds 38 = .ok (.iload 4, 2) := by decide +kernel
theorem dX12_goOdds_40 : decode cX12_goOdds 40 = .ok (.bipush 57, 2) := by decide +kernel
theorem dX12_goOdds_42 : decode cX12_goOdds 42 = .ok (.if_icmp .ge 28, 3) := by decide +kernel
theorem dX12_goOdds_45 : decode cX12_goOdds 45 = .ok (.aload_n 0, 1) := by decide +kernel
theorem dX12_goOdds_46 : decode cX12_goOdds 46 = .ok (.getfield 122, 3) := by decide +kernel
theorem dX12_goOdds_49 : decode cX12_goOdds 49 = .ok (.bipush 57, 2) := by decide +kernel
theorem dX12_goOdds_51 : decode cX12_goOdds 51 = .ok (.iload_n 1, 1) := by decide +kernel
theorem dX12_goOdds_52 : decode cX12_goOdds 52 = .ok (.imul, 1) := by decide +kernel
theorem dX12_goOdds_53 : decode cX12_goOdds 53 = .ok (.iload 4, 2) := by decide +kernel
theorem dX12_goOdds_55 : decode cX12_goOdds 55 = .ok (.iadd, 1) := by decide +kernel
theorem dX12_goOdds_56 : decode cX12_goOdds 56 = .ok (.aload_n 0, 1) := by decide +kernel
theorem dX12_goOdds_57 : decode cX12_goOdds 57 = .ok (.getfield 55, 3) := by decide +kernel
theorem dX12_goOdds_60 : decode cX12_goOdds 60 = .ok (.iload 4, 2) := by decide +kernel
theorem dX12_goOdds_62 : decode cX12_goOdds 62 = .ok (.iaload, 1) := by decide +kernel
theorem dX12_goOdds_63 : decode cX12_goOdds 63 = .ok (.iastore, 1) := by decide +kernel
theorem dX12_goOdds_64 : decode cX12_goOdds 64 = .ok (.iinc 4 1, 3) := by decide +kernel
theorem dX12_goOdds_67 : decode cX12_goOdds 67 = .ok (.goto (-29), 3) := by decide +kernel
theorem dX12_goOdds_70 : decode cX12_goOdds 70 = .ok (.iload_n 2, 1) := by decide +kernel
theorem dX12_goOdds_71 : decode cX12_goOdds 71 = .ok (.i2l, 1) := by decide +kernel
theorem dX12_goOdds_72 : decode cX12_goOdds 72 = .ok (.aload_n 0, 1) := by decide +kernel
theorem dX12_goOdds_73 : decode cX12_goOdds 73 = .ok (.getfield 335, 3) := by decide +kernel
theorem dX12_goOdds_76 : decode cX12_goOdds 76 = .ok (.i2l, 1) := by decide +kernel
theorem dX12_goOdds_77 : decode cX12_goOdds 77 = .ok (.lmul, 1) := by decide +kernel
theorem dX12_goOdds_78 : decode cX12_goOdds 78 = .ok (.ldc2_w 333, 3) := by decide +kernel
theorem dX12_goOdds_81 : decode cX12_goOdds 81 = .ok (.ldiv, 1) := by decide +kernel
theorem dX12_goOdds_82 : decode cX12_goOdds 82 = .ok (.l2i, 1) := by decide +kernel
theorem dX12_goOdds_83 : decode cX12_goOdds 83 = .ok (.istore 4, 2) := by decide +kernel
theorem dX12_goOdds_85 : decode cX12_goOdds 85 = .ok (.iconst 0, 1) := by decide +kernel
theorem dX12_goOdds_86 : decode cX12_goOdds 86 = .ok (.istore 5, 2) := by decide +kernel
theorem dX12_goOdds_88 : decode cX12_goOdds 88 = .ok (.iload 5, 2) := by decide +kernel
theorem dX12_goOdds_90 : decode cX12_goOdds 90 = .ok (.iconst 2, 1) := by decide +kernel
theorem dX12_goOdds_91 : decode cX12_goOdds 91 = .ok (.if_icmp .ge 80, 3) := by decide +kernel
theorem dX12_goOdds_94 : decode cX12_goOdds 94 = .ok (.aload_n 0, 1) := by decide +kernel
theorem dX12_goOdds_95 : decode cX12_goOdds 95 = .ok (.iload 5, 2) := by decide +kernel
theorem dX12_goOdds_97 : decode cX12_goOdds 97 = .ok (.ifCond .ne 7, 3) := by decide +kernel
theorem dX12_goOdds_100 : decode cX12_goOdds 100 = .ok (.iconst 1, 1) := by decide +kernel
theorem dX12_goOdds_101 : decode cX12_goOdds 101 = .ok (.goto 4, 3) := by decide +kernel
theorem dX12_goOdds_104 : decode cX12_goOdds 104 = .ok (.iconst 0, 1) := by decide +kernel
theorem dX12_goOdds_105 : decode cX12_goOdds 105 = .ok (.invokevirtual 400, 3) := by decide +kernel
theorem dX12_goOdds_108 : decode cX12_goOdds 108 = .ok (.aload_n 0, 1) := by decide +kernel
theorem dX12_goOdds_109 : decode cX12_goOdds 109 = .ok (.iload_n 1, 1) := by decide +kernel
theorem dX12_goOdds_110 : decode cX12_goOdds 110 = .ok (.iconst 1, 1) := by decide +kernel
theorem dX12_goOdds_111 : decode cX12_goOdds 111 = .ok (.isub, 1) := by decide +kernel
theorem dX12_goOdds_112 : decode cX12_goOdds 112 = .ok (.iload 5, 2) := by decide +kernel
theorem dX12_goOdds_114 : decode cX12_goOdds 114 = .ok (.ifCond .ne 8, 3) := by decide +kernel
theorem dX12_goOdds_117 : decode cX12_goOdds 117 = .ok (.iload 4, 2) := by decide +kernel
theorem dX12_goOdds_119 : decode cX12_goOdds 119 = .ok (.goto 7, 3) := by decide +kernel
theorem dX12_goOdds_122 : decode cX12_goOdds 122 = .ok (.iload_n 2, 1) := by decide +kernel
theorem dX12_goOdds_123 : decode cX12_goOdds 123 = .ok (.iload 4, 2) := by decide +kernel
theorem dX12_goOdds_125 : decode cX12_goOdds 125 = .ok (.isub, 1) := by decide +kernel
theorem dX12_goOdds_126 : decode cX12_goOdds 126 = .ok (.iload_n 3, 1) := by decide +kernel
theorem dX12_goOdds_127 : decode cX12_goOdds 127 = .ok (.invokevirtual 475, 3) := by decide +kernel
theorem dX12_goOdds_130 : decode cX12_goOdds 130 = .ok (.iconst 0, 1) := by decide +kernel
theorem dX12_goOdds_131 : decode cX12_goOdds 131 = .ok (.istore 6, 2) := by decide +kernel
theorem dX12_goOdds_133 : decode cX12_goOdds 133 = .ok (.iload 6, 2) := by decide +kernel
theorem dX12_goOdds_135 : decode cX12_goOdds 135 = .ok (.bipush 57, 2) := by decide +kernel
theorem dX12_goOdds_137 : decode cX12_goOdds 137 = .ok (.if_icmp .ge 28, 3) := by decide +kernel
theorem dX12_goOdds_140 : decode cX12_goOdds 140 = .ok (.aload_n 0, 1) := by decide +kernel
theorem dX12_goOdds_141 : decode cX12_goOdds 141 = .ok (.getfield 55, 3) := by decide +kernel
theorem dX12_goOdds_144 : decode cX12_goOdds 144 = .ok (.iload 6, 2) := by decide +kernel
theorem dX12_goOdds_146 : decode cX12_goOdds 146 = .ok (.aload_n 0, 1) := by decide +kernel
theorem dX12_goOdds_147 : decode cX12_goOdds 147 = .ok (.getfield 122, 3) := by decide +kernel
theorem dX12_goOdds_150 : decode cX12_goOdds 150 = .ok (.bipush 57, 2) := by decide +kernel
theorem dX12_goOdds_152 : decode cX12_goOdds 152 = .ok (.iload_n 1, 1) := by decide +kernel
theorem dX12_goOdds_153 : decode cX12_goOdds 153 = .ok (.imul, 1) := by decide +kernel
theorem dX12_goOdds_154 : decode cX12_goOdds 154 = .ok (.iload 6, 2) := by decide +kernel
theorem dX12_goOdds_156 : decode cX12_goOdds 156 = .ok (.iadd, 1) := by decide +kernel
theorem dX12_goOdds_157 : decode cX12_goOdds 157 = .ok (.iaload, 1) := by decide +kernel
theorem dX12_goOdds_158 : decode cX12_goOdds 158 = .ok (.iastore, 1) := by decide +kernel
theorem dX12_goOdds_159 : decode cX12_goOdds 159 = .ok (.iinc 6 1, 3) := by decide +kernel
theorem dX12_goOdds_162 : decode cX12_goOdds 162 = .ok (.goto (-29), 3) := by decide +kernel
theorem dX12_goOdds_165 : decode cX12_goOdds 165 = .ok (.iinc 5 1, 3) := by decide +kernel
theorem dX12_goOdds_168 : decode cX12_goOdds 168 = .ok (.goto (-80), 3) := by decide +kernel
theorem dX12_goOdds_171 : decode cX12_goOdds 171 = .ok (.return_, 1) := by decide +kernel
theorem dX12_odds_0 : decode cX12_odds 0 = .ok (.aload_n 0, 1) := by decide +kernel
theorem dX12_odds_1 : decode cX12_odds 1 = .ok (.iconst 0, 1) := by decide +kernel
theorem dX12_odds_2 : decode cX12_odds 2 = .ok (.putfield 131, 3) := by decide +kernel
theorem dX12_odds_5 : decode cX12_odds 5 = .ok (.aload_n 0, 1) := by decide +kernel
theorem dX12_odds_6 : decode cX12_odds 6 = .ok (.getfield 305, 3) := by decide +kernel
theorem dX12_odds_9 : decode cX12_odds 9 = .ok (.ifCond .eq 27, 3) := by decide +kernel
theorem dX12_odds_12 : decode cX12_odds 12 = .ok (.iload_n 1, 1) := by decide +kernel
theorem dX12_odds_13 : decode cX12_odds 13 = .ok (.i2l, 1) := by decide +kernel
theorem dX12_odds_14 : decode cX12_odds 14 = .ok (.lconst 1, 1) := by decide +kernel
theorem dX12_odds_15 : decode cX12_odds 15 = .ok (.ldc2_w 478, 3) := by decide +kernel
theorem dX12_odds_18 : decode cX12_odds 18 = .ok (.invokestatic 253, 3) := by decide +kernel
theorem dX12_odds_21 : decode cX12_odds 21 = .ok (.ifCond .eq 15, 3) := by decide +kernel
theorem dX12_odds_24 : decode cX12_odds 24 = .ok (.iload_n 2, 1) := by decide +kernel
theorem dX12_odds_25 : decode cX12_odds 25 = .ok (.i2l, 1) := by decide +kernel
theorem dX12_odds_26 : decode cX12_odds 26 = .ok (.lconst 0, 1) := by decide +kernel
theorem dX12_odds_27 : decode cX12_odds 27 = .ok (.ldc2_w 456, 3) := by decide +kernel
theorem dX12_odds_30 : decode cX12_odds 30 = .ok (.invokestatic 253, 3) := by decide +kernel
theorem dX12_odds_33 : decode cX12_odds 33 = .ok (.ifCond .ne 5, 3) := by decide +kernel
theorem dX12_odds_36 : decode cX12_odds 36 = .ok (.iconst (-1), 1) := by decide +kernel
theorem dX12_odds_37 : decode cX12_odds 37 = .ok (.ireturn, 1) := by decide +kernel
theorem dX12_odds_38 : decode cX12_odds 38 = .ok (.aload_n 0, 1) := by decide +kernel
theorem dX12_odds_39 : decode cX12_odds 39 = .ok (.invokevirtual 404, 3) := by decide +kernel
theorem dX12_odds_42 : decode cX12_odds 42 = .ok (.aload_n 0, 1) := by decide +kernel
theorem dX12_odds_43 : decode cX12_odds 43 = .ok (.iconst 0, 1) := by decide +kernel
theorem dX12_odds_44 : decode cX12_odds 44 = .ok (.putfield 472, 3) := by decide +kernel
theorem dX12_odds_47 : decode cX12_odds 47 = .ok (.aload_n 0, 1) := by decide +kernel
theorem dX12_odds_48 : decode cX12_odds 48 = .ok (.iload_n 1, 1) := by decide +kernel
theorem dX12_odds_49 : decode cX12_odds 49 = .ok (.ldc_w 480, 3) := by decide +kernel
theorem dX12_odds_52 : decode cX12_odds 52 = .ok (.iload_n 2, 1) := by decide +kernel
theorem dX12_odds_53 : decode cX12_odds 53 = .ok (.invokevirtual 475, 3) := by decide +kernel
theorem dX12_odds_56 : decode cX12_odds 56 = .ok (.aload_n 0, 1) := by decide +kernel
theorem dX12_odds_57 : decode cX12_odds 57 = .ok (.invokevirtual 410, 3) := by decide +kernel
theorem dX12_odds_60 : decode cX12_odds 60 = .ok (.aload_n 0, 1) := by decide +kernel
theorem dX12_odds_61 : decode cX12_odds 61 = .ok (.getfield 472, 3) := by decide +kernel
theorem dX12_odds_64 : decode cX12_odds 64 = .ok (.ireturn, 1) := by decide +kernel
theorem dX12_lone_0 : decode cX12_lone 0 = .ok (.aload_n 0, 1) := by decide +kernel
theorem dX12_lone_1 : decode cX12_lone 1 = .ok (.iconst 0, 1) := by decide +kernel
theorem dX12_lone_2 : decode cX12_lone 2 = .ok (.putfield 131, 3) := by decide +kernel
theorem dX12_lone_5 : decode cX12_lone 5 = .ok (.aload_n 0, 1) := by decide +kernel
theorem dX12_lone_6 : decode cX12_lone 6 = .ok (.iload_n 1, 1) := by decide +kernel
theorem dX12_lone_7 : decode cX12_lone 7 = .ok (.invokevirtual 323, 3) := by decide +kernel
theorem dX12_lone_10 : decode cX12_lone 10 = .ok (.ifCond .eq 13, 3) := by decide +kernel
theorem dX12_lone_13 : decode cX12_lone 13 = .ok (.iload_n 2, 1) := by decide +kernel
theorem dX12_lone_14 : decode cX12_lone 14 = .ok (.i2l, 1) := by decide +kernel
theorem dX12_lone_15 : decode cX12_lone 15 = .ok (.lconst 0, 1) := by decide +kernel
theorem dX12_lone_16 : decode cX12_lone 16 = .ok (.lconst 1, 1) := by decide +kernel
theorem dX12_lone_17 : decode cX12_lone 17 = .ok (.invokestatic 253, 3) := by decide +kernel
theorem dX12_lone_20 : decode cX12_lone 20 = .ok (.ifCond .ne 5, 3) := by decide +kernel
theorem dX12_lone_23 : decode cX12_lone 23 = .ok (.iconst (-1), 1) := by decide +kernel
theorem dX12_lone_24 : decode cX12_lone 24 = .ok (.ireturn, 1) := by decide +kernel
theorem dX12_lone_25 : decode cX12_lone 25 = .ok (.aload_n 0, 1) := by decide +kernel
theorem dX12_lone_26 : decode cX12_lone 26 = .ok (.invokevirtual 404, 3) := by decide +kernel
theorem dX12_lone_29 : decode cX12_lone 29 = .ok (.aload_n 0, 1) := by decide +kernel
theorem dX12_lone_30 : decode cX12_lone 30 = .ok (.iconst 1, 1) := by decide +kernel
theorem dX12_lone_31 : decode cX12_lone 31 = .ok (.aload_n 0, 1) := by decide +kernel
theorem dX12_lone_32 : decode cX12_lone 32 = .ok (.getfield 305, 3) := by decide +kernel
theorem dX12_lone_35 : decode cX12_lone 35 = .ok (.ishl, 1) := by decide +kernel
theorem dX12_lone_36 : decode cX12_lone 36 = .ok (.iconst 1, 1) := by decide +kernel
theorem dX12_lone_37 : decode cX12_lone 37 = .ok (.isub, 1) := by decide +kernel
theorem dX12_lone_38 : decode cX12_lone 38 = .ok (.iconst 1, 1) := by decide +kernel
theorem dX12_lone_39 : decode cX12_lone 39 = .ok (.iload_n 1, 1) := by decide +kernel
theorem dX12_lone_40 : decode cX12_lone 40 = .ok (.ishl, 1) := by decide +kernel
theorem dX12_lone_41 : decode cX12_lone 41 = .ok (.iconst (-1), 1) := by decide +kernel
theorem dX12_lone_42 : decode cX12_lone 42 = .ok (.ixor, 1) := by decide +kernel
theorem dX12_lone_43 : decode cX12_lone 43 = .ok (.iand, 1) := by decide +kernel
theorem dX12_lone_44 : decode cX12_lone 44 = .ok (.putfield 342, 3) := by decide +kernel
theorem dX12_lone_47 : decode cX12_lone 47 = .ok (.iconst (-1), 1) := by decide +kernel
theorem dX12_lone_48 : decode cX12_lone 48 = .ok (.istore_n 3, 1) := by decide +kernel
theorem dX12_lone_49 : decode cX12_lone 49 = .ok (.iconst 0, 1) := by decide +kernel
theorem dX12_lone_50 : decode cX12_lone 50 = .ok (.istore 4, 2) := by decide +kernel
theorem dX12_lone_52 : decode cX12_lone 52 = .ok (.iconst 0, 1) := by decide +kernel
theorem dX12_lone_53 : decode cX12_lone 53 = .ok (.istore 5, 2) := by decide +kernel
theorem dX12_lone_55 : decode cX12_lone 55 = .ok (.iload 5, 2) := by decide +kernel
theorem dX12_lone_57 : decode cX12_lone 57 = .ok (.aload_n 0, 1) := by decide +kernel
theorem dX12_lone_58 : decode cX12_lone 58 = .ok (.getfield 58, 3) := by decide +kernel
theorem dX12_lone_61 : decode cX12_lone 61 = .ok (.bipush 54, 2) := by decide +kernel
theorem dX12_lone_63 : decode cX12_lone 63 = .ok (.iaload, 1) := by decide +kernel
theorem dX12_lone_64 : decode cX12_lone 64 = .ok (.if_icmp .gt 46, 3) := by decide +kernel
theorem dX12_lone_67 : decode cX12_lone 67 = .ok (.aload_n 0, 1) := by decide +kernel
theorem dX12_lone_68 : decode cX12_lone 68 = .ok (.getfield 64, 3) := by decide +kernel
theorem dX12_lone_71 : decode cX12_lone 71 = .ok (.iload_n 1, 1) := by decide +kernel
theorem dX12_lone_72 : decode cX12_lone 72 = .ok (.iload 5, 2) := by decide +kernel
theorem dX12_lone_74 : decode cX12_lone 74 = .ok (.iastore, 1) := by decide +kernel
theorem dX12_lone_75 : decode cX12_lone 75 = .ok (.aload_n 0, 1) := by decide +kernel
theorem dX12_lone_76 : decode cX12_lone 76 = .ok (.iload_n 1, 1) := by decide +kernel
theorem dX12_lone_77 : decode cX12_lone 77 = .ok (.invokevirtual 433, 3) := by decide +kernel
theorem dX12_lone_80 : decode cX12_lone 80 = .ok (.istore 6, 2) := by decide +kernel
theorem dX12_lone_82 : decode cX12_lone 82 = .ok (.iload_n 3, 1) := by decide +kernel
theorem dX12_lone_83 : decode cX12_lone 83 = .ok (.iconst (-1), 1) := by decide +kernel
theorem dX12_lone_84 : decode cX12_lone 84 = .ok (.if_icmp .eq 13, 3) := by decide +kernel
theorem dX12_lone_87 : decode cX12_lone 87 = .ok (.iload 6, 2) := by decide +kernel
theorem dX12_lone_89 : decode cX12_lone 89 = .ok (.iload 4, 2) := by decide +kernel
theorem dX12_lone_91 : decode cX12_lone 91 = .ok (.if_icmp .gt 6, 3) := by decide +kernel
theorem dX12_lone_94 : decode cX12_lone 94 = .ok (.goto 10, 3) := by decide +kernel
theorem dX12_lone_97 : decode cX12_lone 97 = .ok (.iload 5, 2) := by decide +kernel
theorem dX12_lone_99 : decode cX12_lone 99 = .ok (.istore_n 3, 1) := by decide +kernel
theorem dX12_lone_100 : decode cX12_lone 100 = .ok (.iload 6, 2) := by decide +kernel
theorem dX12_lone_102 : decode cX12_lone 102 = .ok (.istore 4, 2) := by decide +kernel
theorem dX12_lone_104 : decode cX12_lone 104 = .ok (.iinc 5 1, 3) := by decide +kernel
theorem dX12_lone_107 : decode cX12_lone 107 = .ok (.goto (-52), 3) := by decide +kernel
theorem dX12_lone_110 : decode cX12_lone 110 = .ok (.aload_n 0, 1) := by decide +kernel
theorem dX12_lone_111 : decode cX12_lone 111 = .ok (.invokevirtual 393, 3) := by decide +kernel
theorem dX12_lone_114 : decode cX12_lone 114 = .ok (.iload_n 2, 1) := by decide +kernel
theorem dX12_lone_115 : decode cX12_lone 115 = .ok (.ifCond .ne 7, 3) := by decide +kernel
theorem dX12_lone_118 : decode cX12_lone 118 = .ok (.iload_n 3, 1) := by decide +kernel
theorem dX12_lone_119 : decode cX12_lone 119 = .ok (.goto 5, 3) := by decide +kernel
theorem dX12_lone_122 : decode cX12_lone 122 = .ok (.iload 4, 2) := by decide +kernel
theorem dX12_lone_124 : decode cX12_lone 124 = .ok (.ireturn, 1) := by decide +kernel
theorem dX12_glut_0 : decode cX12_glut 0 = .ok (.aload_n 0, 1) := by decide +kernel
theorem dX12_glut_1 : decode cX12_glut 1 = .ok (.iconst 0, 1) := by decide +kernel
theorem dX12_glut_2 : decode cX12_glut 2 = .ok (.putfield 131, 3) := by decide +kernel
theorem dX12_glut_5 : decode cX12_glut 5 = .ok (.aload_n 0, 1) := by decide +kernel
theorem dX12_glut_6 : decode cX12_glut 6 = .ok (.iload_n 1, 1) := by decide +kernel
theorem dX12_glut_7 : decode cX12_glut 7 = .ok (.invokevirtual 390, 3) := by decide +kernel
theorem dX12_glut_10 : decode cX12_glut 10 = .ok (.ifCond .eq 13, 3) := by decide +kernel
theorem dX12_glut_13 : decode cX12_glut 13 = .ok (.iload_n 2, 1) := by decide +kernel
theorem dX12_glut_14 : decode cX12_glut 14 = .ok (.i2l, 1) := by decide +kernel
theorem dX12_glut_15 : decode cX12_glut 15 = .ok (.lconst 0, 1) := by decide +kernel
theorem dX12_glut_16 : decode cX12_glut 16 = .ok (.lconst 1, 1) := by decide +kernel
theorem dX12_glut_17 : decode cX12_glut 17 = .ok (.invokestatic 253, 3) := by decide +kernel
theorem dX12_glut_20 : decode cX12_glut 20 = .ok (.ifCond .ne 5, 3) := by decide +kernel
theorem dX12_glut_23 : decode cX12_glut 23 = .ok (.iconst (-1), 1) := by decide +kernel
theorem dX12_glut_24 : decode cX12_glut 24 = .ok (.ireturn, 1) := by decide +kernel
theorem dX12_glut_25 : decode cX12_glut 25 = .ok (.aload_n 0, 1) := by decide +kernel
theorem dX12_glut_26 : decode cX12_glut 26 = .ok (.invokevirtual 404, 3) := by decide +kernel
theorem dX12_glut_29 : decode cX12_glut 29 = .ok (.iconst 0, 1) := by decide +kernel
theorem dX12_glut_30 : decode cX12_glut 30 = .ok (.istore_n 3, 1) := by decide +kernel
theorem dX12_glut_31 : decode cX12_glut 31 = .ok (.iconst 0, 1) := by decide +kernel
theorem dX12_glut_32 : decode cX12_glut 32 = .ok (.istore 4, 2) := by decide +kernel
theorem dX12_glut_34 : decode cX12_glut 34 = .ok (.iload 4, 2) := by decide +kernel
theorem dX12_glut_36 : decode cX12_glut 36 = .ok (.iload_n 1, 1) := by decide +kernel
theorem dX12_glut_37 : decode cX12_glut 37 = .ok (.if_icmp .ge 82, 3) := by decide +kernel
theorem dX12_glut_40 : decode cX12_glut 40 = .ok (.aload_n 0, 1) := by decide +kernel
theorem dX12_glut_41 : decode cX12_glut 41 = .ok (.iconst 0, 1) := by decide +kernel
theorem dX12_glut_42 : decode cX12_glut 42 = .ok (.invokevirtual 400, 3) := by decide +kernel
theorem dX12_glut_45 : decode cX12_glut 45 = .ok (.iconst 0, 1) := by decide +kernel
theorem dX12_glut_46 : decode cX12_glut 46 = .ok (.istore 5, 2) := by decide +kernel
theorem dX12_glut_48 : decode cX12_glut 48 = .ok (.iconst 0, 1) := by decide +kernel
theorem dX12_glut_49 : decode cX12_glut 49 = .ok (.istore 6, 2) := by decide +kernel
theorem dX12_glut_51 : decode cX12_glut 51 = .ok (.iload 6, 2) := by decide +kernel
theorem dX12_glut_53 : decode cX12_glut 53 = .ok (.aload_n 0, 1) := by decide +kernel
theorem dX12_glut_54 : decode cX12_glut 54 = .ok (.getfield 305, 3) := by decide +kernel
theorem dX12_glut_57 : decode cX12_glut 57 = .ok (.if_icmp .ge 43, 3) := by decide +kernel
theorem dX12_glut_60 : decode cX12_glut 60 = .ok (.iload 5, 2) := by decide +kernel
theorem dX12_glut_62 : decode cX12_glut 62 = .ok (.ifCond .ne 25, 3) := by decide +kernel
theorem dX12_glut_65 : decode cX12_glut 65 = .ok (.aload_n 0, 1) := by decide +kernel
theorem dX12_glut_66 : decode cX12_glut 66 = .ok (.getfield 55, 3) := by decide +kernel
theorem dX12_glut_69 : decode cX12_glut 69 = .ok (.bipush 6, 2) := by decide +kernel
theorem dX12_glut_71 : decode cX12_glut 71 = .ok (.iload 6, 2) := by decide +kernel
theorem dX12_glut_73 : decode cX12_glut 73 = .ok (.iadd, 1) := by decide +kernel
theorem dX12_glut_74 : decode cX12_glut 74 = .ok (.iaload, 1) := by decide +kernel
theorem dX12_glut_75 : decode cX12_glut 75 = .ok (.aload_n 0, 1) := by decide +kernel
theorem dX12_glut_76 : decode cX12_glut 76 = .ok (.getfield 37, 3) := by decide +kernel
theorem dX12_glut_79 : decode cX12_glut 79 = .ok (.iconst 3, 1) := by decide +kernel
theorem dX12_glut_80 : decode cX12_glut 80 = .ok (.iload 6, 2) := by decide +kernel
theorem dX12_glut_82 : decode cX12_glut 82 = .ok (.imul, 1) := by decide +kernel
theorem dX12_glut_83 : decode cX12_glut 83 = .ok (.iaload, 1) := by decide +kernel
theorem dX12_glut_84 : decode cX12_glut 84 = .ok (.if_icmp .le 7, 3) := by decide +kernel
theorem dX12_glut_87 : decode cX12_glut 87 = .ok (.iconst 1, 1) := by decide +kernel
theorem dX12_glut_88 : decode cX12_glut 88 = .ok (.goto 4, 3) := by decide +kernel
theorem dX12_glut_91 : decode cX12_glut 91 = .ok (.iconst 0, 1) := by decide +kernel
theorem dX12_glut_92 : decode cX12_glut 92 = .ok (.istore 5, 2) := by decide +kernel
theorem dX12_glut_94 : decode cX12_glut 94 = .ok (.iinc 6 1, 3) := by decide +kernel
theorem dX12_glut_97 : decode cX12_glut 97 = .ok (.goto (-46), 3) := by decide +kernel
theorem dX12_glut_100 : decode cX12_glut 100 = .ok (.iload_n 3, 1) := by decide +kernel
theorem dX12_glut_101 : decode cX12_glut 101 = .ok (.iload 5, 2) := by decide +kernel
theorem dX12_glut_103 : decode cX12_glut 103 = .ok (.ifCond .eq 7, 3) := by decide +kernel
theorem dX12_glut_106 : decode cX12_glut 106 = .ok (.iconst 1, 1) := by decide +kernel
theorem dX12_glut_107 : decode cX12_glut 107 = .ok (.goto 4, 3) := by decide +kernel
theorem dX12_glut_110 : decode cX12_glut 110 = .ok (.iconst 0, 1) := by decide +kernel
theorem dX12_glut_111 : decode cX12_glut 111 = .ok (.iadd, 1) := by decide +kernel
theorem dX12_glut_112 : decode cX12_glut 112 = .ok (.istore_n 3, 1) := by decide +kernel
theorem dX12_glut_113 : decode cX12_glut 113 = .ok (.iinc 4 1, 3) := by decide +kernel
theorem dX12_glut_116 : decode cX12_glut 116 = .ok (.goto (-82), 3) := by decide +kernel
theorem dX12_glut_119 : decode cX12_glut 119 = .ok (.iconst 0, 1) := by decide +kernel
theorem dX12_glut_120 : decode cX12_glut 120 = .ok (.istore 4, 2) := by decide +kernel
theorem dX12_glut_122 : decode cX12_glut 122 = .ok (.iconst 1, 1) := by decide +kernel
theorem dX12_glut_123 : decode cX12_glut 123 = .ok (.istore 5, 2) := by decide +kernel
theorem dX12_glut_125 : decode cX12_glut 125 = .ok (.iload 5, 2) := by decide +kernel
theorem dX12_glut_127 : decode cX12_glut 127 = .ok (.aload_n 0, 1) := by decide +kernel
theorem dX12_glut_128 : decode cX12_glut 128 = .ok (.getfield 305, 3) := by decide +kernel
theorem dX12_glut_131 : decode cX12_glut 131 = .ok (.if_icmp .ge 35, 3) := by decide +kernel
theorem dX12_glut_134 : decode cX12_glut 134 = .ok (.aload_n 0, 1) := by decide +kernel
theorem dX12_glut_135 : decode cX12_glut 135 = .ok (.getfield 55, 3) := by decide +kernel
theorem dX12_glut_138 : decode cX12_glut 138 = .ok (.iload 5, 2) := by decide +kernel
theorem dX12_glut_140 : decode cX12_glut 140 = .ok (.iaload, 1) := by decide +kernel
theorem dX12_glut_141 : decode cX12_glut 141 = .ok (.aload_n 0, 1) := by decide +kernel
theorem dX12_glut_142 : decode cX12_glut 142 = .ok (.getfield 55, 3) := by decide +kernel
theorem dX12_glut_145 : decode cX12_glut 145 = .ok (.iload 4, 2) := by decide +kernel
theorem dX12_glut_147 : decode cX12_glut 147 = .ok (.iaload, 1) := by decide +kernel
theorem dX12_glut_148 : decode cX12_glut 148 = .ok (.if_icmp .le 8, 3) := by decide +kernel
theorem dX12_glut_151 : decode cX12_glut 151 = .ok (.iload 5, 2) := by decide +kernel
theorem dX12_glut_153 : decode cX12_glut 153 = .ok (.goto 5, 3) := by decide +kernel
theorem dX12_glut_156 : decode cX12_glut 156 = .ok (.iload 4, 2) := by decide +kernel
theorem dX12_glut_158 : decode cX12_glut 158 = .ok (.istore 4, 2) := by decide +kernel
theorem dX12_glut_160 : decode cX12_glut 160 = .ok (.iinc 5 1, 3) := by decide +kernel
theorem dX12_glut_163 : decode cX12_glut 163 = .ok (.goto (-38), 3) := by decide +kernel
theorem dX12_glut_166 : decode cX12_glut 166 = .ok (.aload_n 0, 1) := by decide +kernel
theorem dX12_glut_167 : decode cX12_glut 167 = .ok (.invokevirtual 410, 3) := by decide +kernel
theorem dX12_glut_170 : decode cX12_glut 170 = .ok (.iload_n 2, 1) := by decide +kernel
theorem dX12_glut_171 : decode cX12_glut 171 = .ok (.ifCond .ne 7, 3) := by decide +kernel
theorem dX12_glut_174 : decode cX12_glut 174 = .ok (.iload_n 3, 1) := by decide +kernel
theorem dX12_glut_175 : decode cX12_glut 175 = .ok (.goto 5, 3) := by decide +kernel
theorem dX12_glut_178 : decode cX12_glut 178 = .ok (.iload 4, 2) := by decide +kernel
theorem dX12_glut_180 : decode cX12_glut 180 = .ok (.ireturn, 1) := by decide +kernel
theorem dX12_image_0 : decode cX12_image 0 = .ok (.aload_n 0, 1) := by decide +kernel
theorem dX12_image_1 : decode cX12_image 1 = .ok (.iconst 0, 1) := by decide +kernel
theorem dX12_image_2 : decode cX12_image 2 = .ok (.putfield 131, 3) := by decide +kernel
theorem dX12_image_5 : decode cX12_image 5 = .ok (.aload_n 0, 1) := by decide +kernel
theorem dX12_image_6 : decode cX12_image 6 = .ok (.getfield 305, 3) := by decide +kernel
theorem dX12_image_9 : decode cX12_image 9 = .ok (.ifCond .ne 5, 3) := by decide +kernel
theorem dX12_image_12 : decode cX12_image 12 = .ok (.iconst (-1), 1) := by decide +kernel
theorem dX12_image_13 : decode cX12_image 13 = .ok (.ireturn, 1) := by decide +kernel
theorem dX12_image_14 : decode cX12_image 14 = .ok (.iconst 0, 1) := by decide +kernel
theorem dX12_image_15 : decode cX12_image 15 = .ok (.istore_n 1, 1) := by decide +kernel
theorem dX12_image_16 : decode cX12_image 16 = .ok (.iload_n 1, 1) := by decide +kernel
theorem dX12_image_17 : decode cX12_image 17 = .ok (.bipush 57, 2) := by decide +kernel
theorem dX12_image_19 : decode cX12_image 19 = .ok (.if_icmp .ge 21, 3) := by decide +kernel
theorem dX12_image_22 : decode cX12_image 22 = .ok (.aload_n 0, 1) := by decide +kernel
theorem dX12_image_23 : decode cX12_image 23 = .ok (.getfield 125, 3) := by decide +kernel
theorem dX12_image_26 : decode cX12_image 26 = .ok (.iload_n 1, 1) := by decide +kernel
theorem dX12_image_27 : decode cX12_image 27 = .ok (.aload_n 0, 1) := by decide +kernel
theorem dX12_image_28 : decode cX12_image 28 = .ok (.getfield 55, 3) := by decide +kernel
theorem dX12_image_31 : decode cX12_image 31 = .ok (.iload_n 1, 1) := by decide +kernel
theorem dX12_image_32 : decode cX12_image 32 = .ok (.iaload, 1) := by decide +kernel
theorem dX12_image_33 : decode cX12_image 33 = .ok (.iastore, 1) := by decide +kernel
theorem dX12_image_34 : decode cX12_image 34 = .ok (.iinc 1 1, 3) := by decide +kernel
theorem dX12_image_37 : decode cX12_image 37 = .ok (.goto (-21), 3) := by decide +kernel
theorem dX12_image_40 : decode cX12_image 40 = .ok (.iconst 0, 1) := by decide +kernel
theorem dX12_image_41 : decode cX12_image 41 = .ok (.istore_n 1, 1) := by decide +kernel
theorem dX12_image_42 : decode cX12_image 42 = .ok (.iload_n 1, 1) := by decide +kernel
theorem dX12_image_43 : decode cX12_image 43 = .ok (.iconst 5, 1) := by decide +kernel
theorem dX12_image_44 : decode cX12_image 44 = .ok (.if_icmp .ge 21, 3) := by decide +kernel
theorem dX12_image_47 : decode cX12_image 47 = .ok (.aload_n 0, 1) := by decide +kernel
theorem dX12_image_48 : decode cX12_image 48 = .ok (.getfield 128, 3) := by decide +kernel
theorem dX12_image_51 : decode cX12_image 51 = .ok (.iload_n 1, 1) := by decide +kernel
theorem dX12_image_52 : decode cX12_image 52 = .ok (.aload_n 0, 1) := by decide +kernel
theorem dX12_image_53 : decode cX12_image 53 = .ok (.getfield 61, 3) := by decide +kernel
theorem dX12_image_56 : decode cX12_image 56 = .ok (.iload_n 1, 1) := by decide +kernel
theorem dX12_image_57 : decode cX12_image 57 = .ok (.iaload, 1) := by decide +kernel
theorem dX12_image_58 : decode cX12_image 58 = .ok (.iastore, 1) := by decide +kernel
theorem dX12_image_59 : decode cX12_image 59 = .ok (.iinc 1 1, 3) := by decide +kernel
theorem dX12_image_62 : decode cX12_image 62 = .ok (.goto (-20), 3) := by decide +kernel
theorem dX12_image_65 : decode cX12_image 65 = .ok (.aload_n 0, 1) := by decide +kernel
theorem dX12_image_66 : decode cX12_image 66 = .ok (.aload_n 0, 1) := by decide +kernel
theorem dX12_image_67 : decode cX12_image 67 = .ok (.getfield 311, 3) := by decide +kernel
theorem dX12_image_70 : decode cX12_image 70 = .ok (.putfield 481, 3) := by decide +kernel
theorem dX12_image_73 : decode cX12_image 73 = .ok (.aload_n 0, 1) := by decide +kernel
theorem dX12_image_74 : decode cX12_image 74 = .ok (.aload_n 0, 1) := by decide +kernel
theorem dX12_image_75 : decode cX12_image 75 = .ok (.getfield 338, 3) := by decide +kernel
theorem dX12_image_78 : decode cX12_image 78 = .ok (.putfield 484, 3) := by decide +kernel
theorem dX12_image_81 : decode cX12_image 81 = .ok (.aload_n 0, 1) := by decide +kernel
theorem dX12_image_82 : decode cX12_image 82 = .ok (.iconst 1, 1) := by decide +kernel
theorem dX12_image_83 : decode cX12_image 83 = .ok (.putfield 320, 3) := by decide +kernel
theorem dX12_image_86 : decode cX12_image 86 = .ok (.aload_n 0, 1) := by decide +kernel
theorem dX12_image_87 : decode cX12_image 87 = .ok (.getfield 55, 3) := by decide +kernel
theorem dX12_image_90 : decode cX12_image 90 = .ok (.bipush 56, 2) := by decide +kernel
theorem dX12_image_92 : decode cX12_image 92 = .ok (.iaload, 1) := by decide +kernel
theorem dX12_image_93 : decode cX12_image 93 = .ok (.ireturn, 1) := by decide +kernel
theorem dX12_back_0 : decode cX12_back 0 = .ok (.aload_n 0, 1) := by decide +kernel
theorem dX12_back_1 : decode cX12_back 1 = .ok (.iconst 0, 1) := by decide +kernel
theorem dX12_back_2 : decode cX12_back 2 = .ok (.putfield 131, 3) := by decide +kernel
theorem dX12_back_5 : decode cX12_back 5 = .ok (.aload_n 0, 1) := by decide +kernel
theorem dX12_back_6 : decode cX12_back 6 = .ok (.getfield 320, 3) := by decide +kernel
theorem dX12_back_9 : decode cX12_back 9 = .ok (.ifCond .ne 5, 3) := by decide +kernel
theorem dX12_back_12 : decode cX12_back 12 = .ok (.iconst (-1), 1) := by decide +kernel
theorem dX12_back_13 : decode cX12_back 13 = .ok (.ireturn, 1) := by decide +kernel
theorem dX12_back_14 : decode cX12_back 14 = .ok (.iconst 0, 1) := by decide +kernel
theorem dX12_back_15 : decode cX12_back 15 = .ok (.istore_n 1, 1) := by decide +kernel
theorem dX12_back_16 : decode cX12_back 16 = .ok (.iload_n 1, 1) := by decide +kernel
theorem dX12_back_17 : decode cX12_back 17 = .ok (.bipush 57, 2) := by decide +kernel
theorem dX12_back_19 : decode cX12_back 19 = .ok (.if_icmp .ge 21, 3) := by decide +kernel
theorem dX12_back_22 : decode cX12_back 22 = .ok (.aload_n 0, 1) := by decide +kernel
theorem dX12_back_23 : decode cX12_back 23 = .ok (.getfield 55, 3) := by decide +kernel
theorem dX12_back_26 : decode cX12_back 26 = .ok (.iload_n 1, 1) := by decide +kernel
theorem dX12_back_27 : decode cX12_back 27 = .ok (.aload_n 0, 1) := by decide +kernel
theorem dX12_back_28 : decode cX12_back 28 = .ok (.getfield 125, 3) := by decide +kernel
theorem dX12_back_31 : decode cX12_back 31 = .ok (.iload_n 1, 1) := by decide +kernel
theorem dX12_back_32 : decode cX12_back 32 = .ok (.iaload, 1) := by decide +kernel
theorem dX12_back_33 : decode cX12_back 33 = .ok (.iastore, 1) := by decide +kernel
theorem dX12_back_34 : decode cX12_back 34 = .ok (.iinc 1 1, 3) := by decide +kernel
theorem dX12_back_37 : decode cX12_back 37 = .ok (.goto (-21), 3) := by decide +kernel
theorem dX12_back_40 : decode cX12_back 40 = .ok (.iconst 0, 1) := by decide +kernel
theorem dX12_back_41 : decode cX12_back 41 = .ok (.istore_n 1, 1) := by decide +kernel
theorem dX12_back_42 : decode cX12_back 42 = .ok (.iload_n 1, 1) := by decide +kernel
theorem dX12_back_43 : decode cX12_back 43 = .ok (.iconst 5, 1) := by decide +kernel
theorem dX12_back_44 : decode cX12_back 44 = .ok (.if_icmp .ge 21, 3) := by decide +kernel
theorem dX12_back_47 : decode cX12_back 47 = .ok (.aload_n 0, 1) := by decide +kernel
theorem dX12_back_48 : decode cX12_back 48 = .ok (.getfield 61, 3) := by decide +kernel
theorem dX12_back_51 : decode cX12_back 51 = .ok (.iload_n 1, 1) := by decide +kernel
theorem dX12_back_52 : decode cX12_back 52 = .ok (.aload_n 0, 1) := by decide +kernel
theorem dX12_back_53 : decode cX12_back 53 = .ok (.getfield 128, 3) := by decide +kernel
theorem dX12_back_56 : decode cX12_back 56 = .ok (.iload_n 1, 1) := by decide +kernel
theorem dX12_back_57 : decode cX12_back 57 = .ok (.iaload, 1) := by decide +kernel
theorem dX12_back_58 : decode cX12_back 58 = .ok (.iastore, 1) := by decide +kernel
theorem dX12_back_59 : decode cX12_back 59 = .ok (.iinc 1 1, 3) := by decide +kernel
theorem dX12_back_62 : decode cX12_back 62 = .ok (.goto (-20), 3) := by decide +kernel
theorem dX12_back_65 : decode cX12_back 65 = .ok (.aload_n 0, 1) := by decide +kernel
theorem dX12_back_66 : decode cX12_back 66 = .ok (.aload_n 0, 1) := by decide +kernel
theorem dX12_back_67 : decode cX12_back 67 = .ok (.getfield 481, 3) := by decide +kernel
theorem dX12_back_70 : decode cX12_back 70 = .ok (.putfield 311, 3) := by decide +kernel
theorem dX12_back_73 : decode cX12_back 73 = .ok (.aload_n 0, 1) := by decide +kernel
theorem dX12_back_74 : decode cX12_back 74 = .ok (.aload_n 0, 1) := by decide +kernel
theorem dX12_back_75 : decode cX12_back 75 = .ok (.getfield 484, 3) := by decide +kernel
theorem dX12_back_78 : decode cX12_back 78 = .ok (.putfield 338, 3) := by decide +kernel
theorem dX12_back_81 : decode cX12_back 81 = .ok (.aload_n 0, 1) := by decide +kernel
theorem dX12_back_82 : decode cX12_back 82 = .ok (.getfield 55, 3) := by decide +kernel
theorem dX12_back_85 : decode cX12_back 85 = .ok (.bipush 56, 2) := by decide +kernel
theorem dX12_back_87 : decode cX12_back 87 = .ok (.iaload, 1) := by decide +kernel
theorem dX12_back_88 : decode cX12_back 88 = .ok (.ireturn, 1) := by decide +kernel
theorem dX12_count_0 : decode cX12_count 0 = .ok (.aload_n 0, 1) := by decide +kernel
theorem dX12_count_1 : decode cX12_count 1 = .ok (.iconst 0, 1) := by decide +kernel
theorem dX12_count_2 : decode cX12_count 2 = .ok (.putfield 131, 3) := by decide +kernel
theorem dX12_count_5 : decode cX12_count 5 = .ok (.iload_n 1, 1) := by decide +kernel
theorem dX12_count_6 : decode cX12_count 6 = .ok (.tableswitch 126 0 10 #[58, 63, 68, 73, 78, 86, 94, 102, 107, 112, 119], 58) := by decide +kernel
theorem dX12_count_64 : decode cX12_count 64 = .ok (.aload_n 0, 1) := by decide +kernel
theorem dX12_count_65 : decode cX12_count 65 = .ok (.getfield 305, 3) := by decide +kernel
theorem dX12_count_68 : decode cX12_count 68 = .ok (.ireturn, 1) := by decide +kernel
theorem dX12_count_69 : decode cX12_count 69 = .ok (.aload_n 0, 1) := by decide +kernel
theorem dX12_count_70 : decode cX12_count 70 = .ok (.getfield 308, 3) := by decide +kernel
theorem dX12_count_73 : decode cX12_count 73 = .ok (.ireturn, 1) := by decide +kernel
theorem dX12_count_74 : decode cX12_count 74 = .ok (.aload_n 0, 1) := by decide +kernel
theorem dX12_count_75 : decode cX12_count 75 = .ok (.getfield 300, 3) := by decide +kernel
theorem dX12_count_78 : decode cX12_count 78 = .ok (.ireturn, 1) := by decide +kernel
theorem dX12_count_79 : decode cX12_count 79 = .ok (.aload_n 0, 1) := by decide +kernel
theorem dX12_count_80 : decode cX12_count 80 = .ok (.getfield 145, 3) := by decide +kernel
theorem dX12_count_83 : decode cX12_count 83 = .ok (.ireturn, 1) := by decide +kernel
theorem dX12_count_84 : decode cX12_count 84 = .ok (.aload_n 0, 1) := by decide +kernel
theorem dX12_count_85 : decode cX12_count 85 = .ok (.getfield 55, 3) := by decide +kernel
theorem dX12_count_88 : decode cX12_count 88 = .ok (.bipush 56, 2) := by decide +kernel
theorem dX12_count_90 : decode cX12_count 90 = .ok (.iaload, 1) := by decide +kernel
theorem dX12_count_91 : decode cX12_count 91 = .ok (.ireturn, 1) := by decide +kernel
theorem dX12_count_92 : decode cX12_count 92 = .ok (.aload_n 0, 1) := by decide +kernel
theorem dX12_count_93 : decode cX12_count 93 = .ok (.getfield 55, 3) := by decide +kernel
theorem dX12_count_96 : decode cX12_count 96 = .ok (.bipush 54, 2) := by decide +kernel
theorem dX12_count_98 : decode cX12_count 98 = .ok (.iaload, 1) := by decide +kernel
theorem dX12_count_99 : decode cX12_count 99 = .ok (.ireturn, 1) := by decide +kernel
theorem dX12_count_100 : decode cX12_count 100 = .ok (.aload_n 0, 1) := by decide +kernel
theorem dX12_count_101 : decode cX12_count 101 = .ok (.getfield 55, 3) := by decide +kernel
theorem dX12_count_104 : decode cX12_count 104 = .ok (.bipush 55, 2) := by decide +kernel
theorem dX12_count_106 : decode cX12_count 106 = .ok (.iaload, 1) := by decide +kernel
theorem dX12_count_107 : decode cX12_count 107 = .ok (.ireturn, 1) := by decide +kernel
theorem dX12_count_108 : decode cX12_count 108 = .ok (.aload_n 0, 1) := by decide +kernel
theorem dX12_count_109 : decode cX12_count 109 = .ok (.getfield 314, 3) := by decide +kernel
theorem dX12_count_112 : decode cX12_count 112 = .ok (.ireturn, 1) := by decide +kernel
theorem dX12_count_113 : decode cX12_count 113 = .ok (.aload_n 0, 1) := by decide +kernel
theorem dX12_count_114 : decode cX12_count 114 = .ok (.getfield 317, 3) := by decide +kernel
theorem dX12_count_117 : decode cX12_count 117 = .ok (.ireturn, 1) := by decide +kernel
theorem dX12_count_118 : decode cX12_count 118 = .ok (.aload_n 0, 1) := by decide +kernel
theorem dX12_count_119 : decode cX12_count 119 = .ok (.getfield 43, 3) := by decide +kernel
theorem dX12_count_122 : decode cX12_count 122 = .ok (.iconst 1, 1) := by decide +kernel
theorem dX12_count_123 : decode cX12_count 123 = .ok (.iaload, 1) := by decide +kernel
theorem dX12_count_124 : decode cX12_count 124 = .ok (.ireturn, 1) := by decide +kernel
theorem dX12_count_125 : decode cX12_count 125 = .ok (.aload_n 0, 1) := by decide +kernel
theorem dX12_count_126 : decode cX12_count 126 = .ok (.getfield 43, 3) := by decide +kernel
theorem dX12_count_129 : decode cX12_count 129 = .ok (.iconst 0, 1) := by decide +kernel
theorem dX12_count_130 : decode cX12_count 130 = .ok (.iaload, 1) := by decide +kernel
theorem dX12_count_131 : decode cX12_count 131 = .ok (.ireturn, 1) := by decide +kernel
theorem dX12_count_132 : decode cX12_count 132 = .ok (.ldc_w 432, 3) := by decide +kernel
theorem dX12_count_135 : decode cX12_count 135 = .ok (.ireturn, 1) := by decide +kernel
theorem dJ6_bitCount_0f7a4_0 : decode cJ6_bitCount_0f7a4 0 = .ok (.iload_n 0, 1) := by decide +kernel
theorem dJ6_bitCount_0f7a4_1 : decode cJ6_bitCount_0f7a4 1 = .ok (.iload_n 0, 1) := by decide +kernel
theorem dJ6_bitCount_0f7a4_2 : decode cJ6_bitCount_0f7a4 2 = .ok (.iconst 1, 1) := by decide +kernel
theorem dJ6_bitCount_0f7a4_3 : decode cJ6_bitCount_0f7a4 3 = .ok (.iushr, 1) := by decide +kernel
theorem dJ6_bitCount_0f7a4_4 : decode cJ6_bitCount_0f7a4 4 = .ok (.ldc_w 265, 3) := by decide +kernel
theorem dJ6_bitCount_0f7a4_7 : decode cJ6_bitCount_0f7a4 7 = .ok (.iand, 1) := by decide +kernel
theorem dJ6_bitCount_0f7a4_8 : decode cJ6_bitCount_0f7a4 8 = .ok (.isub, 1) := by decide +kernel
theorem dJ6_bitCount_0f7a4_9 : decode cJ6_bitCount_0f7a4 9 = .ok (.istore_n 0, 1) := by decide +kernel
theorem dJ6_bitCount_0f7a4_10 : decode cJ6_bitCount_0f7a4 10 = .ok (.iload_n 0, 1) := by decide +kernel
theorem dJ6_bitCount_0f7a4_11 : decode cJ6_bitCount_0f7a4 11 = .ok (.ldc_w 266, 3) := by decide +kernel
theorem dJ6_bitCount_0f7a4_14 : decode cJ6_bitCount_0f7a4 14 = .ok (.iand, 1) := by decide +kernel
theorem dJ6_bitCount_0f7a4_15 : decode cJ6_bitCount_0f7a4 15 = .ok (.iload_n 0, 1) := by decide +kernel
theorem dJ6_bitCount_0f7a4_16 : decode cJ6_bitCount_0f7a4 16 = .ok (.iconst 2, 1) := by decide +kernel
theorem dJ6_bitCount_0f7a4_17 : decode cJ6_bitCount_0f7a4 17 = .ok (.iushr, 1) := by decide +kernel
theorem dJ6_bitCount_0f7a4_18 : decode cJ6_bitCount_0f7a4 18 = .ok (.ldc_w 266, 3) := by decide +kernel
theorem dJ6_bitCount_0f7a4_21 : decode cJ6_bitCount_0f7a4 21 = .ok (.iand, 1) := by decide +kernel
theorem dJ6_bitCount_0f7a4_22 : decode cJ6_bitCount_0f7a4 22 = .ok (.iadd, 1) := by decide +kernel
theorem dJ6_bitCount_0f7a4_23 : decode cJ6_bitCount_0f7a4 23 = .ok (.istore_n 0, 1) := by decide +kernel
theorem dJ6_bitCount_0f7a4_24 : decode cJ6_bitCount_0f7a4 24 = .ok (.iload_n 0, 1) := by decide +kernel
theorem dJ6_bitCount_0f7a4_25 : decode cJ6_bitCount_0f7a4 25 = .ok (.iload_n 0, 1) := by decide +kernel
theorem dJ6_bitCount_0f7a4_26 : decode cJ6_bitCount_0f7a4 26 = .ok (.iconst 4, 1) := by decide +kernel
theorem dJ6_bitCount_0f7a4_27 : decode cJ6_bitCount_0f7a4 27 = .ok (.iushr, 1) := by decide +kernel
theorem dJ6_bitCount_0f7a4_28 : decode cJ6_bitCount_0f7a4 28 = .ok (.iadd, 1) := by decide +kernel
theorem dJ6_bitCount_0f7a4_29 : decode cJ6_bitCount_0f7a4 29 = .ok (.ldc_w 267, 3) := by decide +kernel
theorem dJ6_bitCount_0f7a4_32 : decode cJ6_bitCount_0f7a4 32 = .ok (.iand, 1) := by decide +kernel
theorem dJ6_bitCount_0f7a4_33 : decode cJ6_bitCount_0f7a4 33 = .ok (.istore_n 0, 1) := by decide +kernel
theorem dJ6_bitCount_0f7a4_34 : decode cJ6_bitCount_0f7a4 34 = .ok (.iload_n 0, 1) := by decide +kernel
theorem dJ6_bitCount_0f7a4_35 : decode cJ6_bitCount_0f7a4 35 = .ok (.iload_n 0, 1) := by decide +kernel
theorem dJ6_bitCount_0f7a4_36 : decode cJ6_bitCount_0f7a4 36 = .ok (.bipush 8, 2) := by decide +kernel
theorem dJ6_bitCount_0f7a4_38 : decode cJ6_bitCount_0f7a4 38 = .ok (.iushr, 1) := by decide +kernel
theorem dJ6_bitCount_0f7a4_39 : decode cJ6_bitCount_0f7a4 39 = .ok (.iadd, 1) := by decide +kernel
theorem dJ6_bitCount_0f7a4_40 : decode cJ6_bitCount_0f7a4 40 = .ok (.istore_n 0, 1) := by decide +kernel
theorem dJ6_bitCount_0f7a4_41 : decode cJ6_bitCount_0f7a4 41 = .ok (.iload_n 0, 1) := by decide +kernel
theorem dJ6_bitCount_0f7a4_42 : decode cJ6_bitCount_0f7a4 42 = .ok (.iload_n 0, 1) := by decide +kernel
theorem dJ6_bitCount_0f7a4_43 : decode cJ6_bitCount_0f7a4 43 = .ok (.bipush 16, 2) := by decide +kernel
theorem dJ6_bitCount_0f7a4_45 : decode cJ6_bitCount_0f7a4 45 = .ok (.iushr, 1) := by decide +kernel
theorem dJ6_bitCount_0f7a4_46 : decode cJ6_bitCount_0f7a4 46 = .ok (.iadd, 1) := by decide +kernel
theorem dJ6_bitCount_0f7a4_47 : decode cJ6_bitCount_0f7a4 47 = .ok (.istore_n 0, 1) := by decide +kernel
theorem dJ6_bitCount_0f7a4_48 : decode cJ6_bitCount_0f7a4 48 = .ok (.iload_n 0, 1) := by decide +kernel
theorem dJ6_bitCount_0f7a4_49 : decode cJ6_bitCount_0f7a4 49 = .ok (.bipush 63, 2) := by decide +kernel
theorem dJ6_bitCount_0f7a4_51 : decode cJ6_bitCount_0f7a4 51 = .ok (.iand, 1) := by decide +kernel
theorem dJ6_bitCount_0f7a4_52 : decode cJ6_bitCount_0f7a4 52 = .ok (.ireturn, 1) := by decide +kernel

