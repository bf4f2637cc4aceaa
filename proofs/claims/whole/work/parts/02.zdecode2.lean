theorem dX11_text_29 : decode cX11_text 29 = .ok (.aload_n 0, 1) := by decide +kernel
theorem dX11_text_30 : decode cX11_text 30 = .ok (.getfield 122, 3) := by decide +kernel
theorem dX11_text_33 : decode cX11_text 33 = .ok (.iconst 5, 1) := by decide +kernel
theorem dX11_text_34 : decode cX11_text 34 = .ok (.if_icmp .ge 23, 3) := by decide +kernel
theorem dX11_text_37 : decode cX11_text 37 = .ok (.aload_n 0, 1) := by decide +kernel
theorem dX11_text_38 : decode cX11_text 38 = .ok (.getfield 42, 3) := by decide +kernel
theorem dX11_text_41 : decode cX11_text 41 = .ok (.aload_n 0, 1) := by decide +kernel
theorem dX11_text_42 : decode cX11_text 42 = .ok (.getfield 57, 3) := by decide +kernel
theorem dX11_text_45 : decode cX11_text 45 = .ok (.invokevirtual 115, 3) := by decide +kernel
theorem dX11_text_48 : decode cX11_text 48 = .ok (.iconst (-1), 1) := by decide +kernel
theorem dX11_text_49 : decode cX11_text 49 = .ok (.if_icmp .ne 8, 3) := by decide +kernel
theorem dX11_text_52 : decode cX11_text 52 = .ok (.aload_n 0, 1) := by decide +kernel
theorem dX11_text_53 : decode cX11_text 53 = .ok (.invokevirtual 125, 3) := by decide +kernel
theorem dX11_text_56 : decode cX11_text 56 = .ok (.ireturn, 1) := by decide +kernel
theorem dX11_text_57 : decode cX11_text 57 = .ok (.iconst (-1), 1) := by decide +kernel
theorem dX11_text_58 : decode cX11_text 58 = .ok (.ireturn, 1) := by decide +kernel
theorem dX11_seller_0 : decode cX11_seller 0 = .ok (.aload_n 0, 1) := by decide +kernel
theorem dX11_seller_1 : decode cX11_seller 1 = .ok (.iload_n 1, 1) := by decide +kernel
theorem dX11_seller_2 : decode cX11_seller 2 = .ok (.invokevirtual 128, 3) := by decide +kernel
theorem dX11_seller_5 : decode cX11_seller 5 = .ok (.ifCond .eq 12, 3) := by decide +kernel
theorem dX11_seller_8 : decode cX11_seller 8 = .ok (.iload_n 2, 1) := by decide +kernel
theorem dX11_seller_9 : decode cX11_seller 9 = .ok (.bipush 9, 2) := by decide +kernel
theorem dX11_seller_11 : decode cX11_seller 11 = .ok (.invokestatic 132, 3) := by decide +kernel
theorem dX11_seller_14 : decode cX11_seller 14 = .ok (.ifCond .eq 11, 3) := by decide +kernel
theorem dX11_seller_17 : decode cX11_seller 17 = .ok (.new 136, 3) := by decide +kernel
theorem dX11_seller_20 : decode cX11_seller 20 = .ok (.dup, 1) := by decide +kernel
theorem dX11_seller_21 : decode cX11_seller 21 = .ok (.invokespecial 138, 3) := by decide +kernel
theorem dX11_seller_24 : decode cX11_seller 24 = .ok (.athrow, 1) := by decide +kernel
theorem dX11_seller_25 : decode cX11_seller 25 = .ok (.iload_n 2, 1) := by decide +kernel
theorem dX11_seller_26 : decode cX11_seller 26 = .ok (.tableswitch 147 0 8 #[50, 60, 70, 80, 90, 100, 110, 120, 137], 50) := by decide +kernel
theorem dX11_seller_76 : decode cX11_seller 76 = .ok (.aload_n 0, 1) := by decide +kernel
theorem dX11_seller_77 : decode cX11_seller 77 = .ok (.getfield 46, 3) := by decide +kernel
theorem dX11_seller_80 : decode cX11_seller 80 = .ok (.getfield 139, 3) := by decide +kernel
theorem dX11_seller_83 : decode cX11_seller 83 = .ok (.iload_n 1, 1) := by decide +kernel
theorem dX11_seller_84 : decode cX11_seller 84 = .ok (.iaload, 1) := by decide +kernel
theorem dX11_seller_85 : decode cX11_seller 85 = .ok (.ireturn, 1) := by decide +kernel
theorem dX11_seller_86 : decode cX11_seller 86 = .ok (.aload_n 0, 1) := by decide +kernel
theorem dX11_seller_87 : decode cX11_seller 87 = .ok (.getfield 46, 3) := by decide +kernel
theorem dX11_seller_90 : decode cX11_seller 90 = .ok (.getfield 143, 3) := by decide +kernel
theorem dX11_seller_93 : decode cX11_seller 93 = .ok (.iload_n 1, 1) := by decide +kernel
theorem dX11_seller_94 : decode cX11_seller 94 = .ok (.iaload, 1) := by decide +kernel
theorem dX11_seller_95 : decode cX11_seller 95 = .ok (.ireturn, 1) := by decide +kernel
theorem dX11_seller_96 : decode cX11_seller 96 = .ok (.aload_n 0, 1) := by decide +kernel
theorem dX11_seller_97 : decode cX11_seller 97 = .ok (.getfield 46, 3) := by decide +kernel
theorem dX11_seller_100 : decode cX11_seller 100 = .ok (.getfield 146, 3) := by decide +kernel
theorem dX11_seller_103 : decode cX11_seller 103 = .ok (.iload_n 1, 1) := by decide +kernel
theorem dX11_seller_104 : decode cX11_seller 104 = .ok (.iaload, 1) := by decide +kernel
theorem dX11_seller_105 : decode cX11_seller 105 = .ok (.ireturn, 1) := by decide +kernel
theorem dX11_seller_106 : decode cX11_seller 106 = .ok (.aload_n 0, 1) := by decide +kernel
theorem dX11_seller_107 : decode cX11_seller 107 = .ok (.getfield 61, 3) := by decide +kernel
theorem dX11_seller_110 : decode cX11_seller 110 = .ok (.getfield 149, 3) := by decide +kernel
theorem dX11_seller_113 : decode cX11_seller 113 = .ok (.iload_n 1, 1) := by decide +kernel
theorem dX11_seller_114 : decode cX11_seller 114 = .ok (.iaload, 1) := by decide +kernel
theorem dX11_seller_115 : decode cX11_seller 115 = .ok (.ireturn, 1) := by decide +kernel
theorem dX11_seller_116 : decode cX11_seller 116 = .ok (.aload_n 0, 1) := by decide +kernel
theorem dX11_seller_117 : decode cX11_seller 117 = .ok (.getfield 61, 3) := by decide +kernel
theorem dX11_seller_120 : decode cX11_seller 120 = .ok (.getfield 152, 3) := by decide +kernel
theorem dX11_seller_123 : decode cX11_seller 123 = .ok (.iload_n 1, 1) := by decide +kernel
theorem dX11_seller_124 : decode cX11_seller 124 = .ok (.iaload, 1) := by decide +kernel
theorem dX11_seller_125 : decode cX11_seller 125 = .ok (.ireturn, 1) := by decide +kernel
theorem dX11_seller_126 : decode cX11_seller 126 = .ok (.aload_n 0, 1) := by decide +kernel
theorem dX11_seller_127 : decode cX11_seller 127 = .ok (.getfield 61, 3) := by decide +kernel
theorem dX11_seller_130 : decode cX11_seller 130 = .ok (.getfield 155, 3) := by decide +kernel
theorem dX11_seller_133 : decode cX11_seller 133 = .ok (.iload_n 1, 1) := by decide +kernel
theorem dX11_seller_134 : decode cX11_seller 134 = .ok (.iaload, 1) := by decide +kernel
theorem dX11_seller_135 : decode cX11_seller 135 = .ok (.ireturn, 1) := by decide +kernel
theorem dX11_seller_136 : decode cX11_seller 136 = .ok (.aload_n 0, 1) := by decide +kernel
theorem dX11_seller_137 : decode cX11_seller 137 = .ok (.getfield 61, 3) := by decide +kernel
theorem dX11_seller_140 : decode cX11_seller 140 = .ok (.getfield 158, 3) := by decide +kernel
theorem dX11_seller_143 : decode cX11_seller 143 = .ok (.iload_n 1, 1) := by decide +kernel
theorem dX11_seller_144 : decode cX11_seller 144 = .ok (.iaload, 1) := by decide +kernel
theorem dX11_seller_145 : decode cX11_seller 145 = .ok (.ireturn, 1) := by decide +kernel
theorem dX11_seller_146 : decode cX11_seller 146 = .ok (.aload_n 0, 1) := by decide +kernel
theorem dX11_seller_147 : decode cX11_seller 147 = .ok (.getfield 61, 3) := by decide +kernel
theorem dX11_seller_150 : decode cX11_seller 150 = .ok (.iload_n 1, 1) := by decide +kernel
theorem dX11_seller_151 : decode cX11_seller 151 = .ok (.invokevirtual 161, 3) := by decide +kernel
theorem dX11_seller_154 : decode cX11_seller 154 = .ok (.ifCond .eq 7, 3) := by decide +kernel
theorem dX11_seller_157 : decode cX11_seller 157 = .ok (.iconst 1, 1) := by decide +kernel
theorem dX11_seller_158 : decode cX11_seller 158 = .ok (.goto 4, 3) := by decide +kernel
theorem dX11_seller_161 : decode cX11_seller 161 = .ok (.iconst 0, 1) := by decide +kernel
theorem dX11_seller_162 : decode cX11_seller 162 = .ok (.ireturn, 1) := by decide +kernel
theorem dX11_seller_163 : decode cX11_seller 163 = .ok (.aload_n 0, 1) := by decide +kernel
theorem dX11_seller_164 : decode cX11_seller 164 = .ok (.getfield 61, 3) := by decide +kernel
theorem dX11_seller_167 : decode cX11_seller 167 = .ok (.getfield 164, 3) := by decide +kernel
theorem dX11_seller_170 : decode cX11_seller 170 = .ok (.iload_n 1, 1) := by decide +kernel
theorem dX11_seller_171 : decode cX11_seller 171 = .ok (.iaload, 1) := by decide +kernel
theorem dX11_seller_172 : decode cX11_seller 172 = .ok (.ireturn, 1) := by decide +kernel
theorem dX11_seller_173 : decode cX11_seller 173 = .ok (.aload_n 0, 1) := by decide +kernel
theorem dX11_seller_174 : decode cX11_seller 174 = .ok (.getfield 61, 3) := by decide +kernel
theorem dX11_seller_177 : decode cX11_seller 177 = .ok (.getfield 167, 3) := by decide +kernel
theorem dX11_seller_180 : decode cX11_seller 180 = .ok (.iload_n 1, 1) := by decide +kernel
theorem dX11_seller_181 : decode cX11_seller 181 = .ok (.iaload, 1) := by decide +kernel
theorem dX11_seller_182 : decode cX11_seller 182 = .ok (.ireturn, 1) := by decide +kernel
theorem dX11_buyers_0 : decode cX11_buyers 0 = .ok (.aload_n 0, 1) := by decide +kernel
theorem dX11_buyers_1 : decode cX11_buyers 1 = .ok (.iload_n 1, 1) := by decide +kernel
theorem dX11_buyers_2 : decode cX11_buyers 2 = .ok (.invokevirtual 170, 3) := by decide +kernel
theorem dX11_buyers_5 : decode cX11_buyers 5 = .ok (.ifCond .ne 5, 3) := by decide +kernel
theorem dX11_buyers_8 : decode cX11_buyers 8 = .ok (.iconst (-1), 1) := by decide +kernel
theorem dX11_buyers_9 : decode cX11_buyers 9 = .ok (.ireturn, 1) := by decide +kernel
theorem dX11_buyers_10 : decode cX11_buyers 10 = .ok (.iload_n 2, 1) := by decide +kernel
theorem dX11_buyers_11 : decode cX11_buyers 11 = .ok (.tableswitch 68 0 3 #[29, 39, 49, 59], 29) := by decide +kernel
theorem dX11_buyers_40 : decode cX11_buyers 40 = .ok (.aload_n 0, 1) := by decide +kernel
theorem dX11_buyers_41 : decode cX11_buyers 41 = .ok (.getfield 46, 3) := by decide +kernel
theorem dX11_buyers_44 : decode cX11_buyers 44 = .ok (.getfield 173, 3) := by decide +kernel
theorem dX11_buyers_47 : decode cX11_buyers 47 = .ok (.iload_n 1, 1) := by decide +kernel
theorem dX11_buyers_48 : decode cX11_buyers 48 = .ok (.iaload, 1) := by decide +kernel
theorem dX11_buyers_49 : decode cX11_buyers 49 = .ok (.ireturn, 1) := by decide +kernel
theorem dX11_buyers_50 : decode cX11_buyers 50 = .ok (.aload_n 0, 1) := by decide +kernel
theorem dX11_buyers_51 : decode cX11_buyers 51 = .ok (.getfield 46, 3) := by decide +kernel
theorem dX11_buyers_54 : decode cX11_buyers 54 = .ok (.getfield 176, 3) := by decide +kernel
theorem dX11_buyers_57 : decode cX11_buyers 57 = .ok (.iload_n 1, 1) := by decide +kernel
theorem dX11_buyers_58 : decode cX11_buyers 58 = .ok (.iaload, 1) := by decide +kernel
theorem dX11_buyers_59 : decode cX11_buyers 59 = .ok (.ireturn, 1) := by decide +kernel
theorem dX11_buyers_60 : decode cX11_buyers 60 = .ok (.aload_n 0, 1) := by decide +kernel
theorem dX11_buyers_61 : decode cX11_buyers 61 = .ok (.getfield 46, 3) := by decide +kernel
theorem dX11_buyers_64 : decode cX11_buyers 64 = .ok (.getfield 179, 3) := by decide +kernel
theorem dX11_buyers_67 : decode cX11_buyers 67 = .ok (.iload_n 1, 1) := by decide +kernel
theorem dX11_buyers_68 : decode cX11_buyers 68 = .ok (.iaload, 1) := by decide +kernel
theorem dX11_buyers_69 : decode cX11_buyers 69 = .ok (.ireturn, 1) := by decide +kernel
theorem dX11_buyers_70 : decode cX11_buyers 70 = .ok (.aload_n 0, 1) := by decide +kernel
theorem dX11_buyers_71 : decode cX11_buyers 71 = .ok (.getfield 61, 3) := by decide +kernel
theorem dX11_buyers_74 : decode cX11_buyers 74 = .ok (.iload_n 1, 1) := by decide +kernel
theorem dX11_buyers_75 : decode cX11_buyers 75 = .ok (.invokevirtual 182, 3) := by decide +kernel
theorem dX11_buyers_78 : decode cX11_buyers 78 = .ok (.ireturn, 1) := by decide +kernel
theorem dX11_buyers_79 : decode cX11_buyers 79 = .ok (.iconst (-1), 1) := by decide +kernel
theorem dX11_buyers_80 : decode cX11_buyers 80 = .ok (.ireturn, 1) := by decide +kernel
theorem dX11_rule_0 : decode cX11_rule 0 = .ok (.aload_n 0, 1) := by decide +kernel
theorem dX11_rule_1 : decode cX11_rule 1 = .ok (.iload_n 1, 1) := by decide +kernel
theorem dX11_rule_2 : decode cX11_rule 2 = .ok (.invokevirtual 128, 3) := by decide +kernel
theorem dX11_rule_5 : decode cX11_rule 5 = .ok (.ifCond .eq 16, 3) := by decide +kernel
theorem dX11_rule_8 : decode cX11_rule 8 = .ok (.iload_n 2, 1) := by decide +kernel
theorem dX11_rule_9 : decode cX11_rule 9 = .ok (.iconst (-1), 1) := by decide +kernel
theorem dX11_rule_10 : decode cX11_rule 10 = .ok (.if_icmp .lt 11, 3) := by decide +kernel
theorem dX11_rule_13 : decode cX11_rule 13 = .ok (.iload_n 2, 1) := by decide +kernel
theorem dX11_rule_14 : decode cX11_rule 14 = .ok (.aload_n 0, 1) := by decide +kernel
theorem dX11_rule_15 : decode cX11_rule 15 = .ok (.getfield 122, 3) := by decide +kernel
theorem dX11_rule_18 : decode cX11_rule 18 = .ok (.if_icmp .lt 5, 3) := by decide +kernel
theorem dX11_rule_21 : decode cX11_rule 21 = .ok (.iconst 0, 1) := by decide +kernel
theorem dX11_rule_22 : decode cX11_rule 22 = .ok (.ireturn, 1) := by decide +kernel
theorem dX11_rule_23 : decode cX11_rule 23 = .ok (.aload_n 0, 1) := by decide +kernel
theorem dX11_rule_24 : decode cX11_rule 24 = .ok (.getfield 61, 3) := by decide +kernel
theorem dX11_rule_27 : decode cX11_rule 27 = .ok (.getfield 158, 3) := by decide +kernel
theorem dX11_rule_30 : decode cX11_rule 30 = .ok (.iload_n 1, 1) := by decide +kernel
theorem dX11_rule_31 : decode cX11_rule 31 = .ok (.iload_n 2, 1) := by decide +kernel
theorem dX11_rule_32 : decode cX11_rule 32 = .ok (.iastore, 1) := by decide +kernel
theorem dX11_rule_33 : decode cX11_rule 33 = .ok (.iconst 1, 1) := by decide +kernel
theorem dX11_rule_34 : decode cX11_rule 34 = .ok (.ireturn, 1) := by decide +kernel
theorem dX11_hold_0 : decode cX11_hold 0 = .ok (.aload_n 0, 1) := by decide +kernel
theorem dX11_hold_1 : decode cX11_hold 1 = .ok (.iload_n 1, 1) := by decide +kernel
theorem dX11_hold_2 : decode cX11_hold 2 = .ok (.invokevirtual 128, 3) := by decide +kernel
theorem dX11_hold_5 : decode cX11_hold 5 = .ok (.ifCond .eq 15, 3) := by decide +kernel
theorem dX11_hold_8 : decode cX11_hold 8 = .ok (.aload_n 0, 1) := by decide +kernel
theorem dX11_hold_9 : decode cX11_hold 9 = .ok (.getfield 61, 3) := by decide +kernel
theorem dX11_hold_12 : decode cX11_hold 12 = .ok (.iload_n 1, 1) := by decide +kernel
theorem dX11_hold_13 : decode cX11_hold 13 = .ok (.invokevirtual 161, 3) := by decide +kernel
theorem dX11_hold_16 : decode cX11_hold 16 = .ok (.iload_n 2, 1) := by decide +kernel
theorem dX11_hold_17 : decode cX11_hold 17 = .ok (.if_icmp .ne 5, 3) := by decide +kernel
theorem dX11_hold_20 : decode cX11_hold 20 = .ok (.iconst 0, 1) := by decide +kernel
theorem dX11_hold_21 : decode cX11_hold 21 = .ok (.ireturn, 1) := by decide +kernel
theorem dX11_hold_22 : decode cX11_hold 22 = .ok (.aload_n 0, 1) := by decide +kernel
theorem dX11_hold_23 : decode cX11_hold 23 = .ok (.getfield 61, 3) := by decide +kernel
theorem dX11_hold_26 : decode cX11_hold 26 = .ok (.iload_n 1, 1) := by decide +kernel
theorem dX11_hold_27 : decode cX11_hold 27 = .ok (.iload_n 2, 1) := by decide +kernel
theorem dX11_hold_28 : decode cX11_hold 28 = .ok (.invokevirtual 185, 3) := by decide +kernel
theorem dX11_hold_31 : decode cX11_hold 31 = .ok (.iconst 1, 1) := by decide +kernel
theorem dX11_hold_32 : decode cX11_hold 32 = .ok (.ireturn, 1) := by decide +kernel
theorem dX11_risk_0 : decode cX11_risk 0 = .ok (.iload_n 1, 1) := by decide +kernel
theorem dX11_risk_1 : decode cX11_risk 1 = .ok (.ifCond .lt 9, 3) := by decide +kernel
theorem dX11_risk_4 : decode cX11_risk 4 = .ok (.iload_n 1, 1) := by decide +kernel
theorem dX11_risk_5 : decode cX11_risk 5 = .ok (.bipush 100, 2) := by decide +kernel
theorem dX11_risk_7 : decode cX11_risk 7 = .ok (.if_icmp .le 5, 3) := by decide +kernel
theorem dX11_risk_10 : decode cX11_risk 10 = .ok (.iconst 0, 1) := by decide +kernel
theorem dX11_risk_11 : decode cX11_risk 11 = .ok (.ireturn, 1) := by decide +kernel
theorem dX11_risk_12 : decode cX11_risk 12 = .ok (.aload_n 0, 1) := by decide +kernel
theorem dX11_risk_13 : decode cX11_risk 13 = .ok (.iload_n 1, 1) := by decide +kernel
theorem dX11_risk_14 : decode cX11_risk 14 = .ok (.putfield 189, 3) := by decide +kernel
theorem dX11_risk_17 : decode cX11_risk 17 = .ok (.iconst 1, 1) := by decide +kernel
theorem dX11_risk_18 : decode cX11_risk 18 = .ok (.ireturn, 1) := by decide +kernel
theorem dX11_seed_0 : decode cX11_seed 0 = .ok (.aload_n 0, 1) := by decide +kernel
theorem dX11_seed_1 : decode cX11_seed 1 = .ok (.getfield 61, 3) := by decide +kernel
theorem dX11_seed_4 : decode cX11_seed 4 = .ok (.lload_n 1, 1) := by decide +kernel
theorem dX11_seed_5 : decode cX11_seed 5 = .ok (.putfield 192, 3) := by decide +kernel
theorem dX11_seed_8 : decode cX11_seed 8 = .ok (.iconst 1, 1) := by decide +kernel
theorem dX11_seed_9 : decode cX11_seed 9 = .ok (.ireturn, 1) := by decide +kernel
theorem dX11_days_0 : decode cX11_days 0 = .ok (.aload_n 0, 1) := by decide +kernel
theorem dX11_days_1 : decode cX11_days 1 = .ok (.iload_n 1, 1) := by decide +kernel
theorem dX11_days_2 : decode cX11_days 2 = .ok (.invokevirtual 196, 3) := by decide +kernel
theorem dX11_days_5 : decode cX11_days 5 = .ok (.ifCond .eq 5, 3) := by decide +kernel
theorem dX11_days_8 : decode cX11_days 8 = .ok (.iconst (-1), 1) := by decide +kernel
theorem dX11_days_9 : decode cX11_days 9 = .ok (.ireturn, 1) := by decide +kernel
theorem dX11_days_10 : decode cX11_days 10 = .ok (.aload_n 0, 1) := by decide +kernel
theorem dX11_days_11 : decode cX11_days 11 = .ok (.getfield 68, 3) := by decide +kernel
theorem dX11_days_14 : decode cX11_days 14 = .ok (.invokevirtual 199, 3) := by decide +kernel
theorem dX11_days_17 : decode cX11_days 17 = .ok (.iconst 0, 1) := by decide +kernel
theorem dX11_days_18 : decode cX11_days 18 = .ok (.istore_n 2, 1) := by decide +kernel
theorem dX11_days_19 : decode cX11_days 19 = .ok (.iload_n 2, 1) := by decide +kernel
theorem dX11_days_20 : decode cX11_days 20 = .ok (.iload_n 1, 1) := by decide +kernel
theorem dX11_days_21 : decode cX11_days 21 = .ok (.if_icmp .ge 48, 3) := by decide +kernel
theorem dX11_days_24 : decode cX11_days 24 = .ok (.aload_n 0, 1) := by decide +kernel
theorem dX11_days_25 : decode cX11_days 25 = .ok (.getfield 189, 3) := by decide +kernel
theorem dX11_days_28 : decode cX11_days 28 = .ok (.ifCond .le 21, 3) := by decide +kernel
theorem dX11_days_31 : decode cX11_days 31 = .ok (.aload_n 0, 1) := by decide +kernel
theorem dX11_days_32 : decode cX11_days 32 = .ok (.getfield 61, 3) := by decide +kernel
theorem dX11_days_35 : decode cX11_days 35 = .ok (.invokevirtual 202, 3) := by decide +kernel
theorem dX11_days_38 : decode cX11_days 38 = .ok (.aload_n 0, 1) := by decide +kernel
theorem dX11_days_39 : decode cX11_days 39 = .ok (.getfield 189, 3) := by decide +kernel
theorem dX11_days_42 : decode cX11_days 42 = .ok (.if_icmp .ge 7, 3) := by decide +kernel
theorem dX11_days_45 : decode cX11_days 45 = .ok (.iconst 1, 1) := by decide +kernel
theorem dX11_days_46 : decode cX11_days 46 = .ok (.goto 4, 3) := by decide +kernel
theorem dX11_days_49 : decode cX11_days 49 = .ok (.iconst 0, 1) := by decide +kernel
theorem dX11_days_50 : decode cX11_days 50 = .ok (.istore_n 3, 1) := by decide +kernel
theorem dX11_days_51 : decode cX11_days 51 = .ok (.aload_n 0, 1) := by decide +kernel
theorem dX11_days_52 : decode cX11_days 52 = .ok (.getfield 68, 3) := by decide +kernel
theorem dX11_days_55 : decode cX11_days 55 = .ok (.aload_n 0, 1) := by decide +kernel
theorem dX11_days_56 : decode cX11_days 56 = .ok (.getfield 61, 3) := by decide +kernel
theorem dX11_days_59 : decode cX11_days 59 = .ok (.iload_n 3, 1) := by decide +kernel
theorem dX11_days_60 : decode cX11_days 60 = .ok (.invokevirtual 205, 3) := by decide +kernel
theorem dX11_days_63 : decode cX11_days 63 = .ok (.iinc 2 1, 3) := by decide +kernel
theorem dX11_days_66 : decode cX11_days 66 = .ok (.goto (-47), 3) := by decide +kernel
theorem dX11_days_69 : decode cX11_days 69 = .ok (.aload_n 0, 1) := by decide +kernel
theorem dX11_days_70 : decode cX11_days 70 = .ok (.getfield 61, 3) := by decide +kernel
theorem dX11_days_73 : decode cX11_days 73 = .ok (.getfield 209, 3) := by decide +kernel
theorem dX11_days_76 : decode cX11_days 76 = .ok (.ireturn, 1) := by decide +kernel
theorem dX11_ahead_0 : decode cX11_ahead 0 = .ok (.aload_n 0, 1) := by decide +kernel
theorem dX11_ahead_1 : decode cX11_ahead 1 = .ok (.iload_n 1, 1) := by decide +kernel
theorem dX11_ahead_2 : decode cX11_ahead 2 = .ok (.invokevirtual 196, 3) := by decide +kernel
theorem dX11_ahead_5 : decode cX11_ahead 5 = .ok (.ifCond .eq 5, 3) := by decide +kernel
theorem dX11_ahead_8 : decode cX11_ahead 8 = .ok (.iconst (-1), 1) := by decide +kernel
theorem dX11_ahead_9 : decode cX11_ahead 9 = .ok (.ireturn, 1) := by decide +kernel
theorem dX11_ahead_10 : decode cX11_ahead 10 = .ok (.aload_n 0, 1) := by decide +kernel
theorem dX11_ahead_11 : decode cX11_ahead 11 = .ok (.getfield 77, 3) := by decide +kernel
theorem dX11_ahead_14 : decode cX11_ahead 14 = .ok (.invokevirtual 212, 3) := by decide +kernel
theorem dX11_ahead_17 : decode cX11_ahead 17 = .ok (.aload_n 0, 1) := by decide +kernel
theorem dX11_ahead_18 : decode cX11_ahead 18 = .ok (.getfield 77, 3) := by decide +kernel
theorem dX11_ahead_21 : decode cX11_ahead 21 = .ok (.iload_n 1, 1) := by decide +kernel
theorem dX11_ahead_22 : decode cX11_ahead 22 = .ok (.invokevirtual 213, 3) := by decide +kernel
theorem dX11_ahead_25 : decode cX11_ahead 25 = .ok (.aload_n 0, 1) := by decide +kernel
theorem dX11_ahead_26 : decode cX11_ahead 26 = .ok (.getfield 77, 3) := by decide +kernel
theorem dX11_ahead_29 : decode cX11_ahead 29 = .ok (.getfield 216, 3) := by decide +kernel
theorem dX11_ahead_32 : decode cX11_ahead 32 = .ok (.getfield 209, 3) := by decide +kernel
theorem dX11_ahead_35 : decode cX11_ahead 35 = .ok (.ireturn, 1) := by decide +kernel
theorem dX11_falls_0 : decode cX11_falls 0 = .ok (.aload_n 0, 1) := by decide +kernel
theorem dX11_falls_1 : decode cX11_falls 1 = .ok (.iload_n 1, 1) := by decide +kernel
theorem dX11_falls_2 : decode cX11_falls 2 = .ok (.invokevirtual 196, 3) := by decide +kernel
theorem dX11_falls_5 : decode cX11_falls 5 = .ok (.ifCond .ne 11, 3) := by decide +kernel
theorem dX11_falls_8 : decode cX11_falls 8 = .ok (.iload_n 2, 1) := by decide +kernel
theorem dX11_falls_9 : decode cX11_falls 9 = .ok (.iconst 1, 1) := by decide +kernel
theorem dX11_falls_10 : decode cX11_falls 10 = .ok (.invokestatic 132, 3) := by decide +kernel
theorem dX11_falls_13 : decode cX11_falls 13 = .ok (.ifCond .eq 5, 3) := by decide +kernel
theorem dX11_falls_16 : decode cX11_falls 16 = .ok (.iconst (-1), 1) := by decide +kernel
theorem dX11_falls_17 : decode cX11_falls 17 = .ok (.ireturn, 1) := by decide +kernel
theorem dX11_falls_18 : decode cX11_falls 18 = .ok (.aload_n 0, 1) := by decide +kernel
theorem dX11_falls_19 : decode cX11_falls 19 = .ok (.getfield 77, 3) := by decide +kernel
theorem dX11_falls_22 : decode cX11_falls 22 = .ok (.invokevirtual 212, 3) := by decide +kernel
theorem dX11_falls_25 : decode cX11_falls 25 = .ok (.aload_n 0, 1) := by decide +kernel
theorem dX11_falls_26 : decode cX11_falls 26 = .ok (.getfield 77, 3) := by decide +kernel
theorem dX11_falls_29 : decode cX11_falls 29 = .ok (.iload_n 1, 1) := by decide +kernel
theorem dX11_falls_30 : decode cX11_falls 30 = .ok (.invokevirtual 213, 3) := by decide +kernel
theorem dX11_falls_33 : decode cX11_falls 33 = .ok (.iload_n 2, 1) := by decide +kernel
theorem dX11_falls_34 : decode cX11_falls 34 = .ok (.ifCond .ne 13, 3) := by decide +kernel
theorem dX11_falls_37 : decode cX11_falls 37 = .ok (.aload_n 0, 1) := by decide +kernel
theorem dX11_falls_38 : decode cX11_falls 38 = .ok (.getfield 77, 3) := by decide +kernel
theorem dX11_falls_41 : decode cX11_falls 41 = .ok (.getfield 219, 3) := by decide +kernel
theorem dX11_falls_44 : decode cX11_falls 44 = .ok (.goto 10, 3) := by decide +kernel
theorem dX11_falls_47 : decode cX11_falls 47 = .ok (.aload_n 0, 1) := by decide +kernel
theorem dX11_falls_48 : decode cX11_falls 48 = .ok (.getfield 77, 3) := by decide +kernel
theorem dX11_falls_51 : decode cX11_falls 51 = .ok (.getfield 222, 3) := by decide +kernel
theorem dX11_falls_54 : decode cX11_falls 54 = .ok (.ireturn, 1) := by decide +kernel
theorem dX11_ring_0 : decode cX11_ring 0 = .ok (.aload_n 0, 1) := by decide +kernel
theorem dX11_ring_1 : decode cX11_ring 1 = .ok (.invokevirtual 225, 3) := by decide +kernel
theorem dX11_ring_4 : decode cX11_ring 4 = .ok (.ifCond .ne 21, 3) := by decide +kernel
theorem dX11_ring_7 : decode cX11_ring 7 = .ok (.iload_n 1, 1) := by decide +kernel
theorem dX11_ring_8 : decode cX11_ring 8 = .ok (.iconst 1, 1) := by decide +kernel
theorem dX11_ring_9 : decode cX11_ring 9 = .ok (.invokestatic 132, 3) := by decide +kernel
theorem dX11_ring_12 : decode cX11_ring 12 = .ok (.ifCond .ne 13, 3) := by decide +kernel
theorem dX11_ring_15 : decode cX11_ring 15 = .ok (.aload_n 0, 1) := by decide +kernel
theorem dX11_ring_16 : decode cX11_ring 16 = .ok (.getfield 84, 3) := by decide +kernel
theorem dX11_ring_19 : decode cX11_ring 19 = .ok (.invokevirtual 229, 3) := by decide +kernel
theorem dX11_ring_22 : decode cX11_ring 22 = .ok (.ifCond .ne 5, 3) := by decide +kernel
theorem dX11_ring_25 : decode cX11_ring 25 = .ok (.iconst (-1), 1) := by decide +kernel
theorem dX11_ring_26 : decode cX11_ring 26 = .ok (.ireturn, 1) := by decide +kernel
theorem dX11_ring_27 : decode cX11_ring 27 = .ok (.iload_n 1, 1) := by decide +kernel
theorem dX11_ring_28 : decode cX11_ring 28 = .ok (.ifCond .ne 13, 3) := by decide +kernel
theorem dX11_ring_31 : decode cX11_ring 31 = .ok (.aload_n 0, 1) := by decide +kernel
theorem dX11_ring_32 : decode cX11_ring 32 = .ok (.getfield 84, 3) := by decide +kernel
theorem dX11_ring_35 : decode cX11_ring 35 = .ok (.getfield 232, 3) := by decide +kernel
theorem dX11_ring_38 : decode cX11_ring 38 = .ok (.goto 10, 3) := by decide +kernel
theorem dX11_ring_41 : decode cX11_ring 41 = .ok (.aload_n 0, 1) := by decide +kernel
theorem dX11_ring_42 : decode cX11_ring 42 = .ok (.getfield 84, 3) := by decide +kernel
theorem dX11_ring_45 : decode cX11_ring 45 = .ok (.getfield 235, 3) := by decide +kernel
theorem dX11_ring_48 : decode cX11_ring 48 = .ok (.ireturn, 1) := by decide +kernel
theorem dX11_best_0 : decode cX11_best 0 = .ok (.aload_n 0, 1) := by decide +kernel
theorem dX11_best_1 : decode cX11_best 1 = .ok (.iload_n 1, 1) := by decide +kernel
theorem dX11_best_2 : decode cX11_best 2 = .ok (.invokevirtual 128, 3) := by decide +kernel
theorem dX11_best_5 : decode cX11_best 5 = .ok (.ifCond .eq 21, 3) := by decide +kernel
theorem dX11_best_8 : decode cX11_best 8 = .ok (.iload_n 2, 1) := by decide +kernel
theorem dX11_best_9 : decode cX11_best 9 = .ok (.iconst 1, 1) := by decide +kernel
theorem dX11_best_10 : decode cX11_best 10 = .ok (.if_icmp .lt 16, 3) := by decide +kernel
theorem dX11_best_13 : decode cX11_best 13 = .ok (.iload_n 2, 1) := by decide +kernel
theorem dX11_best_14 : decode cX11_best 14 = .ok (.iconst 3, 1) := by decide +kernel
theorem dX11_best_15 : decode cX11_best 15 = .ok (.if_icmp .gt 11, 3) := by decide +kernel
theorem dX11_best_18 : decode cX11_best 18 = .ok (.iload_n 3, 1) := by decide +kernel
theorem dX11_best_19 : decode cX11_best 19 = .ok (.iconst 1, 1) := by decide +kernel
theorem dX11_best_20 : decode cX11_best 20 = .ok (.invokestatic 132, 3) := by decide +kernel
theorem dX11_best_23 : decode cX11_best 23 = .ok (.ifCond .eq 6, 3) := by decide +kernel
theorem dX11_best_26 : decode cX11_best 26 = .ok (.ldc 238, 2) := by decide +kernel
theorem dX11_best_28 : decode cX11_best 28 = .ok (.ireturn, 1) := by decide +kernel
theorem dX11_best_29 : decode cX11_best 29 = .ok (.aload_n 0, 1) := by decide +kernel
theorem dX11_best_30 : decode cX11_best 30 = .ok (.getfield 84, 3) := by decide +kernel
theorem dX11_best_33 : decode cX11_best 33 = .ok (.iload_n 1, 1) := by decide +kernel
theorem dX11_best_34 : decode cX11_best 34 = .ok (.iload_n 2, 1) := by decide +kernel
theorem dX11_best_35 : decode cX11_best 35 = .ok (.invokevirtual 239, 3) := by decide +kernel
theorem dX11_best_38 : decode cX11_best 38 = .ok (.iload_n 3, 1) := by decide +kernel
theorem dX11_best_39 : decode cX11_best 39 = .ok (.ifCond .ne 13, 3) := by decide +kernel
theorem dX11_best_42 : decode cX11_best 42 = .ok (.aload_n 0, 1) := by decide +kernel
theorem dX11_best_43 : decode cX11_best 43 = .ok (.getfield 84, 3) := by decide +kernel
theorem dX11_best_46 : decode cX11_best 46 = .ok (.getfield 243, 3) := by decide +kernel
theorem dX11_best_49 : decode cX11_best 49 = .ok (.goto 10, 3) := by decide +kernel
theorem dX11_best_52 : decode cX11_best 52 = .ok (.aload_n 0, 1) := by decide +kernel
theorem dX11_best_53 : decode cX11_best 53 = .ok (.getfield 84, 3) := by decide +kernel
theorem dX11_best_56 : decode cX11_best 56 = .ok (.getfield 246, 3) := by decide +kernel
theorem dX11_best_59 : decode cX11_best 59 = .ok (.ireturn, 1) := by decide +kernel
theorem dX11_rest_0 : decode cX11_rest 0 = .ok (.aload_n 0, 1) := by decide +kernel
theorem dX11_rest_1 : decode cX11_rest 1 = .ok (.invokevirtual 225, 3) := by decide +kernel
theorem dX11_rest_4 : decode cX11_rest 4 = .ok (.ifCond .ne 14, 3) := by decide +kernel
theorem dX11_rest_7 : decode cX11_rest 7 = .ok (.aload_n 0, 1) := by decide +kernel
theorem dX11_rest_8 : decode cX11_rest 8 = .ok (.getfield 46, 3) := by decide +kernel
theorem dX11_rest_11 : decode cX11_rest 11 = .ok (.getfield 249, 3) := by decide +kernel
theorem dX11_rest_14 : decode cX11_rest 14 = .ok (.iconst 3, 1) := by decide +kernel
theorem dX11_rest_15 : decode cX11_rest 15 = .ok (.if_icmp .le 6, 3) := by decide +kernel
theorem dX11_rest_18 : decode cX11_rest 18 = .ok (.ldc 238, 2) := by decide +kernel
theorem dX11_rest_20 : decode cX11_rest 20 = .ok (.ireturn, 1) := by decide +kernel
theorem dX11_rest_21 : decode cX11_rest 21 = .ok (.iload_n 1, 1) := by decide +kernel
theorem dX11_rest_22 : decode cX11_rest 22 = .ok (.iconst (-1), 1) := by decide +kernel
theorem dX11_rest_23 : decode cX11_rest 23 = .ok (.if_icmp .lt 10, 3) := by decide +kernel
theorem dX11_rest_26 : decode cX11_rest 26 = .ok (.iload_n 1, 1) := by decide +kernel
theorem dX11_rest_27 : decode cX11_rest 27 = .ok (.sipush 9261, 3) := by decide +kernel
theorem dX11_rest_30 : decode cX11_rest 30 = .ok (.if_icmp .lt 5, 3) := by decide +kernel
theorem dX11_rest_33 : decode cX11_rest 33 = .ok (.iconst (-1), 1) := by decide +kernel
theorem dX11_rest_34 : decode cX11_rest 34 = .ok (.ireturn, 1) := by decide +kernel
theorem dX11_rest_35 : decode cX11_rest 35 = .ok (.aload_n 0, 1) := by decide +kernel
theorem dX11_rest_36 : decode cX11_rest 36 = .ok (.getfield 84, 3) := by decide +kernel
theorem dX11_rest_39 : decode cX11_rest 39 = .ok (.iload_n 1, 1) := by decide +kernel
theorem dX11_rest_40 : decode cX11_rest 40 = .ok (.invokevirtual 252, 3) := by decide +kernel
theorem dX11_rest_43 : decode cX11_rest 43 = .ok (.istore_n 2, 1) := by decide +kernel
theorem dX11_rest_44 : decode cX11_rest 44 = .ok (.iload_n 1, 1) := by decide +kernel
theorem dX11_rest_45 : decode cX11_rest 45 = .ok (.iconst (-1), 1) := by decide +kernel
theorem dX11_rest_46 : decode cX11_rest 46 = .ok (.if_icmp .ne 5, 3) := by decide +kernel
theorem dX11_rest_49 : decode cX11_rest 49 = .ok (.iload_n 2, 1) := by decide +kernel
theorem dX11_rest_50 : decode cX11_rest 50 = .ok (.ireturn, 1) := by decide +kernel
theorem dX11_rest_51 : decode cX11_rest 51 = .ok (.iload_n 1, 1) := by decide +kernel
theorem dX11_rest_52 : decode cX11_rest 52 = .ok (.iload_n 2, 1) := by decide +kernel
theorem dX11_rest_53 : decode cX11_rest 53 = .ok (.if_icmp .ge 13, 3) := by decide +kernel
theorem dX11_rest_56 : decode cX11_rest 56 = .ok (.aload_n 0, 1) := by decide +kernel
theorem dX11_rest_57 : decode cX11_rest 57 = .ok (.getfield 84, 3) := by decide +kernel
theorem dX11_rest_60 : decode cX11_rest 60 = .ok (.getfield 255, 3) := by decide +kernel
theorem dX11_rest_63 : decode cX11_rest 63 = .ok (.goto 4, 3) := by decide +kernel
theorem dX11_rest_66 : decode cX11_rest 66 = .ok (.iconst (-1), 1) := by decide +kernel
theorem dX11_rest_67 : decode cX11_rest 67 = .ok (.ireturn, 1) := by decide +kernel
theorem dX11_fool_0 : decode cX11_fool 0 = .ok (.aload_n 0, 1) := by decide +kernel
theorem dX11_fool_1 : decode cX11_fool 1 = .ok (.iload_n 1, 1) := by decide +kernel
theorem dX11_fool_2 : decode cX11_fool 2 = .ok (.invokevirtual 128, 3) := by decide +kernel
theorem dX11_fool_5 : decode cX11_fool 5 = .ok (.ifCond .eq 19, 3) := by decide +kernel
theorem dX11_fool_8 : decode cX11_fool 8 = .ok (.aload_n 0, 1) := by decide +kernel
theorem dX11_fool_9 : decode cX11_fool 9 = .ok (.iload_n 2, 1) := by decide +kernel
theorem dX11_fool_10 : decode cX11_fool 10 = .ok (.invokevirtual 196, 3) := by decide +kernel
theorem dX11_fool_13 : decode cX11_fool 13 = .ok (.ifCond .ne 11, 3) := by decide +kernel
theorem dX11_fool_16 : decode cX11_fool 16 = .ok (.iload_n 3, 1) := by decide +kernel
theorem dX11_fool_17 : decode cX11_fool 17 = .ok (.iconst 1, 1) := by decide +kernel
theorem dX11_fool_18 : decode cX11_fool 18 = .ok (.invokestatic 132, 3) := by decide +kernel
theorem dX11_fool_21 : decode cX11_fool 21 = .ok (.ifCond .eq 6, 3) := by decide +kernel
theorem dX11_fool_24 : decode cX11_fool 24 = .ok (.ldc 238, 2) := by decide +kernel
theorem dX11_fool_26 : decode cX11_fool 26 = .ok (.ireturn, 1) := by decide +kernel
theorem dX11_fool_27 : decode cX11_fool 27 = .ok (.aload_n 0, 1) := by decide +kernel
theorem dX11_fool_28 : decode cX11_fool 28 = .ok (.getfield 77, 3) := by decide +kernel
theorem dX11_fool_31 : decode cX11_fool 31 = .ok (.iload_n 1, 1) := by decide +kernel
theorem dX11_fool_32 : decode cX11_fool 32 = .ok (.iconst 1, 1) := by decide +kernel
theorem dX11_fool_33 : decode cX11_fool 33 = .ok (.invokevirtual 258, 3) := by decide +kernel
theorem dX11_fool_36 : decode cX11_fool 36 = .ok (.aload_n 0, 1) := by decide +kernel
theorem dX11_fool_37 : decode cX11_fool 37 = .ok (.getfield 77, 3) := by decide +kernel
theorem dX11_fool_40 : decode cX11_fool 40 = .ok (.iload_n 2, 1) := by decide +kernel
theorem dX11_fool_41 : decode cX11_fool 41 = .ok (.invokevirtual 213, 3) := by decide +kernel
theorem dX11_fool_44 : decode cX11_fool 44 = .ok (.aload_n 0, 1) := by decide +kernel
theorem dX11_fool_45 : decode cX11_fool 45 = .ok (.getfield 77, 3) := by decide +kernel
theorem dX11_fool_48 : decode cX11_fool 48 = .ok (.iload_n 1, 1) := by decide +kernel
theorem dX11_fool_49 : decode cX11_fool 49 = .ok (.invokevirtual 261, 3) := by decide +kernel
theorem dX11_fool_52 : decode cX11_fool 52 = .ok (.istore 4, 2) := by decide +kernel
theorem dX11_fool_54 : decode cX11_fool 54 = .ok (.aload_n 0, 1) := by decide +kernel
theorem dX11_fool_55 : decode cX11_fool 55 = .ok (.getfield 77, 3) := by decide +kernel
theorem dX11_fool_58 : decode cX11_fool 58 = .ok (.invokevirtual 264, 3) := by decide +kernel
theorem dX11_fool_61 : decode cX11_fool 61 = .ok (.iload 4, 2) := by decide +kernel
theorem dX11_fool_63 : decode cX11_fool 63 = .ok (.isub, 1) := by decide +kernel
theorem dX11_fool_64 : decode cX11_fool 64 = .ok (.istore 5, 2) := by decide +kernel
theorem dX11_fool_66 : decode cX11_fool 66 = .ok (.aload_n 0, 1) := by decide +kernel
theorem dX11_fool_67 : decode cX11_fool 67 = .ok (.getfield 77, 3) := by decide +kernel
theorem dX11_fool_70 : decode cX11_fool 70 = .ok (.iload_n 1, 1) := by decide +kernel
theorem dX11_fool_71 : decode cX11_fool 71 = .ok (.iconst 0, 1) := by decide +kernel
theorem dX11_fool_72 : decode cX11_fool 72 = .ok (.invokevirtual 258, 3) := by decide +kernel
theorem dX11_fool_75 : decode cX11_fool 75 = .ok (.aload_n 0, 1) := by decide +kernel
theorem dX11_fool_76 : decode cX11_fool 76 = .ok (.getfield 77, 3) := by decide +kernel
theorem dX11_fool_79 : decode cX11_fool 79 = .ok (.iload_n 2, 1) := by decide +kernel
theorem dX11_fool_80 : decode cX11_fool 80 = .ok (.invokevirtual 213, 3) := by decide +kernel
theorem dX11_fool_83 : decode cX11_fool 83 = .ok (.aload_n 0, 1) := by decide +kernel
theorem dX11_fool_84 : decode cX11_fool 84 = .ok (.getfield 77, 3) := by decide +kernel
theorem dX11_fool_87 : decode cX11_fool 87 = .ok (.iload_n 1, 1) := by decide +kernel
theorem dX11_fool_88 : decode cX11_fool 88 = .ok (.invokevirtual 261, 3) := by decide +kernel
theorem dX11_fool_91 : decode cX11_fool 91 = .ok (.istore 6, 2) := by decide +kernel
theorem dX11_fool_93 : decode cX11_fool 93 = .ok (.aload_n 0, 1) := by decide +kernel
theorem dX11_fool_94 : decode cX11_fool 94 = .ok (.getfield 77, 3) := by decide +kernel
theorem dX11_fool_97 : decode cX11_fool 97 = .ok (.invokevirtual 264, 3) := by decide +kernel
theorem dX11_fool_100 : decode cX11_fool 100 = .ok (.iload 6, 2) := by decide +kernel
theorem dX11_fool_102 : decode cX11_fool 102 = .ok (.isub, 1) := by decide +kernel
theorem dX11_fool_103 : decode cX11_fool 103 = .ok (.istore 7, 2) := by decide +kernel
theorem dX11_fool_105 : decode cX11_fool 105 = .ok (.iload_n 3, 1) := by decide +kernel
theorem dX11_fool_106 : decode cX11_fool 106 = .ok (.ifCond .ne 11, 3) := by decide +kernel
theorem dX11_fool_109 : decode cX11_fool 109 = .ok (.iload 6, 2) := by decide +kernel
theorem dX11_fool_111 : decode cX11_fool 111 = .ok (.iload 4, 2) := by decide +kernel
theorem dX11_fool_113 : decode cX11_fool 113 = .ok (.isub, 1) := by decide +kernel
theorem dX11_fool_114 : decode cX11_fool 114 = .ok (.goto 8, 3) := by decide +kernel
theorem dX11_fool_117 : decode cX11_fool 117 = .ok (.iload 5, 2) := by decide +kernel
theorem dX11_fool_119 : decode cX11_fool 119 = .ok (.iload 7, 2) := by decide +kernel
theorem dX11_fool_121 : decode cX11_fool 121 = .ok (.isub, 1) := by decide +kernel
theorem dX11_fool_122 : decode cX11_fool 122 = .ok (.ireturn, 1) := by decide +kernel
theorem dX11_up_0 : decode cX11_up 0 = .ok (.aload_n 0, 1) := by decide +kernel
theorem dX11_up_1 : decode cX11_up 1 = .ok (.iload_n 1, 1) := by decide +kernel
theorem dX11_up_2 : decode cX11_up 2 = .ok (.invokevirtual 196, 3) := by decide +kernel
theorem dX11_up_5 : decode cX11_up 5 = .ok (.ifCond .ne 10, 3) := by decide +kernel
theorem dX11_up_8 : decode cX11_up 8 = .ok (.iload_n 2, 1) := by decide +kernel
theorem dX11_up_9 : decode cX11_up 9 = .ok (.invokestatic 267, 3) := by decide +kernel
theorem dX11_up_12 : decode cX11_up 12 = .ok (.ifCond .eq 5, 3) := by decide +kernel
theorem dX11_up_15 : decode cX11_up 15 = .ok (.iconst (-1), 1) := by decide +kernel
theorem dX11_up_16 : decode cX11_up 16 = .ok (.ireturn, 1) := by decide +kernel
theorem dX11_up_17 : decode cX11_up 17 = .ok (.iconst (-1), 1) := by decide +kernel
theorem dX11_up_18 : decode cX11_up 18 = .ok (.istore_n 3, 1) := by decide +kernel
theorem dX11_up_19 : decode cX11_up 19 = .ok (.iconst 1, 1) := by decide +kernel
theorem dX11_up_20 : decode cX11_up 20 = .ok (.aload_n 0, 1) := by decide +kernel
theorem dX11_up_21 : decode cX11_up 21 = .ok (.getfield 46, 3) := by decide +kernel
theorem dX11_up_24 : decode cX11_up 24 = .ok (.getfield 249, 3) := by decide +kernel
theorem dX11_up_27 : decode cX11_up 27 = .ok (.ishl, 1) := by decide +kernel
theorem dX11_up_28 : decode cX11_up 28 = .ok (.istore 4, 2) := by decide +kernel
theorem dX11_up_30 : decode cX11_up 30 = .ok (.iconst 0, 1) := by decide +kernel
theorem dX11_up_31 : decode cX11_up 31 = .ok (.istore 5, 2) := by decide +kernel
theorem dX11_up_33 : decode cX11_up 33 = .ok (.iload 5, 2) := by decide +kernel
theorem dX11_up_35 : decode cX11_up 35 = .ok (.iload 4, 2) := by decide +kernel
theorem dX11_up_37 : decode cX11_up 37 = .ok (.if_icmp .ge 73, 3) := by decide +kernel
theorem dX11_up_40 : decode cX11_up 40 = .ok (.iload_n 3, 1) := by decide +kernel
theorem dX11_up_41 : decode cX11_up 41 = .ok (.iconst (-1), 1) := by decide +kernel
theorem dX11_up_42 : decode cX11_up 42 = .ok (.if_icmp .eq 18, 3) := by decide +kernel
theorem dX11_up_45 : decode cX11_up 45 = .ok (.iload 5, 2) := by decide +kernel
theorem dX11_up_47 : decode cX11_up 47 = .ok (.invokestatic 270, 3) := by decide +kernel
theorem dX11_up_50 : decode cX11_up 50 = .ok (.iload_n 3, 1) := by decide +kernel
theorem dX11_up_51 : decode cX11_up 51 = .ok (.invokestatic 270, 3) := by decide +kernel
theorem dX11_up_54 : decode cX11_up 54 = .ok (.if_icmp .lt 6, 3) := by decide +kernel
theorem dX11_up_57 : decode cX11_up 57 = .ok (.goto 47, 3) := by decide +kernel
theorem dX11_up_60 : decode cX11_up 60 = .ok (.aload_n 0, 1) := by decide +kernel
theorem dX11_up_61 : decode cX11_up 61 = .ok (.getfield 77, 3) := by decide +kernel
theorem dX11_up_64 : decode cX11_up 64 = .ok (.invokevirtual 212, 3) := by decide +kernel
theorem dX11_up_67 : decode cX11_up 67 = .ok (.aload_n 0, 1) := by decide +kernel
theorem dX11_up_68 : decode cX11_up 68 = .ok (.getfield 77, 3) := by decide +kernel
theorem dX11_up_71 : decode cX11_up 71 = .ok (.getfield 216, 3) := by decide +kernel
theorem dX11_up_74 : decode cX11_up 74 = .ok (.iload 5, 2) := by decide +kernel
theorem dX11_up_76 : decode cX11_up 76 = .ok (.putfield 275, 3) := by decide +kernel
theorem dX11_up_79 : decode cX11_up 79 = .ok (.aload_n 0, 1) := by decide +kernel
theorem dX11_up_80 : decode cX11_up 80 = .ok (.getfield 77, 3) := by decide +kernel
theorem dX11_up_83 : decode cX11_up 83 = .ok (.iload_n 1, 1) := by decide +kernel
theorem dX11_up_84 : decode cX11_up 84 = .ok (.invokevirtual 213, 3) := by decide +kernel
theorem dX11_up_87 : decode cX11_up 87 = .ok (.aload_n 0, 1) := by decide +kernel
theorem dX11_up_88 : decode cX11_up 88 = .ok (.getfield 77, 3) := by decide +kernel
theorem dX11_up_91 : decode cX11_up 91 = .ok (.getfield 216, 3) := by decide +kernel
theorem dX11_up_94 : decode cX11_up 94 = .ok (.getfield 209, 3) := by decide +kernel
theorem dX11_up_97 : decode cX11_up 97 = .ok (.iload_n 2, 1) := by decide +kernel
theorem dX11_up_98 : decode cX11_up 98 = .ok (.if_icmp .lt 6, 3) := by decide +kernel
theorem dX11_up_101 : decode cX11_up 101 = .ok (.iload 5, 2) := by decide +kernel
theorem dX11_up_103 : decode cX11_up 103 = .ok (.istore_n 3, 1) := by decide +kernel
theorem dX11_up_104 : decode cX11_up 104 = .ok (.iinc 5 1, 3) := by decide +kernel
theorem dX11_up_107 : decode cX11_up 107 = .ok (.goto (-74), 3) := by decide +kernel
theorem dX11_up_110 : decode cX11_up 110 = .ok (.iload_n 3, 1) := by decide +kernel
theorem dX11_up_111 : decode cX11_up 111 = .ok (.ireturn, 1) := by decide +kernel
theorem dX11_when_0 : decode cX11_when 0 = .ok (.aload_n 0, 1) := by decide +kernel
theorem dX11_when_1 : decode cX11_when 1 = .ok (.iload_n 1, 1) := by decide +kernel
theorem dX11_when_2 : decode cX11_when 2 = .ok (.invokevirtual 196, 3) := by decide +kernel
theorem dX11_when_5 : decode cX11_when 5 = .ok (.ifCond .ne 11, 3) := by decide +kernel
theorem dX11_when_8 : decode cX11_when 8 = .ok (.iload_n 2, 1) := by decide +kernel
theorem dX11_when_9 : decode cX11_when 9 = .ok (.iconst 1, 1) := by decide +kernel
theorem dX11_when_10 : decode cX11_when 10 = .ok (.invokestatic 132, 3) := by decide +kernel
theorem dX11_when_13 : decode cX11_when 13 = .ok (.ifCond .eq 5, 3) := by decide +kernel
theorem dX11_when_16 : decode cX11_when 16 = .ok (.iconst (-1), 1) := by decide +kernel
theorem dX11_when_17 : decode cX11_when 17 = .ok (.ireturn, 1) := by decide +kernel
theorem dX11_when_18 : decode cX11_when 18 = .ok (.aload_n 0, 1) := by decide +kernel
theorem dX11_when_19 : decode cX11_when 19 = .ok (.getfield 77, 3) := by decide +kernel
theorem dX11_when_22 : decode cX11_when 22 = .ok (.invokevirtual 212, 3) := by decide +kernel
theorem dX11_when_25 : decode cX11_when 25 = .ok (.aload_n 0, 1) := by decide +kernel
theorem dX11_when_26 : decode cX11_when 26 = .ok (.getfield 77, 3) := by decide +kernel
theorem dX11_when_29 : decode cX11_when 29 = .ok (.iload_n 1, 1) := by decide +kernel
theorem dX11_when_30 : decode cX11_when 30 = .ok (.invokevirtual 213, 3) := by decide +kernel
theorem dX11_when_33 : decode cX11_when 33 = .ok (.iload_n 2, 1) := by decide +kernel
theorem dX11_when_34 : decode cX11_when 34 = .ok (.ifCond .ne 13, 3) := by decide +kernel
theorem dX11_when_37 : decode cX11_when 37 = .ok (.aload_n 0, 1) := by decide +kernel
theorem dX11_when_38 : decode cX11_when 38 = .ok (.getfield 77, 3) := by decide +kernel
theorem dX11_when_41 : decode cX11_when 41 = .ok (.getfield 278, 3) := by decide +kernel
theorem dX11_when_44 : decode cX11_when 44 = .ok (.goto 10, 3) := by decide +kernel
theorem dX11_when_47 : decode cX11_when 47 = .ok (.aload_n 0, 1) := by decide +kernel
theorem dX11_when_48 : decode cX11_when 48 = .ok (.getfield 77, 3) := by decide +kernel
theorem dX11_when_51 : decode cX11_when 51 = .ok (.getfield 281, 3) := by decide +kernel
theorem dX11_when_54 : decode cX11_when 54 = .ok (.ireturn, 1) := by decide +kernel
theorem dX11_stranger_0 : decode cX11_stranger 0 = .ok (.aload_n 0, 1) := by decide +kernel
theorem dX11_stranger_1 : decode cX11_stranger 1 = .ok (.invokevirtual 225, 3) := by decide +kernel
theorem dX11_stranger_4 : decode cX11_stranger 4 = .ok (.ifCond .ne 29, 3) := by decide +kernel
theorem dX11_stranger_7 : decode cX11_stranger 7 = .ok (.iload_n 1, 1) := by decide +kernel
theorem dX11_stranger_8 : decode cX11_stranger 8 = .ok (.iconst 1, 1) := by decide +kernel
theorem dX11_stranger_9 : decode cX11_stranger 9 = .ok (.if_icmp .lt 24, 3) := by decide +kernel
theorem dX11_stranger_12 : decode cX11_stranger 12 = .ok (.iload_n 1, 1) := by decide +kernel
theorem dX11_stranger_13 : decode cX11_stranger 13 = .ok (.bipush 99, 2) := by decide +kernel
theorem dX11_stranger_15 : decode cX11_stranger 15 = .ok (.if_icmp .gt 18, 3) := by decide +kernel
theorem dX11_stranger_18 : decode cX11_stranger 18 = .ok (.iload_n 2, 1) := by decide +kernel
theorem dX11_stranger_19 : decode cX11_stranger 19 = .ok (.invokestatic 267, 3) := by decide +kernel
theorem dX11_stranger_22 : decode cX11_stranger 22 = .ok (.ifCond .ne 11, 3) := by decide +kernel
theorem dX11_stranger_25 : decode cX11_stranger 25 = .ok (.iload_n 3, 1) := by decide +kernel
theorem dX11_stranger_26 : decode cX11_stranger 26 = .ok (.iconst 2, 1) := by decide +kernel
theorem dX11_stranger_27 : decode cX11_stranger 27 = .ok (.invokestatic 132, 3) := by decide +kernel
theorem dX11_stranger_30 : decode cX11_stranger 30 = .ok (.ifCond .eq 6, 3) := by decide +kernel
theorem dX11_stranger_33 : decode cX11_stranger 33 = .ok (.ldc 238, 2) := by decide +kernel
theorem dX11_stranger_35 : decode cX11_stranger 35 = .ok (.ireturn, 1) := by decide +kernel
theorem dX11_stranger_36 : decode cX11_stranger 36 = .ok (.aload_n 0, 1) := by decide +kernel
theorem dX11_stranger_37 : decode cX11_stranger 37 = .ok (.getfield 46, 3) := by decide +kernel
theorem dX11_stranger_40 : decode cX11_stranger 40 = .ok (.getfield 249, 3) := by decide +kernel
theorem dX11_stranger_43 : decode cX11_stranger 43 = .ok (.istore 4, 2) := by decide +kernel
theorem dX11_stranger_45 : decode cX11_stranger 45 = .ok (.aload_n 0, 1) := by decide +kernel
theorem dX11_stranger_46 : decode cX11_stranger 46 = .ok (.getfield 77, 3) := by decide +kernel
theorem dX11_stranger_49 : decode cX11_stranger 49 = .ok (.invokevirtual 212, 3) := by decide +kernel
theorem dX11_stranger_52 : decode cX11_stranger 52 = .ok (.aload_n 0, 1) := by decide +kernel
theorem dX11_stranger_53 : decode cX11_stranger 53 = .ok (.getfield 77, 3) := by decide +kernel
theorem dX11_stranger_56 : decode cX11_stranger 56 = .ok (.iconst 1, 1) := by decide +kernel
theorem dX11_stranger_57 : decode cX11_stranger 57 = .ok (.invokevirtual 213, 3) := by decide +kernel
theorem dX11_stranger_60 : decode cX11_stranger 60 = .ok (.aload_n 0, 1) := by decide +kernel
theorem dX11_stranger_61 : decode cX11_stranger 61 = .ok (.getfield 77, 3) := by decide +kernel
theorem dX11_stranger_64 : decode cX11_stranger 64 = .ok (.invokevirtual 264, 3) := by decide +kernel
theorem dX11_stranger_67 : decode cX11_stranger 67 = .ok (.istore 5, 2) := by decide +kernel
theorem dX11_stranger_69 : decode cX11_stranger 69 = .ok (.aload_n 0, 1) := by decide +kernel
theorem dX11_stranger_70 : decode cX11_stranger 70 = .ok (.getfield 77, 3) := by decide +kernel
theorem dX11_stranger_73 : decode cX11_stranger 73 = .ok (.invokevirtual 212, 3) := by decide +kernel
theorem dX11_stranger_76 : decode cX11_stranger 76 = .ok (.aload_n 0, 1) := by decide +kernel
theorem dX11_stranger_77 : decode cX11_stranger 77 = .ok (.getfield 77, 3) := by decide +kernel
theorem dX11_stranger_80 : decode cX11_stranger 80 = .ok (.iload_n 1, 1) := by decide +kernel
theorem dX11_stranger_81 : decode cX11_stranger 81 = .ok (.iload_n 2, 1) := by decide +kernel
theorem dX11_stranger_82 : decode cX11_stranger 82 = .ok (.invokevirtual 284, 3) := by decide +kernel
theorem dX11_stranger_85 : decode cX11_stranger 85 = .ok (.aload_n 0, 1) := by decide +kernel
theorem dX11_stranger_86 : decode cX11_stranger 86 = .ok (.getfield 77, 3) := by decide +kernel
theorem dX11_stranger_89 : decode cX11_stranger 89 = .ok (.iconst 1, 1) := by decide +kernel
theorem dX11_stranger_90 : decode cX11_stranger 90 = .ok (.invokevirtual 213, 3) := by decide +kernel
theorem dX11_stranger_93 : decode cX11_stranger 93 = .ok (.iload_n 3, 1) := by decide +kernel
theorem dX11_stranger_94 : decode cX11_stranger 94 = .ok (.lookupswitch 51 #[(0, 26), (1, 37)], 26) := by decide +kernel
theorem dX11_stranger_120 : decode cX11_stranger 120 = .ok (.aload_n 0, 1) := by decide +kernel
theorem dX11_stranger_121 : decode cX11_stranger 121 = .ok (.getfield 77, 3) := by decide +kernel
theorem dX11_stranger_124 : decode cX11_stranger 124 = .ok (.getfield 216, 3) := by decide +kernel
theorem dX11_stranger_127 : decode cX11_stranger 127 = .ok (.getfield 209, 3) := by decide +kernel
theorem dX11_stranger_130 : decode cX11_stranger 130 = .ok (.ireturn, 1) := by decide +kernel
theorem dX11_stranger_131 : decode cX11_stranger 131 = .ok (.aload_n 0, 1) := by decide +kernel
theorem dX11_stranger_132 : decode cX11_stranger 132 = .ok (.getfield 77, 3) := by decide +kernel
theorem dX11_stranger_135 : decode cX11_stranger 135 = .ok (.getfield 216, 3) := by decide +kernel
theorem dX11_stranger_138 : decode cX11_stranger 138 = .ok (.getfield 167, 3) := by decide +kernel
theorem dX11_stranger_141 : decode cX11_stranger 141 = .ok (.iload 4, 2) := by decide +kernel
theorem dX11_stranger_143 : decode cX11_stranger 143 = .ok (.iaload, 1) := by decide +kernel
theorem dX11_stranger_144 : decode cX11_stranger 144 = .ok (.ireturn, 1) := by decide +kernel
theorem dX11_stranger_145 : decode cX11_stranger 145 = .ok (.iload 5, 2) := by decide +kernel
theorem dX11_stranger_147 : decode cX11_stranger 147 = .ok (.aload_n 0, 1) := by decide +kernel
theorem dX11_stranger_148 : decode cX11_stranger 148 = .ok (.getfield 77, 3) := by decide +kernel
theorem dX11_stranger_151 : decode cX11_stranger 151 = .ok (.invokevirtual 264, 3) := by decide +kernel
theorem dX11_stranger_154 : decode cX11_stranger 154 = .ok (.isub, 1) := by decide +kernel
theorem dX11_stranger_155 : decode cX11_stranger 155 = .ok (.ireturn, 1) := by decide +kernel
theorem dX11_see_0 : decode cX11_see 0 = .ok (.aload_n 0, 1) := by decide +kernel
theorem dX11_see_1 : decode cX11_see 1 = .ok (.iload_n 1, 1) := by decide +kernel
theorem dX11_see_2 : decode cX11_see 2 = .ok (.invokevirtual 196, 3) := by decide +kernel
theorem dX11_see_5 : decode cX11_see 5 = .ok (.ifCond .ne 23, 3) := by decide +kernel
theorem dX11_see_8 : decode cX11_see 8 = .ok (.iload_n 2, 1) := by decide +kernel
theorem dX11_see_9 : decode cX11_see 9 = .ok (.invokestatic 267, 3) := by decide +kernel
theorem dX11_see_12 : decode cX11_see 12 = .ok (.ifCond .ne 16, 3) := by decide +kernel
theorem dX11_see_15 : decode cX11_see 15 = .ok (.aload_n 0, 1) := by decide +kernel
theorem dX11_see_16 : decode cX11_see 16 = .ok (.getfield 93, 3) := by decide +kernel
theorem dX11_see_19 : decode cX11_see 19 = .ok (.iload_n 1, 1) := by decide +kernel
theorem dX11_see_20 : decode cX11_see 20 = .ok (.iload_n 2, 1) := by decide +kernel
theorem dX11_see_21 : decode cX11_see 21 = .ok (.iconst 0, 1) := by decide +kernel
theorem dX11_see_22 : decode cX11_see 22 = .ok (.invokevirtual 287, 3) := by decide +kernel
theorem dX11_see_25 : decode cX11_see 25 = .ok (.ifCond .ne 5, 3) := by decide +kernel
theorem dX11_see_28 : decode cX11_see 28 = .ok (.iconst (-1), 1) := by decide +kernel
theorem dX11_see_29 : decode cX11_see 29 = .ok (.ireturn, 1) := by decide +kernel
theorem dX11_see_30 : decode cX11_see 30 = .ok (.aload_n 0, 1) := by decide +kernel
theorem dX11_see_31 : decode cX11_see 31 = .ok (.getfield 93, 3) := by decide +kernel
theorem dX11_see_34 : decode cX11_see 34 = .ok (.getfield 290, 3) := by decide +kernel
theorem dX11_see_37 : decode cX11_see 37 = .ok (.ireturn, 1) := by decide +kernel
theorem dX11_fits_0 : decode cX11_fits 0 = .ok (.aload_n 0, 1) := by decide +kernel
theorem dX11_fits_1 : decode cX11_fits 1 = .ok (.invokevirtual 225, 3) := by decide +kernel
theorem dX11_fits_4 : decode cX11_fits 4 = .ok (.ifCond .ne 8, 3) := by decide +kernel
theorem dX11_fits_7 : decode cX11_fits 7 = .ok (.iload_n 1, 1) := by decide +kernel
theorem dX11_fits_8 : decode cX11_fits 8 = .ok (.iconst (-1), 1) := by decide +kernel
theorem dX11_fits_9 : decode cX11_fits 9 = .ok (.if_icmp .ge 5, 3) := by decide +kernel
theorem dX11_fits_12 : decode cX11_fits 12 = .ok (.iconst (-1), 1) := by decide +kernel
theorem dX11_fits_13 : decode cX11_fits 13 = .ok (.ireturn, 1) := by decide +kernel
theorem dX11_fits_14 : decode cX11_fits 14 = .ok (.iconst 0, 1) := by decide +kernel
theorem dX11_fits_15 : decode cX11_fits 15 = .ok (.istore_n 2, 1) := by decide +kernel
theorem dX11_fits_16 : decode cX11_fits 16 = .ok (.iconst 1, 1) := by decide +kernel
theorem dX11_fits_17 : decode cX11_fits 17 = .ok (.aload_n 0, 1) := by decide +kernel
theorem dX11_fits_18 : decode cX11_fits 18 = .ok (.getfield 46, 3) := by decide +kernel
theorem dX11_fits_21 : decode cX11_fits 21 = .ok (.getfield 249, 3) := by decide +kernel
theorem dX11_fits_24 : decode cX11_fits 24 = .ok (.ishl, 1) := by decide +kernel
theorem dX11_fits_25 : decode cX11_fits 25 = .ok (.istore_n 3, 1) := by decide +kernel
theorem dX11_fits_26 : decode cX11_fits 26 = .ok (.iconst 0, 1) := by decide +kernel
theorem dX11_fits_27 : decode cX11_fits 27 = .ok (.istore 4, 2) := by decide +kernel
theorem dX11_fits_29 : decode cX11_fits 29 = .ok (.iload 4, 2) := by decide +kernel
theorem dX11_fits_31 : decode cX11_fits 31 = .ok (.iload_n 3, 1) := by decide +kernel
theorem dX11_fits_32 : decode cX11_fits 32 = .ok (.if_icmp .ge 32, 3) := by decide +kernel
theorem dX11_fits_35 : decode cX11_fits 35 = .ok (.aload_n 0, 1) := by decide +kernel
theorem dX11_fits_36 : decode cX11_fits 36 = .ok (.iload 4, 2) := by decide +kernel
theorem dX11_fits_38 : decode cX11_fits 38 = .ok (.invokevirtual 293, 3) := by decide +kernel
theorem dX11_fits_41 : decode cX11_fits 41 = .ok (.ifCond .ne 6, 3) := by decide +kernel
theorem dX11_fits_44 : decode cX11_fits 44 = .ok (.goto 14, 3) := by decide +kernel
theorem dX11_fits_47 : decode cX11_fits 47 = .ok (.iload_n 2, 1) := by decide +kernel
theorem dX11_fits_48 : decode cX11_fits 48 = .ok (.iload_n 1, 1) := by decide +kernel
theorem dX11_fits_49 : decode cX11_fits 49 = .ok (.if_icmp .ne 6, 3) := by decide +kernel
theorem dX11_fits_52 : decode cX11_fits 52 = .ok (.iload 4, 2) := by decide +kernel
theorem dX11_fits_54 : decode cX11_fits 54 = .ok (.ireturn, 1) := by decide +kernel
theorem dX11_fits_55 : decode cX11_fits 55 = .ok (.iinc 2 1, 3) := by decide +kernel
theorem dX11_fits_58 : decode cX11_fits 58 = .ok (.iinc 4 1, 3) := by decide +kernel
theorem dX11_fits_61 : decode cX11_fits 61 = .ok (.goto (-32), 3) := by decide +kernel
theorem dX11_fits_64 : decode cX11_fits 64 = .ok (.iload_n 1, 1) := by decide +kernel
theorem dX11_fits_65 : decode cX11_fits 65 = .ok (.iconst (-1), 1) := by decide +kernel
theorem dX11_fits_66 : decode cX11_fits 66 = .ok (.if_icmp .ne 7, 3) := by decide +kernel
theorem dX11_fits_69 : decode cX11_fits 69 = .ok (.iload_n 2, 1) := by decide +kernel
theorem dX11_fits_70 : decode cX11_fits 70 = .ok (.goto 4, 3) := by decide +kernel
theorem dX11_fits_73 : decode cX11_fits 73 = .ok (.iconst (-1), 1) := by decide +kernel
theorem dX11_fits_74 : decode cX11_fits 74 = .ok (.ireturn, 1) := by decide +kernel
theorem dX11_other_0 : decode cX11_other 0 = .ok (.aload_n 0, 1) := by decide +kernel
theorem dX11_other_1 : decode cX11_other 1 = .ok (.iload_n 2, 1) := by decide +kernel
theorem dX11_other_2 : decode cX11_other 2 = .ok (.invokevirtual 196, 3) := by decide +kernel
theorem dX11_other_5 : decode cX11_other 5 = .ok (.ifCond .ne 19, 3) := by decide +kernel
theorem dX11_other_8 : decode cX11_other 8 = .ok (.iload_n 1, 1) := by decide +kernel
theorem dX11_other_9 : decode cX11_other 9 = .ok (.iconst 2, 1) := by decide +kernel
theorem dX11_other_10 : decode cX11_other 10 = .ok (.invokestatic 132, 3) := by decide +kernel
theorem dX11_other_13 : decode cX11_other 13 = .ok (.ifCond .ne 11, 3) := by decide +kernel
theorem dX11_other_16 : decode cX11_other 16 = .ok (.iload_n 3, 1) := by decide +kernel
theorem dX11_other_17 : decode cX11_other 17 = .ok (.iconst 2, 1) := by decide +kernel
theorem dX11_other_18 : decode cX11_other 18 = .ok (.invokestatic 132, 3) := by decide +kernel
theorem dX11_other_21 : decode cX11_other 21 = .ok (.ifCond .eq 6, 3) := by decide +kernel
theorem dX11_other_24 : decode cX11_other 24 = .ok (.ldc 238, 2) := by decide +kernel
theorem dX11_other_26 : decode cX11_other 26 = .ok (.ireturn, 1) := by decide +kernel
theorem dX11_other_27 : decode cX11_other 27 = .ok (.aload_n 0, 1) := by decide +kernel
theorem dX11_other_28 : decode cX11_other 28 = .ok (.getfield 77, 3) := by decide +kernel
theorem dX11_other_31 : decode cX11_other 31 = .ok (.invokevirtual 212, 3) := by decide +kernel
theorem dX11_other_34 : decode cX11_other 34 = .ok (.aload_n 0, 1) := by decide +kernel
theorem dX11_other_35 : decode cX11_other 35 = .ok (.getfield 68, 3) := by decide +kernel
theorem dX11_other_38 : decode cX11_other 38 = .ok (.iload_n 1, 1) := by decide +kernel
theorem dX11_other_39 : decode cX11_other 39 = .ok (.putfield 296, 3) := by decide +kernel
theorem dX11_other_42 : decode cX11_other 42 = .ok (.aload_n 0, 1) := by decide +kernel
theorem dX11_other_43 : decode cX11_other 43 = .ok (.getfield 77, 3) := by decide +kernel
theorem dX11_other_46 : decode cX11_other 46 = .ok (.iload_n 2, 1) := by decide +kernel
theorem dX11_other_47 : decode cX11_other 47 = .ok (.invokevirtual 213, 3) := by decide +kernel
theorem dX11_other_50 : decode cX11_other 50 = .ok (.iload_n 3, 1) := by decide +kernel
theorem dX11_other_51 : decode cX11_other 51 = .ok (.lookupswitch 52 #[(0, 25), (1, 33)], 25) := by decide +kernel
theorem dX11_other_76 : decode cX11_other 76 = .ok (.aload_n 0, 1) := by decide +kernel
theorem dX11_other_77 : decode cX11_other 77 = .ok (.getfield 77, 3) := by decide +kernel
theorem dX11_other_80 : decode cX11_other 80 = .ok (.invokevirtual 264, 3) := by decide +kernel
theorem dX11_other_83 : decode cX11_other 83 = .ok (.ireturn, 1) := by decide +kernel
theorem dX11_other_84 : decode cX11_other 84 = .ok (.aload_n 0, 1) := by decide +kernel
theorem dX11_other_85 : decode cX11_other 85 = .ok (.getfield 77, 3) := by decide +kernel
theorem dX11_other_88 : decode cX11_other 88 = .ok (.getfield 216, 3) := by decide +kernel
theorem dX11_other_91 : decode cX11_other 91 = .ok (.getfield 299, 3) := by decide +kernel
theorem dX11_other_94 : decode cX11_other 94 = .ok (.aload_n 0, 1) := by decide +kernel
theorem dX11_other_95 : decode cX11_other 95 = .ok (.getfield 61, 3) := by decide +kernel
theorem dX11_other_98 : decode cX11_other 98 = .ok (.getfield 299, 3) := by decide +kernel
theorem dX11_other_101 : decode cX11_other 101 = .ok (.isub, 1) := by decide +kernel
theorem dX11_other_102 : decode cX11_other 102 = .ok (.ireturn, 1) := by decide +kernel
theorem dX11_other_103 : decode cX11_other 103 = .ok (.aload_n 0, 1) := by decide +kernel
theorem dX11_other_104 : decode cX11_other 104 = .ok (.getfield 77, 3) := by decide +kernel
theorem dX11_other_107 : decode cX11_other 107 = .ok (.getfield 219, 3) := by decide +kernel
theorem dX11_other_110 : decode cX11_other 110 = .ok (.ireturn, 1) := by decide +kernel
theorem dX11_ask_0 : decode cX11_ask 0 = .ok (.aload_n 0, 1) := by decide +kernel
theorem dX11_ask_1 : decode cX11_ask 1 = .ok (.iload_n 1, 1) := by decide +kernel
theorem dX11_ask_2 : decode cX11_ask 2 = .ok (.invokevirtual 128, 3) := by decide +kernel
theorem dX11_ask_5 : decode cX11_ask 5 = .ok (.ifCond .eq 33, 3) := by decide +kernel
theorem dX11_ask_8 : decode cX11_ask 8 = .ok (.iload_n 2, 1) := by decide +kernel
theorem dX11_ask_9 : decode cX11_ask 9 = .ok (.ifCond .lt 29, 3) := by decide +kernel
theorem dX11_ask_12 : decode cX11_ask 12 = .ok (.iload_n 2, 1) := by decide +kernel
theorem dX11_ask_13 : decode cX11_ask 13 = .ok (.bipush 30, 2) := by decide +kernel
theorem dX11_ask_15 : decode cX11_ask 15 = .ok (.if_icmp .ge 23, 3) := by decide +kernel
theorem dX11_ask_18 : decode cX11_ask 18 = .ok (.iload_n 3, 1) := by decide +kernel
theorem dX11_ask_19 : decode cX11_ask 19 = .ok (.invokestatic 267, 3) := by decide +kernel
theorem dX11_ask_22 : decode cX11_ask 22 = .ok (.ifCond .ne 16, 3) := by decide +kernel
theorem dX11_ask_25 : decode cX11_ask 25 = .ok (.aload_n 0, 1) := by decide +kernel
theorem dX11_ask_26 : decode cX11_ask 26 = .ok (.getfield 97, 3) := by decide +kernel
theorem dX11_ask_29 : decode cX11_ask 29 = .ok (.iload_n 1, 1) := by decide +kernel
theorem dX11_ask_30 : decode cX11_ask 30 = .ok (.iload_n 2, 1) := by decide +kernel
theorem dX11_ask_31 : decode cX11_ask 31 = .ok (.iload_n 3, 1) := by decide +kernel
theorem dX11_ask_32 : decode cX11_ask 32 = .ok (.invokevirtual 287, 3) := by decide +kernel
theorem dX11_ask_35 : decode cX11_ask 35 = .ok (.ifCond .ne 5, 3) := by decide +kernel
theorem dX11_ask_38 : decode cX11_ask 38 = .ok (.iconst (-1), 1) := by decide +kernel
theorem dX11_ask_39 : decode cX11_ask 39 = .ok (.ireturn, 1) := by decide +kernel
theorem dX11_ask_40 : decode cX11_ask 40 = .ok (.aload_n 0, 1) := by decide +kernel
theorem dX11_ask_41 : decode cX11_ask 41 = .ok (.getfield 97, 3) := by decide +kernel
theorem dX11_ask_44 : decode cX11_ask 44 = .ok (.getfield 290, 3) := by decide +kernel
theorem dX11_ask_47 : decode cX11_ask 47 = .ok (.ireturn, 1) := by decide +kernel
theorem dX11_month_0 : decode cX11_month 0 = .ok (.aload_n 0, 1) := by decide +kernel
theorem dX11_month_1 : decode cX11_month 1 = .ok (.iload_n 1, 1) := by decide +kernel
theorem dX11_month_2 : decode cX11_month 2 = .ok (.invokevirtual 196, 3) := by decide +kernel
theorem dX11_month_5 : decode cX11_month 5 = .ok (.ifCond .ne 11, 3) := by decide +kernel
theorem dX11_month_8 : decode cX11_month 8 = .ok (.iload_n 2, 1) := by decide +kernel
theorem dX11_month_9 : decode cX11_month 9 = .ok (.iconst 1, 1) := by decide +kernel
theorem dX11_month_10 : decode cX11_month 10 = .ok (.invokestatic 132, 3) := by decide +kernel
theorem dX11_month_13 : decode cX11_month 13 = .ok (.ifCond .eq 5, 3) := by decide +kernel
theorem dX11_month_16 : decode cX11_month 16 = .ok (.iconst (-1), 1) := by decide +kernel
theorem dX11_month_17 : decode cX11_month 17 = .ok (.ireturn, 1) := by decide +kernel
theorem dX11_month_18 : decode cX11_month 18 = .ok (.aload_n 0, 1) := by decide +kernel
theorem dX11_month_19 : decode cX11_month 19 = .ok (.getfield 77, 3) := by decide +kernel
theorem dX11_month_22 : decode cX11_month 22 = .ok (.invokevirtual 212, 3) := by decide +kernel
theorem dX11_month_25 : decode cX11_month 25 = .ok (.iconst 0, 1) := by decide +kernel
theorem dX11_month_26 : decode cX11_month 26 = .ok (.istore_n 3, 1) := by decide +kernel
theorem dX11_month_27 : decode cX11_month 27 = .ok (.iload_n 3, 1) := by decide +kernel
theorem dX11_month_28 : decode cX11_month 28 = .ok (.iload_n 1, 1) := by decide +kernel
theorem dX11_month_29 : decode cX11_month 29 = .ok (.if_icmp .ge 40, 3) := by decide +kernel
theorem dX11_month_32 : decode cX11_month 32 = .ok (.aload_n 0, 1) := by decide +kernel
theorem dX11_month_33 : decode cX11_month 33 = .ok (.iload_n 3, 1) := by decide +kernel
theorem dX11_month_34 : decode cX11_month 34 = .ok (.invokevirtual 302, 3) := by decide +kernel
theorem dX11_month_37 : decode cX11_month 37 = .ok (.istore 4, 2) := by decide +kernel
theorem dX11_month_39 : decode cX11_month 39 = .ok (.iload 4, 2) := by decide +kernel
theorem dX11_month_41 : decode cX11_month 41 = .ok (.iconst (-1), 1) := by decide +kernel
theorem dX11_month_42 : decode cX11_month 42 = .ok (.if_icmp .eq 14, 3) := by decide +kernel
theorem dX11_month_45 : decode cX11_month 45 = .ok (.iload_n 2, 1) := by decide +kernel
theorem dX11_month_46 : decode cX11_month 46 = .ok (.ifCond .ne 7, 3) := by decide +kernel
theorem dX11_month_49 : decode cX11_month 49 = .ok (.iload_n 3, 1) := by decide +kernel
theorem dX11_month_50 : decode cX11_month 50 = .ok (.goto 5, 3) := by decide +kernel
theorem dX11_month_53 : decode cX11_month 53 = .ok (.iload 4, 2) := by decide +kernel
theorem dX11_month_55 : decode cX11_month 55 = .ok (.ireturn, 1) := by decide +kernel
theorem dX11_month_56 : decode cX11_month 56 = .ok (.aload_n 0, 1) := by decide +kernel
theorem dX11_month_57 : decode cX11_month 57 = .ok (.getfield 77, 3) := by decide +kernel
theorem dX11_month_60 : decode cX11_month 60 = .ok (.invokevirtual 305, 3) := by decide +kernel
theorem dX11_month_63 : decode cX11_month 63 = .ok (.iinc 3 1, 3) := by decide +kernel
theorem dX11_month_66 : decode cX11_month 66 = .ok (.goto (-39), 3) := by decide +kernel
theorem dX11_month_69 : decode cX11_month 69 = .ok (.iconst (-1), 1) := by decide +kernel
theorem dX11_month_70 : decode cX11_month 70 = .ok (.ireturn, 1) := by decide +kernel
theorem dX11_inTurn_0 : decode cX11_inTurn 0 = .ok (.aload_n 0, 1) := by decide +kernel
theorem dX11_inTurn_1 : decode cX11_inTurn 1 = .ok (.iload_n 1, 1) := by decide +kernel
theorem dX11_inTurn_2 : decode cX11_inTurn 2 = .ok (.invokevirtual 196, 3) := by decide +kernel
theorem dX11_inTurn_5 : decode cX11_inTurn 5 = .ok (.ifCond .ne 11, 3) := by decide +kernel
theorem dX11_inTurn_8 : decode cX11_inTurn 8 = .ok (.iload_n 2, 1) := by decide +kernel
theorem dX11_inTurn_9 : decode cX11_inTurn 9 = .ok (.iconst 2, 1) := by decide +kernel
theorem dX11_inTurn_10 : decode cX11_inTurn 10 = .ok (.invokestatic 132, 3) := by decide +kernel
theorem dX11_inTurn_13 : decode cX11_inTurn 13 = .ok (.ifCond .eq 6, 3) := by decide +kernel
theorem dX11_inTurn_16 : decode cX11_inTurn 16 = .ok (.ldc 238, 2) := by decide +kernel
theorem dX11_inTurn_18 : decode cX11_inTurn 18 = .ok (.ireturn, 1) := by decide +kernel
theorem dX11_inTurn_19 : decode cX11_inTurn 19 = .ok (.aload_n 0, 1) := by decide +kernel
theorem dX11_inTurn_20 : decode cX11_inTurn 20 = .ok (.getfield 77, 3) := by decide +kernel
theorem dX11_inTurn_23 : decode cX11_inTurn 23 = .ok (.invokevirtual 212, 3) := by decide +kernel
theorem dX11_inTurn_26 : decode cX11_inTurn 26 = .ok (.iconst 0, 1) := by decide +kernel
theorem dX11_inTurn_27 : decode cX11_inTurn 27 = .ok (.istore_n 3, 1) := by decide +kernel
theorem dX11_inTurn_28 : decode cX11_inTurn 28 = .ok (.iconst 0, 1) := by decide +kernel
theorem dX11_inTurn_29 : decode cX11_inTurn 29 = .ok (.istore 4, 2) := by decide +kernel
theorem dX11_inTurn_31 : decode cX11_inTurn 31 = .ok (.iload 4, 2) := by decide +kernel
theorem dX11_inTurn_33 : decode cX11_inTurn 33 = .ok (.iload_n 1, 1) := by decide +kernel
theorem dX11_inTurn_34 : decode cX11_inTurn 34 = .ok (.if_icmp .ge 50, 3) := by decide +kernel
theorem dX11_inTurn_37 : decode cX11_inTurn 37 = .ok (.aload_n 0, 1) := by decide +kernel
theorem dX11_inTurn_38 : decode cX11_inTurn 38 = .ok (.getfield 77, 3) := by decide +kernel
theorem dX11_inTurn_41 : decode cX11_inTurn 41 = .ok (.getfield 216, 3) := by decide +kernel
theorem dX11_inTurn_44 : decode cX11_inTurn 44 = .ok (.iconst 1, 1) := by decide +kernel
theorem dX11_inTurn_45 : decode cX11_inTurn 45 = .ok (.iload_n 3, 1) := by decide +kernel
theorem dX11_inTurn_46 : decode cX11_inTurn 46 = .ok (.ishl, 1) := by decide +kernel
theorem dX11_inTurn_47 : decode cX11_inTurn 47 = .ok (.putfield 275, 3) := by decide +kernel
theorem dX11_inTurn_50 : decode cX11_inTurn 50 = .ok (.aload_n 0, 1) := by decide +kernel
theorem dX11_inTurn_51 : decode cX11_inTurn 51 = .ok (.getfield 77, 3) := by decide +kernel
theorem dX11_inTurn_54 : decode cX11_inTurn 54 = .ok (.invokevirtual 305, 3) := by decide +kernel
theorem dX11_inTurn_57 : decode cX11_inTurn 57 = .ok (.iload_n 3, 1) := by decide +kernel
theorem dX11_inTurn_58 : decode cX11_inTurn 58 = .ok (.iconst 1, 1) := by decide +kernel
theorem dX11_inTurn_59 : decode cX11_inTurn 59 = .ok (.iadd, 1) := by decide +kernel
theorem dX11_inTurn_60 : decode cX11_inTurn 60 = .ok (.aload_n 0, 1) := by decide +kernel
theorem dX11_inTurn_61 : decode cX11_inTurn 61 = .ok (.getfield 46, 3) := by decide +kernel
theorem dX11_inTurn_64 : decode cX11_inTurn 64 = .ok (.getfield 249, 3) := by decide +kernel
theorem dX11_inTurn_67 : decode cX11_inTurn 67 = .ok (.if_icmp .ge 9, 3) := by decide +kernel
theorem dX11_inTurn_70 : decode cX11_inTurn 70 = .ok (.iload_n 3, 1) := by decide +kernel
theorem dX11_inTurn_71 : decode cX11_inTurn 71 = .ok (.iconst 1, 1) := by decide +kernel
theorem dX11_inTurn_72 : decode cX11_inTurn 72 = .ok (.iadd, 1) := by decide +kernel
theorem dX11_inTurn_73 : decode cX11_inTurn 73 = .ok (.goto 4, 3) := by decide +kernel
theorem dX11_inTurn_76 : decode cX11_inTurn 76 = .ok (.iconst 0, 1) := by decide +kernel
theorem dX11_inTurn_77 : decode cX11_inTurn 77 = .ok (.istore_n 3, 1) := by decide +kernel
theorem dX11_inTurn_78 : decode cX11_inTurn 78 = .ok (.iinc 4 1, 3) := by decide +kernel
theorem dX11_inTurn_81 : decode cX11_inTurn 81 = .ok (.goto (-50), 3) := by decide +kernel
theorem dX11_inTurn_84 : decode cX11_inTurn 84 = .ok (.iload_n 2, 1) := by decide +kernel
theorem dX11_inTurn_85 : decode cX11_inTurn 85 = .ok (.lookupswitch 46 #[(0, 27), (1, 38)], 27) := by decide +kernel
theorem dX11_inTurn_112 : decode cX11_inTurn 112 = .ok (.aload_n 0, 1) := by decide +kernel
theorem dX11_inTurn_113 : decode cX11_inTurn 113 = .ok (.getfield 77, 3) := by decide +kernel
theorem dX11_inTurn_116 : decode cX11_inTurn 116 = .ok (.getfield 216, 3) := by decide +kernel
theorem dX11_inTurn_119 : decode cX11_inTurn 119 = .ok (.getfield 209, 3) := by decide +kernel
theorem dX11_inTurn_122 : decode cX11_inTurn 122 = .ok (.ireturn, 1) := by decide +kernel
theorem dX11_inTurn_123 : decode cX11_inTurn 123 = .ok (.aload_n 0, 1) := by decide +kernel
theorem dX11_inTurn_124 : decode cX11_inTurn 124 = .ok (.getfield 77, 3) := by decide +kernel
theorem dX11_inTurn_127 : decode cX11_inTurn 127 = .ok (.invokevirtual 264, 3) := by decide +kernel
theorem dX11_inTurn_130 : decode cX11_inTurn 130 = .ok (.ireturn, 1) := by decide +kernel
theorem dX11_inTurn_131 : decode cX11_inTurn 131 = .ok (.aload_n 0, 1) := by decide +kernel
theorem dX11_inTurn_132 : decode cX11_inTurn 132 = .ok (.getfield 77, 3) := by decide +kernel
theorem dX11_inTurn_135 : decode cX11_inTurn 135 = .ok (.invokevirtual 308, 3) := by decide +kernel
theorem dX11_inTurn_138 : decode cX11_inTurn 138 = .ok (.ireturn, 1) := by decide +kernel
theorem dX11_bribe_0 : decode cX11_bribe 0 = .ok (.aload_n 0, 1) := by decide +kernel
theorem dX11_bribe_1 : decode cX11_bribe 1 = .ok (.iload_n 1, 1) := by decide +kernel
theorem dX11_bribe_2 : decode cX11_bribe 2 = .ok (.invokevirtual 196, 3) := by decide +kernel
theorem dX11_bribe_5 : decode cX11_bribe 5 = .ok (.ifCond .ne 11, 3) := by decide +kernel
theorem dX11_bribe_8 : decode cX11_bribe 8 = .ok (.iload_n 2, 1) := by decide +kernel
theorem dX11_bribe_9 : decode cX11_bribe 9 = .ok (.iconst 1, 1) := by decide +kernel
theorem dX11_bribe_10 : decode cX11_bribe 10 = .ok (.invokestatic 132, 3) := by decide +kernel
theorem dX11_bribe_13 : decode cX11_bribe 13 = .ok (.ifCond .eq 6, 3) := by decide +kernel
theorem dX11_bribe_16 : decode cX11_bribe 16 = .ok (.ldc 238, 2) := by decide +kernel
theorem dX11_bribe_18 : decode cX11_bribe 18 = .ok (.ireturn, 1) := by decide +kernel
theorem dX11_bribe_19 : decode cX11_bribe 19 = .ok (.iconst (-1), 1) := by decide +kernel
theorem dX11_bribe_20 : decode cX11_bribe 20 = .ok (.istore_n 3, 1) := by decide +kernel
theorem dX11_bribe_21 : decode cX11_bribe 21 = .ok (.ldc 238, 2) := by decide +kernel
theorem dX11_bribe_23 : decode cX11_bribe 23 = .ok (.istore 4, 2) := by decide +kernel
theorem dX11_bribe_25 : decode cX11_bribe 25 = .ok (.iconst 0, 1) := by decide +kernel
theorem dX11_bribe_26 : decode cX11_bribe 26 = .ok (.istore 5, 2) := by decide +kernel
theorem dX11_bribe_28 : decode cX11_bribe 28 = .ok (.iload 5, 2) := by decide +kernel
theorem dX11_bribe_30 : decode cX11_bribe 30 = .ok (.aload_n 0, 1) := by decide +kernel
theorem dX11_bribe_31 : decode cX11_bribe 31 = .ok (.getfield 46, 3) := by decide +kernel
theorem dX11_bribe_34 : decode cX11_bribe 34 = .ok (.getfield 249, 3) := by decide +kernel
theorem dX11_bribe_37 : decode cX11_bribe 37 = .ok (.if_icmp .ge 104, 3) := by decide +kernel
theorem dX11_bribe_40 : decode cX11_bribe 40 = .ok (.aload_n 0, 1) := by decide +kernel
theorem dX11_bribe_41 : decode cX11_bribe 41 = .ok (.getfield 61, 3) := by decide +kernel
theorem dX11_bribe_44 : decode cX11_bribe 44 = .ok (.iload 5, 2) := by decide +kernel
theorem dX11_bribe_46 : decode cX11_bribe 46 = .ok (.invokevirtual 161, 3) := by decide +kernel
theorem dX11_bribe_49 : decode cX11_bribe 49 = .ok (.ifCond .eq 6, 3) := by decide +kernel
theorem dX11_bribe_52 : decode cX11_bribe 52 = .ok (.goto 83, 3) := by decide +kernel
theorem dX11_bribe_55 : decode cX11_bribe 55 = .ok (.aload_n 0, 1) := by decide +kernel
theorem dX11_bribe_56 : decode cX11_bribe 56 = .ok (.getfield 77, 3) := by decide +kernel
theorem dX11_bribe_59 : decode cX11_bribe 59 = .ok (.iload 5, 2) := by decide +kernel
theorem dX11_bribe_61 : decode cX11_bribe 61 = .ok (.iconst 1, 1) := by decide +kernel
theorem dX11_bribe_62 : decode cX11_bribe 62 = .ok (.invokevirtual 258, 3) := by decide +kernel
theorem dX11_bribe_65 : decode cX11_bribe 65 = .ok (.aload_n 0, 1) := by decide +kernel
theorem dX11_bribe_66 : decode cX11_bribe 66 = .ok (.getfield 77, 3) := by decide +kernel
theorem dX11_bribe_69 : decode cX11_bribe 69 = .ok (.iload_n 1, 1) := by decide +kernel
theorem dX11_bribe_70 : decode cX11_bribe 70 = .ok (.invokevirtual 213, 3) := by decide +kernel
theorem dX11_bribe_73 : decode cX11_bribe 73 = .ok (.aload_n 0, 1) := by decide +kernel
theorem dX11_bribe_74 : decode cX11_bribe 74 = .ok (.getfield 77, 3) := by decide +kernel
theorem dX11_bribe_77 : decode cX11_bribe 77 = .ok (.iload 5, 2) := by decide +kernel
theorem dX11_bribe_79 : decode cX11_bribe 79 = .ok (.invokevirtual 261, 3) := by decide +kernel
theorem dX11_bribe_82 : decode cX11_bribe 82 = .ok (.istore 6, 2) := by decide +kernel
theorem dX11_bribe_84 : decode cX11_bribe 84 = .ok (.aload_n 0, 1) := by decide +kernel
theorem dX11_bribe_85 : decode cX11_bribe 85 = .ok (.getfield 77, 3) := by decide +kernel
theorem dX11_bribe_88 : decode cX11_bribe 88 = .ok (.iload 5, 2) := by decide +kernel
theorem dX11_bribe_90 : decode cX11_bribe 90 = .ok (.iconst 0, 1) := by decide +kernel
theorem dX11_bribe_91 : decode cX11_bribe 91 = .ok (.invokevirtual 258, 3) := by decide +kernel
theorem dX11_bribe_94 : decode cX11_bribe 94 = .ok (.aload_n 0, 1) := by decide +kernel
theorem dX11_bribe_95 : decode cX11_bribe 95 = .ok (.getfield 77, 3) := by decide +kernel
theorem dX11_bribe_98 : decode cX11_bribe 98 = .ok (.iload_n 1, 1) := by decide +kernel
theorem dX11_bribe_99 : decode cX11_bribe 99 = .ok (.invokevirtual 213, 3) := by decide +kernel
theorem dX11_bribe_102 : decode cX11_bribe 102 = .ok (.aload_n 0, 1) := by decide +kernel
theorem dX11_bribe_103 : decode cX11_bribe 103 = .ok (.getfield 77, 3) := by decide +kernel
theorem dX11_bribe_106 : decode cX11_bribe 106 = .ok (.iload 5, 2) := by decide +kernel
theorem dX11_bribe_108 : decode cX11_bribe 108 = .ok (.invokevirtual 261, 3) := by decide +kernel
theorem dX11_bribe_111 : decode cX11_bribe 111 = .ok (.iload 6, 2) := by decide +kernel
theorem dX11_bribe_113 : decode cX11_bribe 113 = .ok (.isub, 1) := by decide +kernel
theorem dX11_bribe_114 : decode cX11_bribe 114 = .ok (.istore 7, 2) := by decide +kernel
theorem dX11_bribe_116 : decode cX11_bribe 116 = .ok (.iload_n 3, 1) := by decide +kernel
theorem dX11_bribe_117 : decode cX11_bribe 117 = .ok (.iconst (-1), 1) := by decide +kernel
theorem dX11_bribe_118 : decode cX11_bribe 118 = .ok (.if_icmp .eq 10, 3) := by decide +kernel
theorem dX11_bribe_121 : decode cX11_bribe 121 = .ok (.iload 7, 2) := by decide +kernel
theorem dX11_bribe_123 : decode cX11_bribe 123 = .ok (.iload 4, 2) := by decide +kernel
theorem dX11_bribe_125 : decode cX11_bribe 125 = .ok (.if_icmp .ge 10, 3) := by decide +kernel
theorem dX11_bribe_128 : decode cX11_bribe 128 = .ok (.iload 5, 2) := by decide +kernel
theorem dX11_bribe_130 : decode cX11_bribe 130 = .ok (.istore_n 3, 1) := by decide +kernel
theorem dX11_bribe_131 : decode cX11_bribe 131 = .ok (.iload 7, 2) := by decide +kernel
theorem dX11_bribe_133 : decode cX11_bribe 133 = .ok (.istore 4, 2) := by decide +kernel
theorem dX11_bribe_135 : decode cX11_bribe 135 = .ok (.iinc 5 1, 3) := by decide +kernel
theorem dX11_bribe_138 : decode cX11_bribe 138 = .ok (.goto (-110), 3) := by decide +kernel
theorem dX11_bribe_141 : decode cX11_bribe 141 = .ok (.iload_n 2, 1) := by decide +kernel
theorem dX11_bribe_142 : decode cX11_bribe 142 = .ok (.ifCond .ne 7, 3) := by decide +kernel
theorem dX11_bribe_145 : decode cX11_bribe 145 = .ok (.iload_n 3, 1) := by decide +kernel
theorem dX11_bribe_146 : decode cX11_bribe 146 = .ok (.goto 5, 3) := by decide +kernel
theorem dX11_bribe_149 : decode cX11_bribe 149 = .ok (.iload 4, 2) := by decide +kernel
theorem dX11_bribe_151 : decode cX11_bribe 151 = .ok (.ireturn, 1) := by decide +kernel
theorem dX11_spread_0 : decode cX11_spread 0 = .ok (.aload_n 0, 1) := by decide +kernel
theorem dX11_spread_1 : decode cX11_spread 1 = .ok (.iload_n 1, 1) := by decide +kernel
theorem dX11_spread_2 : decode cX11_spread 2 = .ok (.invokevirtual 196, 3) := by decide +kernel
theorem dX11_spread_5 : decode cX11_spread 5 = .ok (.ifCond .ne 11, 3) := by decide +kernel
theorem dX11_spread_8 : decode cX11_spread 8 = .ok (.iload_n 2, 1) := by decide +kernel
theorem dX11_spread_9 : decode cX11_spread 9 = .ok (.iconst 1, 1) := by decide +kernel
theorem dX11_spread_10 : decode cX11_spread 10 = .ok (.invokestatic 132, 3) := by decide +kernel
theorem dX11_spread_13 : decode cX11_spread 13 = .ok (.ifCond .eq 5, 3) := by decide +kernel
theorem dX11_spread_16 : decode cX11_spread 16 = .ok (.iconst (-1), 1) := by decide +kernel
theorem dX11_spread_17 : decode cX11_spread 17 = .ok (.ireturn, 1) := by decide +kernel
theorem dX11_spread_18 : decode cX11_spread 18 = .ok (.aload_n 0, 1) := by decide +kernel
theorem dX11_spread_19 : decode cX11_spread 19 = .ok (.getfield 77, 3) := by decide +kernel
theorem dX11_spread_22 : decode cX11_spread 22 = .ok (.invokevirtual 212, 3) := by decide +kernel
theorem dX11_spread_25 : decode cX11_spread 25 = .ok (.aload_n 0, 1) := by decide +kernel
theorem dX11_spread_26 : decode cX11_spread 26 = .ok (.getfield 77, 3) := by decide +kernel
theorem dX11_spread_29 : decode cX11_spread 29 = .ok (.iload_n 1, 1) := by decide +kernel
theorem dX11_spread_30 : decode cX11_spread 30 = .ok (.invokevirtual 213, 3) := by decide +kernel
theorem dX11_spread_33 : decode cX11_spread 33 = .ok (.iload_n 2, 1) := by decide +kernel
theorem dX11_spread_34 : decode cX11_spread 34 = .ok (.ifCond .ne 21, 3) := by decide +kernel
theorem dX11_spread_37 : decode cX11_spread 37 = .ok (.aload_n 0, 1) := by decide +kernel
theorem dX11_spread_38 : decode cX11_spread 38 = .ok (.getfield 77, 3) := by decide +kernel
theorem dX11_spread_41 : decode cX11_spread 41 = .ok (.getfield 311, 3) := by decide +kernel
theorem dX11_spread_44 : decode cX11_spread 44 = .ok (.aload_n 0, 1) := by decide +kernel
theorem dX11_spread_45 : decode cX11_spread 45 = .ok (.getfield 77, 3) := by decide +kernel
theorem dX11_spread_48 : decode cX11_spread 48 = .ok (.getfield 314, 3) := by decide +kernel
theorem dX11_spread_51 : decode cX11_spread 51 = .ok (.isub, 1) := by decide +kernel
theorem dX11_spread_52 : decode cX11_spread 52 = .ok (.goto 10, 3) := by decide +kernel
theorem dX11_spread_55 : decode cX11_spread 55 = .ok (.aload_n 0, 1) := by decide +kernel
theorem dX11_spread_56 : decode cX11_spread 56 = .ok (.getfield 77, 3) := by decide +kernel
theorem dX11_spread_59 : decode cX11_spread 59 = .ok (.getfield 317, 3) := by decide +kernel
theorem dX11_spread_62 : decode cX11_spread 62 = .ok (.ireturn, 1) := by decide +kernel
theorem dX11_served_0 : decode cX11_served 0 = .ok (.aload_n 0, 1) := by decide +kernel
theorem dX11_served_1 : decode cX11_served 1 = .ok (.iload_n 1, 1) := by decide +kernel
theorem dX11_served_2 : decode cX11_served 2 = .ok (.invokevirtual 170, 3) := by decide +kernel
theorem dX11_served_5 : decode cX11_served 5 = .ok (.ifCond .eq 19, 3) := by decide +kernel
theorem dX11_served_8 : decode cX11_served 8 = .ok (.aload_n 0, 1) := by decide +kernel
theorem dX11_served_9 : decode cX11_served 9 = .ok (.iload_n 2, 1) := by decide +kernel
theorem dX11_served_10 : decode cX11_served 10 = .ok (.invokevirtual 196, 3) := by decide +kernel
theorem dX11_served_13 : decode cX11_served 13 = .ok (.ifCond .ne 11, 3) := by decide +kernel
theorem dX11_served_16 : decode cX11_served 16 = .ok (.iload_n 3, 1) := by decide +kernel
theorem dX11_served_17 : decode cX11_served 17 = .ok (.iconst 1, 1) := by decide +kernel
theorem dX11_served_18 : decode cX11_served 18 = .ok (.invokestatic 132, 3) := by decide +kernel
theorem dX11_served_21 : decode cX11_served 21 = .ok (.ifCond .eq 5, 3) := by decide +kernel
theorem dX11_served_24 : decode cX11_served 24 = .ok (.iconst (-1), 1) := by decide +kernel
theorem dX11_served_25 : decode cX11_served 25 = .ok (.ireturn, 1) := by decide +kernel
theorem dX11_served_26 : decode cX11_served 26 = .ok (.aload_n 0, 1) := by decide +kernel
theorem dX11_served_27 : decode cX11_served 27 = .ok (.getfield 77, 3) := by decide +kernel
theorem dX11_served_30 : decode cX11_served 30 = .ok (.invokevirtual 212, 3) := by decide +kernel
theorem dX11_served_33 : decode cX11_served 33 = .ok (.aload_n 0, 1) := by decide +kernel
theorem dX11_served_34 : decode cX11_served 34 = .ok (.getfield 77, 3) := by decide +kernel
theorem dX11_served_37 : decode cX11_served 37 = .ok (.iload_n 2, 1) := by decide +kernel
theorem dX11_served_38 : decode cX11_served 38 = .ok (.invokevirtual 213, 3) := by decide +kernel
theorem dX11_served_41 : decode cX11_served 41 = .ok (.iload_n 3, 1) := by decide +kernel
theorem dX11_served_42 : decode cX11_served 42 = .ok (.ifCond .ne 28, 3) := by decide +kernel
theorem dX11_served_45 : decode cX11_served 45 = .ok (.aload_n 0, 1) := by decide +kernel
theorem dX11_served_46 : decode cX11_served 46 = .ok (.getfield 77, 3) := by decide +kernel
theorem dX11_served_49 : decode cX11_served 49 = .ok (.getfield 216, 3) := by decide +kernel
theorem dX11_served_52 : decode cX11_served 52 = .ok (.getfield 320, 3) := by decide +kernel
theorem dX11_served_55 : decode cX11_served 55 = .ok (.iload_n 1, 1) := by decide +kernel
theorem dX11_served_56 : decode cX11_served 56 = .ok (.iaload, 1) := by decide +kernel
theorem dX11_served_57 : decode cX11_served 57 = .ok (.aload_n 0, 1) := by decide +kernel
theorem dX11_served_58 : decode cX11_served 58 = .ok (.getfield 61, 3) := by decide +kernel
theorem dX11_served_61 : decode cX11_served 61 = .ok (.getfield 320, 3) := by decide +kernel
theorem dX11_served_64 : decode cX11_served 64 = .ok (.iload_n 1, 1) := by decide +kernel
theorem dX11_served_65 : decode cX11_served 65 = .ok (.iaload, 1) := by decide +kernel
theorem dX11_served_66 : decode cX11_served 66 = .ok (.isub, 1) := by decide +kernel
theorem dX11_served_67 : decode cX11_served 67 = .ok (.goto 25, 3) := by decide +kernel
theorem dX11_served_70 : decode cX11_served 70 = .ok (.aload_n 0, 1) := by decide +kernel
theorem dX11_served_71 : decode cX11_served 71 = .ok (.getfield 77, 3) := by decide +kernel
theorem dX11_served_74 : decode cX11_served 74 = .ok (.getfield 216, 3) := by decide +kernel
theorem dX11_served_77 : decode cX11_served 77 = .ok (.getfield 323, 3) := by decide +kernel
theorem dX11_served_80 : decode cX11_served 80 = .ok (.iload_n 1, 1) := by decide +kernel
theorem dX11_served_81 : decode cX11_served 81 = .ok (.iaload, 1) := by decide +kernel
theorem dX11_served_82 : decode cX11_served 82 = .ok (.aload_n 0, 1) := by decide +kernel
theorem dX11_served_83 : decode cX11_served 83 = .ok (.getfield 61, 3) := by decide +kernel
theorem dX11_served_86 : decode cX11_served 86 = .ok (.getfield 323, 3) := by decide +kernel
theorem dX11_served_89 : decode cX11_served 89 = .ok (.iload_n 1, 1) := by decide +kernel
theorem dX11_served_90 : decode cX11_served 90 = .ok (.iaload, 1) := by decide +kernel
theorem dX11_served_91 : decode cX11_served 91 = .ok (.isub, 1) := by decide +kernel
theorem dX11_served_92 : decode cX11_served 92 = .ok (.ireturn, 1) := by decide +kernel
theorem dX11_odds_0 : decode cX11_odds 0 = .ok (.aload_n 0, 1) := by decide +kernel
theorem dX11_odds_1 : decode cX11_odds 1 = .ok (.invokevirtual 225, 3) := by decide +kernel
theorem dX11_odds_4 : decode cX11_odds 4 = .ok (.ifCond .ne 21, 3) := by decide +kernel
theorem dX11_odds_7 : decode cX11_odds 7 = .ok (.iload_n 1, 1) := by decide +kernel
theorem dX11_odds_8 : decode cX11_odds 8 = .ok (.iconst 1, 1) := by decide +kernel
theorem dX11_odds_9 : decode cX11_odds 9 = .ok (.if_icmp .lt 16, 3) := by decide +kernel
theorem dX11_odds_12 : decode cX11_odds 12 = .ok (.iload_n 1, 1) := by decide +kernel
theorem dX11_odds_13 : decode cX11_odds 13 = .ok (.bipush 10, 2) := by decide +kernel
theorem dX11_odds_15 : decode cX11_odds 15 = .ok (.if_icmp .gt 10, 3) := by decide +kernel
theorem dX11_odds_18 : decode cX11_odds 18 = .ok (.iload_n 2, 1) := by decide +kernel
theorem dX11_odds_19 : decode cX11_odds 19 = .ok (.invokestatic 267, 3) := by decide +kernel
theorem dX11_odds_22 : decode cX11_odds 22 = .ok (.ifCond .eq 5, 3) := by decide +kernel
theorem dX11_odds_25 : decode cX11_odds 25 = .ok (.iconst (-1), 1) := by decide +kernel
theorem dX11_odds_26 : decode cX11_odds 26 = .ok (.ireturn, 1) := by decide +kernel
theorem dX11_odds_27 : decode cX11_odds 27 = .ok (.aload_n 0, 1) := by decide +kernel
theorem dX11_odds_28 : decode cX11_odds 28 = .ok (.getfield 84, 3) := by decide +kernel
theorem dX11_odds_31 : decode cX11_odds 31 = .ok (.iload_n 1, 1) := by decide +kernel
theorem dX11_odds_32 : decode cX11_odds 32 = .ok (.iload_n 2, 1) := by decide +kernel
theorem dX11_odds_33 : decode cX11_odds 33 = .ok (.aload_n 0, 1) := by decide +kernel
theorem dX11_odds_34 : decode cX11_odds 34 = .ok (.getfield 189, 3) := by decide +kernel
theorem dX11_odds_37 : decode cX11_odds 37 = .ok (.invokevirtual 326, 3) := by decide +kernel
theorem dX11_odds_40 : decode cX11_odds 40 = .ok (.ireturn, 1) := by decide +kernel
theorem dX11_lone_0 : decode cX11_lone 0 = .ok (.aload_n 0, 1) := by decide +kernel
theorem dX11_lone_1 : decode cX11_lone 1 = .ok (.iload_n 1, 1) := by decide +kernel
theorem dX11_lone_2 : decode cX11_lone 2 = .ok (.invokevirtual 128, 3) := by decide +kernel
theorem dX11_lone_5 : decode cX11_lone 5 = .ok (.ifCond .eq 11, 3) := by decide +kernel
theorem dX11_lone_8 : decode cX11_lone 8 = .ok (.iload_n 2, 1) := by decide +kernel
theorem dX11_lone_9 : decode cX11_lone 9 = .ok (.iconst 1, 1) := by decide +kernel
theorem dX11_lone_10 : decode cX11_lone 10 = .ok (.invokestatic 132, 3) := by decide +kernel
theorem dX11_lone_13 : decode cX11_lone 13 = .ok (.ifCond .eq 5, 3) := by decide +kernel
theorem dX11_lone_16 : decode cX11_lone 16 = .ok (.iconst (-1), 1) := by decide +kernel
theorem dX11_lone_17 : decode cX11_lone 17 = .ok (.ireturn, 1) := by decide +kernel
theorem dX11_lone_18 : decode cX11_lone 18 = .ok (.iconst (-1), 1) := by decide +kernel
theorem dX11_lone_19 : decode cX11_lone 19 = .ok (.istore_n 3, 1) := by decide +kernel
theorem dX11_lone_20 : decode cX11_lone 20 = .ok (.iconst (-1), 1) := by decide +kernel
theorem dX11_lone_21 : decode cX11_lone 21 = .ok (.istore 4, 2) := by decide +kernel
theorem dX11_lone_23 : decode cX11_lone 23 = .ok (.iconst 0, 1) := by decide +kernel
theorem dX11_lone_24 : decode cX11_lone 24 = .ok (.istore 5, 2) := by decide +kernel
theorem dX11_lone_26 : decode cX11_lone 26 = .ok (.iload 5, 2) := by decide +kernel
theorem dX11_lone_28 : decode cX11_lone 28 = .ok (.aload_n 0, 1) := by decide +kernel
theorem dX11_lone_29 : decode cX11_lone 29 = .ok (.getfield 61, 3) := by decide +kernel
theorem dX11_lone_32 : decode cX11_lone 32 = .ok (.getfield 209, 3) := by decide +kernel
theorem dX11_lone_35 : decode cX11_lone 35 = .ok (.if_icmp .gt 99, 3) := by decide +kernel
theorem dX11_lone_38 : decode cX11_lone 38 = .ok (.aload_n 0, 1) := by decide +kernel
theorem dX11_lone_39 : decode cX11_lone 39 = .ok (.getfield 77, 3) := by decide +kernel
theorem dX11_lone_42 : decode cX11_lone 42 = .ok (.invokevirtual 212, 3) := by decide +kernel
theorem dX11_lone_45 : decode cX11_lone 45 = .ok (.aload_n 0, 1) := by decide +kernel
theorem dX11_lone_46 : decode cX11_lone 46 = .ok (.getfield 77, 3) := by decide +kernel
theorem dX11_lone_49 : decode cX11_lone 49 = .ok (.getfield 216, 3) := by decide +kernel
theorem dX11_lone_52 : decode cX11_lone 52 = .ok (.iconst 1, 1) := by decide +kernel
theorem dX11_lone_53 : decode cX11_lone 53 = .ok (.aload_n 0, 1) := by decide +kernel
theorem dX11_lone_54 : decode cX11_lone 54 = .ok (.getfield 46, 3) := by decide +kernel
theorem dX11_lone_57 : decode cX11_lone 57 = .ok (.getfield 249, 3) := by decide +kernel
theorem dX11_lone_60 : decode cX11_lone 60 = .ok (.ishl, 1) := by decide +kernel
theorem dX11_lone_61 : decode cX11_lone 61 = .ok (.iconst 1, 1) := by decide +kernel
theorem dX11_lone_62 : decode cX11_lone 62 = .ok (.isub, 1) := by decide +kernel
theorem dX11_lone_63 : decode cX11_lone 63 = .ok (.putfield 275, 3) := by decide +kernel
theorem dX11_lone_66 : decode cX11_lone 66 = .ok (.aload_n 0, 1) := by decide +kernel
theorem dX11_lone_67 : decode cX11_lone 67 = .ok (.getfield 77, 3) := by decide +kernel
theorem dX11_lone_70 : decode cX11_lone 70 = .ok (.getfield 216, 3) := by decide +kernel
theorem dX11_lone_73 : decode cX11_lone 73 = .ok (.iload_n 1, 1) := by decide +kernel
theorem dX11_lone_74 : decode cX11_lone 74 = .ok (.iconst 0, 1) := by decide +kernel
theorem dX11_lone_75 : decode cX11_lone 75 = .ok (.invokevirtual 185, 3) := by decide +kernel
theorem dX11_lone_78 : decode cX11_lone 78 = .ok (.aload_n 0, 1) := by decide +kernel
theorem dX11_lone_79 : decode cX11_lone 79 = .ok (.getfield 68, 3) := by decide +kernel
theorem dX11_lone_82 : decode cX11_lone 82 = .ok (.getfield 330, 3) := by decide +kernel
theorem dX11_lone_85 : decode cX11_lone 85 = .ok (.iload_n 1, 1) := by decide +kernel
theorem dX11_lone_86 : decode cX11_lone 86 = .ok (.iload 5, 2) := by decide +kernel
theorem dX11_lone_88 : decode cX11_lone 88 = .ok (.iastore, 1) := by decide +kernel
theorem dX11_lone_89 : decode cX11_lone 89 = .ok (.aload_n 0, 1) := by decide +kernel
theorem dX11_lone_90 : decode cX11_lone 90 = .ok (.getfield 77, 3) := by decide +kernel
theorem dX11_lone_93 : decode cX11_lone 93 = .ok (.iconst 1, 1) := by decide +kernel
theorem dX11_lone_94 : decode cX11_lone 94 = .ok (.invokevirtual 213, 3) := by decide +kernel
theorem dX11_lone_97 : decode cX11_lone 97 = .ok (.aload_n 0, 1) := by decide +kernel
theorem dX11_lone_98 : decode cX11_lone 98 = .ok (.getfield 77, 3) := by decide +kernel
theorem dX11_lone_101 : decode cX11_lone 101 = .ok (.getfield 216, 3) := by decide +kernel
theorem dX11_lone_104 : decode cX11_lone 104 = .ok (.getfield 167, 3) := by decide +kernel
theorem dX11_lone_107 : decode cX11_lone 107 = .ok (.iload_n 1, 1) := by decide +kernel
theorem dX11_lone_108 : decode cX11_lone 108 = .ok (.iaload, 1) := by decide +kernel
theorem dX11_lone_109 : decode cX11_lone 109 = .ok (.iload 5, 2) := by decide +kernel
theorem dX11_lone_111 : decode cX11_lone 111 = .ok (.imul, 1) := by decide +kernel
theorem dX11_lone_112 : decode cX11_lone 112 = .ok (.istore 6, 2) := by decide +kernel
theorem dX11_lone_114 : decode cX11_lone 114 = .ok (.iload 6, 2) := by decide +kernel
theorem dX11_lone_116 : decode cX11_lone 116 = .ok (.iload 4, 2) := by decide +kernel
theorem dX11_lone_118 : decode cX11_lone 118 = .ok (.if_icmp .le 10, 3) := by decide +kernel
theorem dX11_lone_121 : decode cX11_lone 121 = .ok (.iload 5, 2) := by decide +kernel
theorem dX11_lone_123 : decode cX11_lone 123 = .ok (.istore_n 3, 1) := by decide +kernel
theorem dX11_lone_124 : decode cX11_lone 124 = .ok (.iload 6, 2) := by decide +kernel
theorem dX11_lone_126 : decode cX11_lone 126 = .ok (.istore 4, 2) := by decide +kernel
theorem dX11_lone_128 : decode cX11_lone 128 = .ok (.iinc 5 1, 3) := by decide +kernel
theorem dX11_lone_131 : decode cX11_lone 131 = .ok (.goto (-105), 3) := by decide +kernel
theorem dX11_lone_134 : decode cX11_lone 134 = .ok (.iload_n 2, 1) := by decide +kernel
theorem dX11_lone_135 : decode cX11_lone 135 = .ok (.ifCond .ne 7, 3) := by decide +kernel
theorem dX11_lone_138 : decode cX11_lone 138 = .ok (.iload_n 3, 1) := by decide +kernel
theorem dX11_lone_139 : decode cX11_lone 139 = .ok (.goto 5, 3) := by decide +kernel
theorem dX11_lone_142 : decode cX11_lone 142 = .ok (.iload 4, 2) := by decide +kernel
theorem dX11_lone_144 : decode cX11_lone 144 = .ok (.ireturn, 1) := by decide +kernel
theorem dX11_glut_0 : decode cX11_glut 0 = .ok (.aload_n 0, 1) := by decide +kernel
theorem dX11_glut_1 : decode cX11_glut 1 = .ok (.iload_n 1, 1) := by decide +kernel
theorem dX11_glut_2 : decode cX11_glut 2 = .ok (.invokevirtual 196, 3) := by decide +kernel
theorem dX11_glut_5 : decode cX11_glut 5 = .ok (.ifCond .ne 11, 3) := by decide +kernel
theorem dX11_glut_8 : decode cX11_glut 8 = .ok (.iload_n 2, 1) := by decide +kernel
theorem dX11_glut_9 : decode cX11_glut 9 = .ok (.iconst 1, 1) := by decide +kernel
theorem dX11_glut_10 : decode cX11_glut 10 = .ok (.invokestatic 132, 3) := by decide +kernel
theorem dX11_glut_13 : decode cX11_glut 13 = .ok (.ifCond .eq 5, 3) := by decide +kernel
theorem dX11_glut_16 : decode cX11_glut 16 = .ok (.iconst (-1), 1) := by decide +kernel
theorem dX11_glut_17 : decode cX11_glut 17 = .ok (.ireturn, 1) := by decide +kernel
theorem dX11_glut_18 : decode cX11_glut 18 = .ok (.aload_n 0, 1) := by decide +kernel
theorem dX11_glut_19 : decode cX11_glut 19 = .ok (.getfield 77, 3) := by decide +kernel
theorem dX11_glut_22 : decode cX11_glut 22 = .ok (.invokevirtual 212, 3) := by decide +kernel
theorem dX11_glut_25 : decode cX11_glut 25 = .ok (.aload_n 0, 1) := by decide +kernel
theorem dX11_glut_26 : decode cX11_glut 26 = .ok (.getfield 77, 3) := by decide +kernel
theorem dX11_glut_29 : decode cX11_glut 29 = .ok (.iload_n 1, 1) := by decide +kernel
theorem dX11_glut_30 : decode cX11_glut 30 = .ok (.invokevirtual 213, 3) := by decide +kernel
theorem dX11_glut_33 : decode cX11_glut 33 = .ok (.iload_n 2, 1) := by decide +kernel
theorem dX11_glut_34 : decode cX11_glut 34 = .ok (.ifCond .ne 13, 3) := by decide +kernel
theorem dX11_glut_37 : decode cX11_glut 37 = .ok (.aload_n 0, 1) := by decide +kernel
theorem dX11_glut_38 : decode cX11_glut 38 = .ok (.getfield 77, 3) := by decide +kernel
theorem dX11_glut_41 : decode cX11_glut 41 = .ok (.getfield 333, 3) := by decide +kernel
theorem dX11_glut_44 : decode cX11_glut 44 = .ok (.goto 10, 3) := by decide +kernel
theorem dX11_glut_47 : decode cX11_glut 47 = .ok (.aload_n 0, 1) := by decide +kernel
theorem dX11_glut_48 : decode cX11_glut 48 = .ok (.getfield 77, 3) := by decide +kernel
theorem dX11_glut_51 : decode cX11_glut 51 = .ok (.invokevirtual 336, 3) := by decide +kernel
theorem dX11_glut_54 : decode cX11_glut 54 = .ok (.ireturn, 1) := by decide +kernel
theorem dX11_image_0 : decode cX11_image 0 = .ok (.aload_n 0, 1) := by decide +kernel
theorem dX11_image_1 : decode cX11_image 1 = .ok (.invokevirtual 225, 3) := by decide +kernel
theorem dX11_image_4 : decode cX11_image 4 = .ok (.ifCond .eq 5, 3) := by decide +kernel
theorem dX11_image_7 : decode cX11_image 7 = .ok (.iconst (-1), 1) := by decide +kernel
theorem dX11_image_8 : decode cX11_image 8 = .ok (.ireturn, 1) := by decide +kernel
theorem dX11_image_9 : decode cX11_image 9 = .ok (.aload_n 0, 1) := by decide +kernel
theorem dX11_image_10 : decode cX11_image 10 = .ok (.getfield 65, 3) := by decide +kernel
theorem dX11_image_13 : decode cX11_image 13 = .ok (.aload_n 0, 1) := by decide +kernel
theorem dX11_image_14 : decode cX11_image 14 = .ok (.getfield 61, 3) := by decide +kernel
theorem dX11_image_17 : decode cX11_image 17 = .ok (.invokevirtual 339, 3) := by decide +kernel
theorem dX11_image_20 : decode cX11_image 20 = .ok (.aload_n 0, 1) := by decide +kernel
theorem dX11_image_21 : decode cX11_image 21 = .ok (.iconst 1, 1) := by decide +kernel
theorem dX11_image_22 : decode cX11_image 22 = .ok (.putfield 343, 3) := by decide +kernel
theorem dX11_image_25 : decode cX11_image 25 = .ok (.aload_n 0, 1) := by decide +kernel
theorem dX11_image_26 : decode cX11_image 26 = .ok (.getfield 61, 3) := by decide +kernel
theorem dX11_image_29 : decode cX11_image 29 = .ok (.getfield 347, 3) := by decide +kernel
theorem dX11_image_32 : decode cX11_image 32 = .ok (.ireturn, 1) := by decide +kernel
theorem dX11_back_0 : decode cX11_back 0 = .ok (.aload_n 0, 1) := by decide +kernel
theorem dX11_back_1 : decode cX11_back 1 = .ok (.getfield 343, 3) := by decide +kernel
theorem dX11_back_4 : decode cX11_back 4 = .ok (.ifCond .ne 5, 3) := by decide +kernel
theorem dX11_back_7 : decode cX11_back 7 = .ok (.iconst (-1), 1) := by decide +kernel
theorem dX11_back_8 : decode cX11_back 8 = .ok (.ireturn, 1) := by decide +kernel
theorem dX11_back_9 : decode cX11_back 9 = .ok (.aload_n 0, 1) := by decide +kernel
theorem dX11_back_10 : decode cX11_back 10 = .ok (.getfield 61, 3) := by decide +kernel
theorem dX11_back_13 : decode cX11_back 13 = .ok (.aload_n 0, 1) := by decide +kernel
theorem dX11_back_14 : decode cX11_back 14 = .ok (.getfield 65, 3) := by decide +kernel
theorem dX11_back_17 : decode cX11_back 17 = .ok (.invokevirtual 339, 3) := by decide +kernel
theorem dX11_back_20 : decode cX11_back 20 = .ok (.aload_n 0, 1) := by decide +kernel
theorem dX11_back_21 : decode cX11_back 21 = .ok (.getfield 61, 3) := by decide +kernel
theorem dX11_back_24 : decode cX11_back 24 = .ok (.getfield 347, 3) := by decide +kernel
theorem dX11_back_27 : decode cX11_back 27 = .ok (.ireturn, 1) := by decide +kernel
theorem dX11_count_0 : decode cX11_count 0 = .ok (.iload_n 1, 1) := by decide +kernel
theorem dX11_count_1 : decode cX11_count 1 = .ok (.tableswitch 144 0 10 #[59, 67, 75, 80, 88, 96, 104, 112, 120, 128, 136], 59) := by decide +kernel
theorem dX11_count_60 : decode cX11_count 60 = .ok (.aload_n 0, 1) := by decide +kernel
theorem dX11_count_61 : decode cX11_count 61 = .ok (.getfield 46, 3) := by decide +kernel
theorem dX11_count_64 : decode cX11_count 64 = .ok (.getfield 249, 3) := by decide +kernel
theorem dX11_count_67 : decode cX11_count 67 = .ok (.ireturn, 1) := by decide +kernel
theorem dX11_count_68 : decode cX11_count 68 = .ok (.aload_n 0, 1) := by decide +kernel
theorem dX11_count_69 : decode cX11_count 69 = .ok (.getfield 46, 3) := by decide +kernel
theorem dX11_count_72 : decode cX11_count 72 = .ok (.getfield 350, 3) := by decide +kernel
theorem dX11_count_75 : decode cX11_count 75 = .ok (.ireturn, 1) := by decide +kernel
theorem dX11_count_76 : decode cX11_count 76 = .ok (.aload_n 0, 1) := by decide +kernel
theorem dX11_count_77 : decode cX11_count 77 = .ok (.getfield 122, 3) := by decide +kernel
theorem dX11_count_80 : decode cX11_count 80 = .ok (.ireturn, 1) := by decide +kernel
theorem dX11_count_81 : decode cX11_count 81 = .ok (.aload_n 0, 1) := by decide +kernel
theorem dX11_count_82 : decode cX11_count 82 = .ok (.getfield 26, 3) := by decide +kernel
theorem dX11_count_85 : decode cX11_count 85 = .ok (.getfield 104, 3) := by decide +kernel
theorem dX11_count_88 : decode cX11_count 88 = .ok (.ireturn, 1) := by decide +kernel
theorem dX11_count_89 : decode cX11_count 89 = .ok (.aload_n 0, 1) := by decide +kernel
theorem dX11_count_90 : decode cX11_count 90 = .ok (.getfield 61, 3) := by decide +kernel
theorem dX11_count_93 : decode cX11_count 93 = .ok (.getfield 347, 3) := by decide +kernel
theorem dX11_count_96 : decode cX11_count 96 = .ok (.ireturn, 1) := by decide +kernel
theorem dX11_count_97 : decode cX11_count 97 = .ok (.aload_n 0, 1) := by decide +kernel
theorem dX11_count_98 : decode cX11_count 98 = .ok (.getfield 61, 3) := by decide +kernel
theorem dX11_count_101 : decode cX11_count 101 = .ok (.getfield 209, 3) := by decide +kernel
theorem dX11_count_104 : decode cX11_count 104 = .ok (.ireturn, 1) := by decide +kernel
theorem dX11_count_105 : decode cX11_count 105 = .ok (.aload_n 0, 1) := by decide +kernel
theorem dX11_count_106 : decode cX11_count 106 = .ok (.getfield 61, 3) := by decide +kernel
theorem dX11_count_109 : decode cX11_count 109 = .ok (.getfield 299, 3) := by decide +kernel
theorem dX11_count_112 : decode cX11_count 112 = .ok (.ireturn, 1) := by decide +kernel
theorem dX11_count_113 : decode cX11_count 113 = .ok (.aload_n 0, 1) := by decide +kernel
theorem dX11_count_114 : decode cX11_count 114 = .ok (.getfield 93, 3) := by decide +kernel
theorem dX11_count_117 : decode cX11_count 117 = .ok (.getfield 290, 3) := by decide +kernel
theorem dX11_count_120 : decode cX11_count 120 = .ok (.ireturn, 1) := by decide +kernel
theorem dX11_count_121 : decode cX11_count 121 = .ok (.aload_n 0, 1) := by decide +kernel
theorem dX11_count_122 : decode cX11_count 122 = .ok (.getfield 97, 3) := by decide +kernel
theorem dX11_count_125 : decode cX11_count 125 = .ok (.getfield 290, 3) := by decide +kernel
theorem dX11_count_128 : decode cX11_count 128 = .ok (.ireturn, 1) := by decide +kernel
theorem dX11_count_129 : decode cX11_count 129 = .ok (.aload_n 0, 1) := by decide +kernel
theorem dX11_count_130 : decode cX11_count 130 = .ok (.getfield 46, 3) := by decide +kernel
theorem dX11_count_133 : decode cX11_count 133 = .ok (.getfield 353, 3) := by decide +kernel
theorem dX11_count_136 : decode cX11_count 136 = .ok (.ireturn, 1) := by decide +kernel
theorem dX11_count_137 : decode cX11_count 137 = .ok (.aload_n 0, 1) := by decide +kernel
theorem dX11_count_138 : decode cX11_count 138 = .ok (.getfield 46, 3) := by decide +kernel
theorem dX11_count_141 : decode cX11_count 141 = .ok (.getfield 356, 3) := by decide +kernel
theorem dX11_count_144 : decode cX11_count 144 = .ok (.ireturn, 1) := by decide +kernel
theorem dX11_count_145 : decode cX11_count 145 = .ok (.ldc 238, 2) := by decide +kernel
theorem dX11_count_147 : decode cX11_count 147 = .ok (.ireturn, 1) := by decide +kernel
theorem dX11_noMarket_0 : decode cX11_noMarket 0 = .ok (.aload_n 0, 1) := by decide +kernel
theorem dX11_noMarket_1 : decode cX11_noMarket 1 = .ok (.getfield 46, 3) := by decide +kernel
theorem dX11_noMarket_4 : decode cX11_noMarket 4 = .ok (.getfield 249, 3) := by decide +kernel
theorem dX11_noMarket_7 : decode cX11_noMarket 7 = .ok (.ifCond .ne 7, 3) := by decide +kernel
theorem dX11_noMarket_10 : decode cX11_noMarket 10 = .ok (.iconst 1, 1) := by decide +kernel
theorem dX11_noMarket_11 : decode cX11_noMarket 11 = .ok (.goto 4, 3) := by decide +kernel
theorem dX11_noMarket_14 : decode cX11_noMarket 14 = .ok (.iconst 0, 1) := by decide +kernel
theorem dX11_noMarket_15 : decode cX11_noMarket 15 = .ok (.ireturn, 1) := by decide +kernel
theorem dX11_noDays_0 : decode cX11_noDays 0 = .ok (.aload_n 0, 1) := by decide +kernel
theorem dX11_noDays_1 : decode cX11_noDays 1 = .ok (.invokevirtual 225, 3) := by decide +kernel
theorem dX11_noDays_4 : decode cX11_noDays 4 = .ok (.ifCond .ne 14, 3) := by decide +kernel
theorem dX11_noDays_7 : decode cX11_noDays 7 = .ok (.iload_n 1, 1) := by decide +kernel
theorem dX11_noDays_8 : decode cX11_noDays 8 = .ok (.iconst 1, 1) := by decide +kernel
theorem dX11_noDays_9 : decode cX11_noDays 9 = .ok (.if_icmp .lt 9, 3) := by decide +kernel
theorem dX11_noDays_12 : decode cX11_noDays 12 = .ok (.iload_n 1, 1) := by decide +kernel
theorem dX11_noDays_13 : decode cX11_noDays 13 = .ok (.bipush 30, 2) := by decide +kernel
theorem dX11_noDays_15 : decode cX11_noDays 15 = .ok (.if_icmp .le 7, 3) := by decide +kernel
theorem dX11_noDays_18 : decode cX11_noDays 18 = .ok (.iconst 1, 1) := by decide +kernel
theorem dX11_noDays_19 : decode cX11_noDays 19 = .ok (.goto 4, 3) := by decide +kernel
theorem dX11_noDays_22 : decode cX11_noDays 22 = .ok (.iconst 0, 1) := by decide +kernel
theorem dX11_noDays_23 : decode cX11_noDays 23 = .ok (.ireturn, 1) := by decide +kernel
theorem dX11_noWhat_0 : decode cX11_noWhat 0 = .ok (.iload_n 0, 1) := by decide +kernel
theorem dX11_noWhat_1 : decode cX11_noWhat 1 = .ok (.ifCond .lt 8, 3) := by decide +kernel
theorem dX11_noWhat_4 : decode cX11_noWhat 4 = .ok (.iload_n 0, 1) := by decide +kernel
theorem dX11_noWhat_5 : decode cX11_noWhat 5 = .ok (.iload_n 1, 1) := by decide +kernel
theorem dX11_noWhat_6 : decode cX11_noWhat 6 = .ok (.if_icmp .le 7, 3) := by decide +kernel
theorem dX11_noWhat_9 : decode cX11_noWhat 9 = .ok (.iconst 1, 1) := by decide +kernel
theorem dX11_noWhat_10 : decode cX11_noWhat 10 = .ok (.goto 4, 3) := by decide +kernel
theorem dX11_noWhat_13 : decode cX11_noWhat 13 = .ok (.iconst 0, 1) := by decide +kernel
theorem dX11_noWhat_14 : decode cX11_noWhat 14 = .ok (.ireturn, 1) := by decide +kernel
theorem dX11_noPrice_0 : decode cX11_noPrice 0 = .ok (.iload_n 0, 1) := by decide +kernel
theorem dX11_noPrice_1 : decode cX11_noPrice 1 = .ok (.ifCond .lt 9, 3) := by decide +kernel
theorem dX11_noPrice_4 : decode cX11_noPrice 4 = .ok (.iload_n 0, 1) := by decide +kernel
theorem dX11_noPrice_5 : decode cX11_noPrice 5 = .ok (.bipush 20, 2) := by decide +kernel
theorem dX11_noPrice_7 : decode cX11_noPrice 7 = .ok (.if_icmp .le 7, 3) := by decide +kernel
theorem dX11_noPrice_10 : decode cX11_noPrice 10 = .ok (.iconst 1, 1) := by decide +kernel
theorem dX11_noPrice_11 : decode cX11_noPrice 11 = .ok (.goto 4, 3) := by decide +kernel
theorem dX11_noPrice_14 : decode cX11_noPrice 14 = .ok (.iconst 0, 1) := by decide +kernel
theorem dX11_noPrice_15 : decode cX11_noPrice 15 = .ok (.ireturn, 1) := by decide +kernel
theorem dX11_isSeller_0 : decode cX11_isSeller 0 = .ok (.iload_n 1, 1) := by decide +kernel
theorem dX11_isSeller_1 : decode cX11_isSeller 1 = .ok (.ifCond .lt 18, 3) := by decide +kernel
theorem dX11_isSeller_4 : decode cX11_isSeller 4 = .ok (.iload_n 1, 1) := by decide +kernel
theorem dX11_isSeller_5 : decode cX11_isSeller 5 = .ok (.aload_n 0, 1) := by decide +kernel
theorem dX11_isSeller_6 : decode cX11_isSeller 6 = .ok (.getfield 46, 3) := by decide +kernel
theorem dX11_isSeller_9 : decode cX11_isSeller 9 = .ok (.getfield 249, 3) := by decide +kernel
theorem dX11_isSeller_12 : decode cX11_isSeller 12 = .ok (.if_icmp .ge 7, 3) := by decide +kernel
theorem dX11_isSeller_15 : decode cX11_isSeller 15 = .ok (.iconst 1, 1) := by decide +kernel
theorem dX11_isSeller_16 : decode cX11_isSeller 16 = .ok (.goto 4, 3) := by decide +kernel
theorem dX11_isSeller_19 : decode cX11_isSeller 19 = .ok (.iconst 0, 1) := by decide +kernel
theorem dX11_isSeller_20 : decode cX11_isSeller 20 = .ok (.ireturn, 1) := by decide +kernel
theorem dX11_isSort_0 : decode cX11_isSort 0 = .ok (.iload_n 1, 1) := by decide +kernel
theorem dX11_isSort_1 : decode cX11_isSort 1 = .ok (.ifCond .lt 18, 3) := by decide +kernel
theorem dX11_isSort_4 : decode cX11_isSort 4 = .ok (.iload_n 1, 1) := by decide +kernel
theorem dX11_isSort_5 : decode cX11_isSort 5 = .ok (.aload_n 0, 1) := by decide +kernel
theorem dX11_isSort_6 : decode cX11_isSort 6 = .ok (.getfield 46, 3) := by decide +kernel
theorem dX11_isSort_9 : decode cX11_isSort 9 = .ok (.getfield 350, 3) := by decide +kernel
theorem dX11_isSort_12 : decode cX11_isSort 12 = .ok (.if_icmp .ge 7, 3) := by decide +kernel
theorem dX11_isSort_15 : decode cX11_isSort 15 = .ok (.iconst 1, 1) := by decide +kernel
theorem dX11_isSort_16 : decode cX11_isSort 16 = .ok (.goto 4, 3) := by decide +kernel
theorem dX11_isSort_19 : decode cX11_isSort 19 = .ok (.iconst 0, 1) := by decide +kernel
theorem dX11_isSort_20 : decode cX11_isSort 20 = .ok (.ireturn, 1) := by decide +kernel
theorem dX11_bytesIn_0 : decode cX11_bytesIn 0 = .ok (.iconst 0, 1) := by decide +kernel
theorem dX11_bytesIn_1 : decode cX11_bytesIn 1 = .ok (.istore_n 1, 1) := by decide +kernel
theorem dX11_bytesIn_2 : decode cX11_bytesIn 2 = .ok (.bipush 24, 2) := by decide +kernel
theorem dX11_bytesIn_4 : decode cX11_bytesIn 4 = .ok (.istore_n 2, 1) := by decide +kernel
theorem dX11_bytesIn_5 : decode cX11_bytesIn 5 = .ok (.iload_n 2, 1) := by decide +kernel
theorem dX11_bytesIn_6 : decode cX11_bytesIn 6 = .ok (.ifCond .lt 22, 3) := by decide +kernel
theorem dX11_bytesIn_9 : decode cX11_bytesIn 9 = .ok (.iload_n 0, 1) := by decide +kernel
theorem dX11_bytesIn_10 : decode cX11_bytesIn 10 = .ok (.iload_n 2, 1) := by decide +kernel
theorem dX11_bytesIn_11 : decode cX11_bytesIn 11 = .ok (.ishr, 1) := by decide +kernel
theorem dX11_bytesIn_12 : decode cX11_bytesIn 12 = .ok (.sipush 255, 3) := by decide +kernel
theorem dX11_bytesIn_15 : decode cX11_bytesIn 15 = .ok (.iand, 1) := by decide +kernel
theorem dX11_bytesIn_16 : decode cX11_bytesIn 16 = .ok (.ifCond .eq 6, 3) := by decide +kernel
theorem dX11_bytesIn_19 : decode cX11_bytesIn 19 = .ok (.iinc 1 1, 3) := by decide +kernel
theorem dX11_bytesIn_22 : decode cX11_bytesIn 22 = .ok (.iinc 2 (-8), 3) := by decide +kernel
theorem dX11_bytesIn_25 : decode cX11_bytesIn 25 = .ok (.goto (-20), 3) := by decide +kernel
theorem dX11_bytesIn_28 : decode cX11_bytesIn 28 = .ok (.iload_n 1, 1) := by decide +kernel
theorem dX11_bytesIn_29 : decode cX11_bytesIn 29 = .ok (.ireturn, 1) := by decide +kernel
theorem dX11_openMarket_0 : decode cX11_openMarket 0 = .ok (.aload_n 0, 1) := by decide +kernel
theorem dX11_openMarket_1 : decode cX11_openMarket 1 = .ok (.getfield 35, 3) := by decide +kernel
theorem dX11_openMarket_4 : decode cX11_openMarket 4 = .ok (.aload_n 0, 1) := by decide +kernel
theorem dX11_openMarket_5 : decode cX11_openMarket 5 = .ok (.getfield 46, 3) := by decide +kernel
theorem dX11_openMarket_8 : decode cX11_openMarket 8 = .ok (.invokevirtual 111, 3) := by decide +kernel
theorem dX11_openMarket_11 : decode cX11_openMarket 11 = .ok (.pop, 1) := by decide +kernel
theorem dX11_openMarket_12 : decode cX11_openMarket 12 = .ok (.aload_n 0, 1) := by decide +kernel
theorem dX11_openMarket_13 : decode cX11_openMarket 13 = .ok (.getfield 61, 3) := by decide +kernel
theorem dX11_openMarket_16 : decode cX11_openMarket 16 = .ok (.aload_n 0, 1) := by decide +kernel
theorem dX11_openMarket_17 : decode cX11_openMarket 17 = .ok (.getfield 46, 3) := by decide +kernel
theorem dX11_openMarket_20 : decode cX11_openMarket 20 = .ok (.getfield 353, 3) := by decide +kernel
theorem dX11_openMarket_23 : decode cX11_openMarket 23 = .ok (.invokevirtual 357, 3) := by decide +kernel
theorem dX11_openMarket_26 : decode cX11_openMarket 26 = .ok (.aload_n 0, 1) := by decide +kernel
theorem dX11_openMarket_27 : decode cX11_openMarket 27 = .ok (.getfield 93, 3) := by decide +kernel
theorem dX11_openMarket_30 : decode cX11_openMarket 30 = .ok (.iconst 0, 1) := by decide +kernel
theorem dX11_openMarket_31 : decode cX11_openMarket 31 = .ok (.putfield 290, 3) := by decide +kernel
theorem dX11_openMarket_34 : decode cX11_openMarket 34 = .ok (.aload_n 0, 1) := by decide +kernel
theorem dX11_openMarket_35 : decode cX11_openMarket 35 = .ok (.getfield 97, 3) := by decide +kernel
theorem dX11_openMarket_38 : decode cX11_openMarket 38 = .ok (.iconst 0, 1) := by decide +kernel
theorem dX11_openMarket_39 : decode cX11_openMarket 39 = .ok (.putfield 290, 3) := by decide +kernel
theorem dX11_openMarket_42 : decode cX11_openMarket 42 = .ok (.aload_n 0, 1) := by decide +kernel
theorem dX11_openMarket_43 : decode cX11_openMarket 43 = .ok (.iconst 0, 1) := by decide +kernel
theorem dX11_openMarket_44 : decode cX11_openMarket 44 = .ok (.putfield 343, 3) := by decide +kernel
theorem dX11_openMarket_47 : decode cX11_openMarket 47 = .ok (.aload_n 0, 1) := by decide +kernel
theorem dX11_openMarket_48 : decode cX11_openMarket 48 = .ok (.getfield 26, 3) := by decide +kernel
theorem dX11_openMarket_51 : decode cX11_openMarket 51 = .ok (.iconst 0, 1) := by decide +kernel
theorem dX11_openMarket_52 : decode cX11_openMarket 52 = .ok (.putfield 104, 3) := by decide +kernel
theorem dX11_openMarket_55 : decode cX11_openMarket 55 = .ok (.aload_n 0, 1) := by decide +kernel
theorem dX11_openMarket_56 : decode cX11_openMarket 56 = .ok (.getfield 46, 3) := by decide +kernel
theorem dX11_openMarket_59 : decode cX11_openMarket 59 = .ok (.getfield 249, 3) := by decide +kernel
theorem dX11_openMarket_62 : decode cX11_openMarket 62 = .ok (.ireturn, 1) := by decide +kernel
theorem dX11_addRule_0 : decode cX11_addRule 0 = .ok (.aload_n 0, 1) := by decide +kernel
theorem dX11_addRule_1 : decode cX11_addRule 1 = .ok (.getfield 122, 3) := by decide +kernel
theorem dX11_addRule_4 : decode cX11_addRule 4 = .ok (.istore_n 1, 1) := by decide +kernel
theorem dX11_addRule_5 : decode cX11_addRule 5 = .ok (.iload_n 1, 1) := by decide +kernel
theorem dX11_addRule_6 : decode cX11_addRule 6 = .ok (.aload_n 0, 1) := by decide +kernel
theorem dX11_addRule_7 : decode cX11_addRule 7 = .ok (.getfield 53, 3) := by decide +kernel
theorem dX11_addRule_10 : decode cX11_addRule 10 = .ok (.arraylength, 1) := by decide +kernel
theorem dX11_addRule_11 : decode cX11_addRule 11 = .ok (.if_icmp .ge 12, 3) := by decide +kernel
theorem dX11_addRule_14 : decode cX11_addRule 14 = .ok (.aload_n 0, 1) := by decide +kernel
theorem dX11_addRule_15 : decode cX11_addRule 15 = .ok (.getfield 53, 3) := by decide +kernel
theorem dX11_addRule_18 : decode cX11_addRule 18 = .ok (.iload_n 1, 1) := by decide +kernel
theorem dX11_addRule_19 : decode cX11_addRule 19 = .ok (.aaload, 1) := by decide +kernel
theorem dX11_addRule_20 : decode cX11_addRule 20 = .ok (.ifnonnull 5, 3) := by decide +kernel
theorem dX11_addRule_23 : decode cX11_addRule 23 = .ok (.iconst (-1), 1) := by decide +kernel
theorem dX11_addRule_24 : decode cX11_addRule 24 = .ok (.ireturn, 1) := by decide +kernel
theorem dX11_addRule_25 : decode cX11_addRule 25 = .ok (.aload_n 0, 1) := by decide +kernel
theorem dX11_addRule_26 : decode cX11_addRule 26 = .ok (.getfield 42, 3) := by decide +kernel
theorem dX11_addRule_29 : decode cX11_addRule 29 = .ok (.aload_n 0, 1) := by decide +kernel
theorem dX11_addRule_30 : decode cX11_addRule 30 = .ok (.getfield 53, 3) := by decide +kernel
theorem dX11_addRule_33 : decode cX11_addRule 33 = .ok (.iload_n 1, 1) := by decide +kernel
theorem dX11_addRule_34 : decode cX11_addRule 34 = .ok (.aaload, 1) := by decide +kernel
theorem dX11_addRule_35 : decode cX11_addRule 35 = .ok (.invokevirtual 115, 3) := by decide +kernel
theorem dX11_addRule_38 : decode cX11_addRule 38 = .ok (.pop, 1) := by decide +kernel
theorem dX11_addRule_39 : decode cX11_addRule 39 = .ok (.aload_n 0, 1) := by decide +kernel
theorem dX11_addRule_40 : decode cX11_addRule 40 = .ok (.iload_n 1, 1) := by decide +kernel
theorem dX11_addRule_41 : decode cX11_addRule 41 = .ok (.iconst 1, 1) := by decide +kernel
theorem dX11_addRule_42 : decode cX11_addRule 42 = .ok (.iadd, 1) := by decide +kernel
theorem dX11_addRule_43 : decode cX11_addRule 43 = .ok (.putfield 122, 3) := by decide +kernel
theorem dX11_addRule_46 : decode cX11_addRule 46 = .ok (.aload_n 0, 1) := by decide +kernel
theorem dX11_addRule_47 : decode cX11_addRule 47 = .ok (.getfield 26, 3) := by decide +kernel
theorem dX11_addRule_50 : decode cX11_addRule 50 = .ok (.iconst 0, 1) := by decide +kernel
theorem dX11_addRule_51 : decode cX11_addRule 51 = .ok (.putfield 104, 3) := by decide +kernel
theorem dX11_addRule_54 : decode cX11_addRule 54 = .ok (.iload_n 1, 1) := by decide +kernel
theorem dX11_addRule_55 : decode cX11_addRule 55 = .ok (.ireturn, 1) := by decide +kernel
theorem dX11_isSeenBy_0 : decode cX11_isSeenBy 0 = .ok (.aload_n 0, 1) := by decide +kernel
theorem dX11_isSeenBy_1 : decode cX11_isSeenBy 1 = .ok (.getfield 77, 3) := by decide +kernel
theorem dX11_isSeenBy_4 : decode cX11_isSeenBy 4 = .ok (.invokevirtual 212, 3) := by decide +kernel
theorem dX11_isSeenBy_7 : decode cX11_isSeenBy 7 = .ok (.aload_n 0, 1) := by decide +kernel
theorem dX11_isSeenBy_8 : decode cX11_isSeenBy 8 = .ok (.getfield 77, 3) := by decide +kernel
theorem dX11_isSeenBy_11 : decode cX11_isSeenBy 11 = .ok (.getfield 216, 3) := by decide +kernel
theorem dX11_isSeenBy_14 : decode cX11_isSeenBy 14 = .ok (.iload_n 1, 1) := by decide +kernel
theorem dX11_isSeenBy_15 : decode cX11_isSeenBy 15 = .ok (.putfield 275, 3) := by decide +kernel
theorem dX11_isSeenBy_18 : decode cX11_isSeenBy 18 = .ok (.iconst 0, 1) := by decide +kernel
theorem dX11_isSeenBy_19 : decode cX11_isSeenBy 19 = .ok (.istore_n 2, 1) := by decide +kernel
theorem dX11_isSeenBy_20 : decode cX11_isSeenBy 20 = .ok (.iconst 0, 1) := by decide +kernel
theorem dX11_isSeenBy_21 : decode cX11_isSeenBy 21 = .ok (.istore_n 3, 1) := by decide +kernel
theorem dX11_isSeenBy_22 : decode cX11_isSeenBy 22 = .ok (.iload_n 3, 1) := by decide +kernel
theorem dX11_isSeenBy_23 : decode cX11_isSeenBy 23 = .ok (.aload_n 0, 1) := by decide +kernel
theorem dX11_isSeenBy_24 : decode cX11_isSeenBy 24 = .ok (.getfield 93, 3) := by decide +kernel
theorem dX11_isSeenBy_27 : decode cX11_isSeenBy 27 = .ok (.getfield 290, 3) := by decide +kernel
theorem dX11_isSeenBy_30 : decode cX11_isSeenBy 30 = .ok (.if_icmp .ge 23, 3) := by decide +kernel
theorem dX11_isSeenBy_33 : decode cX11_isSeenBy 33 = .ok (.iload_n 2, 1) := by decide +kernel
theorem dX11_isSeenBy_34 : decode cX11_isSeenBy 34 = .ok (.aload_n 0, 1) := by decide +kernel
theorem dX11_isSeenBy_35 : decode cX11_isSeenBy 35 = .ok (.getfield 93, 3) := by decide +kernel
theorem dX11_isSeenBy_38 : decode cX11_isSeenBy 38 = .ok (.getfield 360, 3) := by decide +kernel
theorem dX11_isSeenBy_41 : decode cX11_isSeenBy 41 = .ok (.iload_n 3, 1) := by decide +kernel
theorem dX11_isSeenBy_42 : decode cX11_isSeenBy 42 = .ok (.iaload, 1) := by decide +kernel
theorem dX11_isSeenBy_43 : decode cX11_isSeenBy 43 = .ok (.invokestatic 363, 3) := by decide +kernel
theorem dX11_isSeenBy_46 : decode cX11_isSeenBy 46 = .ok (.istore_n 2, 1) := by decide +kernel
theorem dX11_isSeenBy_47 : decode cX11_isSeenBy 47 = .ok (.iinc 3 1, 3) := by decide +kernel
theorem dX11_isSeenBy_50 : decode cX11_isSeenBy 50 = .ok (.goto (-28), 3) := by decide +kernel
theorem dX11_isSeenBy_53 : decode cX11_isSeenBy 53 = .ok (.iconst 1, 1) := by decide +kernel
theorem dX11_isSeenBy_54 : decode cX11_isSeenBy 54 = .ok (.istore_n 3, 1) := by decide +kernel
theorem dX11_isSeenBy_55 : decode cX11_isSeenBy 55 = .ok (.iload_n 3, 1) := by decide +kernel
theorem dX11_isSeenBy_56 : decode cX11_isSeenBy 56 = .ok (.iload_n 2, 1) := by decide +kernel
theorem dX11_isSeenBy_57 : decode cX11_isSeenBy 57 = .ok (.if_icmp .gt 76, 3) := by decide +kernel
theorem dX11_isSeenBy_60 : decode cX11_isSeenBy 60 = .ok (.aload_n 0, 1) := by decide +kernel
theorem dX11_isSeenBy_61 : decode cX11_isSeenBy 61 = .ok (.getfield 77, 3) := by decide +kernel
theorem dX11_isSeenBy_64 : decode cX11_isSeenBy 64 = .ok (.invokevirtual 305, 3) := by decide +kernel
theorem dX11_isSeenBy_67 : decode cX11_isSeenBy 67 = .ok (.iconst 0, 1) := by decide +kernel
theorem dX11_isSeenBy_68 : decode cX11_isSeenBy 68 = .ok (.istore 4, 2) := by decide +kernel
theorem dX11_isSeenBy_70 : decode cX11_isSeenBy 70 = .ok (.iload 4, 2) := by decide +kernel
theorem dX11_isSeenBy_72 : decode cX11_isSeenBy 72 = .ok (.aload_n 0, 1) := by decide +kernel
theorem dX11_isSeenBy_73 : decode cX11_isSeenBy 73 = .ok (.getfield 93, 3) := by decide +kernel
theorem dX11_isSeenBy_76 : decode cX11_isSeenBy 76 = .ok (.getfield 290, 3) := by decide +kernel
theorem dX11_isSeenBy_79 : decode cX11_isSeenBy 79 = .ok (.if_icmp .ge 48, 3) := by decide +kernel
theorem dX11_isSeenBy_82 : decode cX11_isSeenBy 82 = .ok (.aload_n 0, 1) := by decide +kernel
theorem dX11_isSeenBy_83 : decode cX11_isSeenBy 83 = .ok (.getfield 93, 3) := by decide +kernel
theorem dX11_isSeenBy_86 : decode cX11_isSeenBy 86 = .ok (.getfield 360, 3) := by decide +kernel
theorem dX11_isSeenBy_89 : decode cX11_isSeenBy 89 = .ok (.iload 4, 2) := by decide +kernel
theorem dX11_isSeenBy_91 : decode cX11_isSeenBy 91 = .ok (.iaload, 1) := by decide +kernel
theorem dX11_isSeenBy_92 : decode cX11_isSeenBy 92 = .ok (.iload_n 3, 1) := by decide +kernel
theorem dX11_isSeenBy_93 : decode cX11_isSeenBy 93 = .ok (.if_icmp .ne 28, 3) := by decide +kernel
theorem dX11_isSeenBy_96 : decode cX11_isSeenBy 96 = .ok (.aload_n 0, 1) := by decide +kernel
theorem dX11_isSeenBy_97 : decode cX11_isSeenBy 97 = .ok (.getfield 93, 3) := by decide +kernel
theorem dX11_isSeenBy_100 : decode cX11_isSeenBy 100 = .ok (.getfield 369, 3) := by decide +kernel
theorem dX11_isSeenBy_103 : decode cX11_isSeenBy 103 = .ok (.iload 4, 2) := by decide +kernel
theorem dX11_isSeenBy_105 : decode cX11_isSeenBy 105 = .ok (.iaload, 1) := by decide +kernel
theorem dX11_isSeenBy_106 : decode cX11_isSeenBy 106 = .ok (.aload_n 0, 1) := by decide +kernel
theorem dX11_isSeenBy_107 : decode cX11_isSeenBy 107 = .ok (.getfield 77, 3) := by decide +kernel
theorem dX11_isSeenBy_110 : decode cX11_isSeenBy 110 = .ok (.getfield 216, 3) := by decide +kernel
theorem dX11_isSeenBy_113 : decode cX11_isSeenBy 113 = .ok (.getfield 209, 3) := by decide +kernel
theorem dX11_isSeenBy_116 : decode cX11_isSeenBy 116 = .ok (.if_icmp .eq 5, 3) := by decide +kernel
theorem dX11_isSeenBy_119 : decode cX11_isSeenBy 119 = .ok (.iconst 0, 1) := by decide +kernel
theorem dX11_isSeenBy_120 : decode cX11_isSeenBy 120 = .ok (.ireturn, 1) := by decide +kernel
theorem dX11_isSeenBy_121 : decode cX11_isSeenBy 121 = .ok (.iinc 4 1, 3) := by decide +kernel
theorem dX11_isSeenBy_124 : decode cX11_isSeenBy 124 = .ok (.goto (-54), 3) := by decide +kernel
theorem dX11_isSeenBy_127 : decode cX11_isSeenBy 127 = .ok (.iinc 3 1, 3) := by decide +kernel
theorem dX11_isSeenBy_130 : decode cX11_isSeenBy 130 = .ok (.goto (-75), 3) := by decide +kernel
theorem dX11_isSeenBy_133 : decode cX11_isSeenBy 133 = .ok (.iconst 1, 1) := by decide +kernel
theorem dX11_isSeenBy_134 : decode cX11_isSeenBy 134 = .ok (.ireturn, 1) := by decide +kernel
theorem dX11_tellAskings_0 : decode cX11_tellAskings 0 = .ok (.iconst 0, 1) := by decide +kernel
theorem dX11_tellAskings_1 : decode cX11_tellAskings 1 = .ok (.istore_n 2, 1) := by decide +kernel
theorem dX11_tellAskings_2 : decode cX11_tellAskings 2 = .ok (.iload_n 2, 1) := by decide +kernel
theorem dX11_tellAskings_3 : decode cX11_tellAskings 3 = .ok (.aload_n 0, 1) := by decide +kernel
theorem dX11_tellAskings_4 : decode cX11_tellAskings 4 = .ok (.getfield 46, 3) := by decide +kernel
theorem dX11_tellAskings_7 : decode cX11_tellAskings 7 = .ok (.getfield 249, 3) := by decide +kernel
theorem dX11_tellAskings_10 : decode cX11_tellAskings 10 = .ok (.if_icmp .ge 19, 3) := by decide +kernel
theorem dX11_tellAskings_13 : decode cX11_tellAskings 13 = .ok (.aload_n 0, 1) := by decide +kernel
theorem dX11_tellAskings_14 : decode cX11_tellAskings 14 = .ok (.getfield 68, 3) := by decide +kernel
theorem dX11_tellAskings_17 : decode cX11_tellAskings 17 = .ok (.getfield 330, 3) := by decide +kernel
theorem dX11_tellAskings_20 : decode cX11_tellAskings 20 = .ok (.iload_n 2, 1) := by decide +kernel
theorem dX11_tellAskings_21 : decode cX11_tellAskings 21 = .ok (.iconst (-1), 1) := by decide +kernel
theorem dX11_tellAskings_22 : decode cX11_tellAskings 22 = .ok (.iastore, 1) := by decide +kernel
theorem dX11_tellAskings_23 : decode cX11_tellAskings 23 = .ok (.iinc 2 1, 3) := by decide +kernel
theorem dX11_tellAskings_26 : decode cX11_tellAskings 26 = .ok (.goto (-24), 3) := by decide +kernel
theorem dX11_tellAskings_29 : decode cX11_tellAskings 29 = .ok (.iconst 0, 1) := by decide +kernel
theorem dX11_tellAskings_30 : decode cX11_tellAskings 30 = .ok (.istore_n 2, 1) := by decide +kernel
theorem dX11_tellAskings_31 : decode cX11_tellAskings 31 = .ok (.iload_n 2, 1) := by decide +kernel
theorem dX11_tellAskings_32 : decode cX11_tellAskings 32 = .ok (.aload_n 0, 1) := by decide +kernel
theorem dX11_tellAskings_33 : decode cX11_tellAskings 33 = .ok (.getfield 97, 3) := by decide +kernel
theorem dX11_tellAskings_36 : decode cX11_tellAskings 36 = .ok (.getfield 290, 3) := by decide +kernel
theorem dX11_tellAskings_39 : decode cX11_tellAskings 39 = .ok (.if_icmp .ge 58, 3) := by decide +kernel
theorem dX11_tellAskings_42 : decode cX11_tellAskings 42 = .ok (.aload_n 0, 1) := by decide +kernel
theorem dX11_tellAskings_43 : decode cX11_tellAskings 43 = .ok (.getfield 97, 3) := by decide +kernel
theorem dX11_tellAskings_46 : decode cX11_tellAskings 46 = .ok (.getfield 360, 3) := by decide +kernel
theorem dX11_tellAskings_49 : decode cX11_tellAskings 49 = .ok (.iload_n 2, 1) := by decide +kernel
theorem dX11_tellAskings_50 : decode cX11_tellAskings 50 = .ok (.iaload, 1) := by decide +kernel
theorem dX11_tellAskings_51 : decode cX11_tellAskings 51 = .ok (.istore_n 3, 1) := by decide +kernel
theorem dX11_tellAskings_52 : decode cX11_tellAskings 52 = .ok (.aload_n 0, 1) := by decide +kernel
theorem dX11_tellAskings_53 : decode cX11_tellAskings 53 = .ok (.getfield 97, 3) := by decide +kernel
theorem dX11_tellAskings_56 : decode cX11_tellAskings 56 = .ok (.getfield 369, 3) := by decide +kernel
theorem dX11_tellAskings_59 : decode cX11_tellAskings 59 = .ok (.iload_n 2, 1) := by decide +kernel
theorem dX11_tellAskings_60 : decode cX11_tellAskings 60 = .ok (.iaload, 1) := by decide +kernel
theorem dX11_tellAskings_61 : decode cX11_tellAskings 61 = .ok (.iload_n 1, 1) := by decide +kernel
theorem dX11_tellAskings_62 : decode cX11_tellAskings 62 = .ok (.if_icmp .ne 29, 3) := by decide +kernel
theorem dX11_tellAskings_65 : decode cX11_tellAskings 65 = .ok (.aload_n 0, 1) := by decide +kernel
theorem dX11_tellAskings_66 : decode cX11_tellAskings 66 = .ok (.iload_n 3, 1) := by decide +kernel
theorem dX11_tellAskings_67 : decode cX11_tellAskings 67 = .ok (.invokevirtual 128, 3) := by decide +kernel
theorem dX11_tellAskings_70 : decode cX11_tellAskings 70 = .ok (.ifCond .eq 21, 3) := by decide +kernel
theorem dX11_tellAskings_73 : decode cX11_tellAskings 73 = .ok (.aload_n 0, 1) := by decide +kernel
theorem dX11_tellAskings_74 : decode cX11_tellAskings 74 = .ok (.getfield 68, 3) := by decide +kernel
theorem dX11_tellAskings_77 : decode cX11_tellAskings 77 = .ok (.getfield 330, 3) := by decide +kernel
theorem dX11_tellAskings_80 : decode cX11_tellAskings 80 = .ok (.iload_n 3, 1) := by decide +kernel
theorem dX11_tellAskings_81 : decode cX11_tellAskings 81 = .ok (.aload_n 0, 1) := by decide +kernel
theorem dX11_tellAskings_82 : decode cX11_tellAskings 82 = .ok (.getfield 97, 3) := by decide +kernel
theorem dX11_tellAskings_85 : decode cX11_tellAskings 85 = .ok (.getfield 372, 3) := by decide +kernel
theorem dX11_tellAskings_88 : decode cX11_tellAskings 88 = .ok (.iload_n 2, 1) := by decide +kernel
theorem dX11_tellAskings_89 : decode cX11_tellAskings 89 = .ok (.iaload, 1) := by decide +kernel
theorem dX11_tellAskings_90 : decode cX11_tellAskings 90 = .ok (.iastore, 1) := by decide +kernel
theorem dX11_tellAskings_91 : decode cX11_tellAskings 91 = .ok (.iinc 2 1, 3) := by decide +kernel
theorem dX11_tellAskings_94 : decode cX11_tellAskings 94 = .ok (.goto (-63), 3) := by decide +kernel
theorem dX11_tellAskings_97 : decode cX11_tellAskings 97 = .ok (.iconst 0, 1) := by decide +kernel
theorem dX11_tellAskings_98 : decode cX11_tellAskings 98 = .ok (.istore_n 2, 1) := by decide +kernel
theorem dX11_tellAskings_99 : decode cX11_tellAskings 99 = .ok (.iload_n 2, 1) := by decide +kernel
theorem dX11_tellAskings_100 : decode cX11_tellAskings 100 = .ok (.aload_n 0, 1) := by decide +kernel
theorem dX11_tellAskings_101 : decode cX11_tellAskings 101 = .ok (.getfield 46, 3) := by decide +kernel
theorem dX11_tellAskings_104 : decode cX11_tellAskings 104 = .ok (.getfield 249, 3) := by decide +kernel
theorem dX11_tellAskings_107 : decode cX11_tellAskings 107 = .ok (.if_icmp .ge 33, 3) := by decide +kernel
theorem dX11_tellAskings_110 : decode cX11_tellAskings 110 = .ok (.aload_n 0, 1) := by decide +kernel
theorem dX11_tellAskings_111 : decode cX11_tellAskings 111 = .ok (.getfield 68, 3) := by decide +kernel
theorem dX11_tellAskings_114 : decode cX11_tellAskings 114 = .ok (.getfield 330, 3) := by decide +kernel
theorem dX11_tellAskings_117 : decode cX11_tellAskings 117 = .ok (.iload_n 2, 1) := by decide +kernel
theorem dX11_tellAskings_118 : decode cX11_tellAskings 118 = .ok (.iaload, 1) := by decide +kernel
theorem dX11_tellAskings_119 : decode cX11_tellAskings 119 = .ok (.aload_n 0, 1) := by decide +kernel
theorem dX11_tellAskings_120 : decode cX11_tellAskings 120 = .ok (.getfield 77, 3) := by decide +kernel
theorem dX11_tellAskings_123 : decode cX11_tellAskings 123 = .ok (.getfield 216, 3) := by decide +kernel
theorem dX11_tellAskings_126 : decode cX11_tellAskings 126 = .ok (.getfield 209, 3) := by decide +kernel
theorem dX11_tellAskings_129 : decode cX11_tellAskings 129 = .ok (.if_icmp .le 5, 3) := by decide +kernel
theorem dX11_tellAskings_132 : decode cX11_tellAskings 132 = .ok (.iload_n 2, 1) := by decide +kernel
theorem dX11_tellAskings_133 : decode cX11_tellAskings 133 = .ok (.ireturn, 1) := by decide +kernel
theorem dX11_tellAskings_134 : decode cX11_tellAskings 134 = .ok (.iinc 2 1, 3) := by decide +kernel
theorem dX11_tellAskings_137 : decode cX11_tellAskings 137 = .ok (.goto (-38), 3) := by decide +kernel
theorem dX11_tellAskings_140 : decode cX11_tellAskings 140 = .ok (.iconst (-1), 1) := by decide +kernel
theorem dX11_tellAskings_141 : decode cX11_tellAskings 141 = .ok (.ireturn, 1) := by decide +kernel
theorem dX12_init_0 : decode cX12_init 0 = .ok (.aload_n 0, 1) := by decide +kernel
theorem dX12_init_1 : decode cX12_init 1 = .ok (.invokespecial 3, 3) := by decide +kernel
theorem dX12_init_4 : decode cX12_init 4 = .ok (.aload_n 0, 1) := by decide +kernel
theorem dX12_init_5 : decode cX12_init 5 = .ok (.sipush 160, 3) := by decide +kernel
theorem dX12_init_8 : decode cX12_init 8 = .ok (.newarray .byte, 2) := by decide +kernel
theorem dX12_init_10 : decode cX12_init 10 = .ok (.putfield 9, 3) := by decide +kernel
theorem dX12_init_13 : decode cX12_init 13 = .ok (.aload_n 0, 1) := by decide +kernel
theorem dX12_init_14 : decode cX12_init 14 = .ok (.sipush 800, 3) := by decide +kernel
theorem dX12_init_17 : decode cX12_init 17 = .ok (.newarray .byte, 2) := by decide +kernel
theorem dX12_init_19 : decode cX12_init 19 = .ok (.putfield 13, 3) := by decide +kernel
theorem dX12_init_22 : decode cX12_init 22 = .ok (.aload_n 0, 1) := by decide +kernel
theorem dX12_init_23 : decode cX12_init 23 = .ok (.iconst 5, 1) := by decide +kernel
theorem dX12_init_24 : decode cX12_init 24 = .ok (.newarray .int, 2) := by decide +kernel
theorem dX12_init_26 : decode cX12_init 26 = .ok (.putfield 16, 3) := by decide +kernel
theorem dX12_init_29 : decode cX12_init 29 = .ok (.aload_n 0, 1) := by decide +kernel
theorem dX12_init_30 : decode cX12_init 30 = .ok (.sipush 128, 3) := by decide +kernel
theorem dX12_init_33 : decode cX12_init 33 = .ok (.newarray .int, 2) := by decide +kernel
theorem dX12_init_35 : decode cX12_init 35 = .ok (.putfield 20, 3) := by decide +kernel
theorem dX12_init_38 : decode cX12_init 38 = .ok (.aload_n 0, 1) := by decide +kernel
theorem dX12_init_39 : decode cX12_init 39 = .ok (.aload_n 0, 1) := by decide +kernel
theorem dX12_init_40 : decode cX12_init 40 = .ok (.getfield 9, 3) := by decide +kernel
theorem dX12_init_43 : decode cX12_init 43 = .ok (.putfield 23, 3) := by decide +kernel
theorem dX12_init_46 : decode cX12_init 46 = .ok (.aload_n 0, 1) := by decide +kernel
theorem dX12_init_47 : decode cX12_init 47 = .ok (.ldc 26, 2) := by decide +kernel
theorem dX12_init_49 : decode cX12_init 49 = .ok (.putfield 28, 3) := by decide +kernel
theorem dX12_init_52 : decode cX12_init 52 = .ok (.aload_n 0, 1) := by decide +kernel
theorem dX12_init_53 : decode cX12_init 53 = .ok (.ldc 32, 2) := by decide +kernel
theorem dX12_init_55 : decode cX12_init 55 = .ok (.putfield 34, 3) := by decide +kernel
theorem dX12_init_58 : decode cX12_init 58 = .ok (.aload_n 0, 1) := by decide +kernel
theorem dX12_init_59 : decode cX12_init 59 = .ok (.bipush 15, 2) := by decide +kernel
theorem dX12_init_61 : decode cX12_init 61 = .ok (.newarray .int, 2) := by decide +kernel
theorem dX12_init_63 : decode cX12_init 63 = .ok (.putfield 37, 3) := by decide +kernel
theorem dX12_init_66 : decode cX12_init 66 = .ok (.aload_n 0, 1) := by decide +kernel
theorem dX12_init_67 : decode cX12_init 67 = .ok (.bipush 18, 2) := by decide +kernel
theorem dX12_init_69 : decode cX12_init 69 = .ok (.newarray .int, 2) := by decide +kernel
theorem dX12_init_71 : decode cX12_init 71 = .ok (.putfield 40, 3) := by decide +kernel
theorem dX12_init_74 : decode cX12_init 74 = .ok (.aload_n 0, 1) := by decide +kernel
theorem dX12_init_75 : decode cX12_init 75 = .ok (.iconst 2, 1) := by decide +kernel
theorem dX12_init_76 : decode cX12_init 76 = .ok (.newarray .int, 2) := by decide +kernel
theorem dX12_init_78 : decode cX12_init 78 = .ok (.putfield 43, 3) := by decide +kernel
theorem dX12_init_81 : decode cX12_init 81 = .ok (.aload_n 0, 1) := by decide +kernel
theorem dX12_init_82 : decode cX12_init 82 = .ok (.bipush 15, 2) := by decide +kernel
theorem dX12_init_84 : decode cX12_init 84 = .ok (.newarray .int, 2) := by decide +kernel
theorem dX12_init_86 : decode cX12_init 86 = .ok (.putfield 46, 3) := by decide +kernel
theorem dX12_init_89 : decode cX12_init 89 = .ok (.aload_n 0, 1) := by decide +kernel
theorem dX12_init_90 : decode cX12_init 90 = .ok (.bipush 18, 2) := by decide +kernel
theorem dX12_init_92 : decode cX12_init 92 = .ok (.newarray .int, 2) := by decide +kernel
theorem dX12_init_94 : decode cX12_init 94 = .ok (.putfield 49, 3) := by decide +kernel
theorem dX12_init_97 : decode cX12_init 97 = .ok (.aload_n 0, 1) := by decide +kernel
theorem dX12_init_98 : decode cX12_init 98 = .ok (.iconst 2, 1) := by decide +kernel
theorem dX12_init_99 : decode cX12_init 99 = .ok (.newarray .int, 2) := by decide +kernel
theorem dX12_init_101 : decode cX12_init 101 = .ok (.putfield 52, 3) := by decide +kernel
theorem dX12_init_104 : decode cX12_init 104 = .ok (.aload_n 0, 1) := by decide +kernel
theorem dX12_init_105 : decode cX12_init 105 = .ok (.bipush 57, 2) := by decide +kernel
theorem dX12_init_107 : decode cX12_init 107 = .ok (.newarray .int, 2) := by decide +kernel
theorem dX12_init_109 : decode cX12_init 109 = .ok (.putfield 55, 3) := by decide +kernel
theorem dX12_init_112 : decode cX12_init 112 = .ok (.aload_n 0, 1) := by decide +kernel
theorem dX12_init_113 : decode cX12_init 113 = .ok (.bipush 57, 2) := by decide +kernel
theorem dX12_init_115 : decode cX12_init 115 = .ok (.newarray .int, 2) := by decide +kernel
theorem dX12_init_117 : decode cX12_init 117 = .ok (.putfield 58, 3) := by decide +kernel
theorem dX12_init_120 : decode cX12_init 120 = .ok (.aload_n 0, 1) := by decide +kernel
theorem dX12_init_121 : decode cX12_init 121 = .ok (.iconst 5, 1) := by decide +kernel
theorem dX12_init_122 : decode cX12_init 122 = .ok (.newarray .int, 2) := by decide +kernel
theorem dX12_init_124 : decode cX12_init 124 = .ok (.putfield 61, 3) := by decide +kernel
theorem dX12_init_127 : decode cX12_init 127 = .ok (.aload_n 0, 1) := by decide +kernel
theorem dX12_init_128 : decode cX12_init 128 = .ok (.iconst 5, 1) := by decide +kernel
theorem dX12_init_129 : decode cX12_init 129 = .ok (.newarray .int, 2) := by decide +kernel
theorem dX12_init_131 : decode cX12_init 131 = .ok (.dup, 1) := by decide +kernel
theorem dX12_init_132 : decode cX12_init 132 = .ok (.iconst 0, 1) := by decide +kernel
theorem dX12_init_133 : decode cX12_init 133 = .ok (.iconst (-1), 1) := by decide +kernel
theorem dX12_init_134 : decode cX12_init 134 = .ok (.iastore, 1) := by decide +kernel
theorem dX12_init_135 : decode cX12_init 135 = .ok (.dup, 1) := by decide +kernel
theorem dX12_init_136 : decode cX12_init 136 = .ok (.iconst 1, 1) := by decide +kernel
theorem dX12_init_137 : decode cX12_init 137 = .ok (.iconst (-1), 1) := by decide +kernel
theorem dX12_init_138 : decode cX12_init 138 = .ok (.iastore, 1) := by decide +kernel
theorem dX12_init_139 : decode cX12_init 139 = .ok (.dup, 1) := by decide +kernel
theorem dX12_init_140 : decode cX12_init 140 = .ok (.iconst 2, 1) := by decide +kernel
theorem dX12_init_141 : decode cX12_init 141 = .ok (.iconst (-1), 1) := by decide +kernel
theorem dX12_init_142 : decode cX12_init 142 = .ok (.iastore, 1) := by decide +kernel
theorem dX12_init_143 : decode cX12_init 143 = .ok (.dup, 1) := by decide +kernel
theorem dX12_init_144 : decode cX12_init 144 = .ok (.iconst 3, 1) := by decide +kernel
theorem dX12_init_145 : decode cX12_init 145 = .ok (.iconst (-1), 1) := by decide +kernel
theorem dX12_init_146 : decode cX12_init 146 = .ok (.iastore, 1) := by decide +kernel
theorem dX12_init_147 : decode cX12_init 147 = .ok (.dup, 1) := by decide +kernel
theorem dX12_init_148 : decode cX12_init 148 = .ok (.iconst 4, 1) := by decide +kernel
theorem dX12_init_149 : decode cX12_init 149 = .ok (.iconst (-1), 1) := by decide +kernel
theorem dX12_init_150 : decode cX12_init 150 = .ok (.iastore, 1) := by decide +kernel
theorem dX12_init_151 : decode cX12_init 151 = .ok (.putfield 64, 3) := by decide +kernel
theorem dX12_init_154 : decode cX12_init 154 = .ok (.aload_n 0, 1) := by decide +kernel
theorem dX12_init_155 : decode cX12_init 155 = .ok (.bipush 6, 2) := by decide +kernel
theorem dX12_init_157 : decode cX12_init 157 = .ok (.newarray .int, 2) := by decide +kernel
theorem dX12_init_159 : decode cX12_init 159 = .ok (.putfield 67, 3) := by decide +kernel
theorem dX12_init_162 : decode cX12_init 162 = .ok (.aload_n 0, 1) := by decide +kernel
theorem dX12_init_163 : decode cX12_init 163 = .ok (.bipush 6, 2) := by decide +kernel
theorem dX12_init_165 : decode cX12_init 165 = .ok (.newarray .int, 2) := by decide +kernel
theorem dX12_init_167 : decode cX12_init 167 = .ok (.putfield 70, 3) := by decide +kernel
theorem dX12_init_170 : decode cX12_init 170 = .ok (.aload_n 0, 1) := by decide +kernel
theorem dX12_init_171 : decode cX12_init 171 = .ok (.bipush 6, 2) := by decide +kernel
theorem dX12_init_173 : decode cX12_init 173 = .ok (.newarray .int, 2) := by decide +kernel
theorem dX12_init_175 : decode cX12_init 175 = .ok (.putfield 73, 3) := by decide +kernel
theorem dX12_init_178 : decode cX12_init 178 = .ok (.aload_n 0, 1) := by decide +kernel
theorem dX12_init_179 : decode cX12_init 179 = .ok (.bipush 24, 2) := by decide +kernel
theorem dX12_init_181 : decode cX12_init 181 = .ok (.newarray .int, 2) := by decide +kernel
theorem dX12_init_183 : decode cX12_init 183 = .ok (.putfield 76, 3) := by decide +kernel
theorem dX12_init_186 : decode cX12_init 186 = .ok (.aload_n 0, 1) := by decide +kernel
theorem dX12_init_187 : decode cX12_init 187 = .ok (.bipush 6, 2) := by decide +kernel
theorem dX12_init_189 : decode cX12_init 189 = .ok (.newarray .int, 2) := by decide +kernel
theorem dX12_init_191 : decode cX12_init 191 = .ok (.putfield 79, 3) := by decide +kernel
theorem dX12_init_194 : decode cX12_init 194 = .ok (.aload_n 0, 1) := by decide +kernel
theorem dX12_init_195 : decode cX12_init 195 = .ok (.bipush 6, 2) := by decide +kernel
theorem dX12_init_197 : decode cX12_init 197 = .ok (.newarray .int, 2) := by decide +kernel
theorem dX12_init_199 : decode cX12_init 199 = .ok (.putfield 82, 3) := by decide +kernel
theorem dX12_init_202 : decode cX12_init 202 = .ok (.aload_n 0, 1) := by decide +kernel
theorem dX12_init_203 : decode cX12_init 203 = .ok (.bipush 6, 2) := by decide +kernel
theorem dX12_init_205 : decode cX12_init 205 = .ok (.newarray .int, 2) := by decide +kernel
theorem dX12_init_207 : decode cX12_init 207 = .ok (.putfield 85, 3) := by decide +kernel
theorem dX12_init_210 : decode cX12_init 210 = .ok (.aload_n 0, 1) := by decide +kernel
theorem dX12_init_211 : decode cX12_init 211 = .ok (.bipush 61, 2) := by decide +kernel
theorem dX12_init_213 : decode cX12_init 213 = .ok (.newarray .int, 2) := by decide +kernel
theorem dX12_init_215 : decode cX12_init 215 = .ok (.putfield 88, 3) := by decide +kernel
theorem dX12_init_218 : decode cX12_init 218 = .ok (.aload_n 0, 1) := by decide +kernel
theorem dX12_init_219 : decode cX12_init 219 = .ok (.bipush 61, 2) := by decide +kernel
theorem dX12_init_221 : decode cX12_init 221 = .ok (.newarray .boolean, 2) := by decide +kernel
theorem dX12_init_223 : decode cX12_init 223 = .ok (.putfield 91, 3) := by decide +kernel
theorem dX12_init_226 : decode cX12_init 226 = .ok (.aload_n 0, 1) := by decide +kernel
theorem dX12_init_227 : decode cX12_init 227 = .ok (.sipush 2135, 3) := by decide +kernel
theorem dX12_init_230 : decode cX12_init 230 = .ok (.newarray .int, 2) := by decide +kernel
theorem dX12_init_232 : decode cX12_init 232 = .ok (.putfield 95, 3) := by decide +kernel
theorem dX12_init_235 : decode cX12_init 235 = .ok (.aload_n 0, 1) := by decide +kernel
theorem dX12_init_236 : decode cX12_init 236 = .ok (.bipush 57, 2) := by decide +kernel
theorem dX12_init_238 : decode cX12_init 238 = .ok (.newarray .int, 2) := by decide +kernel
theorem dX12_init_240 : decode cX12_init 240 = .ok (.putfield 98, 3) := by decide +kernel
theorem dX12_init_243 : decode cX12_init 243 = .ok (.aload_n 0, 1) := by decide +kernel
theorem dX12_init_244 : decode cX12_init 244 = .ok (.bipush 57, 2) := by decide +kernel
theorem dX12_init_246 : decode cX12_init 246 = .ok (.newarray .int, 2) := by decide +kernel
theorem dX12_init_248 : decode cX12_init 248 = .ok (.putfield 101, 3) := by decide +kernel
theorem dX12_init_251 : decode cX12_init 251 = .ok (.aload_n 0, 1) := by decide +kernel
theorem dX12_init_252 : decode cX12_init 252 = .ok (.bipush 57, 2) := by decide +kernel
theorem dX12_init_254 : decode cX12_init 254 = .ok (.newarray .int, 2) := by decide +kernel
theorem dX12_init_256 : decode cX12_init 256 = .ok (.putfield 104, 3) := by decide +kernel
theorem dX12_init_259 : decode cX12_init 259 = .ok (.aload_n 0, 1) := by decide +kernel
theorem dX12_init_260 : decode cX12_init 260 = .ok (.bipush 20, 2) := by decide +kernel
theorem dX12_init_262 : decode cX12_init 262 = .ok (.newarray .int, 2) := by decide +kernel
theorem dX12_init_264 : decode cX12_init 264 = .ok (.putfield 107, 3) := by decide +kernel
theorem dX12_init_267 : decode cX12_init 267 = .ok (.aload_n 0, 1) := by decide +kernel
theorem dX12_init_268 : decode cX12_init 268 = .ok (.bipush 20, 2) := by decide +kernel
theorem dX12_init_270 : decode cX12_init 270 = .ok (.newarray .int, 2) := by decide +kernel
theorem dX12_init_272 : decode cX12_init 272 = .ok (.putfield 110, 3) := by decide +kernel
theorem dX12_init_275 : decode cX12_init 275 = .ok (.aload_n 0, 1) := by decide +kernel
theorem dX12_init_276 : decode cX12_init 276 = .ok (.bipush 60, 2) := by decide +kernel
theorem dX12_init_278 : decode cX12_init 278 = .ok (.newarray .int, 2) := by decide +kernel
theorem dX12_init_280 : decode cX12_init 280 = .ok (.putfield 113, 3) := by decide +kernel
theorem dX12_init_283 : decode cX12_init 283 = .ok (.aload_n 0, 1) := by decide +kernel
theorem dX12_init_284 : decode cX12_init 284 = .ok (.bipush 60, 2) := by decide +kernel
theorem dX12_init_286 : decode cX12_init 286 = .ok (.newarray .int, 2) := by decide +kernel
theorem dX12_init_288 : decode cX12_init 288 = .ok (.putfield 116, 3) := by decide +kernel
theorem dX12_init_291 : decode cX12_init 291 = .ok (.aload_n 0, 1) := by decide +kernel
theorem dX12_init_292 : decode cX12_init 292 = .ok (.bipush 60, 2) := by decide +kernel
theorem dX12_init_294 : decode cX12_init 294 = .ok (.newarray .int, 2) := by decide +kernel
theorem dX12_init_296 : decode cX12_init 296 = .ok (.putfield 119, 3) := by decide +kernel
theorem dX12_init_299 : decode cX12_init 299 = .ok (.aload_n 0, 1) := by decide +kernel
theorem dX12_init_300 : decode cX12_init 300 = .ok (.sipush 627, 3) := by decide +kernel
theorem dX12_init_303 : decode cX12_init 303 = .ok (.newarray .int, 2) := by decide +kernel
theorem dX12_init_305 : decode cX12_init 305 = .ok (.putfield 122, 3) := by decide +kernel
theorem dX12_init_308 : decode cX12_init 308 = .ok (.aload_n 0, 1) := by decide +kernel
theorem dX12_init_309 : decode cX12_init 309 = .ok (.bipush 57, 2) := by decide +kernel
theorem dX12_init_311 : decode cX12_init 311 = .ok (.newarray .int, 2) := by decide +kernel
theorem dX12_init_313 : decode cX12_init 313 = .ok (.putfield 125, 3) := by decide +kernel
theorem dX12_init_316 : decode cX12_init 316 = .ok (.aload_n 0, 1) := by decide +kernel
theorem dX12_init_317 : decode cX12_init 317 = .ok (.iconst 5, 1) := by decide +kernel
theorem dX12_init_318 : decode cX12_init 318 = .ok (.newarray .int, 2) := by decide +kernel
theorem dX12_init_320 : decode cX12_init 320 = .ok (.putfield 128, 3) := by decide +kernel
theorem dX12_init_323 : decode cX12_init 323 = .ok (.return_, 1) := by decide +kernel
theorem dX12_thrown_0 : decode cX12_thrown 0 = .ok (.aload_n 0, 1) := by decide +kernel
theorem dX12_thrown_1 : decode cX12_thrown 1 = .ok (.getfield 131, 3) := by decide +kernel
theorem dX12_thrown_4 : decode cX12_thrown 4 = .ok (.ireturn, 1) := by decide +kernel
theorem dX12_isIn_0 : decode cX12_isIn 0 = .ok (.lload_n 0, 1) := by decide +kernel
theorem dX12_isIn_1 : decode cX12_isIn 1 = .ok (.lload_n 2, 1) := by decide +kernel
theorem dX12_isIn_2 : decode cX12_isIn 2 = .ok (.lcmp, 1) := by decide +kernel
theorem dX12_isIn_3 : decode cX12_isIn 3 = .ok (.ifCond .lt 14, 3) := by decide +kernel
theorem dX12_isIn_6 : decode cX12_isIn 6 = .ok (.lload_n 0, 1) := by decide +kernel
theorem dX12_isIn_7 : decode cX12_isIn 7 = .ok (.lload 4, 2) := by decide +kernel
theorem dX12_isIn_9 : decode cX12_isIn 9 = .ok (.lcmp, 1) := by decide +kernel
theorem dX12_isIn_10 : decode cX12_isIn 10 = .ok (.ifCond .gt 7, 3) := by decide +kernel
theorem dX12_isIn_13 : decode cX12_isIn 13 = .ok (.iconst 1, 1) := by decide +kernel
theorem dX12_isIn_14 : decode cX12_isIn 14 = .ok (.goto 4, 3) := by decide +kernel
theorem dX12_isIn_17 : decode cX12_isIn 17 = .ok (.iconst 0, 1) := by decide +kernel
theorem dX12_isIn_18 : decode cX12_isIn 18 = .ok (.ireturn, 1) := by decide +kernel
theorem dX12_has_0 : decode cX12_has 0 = .ok (.iload_n 0, 1) := by decide +kernel
theorem dX12_has_1 : decode cX12_has 1 = .ok (.iload_n 1, 1) := by decide +kernel
theorem dX12_has_2 : decode cX12_has 2 = .ok (.ishr, 1) := by decide +kernel
theorem dX12_has_3 : decode cX12_has 3 = .ok (.iconst 1, 1) := by decide +kernel
theorem dX12_has_4 : decode cX12_has 4 = .ok (.iand, 1) := by decide +kernel
theorem dX12_has_5 : decode cX12_has 5 = .ok (.iconst 1, 1) := by decide +kernel
theorem dX12_has_6 : decode cX12_has 6 = .ok (.if_icmp .ne 7, 3) := by decide +kernel
theorem dX12_has_9 : decode cX12_has 9 = .ok (.iconst 1, 1) := by decide +kernel
theorem dX12_has_10 : decode cX12_has 10 = .ok (.goto 4, 3) := by decide +kernel
theorem dX12_has_13 : decode cX12_has 13 = .ok (.iconst 0, 1) := by decide +kernel
theorem dX12_has_14 : decode cX12_has 14 = .ok (.ireturn, 1) := by decide +kernel
theorem dX12_isAmong_0 : decode cX12_isAmong 0 = .ok (.iconst 0, 1) := by decide +kernel
theorem dX12_isAmong_1 : decode cX12_isAmong 1 = .ok (.istore_n 2, 1) := by decide +kernel
theorem dX12_isAmong_2 : decode cX12_isAmong 2 = .ok (.iload_n 2, 1) := by decide +kernel
theorem dX12_isAmong_3 : decode cX12_isAmong 3 = .ok (.aload_n 0, 1) := by decide +kernel
theorem dX12_isAmong_4 : decode cX12_isAmong 4 = .ok (.invokevirtual 135, 3) := by decide +kernel
theorem dX12_isAmong_7 : decode cX12_isAmong 7 = .ok (.if_icmp .ge 20, 3) := by decide +kernel
theorem dX12_isAmong_10 : decode cX12_isAmong 10 = .ok (.aload_n 0, 1) := by decide +kernel
theorem dX12_isAmong_11 : decode cX12_isAmong 11 = .ok (.iload_n 2, 1) := by decide +kernel
theorem dX12_isAmong_12 : decode cX12_isAmong 12 = .ok (.invokevirtual 141, 3) := by decide +kernel
theorem dX12_isAmong_15 : decode cX12_isAmong 15 = .ok (.iload_n 1, 1) := by decide +kernel
theorem dX12_isAmong_16 : decode cX12_isAmong 16 = .ok (.if_icmp .ne 5, 3) := by decide +kernel
theorem dX12_isAmong_19 : decode cX12_isAmong 19 = .ok (.iconst 1, 1) := by decide +kernel
theorem dX12_isAmong_20 : decode cX12_isAmong 20 = .ok (.ireturn, 1) := by decide +kernel
theorem dX12_isAmong_21 : decode cX12_isAmong 21 = .ok (.iinc 2 1, 3) := by decide +kernel
theorem dX12_isAmong_24 : decode cX12_isAmong 24 = .ok (.goto (-22), 3) := by decide +kernel
theorem dX12_isAmong_27 : decode cX12_isAmong 27 = .ok (.iconst 0, 1) := by decide +kernel
theorem dX12_isAmong_28 : decode cX12_isAmong 28 = .ok (.ireturn, 1) := by decide +kernel
theorem dX12_bytesIn_0 : decode cX12_bytesIn 0 = .ok (.iconst 0, 1) := by decide +kernel
theorem dX12_bytesIn_1 : decode cX12_bytesIn 1 = .ok (.istore_n 1, 1) := by decide +kernel
theorem dX12_bytesIn_2 : decode cX12_bytesIn 2 = .ok (.bipush 24, 2) := by decide +kernel
theorem dX12_bytesIn_4 : decode cX12_bytesIn 4 = .ok (.istore_n 2, 1) := by decide +kernel
theorem dX12_bytesIn_5 : decode cX12_bytesIn 5 = .ok (.iload_n 2, 1) := by decide +kernel
theorem dX12_bytesIn_6 : decode cX12_bytesIn 6 = .ok (.ifCond .lt 27, 3) := by decide +kernel
theorem dX12_bytesIn_9 : decode cX12_bytesIn 9 = .ok (.iload_n 1, 1) := by decide +kernel
theorem dX12_bytesIn_10 : decode cX12_bytesIn 10 = .ok (.iload_n 0, 1) := by decide +kernel
theorem dX12_bytesIn_11 : decode cX12_bytesIn 11 = .ok (.iload_n 2, 1) := by decide +kernel
theorem dX12_bytesIn_12 : decode cX12_bytesIn 12 = .ok (.ishr, 1) := by decide +kernel
theorem dX12_bytesIn_13 : decode cX12_bytesIn 13 = .ok (.sipush 255, 3) := by decide +kernel
theorem dX12_bytesIn_16 : decode cX12_bytesIn 16 = .ok (.iand, 1) := by decide +kernel
theorem dX12_bytesIn_17 : decode cX12_bytesIn 17 = .ok (.ifCond .eq 7, 3) := by decide +kernel
theorem dX12_bytesIn_20 : decode cX12_bytesIn 20 = .ok (.iconst 1, 1) := by decide +kernel
theorem dX12_bytesIn_21 : decode cX12_bytesIn 21 = .ok (.goto 4, 3) := by decide +kernel
theorem dX12_bytesIn_24 : decode cX12_bytesIn 24 = .ok (.iconst 0, 1) := by decide +kernel
theorem dX12_bytesIn_25 : decode cX12_bytesIn 25 = .ok (.iadd, 1) := by decide +kernel
theorem dX12_bytesIn_26 : decode cX12_bytesIn 26 = .ok (.istore_n 1, 1) := by decide +kernel
theorem dX12_bytesIn_27 : decode cX12_bytesIn 27 = .ok (.iinc 2 (-8), 3) := by decide +kernel
theorem dX12_bytesIn_30 : decode cX12_bytesIn 30 = .ok (.goto (-25), 3) := by decide +kernel
theorem dX12_bytesIn_33 : decode cX12_bytesIn 33 = .ok (.iload_n 1, 1) := by decide +kernel
theorem dX12_bytesIn_34 : decode cX12_bytesIn 34 = .ok (.ireturn, 1) := by decide +kernel
theorem dX12_put_0 : decode cX12_put 0 = .ok (.bipush 24, 2) := by decide +kernel
theorem dX12_put_2 : decode cX12_put 2 = .ok (.istore_n 2, 1) := by decide +kernel
theorem dX12_put_3 : decode cX12_put 3 = .ok (.iload_n 2, 1) := by decide +kernel
theorem dX12_put_4 : decode cX12_put 4 = .ok (.ifCond .lt 45, 3) := by decide +kernel
theorem dX12_put_7 : decode cX12_put 7 = .ok (.iload_n 1, 1) := by decide +kernel
theorem dX12_put_8 : decode cX12_put 8 = .ok (.iload_n 2, 1) := by decide +kernel
theorem dX12_put_9 : decode cX12_put 9 = .ok (.ishr, 1) := by decide +kernel
theorem dX12_put_10 : decode cX12_put 10 = .ok (.sipush 255, 3) := by decide +kernel
theorem dX12_put_13 : decode cX12_put 13 = .ok (.iand, 1) := by decide +kernel
theorem dX12_put_14 : decode cX12_put 14 = .ok (.ifCond .ne 6, 3) := by decide +kernel
theorem dX12_put_17 : decode cX12_put 17 = .ok (.goto 26, 3) := by decide +kernel
theorem dX12_put_20 : decode cX12_put 20 = .ok (.aload_n 0, 1) := by decide +kernel
theorem dX12_put_21 : decode cX12_put 21 = .ok (.getfield 9, 3) := by decide +kernel
theorem dX12_put_24 : decode cX12_put 24 = .ok (.aload_n 0, 1) := by decide +kernel
theorem dX12_put_25 : decode cX12_put 25 = .ok (.getfield 145, 3) := by decide +kernel
theorem dX12_put_28 : decode cX12_put 28 = .ok (.iload_n 1, 1) := by decide +kernel
theorem dX12_put_29 : decode cX12_put 29 = .ok (.iload_n 2, 1) := by decide +kernel
theorem dX12_put_30 : decode cX12_put 30 = .ok (.ishr, 1) := by decide +kernel
theorem dX12_put_31 : decode cX12_put 31 = .ok (.i2b, 1) := by decide +kernel
theorem dX12_put_32 : decode cX12_put 32 = .ok (.bastore, 1) := by decide +kernel
theorem dX12_put_33 : decode cX12_put 33 = .ok (.aload_n 0, 1) := by decide +kernel
theorem dX12_put_34 : decode cX12_put 34 = .ok (.dup, 1) := by decide +kernel
theorem dX12_put_35 : decode cX12_put 35 = .ok (.getfield 145, 3) := by decide +kernel
theorem dX12_put_38 : decode cX12_put 38 = .ok (.iconst 1, 1) := by decide +kernel
theorem dX12_put_39 : decode cX12_put 39 = .ok (.iadd, 1) := by decide +kernel
theorem dX12_put_40 : decode cX12_put 40 = .ok (.putfield 145, 3) := by decide +kernel
theorem dX12_put_43 : decode cX12_put 43 = .ok (.iinc 2 (-8), 3) := by decide +kernel
theorem dX12_put_46 : decode cX12_put 46 = .ok (.goto (-43), 3) := by decide +kernel
theorem dX12_put_49 : decode cX12_put 49 = .ok (.return_, 1) := by decide +kernel
theorem dX12_feed_0 : decode cX12_feed 0 = .ok (.aload_n 0, 1) := by decide +kernel
theorem dX12_feed_1 : decode cX12_feed 1 = .ok (.iconst 0, 1) := by decide +kernel
theorem dX12_feed_2 : decode cX12_feed 2 = .ok (.putfield 131, 3) := by decide +kernel
theorem dX12_feed_5 : decode cX12_feed 5 = .ok (.aload_n 0, 1) := by decide +kernel
theorem dX12_feed_6 : decode cX12_feed 6 = .ok (.getfield 145, 3) := by decide +kernel
theorem dX12_feed_9 : decode cX12_feed 9 = .ok (.iload_n 1, 1) := by decide +kernel
theorem dX12_feed_10 : decode cX12_feed 10 = .ok (.invokestatic 147, 3) := by decide +kernel
theorem dX12_feed_13 : decode cX12_feed 13 = .ok (.iadd, 1) := by decide +kernel
theorem dX12_feed_14 : decode cX12_feed 14 = .ok (.iload_n 2, 1) := by decide +kernel
theorem dX12_feed_15 : decode cX12_feed 15 = .ok (.invokestatic 147, 3) := by decide +kernel
theorem dX12_feed_18 : decode cX12_feed 18 = .ok (.iadd, 1) := by decide +kernel
theorem dX12_feed_19 : decode cX12_feed 19 = .ok (.iload_n 3, 1) := by decide +kernel
theorem dX12_feed_20 : decode cX12_feed 20 = .ok (.invokestatic 147, 3) := by decide +kernel
theorem dX12_feed_23 : decode cX12_feed 23 = .ok (.iadd, 1) := by decide +kernel
theorem dX12_feed_24 : decode cX12_feed 24 = .ok (.iload 4, 2) := by decide +kernel
theorem dX12_feed_26 : decode cX12_feed 26 = .ok (.invokestatic 147, 3) := by decide +kernel
theorem dX12_feed_29 : decode cX12_feed 29 = .ok (.iadd, 1) := by decide +kernel
theorem dX12_feed_30 : decode cX12_feed 30 = .ok (.iload 5, 2) := by decide +kernel
theorem dX12_feed_32 : decode cX12_feed 32 = .ok (.invokestatic 147, 3) := by decide +kernel
theorem dX12_feed_35 : decode cX12_feed 35 = .ok (.iadd, 1) := by decide +kernel
theorem dX12_feed_36 : decode cX12_feed 36 = .ok (.sipush 160, 3) := by decide +kernel
theorem dX12_feed_39 : decode cX12_feed 39 = .ok (.if_icmp .le 5, 3) := by decide +kernel
theorem dX12_feed_42 : decode cX12_feed 42 = .ok (.iconst (-1), 1) := by decide +kernel
theorem dX12_feed_43 : decode cX12_feed 43 = .ok (.ireturn, 1) := by decide +kernel
theorem dX12_feed_44 : decode cX12_feed 44 = .ok (.aload_n 0, 1) := by decide +kernel
theorem dX12_feed_45 : decode cX12_feed 45 = .ok (.iload_n 1, 1) := by decide +kernel
theorem dX12_feed_46 : decode cX12_feed 46 = .ok (.invokevirtual 151, 3) := by decide +kernel
theorem dX12_feed_49 : decode cX12_feed 49 = .ok (.aload_n 0, 1) := by decide +kernel
theorem dX12_feed_50 : decode cX12_feed 50 = .ok (.iload_n 2, 1) := by decide +kernel
theorem dX12_feed_51 : decode cX12_feed 51 = .ok (.invokevirtual 151, 3) := by decide +kernel
theorem dX12_feed_54 : decode cX12_feed 54 = .ok (.aload_n 0, 1) := by decide +kernel
theorem dX12_feed_55 : decode cX12_feed 55 = .ok (.iload_n 3, 1) := by decide +kernel
theorem dX12_feed_56 : decode cX12_feed 56 = .ok (.invokevirtual 151, 3) := by decide +kernel
theorem dX12_feed_59 : decode cX12_feed 59 = .ok (.aload_n 0, 1) := by decide +kernel
theorem dX12_feed_60 : decode cX12_feed 60 = .ok (.iload 4, 2) := by decide +kernel
theorem dX12_feed_62 : decode cX12_feed 62 = .ok (.invokevirtual 151, 3) := by decide +kernel
theorem dX12_feed_65 : decode cX12_feed 65 = .ok (.aload_n 0, 1) := by decide +kernel
theorem dX12_feed_66 : decode cX12_feed 66 = .ok (.iload 5, 2) := by decide +kernel
theorem dX12_feed_68 : decode cX12_feed 68 = .ok (.invokevirtual 151, 3) := by decide +kernel
theorem dX12_feed_71 : decode cX12_feed 71 = .ok (.aload_n 0, 1) := by decide +kernel
theorem dX12_feed_72 : decode cX12_feed 72 = .ok (.getfield 145, 3) := by decide +kernel
theorem dX12_feed_75 : decode cX12_feed 75 = .ok (.ireturn, 1) := by decide +kernel
theorem dX12_end_0 : decode cX12_end 0 = .ok (.aload_n 0, 1) := by decide +kernel
theorem dX12_end_1 : decode cX12_end 1 = .ok (.iconst 0, 1) := by decide +kernel
theorem dX12_end_2 : decode cX12_end 2 = .ok (.putfield 131, 3) := by decide +kernel
theorem dX12_end_5 : decode cX12_end 5 = .ok (.iload_n 1, 1) := by decide +kernel
theorem dX12_end_6 : decode cX12_end 6 = .ok (.ifCond .lt 11, 3) := by decide +kernel
theorem dX12_end_9 : decode cX12_end 9 = .ok (.iload_n 1, 1) := by decide +kernel
theorem dX12_end_10 : decode cX12_end 10 = .ok (.aload_n 0, 1) := by decide +kernel
theorem dX12_end_11 : decode cX12_end 11 = .ok (.getfield 145, 3) := by decide +kernel
theorem dX12_end_14 : decode cX12_end 14 = .ok (.if_icmp .le 5, 3) := by decide +kernel
theorem dX12_end_17 : decode cX12_end 17 = .ok (.iconst 0, 1) := by decide +kernel
theorem dX12_end_18 : decode cX12_end 18 = .ok (.ireturn, 1) := by decide +kernel
theorem dX12_end_19 : decode cX12_end 19 = .ok (.aload_n 0, 1) := by decide +kernel
theorem dX12_end_20 : decode cX12_end 20 = .ok (.iload_n 1, 1) := by decide +kernel
theorem dX12_end_21 : decode cX12_end 21 = .ok (.putfield 145, 3) := by decide +kernel
theorem dX12_end_24 : decode cX12_end 24 = .ok (.iconst 1, 1) := by decide +kernel
theorem dX12_end_25 : decode cX12_end 25 = .ok (.ireturn, 1) := by decide +kernel
theorem dX12_look_0 : decode cX12_look 0 = .ok (.aload_n 0, 1) := by decide +kernel
theorem dX12_look_1 : decode cX12_look 1 = .ok (.getfield 155, 3) := by decide +kernel
theorem dX12_look_4 : decode cX12_look 4 = .ok (.aload_n 0, 1) := by decide +kernel
theorem dX12_look_5 : decode cX12_look 5 = .ok (.getfield 158, 3) := by decide +kernel
theorem dX12_look_8 : decode cX12_look 8 = .ok (.if_icmp .ge 35, 3) := by decide +kernel
theorem dX12_look_11 : decode cX12_look 11 = .ok (.aload_n 0, 1) := by decide +kernel
theorem dX12_look_12 : decode cX12_look 12 = .ok (.getfield 23, 3) := by decide +kernel
theorem dX12_look_15 : decode cX12_look 15 = .ok (.aload_n 0, 1) := by decide +kernel
theorem dX12_look_16 : decode cX12_look 16 = .ok (.getfield 161, 3) := by decide +kernel
theorem dX12_look_19 : decode cX12_look 19 = .ok (.aload_n 0, 1) := by decide +kernel
theorem dX12_look_20 : decode cX12_look 20 = .ok (.getfield 155, 3) := by decide +kernel
theorem dX12_look_23 : decode cX12_look 23 = .ok (.iadd, 1) := by decide +kernel
theorem dX12_look_24 : decode cX12_look 24 = .ok (.baload, 1) := by decide +kernel
theorem dX12_look_25 : decode cX12_look 25 = .ok (.bipush 32, 2) := by decide +kernel
theorem dX12_look_27 : decode cX12_look 27 = .ok (.if_icmp .ne 16, 3) := by decide +kernel
theorem dX12_look_30 : decode cX12_look 30 = .ok (.aload_n 0, 1) := by decide +kernel
theorem dX12_look_31 : decode cX12_look 31 = .ok (.dup, 1) := by decide +kernel
theorem dX12_look_32 : decode cX12_look 32 = .ok (.getfield 155, 3) := by decide +kernel
theorem dX12_look_35 : decode cX12_look 35 = .ok (.iconst 1, 1) := by decide +kernel
theorem dX12_look_36 : decode cX12_look 36 = .ok (.iadd, 1) := by decide +kernel
theorem dX12_look_37 : decode cX12_look 37 = .ok (.putfield 155, 3) := by decide +kernel
theorem dX12_look_40 : decode cX12_look 40 = .ok (.goto (-40), 3) := by decide +kernel
theorem dX12_look_43 : decode cX12_look 43 = .ok (.aload_n 0, 1) := by decide +kernel
theorem dX12_look_44 : decode cX12_look 44 = .ok (.getfield 155, 3) := by decide +kernel
theorem dX12_look_47 : decode cX12_look 47 = .ok (.aload_n 0, 1) := by decide +kernel
theorem dX12_look_48 : decode cX12_look 48 = .ok (.getfield 158, 3) := by decide +kernel
theorem dX12_look_51 : decode cX12_look 51 = .ok (.if_icmp .ge 24, 3) := by decide +kernel
theorem dX12_look_54 : decode cX12_look 54 = .ok (.aload_n 0, 1) := by decide +kernel
theorem dX12_look_55 : decode cX12_look 55 = .ok (.getfield 23, 3) := by decide +kernel
theorem dX12_look_58 : decode cX12_look 58 = .ok (.aload_n 0, 1) := by decide +kernel
theorem dX12_look_59 : decode cX12_look 59 = .ok (.getfield 161, 3) := by decide +kernel
theorem dX12_look_62 : decode cX12_look 62 = .ok (.aload_n 0, 1) := by decide +kernel
theorem dX12_look_63 : decode cX12_look 63 = .ok (.getfield 155, 3) := by decide +kernel
theorem dX12_look_66 : decode cX12_look 66 = .ok (.iadd, 1) := by decide +kernel
theorem dX12_look_67 : decode cX12_look 67 = .ok (.baload, 1) := by decide +kernel
theorem dX12_look_68 : decode cX12_look 68 = .ok (.sipush 255, 3) := by decide +kernel
theorem dX12_look_71 : decode cX12_look 71 = .ok (.iand, 1) := by decide +kernel
theorem dX12_look_72 : decode cX12_look 72 = .ok (.goto 4, 3) := by decide +kernel
theorem dX12_look_75 : decode cX12_look 75 = .ok (.iconst (-1), 1) := by decide +kernel
theorem dX12_look_76 : decode cX12_look 76 = .ok (.ireturn, 1) := by decide +kernel
theorem dX12_fails_0 : decode cX12_fails 0 = .ok (.aload_n 0, 1) := by decide +kernel
theorem dX12_fails_1 : decode cX12_fails 1 = .ok (.getfield 164, 3) := by decide +kernel
theorem dX12_fails_4 : decode cX12_fails 4 = .ok (.iconst (-1), 1) := by decide +kernel
theorem dX12_fails_5 : decode cX12_fails 5 = .ok (.if_icmp .ne 11, 3) := by decide +kernel
theorem dX12_fails_8 : decode cX12_fails 8 = .ok (.aload_n 0, 1) := by decide +kernel
theorem dX12_fails_9 : decode cX12_fails 9 = .ok (.aload_n 0, 1) := by decide +kernel
theorem dX12_fails_10 : decode cX12_fails 10 = .ok (.getfield 155, 3) := by decide +kernel
theorem dX12_fails_13 : decode cX12_fails 13 = .ok (.putfield 164, 3) := by decide +kernel
theorem dX12_fails_16 : decode cX12_fails 16 = .ok (.iconst 0, 1) := by decide +kernel
theorem dX12_fails_17 : decode cX12_fails 17 = .ok (.ireturn, 1) := by decide +kernel
theorem dX12_goesIn_0 : decode cX12_goesIn 0 = .ok (.aload_n 0, 1) := by decide +kernel
theorem dX12_goesIn_1 : decode cX12_goesIn 1 = .ok (.getfield 167, 3) := by decide +kernel
theorem dX12_goesIn_4 : decode cX12_goesIn 4 = .ok (.bipush 6, 2) := by decide +kernel
theorem dX12_goesIn_6 : decode cX12_goesIn 6 = .ok (.if_icmp .ne 8, 3) := by decide +kernel
theorem dX12_goesIn_9 : decode cX12_goesIn 9 = .ok (.aload_n 0, 1) := by decide +kernel
theorem dX12_goesIn_10 : decode cX12_goesIn 10 = .ok (.invokevirtual 170, 3) := by decide +kernel
theorem dX12_goesIn_13 : decode cX12_goesIn 13 = .ok (.ireturn, 1) := by decide +kernel
theorem dX12_goesIn_14 : decode cX12_goesIn 14 = .ok (.aload_n 0, 1) := by decide +kernel
theorem dX12_goesIn_15 : decode cX12_goesIn 15 = .ok (.dup, 1) := by decide +kernel
theorem dX12_goesIn_16 : decode cX12_goesIn 16 = .ok (.getfield 167, 3) := by decide +kernel
theorem dX12_goesIn_19 : decode cX12_goesIn 19 = .ok (.iconst 1, 1) := by decide +kernel
theorem dX12_goesIn_20 : decode cX12_goesIn 20 = .ok (.iadd, 1) := by decide +kernel
theorem dX12_goesIn_21 : decode cX12_goesIn 21 = .ok (.putfield 167, 3) := by decide +kernel
theorem dX12_goesIn_24 : decode cX12_goesIn 24 = .ok (.aload_n 0, 1) := by decide +kernel
theorem dX12_goesIn_25 : decode cX12_goesIn 25 = .ok (.dup, 1) := by decide +kernel
theorem dX12_goesIn_26 : decode cX12_goesIn 26 = .ok (.getfield 155, 3) := by decide +kernel
theorem dX12_goesIn_29 : decode cX12_goesIn 29 = .ok (.iconst 1, 1) := by decide +kernel
theorem dX12_goesIn_30 : decode cX12_goesIn 30 = .ok (.iadd, 1) := by decide +kernel
theorem dX12_goesIn_31 : decode cX12_goesIn 31 = .ok (.putfield 155, 3) := by decide +kernel
theorem dX12_goesIn_34 : decode cX12_goesIn 34 = .ok (.iconst 1, 1) := by decide +kernel
theorem dX12_goesIn_35 : decode cX12_goesIn 35 = .ok (.ireturn, 1) := by decide +kernel
theorem dX12_takes_0 : decode cX12_takes 0 = .ok (.aload_n 0, 1) := by decide +kernel
theorem dX12_takes_1 : decode cX12_takes 1 = .ok (.getfield 164, 3) := by decide +kernel
theorem dX12_takes_4 : decode cX12_takes 4 = .ok (.iconst (-1), 1) := by decide +kernel
theorem dX12_takes_5 : decode cX12_takes 5 = .ok (.if_icmp .ne 11, 3) := by decide +kernel
theorem dX12_takes_8 : decode cX12_takes 8 = .ok (.aload_n 0, 1) := by decide +kernel
theorem dX12_takes_9 : decode cX12_takes 9 = .ok (.invokevirtual 174, 3) := by decide +kernel
theorem dX12_takes_12 : decode cX12_takes 12 = .ok (.iload_n 1, 1) := by decide +kernel
theorem dX12_takes_13 : decode cX12_takes 13 = .ok (.if_icmp .eq 8, 3) := by decide +kernel
theorem dX12_takes_16 : decode cX12_takes 16 = .ok (.aload_n 0, 1) := by decide +kernel
theorem dX12_takes_17 : decode cX12_takes 17 = .ok (.invokevirtual 170, 3) := by decide +kernel
theorem dX12_takes_20 : decode cX12_takes 20 = .ok (.ireturn, 1) := by decide +kernel
theorem dX12_takes_21 : decode cX12_takes 21 = .ok (.aload_n 0, 1) := by decide +kernel
theorem dX12_takes_22 : decode cX12_takes 22 = .ok (.dup, 1) := by decide +kernel
theorem dX12_takes_23 : decode cX12_takes 23 = .ok (.getfield 155, 3) := by decide +kernel
theorem dX12_takes_26 : decode cX12_takes 26 = .ok (.iconst 1, 1) := by decide +kernel
theorem dX12_takes_27 : decode cX12_takes 27 = .ok (.iadd, 1) := by decide +kernel
theorem dX12_takes_28 : decode cX12_takes 28 = .ok (.putfield 155, 3) := by decide +kernel
theorem dX12_takes_31 : decode cX12_takes 31 = .ok (.iconst 1, 1) := by decide +kernel
theorem dX12_takes_32 : decode cX12_takes 32 = .ok (.ireturn, 1) := by decide +kernel
theorem dX12_isDigit_0 : decode cX12_isDigit 0 = .ok (.aload_n 0, 1) := by decide +kernel
theorem dX12_isDigit_1 : decode cX12_isDigit 1 = .ok (.getfield 155, 3) := by decide +kernel
theorem dX12_isDigit_4 : decode cX12_isDigit 4 = .ok (.aload_n 0, 1) := by decide +kernel
theorem dX12_isDigit_5 : decode cX12_isDigit 5 = .ok (.getfield 158, 3) := by decide +kernel
theorem dX12_isDigit_8 : decode cX12_isDigit 8 = .ok (.if_icmp .ge 45, 3) := by decide +kernel
theorem dX12_isDigit_11 : decode cX12_isDigit 11 = .ok (.aload_n 0, 1) := by decide +kernel
theorem dX12_isDigit_12 : decode cX12_isDigit 12 = .ok (.getfield 23, 3) := by decide +kernel
theorem dX12_isDigit_15 : decode cX12_isDigit 15 = .ok (.aload_n 0, 1) := by decide +kernel
theorem dX12_isDigit_16 : decode cX12_isDigit 16 = .ok (.getfield 161, 3) := by decide +kernel
theorem dX12_isDigit_19 : decode cX12_isDigit 19 = .ok (.aload_n 0, 1) := by decide +kernel
theorem dX12_isDigit_20 : decode cX12_isDigit 20 = .ok (.getfield 155, 3) := by decide +kernel
theorem dX12_isDigit_23 : decode cX12_isDigit 23 = .ok (.iadd, 1) := by decide +kernel
theorem dX12_isDigit_24 : decode cX12_isDigit 24 = .ok (.baload, 1) := by decide +kernel
theorem dX12_isDigit_25 : decode cX12_isDigit 25 = .ok (.bipush 48, 2) := by decide +kernel
theorem dX12_isDigit_27 : decode cX12_isDigit 27 = .ok (.if_icmp .lt 26, 3) := by decide +kernel
theorem dX12_isDigit_30 : decode cX12_isDigit 30 = .ok (.aload_n 0, 1) := by decide +kernel
theorem dX12_isDigit_31 : decode cX12_isDigit 31 = .ok (.getfield 23, 3) := by decide +kernel
theorem dX12_isDigit_34 : decode cX12_isDigit 34 = .ok (.aload_n 0, 1) := by decide +kernel
theorem dX12_isDigit_35 : decode cX12_isDigit 35 = .ok (.getfield 161, 3) := by decide +kernel
theorem dX12_isDigit_38 : decode cX12_isDigit 38 = .ok (.aload_n 0, 1) := by decide +kernel
theorem dX12_isDigit_39 : decode cX12_isDigit 39 = .ok (.getfield 155, 3) := by decide +kernel
theorem dX12_isDigit_42 : decode cX12_isDigit 42 = .ok (.iadd, 1) := by decide +kernel
theorem dX12_isDigit_43 : decode cX12_isDigit 43 = .ok (.baload, 1) := by decide +kernel
theorem dX12_isDigit_44 : decode cX12_isDigit 44 = .ok (.bipush 57, 2) := by decide +kernel
theorem dX12_isDigit_46 : decode cX12_isDigit 46 = .ok (.if_icmp .gt 7, 3) := by decide +kernel
theorem dX12_isDigit_49 : decode cX12_isDigit 49 = .ok (.iconst 1, 1) := by decide +kernel
theorem dX12_isDigit_50 : decode cX12_isDigit 50 = .ok (.goto 4, 3) := by decide +kernel
theorem dX12_isDigit_53 : decode cX12_isDigit 53 = .ok (.iconst 0, 1) := by decide +kernel
theorem dX12_isDigit_54 : decode cX12_isDigit 54 = .ok (.ireturn, 1) := by decide +kernel
theorem dX12_within_0 : decode cX12_within 0 = .ok (.ldc2_w 177, 3) := by decide +kernel
theorem dX12_within_3 : decode cX12_within 3 = .ok (.ldc2_w 179, 3) := by decide +kernel
theorem dX12_within_6 : decode cX12_within 6 = .ok (.lload_n 0, 1) := by decide +kernel
theorem dX12_within_7 : decode cX12_within 7 = .ok (.invokestatic 181, 3) := by decide +kernel
theorem dX12_within_10 : decode cX12_within 10 = .ok (.invokestatic 187, 3) := by decide +kernel
theorem dX12_within_13 : decode cX12_within 13 = .ok (.l2i, 1) := by decide +kernel
theorem dX12_within_14 : decode cX12_within 14 = .ok (.ireturn, 1) := by decide +kernel
theorem dX12_atom_0 : decode cX12_atom 0 = .ok (.aload_n 0, 1) := by decide +kernel
theorem dX12_atom_1 : decode cX12_atom 1 = .ok (.invokevirtual 174, 3) := by decide +kernel
theorem dX12_atom_4 : decode cX12_atom 4 = .ok (.istore_n 1, 1) := by decide +kernel
theorem dX12_atom_5 : decode cX12_atom 5 = .ok (.ldc 32, 2) := by decide +kernel
theorem dX12_atom_7 : decode cX12_atom 7 = .ok (.iload_n 1, 1) := by decide +kernel
theorem dX12_atom_8 : decode cX12_atom 8 = .ok (.invokestatic 190, 3) := by decide +kernel
theorem dX12_atom_11 : decode cX12_atom 11 = .ok (.ifCond .eq 20, 3) := by decide +kernel
theorem dX12_atom_14 : decode cX12_atom 14 = .ok (.aload_n 0, 1) := by decide +kernel
theorem dX12_atom_15 : decode cX12_atom 15 = .ok (.dup, 1) := by decide +kernel
theorem dX12_atom_16 : decode cX12_atom 16 = .ok (.getfield 155, 3) := by decide +kernel
theorem dX12_atom_19 : decode cX12_atom 19 = .ok (.iconst 1, 1) := by decide +kernel
theorem dX12_atom_20 : decode cX12_atom 20 = .ok (.iadd, 1) := by decide +kernel
theorem dX12_atom_21 : decode cX12_atom 21 = .ok (.putfield 155, 3) := by decide +kernel
theorem dX12_atom_24 : decode cX12_atom 24 = .ok (.aload_n 0, 1) := by decide +kernel
theorem dX12_atom_25 : decode cX12_atom 25 = .ok (.getfield 20, 3) := by decide +kernel
theorem dX12_atom_28 : decode cX12_atom 28 = .ok (.iload_n 1, 1) := by decide +kernel
theorem dX12_atom_29 : decode cX12_atom 29 = .ok (.iaload, 1) := by decide +kernel
theorem dX12_atom_30 : decode cX12_atom 30 = .ok (.ireturn, 1) := by decide +kernel
theorem dX12_atom_31 : decode cX12_atom 31 = .ok (.iload_n 1, 1) := by decide +kernel
theorem dX12_atom_32 : decode cX12_atom 32 = .ok (.bipush 91, 2) := by decide +kernel
theorem dX12_atom_34 : decode cX12_atom 34 = .ok (.if_icmp .ne 40, 3) := by decide +kernel
theorem dX12_atom_37 : decode cX12_atom 37 = .ok (.aload_n 0, 1) := by decide +kernel
theorem dX12_atom_38 : decode cX12_atom 38 = .ok (.invokevirtual 194, 3) := by decide +kernel
theorem dX12_atom_41 : decode cX12_atom 41 = .ok (.ifCond .ne 5, 3) := by decide +kernel
theorem dX12_atom_44 : decode cX12_atom 44 = .ok (.iconst 0, 1) := by decide +kernel
theorem dX12_atom_45 : decode cX12_atom 45 = .ok (.ireturn, 1) := by decide +kernel
theorem dX12_atom_46 : decode cX12_atom 46 = .ok (.aload_n 0, 1) := by decide +kernel
theorem dX12_atom_47 : decode cX12_atom 47 = .ok (.invokevirtual 197, 3) := by decide +kernel
theorem dX12_atom_50 : decode cX12_atom 50 = .ok (.istore_n 2, 1) := by decide +kernel
theorem dX12_atom_51 : decode cX12_atom 51 = .ok (.aload_n 0, 1) := by decide +kernel
theorem dX12_atom_52 : decode cX12_atom 52 = .ok (.bipush 93, 2) := by decide +kernel
theorem dX12_atom_54 : decode cX12_atom 54 = .ok (.invokevirtual 200, 3) := by decide +kernel
theorem dX12_atom_57 : decode cX12_atom 57 = .ok (.ifCond .ne 5, 3) := by decide +kernel
theorem dX12_atom_60 : decode cX12_atom 60 = .ok (.iconst 0, 1) := by decide +kernel
theorem dX12_atom_61 : decode cX12_atom 61 = .ok (.ireturn, 1) := by decide +kernel
theorem dX12_atom_62 : decode cX12_atom 62 = .ok (.aload_n 0, 1) := by decide +kernel
theorem dX12_atom_63 : decode cX12_atom 63 = .ok (.dup, 1) := by decide +kernel
theorem dX12_atom_64 : decode cX12_atom 64 = .ok (.getfield 167, 3) := by decide +kernel
theorem dX12_atom_67 : decode cX12_atom 67 = .ok (.iconst 1, 1) := by decide +kernel
theorem dX12_atom_68 : decode cX12_atom 68 = .ok (.isub, 1) := by decide +kernel
theorem dX12_atom_69 : decode cX12_atom 69 = .ok (.putfield 167, 3) := by decide +kernel
theorem dX12_atom_72 : decode cX12_atom 72 = .ok (.iload_n 2, 1) := by decide +kernel
theorem dX12_atom_73 : decode cX12_atom 73 = .ok (.ireturn, 1) := by decide +kernel
theorem dX12_atom_74 : decode cX12_atom 74 = .ok (.aload_n 0, 1) := by decide +kernel
theorem dX12_atom_75 : decode cX12_atom 75 = .ok (.invokevirtual 204, 3) := by decide +kernel
theorem dX12_atom_78 : decode cX12_atom 78 = .ok (.ifCond .ne 8, 3) := by decide +kernel
theorem dX12_atom_81 : decode cX12_atom 81 = .ok (.aload_n 0, 1) := by decide +kernel
theorem dX12_atom_82 : decode cX12_atom 82 = .ok (.invokevirtual 170, 3) := by decide +kernel
theorem dX12_atom_85 : decode cX12_atom 85 = .ok (.pop, 1) := by decide +kernel
theorem dX12_atom_86 : decode cX12_atom 86 = .ok (.iconst 0, 1) := by decide +kernel
theorem dX12_atom_87 : decode cX12_atom 87 = .ok (.istore_n 2, 1) := by decide +kernel
theorem dX12_atom_88 : decode cX12_atom 88 = .ok (.iconst 0, 1) := by decide +kernel
theorem dX12_atom_89 : decode cX12_atom 89 = .ok (.istore_n 3, 1) := by decide +kernel
theorem dX12_atom_90 : decode cX12_atom 90 = .ok (.aload_n 0, 1) := by decide +kernel
theorem dX12_atom_91 : decode cX12_atom 91 = .ok (.invokevirtual 204, 3) := by decide +kernel
theorem dX12_atom_94 : decode cX12_atom 94 = .ok (.ifCond .eq 62, 3) := by decide +kernel
theorem dX12_atom_97 : decode cX12_atom 97 = .ok (.aload_n 0, 1) := by decide +kernel
theorem dX12_atom_98 : decode cX12_atom 98 = .ok (.getfield 164, 3) := by decide +kernel
theorem dX12_atom_101 : decode cX12_atom 101 = .ok (.iconst (-1), 1) := by decide +kernel
theorem dX12_atom_102 : decode cX12_atom 102 = .ok (.if_icmp .ne 54, 3) := by decide +kernel
theorem dX12_atom_105 : decode cX12_atom 105 = .ok (.iload_n 3, 1) := by decide +kernel
theorem dX12_atom_106 : decode cX12_atom 106 = .ok (.iconst 4, 1) := by decide +kernel
theorem dX12_atom_107 : decode cX12_atom 107 = .ok (.if_icmp .ne 10, 3) := by decide +kernel
theorem dX12_atom_110 : decode cX12_atom 110 = .ok (.aload_n 0, 1) := by decide +kernel
theorem dX12_atom_111 : decode cX12_atom 111 = .ok (.invokevirtual 170, 3) := by decide +kernel
theorem dX12_atom_114 : decode cX12_atom 114 = .ok (.pop, 1) := by decide +kernel
theorem dX12_atom_115 : decode cX12_atom 115 = .ok (.iconst 0, 1) := by decide +kernel
theorem dX12_atom_116 : decode cX12_atom 116 = .ok (.ireturn, 1) := by decide +kernel
theorem dX12_atom_117 : decode cX12_atom 117 = .ok (.bipush 10, 2) := by decide +kernel
theorem dX12_atom_119 : decode cX12_atom 119 = .ok (.iload_n 2, 1) := by decide +kernel
theorem dX12_atom_120 : decode cX12_atom 120 = .ok (.imul, 1) := by decide +kernel
theorem dX12_atom_121 : decode cX12_atom 121 = .ok (.aload_n 0, 1) := by decide +kernel
theorem dX12_atom_122 : decode cX12_atom 122 = .ok (.getfield 23, 3) := by decide +kernel
theorem dX12_atom_125 : decode cX12_atom 125 = .ok (.aload_n 0, 1) := by decide +kernel
theorem dX12_atom_126 : decode cX12_atom 126 = .ok (.getfield 161, 3) := by decide +kernel
theorem dX12_atom_129 : decode cX12_atom 129 = .ok (.aload_n 0, 1) := by decide +kernel
theorem dX12_atom_130 : decode cX12_atom 130 = .ok (.getfield 155, 3) := by decide +kernel
theorem dX12_atom_133 : decode cX12_atom 133 = .ok (.iadd, 1) := by decide +kernel
theorem dX12_atom_134 : decode cX12_atom 134 = .ok (.baload, 1) := by decide +kernel
theorem dX12_atom_135 : decode cX12_atom 135 = .ok (.iadd, 1) := by decide +kernel
theorem dX12_atom_136 : decode cX12_atom 136 = .ok (.bipush 48, 2) := by decide +kernel
theorem dX12_atom_138 : decode cX12_atom 138 = .ok (.isub, 1) := by decide +kernel
theorem dX12_atom_139 : decode cX12_atom 139 = .ok (.istore_n 2, 1) := by decide +kernel
theorem dX12_atom_140 : decode cX12_atom 140 = .ok (.aload_n 0, 1) := by decide +kernel
theorem dX12_atom_141 : decode cX12_atom 141 = .ok (.dup, 1) := by decide +kernel
theorem dX12_atom_142 : decode cX12_atom 142 = .ok (.getfield 155, 3) := by decide +kernel
theorem dX12_atom_145 : decode cX12_atom 145 = .ok (.iconst 1, 1) := by decide +kernel
theorem dX12_atom_146 : decode cX12_atom 146 = .ok (.iadd, 1) := by decide +kernel
theorem dX12_atom_147 : decode cX12_atom 147 = .ok (.putfield 155, 3) := by decide +kernel
theorem dX12_atom_150 : decode cX12_atom 150 = .ok (.iinc 3 1, 3) := by decide +kernel
theorem dX12_atom_153 : decode cX12_atom 153 = .ok (.goto (-63), 3) := by decide +kernel
theorem dX12_atom_156 : decode cX12_atom 156 = .ok (.iload_n 2, 1) := by decide +kernel
theorem dX12_atom_157 : decode cX12_atom 157 = .ok (.ireturn, 1) := by decide +kernel
theorem dX12_term_0 : decode cX12_term 0 = .ok (.aload_n 0, 1) := by decide +kernel
theorem dX12_term_1 : decode cX12_term 1 = .ok (.invokevirtual 207, 3) := by decide +kernel
theorem dX12_term_4 : decode cX12_term 4 = .ok (.istore_n 1, 1) := by decide +kernel
theorem dX12_term_5 : decode cX12_term 5 = .ok (.aload_n 0, 1) := by decide +kernel
theorem dX12_term_6 : decode cX12_term 6 = .ok (.getfield 164, 3) := by decide +kernel
theorem dX12_term_9 : decode cX12_term 9 = .ok (.iconst (-1), 1) := by decide +kernel
theorem dX12_term_10 : decode cX12_term 10 = .ok (.if_icmp .ne 84, 3) := by decide +kernel
theorem dX12_term_13 : decode cX12_term 13 = .ok (.aload_n 0, 1) := by decide +kernel
theorem dX12_term_14 : decode cX12_term 14 = .ok (.invokevirtual 174, 3) := by decide +kernel
theorem dX12_term_17 : decode cX12_term 17 = .ok (.bipush 42, 2) := by decide +kernel
theorem dX12_term_19 : decode cX12_term 19 = .ok (.if_icmp .eq 12, 3) := by decide +kernel
theorem dX12_term_22 : decode cX12_term 22 = .ok (.aload_n 0, 1) := by decide +kernel
theorem dX12_term_23 : decode cX12_term 23 = .ok (.invokevirtual 174, 3) := by decide +kernel
theorem dX12_term_26 : decode cX12_term 26 = .ok (.bipush 47, 2) := by decide +kernel
theorem dX12_term_28 : decode cX12_term 28 = .ok (.if_icmp .ne 66, 3) := by decide +kernel
theorem dX12_term_31 : decode cX12_term 31 = .ok (.aload_n 0, 1) := by decide +kernel
theorem dX12_term_32 : decode cX12_term 32 = .ok (.invokevirtual 174, 3) := by decide +kernel
theorem dX12_term_35 : decode cX12_term 35 = .ok (.bipush 42, 2) := by decide +kernel
theorem dX12_term_37 : decode cX12_term 37 = .ok (.if_icmp .ne 7, 3) := by decide +kernel
theorem dX12_term_40 : decode cX12_term 40 = .ok (.iconst 1, 1) := by decide +kernel
theorem dX12_term_41 : decode cX12_term 41 = .ok (.goto 4, 3) := by decide +kernel
theorem dX12_term_44 : decode cX12_term 44 = .ok (.iconst 0, 1) := by decide +kernel
theorem dX12_term_45 : decode cX12_term 45 = .ok (.istore_n 2, 1) := by decide +kernel
theorem dX12_term_46 : decode cX12_term 46 = .ok (.aload_n 0, 1) := by decide +kernel
theorem dX12_term_47 : decode cX12_term 47 = .ok (.dup, 1) := by decide +kernel
theorem dX12_term_48 : decode cX12_term 48 = .ok (.getfield 155, 3) := by decide +kernel
theorem dX12_term_51 : decode cX12_term 51 = .ok (.iconst 1, 1) := by decide +kernel
theorem dX12_term_52 : decode cX12_term 52 = .ok (.iadd, 1) := by decide +kernel
theorem dX12_term_53 : decode cX12_term 53 = .ok (.putfield 155, 3) := by decide +kernel
theorem dX12_term_56 : decode cX12_term 56 = .ok (.aload_n 0, 1) := by decide +kernel
theorem dX12_term_57 : decode cX12_term 57 = .ok (.invokevirtual 207, 3) := by decide +kernel
theorem dX12_term_60 : decode cX12_term 60 = .ok (.i2l, 1) := by decide +kernel
theorem dX12_term_61 : decode cX12_term 61 = .ok (.lstore_n 3, 1) := by decide +kernel
theorem dX12_term_62 : decode cX12_term 62 = .ok (.iload_n 2, 1) := by decide +kernel
theorem dX12_term_63 : decode cX12_term 63 = .ok (.ifCond .eq 10, 3) := by decide +kernel
theorem dX12_term_66 : decode cX12_term 66 = .ok (.iload_n 1, 1) := by decide +kernel
theorem dX12_term_67 : decode cX12_term 67 = .ok (.i2l, 1) := by decide +kernel
theorem dX12_term_68 : decode cX12_term 68 = .ok (.lload_n 3, 1) := by decide +kernel
theorem dX12_term_69 : decode cX12_term 69 = .ok (.lmul, 1) := by decide +kernel
theorem dX12_term_70 : decode cX12_term 70 = .ok (.goto 17, 3) := by decide +kernel
theorem dX12_term_73 : decode cX12_term 73 = .ok (.lload_n 3, 1) := by decide +kernel
theorem dX12_term_74 : decode cX12_term 74 = .ok (.lconst 0, 1) := by decide +kernel
theorem dX12_term_75 : decode cX12_term 75 = .ok (.lcmp, 1) := by decide +kernel
theorem dX12_term_76 : decode cX12_term 76 = .ok (.ifCond .ne 7, 3) := by decide +kernel
theorem dX12_term_79 : decode cX12_term 79 = .ok (.lconst 0, 1) := by decide +kernel
theorem dX12_term_80 : decode cX12_term 80 = .ok (.goto 7, 3) := by decide +kernel
theorem dX12_term_83 : decode cX12_term 83 = .ok (.iload_n 1, 1) := by decide +kernel
theorem dX12_term_84 : decode cX12_term 84 = .ok (.i2l, 1) := by decide +kernel
theorem dX12_term_85 : decode cX12_term 85 = .ok (.lload_n 3, 1) := by decide +kernel
theorem dX12_term_86 : decode cX12_term 86 = .ok (.ldiv, 1) := by decide +kernel
theorem dX12_term_87 : decode cX12_term 87 = .ok (.invokestatic 210, 3) := by decide +kernel
theorem dX12_term_90 : decode cX12_term 90 = .ok (.istore_n 1, 1) := by decide +kernel
theorem dX12_term_91 : decode cX12_term 91 = .ok (.goto (-86), 3) := by decide +kernel
theorem dX12_term_94 : decode cX12_term 94 = .ok (.iload_n 1, 1) := by decide +kernel
theorem dX12_term_95 : decode cX12_term 95 = .ok (.ireturn, 1) := by decide +kernel
theorem dX12_sum_0 : decode cX12_sum 0 = .ok (.aload_n 0, 1) := by decide +kernel
theorem dX12_sum_1 : decode cX12_sum 1 = .ok (.invokevirtual 214, 3) := by decide +kernel
theorem dX12_sum_4 : decode cX12_sum 4 = .ok (.istore_n 1, 1) := by decide +kernel
theorem dX12_sum_5 : decode cX12_sum 5 = .ok (.aload_n 0, 1) := by decide +kernel
theorem dX12_sum_6 : decode cX12_sum 6 = .ok (.getfield 164, 3) := by decide +kernel
theorem dX12_sum_9 : decode cX12_sum 9 = .ok (.iconst (-1), 1) := by decide +kernel
theorem dX12_sum_10 : decode cX12_sum 10 = .ok (.if_icmp .ne 74, 3) := by decide +kernel
theorem dX12_sum_13 : decode cX12_sum 13 = .ok (.aload_n 0, 1) := by decide +kernel
theorem dX12_sum_14 : decode cX12_sum 14 = .ok (.invokevirtual 174, 3) := by decide +kernel
theorem dX12_sum_17 : decode cX12_sum 17 = .ok (.bipush 43, 2) := by decide +kernel
theorem dX12_sum_19 : decode cX12_sum 19 = .ok (.if_icmp .eq 12, 3) := by decide +kernel
theorem dX12_sum_22 : decode cX12_sum 22 = .ok (.aload_n 0, 1) := by decide +kernel
theorem dX12_sum_23 : decode cX12_sum 23 = .ok (.invokevirtual 174, 3) := by decide +kernel
theorem dX12_sum_26 : decode cX12_sum 26 = .ok (.bipush 45, 2) := by decide +kernel
theorem dX12_sum_28 : decode cX12_sum 28 = .ok (.if_icmp .ne 56, 3) := by decide +kernel
theorem dX12_sum_31 : decode cX12_sum 31 = .ok (.aload_n 0, 1) := by decide +kernel
theorem dX12_sum_32 : decode cX12_sum 32 = .ok (.invokevirtual 174, 3) := by decide +kernel
theorem dX12_sum_35 : decode cX12_sum 35 = .ok (.bipush 43, 2) := by decide +kernel
theorem dX12_sum_37 : decode cX12_sum 37 = .ok (.if_icmp .ne 7, 3) := by decide +kernel
theorem dX12_sum_40 : decode cX12_sum 40 = .ok (.iconst 1, 1) := by decide +kernel
theorem dX12_sum_41 : decode cX12_sum 41 = .ok (.goto 4, 3) := by decide +kernel
theorem dX12_sum_44 : decode cX12_sum 44 = .ok (.iconst 0, 1) := by decide +kernel
theorem dX12_sum_45 : decode cX12_sum 45 = .ok (.istore_n 2, 1) := by decide +kernel
theorem dX12_sum_46 : decode cX12_sum 46 = .ok (.aload_n 0, 1) := by decide +kernel
theorem dX12_sum_47 : decode cX12_sum 47 = .ok (.dup, 1) := by decide +kernel
theorem dX12_sum_48 : decode cX12_sum 48 = .ok (.getfield 155, 3) := by decide +kernel
theorem dX12_sum_51 : decode cX12_sum 51 = .ok (.iconst 1, 1) := by decide +kernel
theorem dX12_sum_52 : decode cX12_sum 52 = .ok (.iadd, 1) := by decide +kernel
theorem dX12_sum_53 : decode cX12_sum 53 = .ok (.putfield 155, 3) := by decide +kernel
theorem dX12_sum_56 : decode cX12_sum 56 = .ok (.aload_n 0, 1) := by decide +kernel
theorem dX12_sum_57 : decode cX12_sum 57 = .ok (.invokevirtual 214, 3) := by decide +kernel
theorem dX12_sum_60 : decode cX12_sum 60 = .ok (.i2l, 1) := by decide +kernel
theorem dX12_sum_61 : decode cX12_sum 61 = .ok (.lstore_n 3, 1) := by decide +kernel
theorem dX12_sum_62 : decode cX12_sum 62 = .ok (.iload_n 2, 1) := by decide +kernel
theorem dX12_sum_63 : decode cX12_sum 63 = .ok (.ifCond .eq 10, 3) := by decide +kernel
theorem dX12_sum_66 : decode cX12_sum 66 = .ok (.iload_n 1, 1) := by decide +kernel
theorem dX12_sum_67 : decode cX12_sum 67 = .ok (.i2l, 1) := by decide +kernel
theorem dX12_sum_68 : decode cX12_sum 68 = .ok (.lload_n 3, 1) := by decide +kernel
theorem dX12_sum_69 : decode cX12_sum 69 = .ok (.ladd, 1) := by decide +kernel
theorem dX12_sum_70 : decode cX12_sum 70 = .ok (.goto 7, 3) := by decide +kernel
theorem dX12_sum_73 : decode cX12_sum 73 = .ok (.iload_n 1, 1) := by decide +kernel
theorem dX12_sum_74 : decode cX12_sum 74 = .ok (.i2l, 1) := by decide +kernel
theorem dX12_sum_75 : decode cX12_sum 75 = .ok (.lload_n 3, 1) := by decide +kernel
theorem dX12_sum_76 : decode cX12_sum 76 = .ok (.lsub, 1) := by decide +kernel
theorem dX12_sum_77 : decode cX12_sum 77 = .ok (.invokestatic 210, 3) := by decide +kernel
theorem dX12_sum_80 : decode cX12_sum 80 = .ok (.istore_n 1, 1) := by decide +kernel
theorem dX12_sum_81 : decode cX12_sum 81 = .ok (.goto (-76), 3) := by decide +kernel
theorem dX12_sum_84 : decode cX12_sum 84 = .ok (.iload_n 1, 1) := by decide +kernel
theorem dX12_sum_85 : decode cX12_sum 85 = .ok (.ireturn, 1) := by decide +kernel
theorem dX12_isSign_0 : decode cX12_isSign 0 = .ok (.iload_n 0, 1) := by decide +kernel
theorem dX12_isSign_1 : decode cX12_isSign 1 = .ok (.bipush 61, 2) := by decide +kernel
theorem dX12_isSign_3 : decode cX12_isSign 3 = .ok (.if_icmp .eq 15, 3) := by decide +kernel
theorem dX12_isSign_6 : decode cX12_isSign 6 = .ok (.iload_n 0, 1) := by decide +kernel
theorem dX12_isSign_7 : decode cX12_isSign 7 = .ok (.bipush 60, 2) := by decide +kernel
theorem dX12_isSign_9 : decode cX12_isSign 9 = .ok (.if_icmp .eq 9, 3) := by decide +kernel
theorem dX12_isSign_12 : decode cX12_isSign 12 = .ok (.iload_n 0, 1) := by decide +kernel
theorem dX12_isSign_13 : decode cX12_isSign 13 = .ok (.bipush 62, 2) := by decide +kernel
theorem dX12_isSign_15 : decode cX12_isSign 15 = .ok (.if_icmp .ne 7, 3) := by decide +kernel
theorem dX12_isSign_18 : decode cX12_isSign 18 = .ok (.iconst 1, 1) := by decide +kernel
theorem dX12_isSign_19 : decode cX12_isSign 19 = .ok (.goto 4, 3) := by decide +kernel
theorem dX12_isSign_22 : decode cX12_isSign 22 = .ok (.iconst 0, 1) := by decide +kernel
theorem dX12_isSign_23 : decode cX12_isSign 23 = .ok (.ireturn, 1) := by decide +kernel
theorem dX12_compares_0 : decode cX12_compares 0 = .ok (.iload_n 1, 1) := by decide +kernel
theorem dX12_compares_1 : decode cX12_compares 1 = .ok (.ifCond .eq 7, 3) := by decide +kernel
theorem dX12_compares_4 : decode cX12_compares 4 = .ok (.iload_n 2, 1) := by decide +kernel
theorem dX12_compares_5 : decode cX12_compares 5 = .ok (.goto 7, 3) := by decide +kernel
theorem dX12_compares_8 : decode cX12_compares 8 = .ok (.aload_n 0, 1) := by decide +kernel
theorem dX12_compares_9 : decode cX12_compares 9 = .ok (.invokevirtual 197, 3) := by decide +kernel
theorem dX12_compares_12 : decode cX12_compares 12 = .ok (.istore_n 3, 1) := by decide +kernel
theorem dX12_compares_13 : decode cX12_compares 13 = .ok (.aload_n 0, 1) := by decide +kernel
theorem dX12_compares_14 : decode cX12_compares 14 = .ok (.getfield 164, 3) := by decide +kernel
theorem dX12_compares_17 : decode cX12_compares 17 = .ok (.iconst (-1), 1) := by decide +kernel
theorem dX12_compares_18 : decode cX12_compares 18 = .ok (.if_icmp .eq 5, 3) := by decide +kernel
theorem dX12_compares_21 : decode cX12_compares 21 = .ok (.iconst 0, 1) := by decide +kernel
theorem dX12_compares_22 : decode cX12_compares 22 = .ok (.ireturn, 1) := by decide +kernel
theorem dX12_compares_23 : decode cX12_compares 23 = .ok (.aload_n 0, 1) := by decide +kernel
theorem dX12_compares_24 : decode cX12_compares 24 = .ok (.invokevirtual 174, 3) := by decide +kernel
theorem dX12_compares_27 : decode cX12_compares 27 = .ok (.istore 4, 2) := by decide +kernel
theorem dX12_compares_29 : decode cX12_compares 29 = .ok (.iload 4, 2) := by decide +kernel
theorem dX12_compares_31 : decode cX12_compares 31 = .ok (.invokestatic 217, 3) := by decide +kernel
theorem dX12_compares_34 : decode cX12_compares 34 = .ok (.ifCond .ne 8, 3) := by decide +kernel
theorem dX12_compares_37 : decode cX12_compares 37 = .ok (.aload_n 0, 1) := by decide +kernel
theorem dX12_compares_38 : decode cX12_compares 38 = .ok (.invokevirtual 170, 3) := by decide +kernel
theorem dX12_compares_41 : decode cX12_compares 41 = .ok (.ireturn, 1) := by decide +kernel
theorem dX12_compares_42 : decode cX12_compares 42 = .ok (.aload_n 0, 1) := by decide +kernel
theorem dX12_compares_43 : decode cX12_compares 43 = .ok (.dup, 1) := by decide +kernel
theorem dX12_compares_44 : decode cX12_compares 44 = .ok (.getfield 155, 3) := by decide +kernel
theorem dX12_compares_47 : decode cX12_compares 47 = .ok (.iconst 1, 1) := by decide +kernel
theorem dX12_compares_48 : decode cX12_compares 48 = .ok (.iadd, 1) := by decide +kernel
theorem dX12_compares_49 : decode cX12_compares 49 = .ok (.putfield 155, 3) := by decide +kernel
theorem dX12_compares_52 : decode cX12_compares 52 = .ok (.aload_n 0, 1) := by decide +kernel
theorem dX12_compares_53 : decode cX12_compares 53 = .ok (.invokevirtual 197, 3) := by decide +kernel
theorem dX12_compares_56 : decode cX12_compares 56 = .ok (.istore 5, 2) := by decide +kernel
theorem dX12_compares_58 : decode cX12_compares 58 = .ok (.iload 4, 2) := by decide +kernel
theorem dX12_compares_60 : decode cX12_compares 60 = .ok (.bipush 61, 2) := by decide +kernel
theorem dX12_compares_62 : decode cX12_compares 62 = .ok (.if_icmp .ne 17, 3) := by decide +kernel
theorem dX12_compares_65 : decode cX12_compares 65 = .ok (.iload_n 3, 1) := by decide +kernel
theorem dX12_compares_66 : decode cX12_compares 66 = .ok (.iload 5, 2) := by decide +kernel
theorem dX12_compares_68 : decode cX12_compares 68 = .ok (.if_icmp .ne 7, 3) := by decide +kernel
theorem dX12_compares_71 : decode cX12_compares 71 = .ok (.iconst 1, 1) := by decide +kernel
theorem dX12_compares_72 : decode cX12_compares 72 = .ok (.goto 39, 3) := by decide +kernel
theorem dX12_compares_75 : decode cX12_compares 75 = .ok (.iconst 0, 1) := by decide +kernel
theorem dX12_compares_76 : decode cX12_compares 76 = .ok (.goto 35, 3) := by decide +kernel
theorem dX12_compares_79 : decode cX12_compares 79 = .ok (.iload 4, 2) := by decide +kernel
theorem dX12_compares_81 : decode cX12_compares 81 = .ok (.bipush 60, 2) := by decide +kernel
theorem dX12_compares_83 : decode cX12_compares 83 = .ok (.if_icmp .ne 17, 3) := by decide +kernel
theorem dX12_compares_86 : decode cX12_compares 86 = .ok (.iload_n 3, 1) := by decide +kernel
theorem dX12_compares_87 : decode cX12_compares 87 = .ok (.iload 5, 2) := by decide +kernel
theorem dX12_compares_89 : decode cX12_compares 89 = .ok (.if_icmp .ge 7, 3) := by decide +kernel
theorem dX12_compares_92 : decode cX12_compares 92 = .ok (.iconst 1, 1) := by decide +kernel
theorem dX12_compares_93 : decode cX12_compares 93 = .ok (.goto 18, 3) := by decide +kernel
theorem dX12_compares_96 : decode cX12_compares 96 = .ok (.iconst 0, 1) := by decide +kernel
theorem dX12_compares_97 : decode cX12_compares 97 = .ok (.goto 14, 3) := by decide +kernel
theorem dX12_compares_100 : decode cX12_compares 100 = .ok (.iload_n 3, 1) := by decide +kernel
theorem dX12_compares_101 : decode cX12_compares 101 = .ok (.iload 5, 2) := by decide +kernel
theorem dX12_compares_103 : decode cX12_compares 103 = .ok (.if_icmp .le 7, 3) := by decide +kernel
theorem dX12_compares_106 : decode cX12_compares 106 = .ok (.iconst 1, 1) := by decide +kernel
theorem dX12_compares_107 : decode cX12_compares 107 = .ok (.goto 4, 3) := by decide +kernel
theorem dX12_compares_110 : decode cX12_compares 110 = .ok (.iconst 0, 1) := by decide +kernel
theorem dX12_compares_111 : decode cX12_compares 111 = .ok (.ireturn, 1) := by decide +kernel
theorem dX12_unit_0 : decode cX12_unit 0 = .ok (.aload_n 0, 1) := by decide +kernel
theorem dX12_unit_1 : decode cX12_unit 1 = .ok (.invokevirtual 174, 3) := by decide +kernel
theorem dX12_unit_4 : decode cX12_unit 4 = .ok (.istore_n 1, 1) := by decide +kernel
theorem dX12_unit_5 : decode cX12_unit 5 = .ok (.iload_n 1, 1) := by decide +kernel
theorem dX12_unit_6 : decode cX12_unit 6 = .ok (.bipush 33, 2) := by decide +kernel
theorem dX12_unit_8 : decode cX12_unit 8 = .ok (.if_icmp .ne 37, 3) := by decide +kernel
theorem dX12_unit_11 : decode cX12_unit 11 = .ok (.aload_n 0, 1) := by decide +kernel
theorem dX12_unit_12 : decode cX12_unit 12 = .ok (.invokevirtual 194, 3) := by decide +kernel
theorem dX12_unit_15 : decode cX12_unit 15 = .ok (.ifCond .ne 5, 3) := by decide +kernel
theorem dX12_unit_18 : decode cX12_unit 18 = .ok (.iconst 0, 1) := by decide +kernel
theorem dX12_unit_19 : decode cX12_unit 19 = .ok (.ireturn, 1) := by decide +kernel
theorem dX12_unit_20 : decode cX12_unit 20 = .ok (.aload_n 0, 1) := by decide +kernel
theorem dX12_unit_21 : decode cX12_unit 21 = .ok (.invokevirtual 220, 3) := by decide +kernel
theorem dX12_unit_24 : decode cX12_unit 24 = .ok (.istore_n 2, 1) := by decide +kernel
theorem dX12_unit_25 : decode cX12_unit 25 = .ok (.aload_n 0, 1) := by decide +kernel
theorem dX12_unit_26 : decode cX12_unit 26 = .ok (.dup, 1) := by decide +kernel
theorem dX12_unit_27 : decode cX12_unit 27 = .ok (.getfield 167, 3) := by decide +kernel
theorem dX12_unit_30 : decode cX12_unit 30 = .ok (.iconst 1, 1) := by decide +kernel
theorem dX12_unit_31 : decode cX12_unit 31 = .ok (.isub, 1) := by decide +kernel
theorem dX12_unit_32 : decode cX12_unit 32 = .ok (.putfield 167, 3) := by decide +kernel
theorem dX12_unit_35 : decode cX12_unit 35 = .ok (.iload_n 2, 1) := by decide +kernel
theorem dX12_unit_36 : decode cX12_unit 36 = .ok (.ifCond .ne 7, 3) := by decide +kernel
theorem dX12_unit_39 : decode cX12_unit 39 = .ok (.iconst 1, 1) := by decide +kernel
theorem dX12_unit_40 : decode cX12_unit 40 = .ok (.goto 4, 3) := by decide +kernel
theorem dX12_unit_43 : decode cX12_unit 43 = .ok (.iconst 0, 1) := by decide +kernel
theorem dX12_unit_44 : decode cX12_unit 44 = .ok (.ireturn, 1) := by decide +kernel
theorem dX12_unit_45 : decode cX12_unit 45 = .ok (.iload_n 1, 1) := by decide +kernel
theorem dX12_unit_46 : decode cX12_unit 46 = .ok (.bipush 40, 2) := by decide +kernel
theorem dX12_unit_48 : decode cX12_unit 48 = .ok (.if_icmp .ne 42, 3) := by decide +kernel
theorem dX12_unit_51 : decode cX12_unit 51 = .ok (.aload_n 0, 1) := by decide +kernel
theorem dX12_unit_52 : decode cX12_unit 52 = .ok (.invokevirtual 194, 3) := by decide +kernel
theorem dX12_unit_55 : decode cX12_unit 55 = .ok (.ifCond .ne 5, 3) := by decide +kernel
theorem dX12_unit_58 : decode cX12_unit 58 = .ok (.iconst 0, 1) := by decide +kernel
theorem dX12_unit_59 : decode cX12_unit 59 = .ok (.ireturn, 1) := by decide +kernel
theorem dX12_unit_60 : decode cX12_unit 60 = .ok (.aload_n 0, 1) := by decide +kernel
theorem dX12_unit_61 : decode cX12_unit 61 = .ok (.iconst 0, 1) := by decide +kernel
theorem dX12_unit_62 : decode cX12_unit 62 = .ok (.iconst 0, 1) := by decide +kernel
theorem dX12_unit_63 : decode cX12_unit 63 = .ok (.invokevirtual 223, 3) := by decide +kernel
theorem dX12_unit_66 : decode cX12_unit 66 = .ok (.istore_n 2, 1) := by decide +kernel
theorem dX12_unit_67 : decode cX12_unit 67 = .ok (.aload_n 0, 1) := by decide +kernel
theorem dX12_unit_68 : decode cX12_unit 68 = .ok (.bipush 41, 2) := by decide +kernel
theorem dX12_unit_70 : decode cX12_unit 70 = .ok (.invokevirtual 200, 3) := by decide +kernel
theorem dX12_unit_73 : decode cX12_unit 73 = .ok (.ifCond .ne 5, 3) := by decide +kernel
theorem dX12_unit_76 : decode cX12_unit 76 = .ok (.iconst 0, 1) := by decide +kernel
theorem dX12_unit_77 : decode cX12_unit 77 = .ok (.ireturn, 1) := by decide +kernel
theorem dX12_unit_78 : decode cX12_unit 78 = .ok (.aload_n 0, 1) := by decide +kernel
theorem dX12_unit_79 : decode cX12_unit 79 = .ok (.dup, 1) := by decide +kernel
theorem dX12_unit_80 : decode cX12_unit 80 = .ok (.getfield 167, 3) := by decide +kernel
theorem dX12_unit_83 : decode cX12_unit 83 = .ok (.iconst 1, 1) := by decide +kernel
theorem dX12_unit_84 : decode cX12_unit 84 = .ok (.isub, 1) := by decide +kernel
theorem dX12_unit_85 : decode cX12_unit 85 = .ok (.putfield 167, 3) := by decide +kernel
theorem dX12_unit_88 : decode cX12_unit 88 = .ok (.iload_n 2, 1) := by decide +kernel
theorem dX12_unit_89 : decode cX12_unit 89 = .ok (.ireturn, 1) := by decide +kernel
theorem dX12_unit_90 : decode cX12_unit 90 = .ok (.aload_n 0, 1) := by decide +kernel
theorem dX12_unit_91 : decode cX12_unit 91 = .ok (.iconst 0, 1) := by decide +kernel
theorem dX12_unit_92 : decode cX12_unit 92 = .ok (.iconst 0, 1) := by decide +kernel
theorem dX12_unit_93 : decode cX12_unit 93 = .ok (.invokevirtual 227, 3) := by decide +kernel
theorem dX12_unit_96 : decode cX12_unit 96 = .ok (.ireturn, 1) := by decide +kernel
theorem dX12_part_0 : decode cX12_part 0 = .ok (.iload_n 1, 1) := by decide +kernel
theorem dX12_part_1 : decode cX12_part 1 = .ok (.ifCond .eq 12, 3) := by decide +kernel
theorem dX12_part_4 : decode cX12_part 4 = .ok (.aload_n 0, 1) := by decide +kernel
theorem dX12_part_5 : decode cX12_part 5 = .ok (.iconst 1, 1) := by decide +kernel
theorem dX12_part_6 : decode cX12_part 6 = .ok (.iload_n 2, 1) := by decide +kernel
theorem dX12_part_7 : decode cX12_part 7 = .ok (.invokevirtual 227, 3) := by decide +kernel
theorem dX12_part_10 : decode cX12_part 10 = .ok (.goto 7, 3) := by decide +kernel
theorem dX12_part_13 : decode cX12_part 13 = .ok (.aload_n 0, 1) := by decide +kernel
theorem dX12_part_14 : decode cX12_part 14 = .ok (.invokevirtual 220, 3) := by decide +kernel
theorem dX12_part_17 : decode cX12_part 17 = .ok (.istore_n 3, 1) := by decide +kernel
theorem dX12_part_18 : decode cX12_part 18 = .ok (.aload_n 0, 1) := by decide +kernel
theorem dX12_part_19 : decode cX12_part 19 = .ok (.getfield 164, 3) := by decide +kernel
theorem dX12_part_22 : decode cX12_part 22 = .ok (.iconst (-1), 1) := by decide +kernel
theorem dX12_part_23 : decode cX12_part 23 = .ok (.if_icmp .ne 46, 3) := by decide +kernel
theorem dX12_part_26 : decode cX12_part 26 = .ok (.aload_n 0, 1) := by decide +kernel
theorem dX12_part_27 : decode cX12_part 27 = .ok (.invokevirtual 174, 3) := by decide +kernel
theorem dX12_part_30 : decode cX12_part 30 = .ok (.bipush 38, 2) := by decide +kernel
theorem dX12_part_32 : decode cX12_part 32 = .ok (.if_icmp .ne 37, 3) := by decide +kernel
theorem dX12_part_35 : decode cX12_part 35 = .ok (.aload_n 0, 1) := by decide +kernel
theorem dX12_part_36 : decode cX12_part 36 = .ok (.dup, 1) := by decide +kernel
theorem dX12_part_37 : decode cX12_part 37 = .ok (.getfield 155, 3) := by decide +kernel
theorem dX12_part_40 : decode cX12_part 40 = .ok (.iconst 1, 1) := by decide +kernel
theorem dX12_part_41 : decode cX12_part 41 = .ok (.iadd, 1) := by decide +kernel
theorem dX12_part_42 : decode cX12_part 42 = .ok (.putfield 155, 3) := by decide +kernel
theorem dX12_part_45 : decode cX12_part 45 = .ok (.aload_n 0, 1) := by decide +kernel
theorem dX12_part_46 : decode cX12_part 46 = .ok (.invokevirtual 220, 3) := by decide +kernel
theorem dX12_part_49 : decode cX12_part 49 = .ok (.istore 4, 2) := by decide +kernel
theorem dX12_part_51 : decode cX12_part 51 = .ok (.iload_n 3, 1) := by decide +kernel
theorem dX12_part_52 : decode cX12_part 52 = .ok (.ifCond .eq 12, 3) := by decide +kernel
theorem dX12_part_55 : decode cX12_part 55 = .ok (.iload 4, 2) := by decide +kernel
theorem dX12_part_57 : decode cX12_part 57 = .ok (.ifCond .eq 7, 3) := by decide +kernel
theorem dX12_part_60 : decode cX12_part 60 = .ok (.iconst 1, 1) := by decide +kernel
theorem dX12_part_61 : decode cX12_part 61 = .ok (.goto 4, 3) := by decide +kernel
theorem dX12_part_64 : decode cX12_part 64 = .ok (.iconst 0, 1) := by decide +kernel
theorem dX12_part_65 : decode cX12_part 65 = .ok (.istore_n 3, 1) := by decide +kernel
theorem dX12_part_66 : decode cX12_part 66 = .ok (.goto (-48), 3) := by decide +kernel
theorem dX12_part_69 : decode cX12_part 69 = .ok (.iload_n 3, 1) := by decide +kernel
theorem dX12_part_70 : decode cX12_part 70 = .ok (.ireturn, 1) := by decide +kernel
theorem dX12_condition_0 : decode cX12_condition 0 = .ok (.aload_n 0, 1) := by decide +kernel
theorem dX12_condition_1 : decode cX12_condition 1 = .ok (.iload_n 1, 1) := by decide +kernel
theorem dX12_condition_2 : decode cX12_condition 2 = .ok (.iload_n 2, 1) := by decide +kernel
theorem dX12_condition_3 : decode cX12_condition 3 = .ok (.invokevirtual 230, 3) := by decide +kernel
theorem dX12_condition_6 : decode cX12_condition 6 = .ok (.istore_n 3, 1) := by decide +kernel
theorem dX12_condition_7 : decode cX12_condition 7 = .ok (.aload_n 0, 1) := by decide +kernel
theorem dX12_condition_8 : decode cX12_condition 8 = .ok (.getfield 164, 3) := by decide +kernel
theorem dX12_condition_11 : decode cX12_condition 11 = .ok (.iconst (-1), 1) := by decide +kernel
theorem dX12_condition_12 : decode cX12_condition 12 = .ok (.if_icmp .ne 48, 3) := by decide +kernel
theorem dX12_condition_15 : decode cX12_condition 15 = .ok (.aload_n 0, 1) := by decide +kernel
theorem dX12_condition_16 : decode cX12_condition 16 = .ok (.invokevirtual 174, 3) := by decide +kernel
theorem dX12_condition_19 : decode cX12_condition 19 = .ok (.bipush 124, 2) := by decide +kernel
theorem dX12_condition_21 : decode cX12_condition 21 = .ok (.if_icmp .ne 39, 3) := by decide +kernel
theorem dX12_condition_24 : decode cX12_condition 24 = .ok (.aload_n 0, 1) := by decide +kernel
theorem dX12_condition_25 : decode cX12_condition 25 = .ok (.dup, 1) := by decide +kernel
theorem dX12_condition_26 : decode cX12_condition 26 = .ok (.getfield 155, 3) := by decide +kernel
theorem dX12_condition_29 : decode cX12_condition 29 = .ok (.iconst 1, 1) := by decide +kernel
theorem dX12_condition_30 : decode cX12_condition 30 = .ok (.iadd, 1) := by decide +kernel
theorem dX12_condition_31 : decode cX12_condition 31 = .ok (.putfield 155, 3) := by decide +kernel
theorem dX12_condition_34 : decode cX12_condition 34 = .ok (.aload_n 0, 1) := by decide +kernel
theorem dX12_condition_35 : decode cX12_condition 35 = .ok (.iconst 0, 1) := by decide +kernel
theorem dX12_condition_36 : decode cX12_condition 36 = .ok (.iconst 0, 1) := by decide +kernel
theorem dX12_condition_37 : decode cX12_condition 37 = .ok (.invokevirtual 230, 3) := by decide +kernel
theorem dX12_condition_40 : decode cX12_condition 40 = .ok (.istore 4, 2) := by decide +kernel
theorem dX12_condition_42 : decode cX12_condition 42 = .ok (.iload_n 3, 1) := by decide +kernel
theorem dX12_condition_43 : decode cX12_condition 43 = .ok (.ifCond .ne 8, 3) := by decide +kernel
theorem dX12_condition_46 : decode cX12_condition 46 = .ok (.iload 4, 2) := by decide +kernel
theorem dX12_condition_48 : decode cX12_condition 48 = .ok (.ifCond .eq 7, 3) := by decide +kernel
theorem dX12_condition_51 : decode cX12_condition 51 = .ok (.iconst 1, 1) := by decide +kernel
theorem dX12_condition_52 : decode cX12_condition 52 = .ok (.goto 4, 3) := by decide +kernel
theorem dX12_condition_55 : decode cX12_condition 55 = .ok (.iconst 0, 1) := by decide +kernel
theorem dX12_condition_56 : decode cX12_condition 56 = .ok (.istore_n 3, 1) := by decide +kernel
theorem dX12_condition_57 : decode cX12_condition 57 = .ok (.goto (-50), 3) := by decide +kernel
theorem dX12_condition_60 : decode cX12_condition 60 = .ok (.iload_n 3, 1) := by decide +kernel
theorem dX12_condition_61 : decode cX12_condition 61 = .ok (.ireturn, 1) := by decide +kernel
theorem dX12_clause_0 : decode cX12_clause 0 = .ok (.aload_n 0, 1) := by decide +kernel
theorem dX12_clause_1 : decode cX12_clause 1 = .ok (.invokevirtual 174, 3) := by decide +kernel
theorem dX12_clause_4 : decode cX12_clause 4 = .ok (.istore_n 1, 1) := by decide +kernel
theorem dX12_clause_5 : decode cX12_clause 5 = .ok (.ldc 26, 2) := by decide +kernel
theorem dX12_clause_7 : decode cX12_clause 7 = .ok (.iload_n 1, 1) := by decide +kernel
theorem dX12_clause_8 : decode cX12_clause 8 = .ok (.invokestatic 190, 3) := by decide +kernel
theorem dX12_clause_11 : decode cX12_clause 11 = .ok (.ifCond .ne 9, 3) := by decide +kernel
theorem dX12_clause_14 : decode cX12_clause 14 = .ok (.aload_n 0, 1) := by decide +kernel
theorem dX12_clause_15 : decode cX12_clause 15 = .ok (.invokevirtual 170, 3) := by decide +kernel
theorem dX12_clause_18 : decode cX12_clause 18 = .ok (.pop, 1) := by decide +kernel
theorem dX12_clause_19 : decode cX12_clause 19 = .ok (.return_, 1) := by decide +kernel
theorem dX12_clause_20 : decode cX12_clause 20 = .ok (.aload_n 0, 1) := by decide +kernel
theorem dX12_clause_21 : decode cX12_clause 21 = .ok (.dup, 1) := by decide +kernel
theorem dX12_clause_22 : decode cX12_clause 22 = .ok (.getfield 155, 3) := by decide +kernel
theorem dX12_clause_25 : decode cX12_clause 25 = .ok (.iconst 1, 1) := by decide +kernel
theorem dX12_clause_26 : decode cX12_clause 26 = .ok (.iadd, 1) := by decide +kernel
theorem dX12_clause_27 : decode cX12_clause 27 = .ok (.putfield 155, 3) := by decide +kernel
theorem dX12_clause_30 : decode cX12_clause 30 = .ok (.aload_n 0, 1) := by decide +kernel
theorem dX12_clause_31 : decode cX12_clause 31 = .ok (.bipush 58, 2) := by decide +kernel
theorem dX12_clause_33 : decode cX12_clause 33 = .ok (.invokevirtual 200, 3) := by decide +kernel
theorem dX12_clause_36 : decode cX12_clause 36 = .ok (.ifCond .ne 4, 3) := by decide +kernel
theorem dX12_clause_39 : decode cX12_clause 39 = .ok (.return_, 1) := by decide +kernel
theorem dX12_clause_40 : decode cX12_clause 40 = .ok (.iconst 1, 1) := by decide +kernel
theorem dX12_clause_41 : decode cX12_clause 41 = .ok (.istore_n 2, 1) := by decide +kernel
theorem dX12_clause_42 : decode cX12_clause 42 = .ok (.iconst 0, 1) := by decide +kernel
theorem dX12_clause_43 : decode cX12_clause 43 = .ok (.istore_n 3, 1) := by decide +kernel
theorem dX12_clause_44 : decode cX12_clause 44 = .ok (.aload_n 0, 1) := by decide +kernel
theorem dX12_clause_45 : decode cX12_clause 45 = .ok (.invokevirtual 174, 3) := by decide +kernel
theorem dX12_clause_48 : decode cX12_clause 48 = .ok (.istore 4, 2) := by decide +kernel
theorem dX12_clause_50 : decode cX12_clause 50 = .ok (.iload 4, 2) := by decide +kernel
theorem dX12_clause_52 : decode cX12_clause 52 = .ok (.bipush 33, 2) := by decide +kernel
theorem dX12_clause_54 : decode cX12_clause 54 = .ok (.if_icmp .eq 10, 3) := by decide +kernel
theorem dX12_clause_57 : decode cX12_clause 57 = .ok (.iload 4, 2) := by decide +kernel
theorem dX12_clause_59 : decode cX12_clause 59 = .ok (.bipush 40, 2) := by decide +kernel
theorem dX12_clause_61 : decode cX12_clause 61 = .ok (.if_icmp .ne 28, 3) := by decide +kernel
theorem dX12_clause_64 : decode cX12_clause 64 = .ok (.aload_n 0, 1) := by decide +kernel
theorem dX12_clause_65 : decode cX12_clause 65 = .ok (.iconst 0, 1) := by decide +kernel
theorem dX12_clause_66 : decode cX12_clause 66 = .ok (.iconst 0, 1) := by decide +kernel
theorem dX12_clause_67 : decode cX12_clause 67 = .ok (.invokevirtual 223, 3) := by decide +kernel
theorem dX12_clause_70 : decode cX12_clause 70 = .ok (.istore_n 2, 1) := by decide +kernel
theorem dX12_clause_71 : decode cX12_clause 71 = .ok (.aload_n 0, 1) := by decide +kernel
theorem dX12_clause_72 : decode cX12_clause 72 = .ok (.bipush 63, 2) := by decide +kernel
theorem dX12_clause_74 : decode cX12_clause 74 = .ok (.invokevirtual 200, 3) := by decide +kernel
theorem dX12_clause_77 : decode cX12_clause 77 = .ok (.ifCond .ne 4, 3) := by decide +kernel
theorem dX12_clause_80 : decode cX12_clause 80 = .ok (.return_, 1) := by decide +kernel
theorem dX12_clause_81 : decode cX12_clause 81 = .ok (.aload_n 0, 1) := by decide +kernel
theorem dX12_clause_82 : decode cX12_clause 82 = .ok (.invokevirtual 197, 3) := by decide +kernel
theorem dX12_clause_85 : decode cX12_clause 85 = .ok (.istore_n 3, 1) := by decide +kernel
theorem dX12_clause_86 : decode cX12_clause 86 = .ok (.goto 48, 3) := by decide +kernel
theorem dX12_clause_89 : decode cX12_clause 89 = .ok (.aload_n 0, 1) := by decide +kernel
theorem dX12_clause_90 : decode cX12_clause 90 = .ok (.invokevirtual 197, 3) := by decide +kernel
theorem dX12_clause_93 : decode cX12_clause 93 = .ok (.istore_n 3, 1) := by decide +kernel
theorem dX12_clause_94 : decode cX12_clause 94 = .ok (.aload_n 0, 1) := by decide +kernel
theorem dX12_clause_95 : decode cX12_clause 95 = .ok (.getfield 164, 3) := by decide +kernel
theorem dX12_clause_98 : decode cX12_clause 98 = .ok (.iconst (-1), 1) := by decide +kernel
theorem dX12_clause_99 : decode cX12_clause 99 = .ok (.if_icmp .ne 35, 3) := by decide +kernel
theorem dX12_clause_102 : decode cX12_clause 102 = .ok (.aload_n 0, 1) := by decide +kernel
theorem dX12_clause_103 : decode cX12_clause 103 = .ok (.invokevirtual 174, 3) := by decide +kernel
theorem dX12_clause_106 : decode cX12_clause 106 = .ok (.invokestatic 217, 3) := by decide +kernel
theorem dX12_clause_109 : decode cX12_clause 109 = .ok (.ifCond .eq 25, 3) := by decide +kernel
theorem dX12_clause_112 : decode cX12_clause 112 = .ok (.aload_n 0, 1) := by decide +kernel
theorem dX12_clause_113 : decode cX12_clause 113 = .ok (.iconst 1, 1) := by decide +kernel
theorem dX12_clause_114 : decode cX12_clause 114 = .ok (.iload_n 3, 1) := by decide +kernel
theorem dX12_clause_115 : decode cX12_clause 115 = .ok (.invokevirtual 223, 3) := by decide +kernel
theorem dX12_clause_118 : decode cX12_clause 118 = .ok (.istore_n 2, 1) := by decide +kernel
theorem dX12_clause_119 : decode cX12_clause 119 = .ok (.aload_n 0, 1) := by decide +kernel
theorem dX12_clause_120 : decode cX12_clause 120 = .ok (.bipush 63, 2) := by decide +kernel
theorem dX12_clause_122 : decode cX12_clause 122 = .ok (.invokevirtual 200, 3) := by decide +kernel
theorem dX12_clause_125 : decode cX12_clause 125 = .ok (.ifCond .ne 4, 3) := by decide +kernel
theorem dX12_clause_128 : decode cX12_clause 128 = .ok (.return_, 1) := by decide +kernel
theorem dX12_clause_129 : decode cX12_clause 129 = .ok (.aload_n 0, 1) := by decide +kernel
theorem dX12_clause_130 : decode cX12_clause 130 = .ok (.invokevirtual 197, 3) := by decide +kernel
theorem dX12_clause_133 : decode cX12_clause 133 = .ok (.istore_n 3, 1) := by decide +kernel
theorem dX12_clause_134 : decode cX12_clause 134 = .ok (.aload_n 0, 1) := by decide +kernel
theorem dX12_clause_135 : decode cX12_clause 135 = .ok (.getfield 164, 3) := by decide +kernel
theorem dX12_clause_138 : decode cX12_clause 138 = .ok (.iconst (-1), 1) := by decide +kernel
theorem dX12_clause_139 : decode cX12_clause 139 = .ok (.if_icmp .ne 22, 3) := by decide +kernel
theorem dX12_clause_142 : decode cX12_clause 142 = .ok (.aload_n 0, 1) := by decide +kernel
theorem dX12_clause_143 : decode cX12_clause 143 = .ok (.getfield 233, 3) := by decide +kernel
theorem dX12_clause_146 : decode cX12_clause 146 = .ok (.ifCond .ne 15, 3) := by decide +kernel
theorem dX12_clause_149 : decode cX12_clause 149 = .ok (.iload_n 1, 1) := by decide +kernel
theorem dX12_clause_150 : decode cX12_clause 150 = .ok (.aload_n 0, 1) := by decide +kernel
theorem dX12_clause_151 : decode cX12_clause 151 = .ok (.getfield 237, 3) := by decide +kernel
theorem dX12_clause_154 : decode cX12_clause 154 = .ok (.if_icmp .ne 7, 3) := by decide +kernel
theorem dX12_clause_157 : decode cX12_clause 157 = .ok (.iload_n 2, 1) := by decide +kernel
theorem dX12_clause_158 : decode cX12_clause 158 = .ok (.ifCond .ne 4, 3) := by decide +kernel
theorem dX12_clause_161 : decode cX12_clause 161 = .ok (.return_, 1) := by decide +kernel
theorem dX12_clause_162 : decode cX12_clause 162 = .ok (.aload_n 0, 1) := by decide +kernel
theorem dX12_clause_163 : decode cX12_clause 163 = .ok (.iconst 1, 1) := by decide +kernel
theorem dX12_clause_164 : decode cX12_clause 164 = .ok (.putfield 233, 3) := by decide +kernel
theorem dX12_clause_167 : decode cX12_clause 167 = .ok (.aload_n 0, 1) := by decide +kernel
theorem dX12_clause_168 : decode cX12_clause 168 = .ok (.iload_n 3, 1) := by decide +kernel
theorem dX12_clause_169 : decode cX12_clause 169 = .ok (.putfield 240, 3) := by decide +kernel
theorem dX12_clause_172 : decode cX12_clause 172 = .ok (.return_, 1) := by decide +kernel
theorem dX12_opens_0 : decode cX12_opens 0 = .ok (.aload_n 0, 1) := by decide +kernel
theorem dX12_opens_1 : decode cX12_opens 1 = .ok (.aload_n 1, 1) := by decide +kernel
theorem dX12_opens_2 : decode cX12_opens 2 = .ok (.putfield 23, 3) := by decide +kernel
theorem dX12_opens_5 : decode cX12_opens 5 = .ok (.aload_n 0, 1) := by decide +kernel
theorem dX12_opens_6 : decode cX12_opens 6 = .ok (.iload_n 2, 1) := by decide +kernel
theorem dX12_opens_7 : decode cX12_opens 7 = .ok (.putfield 161, 3) := by decide +kernel
theorem dX12_opens_10 : decode cX12_opens 10 = .ok (.aload_n 0, 1) := by decide +kernel
theorem dX12_opens_11 : decode cX12_opens 11 = .ok (.iload_n 3, 1) := by decide +kernel
theorem dX12_opens_12 : decode cX12_opens 12 = .ok (.putfield 158, 3) := by decide +kernel
theorem dX12_opens_15 : decode cX12_opens 15 = .ok (.aload_n 0, 1) := by decide +kernel
theorem dX12_opens_16 : decode cX12_opens 16 = .ok (.iconst 0, 1) := by decide +kernel
theorem dX12_opens_17 : decode cX12_opens 17 = .ok (.putfield 155, 3) := by decide +kernel
theorem dX12_opens_20 : decode cX12_opens 20 = .ok (.aload_n 0, 1) := by decide +kernel
theorem dX12_opens_21 : decode cX12_opens 21 = .ok (.iconst (-1), 1) := by decide +kernel
theorem dX12_opens_22 : decode cX12_opens 22 = .ok (.putfield 164, 3) := by decide +kernel
theorem dX12_opens_25 : decode cX12_opens 25 = .ok (.return_, 1) := by decide +kernel
theorem dX12_goThrough_0 : decode cX12_goThrough 0 = .ok (.aload_n 0, 1) := by decide +kernel
theorem dX12_goThrough_1 : decode cX12_goThrough 1 = .ok (.aload_n 1, 1) := by decide +kernel
theorem dX12_goThrough_2 : decode cX12_goThrough 2 = .ok (.iload_n 2, 1) := by decide +kernel
theorem dX12_goThrough_3 : decode cX12_goThrough 3 = .ok (.iload_n 3, 1) := by decide +kernel
theorem dX12_goThrough_4 : decode cX12_goThrough 4 = .ok (.invokevirtual 243, 3) := by decide +kernel
theorem dX12_goThrough_7 : decode cX12_goThrough 7 = .ok (.aload_n 0, 1) := by decide +kernel
theorem dX12_goThrough_8 : decode cX12_goThrough 8 = .ok (.bipush 121, 2) := by decide +kernel
theorem dX12_goThrough_10 : decode cX12_goThrough 10 = .ok (.putfield 237, 3) := by decide +kernel
theorem dX12_goThrough_13 : decode cX12_goThrough 13 = .ok (.aload_n 0, 1) := by decide +kernel
theorem dX12_goThrough_14 : decode cX12_goThrough 14 = .ok (.iconst 0, 1) := by decide +kernel
theorem dX12_goThrough_15 : decode cX12_goThrough 15 = .ok (.putfield 167, 3) := by decide +kernel
theorem dX12_goThrough_18 : decode cX12_goThrough 18 = .ok (.aload_n 0, 1) := by decide +kernel
theorem dX12_goThrough_19 : decode cX12_goThrough 19 = .ok (.iconst 0, 1) := by decide +kernel
theorem dX12_goThrough_20 : decode cX12_goThrough 20 = .ok (.putfield 233, 3) := by decide +kernel
theorem dX12_goThrough_23 : decode cX12_goThrough 23 = .ok (.aload_n 0, 1) := by decide +kernel
theorem dX12_goThrough_24 : decode cX12_goThrough 24 = .ok (.iconst 0, 1) := by decide +kernel
theorem dX12_goThrough_25 : decode cX12_goThrough 25 = .ok (.putfield 240, 3) := by decide +kernel
theorem dX12_goThrough_28 : decode cX12_goThrough 28 = .ok (.aload_n 0, 1) := by decide +kernel
theorem dX12_goThrough_29 : decode cX12_goThrough 29 = .ok (.invokevirtual 247, 3) := by decide +kernel
theorem dX12_goThrough_32 : decode cX12_goThrough 32 = .ok (.aload_n 0, 1) := by decide +kernel
theorem dX12_goThrough_33 : decode cX12_goThrough 33 = .ok (.getfield 164, 3) := by decide +kernel
theorem dX12_goThrough_36 : decode cX12_goThrough 36 = .ok (.iconst (-1), 1) := by decide +kernel
theorem dX12_goThrough_37 : decode cX12_goThrough 37 = .ok (.if_icmp .ne 29, 3) := by decide +kernel
theorem dX12_goThrough_40 : decode cX12_goThrough 40 = .ok (.aload_n 0, 1) := by decide +kernel
theorem dX12_goThrough_41 : decode cX12_goThrough 41 = .ok (.invokevirtual 174, 3) := by decide +kernel
theorem dX12_goThrough_44 : decode cX12_goThrough 44 = .ok (.bipush 59, 2) := by decide +kernel
theorem dX12_goThrough_46 : decode cX12_goThrough 46 = .ok (.if_icmp .ne 20, 3) := by decide +kernel
theorem dX12_goThrough_49 : decode cX12_goThrough 49 = .ok (.aload_n 0, 1) := by decide +kernel
theorem dX12_goThrough_50 : decode cX12_goThrough 50 = .ok (.dup, 1) := by decide +kernel
theorem dX12_goThrough_51 : decode cX12_goThrough 51 = .ok (.getfield 155, 3) := by decide +kernel
theorem dX12_goThrough_54 : decode cX12_goThrough 54 = .ok (.iconst 1, 1) := by decide +kernel
theorem dX12_goThrough_55 : decode cX12_goThrough 55 = .ok (.iadd, 1) := by decide +kernel
theorem dX12_goThrough_56 : decode cX12_goThrough 56 = .ok (.putfield 155, 3) := by decide +kernel
theorem dX12_goThrough_59 : decode cX12_goThrough 59 = .ok (.aload_n 0, 1) := by decide +kernel
theorem dX12_goThrough_60 : decode cX12_goThrough 60 = .ok (.invokevirtual 247, 3) := by decide +kernel
theorem dX12_goThrough_63 : decode cX12_goThrough 63 = .ok (.goto (-31), 3) := by decide +kernel
theorem dX12_goThrough_66 : decode cX12_goThrough 66 = .ok (.aload_n 0, 1) := by decide +kernel
theorem dX12_goThrough_67 : decode cX12_goThrough 67 = .ok (.getfield 164, 3) := by decide +kernel
theorem dX12_goThrough_70 : decode cX12_goThrough 70 = .ok (.iconst (-1), 1) := by decide +kernel
theorem dX12_goThrough_71 : decode cX12_goThrough 71 = .ok (.if_icmp .ne 16, 3) := by decide +kernel
theorem dX12_goThrough_74 : decode cX12_goThrough 74 = .ok (.aload_n 0, 1) := by decide +kernel
theorem dX12_goThrough_75 : decode cX12_goThrough 75 = .ok (.invokevirtual 174, 3) := by decide +kernel
theorem dX12_goThrough_78 : decode cX12_goThrough 78 = .ok (.iconst (-1), 1) := by decide +kernel
theorem dX12_goThrough_79 : decode cX12_goThrough 79 = .ok (.if_icmp .eq 8, 3) := by decide +kernel
theorem dX12_goThrough_82 : decode cX12_goThrough 82 = .ok (.aload_n 0, 1) := by decide +kernel
theorem dX12_goThrough_83 : decode cX12_goThrough 83 = .ok (.invokevirtual 170, 3) := by decide +kernel
theorem dX12_goThrough_86 : decode cX12_goThrough 86 = .ok (.pop, 1) := by decide +kernel
theorem dX12_goThrough_87 : decode cX12_goThrough 87 = .ok (.return_, 1) := by decide +kernel
theorem dX12_here_0 : decode cX12_here 0 = .ok (.aload_n 0, 1) := by decide +kernel
theorem dX12_here_1 : decode cX12_here 1 = .ok (.getfield 155, 3) := by decide +kernel
theorem dX12_here_4 : decode cX12_here 4 = .ok (.aload_n 0, 1) := by decide +kernel
theorem dX12_here_5 : decode cX12_here 5 = .ok (.getfield 158, 3) := by decide +kernel
theorem dX12_here_8 : decode cX12_here 8 = .ok (.if_icmp .ge 24, 3) := by decide +kernel
theorem dX12_here_11 : decode cX12_here 11 = .ok (.aload_n 0, 1) := by decide +kernel
theorem dX12_here_12 : decode cX12_here 12 = .ok (.getfield 23, 3) := by decide +kernel
theorem dX12_here_15 : decode cX12_here 15 = .ok (.aload_n 0, 1) := by decide +kernel
theorem dX12_here_16 : decode cX12_here 16 = .ok (.getfield 161, 3) := by decide +kernel
theorem dX12_here_19 : decode cX12_here 19 = .ok (.aload_n 0, 1) := by decide +kernel
theorem dX12_here_20 : decode cX12_here 20 = .ok (.getfield 155, 3) := by decide +kernel
theorem dX12_here_23 : decode cX12_here 23 = .ok (.iadd, 1) := by decide +kernel
theorem dX12_here_24 : decode cX12_here 24 = .ok (.baload, 1) := by decide +kernel
theorem dX12_here_25 : decode cX12_here 25 = .ok (.sipush 255, 3) := by decide +kernel
theorem dX12_here_28 : decode cX12_here 28 = .ok (.iand, 1) := by decide +kernel
theorem dX12_here_29 : decode cX12_here 29 = .ok (.goto 4, 3) := by decide +kernel
theorem dX12_here_32 : decode cX12_here 32 = .ok (.iconst (-1), 1) := by decide +kernel
theorem dX12_here_33 : decode cX12_here 33 = .ok (.ireturn, 1) := by decide +kernel
theorem dX12_placeOf_0 : decode cX12_placeOf 0 = .ok (.iconst 0, 1) := by decide +kernel
theorem dX12_placeOf_1 : decode cX12_placeOf 1 = .ok (.istore_n 2, 1) := by decide +kernel
theorem dX12_placeOf_2 : decode cX12_placeOf 2 = .ok (.iload_n 2, 1) := by decide +kernel
theorem dX12_placeOf_3 : decode cX12_placeOf 3 = .ok (.aload_n 0, 1) := by decide +kernel
theorem dX12_placeOf_4 : decode cX12_placeOf 4 = .ok (.invokevirtual 135, 3) := by decide +kernel
theorem dX12_placeOf_7 : decode cX12_placeOf 7 = .ok (.if_icmp .ge 20, 3) := by decide +kernel
theorem dX12_placeOf_10 : decode cX12_placeOf 10 = .ok (.aload_n 0, 1) := by decide +kernel
theorem dX12_placeOf_11 : decode cX12_placeOf 11 = .ok (.iload_n 2, 1) := by decide +kernel
theorem dX12_placeOf_12 : decode cX12_placeOf 12 = .ok (.invokevirtual 141, 3) := by decide +kernel
theorem dX12_placeOf_15 : decode cX12_placeOf 15 = .ok (.iload_n 1, 1) := by decide +kernel
theorem dX12_placeOf_16 : decode cX12_placeOf 16 = .ok (.if_icmp .ne 5, 3) := by decide +kernel
theorem dX12_placeOf_19 : decode cX12_placeOf 19 = .ok (.iload_n 2, 1) := by decide +kernel
theorem dX12_placeOf_20 : decode cX12_placeOf 20 = .ok (.ireturn, 1) := by decide +kernel
theorem dX12_placeOf_21 : decode cX12_placeOf 21 = .ok (.iinc 2 1, 3) := by decide +kernel
theorem dX12_placeOf_24 : decode cX12_placeOf 24 = .ok (.goto (-22), 3) := by decide +kernel
theorem dX12_placeOf_27 : decode cX12_placeOf 27 = .ok (.iconst (-1), 1) := by decide +kernel
theorem dX12_placeOf_28 : decode cX12_placeOf 28 = .ok (.ireturn, 1) := by decide +kernel
theorem dX12_readItem_0 : decode cX12_readItem 0 = .ok (.aload_n 0, 1) := by decide +kernel
theorem dX12_readItem_1 : decode cX12_readItem 1 = .ok (.dup, 1) := by decide +kernel
theorem dX12_readItem_2 : decode cX12_readItem 2 = .ok (.getfield 155, 3) := by decide +kernel
theorem dX12_readItem_5 : decode cX12_readItem 5 = .ok (.iconst 1, 1) := by decide +kernel
theorem dX12_readItem_6 : decode cX12_readItem 6 = .ok (.iadd, 1) := by decide +kernel
theorem dX12_readItem_7 : decode cX12_readItem 7 = .ok (.putfield 155, 3) := by decide +kernel
theorem dX12_readItem_10 : decode cX12_readItem 10 = .ok (.aload_n 0, 1) := by decide +kernel
theorem dX12_readItem_11 : decode cX12_readItem 11 = .ok (.invokevirtual 174, 3) := by decide +kernel
theorem dX12_readItem_14 : decode cX12_readItem 14 = .ok (.istore 5, 2) := by decide +kernel
theorem dX12_readItem_16 : decode cX12_readItem 16 = .ok (.aload_n 0, 1) := by decide +kernel
theorem dX12_readItem_17 : decode cX12_readItem 17 = .ok (.invokevirtual 204, 3) := by decide +kernel
theorem dX12_readItem_20 : decode cX12_readItem 20 = .ok (.ifCond .ne 9, 3) := by decide +kernel
theorem dX12_readItem_23 : decode cX12_readItem 23 = .ok (.aload_n 0, 1) := by decide +kernel
theorem dX12_readItem_24 : decode cX12_readItem 24 = .ok (.invokevirtual 170, 3) := by decide +kernel
theorem dX12_readItem_27 : decode cX12_readItem 27 = .ok (.pop, 1) := by decide +kernel
theorem dX12_readItem_28 : decode cX12_readItem 28 = .ok (.return_, 1) := by decide +kernel
theorem dX12_readItem_29 : decode cX12_readItem 29 = .ok (.aload_n 0, 1) := by decide +kernel
theorem dX12_readItem_30 : decode cX12_readItem 30 = .ok (.invokevirtual 250, 3) := by decide +kernel
theorem dX12_readItem_33 : decode cX12_readItem 33 = .ok (.bipush 48, 2) := by decide +kernel
theorem dX12_readItem_35 : decode cX12_readItem 35 = .ok (.isub, 1) := by decide +kernel
theorem dX12_readItem_36 : decode cX12_readItem 36 = .ok (.istore 6, 2) := by decide +kernel
theorem dX12_readItem_38 : decode cX12_readItem 38 = .ok (.aload_n 0, 1) := by decide +kernel
theorem dX12_readItem_39 : decode cX12_readItem 39 = .ok (.dup, 1) := by decide +kernel
theorem dX12_readItem_40 : decode cX12_readItem 40 = .ok (.getfield 155, 3) := by decide +kernel
theorem dX12_readItem_43 : decode cX12_readItem 43 = .ok (.iconst 1, 1) := by decide +kernel
theorem dX12_readItem_44 : decode cX12_readItem 44 = .ok (.iadd, 1) := by decide +kernel
theorem dX12_readItem_45 : decode cX12_readItem 45 = .ok (.putfield 155, 3) := by decide +kernel
theorem dX12_readItem_48 : decode cX12_readItem 48 = .ok (.aload_n 0, 1) := by decide +kernel
theorem dX12_readItem_49 : decode cX12_readItem 49 = .ok (.invokevirtual 204, 3) := by decide +kernel
theorem dX12_readItem_52 : decode cX12_readItem 52 = .ok (.ifCond .eq 28, 3) := by decide +kernel
theorem dX12_readItem_55 : decode cX12_readItem 55 = .ok (.bipush 10, 2) := by decide +kernel
theorem dX12_readItem_57 : decode cX12_readItem 57 = .ok (.iload 6, 2) := by decide +kernel
theorem dX12_readItem_59 : decode cX12_readItem 59 = .ok (.imul, 1) := by decide +kernel
theorem dX12_readItem_60 : decode cX12_readItem 60 = .ok (.aload_n 0, 1) := by decide +kernel
theorem dX12_readItem_61 : decode cX12_readItem 61 = .ok (.invokevirtual 250, 3) := by decide +kernel
theorem dX12_readItem_64 : decode cX12_readItem 64 = .ok (.iadd, 1) := by decide +kernel
theorem dX12_readItem_65 : decode cX12_readItem 65 = .ok (.bipush 48, 2) := by decide +kernel
theorem dX12_readItem_67 : decode cX12_readItem 67 = .ok (.isub, 1) := by decide +kernel
theorem dX12_readItem_68 : decode cX12_readItem 68 = .ok (.istore 6, 2) := by decide +kernel
theorem dX12_readItem_70 : decode cX12_readItem 70 = .ok (.aload_n 0, 1) := by decide +kernel
theorem dX12_readItem_71 : decode cX12_readItem 71 = .ok (.dup, 1) := by decide +kernel
theorem dX12_readItem_72 : decode cX12_readItem 72 = .ok (.getfield 155, 3) := by decide +kernel
theorem dX12_readItem_75 : decode cX12_readItem 75 = .ok (.iconst 1, 1) := by decide +kernel
theorem dX12_readItem_76 : decode cX12_readItem 76 = .ok (.iadd, 1) := by decide +kernel
theorem dX12_readItem_77 : decode cX12_readItem 77 = .ok (.putfield 155, 3) := by decide +kernel
theorem dX12_readItem_80 : decode cX12_readItem 80 = .ok (.aload_n 0, 1) := by decide +kernel
theorem dX12_readItem_81 : decode cX12_readItem 81 = .ok (.invokevirtual 204, 3) := by decide +kernel
theorem dX12_readItem_84 : decode cX12_readItem 84 = .ok (.ifCond .eq 9, 3) := by decide +kernel
theorem dX12_readItem_87 : decode cX12_readItem 87 = .ok (.aload_n 0, 1) := by decide +kernel
theorem dX12_readItem_88 : decode cX12_readItem 88 = .ok (.invokevirtual 170, 3) := by decide +kernel
theorem dX12_readItem_91 : decode cX12_readItem 91 = .ok (.pop, 1) := by decide +kernel
theorem dX12_readItem_92 : decode cX12_readItem 92 = .ok (.return_, 1) := by decide +kernel
theorem dX12_readItem_93 : decode cX12_readItem 93 = .ok (.iload 6, 2) := by decide +kernel
theorem dX12_readItem_95 : decode cX12_readItem 95 = .ok (.i2l, 1) := by decide +kernel
theorem dX12_readItem_96 : decode cX12_readItem 96 = .ok (.iload_n 3, 1) := by decide +kernel
theorem dX12_readItem_97 : decode cX12_readItem 97 = .ok (.i2l, 1) := by decide +kernel
theorem dX12_readItem_98 : decode cX12_readItem 98 = .ok (.iload 4, 2) := by decide +kernel
theorem dX12_readItem_100 : decode cX12_readItem 100 = .ok (.i2l, 1) := by decide +kernel
theorem dX12_readItem_101 : decode cX12_readItem 101 = .ok (.invokestatic 253, 3) := by decide +kernel
theorem dX12_readItem_104 : decode cX12_readItem 104 = .ok (.ifCond .ne 19, 3) := by decide +kernel
theorem dX12_readItem_107 : decode cX12_readItem 107 = .ok (.aload_n 0, 1) := by decide +kernel
theorem dX12_readItem_108 : decode cX12_readItem 108 = .ok (.dup, 1) := by decide +kernel
theorem dX12_readItem_109 : decode cX12_readItem 109 = .ok (.getfield 155, 3) := by decide +kernel
theorem dX12_readItem_112 : decode cX12_readItem 112 = .ok (.iconst 1, 1) := by decide +kernel
theorem dX12_readItem_113 : decode cX12_readItem 113 = .ok (.isub, 1) := by decide +kernel
theorem dX12_readItem_114 : decode cX12_readItem 114 = .ok (.putfield 155, 3) := by decide +kernel
theorem dX12_readItem_117 : decode cX12_readItem 117 = .ok (.aload_n 0, 1) := by decide +kernel
theorem dX12_readItem_118 : decode cX12_readItem 118 = .ok (.invokevirtual 170, 3) := by decide +kernel
theorem dX12_readItem_121 : decode cX12_readItem 121 = .ok (.pop, 1) := by decide +kernel
theorem dX12_readItem_122 : decode cX12_readItem 122 = .ok (.return_, 1) := by decide +kernel
theorem dX12_readItem_123 : decode cX12_readItem 123 = .ok (.aload_n 1, 1) := by decide +kernel
theorem dX12_readItem_124 : decode cX12_readItem 124 = .ok (.iload_n 2, 1) := by decide +kernel
theorem dX12_readItem_125 : decode cX12_readItem 125 = .ok (.iload 6, 2) := by decide +kernel
theorem dX12_readItem_127 : decode cX12_readItem 127 = .ok (.iastore, 1) := by decide +kernel
theorem dX12_readItem_128 : decode cX12_readItem 128 = .ok (.return_, 1) := by decide +kernel
theorem dX12_usual_0 : decode cX12_usual 0 = .ok (.iload_n 0, 1) := by decide +kernel
theorem dX12_usual_1 : decode cX12_usual 1 = .ok (.bipush 115, 2) := by decide +kernel
theorem dX12_usual_3 : decode cX12_usual 3 = .ok (.if_icmp .ne 22, 3) := by decide +kernel
theorem dX12_usual_6 : decode cX12_usual 6 = .ok (.iload_n 1, 1) := by decide +kernel
theorem dX12_usual_7 : decode cX12_usual 7 = .ok (.ifCond .ne 7, 3) := by decide +kernel
theorem dX12_usual_10 : decode cX12_usual 10 = .ok (.iconst 3, 1) := by decide +kernel
theorem dX12_usual_11 : decode cX12_usual 11 = .ok (.goto 13, 3) := by decide +kernel
theorem dX12_usual_14 : decode cX12_usual 14 = .ok (.iload_n 1, 1) := by decide +kernel
theorem dX12_usual_15 : decode cX12_usual 15 = .ok (.iconst 1, 1) := by decide +kernel
theorem dX12_usual_16 : decode cX12_usual 16 = .ok (.if_icmp .ne 7, 3) := by decide +kernel
theorem dX12_usual_19 : decode cX12_usual 19 = .ok (.iconst 1, 1) := by decide +kernel
theorem dX12_usual_20 : decode cX12_usual 20 = .ok (.goto 4, 3) := by decide +kernel
theorem dX12_usual_23 : decode cX12_usual 23 = .ok (.iconst 0, 1) := by decide +kernel
theorem dX12_usual_24 : decode cX12_usual 24 = .ok (.ireturn, 1) := by decide +kernel
theorem dX12_usual_25 : decode cX12_usual 25 = .ok (.iload_n 0, 1) := by decide +kernel
theorem dX12_usual_26 : decode cX12_usual 26 = .ok (.bipush 98, 2) := by decide +kernel
theorem dX12_usual_28 : decode cX12_usual 28 = .ok (.if_icmp .ne 23, 3) := by decide +kernel
theorem dX12_usual_31 : decode cX12_usual 31 = .ok (.iload_n 1, 1) := by decide +kernel
theorem dX12_usual_32 : decode cX12_usual 32 = .ok (.ifCond .ne 8, 3) := by decide +kernel
theorem dX12_usual_35 : decode cX12_usual 35 = .ok (.bipush 10, 2) := by decide +kernel
theorem dX12_usual_37 : decode cX12_usual 37 = .ok (.goto 13, 3) := by decide +kernel
theorem dX12_usual_40 : decode cX12_usual 40 = .ok (.iload_n 1, 1) := by decide +kernel
theorem dX12_usual_41 : decode cX12_usual 41 = .ok (.iconst 1, 1) := by decide +kernel
theorem dX12_usual_42 : decode cX12_usual 42 = .ok (.if_icmp .ne 7, 3) := by decide +kernel
theorem dX12_usual_45 : decode cX12_usual 45 = .ok (.iconst 2, 1) := by decide +kernel
theorem dX12_usual_46 : decode cX12_usual 46 = .ok (.goto 4, 3) := by decide +kernel
theorem dX12_usual_49 : decode cX12_usual 49 = .ok (.iconst 0, 1) := by decide +kernel
theorem dX12_usual_50 : decode cX12_usual 50 = .ok (.ireturn, 1) := by decide +kernel
theorem dX12_usual_51 : decode cX12_usual 51 = .ok (.iload_n 1, 1) := by decide +kernel
theorem dX12_usual_52 : decode cX12_usual 52 = .ok (.ifCond .ne 7, 3) := by decide +kernel
theorem dX12_usual_55 : decode cX12_usual 55 = .ok (.iconst 0, 1) := by decide +kernel
theorem dX12_usual_56 : decode cX12_usual 56 = .ok (.goto 5, 3) := by decide +kernel
theorem dX12_usual_59 : decode cX12_usual 59 = .ok (.bipush 12, 2) := by decide +kernel
theorem dX12_usual_61 : decode cX12_usual 61 = .ok (.ireturn, 1) := by decide +kernel
theorem dX12_mostOf_0 : decode cX12_mostOf 0 = .ok (.iload_n 0, 1) := by decide +kernel
theorem dX12_mostOf_1 : decode cX12_mostOf 1 = .ok (.bipush 115, 2) := by decide +kernel
theorem dX12_mostOf_3 : decode cX12_mostOf 3 = .ok (.if_icmp .ne 16, 3) := by decide +kernel
theorem dX12_mostOf_6 : decode cX12_mostOf 6 = .ok (.iload_n 1, 1) := by decide +kernel
theorem dX12_mostOf_7 : decode cX12_mostOf 7 = .ok (.iconst 1, 1) := by decide +kernel
theorem dX12_mostOf_8 : decode cX12_mostOf 8 = .ok (.if_icmp .ne 8, 3) := by decide +kernel
theorem dX12_mostOf_11 : decode cX12_mostOf 11 = .ok (.bipush 20, 2) := by decide +kernel
theorem dX12_mostOf_13 : decode cX12_mostOf 13 = .ok (.goto 5, 3) := by decide +kernel
theorem dX12_mostOf_16 : decode cX12_mostOf 16 = .ok (.bipush 9, 2) := by decide +kernel
theorem dX12_mostOf_18 : decode cX12_mostOf 18 = .ok (.ireturn, 1) := by decide +kernel
theorem dX12_mostOf_19 : decode cX12_mostOf 19 = .ok (.iload_n 0, 1) := by decide +kernel
theorem dX12_mostOf_20 : decode cX12_mostOf 20 = .ok (.bipush 98, 2) := by decide +kernel
theorem dX12_mostOf_22 : decode cX12_mostOf 22 = .ok (.if_icmp .ne 24, 3) := by decide +kernel
theorem dX12_mostOf_25 : decode cX12_mostOf 25 = .ok (.iload_n 1, 1) := by decide +kernel
theorem dX12_mostOf_26 : decode cX12_mostOf 26 = .ok (.ifCond .ne 8, 3) := by decide +kernel
theorem dX12_mostOf_29 : decode cX12_mostOf 29 = .ok (.bipush 20, 2) := by decide +kernel
theorem dX12_mostOf_31 : decode cX12_mostOf 31 = .ok (.goto 14, 3) := by decide +kernel
theorem dX12_mostOf_34 : decode cX12_mostOf 34 = .ok (.iload_n 1, 1) := by decide +kernel
theorem dX12_mostOf_35 : decode cX12_mostOf 35 = .ok (.iconst 1, 1) := by decide +kernel
theorem dX12_mostOf_36 : decode cX12_mostOf 36 = .ok (.if_icmp .ne 8, 3) := by decide +kernel
theorem dX12_mostOf_39 : decode cX12_mostOf 39 = .ok (.bipush 9, 2) := by decide +kernel
theorem dX12_mostOf_41 : decode cX12_mostOf 41 = .ok (.goto 4, 3) := by decide +kernel
theorem dX12_mostOf_44 : decode cX12_mostOf 44 = .ok (.iconst 3, 1) := by decide +kernel
theorem dX12_mostOf_45 : decode cX12_mostOf 45 = .ok (.ireturn, 1) := by decide +kernel
theorem dX12_mostOf_46 : decode cX12_mostOf 46 = .ok (.iload_n 1, 1) := by decide +kernel
theorem dX12_mostOf_47 : decode cX12_mostOf 47 = .ok (.ifCond .ne 7, 3) := by decide +kernel
theorem dX12_mostOf_50 : decode cX12_mostOf 50 = .ok (.iconst 2, 1) := by decide +kernel
theorem dX12_mostOf_51 : decode cX12_mostOf 51 = .ok (.goto 5, 3) := by decide +kernel
theorem dX12_mostOf_54 : decode cX12_mostOf 54 = .ok (.bipush 20, 2) := by decide +kernel
theorem dX12_mostOf_56 : decode cX12_mostOf 56 = .ok (.ireturn, 1) := by decide +kernel
theorem dX12_readClause_0 : decode cX12_readClause 0 = .ok (.aload_n 0, 1) := by decide +kernel
theorem dX12_readClause_1 : decode cX12_readClause 1 = .ok (.invokevirtual 174, 3) := by decide +kernel
theorem dX12_readClause_4 : decode cX12_readClause 4 = .ok (.istore_n 1, 1) := by decide +kernel
theorem dX12_readClause_5 : decode cX12_readClause 5 = .ok (.iload_n 1, 1) := by decide +kernel
theorem dX12_readClause_6 : decode cX12_readClause 6 = .ok (.bipush 115, 2) := by decide +kernel
theorem dX12_readClause_8 : decode cX12_readClause 8 = .ok (.if_icmp .ne 11, 3) := by decide +kernel
theorem dX12_readClause_11 : decode cX12_readClause 11 = .ok (.aload_n 0, 1) := by decide +kernel
theorem dX12_readClause_12 : decode cX12_readClause 12 = .ok (.getfield 257, 3) := by decide +kernel
theorem dX12_readClause_15 : decode cX12_readClause 15 = .ok (.iconst 5, 1) := by decide +kernel
theorem dX12_readClause_16 : decode cX12_readClause 16 = .ok (.if_icmp .lt 31, 3) := by decide +kernel
theorem dX12_readClause_19 : decode cX12_readClause 19 = .ok (.iload_n 1, 1) := by decide +kernel
theorem dX12_readClause_20 : decode cX12_readClause 20 = .ok (.bipush 98, 2) := by decide +kernel
theorem dX12_readClause_22 : decode cX12_readClause 22 = .ok (.if_icmp .ne 12, 3) := by decide +kernel
theorem dX12_readClause_25 : decode cX12_readClause 25 = .ok (.aload_n 0, 1) := by decide +kernel
theorem dX12_readClause_26 : decode cX12_readClause 26 = .ok (.getfield 260, 3) := by decide +kernel
theorem dX12_readClause_29 : decode cX12_readClause 29 = .ok (.bipush 6, 2) := by decide +kernel
theorem dX12_readClause_31 : decode cX12_readClause 31 = .ok (.if_icmp .lt 16, 3) := by decide +kernel
theorem dX12_readClause_34 : decode cX12_readClause 34 = .ok (.iload_n 1, 1) := by decide +kernel
theorem dX12_readClause_35 : decode cX12_readClause 35 = .ok (.bipush 108, 2) := by decide +kernel
theorem dX12_readClause_37 : decode cX12_readClause 37 = .ok (.if_icmp .ne 14, 3) := by decide +kernel
theorem dX12_readClause_40 : decode cX12_readClause 40 = .ok (.aload_n 0, 1) := by decide +kernel
theorem dX12_readClause_41 : decode cX12_readClause 41 = .ok (.getfield 263, 3) := by decide +kernel
theorem dX12_readClause_44 : decode cX12_readClause 44 = .ok (.ifCond .ne 7, 3) := by decide +kernel
theorem dX12_readClause_47 : decode cX12_readClause 47 = .ok (.iconst 1, 1) := by decide +kernel
theorem dX12_readClause_48 : decode cX12_readClause 48 = .ok (.goto 4, 3) := by decide +kernel
theorem dX12_readClause_51 : decode cX12_readClause 51 = .ok (.iconst 0, 1) := by decide +kernel
theorem dX12_readClause_52 : decode cX12_readClause 52 = .ok (.istore_n 2, 1) := by decide +kernel
theorem dX12_readClause_53 : decode cX12_readClause 53 = .ok (.iload_n 2, 1) := by decide +kernel
theorem dX12_readClause_54 : decode cX12_readClause 54 = .ok (.ifCond .ne 9, 3) := by decide +kernel
theorem dX12_readClause_57 : decode cX12_readClause 57 = .ok (.aload_n 0, 1) := by decide +kernel
theorem dX12_readClause_58 : decode cX12_readClause 58 = .ok (.invokevirtual 170, 3) := by decide +kernel
theorem dX12_readClause_61 : decode cX12_readClause 61 = .ok (.pop, 1) := by decide +kernel
theorem dX12_readClause_62 : decode cX12_readClause 62 = .ok (.return_, 1) := by decide +kernel
theorem dX12_readClause_63 : decode cX12_readClause 63 = .ok (.aload_n 0, 1) := by decide +kernel
theorem dX12_readClause_64 : decode cX12_readClause 64 = .ok (.dup, 1) := by decide +kernel
theorem dX12_readClause_65 : decode cX12_readClause 65 = .ok (.getfield 155, 3) := by decide +kernel
theorem dX12_readClause_68 : decode cX12_readClause 68 = .ok (.iconst 1, 1) := by decide +kernel
theorem dX12_readClause_69 : decode cX12_readClause 69 = .ok (.iadd, 1) := by decide +kernel
theorem dX12_readClause_70 : decode cX12_readClause 70 = .ok (.putfield 155, 3) := by decide +kernel
theorem dX12_readClause_73 : decode cX12_readClause 73 = .ok (.iload_n 1, 1) := by decide +kernel
theorem dX12_readClause_74 : decode cX12_readClause 74 = .ok (.bipush 115, 2) := by decide +kernel
theorem dX12_readClause_76 : decode cX12_readClause 76 = .ok (.if_icmp .ne 12, 3) := by decide +kernel
theorem dX12_readClause_79 : decode cX12_readClause 79 = .ok (.iconst 3, 1) := by decide +kernel
theorem dX12_readClause_80 : decode cX12_readClause 80 = .ok (.aload_n 0, 1) := by decide +kernel
theorem dX12_readClause_81 : decode cX12_readClause 81 = .ok (.getfield 257, 3) := by decide +kernel
theorem dX12_readClause_84 : decode cX12_readClause 84 = .ok (.imul, 1) := by decide +kernel
theorem dX12_readClause_85 : decode cX12_readClause 85 = .ok (.goto 19, 3) := by decide +kernel
theorem dX12_readClause_88 : decode cX12_readClause 88 = .ok (.iload_n 1, 1) := by decide +kernel
theorem dX12_readClause_89 : decode cX12_readClause 89 = .ok (.bipush 98, 2) := by decide +kernel
theorem dX12_readClause_91 : decode cX12_readClause 91 = .ok (.if_icmp .ne 12, 3) := by decide +kernel
theorem dX12_readClause_94 : decode cX12_readClause 94 = .ok (.iconst 3, 1) := by decide +kernel
theorem dX12_readClause_95 : decode cX12_readClause 95 = .ok (.aload_n 0, 1) := by decide +kernel
theorem dX12_readClause_96 : decode cX12_readClause 96 = .ok (.getfield 260, 3) := by decide +kernel
theorem dX12_readClause_99 : decode cX12_readClause 99 = .ok (.imul, 1) := by decide +kernel
theorem dX12_readClause_100 : decode cX12_readClause 100 = .ok (.goto 4, 3) := by decide +kernel
theorem dX12_readClause_103 : decode cX12_readClause 103 = .ok (.iconst 0, 1) := by decide +kernel
theorem dX12_readClause_104 : decode cX12_readClause 104 = .ok (.istore_n 3, 1) := by decide +kernel
theorem dX12_readClause_105 : decode cX12_readClause 105 = .ok (.iload_n 1, 1) := by decide +kernel
theorem dX12_readClause_106 : decode cX12_readClause 106 = .ok (.bipush 115, 2) := by decide +kernel
theorem dX12_readClause_108 : decode cX12_readClause 108 = .ok (.if_icmp .ne 10, 3) := by decide +kernel
theorem dX12_readClause_111 : decode cX12_readClause 111 = .ok (.aload_n 0, 1) := by decide +kernel
theorem dX12_readClause_112 : decode cX12_readClause 112 = .ok (.getfield 46, 3) := by decide +kernel
theorem dX12_readClause_115 : decode cX12_readClause 115 = .ok (.goto 20, 3) := by decide +kernel
theorem dX12_readClause_118 : decode cX12_readClause 118 = .ok (.iload_n 1, 1) := by decide +kernel
theorem dX12_readClause_119 : decode cX12_readClause 119 = .ok (.bipush 98, 2) := by decide +kernel
theorem dX12_readClause_121 : decode cX12_readClause 121 = .ok (.if_icmp .ne 10, 3) := by decide +kernel
theorem dX12_readClause_124 : decode cX12_readClause 124 = .ok (.aload_n 0, 1) := by decide +kernel
theorem dX12_readClause_125 : decode cX12_readClause 125 = .ok (.getfield 49, 3) := by decide +kernel
theorem dX12_readClause_128 : decode cX12_readClause 128 = .ok (.goto 7, 3) := by decide +kernel
theorem dX12_readClause_131 : decode cX12_readClause 131 = .ok (.aload_n 0, 1) := by decide +kernel
theorem dX12_readClause_132 : decode cX12_readClause 132 = .ok (.getfield 52, 3) := by decide +kernel
theorem dX12_readClause_135 : decode cX12_readClause 135 = .ok (.astore 4, 2) := by decide +kernel
theorem dX12_readClause_137 : decode cX12_readClause 137 = .ok (.iload_n 1, 1) := by decide +kernel
theorem dX12_readClause_138 : decode cX12_readClause 138 = .ok (.bipush 115, 2) := by decide +kernel
theorem dX12_readClause_140 : decode cX12_readClause 140 = .ok (.if_icmp .ne 9, 3) := by decide +kernel
theorem dX12_readClause_143 : decode cX12_readClause 143 = .ok (.ldc_w 266, 3) := by decide +kernel
theorem dX12_readClause_146 : decode cX12_readClause 146 = .ok (.goto 18, 3) := by decide +kernel
theorem dX12_readClause_149 : decode cX12_readClause 149 = .ok (.iload_n 1, 1) := by decide +kernel
theorem dX12_readClause_150 : decode cX12_readClause 150 = .ok (.bipush 98, 2) := by decide +kernel
theorem dX12_readClause_152 : decode cX12_readClause 152 = .ok (.if_icmp .ne 9, 3) := by decide +kernel
theorem dX12_readClause_155 : decode cX12_readClause 155 = .ok (.ldc_w 268, 3) := by decide +kernel
theorem dX12_readClause_158 : decode cX12_readClause 158 = .ok (.goto 6, 3) := by decide +kernel
theorem dX12_readClause_161 : decode cX12_readClause 161 = .ok (.ldc_w 270, 3) := by decide +kernel
theorem dX12_readClause_164 : decode cX12_readClause 164 = .ok (.astore 5, 2) := by decide +kernel
theorem dX12_readClause_166 : decode cX12_readClause 166 = .ok (.iload_n 1, 1) := by decide +kernel
theorem dX12_readClause_167 : decode cX12_readClause 167 = .ok (.bipush 115, 2) := by decide +kernel
theorem dX12_readClause_169 : decode cX12_readClause 169 = .ok (.if_icmp .ne 13, 3) := by decide +kernel
theorem dX12_readClause_172 : decode cX12_readClause 172 = .ok (.aload_n 0, 1) := by decide +kernel
theorem dX12_readClause_173 : decode cX12_readClause 173 = .ok (.dup, 1) := by decide +kernel
theorem dX12_readClause_174 : decode cX12_readClause 174 = .ok (.getfield 257, 3) := by decide +kernel
theorem dX12_readClause_177 : decode cX12_readClause 177 = .ok (.iconst 1, 1) := by decide +kernel
theorem dX12_readClause_178 : decode cX12_readClause 178 = .ok (.iadd, 1) := by decide +kernel
theorem dX12_readClause_179 : decode cX12_readClause 179 = .ok (.putfield 257, 3) := by decide +kernel
theorem dX12_readClause_182 : decode cX12_readClause 182 = .ok (.iload_n 1, 1) := by decide +kernel
theorem dX12_readClause_183 : decode cX12_readClause 183 = .ok (.bipush 98, 2) := by decide +kernel
theorem dX12_readClause_185 : decode cX12_readClause 185 = .ok (.if_icmp .ne 13, 3) := by decide +kernel
theorem dX12_readClause_188 : decode cX12_readClause 188 = .ok (.aload_n 0, 1) := by decide +kernel
theorem dX12_readClause_189 : decode cX12_readClause 189 = .ok (.dup, 1) := by decide +kernel
theorem dX12_readClause_190 : decode cX12_readClause 190 = .ok (.getfield 260, 3) := by decide +kernel
theorem dX12_readClause_193 : decode cX12_readClause 193 = .ok (.iconst 1, 1) := by decide +kernel
theorem dX12_readClause_194 : decode cX12_readClause 194 = .ok (.iadd, 1) := by decide +kernel
theorem dX12_readClause_195 : decode cX12_readClause 195 = .ok (.putfield 260, 3) := by decide +kernel
theorem dX12_readClause_198 : decode cX12_readClause 198 = .ok (.iload_n 1, 1) := by decide +kernel
theorem dX12_readClause_199 : decode cX12_readClause 199 = .ok (.bipush 108, 2) := by decide +kernel
theorem dX12_readClause_201 : decode cX12_readClause 201 = .ok (.if_icmp .ne 8, 3) := by decide +kernel
theorem dX12_readClause_204 : decode cX12_readClause 204 = .ok (.aload_n 0, 1) := by decide +kernel
theorem dX12_readClause_205 : decode cX12_readClause 205 = .ok (.iconst 1, 1) := by decide +kernel
theorem dX12_readClause_206 : decode cX12_readClause 206 = .ok (.putfield 263, 3) := by decide +kernel
theorem dX12_readClause_209 : decode cX12_readClause 209 = .ok (.iconst 0, 1) := by decide +kernel
theorem dX12_readClause_210 : decode cX12_readClause 210 = .ok (.istore 6, 2) := by decide +kernel
theorem dX12_readClause_212 : decode cX12_readClause 212 = .ok (.iload 6, 2) := by decide +kernel
theorem dX12_readClause_214 : decode cX12_readClause 214 = .ok (.aload 5, 2) := by decide +kernel
theorem dX12_readClause_216 : decode cX12_readClause 216 = .ok (.invokevirtual 135, 3) := by decide +kernel
theorem dX12_readClause_219 : decode cX12_readClause 219 = .ok (.if_icmp .ge 22, 3) := by decide +kernel
theorem dX12_readClause_222 : decode cX12_readClause 222 = .ok (.aload 4, 2) := by decide +kernel
theorem dX12_readClause_224 : decode cX12_readClause 224 = .ok (.iload_n 3, 1) := by decide +kernel
theorem dX12_readClause_225 : decode cX12_readClause 225 = .ok (.iload 6, 2) := by decide +kernel
theorem dX12_readClause_227 : decode cX12_readClause 227 = .ok (.iadd, 1) := by decide +kernel
theorem dX12_readClause_228 : decode cX12_readClause 228 = .ok (.iload_n 1, 1) := by decide +kernel
theorem dX12_readClause_229 : decode cX12_readClause 229 = .ok (.iload 6, 2) := by decide +kernel
theorem dX12_readClause_231 : decode cX12_readClause 231 = .ok (.invokestatic 272, 3) := by decide +kernel
theorem dX12_readClause_234 : decode cX12_readClause 234 = .ok (.iastore, 1) := by decide +kernel
theorem dX12_readClause_235 : decode cX12_readClause 235 = .ok (.iinc 6 1, 3) := by decide +kernel
theorem dX12_readClause_238 : decode cX12_readClause 238 = .ok (.goto (-26), 3) := by decide +kernel
theorem dX12_readClause_241 : decode cX12_readClause 241 = .ok (.iconst 0, 1) := by decide +kernel
theorem dX12_readClause_242 : decode cX12_readClause 242 = .ok (.istore 6, 2) := by decide +kernel
theorem dX12_readClause_244 : decode cX12_readClause 244 = .ok (.aload 5, 2) := by decide +kernel
theorem dX12_readClause_246 : decode cX12_readClause 246 = .ok (.aload_n 0, 1) := by decide +kernel
theorem dX12_readClause_247 : decode cX12_readClause 247 = .ok (.invokevirtual 174, 3) := by decide +kernel
theorem dX12_readClause_250 : decode cX12_readClause 250 = .ok (.invokestatic 276, 3) := by decide +kernel
theorem dX12_readClause_253 : decode cX12_readClause 253 = .ok (.istore 7, 2) := by decide +kernel
theorem dX12_readClause_255 : decode cX12_readClause 255 = .ok (.iload 7, 2) := by decide +kernel
theorem dX12_readClause_257 : decode cX12_readClause 257 = .ok (.iconst (-1), 1) := by decide +kernel
theorem dX12_readClause_258 : decode cX12_readClause 258 = .ok (.if_icmp .eq 91, 3) := by decide +kernel
theorem dX12_readClause_261 : decode cX12_readClause 261 = .ok (.aload_n 0, 1) := by decide +kernel
theorem dX12_readClause_262 : decode cX12_readClause 262 = .ok (.getfield 164, 3) := by decide +kernel
theorem dX12_readClause_265 : decode cX12_readClause 265 = .ok (.iconst (-1), 1) := by decide +kernel
theorem dX12_readClause_266 : decode cX12_readClause 266 = .ok (.if_icmp .ne 83, 3) := by decide +kernel
theorem dX12_readClause_269 : decode cX12_readClause 269 = .ok (.iload 6, 2) := by decide +kernel
theorem dX12_readClause_271 : decode cX12_readClause 271 = .ok (.iload 7, 2) := by decide +kernel
theorem dX12_readClause_273 : decode cX12_readClause 273 = .ok (.invokestatic 280, 3) := by decide +kernel
theorem dX12_readClause_276 : decode cX12_readClause 276 = .ok (.ifCond .eq 9, 3) := by decide +kernel
theorem dX12_readClause_279 : decode cX12_readClause 279 = .ok (.aload_n 0, 1) := by decide +kernel
theorem dX12_readClause_280 : decode cX12_readClause 280 = .ok (.invokevirtual 170, 3) := by decide +kernel
theorem dX12_readClause_283 : decode cX12_readClause 283 = .ok (.pop, 1) := by decide +kernel
theorem dX12_readClause_284 : decode cX12_readClause 284 = .ok (.return_, 1) := by decide +kernel
theorem dX12_readClause_285 : decode cX12_readClause 285 = .ok (.iload 6, 2) := by decide +kernel
theorem dX12_readClause_287 : decode cX12_readClause 287 = .ok (.iconst 1, 1) := by decide +kernel
theorem dX12_readClause_288 : decode cX12_readClause 288 = .ok (.iload 7, 2) := by decide +kernel
theorem dX12_readClause_290 : decode cX12_readClause 290 = .ok (.ishl, 1) := by decide +kernel
theorem dX12_readClause_291 : decode cX12_readClause 291 = .ok (.ior, 1) := by decide +kernel
theorem dX12_readClause_292 : decode cX12_readClause 292 = .ok (.istore 6, 2) := by decide +kernel
theorem dX12_readClause_294 : decode cX12_readClause 294 = .ok (.aload_n 0, 1) := by decide +kernel
theorem dX12_readClause_295 : decode cX12_readClause 295 = .ok (.aload 4, 2) := by decide +kernel
theorem dX12_readClause_297 : decode cX12_readClause 297 = .ok (.iload_n 3, 1) := by decide +kernel
theorem dX12_readClause_298 : decode cX12_readClause 298 = .ok (.iload 7, 2) := by decide +kernel
theorem dX12_readClause_300 : decode cX12_readClause 300 = .ok (.iadd, 1) := by decide +kernel
theorem dX12_readClause_301 : decode cX12_readClause 301 = .ok (.iload_n 1, 1) := by decide +kernel
theorem dX12_readClause_302 : decode cX12_readClause 302 = .ok (.bipush 98, 2) := by decide +kernel
theorem dX12_readClause_304 : decode cX12_readClause 304 = .ok (.if_icmp .ne 13, 3) := by decide +kernel
theorem dX12_readClause_307 : decode cX12_readClause 307 = .ok (.iload 7, 2) := by decide +kernel
theorem dX12_readClause_309 : decode cX12_readClause 309 = .ok (.iconst 1, 1) := by decide +kernel
theorem dX12_readClause_310 : decode cX12_readClause 310 = .ok (.if_icmp .ne 7, 3) := by decide +kernel
theorem dX12_readClause_313 : decode cX12_readClause 313 = .ok (.iconst 1, 1) := by decide +kernel
theorem dX12_readClause_314 : decode cX12_readClause 314 = .ok (.goto 4, 3) := by decide +kernel
theorem dX12_readClause_317 : decode cX12_readClause 317 = .ok (.iconst 0, 1) := by decide +kernel
theorem dX12_readClause_318 : decode cX12_readClause 318 = .ok (.iload_n 1, 1) := by decide +kernel
theorem dX12_readClause_319 : decode cX12_readClause 319 = .ok (.iload 7, 2) := by decide +kernel
theorem dX12_readClause_321 : decode cX12_readClause 321 = .ok (.invokestatic 284, 3) := by decide +kernel
theorem dX12_readClause_324 : decode cX12_readClause 324 = .ok (.invokevirtual 287, 3) := by decide +kernel
theorem dX12_readClause_327 : decode cX12_readClause 327 = .ok (.aload_n 0, 1) := by decide +kernel
theorem dX12_readClause_328 : decode cX12_readClause 328 = .ok (.getfield 164, 3) := by decide +kernel
theorem dX12_readClause_331 : decode cX12_readClause 331 = .ok (.iconst (-1), 1) := by decide +kernel
theorem dX12_readClause_332 : decode cX12_readClause 332 = .ok (.if_icmp .ne (-77), 3) := by decide +kernel
theorem dX12_readClause_335 : decode cX12_readClause 335 = .ok (.aload 5, 2) := by decide +kernel
theorem dX12_readClause_337 : decode cX12_readClause 337 = .ok (.aload_n 0, 1) := by decide +kernel
theorem dX12_readClause_338 : decode cX12_readClause 338 = .ok (.invokevirtual 174, 3) := by decide +kernel
theorem dX12_readClause_341 : decode cX12_readClause 341 = .ok (.invokestatic 276, 3) := by decide +kernel
theorem dX12_readClause_344 : decode cX12_readClause 344 = .ok (.istore 7, 2) := by decide +kernel
theorem dX12_readClause_346 : decode cX12_readClause 346 = .ok (.goto (-91), 3) := by decide +kernel
theorem dX12_readClause_349 : decode cX12_readClause 349 = .ok (.return_, 1) := by decide +kernel
theorem dX12_readMarket_0 : decode cX12_readMarket 0 = .ok (.aload_n 0, 1) := by decide +kernel
theorem dX12_readMarket_1 : decode cX12_readMarket 1 = .ok (.aload_n 0, 1) := by decide +kernel
theorem dX12_readMarket_2 : decode cX12_readMarket 2 = .ok (.getfield 9, 3) := by decide +kernel
theorem dX12_readMarket_5 : decode cX12_readMarket 5 = .ok (.iconst 0, 1) := by decide +kernel
theorem dX12_readMarket_6 : decode cX12_readMarket 6 = .ok (.aload_n 0, 1) := by decide +kernel
theorem dX12_readMarket_7 : decode cX12_readMarket 7 = .ok (.getfield 145, 3) := by decide +kernel
theorem dX12_readMarket_10 : decode cX12_readMarket 10 = .ok (.invokevirtual 243, 3) := by decide +kernel
theorem dX12_readMarket_13 : decode cX12_readMarket 13 = .ok (.aload_n 0, 1) := by decide +kernel
theorem dX12_readMarket_14 : decode cX12_readMarket 14 = .ok (.iconst 0, 1) := by decide +kernel
theorem dX12_readMarket_15 : decode cX12_readMarket 15 = .ok (.putfield 257, 3) := by decide +kernel
theorem dX12_readMarket_18 : decode cX12_readMarket 18 = .ok (.aload_n 0, 1) := by decide +kernel
theorem dX12_readMarket_19 : decode cX12_readMarket 19 = .ok (.iconst 0, 1) := by decide +kernel
theorem dX12_readMarket_20 : decode cX12_readMarket 20 = .ok (.putfield 260, 3) := by decide +kernel
theorem dX12_readMarket_23 : decode cX12_readMarket 23 = .ok (.aload_n 0, 1) := by decide +kernel
theorem dX12_readMarket_24 : decode cX12_readMarket 24 = .ok (.iconst 0, 1) := by decide +kernel
theorem dX12_readMarket_25 : decode cX12_readMarket 25 = .ok (.putfield 263, 3) := by decide +kernel
theorem dX12_readMarket_28 : decode cX12_readMarket 28 = .ok (.aload_n 0, 1) := by decide +kernel
theorem dX12_readMarket_29 : decode cX12_readMarket 29 = .ok (.getfield 52, 3) := by decide +kernel
theorem dX12_readMarket_32 : decode cX12_readMarket 32 = .ok (.iconst 0, 1) := by decide +kernel
theorem dX12_readMarket_33 : decode cX12_readMarket 33 = .ok (.bipush 108, 2) := by decide +kernel
theorem dX12_readMarket_35 : decode cX12_readMarket 35 = .ok (.iconst 0, 1) := by decide +kernel
theorem dX12_readMarket_36 : decode cX12_readMarket 36 = .ok (.invokestatic 272, 3) := by decide +kernel
theorem dX12_readMarket_39 : decode cX12_readMarket 39 = .ok (.iastore, 1) := by decide +kernel
theorem dX12_readMarket_40 : decode cX12_readMarket 40 = .ok (.aload_n 0, 1) := by decide +kernel
theorem dX12_readMarket_41 : decode cX12_readMarket 41 = .ok (.getfield 52, 3) := by decide +kernel
theorem dX12_readMarket_44 : decode cX12_readMarket 44 = .ok (.iconst 1, 1) := by decide +kernel
theorem dX12_readMarket_45 : decode cX12_readMarket 45 = .ok (.bipush 108, 2) := by decide +kernel
theorem dX12_readMarket_47 : decode cX12_readMarket 47 = .ok (.iconst 1, 1) := by decide +kernel
theorem dX12_readMarket_48 : decode cX12_readMarket 48 = .ok (.invokestatic 272, 3) := by decide +kernel
theorem dX12_readMarket_51 : decode cX12_readMarket 51 = .ok (.iastore, 1) := by decide +kernel
theorem dX12_readMarket_52 : decode cX12_readMarket 52 = .ok (.iconst 1, 1) := by decide +kernel
theorem dX12_readMarket_53 : decode cX12_readMarket 53 = .ok (.istore_n 1, 1) := by decide +kernel
theorem dX12_readMarket_54 : decode cX12_readMarket 54 = .ok (.iload_n 1, 1) := by decide +kernel
theorem dX12_readMarket_55 : decode cX12_readMarket 55 = .ok (.ifCond .eq 55, 3) := by decide +kernel
theorem dX12_readMarket_58 : decode cX12_readMarket 58 = .ok (.aload_n 0, 1) := by decide +kernel
theorem dX12_readMarket_59 : decode cX12_readMarket 59 = .ok (.getfield 164, 3) := by decide +kernel
theorem dX12_readMarket_62 : decode cX12_readMarket 62 = .ok (.iconst (-1), 1) := by decide +kernel
theorem dX12_readMarket_63 : decode cX12_readMarket 63 = .ok (.if_icmp .ne 47, 3) := by decide +kernel
theorem dX12_readMarket_66 : decode cX12_readMarket 66 = .ok (.aload_n 0, 1) := by decide +kernel
theorem dX12_readMarket_67 : decode cX12_readMarket 67 = .ok (.invokevirtual 291, 3) := by decide +kernel
theorem dX12_readMarket_70 : decode cX12_readMarket 70 = .ok (.aload_n 0, 1) := by decide +kernel
theorem dX12_readMarket_71 : decode cX12_readMarket 71 = .ok (.getfield 164, 3) := by decide +kernel
theorem dX12_readMarket_74 : decode cX12_readMarket 74 = .ok (.iconst (-1), 1) := by decide +kernel
theorem dX12_readMarket_75 : decode cX12_readMarket 75 = .ok (.if_icmp .ne 16, 3) := by decide +kernel
theorem dX12_readMarket_78 : decode cX12_readMarket 78 = .ok (.aload_n 0, 1) := by decide +kernel
theorem dX12_readMarket_79 : decode cX12_readMarket 79 = .ok (.invokevirtual 174, 3) := by decide +kernel
theorem dX12_readMarket_82 : decode cX12_readMarket 82 = .ok (.bipush 59, 2) := by decide +kernel
theorem dX12_readMarket_84 : decode cX12_readMarket 84 = .ok (.if_icmp .ne 7, 3) := by decide +kernel
theorem dX12_readMarket_87 : decode cX12_readMarket 87 = .ok (.iconst 1, 1) := by decide +kernel
theorem dX12_readMarket_88 : decode cX12_readMarket 88 = .ok (.goto 4, 3) := by decide +kernel
theorem dX12_readMarket_91 : decode cX12_readMarket 91 = .ok (.iconst 0, 1) := by decide +kernel
theorem dX12_readMarket_92 : decode cX12_readMarket 92 = .ok (.istore_n 1, 1) := by decide +kernel
theorem dX12_readMarket_93 : decode cX12_readMarket 93 = .ok (.iload_n 1, 1) := by decide +kernel
theorem dX12_readMarket_94 : decode cX12_readMarket 94 = .ok (.ifCond .eq (-40), 3) := by decide +kernel
theorem dX12_readMarket_97 : decode cX12_readMarket 97 = .ok (.aload_n 0, 1) := by decide +kernel
theorem dX12_readMarket_98 : decode cX12_readMarket 98 = .ok (.dup, 1) := by decide +kernel
theorem dX12_readMarket_99 : decode cX12_readMarket 99 = .ok (.getfield 155, 3) := by decide +kernel
theorem dX12_readMarket_102 : decode cX12_readMarket 102 = .ok (.iconst 1, 1) := by decide +kernel
theorem dX12_readMarket_103 : decode cX12_readMarket 103 = .ok (.iadd, 1) := by decide +kernel
theorem dX12_readMarket_104 : decode cX12_readMarket 104 = .ok (.putfield 155, 3) := by decide +kernel
theorem dX12_readMarket_107 : decode cX12_readMarket 107 = .ok (.goto (-53), 3) := by decide +kernel
theorem dX12_readMarket_110 : decode cX12_readMarket 110 = .ok (.aload_n 0, 1) := by decide +kernel
theorem dX12_readMarket_111 : decode cX12_readMarket 111 = .ok (.getfield 164, 3) := by decide +kernel
theorem dX12_readMarket_114 : decode cX12_readMarket 114 = .ok (.iconst (-1), 1) := by decide +kernel
theorem dX12_readMarket_115 : decode cX12_readMarket 115 = .ok (.if_icmp .ne 30, 3) := by decide +kernel
theorem dX12_readMarket_118 : decode cX12_readMarket 118 = .ok (.aload_n 0, 1) := by decide +kernel
theorem dX12_readMarket_119 : decode cX12_readMarket 119 = .ok (.invokevirtual 174, 3) := by decide +kernel
theorem dX12_readMarket_122 : decode cX12_readMarket 122 = .ok (.iconst (-1), 1) := by decide +kernel
theorem dX12_readMarket_123 : decode cX12_readMarket 123 = .ok (.if_icmp .ne 17, 3) := by decide +kernel
theorem dX12_readMarket_126 : decode cX12_readMarket 126 = .ok (.aload_n 0, 1) := by decide +kernel
theorem dX12_readMarket_127 : decode cX12_readMarket 127 = .ok (.getfield 257, 3) := by decide +kernel
theorem dX12_readMarket_130 : decode cX12_readMarket 130 = .ok (.ifCond .eq 10, 3) := by decide +kernel
theorem dX12_readMarket_133 : decode cX12_readMarket 133 = .ok (.aload_n 0, 1) := by decide +kernel
theorem dX12_readMarket_134 : decode cX12_readMarket 134 = .ok (.getfield 260, 3) := by decide +kernel
theorem dX12_readMarket_137 : decode cX12_readMarket 137 = .ok (.ifCond .ne 8, 3) := by decide +kernel
theorem dX12_readMarket_140 : decode cX12_readMarket 140 = .ok (.aload_n 0, 1) := by decide +kernel
theorem dX12_readMarket_141 : decode cX12_readMarket 141 = .ok (.invokevirtual 170, 3) := by decide +kernel
theorem dX12_readMarket_144 : decode cX12_readMarket 144 = .ok (.pop, 1) := by decide +kernel
theorem dX12_readMarket_145 : decode cX12_readMarket 145 = .ok (.return_, 1) := by decide +kernel
theorem dX12_fault_0 : decode cX12_fault 0 = .ok (.aload_n 0, 1) := by decide +kernel
theorem dX12_fault_1 : decode cX12_fault 1 = .ok (.iconst 0, 1) := by decide +kernel
theorem dX12_fault_2 : decode cX12_fault 2 = .ok (.putfield 131, 3) := by decide +kernel
theorem dX12_fault_5 : decode cX12_fault 5 = .ok (.iload_n 1, 1) := by decide +kernel
theorem dX12_fault_6 : decode cX12_fault 6 = .ok (.i2l, 1) := by decide +kernel
theorem dX12_fault_7 : decode cX12_fault 7 = .ok (.lconst 0, 1) := by decide +kernel
theorem dX12_fault_8 : decode cX12_fault 8 = .ok (.lconst 1, 1) := by decide +kernel
theorem dX12_fault_9 : decode cX12_fault 9 = .ok (.invokestatic 253, 3) := by decide +kernel
theorem dX12_fault_12 : decode cX12_fault 12 = .ok (.ifCond .ne 6, 3) := by decide +kernel
theorem dX12_fault_15 : decode cX12_fault 15 = .ok (.bipush (-2), 2) := by decide +kernel
theorem dX12_fault_17 : decode cX12_fault 17 = .ok (.ireturn, 1) := by decide +kernel
theorem dX12_fault_18 : decode cX12_fault 18 = .ok (.iload_n 1, 1) := by decide +kernel
theorem dX12_fault_19 : decode cX12_fault 19 = .ok (.ifCond .ne 10, 3) := by decide +kernel
theorem dX12_fault_22 : decode cX12_fault 22 = .ok (.aload_n 0, 1) := by decide +kernel
theorem dX12_fault_23 : decode cX12_fault 23 = .ok (.invokevirtual 294, 3) := by decide +kernel
theorem dX12_fault_26 : decode cX12_fault 26 = .ok (.goto 16, 3) := by decide +kernel
theorem dX12_fault_29 : decode cX12_fault 29 = .ok (.aload_n 0, 1) := by decide +kernel
theorem dX12_fault_30 : decode cX12_fault 30 = .ok (.aload_n 0, 1) := by decide +kernel
theorem dX12_fault_31 : decode cX12_fault 31 = .ok (.getfield 9, 3) := by decide +kernel
theorem dX12_fault_34 : decode cX12_fault 34 = .ok (.iconst 0, 1) := by decide +kernel
theorem dX12_fault_35 : decode cX12_fault 35 = .ok (.aload_n 0, 1) := by decide +kernel
theorem dX12_fault_36 : decode cX12_fault 36 = .ok (.getfield 145, 3) := by decide +kernel
theorem dX12_fault_39 : decode cX12_fault 39 = .ok (.invokevirtual 297, 3) := by decide +kernel
theorem dX12_fault_42 : decode cX12_fault 42 = .ok (.aload_n 0, 1) := by decide +kernel
theorem dX12_fault_43 : decode cX12_fault 43 = .ok (.getfield 164, 3) := by decide +kernel
theorem dX12_fault_46 : decode cX12_fault 46 = .ok (.ireturn, 1) := by decide +kernel
theorem dX12_text_0 : decode cX12_text 0 = .ok (.aload_n 0, 1) := by decide +kernel
theorem dX12_text_1 : decode cX12_text 1 = .ok (.iconst 0, 1) := by decide +kernel
theorem dX12_text_2 : decode cX12_text 2 = .ok (.putfield 131, 3) := by decide +kernel
theorem dX12_text_5 : decode cX12_text 5 = .ok (.iload_n 1, 1) := by decide +kernel
theorem dX12_text_6 : decode cX12_text 6 = .ok (.i2l, 1) := by decide +kernel
theorem dX12_text_7 : decode cX12_text 7 = .ok (.lconst 0, 1) := by decide +kernel
theorem dX12_text_8 : decode cX12_text 8 = .ok (.lconst 1, 1) := by decide +kernel
theorem dX12_text_9 : decode cX12_text 9 = .ok (.invokestatic 253, 3) := by decide +kernel
theorem dX12_text_12 : decode cX12_text 12 = .ok (.ifCond .eq 25, 3) := by decide +kernel
theorem dX12_text_15 : decode cX12_text 15 = .ok (.iload_n 1, 1) := by decide +kernel
theorem dX12_text_16 : decode cX12_text 16 = .ok (.iconst 1, 1) := by decide +kernel
theorem dX12_text_17 : decode cX12_text 17 = .ok (.if_icmp .ne 11, 3) := by decide +kernel
theorem dX12_text_20 : decode cX12_text 20 = .ok (.aload_n 0, 1) := by decide +kernel
theorem dX12_text_21 : decode cX12_text 21 = .ok (.getfield 300, 3) := by decide +kernel
theorem dX12_text_24 : decode cX12_text 24 = .ok (.iconst 5, 1) := by decide +kernel
theorem dX12_text_25 : decode cX12_text 25 = .ok (.if_icmp .eq 12, 3) := by decide +kernel
theorem dX12_text_28 : decode cX12_text 28 = .ok (.aload_n 0, 1) := by decide +kernel
theorem dX12_text_29 : decode cX12_text 29 = .ok (.iload_n 1, 1) := by decide +kernel
theorem dX12_text_30 : decode cX12_text 30 = .ok (.invokevirtual 303, 3) := by decide +kernel
theorem dX12_text_33 : decode cX12_text 33 = .ok (.iconst (-1), 1) := by decide +kernel
theorem dX12_text_34 : decode cX12_text 34 = .ok (.if_icmp .eq 5, 3) := by decide +kernel
theorem dX12_text_37 : decode cX12_text 37 = .ok (.iconst (-1), 1) := by decide +kernel
theorem dX12_text_38 : decode cX12_text 38 = .ok (.ireturn, 1) := by decide +kernel
theorem dX12_text_39 : decode cX12_text 39 = .ok (.aload_n 0, 1) := by decide +kernel
theorem dX12_text_40 : decode cX12_text 40 = .ok (.getfield 145, 3) := by decide +kernel
theorem dX12_text_43 : decode cX12_text 43 = .ok (.istore_n 2, 1) := by decide +kernel
theorem dX12_text_44 : decode cX12_text 44 = .ok (.aload_n 0, 1) := by decide +kernel
theorem dX12_text_45 : decode cX12_text 45 = .ok (.iconst 0, 1) := by decide +kernel
theorem dX12_text_46 : decode cX12_text 46 = .ok (.putfield 145, 3) := by decide +kernel
theorem dX12_text_49 : decode cX12_text 49 = .ok (.iload_n 1, 1) := by decide +kernel
theorem dX12_text_50 : decode cX12_text 50 = .ok (.iconst 1, 1) := by decide +kernel
theorem dX12_text_51 : decode cX12_text 51 = .ok (.if_icmp .ne 64, 3) := by decide +kernel
theorem dX12_text_54 : decode cX12_text 54 = .ok (.iconst 0, 1) := by decide +kernel
theorem dX12_text_55 : decode cX12_text 55 = .ok (.istore_n 3, 1) := by decide +kernel
theorem dX12_text_56 : decode cX12_text 56 = .ok (.iload_n 3, 1) := by decide +kernel
theorem dX12_text_57 : decode cX12_text 57 = .ok (.iload_n 2, 1) := by decide +kernel
theorem dX12_text_58 : decode cX12_text 58 = .ok (.if_icmp .ge 30, 3) := by decide +kernel
theorem dX12_text_61 : decode cX12_text 61 = .ok (.aload_n 0, 1) := by decide +kernel
theorem dX12_text_62 : decode cX12_text 62 = .ok (.getfield 13, 3) := by decide +kernel
theorem dX12_text_65 : decode cX12_text 65 = .ok (.sipush 160, 3) := by decide +kernel
theorem dX12_text_68 : decode cX12_text 68 = .ok (.aload_n 0, 1) := by decide +kernel
theorem dX12_text_69 : decode cX12_text 69 = .ok (.getfield 300, 3) := by decide +kernel
theorem dX12_text_72 : decode cX12_text 72 = .ok (.imul, 1) := by decide +kernel
theorem dX12_text_73 : decode cX12_text 73 = .ok (.iload_n 3, 1) := by decide +kernel
theorem dX12_text_74 : decode cX12_text 74 = .ok (.iadd, 1) := by decide +kernel
theorem dX12_text_75 : decode cX12_text 75 = .ok (.aload_n 0, 1) := by decide +kernel
theorem dX12_text_76 : decode cX12_text 76 = .ok (.getfield 9, 3) := by decide +kernel
theorem dX12_text_79 : decode cX12_text 79 = .ok (.iload_n 3, 1) := by decide +kernel
theorem dX12_text_80 : decode cX12_text 80 = .ok (.baload, 1) := by decide +kernel
theorem dX12_text_81 : decode cX12_text 81 = .ok (.bastore, 1) := by decide +kernel
theorem dX12_text_82 : decode cX12_text 82 = .ok (.iinc 3 1, 3) := by decide +kernel
theorem dX12_text_85 : decode cX12_text 85 = .ok (.goto (-29), 3) := by decide +kernel
theorem dX12_text_88 : decode cX12_text 88 = .ok (.aload_n 0, 1) := by decide +kernel
theorem dX12_text_89 : decode cX12_text 89 = .ok (.getfield 16, 3) := by decide +kernel
theorem dX12_text_92 : decode cX12_text 92 = .ok (.aload_n 0, 1) := by decide +kernel
theorem dX12_text_93 : decode cX12_text 93 = .ok (.getfield 300, 3) := by decide +kernel
theorem dX12_text_96 : decode cX12_text 96 = .ok (.iload_n 2, 1) := by decide +kernel
theorem dX12_text_97 : decode cX12_text 97 = .ok (.iastore, 1) := by decide +kernel
theorem dX12_text_98 : decode cX12_text 98 = .ok (.aload_n 0, 1) := by decide +kernel
theorem dX12_text_99 : decode cX12_text 99 = .ok (.dup, 1) := by decide +kernel
theorem dX12_text_100 : decode cX12_text 100 = .ok (.getfield 300, 3) := by decide +kernel
theorem dX12_text_103 : decode cX12_text 103 = .ok (.iconst 1, 1) := by decide +kernel
theorem dX12_text_104 : decode cX12_text 104 = .ok (.iadd, 1) := by decide +kernel
theorem dX12_text_105 : decode cX12_text 105 = .ok (.putfield 300, 3) := by decide +kernel
theorem dX12_text_108 : decode cX12_text 108 = .ok (.aload_n 0, 1) := by decide +kernel
theorem dX12_text_109 : decode cX12_text 109 = .ok (.getfield 300, 3) := by decide +kernel
theorem dX12_text_112 : decode cX12_text 112 = .ok (.iconst 1, 1) := by decide +kernel
theorem dX12_text_113 : decode cX12_text 113 = .ok (.isub, 1) := by decide +kernel
theorem dX12_text_114 : decode cX12_text 114 = .ok (.ireturn, 1) := by decide +kernel
theorem dX12_text_115 : decode cX12_text 115 = .ok (.aload_n 0, 1) := by decide +kernel
theorem dX12_text_116 : decode cX12_text 116 = .ok (.aload_n 0, 1) := by decide +kernel
theorem dX12_text_117 : decode cX12_text 117 = .ok (.getfield 257, 3) := by decide +kernel
theorem dX12_text_120 : decode cX12_text 120 = .ok (.putfield 305, 3) := by decide +kernel
theorem dX12_text_123 : decode cX12_text 123 = .ok (.aload_n 0, 1) := by decide +kernel
theorem dX12_text_124 : decode cX12_text 124 = .ok (.aload_n 0, 1) := by decide +kernel
theorem dX12_text_125 : decode cX12_text 125 = .ok (.getfield 260, 3) := by decide +kernel
theorem dX12_text_128 : decode cX12_text 128 = .ok (.putfield 308, 3) := by decide +kernel
theorem dX12_text_131 : decode cX12_text 131 = .ok (.iconst 0, 1) := by decide +kernel
theorem dX12_text_132 : decode cX12_text 132 = .ok (.istore_n 3, 1) := by decide +kernel
theorem dX12_text_133 : decode cX12_text 133 = .ok (.iload_n 3, 1) := by decide +kernel
theorem dX12_text_134 : decode cX12_text 134 = .ok (.bipush 15, 2) := by decide +kernel
theorem dX12_text_136 : decode cX12_text 136 = .ok (.if_icmp .ge 21, 3) := by decide +kernel
theorem dX12_text_139 : decode cX12_text 139 = .ok (.aload_n 0, 1) := by decide +kernel
theorem dX12_text_140 : decode cX12_text 140 = .ok (.getfield 37, 3) := by decide +kernel
theorem dX12_text_143 : decode cX12_text 143 = .ok (.iload_n 3, 1) := by decide +kernel
theorem dX12_text_144 : decode cX12_text 144 = .ok (.aload_n 0, 1) := by decide +kernel
theorem dX12_text_145 : decode cX12_text 145 = .ok (.getfield 46, 3) := by decide +kernel
theorem dX12_text_148 : decode cX12_text 148 = .ok (.iload_n 3, 1) := by decide +kernel
theorem dX12_text_149 : decode cX12_text 149 = .ok (.iaload, 1) := by decide +kernel
theorem dX12_text_150 : decode cX12_text 150 = .ok (.iastore, 1) := by decide +kernel
theorem dX12_text_151 : decode cX12_text 151 = .ok (.iinc 3 1, 3) := by decide +kernel
theorem dX12_text_154 : decode cX12_text 154 = .ok (.goto (-21), 3) := by decide +kernel
theorem dX12_text_157 : decode cX12_text 157 = .ok (.iconst 0, 1) := by decide +kernel
theorem dX12_text_158 : decode cX12_text 158 = .ok (.istore_n 3, 1) := by decide +kernel
theorem dX12_text_159 : decode cX12_text 159 = .ok (.iload_n 3, 1) := by decide +kernel
theorem dX12_text_160 : decode cX12_text 160 = .ok (.bipush 18, 2) := by decide +kernel
theorem dX12_text_162 : decode cX12_text 162 = .ok (.if_icmp .ge 21, 3) := by decide +kernel
theorem dX12_text_165 : decode cX12_text 165 = .ok (.aload_n 0, 1) := by decide +kernel
theorem dX12_text_166 : decode cX12_text 166 = .ok (.getfield 40, 3) := by decide +kernel
theorem dX12_text_169 : decode cX12_text 169 = .ok (.iload_n 3, 1) := by decide +kernel
theorem dX12_text_170 : decode cX12_text 170 = .ok (.aload_n 0, 1) := by decide +kernel
theorem dX12_text_171 : decode cX12_text 171 = .ok (.getfield 49, 3) := by decide +kernel
theorem dX12_text_174 : decode cX12_text 174 = .ok (.iload_n 3, 1) := by decide +kernel
theorem dX12_text_175 : decode cX12_text 175 = .ok (.iaload, 1) := by decide +kernel
theorem dX12_text_176 : decode cX12_text 176 = .ok (.iastore, 1) := by decide +kernel
theorem dX12_text_177 : decode cX12_text 177 = .ok (.iinc 3 1, 3) := by decide +kernel
theorem dX12_text_180 : decode cX12_text 180 = .ok (.goto (-21), 3) := by decide +kernel
theorem dX12_text_183 : decode cX12_text 183 = .ok (.aload_n 0, 1) := by decide +kernel
theorem dX12_text_184 : decode cX12_text 184 = .ok (.getfield 43, 3) := by decide +kernel
theorem dX12_text_187 : decode cX12_text 187 = .ok (.iconst 0, 1) := by decide +kernel
theorem dX12_text_188 : decode cX12_text 188 = .ok (.aload_n 0, 1) := by decide +kernel
theorem dX12_text_189 : decode cX12_text 189 = .ok (.getfield 52, 3) := by decide +kernel
theorem dX12_text_192 : decode cX12_text 192 = .ok (.iconst 0, 1) := by decide +kernel
theorem dX12_text_193 : decode cX12_text 193 = .ok (.iaload, 1) := by decide +kernel
theorem dX12_text_194 : decode cX12_text 194 = .ok (.iastore, 1) := by decide +kernel
theorem dX12_text_195 : decode cX12_text 195 = .ok (.aload_n 0, 1) := by decide +kernel
theorem dX12_text_196 : decode cX12_text 196 = .ok (.getfield 43, 3) := by decide +kernel
theorem dX12_text_199 : decode cX12_text 199 = .ok (.iconst 1, 1) := by decide +kernel
theorem dX12_text_200 : decode cX12_text 200 = .ok (.aload_n 0, 1) := by decide +kernel
theorem dX12_text_201 : decode cX12_text 201 = .ok (.getfield 52, 3) := by decide +kernel
theorem dX12_text_204 : decode cX12_text 204 = .ok (.iconst 1, 1) := by decide +kernel
theorem dX12_text_205 : decode cX12_text 205 = .ok (.iaload, 1) := by decide +kernel
theorem dX12_text_206 : decode cX12_text 206 = .ok (.iastore, 1) := by decide +kernel
theorem dX12_text_207 : decode cX12_text 207 = .ok (.iconst 0, 1) := by decide +kernel
theorem dX12_text_208 : decode cX12_text 208 = .ok (.istore_n 3, 1) := by decide +kernel
theorem dX12_text_209 : decode cX12_text 209 = .ok (.iload_n 3, 1) := by decide +kernel
theorem dX12_text_210 : decode cX12_text 210 = .ok (.bipush 57, 2) := by decide +kernel
theorem dX12_text_212 : decode cX12_text 212 = .ok (.if_icmp .ge 16, 3) := by decide +kernel
theorem dX12_text_215 : decode cX12_text 215 = .ok (.aload_n 0, 1) := by decide +kernel
theorem dX12_text_216 : decode cX12_text 216 = .ok (.getfield 55, 3) := by decide +kernel
theorem dX12_text_219 : decode cX12_text 219 = .ok (.iload_n 3, 1) := by decide +kernel
theorem dX12_text_220 : decode cX12_text 220 = .ok (.iconst 0, 1) := by decide +kernel
theorem dX12_text_221 : decode cX12_text 221 = .ok (.iastore, 1) := by decide +kernel
theorem dX12_text_222 : decode cX12_text 222 = .ok (.iinc 3 1, 3) := by decide +kernel
theorem dX12_text_225 : decode cX12_text 225 = .ok (.goto (-16), 3) := by decide +kernel
theorem dX12_text_228 : decode cX12_text 228 = .ok (.iconst 0, 1) := by decide +kernel
theorem dX12_text_229 : decode cX12_text 229 = .ok (.istore_n 3, 1) := by decide +kernel
theorem dX12_text_230 : decode cX12_text 230 = .ok (.iload_n 3, 1) := by decide +kernel
theorem dX12_text_231 : decode cX12_text 231 = .ok (.iconst 5, 1) := by decide +kernel
theorem dX12_text_232 : decode cX12_text 232 = .ok (.if_icmp .ge 26, 3) := by decide +kernel
theorem dX12_text_235 : decode cX12_text 235 = .ok (.aload_n 0, 1) := by decide +kernel
theorem dX12_text_236 : decode cX12_text 236 = .ok (.getfield 55, 3) := by decide +kernel
theorem dX12_text_239 : decode cX12_text 239 = .ok (.bipush 18, 2) := by decide +kernel
theorem dX12_text_241 : decode cX12_text 241 = .ok (.iload_n 3, 1) := by decide +kernel
theorem dX12_text_242 : decode cX12_text 242 = .ok (.iadd, 1) := by decide +kernel
theorem dX12_text_243 : decode cX12_text 243 = .ok (.iconst (-1), 1) := by decide +kernel
theorem dX12_text_244 : decode cX12_text 244 = .ok (.iastore, 1) := by decide +kernel
theorem dX12_text_245 : decode cX12_text 245 = .ok (.aload_n 0, 1) := by decide +kernel
theorem dX12_text_246 : decode cX12_text 246 = .ok (.getfield 61, 3) := by decide +kernel
theorem dX12_text_249 : decode cX12_text 249 = .ok (.iload_n 3, 1) := by decide +kernel
theorem dX12_text_250 : decode cX12_text 250 = .ok (.iconst (-1), 1) := by decide +kernel
theorem dX12_text_251 : decode cX12_text 251 = .ok (.iastore, 1) := by decide +kernel
theorem dX12_text_252 : decode cX12_text 252 = .ok (.iinc 3 1, 3) := by decide +kernel
theorem dX12_text_255 : decode cX12_text 255 = .ok (.goto (-25), 3) := by decide +kernel
theorem dX12_text_258 : decode cX12_text 258 = .ok (.aload_n 0, 1) := by decide +kernel
theorem dX12_text_259 : decode cX12_text 259 = .ok (.getfield 55, 3) := by decide +kernel
theorem dX12_text_262 : decode cX12_text 262 = .ok (.bipush 54, 2) := by decide +kernel
theorem dX12_text_264 : decode cX12_text 264 = .ok (.aload_n 0, 1) := by decide +kernel
theorem dX12_text_265 : decode cX12_text 265 = .ok (.getfield 43, 3) := by decide +kernel
theorem dX12_text_268 : decode cX12_text 268 = .ok (.iconst 1, 1) := by decide +kernel
theorem dX12_text_269 : decode cX12_text 269 = .ok (.iaload, 1) := by decide +kernel
theorem dX12_text_270 : decode cX12_text 270 = .ok (.iastore, 1) := by decide +kernel
theorem dX12_text_271 : decode cX12_text 271 = .ok (.aload_n 0, 1) := by decide +kernel
theorem dX12_text_272 : decode cX12_text 272 = .ok (.iconst 0, 1) := by decide +kernel
theorem dX12_text_273 : decode cX12_text 273 = .ok (.putfield 311, 3) := by decide +kernel
theorem dX12_text_276 : decode cX12_text 276 = .ok (.aload_n 0, 1) := by decide +kernel
theorem dX12_text_277 : decode cX12_text 277 = .ok (.iconst 0, 1) := by decide +kernel
theorem dX12_text_278 : decode cX12_text 278 = .ok (.putfield 314, 3) := by decide +kernel
theorem dX12_text_281 : decode cX12_text 281 = .ok (.aload_n 0, 1) := by decide +kernel
theorem dX12_text_282 : decode cX12_text 282 = .ok (.iconst 0, 1) := by decide +kernel
theorem dX12_text_283 : decode cX12_text 283 = .ok (.putfield 317, 3) := by decide +kernel
theorem dX12_text_286 : decode cX12_text 286 = .ok (.aload_n 0, 1) := by decide +kernel
theorem dX12_text_287 : decode cX12_text 287 = .ok (.iconst 0, 1) := by decide +kernel
theorem dX12_text_288 : decode cX12_text 288 = .ok (.putfield 320, 3) := by decide +kernel
theorem dX12_text_291 : decode cX12_text 291 = .ok (.aload_n 0, 1) := by decide +kernel
theorem dX12_text_292 : decode cX12_text 292 = .ok (.getfield 305, 3) := by decide +kernel
theorem dX12_text_295 : decode cX12_text 295 = .ok (.ireturn, 1) := by decide +kernel
theorem dX12_isSeller_0 : decode cX12_isSeller 0 = .ok (.iload_n 1, 1) := by decide +kernel
theorem dX12_isSeller_1 : decode cX12_isSeller 1 = .ok (.ifCond .lt 15, 3) := by decide +kernel
theorem dX12_isSeller_4 : decode cX12_isSeller 4 = .ok (.iload_n 1, 1) := by decide +kernel
theorem dX12_isSeller_5 : decode cX12_isSeller 5 = .ok (.aload_n 0, 1) := by decide +kernel
theorem dX12_isSeller_6 : decode cX12_isSeller 6 = .ok (.getfield 305, 3) := by decide +kernel
theorem dX12_isSeller_9 : decode cX12_isSeller 9 = .ok (.if_icmp .ge 7, 3) := by decide +kernel
theorem dX12_isSeller_12 : decode cX12_isSeller 12 = .ok (.iconst 1, 1) := by decide +kernel
theorem dX12_isSeller_13 : decode cX12_isSeller 13 = .ok (.goto 4, 3) := by decide +kernel
theorem dX12_isSeller_16 : decode cX12_isSeller 16 = .ok (.iconst 0, 1) := by decide +kernel
theorem dX12_isSeller_17 : decode cX12_isSeller 17 = .ok (.ireturn, 1) := by decide +kernel
theorem dX12_seller_0 : decode cX12_seller 0 = .ok (.aload_n 0, 1) := by decide +kernel
theorem dX12_seller_1 : decode cX12_seller 1 = .ok (.aload_n 0, 1) := by decide +kernel
theorem dX12_seller_2 : decode cX12_seller 2 = .ok (.iload_n 1, 1) := by decide +kernel
theorem dX12_seller_3 : decode cX12_seller 3 = .ok (.invokevirtual 323, 3) := by decide +kernel
theorem dX12_seller_6 : decode cX12_seller 6 = .ok (.ifCond .eq 19, 3) := by decide +kernel
theorem dX12_seller_9 : decode cX12_seller 9 = .ok (.iload_n 2, 1) := by decide +kernel
theorem dX12_seller_10 : decode cX12_seller 10 = .ok (.i2l, 1) := by decide +kernel
theorem dX12_seller_11 : decode cX12_seller 11 = .ok (.lconst 0, 1) := by decide +kernel
theorem dX12_seller_12 : decode cX12_seller 12 = .ok (.ldc2_w 326, 3) := by decide +kernel
theorem dX12_seller_15 : decode cX12_seller 15 = .ok (.invokestatic 253, 3) := by decide +kernel
theorem dX12_seller_18 : decode cX12_seller 18 = .ok (.ifCond .eq 7, 3) := by decide +kernel
theorem dX12_seller_21 : decode cX12_seller 21 = .ok (.iconst 0, 1) := by decide +kernel
theorem dX12_seller_22 : decode cX12_seller 22 = .ok (.goto 4, 3) := by decide +kernel
theorem dX12_seller_25 : decode cX12_seller 25 = .ok (.iconst 1, 1) := by decide +kernel
theorem dX12_seller_26 : decode cX12_seller 26 = .ok (.putfield 131, 3) := by decide +kernel
theorem dX12_seller_29 : decode cX12_seller 29 = .ok (.aload_n 0, 1) := by decide +kernel
theorem dX12_seller_30 : decode cX12_seller 30 = .ok (.getfield 131, 3) := by decide +kernel
theorem dX12_seller_33 : decode cX12_seller 33 = .ok (.ifCond .le 5, 3) := by decide +kernel
theorem dX12_seller_36 : decode cX12_seller 36 = .ok (.iconst 0, 1) := by decide +kernel
theorem dX12_seller_37 : decode cX12_seller 37 = .ok (.ireturn, 1) := by decide +kernel
theorem dX12_seller_38 : decode cX12_seller 38 = .ok (.iload_n 2, 1) := by decide +kernel
theorem dX12_seller_39 : decode cX12_seller 39 = .ok (.iconst 3, 1) := by decide +kernel
theorem dX12_seller_40 : decode cX12_seller 40 = .ok (.if_icmp .ge 14, 3) := by decide +kernel
theorem dX12_seller_43 : decode cX12_seller 43 = .ok (.aload_n 0, 1) := by decide +kernel
theorem dX12_seller_44 : decode cX12_seller 44 = .ok (.getfield 37, 3) := by decide +kernel
theorem dX12_seller_47 : decode cX12_seller 47 = .ok (.iconst 3, 1) := by decide +kernel
theorem dX12_seller_48 : decode cX12_seller 48 = .ok (.iload_n 1, 1) := by decide +kernel
theorem dX12_seller_49 : decode cX12_seller 49 = .ok (.imul, 1) := by decide +kernel
theorem dX12_seller_50 : decode cX12_seller 50 = .ok (.iload_n 2, 1) := by decide +kernel
theorem dX12_seller_51 : decode cX12_seller 51 = .ok (.iadd, 1) := by decide +kernel
theorem dX12_seller_52 : decode cX12_seller 52 = .ok (.iaload, 1) := by decide +kernel
theorem dX12_seller_53 : decode cX12_seller 53 = .ok (.ireturn, 1) := by decide +kernel
theorem dX12_seller_54 : decode cX12_seller 54 = .ok (.iload_n 2, 1) := by decide +kernel
theorem dX12_seller_55 : decode cX12_seller 55 = .ok (.tableswitch 98 3 8 #[37, 44, 54, 64, 71, 88], 37) := by decide +kernel
theorem dX12_seller_92 : decode cX12_seller 92 = .ok (.aload_n 0, 1) := by decide +kernel
theorem dX12_seller_93 : decode cX12_seller 93 = .ok (.getfield 55, 3) := by decide +kernel
theorem dX12_seller_96 : decode cX12_seller 96 = .ok (.iload_n 1, 1) := by decide +kernel
theorem dX12_seller_97 : decode cX12_seller 97 = .ok (.iaload, 1) := by decide +kernel
theorem dX12_seller_98 : decode cX12_seller 98 = .ok (.ireturn, 1) := by decide +kernel
theorem dX12_seller_99 : decode cX12_seller 99 = .ok (.aload_n 0, 1) := by decide +kernel
theorem dX12_seller_100 : decode cX12_seller 100 = .ok (.getfield 55, 3) := by decide +kernel
theorem dX12_seller_103 : decode cX12_seller 103 = .ok (.bipush 6, 2) := by decide +kernel
theorem dX12_seller_105 : decode cX12_seller 105 = .ok (.iload_n 1, 1) := by decide +kernel
theorem dX12_seller_106 : decode cX12_seller 106 = .ok (.iadd, 1) := by decide +kernel
theorem dX12_seller_107 : decode cX12_seller 107 = .ok (.iaload, 1) := by decide +kernel
theorem dX12_seller_108 : decode cX12_seller 108 = .ok (.ireturn, 1) := by decide +kernel
theorem dX12_seller_109 : decode cX12_seller 109 = .ok (.aload_n 0, 1) := by decide +kernel
theorem dX12_seller_110 : decode cX12_seller 110 = .ok (.getfield 55, 3) := by decide +kernel
theorem dX12_seller_113 : decode cX12_seller 113 = .ok (.bipush 12, 2) := by decide +kernel
theorem dX12_seller_115 : decode cX12_seller 115 = .ok (.iload_n 1, 1) := by decide +kernel
theorem dX12_seller_116 : decode cX12_seller 116 = .ok (.iadd, 1) := by decide +kernel
theorem dX12_seller_117 : decode cX12_seller 117 = .ok (.iaload, 1) := by decide +kernel
theorem dX12_seller_118 : decode cX12_seller 118 = .ok (.ireturn, 1) := by decide +kernel
theorem dX12_seller_119 : decode cX12_seller 119 = .ok (.aload_n 0, 1) := by decide +kernel
theorem dX12_seller_120 : decode cX12_seller 120 = .ok (.getfield 61, 3) := by decide +kernel
theorem dX12_seller_123 : decode cX12_seller 123 = .ok (.iload_n 1, 1) := by decide +kernel
theorem dX12_seller_124 : decode cX12_seller 124 = .ok (.iaload, 1) := by decide +kernel
theorem dX12_seller_125 : decode cX12_seller 125 = .ok (.ireturn, 1) := by decide +kernel
theorem dX12_seller_126 : decode cX12_seller 126 = .ok (.aload_n 0, 1) := by decide +kernel
theorem dX12_seller_127 : decode cX12_seller 127 = .ok (.getfield 311, 3) := by decide +kernel
theorem dX12_seller_130 : decode cX12_seller 130 = .ok (.iload_n 1, 1) := by decide +kernel
theorem dX12_seller_131 : decode cX12_seller 131 = .ok (.invokestatic 280, 3) := by decide +kernel
theorem dX12_seller_134 : decode cX12_seller 134 = .ok (.ifCond .eq 7, 3) := by decide +kernel
theorem dX12_seller_137 : decode cX12_seller 137 = .ok (.iconst 1, 1) := by decide +kernel
theorem dX12_seller_138 : decode cX12_seller 138 = .ok (.goto 4, 3) := by decide +kernel
theorem dX12_seller_141 : decode cX12_seller 141 = .ok (.iconst 0, 1) := by decide +kernel
theorem dX12_seller_142 : decode cX12_seller 142 = .ok (.ireturn, 1) := by decide +kernel
theorem dX12_seller_143 : decode cX12_seller 143 = .ok (.aload_n 0, 1) := by decide +kernel
theorem dX12_seller_144 : decode cX12_seller 144 = .ok (.getfield 55, 3) := by decide +kernel
theorem dX12_seller_147 : decode cX12_seller 147 = .ok (.bipush 18, 2) := by decide +kernel
theorem dX12_seller_149 : decode cX12_seller 149 = .ok (.iload_n 1, 1) := by decide +kernel
theorem dX12_seller_150 : decode cX12_seller 150 = .ok (.iadd, 1) := by decide +kernel
theorem dX12_seller_151 : decode cX12_seller 151 = .ok (.iaload, 1) := by decide +kernel
theorem dX12_seller_152 : decode cX12_seller 152 = .ok (.ireturn, 1) := by decide +kernel
theorem dX12_seller_153 : decode cX12_seller 153 = .ok (.aload_n 0, 1) := by decide +kernel
theorem dX12_seller_154 : decode cX12_seller 154 = .ok (.getfield 55, 3) := by decide +kernel
theorem dX12_seller_157 : decode cX12_seller 157 = .ok (.bipush 24, 2) := by decide +kernel
theorem dX12_seller_159 : decode cX12_seller 159 = .ok (.iload_n 1, 1) := by decide +kernel
theorem dX12_seller_160 : decode cX12_seller 160 = .ok (.iadd, 1) := by decide +kernel
theorem dX12_seller_161 : decode cX12_seller 161 = .ok (.iaload, 1) := by decide +kernel
theorem dX12_seller_162 : decode cX12_seller 162 = .ok (.ireturn, 1) := by decide +kernel
theorem dX12_waitingOf_0 : decode cX12_waitingOf 0 = .ok (.iconst 0, 1) := by decide +kernel
theorem dX12_waitingOf_1 : decode cX12_waitingOf 1 = .ok (.istore_n 2, 1) := by decide +kernel
theorem dX12_waitingOf_2 : decode cX12_waitingOf 2 = .ok (.iconst 0, 1) := by decide +kernel
theorem dX12_waitingOf_3 : decode cX12_waitingOf 3 = .ok (.istore_n 3, 1) := by decide +kernel
theorem dX12_waitingOf_4 : decode cX12_waitingOf 4 = .ok (.iload_n 3, 1) := by decide +kernel
theorem dX12_waitingOf_5 : decode cX12_waitingOf 5 = .ok (.iconst 4, 1) := by decide +kernel
theorem dX12_waitingOf_6 : decode cX12_waitingOf 6 = .ok (.if_icmp .ge 25, 3) := by decide +kernel
theorem dX12_waitingOf_9 : decode cX12_waitingOf 9 = .ok (.iload_n 2, 1) := by decide +kernel
theorem dX12_waitingOf_10 : decode cX12_waitingOf 10 = .ok (.aload_n 0, 1) := by decide +kernel
theorem dX12_waitingOf_11 : decode cX12_waitingOf 11 = .ok (.getfield 55, 3) := by decide +kernel
theorem dX12_waitingOf_14 : decode cX12_waitingOf 14 = .ok (.bipush 30, 2) := by decide +kernel
theorem dX12_waitingOf_16 : decode cX12_waitingOf 16 = .ok (.iconst 4, 1) := by decide +kernel
theorem dX12_waitingOf_17 : decode cX12_waitingOf 17 = .ok (.iload_n 1, 1) := by decide +kernel
theorem dX12_waitingOf_18 : decode cX12_waitingOf 18 = .ok (.imul, 1) := by decide +kernel
theorem dX12_waitingOf_19 : decode cX12_waitingOf 19 = .ok (.iadd, 1) := by decide +kernel
theorem dX12_waitingOf_20 : decode cX12_waitingOf 20 = .ok (.iload_n 3, 1) := by decide +kernel
theorem dX12_waitingOf_21 : decode cX12_waitingOf 21 = .ok (.iadd, 1) := by decide +kernel
theorem dX12_waitingOf_22 : decode cX12_waitingOf 22 = .ok (.iaload, 1) := by decide +kernel
theorem dX12_waitingOf_23 : decode cX12_waitingOf 23 = .ok (.iadd, 1) := by decide +kernel
theorem dX12_waitingOf_24 : decode cX12_waitingOf 24 = .ok (.istore_n 2, 1) := by decide +kernel
theorem dX12_waitingOf_25 : decode cX12_waitingOf 25 = .ok (.iinc 3 1, 3) := by decide +kernel
theorem dX12_waitingOf_28 : decode cX12_waitingOf 28 = .ok (.goto (-24), 3) := by decide +kernel
theorem dX12_waitingOf_31 : decode cX12_waitingOf 31 = .ok (.iload_n 2, 1) := by decide +kernel
theorem dX12_waitingOf_32 : decode cX12_waitingOf 32 = .ok (.ireturn, 1) := by decide +kernel
theorem dX12_buyers_0 : decode cX12_buyers 0 = .ok (.aload_n 0, 1) := by decide +kernel
theorem dX12_buyers_1 : decode cX12_buyers 1 = .ok (.iconst 0, 1) := by decide +kernel
theorem dX12_buyers_2 : decode cX12_buyers 2 = .ok (.putfield 131, 3) := by decide +kernel
theorem dX12_buyers_5 : decode cX12_buyers 5 = .ok (.iload_n 1, 1) := by decide +kernel
theorem dX12_buyers_6 : decode cX12_buyers 6 = .ok (.i2l, 1) := by decide +kernel
theorem dX12_buyers_7 : decode cX12_buyers 7 = .ok (.lconst 0, 1) := by decide +kernel
theorem dX12_buyers_8 : decode cX12_buyers 8 = .ok (.aload_n 0, 1) := by decide +kernel
theorem dX12_buyers_9 : decode cX12_buyers 9 = .ok (.getfield 308, 3) := by decide +kernel
theorem dX12_buyers_12 : decode cX12_buyers 12 = .ok (.iconst 1, 1) := by decide +kernel
theorem dX12_buyers_13 : decode cX12_buyers 13 = .ok (.isub, 1) := by decide +kernel
theorem dX12_buyers_14 : decode cX12_buyers 14 = .ok (.i2l, 1) := by decide +kernel
theorem dX12_buyers_15 : decode cX12_buyers 15 = .ok (.invokestatic 253, 3) := by decide +kernel
theorem dX12_buyers_18 : decode cX12_buyers 18 = .ok (.ifCond .eq 15, 3) := by decide +kernel
theorem dX12_buyers_21 : decode cX12_buyers 21 = .ok (.iload_n 2, 1) := by decide +kernel
theorem dX12_buyers_22 : decode cX12_buyers 22 = .ok (.i2l, 1) := by decide +kernel
theorem dX12_buyers_23 : decode cX12_buyers 23 = .ok (.lconst 0, 1) := by decide +kernel
theorem dX12_buyers_24 : decode cX12_buyers 24 = .ok (.ldc2_w 328, 3) := by decide +kernel
theorem dX12_buyers_27 : decode cX12_buyers 27 = .ok (.invokestatic 253, 3) := by decide +kernel
theorem dX12_buyers_30 : decode cX12_buyers 30 = .ok (.ifCond .ne 5, 3) := by decide +kernel
theorem dX12_buyers_33 : decode cX12_buyers 33 = .ok (.iconst (-1), 1) := by decide +kernel
theorem dX12_buyers_34 : decode cX12_buyers 34 = .ok (.ireturn, 1) := by decide +kernel
theorem dX12_buyers_35 : decode cX12_buyers 35 = .ok (.iload_n 2, 1) := by decide +kernel
theorem dX12_buyers_36 : decode cX12_buyers 36 = .ok (.iconst 3, 1) := by decide +kernel
theorem dX12_buyers_37 : decode cX12_buyers 37 = .ok (.if_icmp .ge 16, 3) := by decide +kernel
theorem dX12_buyers_40 : decode cX12_buyers 40 = .ok (.aload_n 0, 1) := by decide +kernel
theorem dX12_buyers_41 : decode cX12_buyers 41 = .ok (.getfield 40, 3) := by decide +kernel
theorem dX12_buyers_44 : decode cX12_buyers 44 = .ok (.iconst 3, 1) := by decide +kernel
theorem dX12_buyers_45 : decode cX12_buyers 45 = .ok (.iload_n 1, 1) := by decide +kernel
theorem dX12_buyers_46 : decode cX12_buyers 46 = .ok (.imul, 1) := by decide +kernel
theorem dX12_buyers_47 : decode cX12_buyers 47 = .ok (.iload_n 2, 1) := by decide +kernel
theorem dX12_buyers_48 : decode cX12_buyers 48 = .ok (.iadd, 1) := by decide +kernel
theorem dX12_buyers_49 : decode cX12_buyers 49 = .ok (.iaload, 1) := by decide +kernel
theorem dX12_buyers_50 : decode cX12_buyers 50 = .ok (.goto 8, 3) := by decide +kernel
theorem dX12_buyers_53 : decode cX12_buyers 53 = .ok (.aload_n 0, 1) := by decide +kernel
theorem dX12_buyers_54 : decode cX12_buyers 54 = .ok (.iload_n 1, 1) := by decide +kernel
theorem dX12_buyers_55 : decode cX12_buyers 55 = .ok (.invokevirtual 330, 3) := by decide +kernel
theorem dX12_buyers_58 : decode cX12_buyers 58 = .ok (.ireturn, 1) := by decide +kernel
theorem dX12_rule_0 : decode cX12_rule 0 = .ok (.aload_n 0, 1) := by decide +kernel
theorem dX12_rule_1 : decode cX12_rule 1 = .ok (.iconst 0, 1) := by decide +kernel
theorem dX12_rule_2 : decode cX12_rule 2 = .ok (.putfield 131, 3) := by decide +kernel
theorem dX12_rule_5 : decode cX12_rule 5 = .ok (.aload_n 0, 1) := by decide +kernel
theorem dX12_rule_6 : decode cX12_rule 6 = .ok (.iload_n 1, 1) := by decide +kernel
theorem dX12_rule_7 : decode cX12_rule 7 = .ok (.invokevirtual 323, 3) := by decide +kernel
theorem dX12_rule_10 : decode cX12_rule 10 = .ok (.ifCond .eq 24, 3) := by decide +kernel
theorem dX12_rule_13 : decode cX12_rule 13 = .ok (.iload_n 2, 1) := by decide +kernel
theorem dX12_rule_14 : decode cX12_rule 14 = .ok (.iconst (-1), 1) := by decide +kernel
theorem dX12_rule_15 : decode cX12_rule 15 = .ok (.if_icmp .eq 21, 3) := by decide +kernel
theorem dX12_rule_18 : decode cX12_rule 18 = .ok (.iload_n 2, 1) := by decide +kernel
theorem dX12_rule_19 : decode cX12_rule 19 = .ok (.i2l, 1) := by decide +kernel
theorem dX12_rule_20 : decode cX12_rule 20 = .ok (.lconst 0, 1) := by decide +kernel
theorem dX12_rule_21 : decode cX12_rule 21 = .ok (.aload_n 0, 1) := by decide +kernel
theorem dX12_rule_22 : decode cX12_rule 22 = .ok (.getfield 300, 3) := by decide +kernel
theorem dX12_rule_25 : decode cX12_rule 25 = .ok (.iconst 1, 1) := by decide +kernel
theorem dX12_rule_26 : decode cX12_rule 26 = .ok (.isub, 1) := by decide +kernel
theorem dX12_rule_27 : decode cX12_rule 27 = .ok (.i2l, 1) := by decide +kernel
theorem dX12_rule_28 : decode cX12_rule 28 = .ok (.invokestatic 253, 3) := by decide +kernel
theorem dX12_rule_31 : decode cX12_rule 31 = .ok (.ifCond .ne 5, 3) := by decide +kernel
theorem dX12_rule_34 : decode cX12_rule 34 = .ok (.iconst 0, 1) := by decide +kernel
theorem dX12_rule_35 : decode cX12_rule 35 = .ok (.ireturn, 1) := by decide +kernel
theorem dX12_rule_36 : decode cX12_rule 36 = .ok (.aload_n 0, 1) := by decide +kernel
theorem dX12_rule_37 : decode cX12_rule 37 = .ok (.getfield 61, 3) := by decide +kernel
theorem dX12_rule_40 : decode cX12_rule 40 = .ok (.iload_n 1, 1) := by decide +kernel
theorem dX12_rule_41 : decode cX12_rule 41 = .ok (.iload_n 2, 1) := by decide +kernel
theorem dX12_rule_42 : decode cX12_rule 42 = .ok (.iastore, 1) := by decide +kernel
theorem dX12_rule_43 : decode cX12_rule 43 = .ok (.iconst 1, 1) := by decide +kernel
theorem dX12_rule_44 : decode cX12_rule 44 = .ok (.ireturn, 1) := by decide +kernel
theorem dX12_hold_0 : decode cX12_hold 0 = .ok (.aload_n 0, 1) := by decide +kernel
theorem dX12_hold_1 : decode cX12_hold 1 = .ok (.iconst 0, 1) := by decide +kernel
theorem dX12_hold_2 : decode cX12_hold 2 = .ok (.putfield 131, 3) := by decide +kernel
theorem dX12_hold_5 : decode cX12_hold 5 = .ok (.aload_n 0, 1) := by decide +kernel
theorem dX12_hold_6 : decode cX12_hold 6 = .ok (.iload_n 1, 1) := by decide +kernel
theorem dX12_hold_7 : decode cX12_hold 7 = .ok (.invokevirtual 323, 3) := by decide +kernel
theorem dX12_hold_10 : decode cX12_hold 10 = .ok (.ifCond .eq 15, 3) := by decide +kernel
theorem dX12_hold_13 : decode cX12_hold 13 = .ok (.aload_n 0, 1) := by decide +kernel
theorem dX12_hold_14 : decode cX12_hold 14 = .ok (.getfield 311, 3) := by decide +kernel
theorem dX12_hold_17 : decode cX12_hold 17 = .ok (.iload_n 1, 1) := by decide +kernel
theorem dX12_hold_18 : decode cX12_hold 18 = .ok (.invokestatic 280, 3) := by decide +kernel
theorem dX12_hold_21 : decode cX12_hold 21 = .ok (.iload_n 2, 1) := by decide +kernel
theorem dX12_hold_22 : decode cX12_hold 22 = .ok (.if_icmp .ne 5, 3) := by decide +kernel
theorem dX12_hold_25 : decode cX12_hold 25 = .ok (.iconst 0, 1) := by decide +kernel
theorem dX12_hold_26 : decode cX12_hold 26 = .ok (.ireturn, 1) := by decide +kernel
theorem dX12_hold_27 : decode cX12_hold 27 = .ok (.aload_n 0, 1) := by decide +kernel
theorem dX12_hold_28 : decode cX12_hold 28 = .ok (.dup, 1) := by decide +kernel
theorem dX12_hold_29 : decode cX12_hold 29 = .ok (.getfield 311, 3) := by decide +kernel
theorem dX12_hold_32 : decode cX12_hold 32 = .ok (.iconst 1, 1) := by decide +kernel
theorem dX12_hold_33 : decode cX12_hold 33 = .ok (.iload_n 1, 1) := by decide +kernel
theorem dX12_hold_34 : decode cX12_hold 34 = .ok (.ishl, 1) := by decide +kernel
theorem dX12_hold_35 : decode cX12_hold 35 = .ok (.ixor, 1) := by decide +kernel
theorem dX12_hold_36 : decode cX12_hold 36 = .ok (.putfield 311, 3) := by decide +kernel
theorem dX12_hold_39 : decode cX12_hold 39 = .ok (.iconst 1, 1) := by decide +kernel
theorem dX12_hold_40 : decode cX12_hold 40 = .ok (.ireturn, 1) := by decide +kernel
theorem dX12_risk_0 : decode cX12_risk 0 = .ok (.aload_n 0, 1) := by decide +kernel
theorem dX12_risk_1 : decode cX12_risk 1 = .ok (.iconst 0, 1) := by decide +kernel
theorem dX12_risk_2 : decode cX12_risk 2 = .ok (.putfield 131, 3) := by decide +kernel
theorem dX12_risk_5 : decode cX12_risk 5 = .ok (.iload_n 1, 1) := by decide +kernel
theorem dX12_risk_6 : decode cX12_risk 6 = .ok (.i2l, 1) := by decide +kernel
theorem dX12_risk_7 : decode cX12_risk 7 = .ok (.lconst 0, 1) := by decide +kernel
theorem dX12_risk_8 : decode cX12_risk 8 = .ok (.ldc2_w 333, 3) := by decide +kernel
theorem dX12_risk_11 : decode cX12_risk 11 = .ok (.invokestatic 253, 3) := by decide +kernel
theorem dX12_risk_14 : decode cX12_risk 14 = .ok (.ifCond .ne 5, 3) := by decide +kernel
theorem dX12_risk_17 : decode cX12_risk 17 = .ok (.iconst 0, 1) := by decide +kernel
theorem dX12_risk_18 : decode cX12_risk 18 = .ok (.ireturn, 1) := by decide +kernel
theorem dX12_risk_19 : decode cX12_risk 19 = .ok (.aload_n 0, 1) := by decide +kernel
theorem dX12_risk_20 : decode cX12_risk 20 = .ok (.iload_n 1, 1) := by decide +kernel
theorem dX12_risk_21 : decode cX12_risk 21 = .ok (.putfield 335, 3) := by decide +kernel
theorem dX12_risk_24 : decode cX12_risk 24 = .ok (.iconst 1, 1) := by decide +kernel
theorem dX12_risk_25 : decode cX12_risk 25 = .ok (.ireturn, 1) := by decide +kernel
theorem dX12_seed_0 : decode cX12_seed 0 = .ok (.aload_n 0, 1) := by decide +kernel
theorem dX12_seed_1 : decode cX12_seed 1 = .ok (.iconst 0, 1) := by decide +kernel
theorem dX12_seed_2 : decode cX12_seed 2 = .ok (.putfield 131, 3) := by decide +kernel
theorem dX12_seed_5 : decode cX12_seed 5 = .ok (.aload_n 0, 1) := by decide +kernel
theorem dX12_seed_6 : decode cX12_seed 6 = .ok (.lload_n 1, 1) := by decide +kernel
theorem dX12_seed_7 : decode cX12_seed 7 = .ok (.putfield 338, 3) := by decide +kernel
theorem dX12_seed_10 : decode cX12_seed 10 = .ok (.iconst 1, 1) := by decide +kernel
theorem dX12_seed_11 : decode cX12_seed 11 = .ok (.ireturn, 1) := by decide +kernel
theorem dX12_askOf_0 : decode cX12_askOf 0 = .ok (.aload_n 0, 1) := by decide +kernel
theorem dX12_askOf_1 : decode cX12_askOf 1 = .ok (.getfield 55, 3) := by decide +kernel
theorem dX12_askOf_4 : decode cX12_askOf 4 = .ok (.bipush 54, 2) := by decide +kernel
theorem dX12_askOf_6 : decode cX12_askOf 6 = .ok (.iaload, 1) := by decide +kernel
theorem dX12_askOf_7 : decode cX12_askOf 7 = .ok (.istore_n 2, 1) := by decide +kernel
theorem dX12_askOf_8 : decode cX12_askOf 8 = .ok (.aload_n 0, 1) := by decide +kernel
theorem dX12_askOf_9 : decode cX12_askOf 9 = .ok (.getfield 64, 3) := by decide +kernel
theorem dX12_askOf_12 : decode cX12_askOf 12 = .ok (.iload_n 1, 1) := by decide +kernel
theorem dX12_askOf_13 : decode cX12_askOf 13 = .ok (.iaload, 1) := by decide +kernel
theorem dX12_askOf_14 : decode cX12_askOf 14 = .ok (.iconst (-1), 1) := by decide +kernel
theorem dX12_askOf_15 : decode cX12_askOf 15 = .ok (.if_icmp .eq 10, 3) := by decide +kernel
theorem dX12_askOf_18 : decode cX12_askOf 18 = .ok (.aload_n 0, 1) := by decide +kernel
theorem dX12_askOf_19 : decode cX12_askOf 19 = .ok (.getfield 64, 3) := by decide +kernel
theorem dX12_askOf_22 : decode cX12_askOf 22 = .ok (.iload_n 1, 1) := by decide +kernel
theorem dX12_askOf_23 : decode cX12_askOf 23 = .ok (.iaload, 1) := by decide +kernel
theorem dX12_askOf_24 : decode cX12_askOf 24 = .ok (.ireturn, 1) := by decide +kernel
theorem dX12_askOf_25 : decode cX12_askOf 25 = .ok (.aload_n 0, 1) := by decide +kernel
theorem dX12_askOf_26 : decode cX12_askOf 26 = .ok (.getfield 342, 3) := by decide +kernel
theorem dX12_askOf_29 : decode cX12_askOf 29 = .ok (.iload_n 1, 1) := by decide +kernel
theorem dX12_askOf_30 : decode cX12_askOf 30 = .ok (.invokestatic 280, 3) := by decide +kernel
theorem dX12_askOf_33 : decode cX12_askOf 33 = .ok (.ifCond .eq 5, 3) := by decide +kernel
theorem dX12_askOf_36 : decode cX12_askOf 36 = .ok (.iload_n 2, 1) := by decide +kernel
theorem dX12_askOf_37 : decode cX12_askOf 37 = .ok (.ireturn, 1) := by decide +kernel
theorem dX12_askOf_38 : decode cX12_askOf 38 = .ok (.aload_n 0, 1) := by decide +kernel
theorem dX12_askOf_39 : decode cX12_askOf 39 = .ok (.getfield 61, 3) := by decide +kernel
theorem dX12_askOf_42 : decode cX12_askOf 42 = .ok (.iload_n 1, 1) := by decide +kernel
theorem dX12_askOf_43 : decode cX12_askOf 43 = .ok (.iaload, 1) := by decide +kernel
theorem dX12_askOf_44 : decode cX12_askOf 44 = .ok (.iconst (-1), 1) := by decide +kernel
theorem dX12_askOf_45 : decode cX12_askOf 45 = .ok (.if_icmp .ne 5, 3) := by decide +kernel
theorem dX12_askOf_48 : decode cX12_askOf 48 = .ok (.iload_n 2, 1) := by decide +kernel
theorem dX12_askOf_49 : decode cX12_askOf 49 = .ok (.ireturn, 1) := by decide +kernel
theorem dX12_askOf_50 : decode cX12_askOf 50 = .ok (.iconst 0, 1) := by decide +kernel
theorem dX12_askOf_51 : decode cX12_askOf 51 = .ok (.istore_n 3, 1) := by decide +kernel
theorem dX12_askOf_52 : decode cX12_askOf 52 = .ok (.iconst 0, 1) := by decide +kernel
theorem dX12_askOf_53 : decode cX12_askOf 53 = .ok (.istore 4, 2) := by decide +kernel
theorem dX12_askOf_55 : decode cX12_askOf 55 = .ok (.iload 4, 2) := by decide +kernel
theorem dX12_askOf_57 : decode cX12_askOf 57 = .ok (.bipush 24, 2) := by decide +kernel
theorem dX12_askOf_59 : decode cX12_askOf 59 = .ok (.if_icmp .ge 19, 3) := by decide +kernel
theorem dX12_askOf_62 : decode cX12_askOf 62 = .ok (.iload_n 3, 1) := by decide +kernel
theorem dX12_askOf_63 : decode cX12_askOf 63 = .ok (.aload_n 0, 1) := by decide +kernel
theorem dX12_askOf_64 : decode cX12_askOf 64 = .ok (.getfield 76, 3) := by decide +kernel
theorem dX12_askOf_67 : decode cX12_askOf 67 = .ok (.iload 4, 2) := by decide +kernel
theorem dX12_askOf_69 : decode cX12_askOf 69 = .ok (.iaload, 1) := by decide +kernel
theorem dX12_askOf_70 : decode cX12_askOf 70 = .ok (.iadd, 1) := by decide +kernel
theorem dX12_askOf_71 : decode cX12_askOf 71 = .ok (.istore_n 3, 1) := by decide +kernel
theorem dX12_askOf_72 : decode cX12_askOf 72 = .ok (.iinc 4 1, 3) := by decide +kernel
theorem dX12_askOf_75 : decode cX12_askOf 75 = .ok (.goto (-20), 3) := by decide +kernel
theorem dX12_askOf_78 : decode cX12_askOf 78 = .ok (.aload_n 0, 1) := by decide +kernel
theorem dX12_askOf_79 : decode cX12_askOf 79 = .ok (.getfield 20, 3) := by decide +kernel
theorem dX12_askOf_82 : decode cX12_askOf 82 = .ok (.bipush 112, 2) := by decide +kernel
theorem dX12_askOf_84 : decode cX12_askOf 84 = .ok (.iload_n 2, 1) := by decide +kernel
theorem dX12_askOf_85 : decode cX12_askOf 85 = .ok (.iastore, 1) := by decide +kernel
theorem dX12_askOf_86 : decode cX12_askOf 86 = .ok (.aload_n 0, 1) := by decide +kernel
theorem dX12_askOf_87 : decode cX12_askOf 87 = .ok (.getfield 20, 3) := by decide +kernel
theorem dX12_askOf_90 : decode cX12_askOf 90 = .ok (.bipush 103, 2) := by decide +kernel
theorem dX12_askOf_92 : decode cX12_askOf 92 = .ok (.aload_n 0, 1) := by decide +kernel
theorem dX12_askOf_93 : decode cX12_askOf 93 = .ok (.getfield 55, 3) := by decide +kernel
theorem dX12_askOf_96 : decode cX12_askOf 96 = .ok (.iload_n 1, 1) := by decide +kernel
theorem dX12_askOf_97 : decode cX12_askOf 97 = .ok (.iaload, 1) := by decide +kernel
theorem dX12_askOf_98 : decode cX12_askOf 98 = .ok (.iastore, 1) := by decide +kernel
theorem dX12_askOf_99 : decode cX12_askOf 99 = .ok (.aload_n 0, 1) := by decide +kernel
theorem dX12_askOf_100 : decode cX12_askOf 100 = .ok (.getfield 20, 3) := by decide +kernel
theorem dX12_askOf_103 : decode cX12_askOf 103 = .ok (.bipush 99, 2) := by decide +kernel
theorem dX12_askOf_105 : decode cX12_askOf 105 = .ok (.aload_n 0, 1) := by decide +kernel
theorem dX12_askOf_106 : decode cX12_askOf 106 = .ok (.getfield 37, 3) := by decide +kernel
theorem dX12_askOf_109 : decode cX12_askOf 109 = .ok (.iconst 3, 1) := by decide +kernel
theorem dX12_askOf_110 : decode cX12_askOf 110 = .ok (.iload_n 1, 1) := by decide +kernel
theorem dX12_askOf_111 : decode cX12_askOf 111 = .ok (.imul, 1) := by decide +kernel
theorem dX12_askOf_112 : decode cX12_askOf 112 = .ok (.iconst 1, 1) := by decide +kernel
theorem dX12_askOf_113 : decode cX12_askOf 113 = .ok (.iadd, 1) := by decide +kernel
theorem dX12_askOf_114 : decode cX12_askOf 114 = .ok (.iaload, 1) := by decide +kernel
theorem dX12_askOf_115 : decode cX12_askOf 115 = .ok (.iastore, 1) := by decide +kernel
theorem dX12_askOf_116 : decode cX12_askOf 116 = .ok (.aload_n 0, 1) := by decide +kernel
theorem dX12_askOf_117 : decode cX12_askOf 117 = .ok (.getfield 20, 3) := by decide +kernel
theorem dX12_askOf_120 : decode cX12_askOf 120 = .ok (.bipush 100, 2) := by decide +kernel
theorem dX12_askOf_122 : decode cX12_askOf 122 = .ok (.aload_n 0, 1) := by decide +kernel
theorem dX12_askOf_123 : decode cX12_askOf 123 = .ok (.getfield 55, 3) := by decide +kernel
theorem dX12_askOf_126 : decode cX12_askOf 126 = .ok (.bipush 56, 2) := by decide +kernel
theorem dX12_askOf_128 : decode cX12_askOf 128 = .ok (.iaload, 1) := by decide +kernel
theorem dX12_askOf_129 : decode cX12_askOf 129 = .ok (.iastore, 1) := by decide +kernel
theorem dX12_askOf_130 : decode cX12_askOf 130 = .ok (.aload_n 0, 1) := by decide +kernel
theorem dX12_askOf_131 : decode cX12_askOf 131 = .ok (.getfield 20, 3) := by decide +kernel
theorem dX12_askOf_134 : decode cX12_askOf 134 = .ok (.bipush 117, 2) := by decide +kernel
theorem dX12_askOf_136 : decode cX12_askOf 136 = .ok (.aload_n 0, 1) := by decide +kernel
theorem dX12_askOf_137 : decode cX12_askOf 137 = .ok (.getfield 55, 3) := by decide +kernel
theorem dX12_askOf_140 : decode cX12_askOf 140 = .ok (.bipush 6, 2) := by decide +kernel
theorem dX12_askOf_142 : decode cX12_askOf 142 = .ok (.iload_n 1, 1) := by decide +kernel
theorem dX12_askOf_143 : decode cX12_askOf 143 = .ok (.iadd, 1) := by decide +kernel
theorem dX12_askOf_144 : decode cX12_askOf 144 = .ok (.iaload, 1) := by decide +kernel
theorem dX12_askOf_145 : decode cX12_askOf 145 = .ok (.iastore, 1) := by decide +kernel
theorem dX12_askOf_146 : decode cX12_askOf 146 = .ok (.aload_n 0, 1) := by decide +kernel
theorem dX12_askOf_147 : decode cX12_askOf 147 = .ok (.getfield 20, 3) := by decide +kernel
theorem dX12_askOf_150 : decode cX12_askOf 150 = .ok (.bipush 119, 2) := by decide +kernel
theorem dX12_askOf_152 : decode cX12_askOf 152 = .ok (.iload_n 3, 1) := by decide +kernel
theorem dX12_askOf_153 : decode cX12_askOf 153 = .ok (.iastore, 1) := by decide +kernel
theorem dX12_askOf_154 : decode cX12_askOf 154 = .ok (.aload_n 0, 1) := by decide +kernel
theorem dX12_askOf_155 : decode cX12_askOf 155 = .ok (.aload_n 0, 1) := by decide +kernel
theorem dX12_askOf_156 : decode cX12_askOf 156 = .ok (.getfield 13, 3) := by decide +kernel
theorem dX12_askOf_159 : decode cX12_askOf 159 = .ok (.sipush 160, 3) := by decide +kernel
theorem dX12_askOf_162 : decode cX12_askOf 162 = .ok (.aload_n 0, 1) := by decide +kernel
theorem dX12_askOf_163 : decode cX12_askOf 163 = .ok (.getfield 61, 3) := by decide +kernel
theorem dX12_askOf_166 : decode cX12_askOf 166 = .ok (.iload_n 1, 1) := by decide +kernel
theorem dX12_askOf_167 : decode cX12_askOf 167 = .ok (.iaload, 1) := by decide +kernel
theorem dX12_askOf_168 : decode cX12_askOf 168 = .ok (.imul, 1) := by decide +kernel
theorem dX12_askOf_169 : decode cX12_askOf 169 = .ok (.aload_n 0, 1) := by decide +kernel
theorem dX12_askOf_170 : decode cX12_askOf 170 = .ok (.getfield 16, 3) := by decide +kernel
theorem dX12_askOf_173 : decode cX12_askOf 173 = .ok (.aload_n 0, 1) := by decide +kernel
theorem dX12_askOf_174 : decode cX12_askOf 174 = .ok (.getfield 61, 3) := by decide +kernel
theorem dX12_askOf_177 : decode cX12_askOf 177 = .ok (.iload_n 1, 1) := by decide +kernel
theorem dX12_askOf_178 : decode cX12_askOf 178 = .ok (.iaload, 1) := by decide +kernel
theorem dX12_askOf_179 : decode cX12_askOf 179 = .ok (.iaload, 1) := by decide +kernel
theorem dX12_askOf_180 : decode cX12_askOf 180 = .ok (.invokevirtual 297, 3) := by decide +kernel
theorem dX12_askOf_183 : decode cX12_askOf 183 = .ok (.iconst 0, 1) := by decide +kernel
theorem dX12_askOf_184 : decode cX12_askOf 184 = .ok (.iload_n 2, 1) := by decide +kernel
theorem dX12_askOf_185 : decode cX12_askOf 185 = .ok (.aload_n 0, 1) := by decide +kernel
theorem dX12_askOf_186 : decode cX12_askOf 186 = .ok (.getfield 240, 3) := by decide +kernel
theorem dX12_askOf_189 : decode cX12_askOf 189 = .ok (.invokestatic 345, 3) := by decide +kernel
theorem dX12_askOf_192 : decode cX12_askOf 192 = .ok (.invokestatic 347, 3) := by decide +kernel
theorem dX12_askOf_195 : decode cX12_askOf 195 = .ok (.ireturn, 1) := by decide +kernel
theorem dX12_isSelling_0 : decode cX12_isSelling 0 = .ok (.iload_n 1, 1) := by decide +kernel
theorem dX12_isSelling_1 : decode cX12_isSelling 1 = .ok (.aload_n 0, 1) := by decide +kernel
theorem dX12_isSelling_2 : decode cX12_isSelling 2 = .ok (.getfield 305, 3) := by decide +kernel
theorem dX12_isSelling_5 : decode cX12_isSelling 5 = .ok (.if_icmp .ne 22, 3) := by decide +kernel
theorem dX12_isSelling_8 : decode cX12_isSelling 8 = .ok (.aload_n 0, 1) := by decide +kernel
theorem dX12_isSelling_9 : decode cX12_isSelling 9 = .ok (.getfield 349, 3) := by decide +kernel
theorem dX12_isSelling_12 : decode cX12_isSelling 12 = .ok (.aload_n 0, 1) := by decide +kernel
theorem dX12_isSelling_13 : decode cX12_isSelling 13 = .ok (.getfield 352, 3) := by decide +kernel
theorem dX12_isSelling_16 : decode cX12_isSelling 16 = .ok (.if_icmp .le 7, 3) := by decide +kernel
theorem dX12_isSelling_19 : decode cX12_isSelling 19 = .ok (.iconst 1, 1) := by decide +kernel
theorem dX12_isSelling_20 : decode cX12_isSelling 20 = .ok (.goto 32, 3) := by decide +kernel
theorem dX12_isSelling_23 : decode cX12_isSelling 23 = .ok (.iconst 0, 1) := by decide +kernel
theorem dX12_isSelling_24 : decode cX12_isSelling 24 = .ok (.goto 28, 3) := by decide +kernel
theorem dX12_isSelling_27 : decode cX12_isSelling 27 = .ok (.aload_n 0, 1) := by decide +kernel
theorem dX12_isSelling_28 : decode cX12_isSelling 28 = .ok (.getfield 55, 3) := by decide +kernel
theorem dX12_isSelling_31 : decode cX12_isSelling 31 = .ok (.iload_n 1, 1) := by decide +kernel
theorem dX12_isSelling_32 : decode cX12_isSelling 32 = .ok (.iaload, 1) := by decide +kernel
theorem dX12_isSelling_33 : decode cX12_isSelling 33 = .ok (.ifCond .le 18, 3) := by decide +kernel
theorem dX12_isSelling_36 : decode cX12_isSelling 36 = .ok (.aload_n 0, 1) := by decide +kernel
theorem dX12_isSelling_37 : decode cX12_isSelling 37 = .ok (.getfield 342, 3) := by decide +kernel
theorem dX12_isSelling_40 : decode cX12_isSelling 40 = .ok (.iload_n 1, 1) := by decide +kernel
theorem dX12_isSelling_41 : decode cX12_isSelling 41 = .ok (.invokestatic 280, 3) := by decide +kernel
theorem dX12_isSelling_44 : decode cX12_isSelling 44 = .ok (.ifCond .ne 7, 3) := by decide +kernel
theorem dX12_isSelling_47 : decode cX12_isSelling 47 = .ok (.iconst 1, 1) := by decide +kernel
theorem dX12_isSelling_48 : decode cX12_isSelling 48 = .ok (.goto 4, 3) := by decide +kernel
theorem dX12_isSelling_51 : decode cX12_isSelling 51 = .ok (.iconst 0, 1) := by decide +kernel
theorem dX12_isSelling_52 : decode cX12_isSelling 52 = .ok (.ireturn, 1) := by decide +kernel
theorem dX12_cheapest_0 : decode cX12_cheapest 0 = .ok (.iconst (-1), 1) := by decide +kernel
theorem dX12_cheapest_1 : decode cX12_cheapest 1 = .ok (.istore_n 1, 1) := by decide +kernel
theorem dX12_cheapest_2 : decode cX12_cheapest 2 = .ok (.iconst 0, 1) := by decide +kernel
theorem dX12_cheapest_3 : decode cX12_cheapest 3 = .ok (.istore_n 2, 1) := by decide +kernel
theorem dX12_cheapest_4 : decode cX12_cheapest 4 = .ok (.iload_n 2, 1) := by decide +kernel
theorem dX12_cheapest_5 : decode cX12_cheapest 5 = .ok (.aload_n 0, 1) := by decide +kernel
theorem dX12_cheapest_6 : decode cX12_cheapest 6 = .ok (.getfield 305, 3) := by decide +kernel
theorem dX12_cheapest_9 : decode cX12_cheapest 9 = .ok (.if_icmp .gt 39, 3) := by decide +kernel
theorem dX12_cheapest_12 : decode cX12_cheapest 12 = .ok (.aload_n 0, 1) := by decide +kernel
theorem dX12_cheapest_13 : decode cX12_cheapest 13 = .ok (.iload_n 2, 1) := by decide +kernel
theorem dX12_cheapest_14 : decode cX12_cheapest 14 = .ok (.invokevirtual 355, 3) := by decide +kernel
theorem dX12_cheapest_17 : decode cX12_cheapest 17 = .ok (.ifCond .eq 25, 3) := by decide +kernel
theorem dX12_cheapest_20 : decode cX12_cheapest 20 = .ok (.iload_n 1, 1) := by decide +kernel
theorem dX12_cheapest_21 : decode cX12_cheapest 21 = .ok (.iconst (-1), 1) := by decide +kernel
theorem dX12_cheapest_22 : decode cX12_cheapest 22 = .ok (.if_icmp .eq 18, 3) := by decide +kernel
theorem dX12_cheapest_25 : decode cX12_cheapest 25 = .ok (.aload_n 0, 1) := by decide +kernel
theorem dX12_cheapest_26 : decode cX12_cheapest 26 = .ok (.getfield 67, 3) := by decide +kernel
theorem dX12_cheapest_29 : decode cX12_cheapest 29 = .ok (.iload_n 2, 1) := by decide +kernel
theorem dX12_cheapest_30 : decode cX12_cheapest 30 = .ok (.iaload, 1) := by decide +kernel
theorem dX12_cheapest_31 : decode cX12_cheapest 31 = .ok (.aload_n 0, 1) := by decide +kernel
theorem dX12_cheapest_32 : decode cX12_cheapest 32 = .ok (.getfield 67, 3) := by decide +kernel
theorem dX12_cheapest_35 : decode cX12_cheapest 35 = .ok (.iload_n 1, 1) := by decide +kernel
theorem dX12_cheapest_36 : decode cX12_cheapest 36 = .ok (.iaload, 1) := by decide +kernel
theorem dX12_cheapest_37 : decode cX12_cheapest 37 = .ok (.if_icmp .ge 5, 3) := by decide +kernel
theorem dX12_cheapest_40 : decode cX12_cheapest 40 = .ok (.iload_n 2, 1) := by decide +kernel
theorem dX12_cheapest_41 : decode cX12_cheapest 41 = .ok (.istore_n 1, 1) := by decide +kernel
theorem dX12_cheapest_42 : decode cX12_cheapest 42 = .ok (.iinc 2 1, 3) := by decide +kernel
theorem dX12_cheapest_45 : decode cX12_cheapest 45 = .ok (.goto (-41), 3) := by decide +kernel
theorem dX12_cheapest_48 : decode cX12_cheapest 48 = .ok (.iload_n 1, 1) := by decide +kernel
theorem dX12_cheapest_49 : decode cX12_cheapest 49 = .ok (.ireturn, 1) := by decide +kernel
theorem dX12_buys_0 : decode cX12_buys 0 = .ok (.aload_n 0, 1) := by decide +kernel
theorem dX12_buys_1 : decode cX12_buys 1 = .ok (.invokevirtual 358, 3) := by decide +kernel
theorem dX12_buys_4 : decode cX12_buys 4 = .ok (.istore_n 2, 1) := by decide +kernel
theorem dX12_buys_5 : decode cX12_buys 5 = .ok (.iload_n 2, 1) := by decide +kernel
theorem dX12_buys_6 : decode cX12_buys 6 = .ok (.iconst (-1), 1) := by decide +kernel
theorem dX12_buys_7 : decode cX12_buys 7 = .ok (.if_icmp .eq 20, 3) := by decide +kernel
theorem dX12_buys_10 : decode cX12_buys 10 = .ok (.aload_n 0, 1) := by decide +kernel
theorem dX12_buys_11 : decode cX12_buys 11 = .ok (.getfield 67, 3) := by decide +kernel
theorem dX12_buys_14 : decode cX12_buys 14 = .ok (.iload_n 2, 1) := by decide +kernel
theorem dX12_buys_15 : decode cX12_buys 15 = .ok (.iaload, 1) := by decide +kernel
theorem dX12_buys_16 : decode cX12_buys 16 = .ok (.aload_n 0, 1) := by decide +kernel
theorem dX12_buys_17 : decode cX12_buys 17 = .ok (.getfield 40, 3) := by decide +kernel
theorem dX12_buys_20 : decode cX12_buys 20 = .ok (.iconst 3, 1) := by decide +kernel
theorem dX12_buys_21 : decode cX12_buys 21 = .ok (.iload_n 1, 1) := by decide +kernel
theorem dX12_buys_22 : decode cX12_buys 22 = .ok (.imul, 1) := by decide +kernel
theorem dX12_buys_23 : decode cX12_buys 23 = .ok (.iaload, 1) := by decide +kernel
theorem dX12_buys_24 : decode cX12_buys 24 = .ok (.if_icmp .le 5, 3) := by decide +kernel
theorem dX12_buys_27 : decode cX12_buys 27 = .ok (.iconst 0, 1) := by decide +kernel
theorem dX12_buys_28 : decode cX12_buys 28 = .ok (.ireturn, 1) := by decide +kernel
theorem dX12_buys_29 : decode cX12_buys 29 = .ok (.aload_n 0, 1) := by decide +kernel
theorem dX12_buys_30 : decode cX12_buys 30 = .ok (.getfield 70, 3) := by decide +kernel
theorem dX12_buys_33 : decode cX12_buys 33 = .ok (.iload_n 2, 1) := by decide +kernel
theorem dX12_buys_34 : decode cX12_buys 34 = .ok (.dup2, 1) := by decide +kernel
theorem dX12_buys_35 : decode cX12_buys 35 = .ok (.iaload, 1) := by decide +kernel
theorem dX12_buys_36 : decode cX12_buys 36 = .ok (.aload_n 0, 1) := by decide +kernel
theorem dX12_buys_37 : decode cX12_buys 37 = .ok (.getfield 67, 3) := by decide +kernel
theorem dX12_buys_40 : decode cX12_buys 40 = .ok (.iload_n 2, 1) := by decide +kernel
theorem dX12_buys_41 : decode cX12_buys 41 = .ok (.iaload, 1) := by decide +kernel
theorem dX12_buys_42 : decode cX12_buys 42 = .ok (.iadd, 1) := by decide +kernel
theorem dX12_buys_43 : decode cX12_buys 43 = .ok (.iastore, 1) := by decide +kernel
theorem dX12_buys_44 : decode cX12_buys 44 = .ok (.aload_n 0, 1) := by decide +kernel
theorem dX12_buys_45 : decode cX12_buys 45 = .ok (.getfield 55, 3) := by decide +kernel
theorem dX12_buys_48 : decode cX12_buys 48 = .ok (.bipush 55, 2) := by decide +kernel
theorem dX12_buys_50 : decode cX12_buys 50 = .ok (.dup2, 1) := by decide +kernel
theorem dX12_buys_51 : decode cX12_buys 51 = .ok (.iaload, 1) := by decide +kernel
theorem dX12_buys_52 : decode cX12_buys 52 = .ok (.aload_n 0, 1) := by decide +kernel
theorem dX12_buys_53 : decode cX12_buys 53 = .ok (.getfield 40, 3) := by decide +kernel
theorem dX12_buys_56 : decode cX12_buys 56 = .ok (.iconst 3, 1) := by decide +kernel
theorem dX12_buys_57 : decode cX12_buys 57 = .ok (.iload_n 1, 1) := by decide +kernel
theorem dX12_buys_58 : decode cX12_buys 58 = .ok (.imul, 1) := by decide +kernel
theorem dX12_buys_59 : decode cX12_buys 59 = .ok (.iaload, 1) := by decide +kernel
theorem dX12_buys_60 : decode cX12_buys 60 = .ok (.aload_n 0, 1) := by decide +kernel
theorem dX12_buys_61 : decode cX12_buys 61 = .ok (.getfield 67, 3) := by decide +kernel
theorem dX12_buys_64 : decode cX12_buys 64 = .ok (.iload_n 2, 1) := by decide +kernel
theorem dX12_buys_65 : decode cX12_buys 65 = .ok (.iaload, 1) := by decide +kernel
theorem dX12_buys_66 : decode cX12_buys 66 = .ok (.isub, 1) := by decide +kernel
theorem dX12_buys_67 : decode cX12_buys 67 = .ok (.iadd, 1) := by decide +kernel
theorem dX12_buys_68 : decode cX12_buys 68 = .ok (.iastore, 1) := by decide +kernel
theorem dX12_buys_69 : decode cX12_buys 69 = .ok (.iload_n 2, 1) := by decide +kernel
theorem dX12_buys_70 : decode cX12_buys 70 = .ok (.aload_n 0, 1) := by decide +kernel
theorem dX12_buys_71 : decode cX12_buys 71 = .ok (.getfield 305, 3) := by decide +kernel
theorem dX12_buys_74 : decode cX12_buys 74 = .ok (.if_icmp .ne 15, 3) := by decide +kernel
theorem dX12_buys_77 : decode cX12_buys 77 = .ok (.aload_n 0, 1) := by decide +kernel
theorem dX12_buys_78 : decode cX12_buys 78 = .ok (.dup, 1) := by decide +kernel
theorem dX12_buys_79 : decode cX12_buys 79 = .ok (.getfield 352, 3) := by decide +kernel
theorem dX12_buys_82 : decode cX12_buys 82 = .ok (.iconst 1, 1) := by decide +kernel
theorem dX12_buys_83 : decode cX12_buys 83 = .ok (.iadd, 1) := by decide +kernel
theorem dX12_buys_84 : decode cX12_buys 84 = .ok (.putfield 352, 3) := by decide +kernel
theorem dX12_buys_87 : decode cX12_buys 87 = .ok (.iconst 1, 1) := by decide +kernel
theorem dX12_buys_88 : decode cX12_buys 88 = .ok (.ireturn, 1) := by decide +kernel
theorem dX12_buys_89 : decode cX12_buys 89 = .ok (.aload_n 0, 1) := by decide +kernel
theorem dX12_buys_90 : decode cX12_buys 90 = .ok (.getfield 55, 3) := by decide +kernel
theorem dX12_buys_93 : decode cX12_buys 93 = .ok (.iload_n 2, 1) := by decide +kernel
theorem dX12_buys_94 : decode cX12_buys 94 = .ok (.dup2, 1) := by decide +kernel
theorem dX12_buys_95 : decode cX12_buys 95 = .ok (.iaload, 1) := by decide +kernel
theorem dX12_buys_96 : decode cX12_buys 96 = .ok (.iconst 1, 1) := by decide +kernel
theorem dX12_buys_97 : decode cX12_buys 97 = .ok (.isub, 1) := by decide +kernel
theorem dX12_buys_98 : decode cX12_buys 98 = .ok (.iastore, 1) := by decide +kernel
theorem dX12_buys_99 : decode cX12_buys 99 = .ok (.aload_n 0, 1) := by decide +kernel
theorem dX12_buys_100 : decode cX12_buys 100 = .ok (.getfield 55, 3) := by decide +kernel
theorem dX12_buys_103 : decode cX12_buys 103 = .ok (.bipush 12, 2) := by decide +kernel
theorem dX12_buys_105 : decode cX12_buys 105 = .ok (.iload_n 2, 1) := by decide +kernel
theorem dX12_buys_106 : decode cX12_buys 106 = .ok (.iadd, 1) := by decide +kernel
theorem dX12_buys_107 : decode cX12_buys 107 = .ok (.dup2, 1) := by decide +kernel
theorem dX12_buys_108 : decode cX12_buys 108 = .ok (.iaload, 1) := by decide +kernel
theorem dX12_buys_109 : decode cX12_buys 109 = .ok (.aload_n 0, 1) := by decide +kernel
theorem dX12_buys_110 : decode cX12_buys 110 = .ok (.getfield 67, 3) := by decide +kernel
theorem dX12_buys_113 : decode cX12_buys 113 = .ok (.iload_n 2, 1) := by decide +kernel
theorem dX12_buys_114 : decode cX12_buys 114 = .ok (.iaload, 1) := by decide +kernel
theorem dX12_buys_115 : decode cX12_buys 115 = .ok (.iadd, 1) := by decide +kernel
theorem dX12_buys_116 : decode cX12_buys 116 = .ok (.iastore, 1) := by decide +kernel
theorem dX12_buys_117 : decode cX12_buys 117 = .ok (.aload_n 0, 1) := by decide +kernel
theorem dX12_buys_118 : decode cX12_buys 118 = .ok (.getfield 55, 3) := by decide +kernel
theorem dX12_buys_121 : decode cX12_buys 121 = .ok (.bipush 24, 2) := by decide +kernel
theorem dX12_buys_123 : decode cX12_buys 123 = .ok (.iload_n 2, 1) := by decide +kernel
theorem dX12_buys_124 : decode cX12_buys 124 = .ok (.iadd, 1) := by decide +kernel
theorem dX12_buys_125 : decode cX12_buys 125 = .ok (.dup2, 1) := by decide +kernel
theorem dX12_buys_126 : decode cX12_buys 126 = .ok (.iaload, 1) := by decide +kernel
theorem dX12_buys_127 : decode cX12_buys 127 = .ok (.iconst 1, 1) := by decide +kernel
theorem dX12_buys_128 : decode cX12_buys 128 = .ok (.iadd, 1) := by decide +kernel
theorem dX12_buys_129 : decode cX12_buys 129 = .ok (.iastore, 1) := by decide +kernel
theorem dX12_buys_130 : decode cX12_buys 130 = .ok (.iconst 1, 1) := by decide +kernel
theorem dX12_buys_131 : decode cX12_buys 131 = .ok (.ireturn, 1) := by decide +kernel
theorem dX12_serve_0 : decode cX12_serve 0 = .ok (.iconst 0, 1) := by decide +kernel
theorem dX12_serve_1 : decode cX12_serve 1 = .ok (.istore_n 2, 1) := by decide +kernel
theorem dX12_serve_2 : decode cX12_serve 2 = .ok (.iload_n 2, 1) := by decide +kernel
theorem dX12_serve_3 : decode cX12_serve 3 = .ok (.iconst 4, 1) := by decide +kernel
theorem dX12_serve_4 : decode cX12_serve 4 = .ok (.if_icmp .ge 96, 3) := by decide +kernel
theorem dX12_serve_7 : decode cX12_serve 7 = .ok (.aload_n 0, 1) := by decide +kernel
theorem dX12_serve_8 : decode cX12_serve 8 = .ok (.getfield 76, 3) := by decide +kernel
theorem dX12_serve_11 : decode cX12_serve 11 = .ok (.iconst 4, 1) := by decide +kernel
theorem dX12_serve_12 : decode cX12_serve 12 = .ok (.iload_n 1, 1) := by decide +kernel
theorem dX12_serve_13 : decode cX12_serve 13 = .ok (.imul, 1) := by decide +kernel
theorem dX12_serve_14 : decode cX12_serve 14 = .ok (.iload_n 2, 1) := by decide +kernel
theorem dX12_serve_15 : decode cX12_serve 15 = .ok (.iadd, 1) := by decide +kernel
theorem dX12_serve_16 : decode cX12_serve 16 = .ok (.iaload, 1) := by decide +kernel
theorem dX12_serve_17 : decode cX12_serve 17 = .ok (.istore_n 3, 1) := by decide +kernel
theorem dX12_serve_18 : decode cX12_serve 18 = .ok (.iconst 0, 1) := by decide +kernel
theorem dX12_serve_19 : decode cX12_serve 19 = .ok (.istore 4, 2) := by decide +kernel
theorem dX12_serve_21 : decode cX12_serve 21 = .ok (.iload 4, 2) := by decide +kernel
theorem dX12_serve_23 : decode cX12_serve 23 = .ok (.iload_n 3, 1) := by decide +kernel
theorem dX12_serve_24 : decode cX12_serve 24 = .ok (.if_icmp .ge 70, 3) := by decide +kernel
theorem dX12_serve_27 : decode cX12_serve 27 = .ok (.aload_n 0, 1) := by decide +kernel
theorem dX12_serve_28 : decode cX12_serve 28 = .ok (.iload_n 1, 1) := by decide +kernel
theorem dX12_serve_29 : decode cX12_serve 29 = .ok (.invokevirtual 361, 3) := by decide +kernel
theorem dX12_serve_32 : decode cX12_serve 32 = .ok (.istore 5, 2) := by decide +kernel
theorem dX12_serve_34 : decode cX12_serve 34 = .ok (.iload 5, 2) := by decide +kernel
theorem dX12_serve_36 : decode cX12_serve 36 = .ok (.ifCond .eq 16, 3) := by decide +kernel
theorem dX12_serve_39 : decode cX12_serve 39 = .ok (.aload_n 0, 1) := by decide +kernel
theorem dX12_serve_40 : decode cX12_serve 40 = .ok (.getfield 82, 3) := by decide +kernel
theorem dX12_serve_43 : decode cX12_serve 43 = .ok (.iload_n 1, 1) := by decide +kernel
theorem dX12_serve_44 : decode cX12_serve 44 = .ok (.dup2, 1) := by decide +kernel
theorem dX12_serve_45 : decode cX12_serve 45 = .ok (.iaload, 1) := by decide +kernel
theorem dX12_serve_46 : decode cX12_serve 46 = .ok (.iconst 1, 1) := by decide +kernel
theorem dX12_serve_47 : decode cX12_serve 47 = .ok (.iadd, 1) := by decide +kernel
theorem dX12_serve_48 : decode cX12_serve 48 = .ok (.iastore, 1) := by decide +kernel
theorem dX12_serve_49 : decode cX12_serve 49 = .ok (.goto 39, 3) := by decide +kernel
theorem dX12_serve_52 : decode cX12_serve 52 = .ok (.iload_n 2, 1) := by decide +kernel
theorem dX12_serve_53 : decode cX12_serve 53 = .ok (.ifCond .le 25, 3) := by decide +kernel
theorem dX12_serve_56 : decode cX12_serve 56 = .ok (.aload_n 0, 1) := by decide +kernel
theorem dX12_serve_57 : decode cX12_serve 57 = .ok (.getfield 55, 3) := by decide +kernel
theorem dX12_serve_60 : decode cX12_serve 60 = .ok (.bipush 30, 2) := by decide +kernel
theorem dX12_serve_62 : decode cX12_serve 62 = .ok (.iconst 4, 1) := by decide +kernel
theorem dX12_serve_63 : decode cX12_serve 63 = .ok (.iload_n 1, 1) := by decide +kernel
theorem dX12_serve_64 : decode cX12_serve 64 = .ok (.imul, 1) := by decide +kernel
theorem dX12_serve_65 : decode cX12_serve 65 = .ok (.iadd, 1) := by decide +kernel
theorem dX12_serve_66 : decode cX12_serve 66 = .ok (.iload_n 2, 1) := by decide +kernel
theorem dX12_serve_67 : decode cX12_serve 67 = .ok (.iadd, 1) := by decide +kernel
theorem dX12_serve_68 : decode cX12_serve 68 = .ok (.iconst 1, 1) := by decide +kernel
theorem dX12_serve_69 : decode cX12_serve 69 = .ok (.isub, 1) := by decide +kernel
theorem dX12_serve_70 : decode cX12_serve 70 = .ok (.dup2, 1) := by decide +kernel
theorem dX12_serve_71 : decode cX12_serve 71 = .ok (.iaload, 1) := by decide +kernel
theorem dX12_serve_72 : decode cX12_serve 72 = .ok (.iconst 1, 1) := by decide +kernel
theorem dX12_serve_73 : decode cX12_serve 73 = .ok (.iadd, 1) := by decide +kernel
theorem dX12_serve_74 : decode cX12_serve 74 = .ok (.iastore, 1) := by decide +kernel
theorem dX12_serve_75 : decode cX12_serve 75 = .ok (.goto 13, 3) := by decide +kernel
theorem dX12_serve_78 : decode cX12_serve 78 = .ok (.aload_n 0, 1) := by decide +kernel
theorem dX12_serve_79 : decode cX12_serve 79 = .ok (.getfield 85, 3) := by decide +kernel
theorem dX12_serve_82 : decode cX12_serve 82 = .ok (.iload_n 1, 1) := by decide +kernel
theorem dX12_serve_83 : decode cX12_serve 83 = .ok (.dup2, 1) := by decide +kernel
theorem dX12_serve_84 : decode cX12_serve 84 = .ok (.iaload, 1) := by decide +kernel
theorem dX12_serve_85 : decode cX12_serve 85 = .ok (.iconst 1, 1) := by decide +kernel
theorem dX12_serve_86 : decode cX12_serve 86 = .ok (.iadd, 1) := by decide +kernel
theorem dX12_serve_87 : decode cX12_serve 87 = .ok (.iastore, 1) := by decide +kernel
theorem dX12_serve_88 : decode cX12_serve 88 = .ok (.iinc 4 1, 3) := by decide +kernel
theorem dX12_serve_91 : decode cX12_serve 91 = .ok (.goto (-70), 3) := by decide +kernel
theorem dX12_serve_94 : decode cX12_serve 94 = .ok (.iinc 2 1, 3) := by decide +kernel
theorem dX12_serve_97 : decode cX12_serve 97 = .ok (.goto (-95), 3) := by decide +kernel
theorem dX12_serve_100 : decode cX12_serve 100 = .ok (.return_, 1) := by decide +kernel
theorem dX12_serveAll_0 : decode cX12_serveAll 0 = .ok (.iconst 0, 1) := by decide +kernel
theorem dX12_serveAll_1 : decode cX12_serveAll 1 = .ok (.istore_n 1, 1) := by decide +kernel
theorem dX12_serveAll_2 : decode cX12_serveAll 2 = .ok (.iload_n 1, 1) := by decide +kernel
theorem dX12_serveAll_3 : decode cX12_serveAll 3 = .ok (.bipush 24, 2) := by decide +kernel
theorem dX12_serveAll_5 : decode cX12_serveAll 5 = .ok (.if_icmp .ge 19, 3) := by decide +kernel
theorem dX12_serveAll_8 : decode cX12_serveAll 8 = .ok (.aload_n 0, 1) := by decide +kernel
theorem dX12_serveAll_9 : decode cX12_serveAll 9 = .ok (.getfield 55, 3) := by decide +kernel
theorem dX12_serveAll_12 : decode cX12_serveAll 12 = .ok (.bipush 30, 2) := by decide +kernel
theorem dX12_serveAll_14 : decode cX12_serveAll 14 = .ok (.iload_n 1, 1) := by decide +kernel
theorem dX12_serveAll_15 : decode cX12_serveAll 15 = .ok (.iadd, 1) := by decide +kernel
theorem dX12_serveAll_16 : decode cX12_serveAll 16 = .ok (.iconst 0, 1) := by decide +kernel
theorem dX12_serveAll_17 : decode cX12_serveAll 17 = .ok (.iastore, 1) := by decide +kernel
theorem dX12_serveAll_18 : decode cX12_serveAll 18 = .ok (.iinc 1 1, 3) := by decide +kernel
theorem dX12_serveAll_21 : decode cX12_serveAll 21 = .ok (.goto (-19), 3) := by decide +kernel
theorem dX12_serveAll_24 : decode cX12_serveAll 24 = .ok (.bipush 20, 2) := by decide +kernel
theorem dX12_serveAll_26 : decode cX12_serveAll 26 = .ok (.istore_n 1, 1) := by decide +kernel
theorem dX12_serveAll_27 : decode cX12_serveAll 27 = .ok (.iload_n 1, 1) := by decide +kernel
theorem dX12_serveAll_28 : decode cX12_serveAll 28 = .ok (.ifCond .lt 42, 3) := by decide +kernel
theorem dX12_serveAll_31 : decode cX12_serveAll 31 = .ok (.iconst 0, 1) := by decide +kernel
theorem dX12_serveAll_32 : decode cX12_serveAll 32 = .ok (.istore_n 2, 1) := by decide +kernel
theorem dX12_serveAll_33 : decode cX12_serveAll 33 = .ok (.iload_n 2, 1) := by decide +kernel
theorem dX12_serveAll_34 : decode cX12_serveAll 34 = .ok (.aload_n 0, 1) := by decide +kernel
theorem dX12_serveAll_35 : decode cX12_serveAll 35 = .ok (.getfield 308, 3) := by decide +kernel
theorem dX12_serveAll_38 : decode cX12_serveAll 38 = .ok (.if_icmp .ge 26, 3) := by decide +kernel
theorem dX12_serveAll_41 : decode cX12_serveAll 41 = .ok (.aload_n 0, 1) := by decide +kernel
theorem dX12_serveAll_42 : decode cX12_serveAll 42 = .ok (.getfield 40, 3) := by decide +kernel
theorem dX12_serveAll_45 : decode cX12_serveAll 45 = .ok (.iconst 3, 1) := by decide +kernel
theorem dX12_serveAll_46 : decode cX12_serveAll 46 = .ok (.iload_n 2, 1) := by decide +kernel
theorem dX12_serveAll_47 : decode cX12_serveAll 47 = .ok (.imul, 1) := by decide +kernel
theorem dX12_serveAll_48 : decode cX12_serveAll 48 = .ok (.iaload, 1) := by decide +kernel
theorem dX12_serveAll_49 : decode cX12_serveAll 49 = .ok (.iload_n 1, 1) := by decide +kernel
theorem dX12_serveAll_50 : decode cX12_serveAll 50 = .ok (.if_icmp .ne 8, 3) := by decide +kernel
theorem dX12_serveAll_53 : decode cX12_serveAll 53 = .ok (.aload_n 0, 1) := by decide +kernel
theorem dX12_serveAll_54 : decode cX12_serveAll 54 = .ok (.iload_n 2, 1) := by decide +kernel
theorem dX12_serveAll_55 : decode cX12_serveAll 55 = .ok (.invokevirtual 364, 3) := by decide +kernel
theorem dX12_serveAll_58 : decode cX12_serveAll 58 = .ok (.iinc 2 1, 3) := by decide +kernel
theorem dX12_serveAll_61 : decode cX12_serveAll 61 = .ok (.goto (-28), 3) := by decide +kernel
theorem dX12_serveAll_64 : decode cX12_serveAll 64 = .ok (.iinc 1 (-1), 3) := by decide +kernel
theorem dX12_serveAll_67 : decode cX12_serveAll 67 = .ok (.goto (-40), 3) := by decide +kernel
theorem dX12_serveAll_70 : decode cX12_serveAll 70 = .ok (.return_, 1) := by decide +kernel
theorem dX12_board_0 : decode cX12_board 0 = .ok (.iconst 0, 1) := by decide +kernel
theorem dX12_board_1 : decode cX12_board 1 = .ok (.istore_n 1, 1) := by decide +kernel
theorem dX12_board_2 : decode cX12_board 2 = .ok (.iconst 0, 1) := by decide +kernel
theorem dX12_board_3 : decode cX12_board 3 = .ok (.istore_n 2, 1) := by decide +kernel
theorem dX12_board_4 : decode cX12_board 4 = .ok (.iload_n 2, 1) := by decide +kernel
