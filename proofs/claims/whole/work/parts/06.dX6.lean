theorem dX6_outage_17 : decode cX6_outage 17 = .ok (.i2l, 1) := by decide +kernel
theorem dX6_outage_18 : decode cX6_outage 18 = .ok (.lconst 0, 1) := by decide +kernel
theorem dX6_outage_19 : decode cX6_outage 19 = .ok (.lconst 1, 1) := by decide +kernel
theorem dX6_outage_20 : decode cX6_outage 20 = .ok (.invokestatic 65, 3) := by decide +kernel
theorem dX6_outage_23 : decode cX6_outage 23 = .ok (.ifCond .ne 11, 3) := by decide +kernel
theorem dX6_outage_26 : decode cX6_outage 26 = .ok (.aload_n 0, 1) := by decide +kernel
theorem dX6_outage_27 : decode cX6_outage 27 = .ok (.bipush (-2), 2) := by decide +kernel
theorem dX6_outage_29 : decode cX6_outage 29 = .ok (.invokevirtual 130, 3) := by decide +kernel
theorem dX6_outage_32 : decode cX6_outage 32 = .ok (.i2l, 1) := by decide +kernel
theorem dX6_outage_33 : decode cX6_outage 33 = .ok (.lreturn, 1) := by decide +kernel
theorem dX6_outage_34 : decode cX6_outage 34 = .ok (.aload_n 0, 1) := by decide +kernel
theorem dX6_outage_35 : decode cX6_outage 35 = .ok (.iload_n 2, 1) := by decide +kernel
theorem dX6_outage_36 : decode cX6_outage 36 = .ok (.invokevirtual 73, 3) := by decide +kernel
theorem dX6_outage_39 : decode cX6_outage 39 = .ok (.ifCond .ne 11, 3) := by decide +kernel
theorem dX6_outage_42 : decode cX6_outage 42 = .ok (.aload_n 0, 1) := by decide +kernel
theorem dX6_outage_43 : decode cX6_outage 43 = .ok (.bipush (-3), 2) := by decide +kernel
theorem dX6_outage_45 : decode cX6_outage 45 = .ok (.invokevirtual 130, 3) := by decide +kernel
theorem dX6_outage_48 : decode cX6_outage 48 = .ok (.i2l, 1) := by decide +kernel
theorem dX6_outage_49 : decode cX6_outage 49 = .ok (.lreturn, 1) := by decide +kernel
theorem dX6_outage_50 : decode cX6_outage 50 = .ok (.aload_n 0, 1) := by decide +kernel
theorem dX6_outage_51 : decode cX6_outage 51 = .ok (.invokevirtual 186, 3) := by decide +kernel
theorem dX6_outage_54 : decode cX6_outage 54 = .ok (.aload_n 0, 1) := by decide +kernel
theorem dX6_outage_55 : decode cX6_outage 55 = .ok (.aload_n 0, 1) := by decide +kernel
theorem dX6_outage_56 : decode cX6_outage 56 = .ok (.invokevirtual 179, 3) := by decide +kernel
theorem dX6_outage_59 : decode cX6_outage 59 = .ok (.iconst 1, 1) := by decide +kernel
theorem dX6_outage_60 : decode cX6_outage 60 = .ok (.iload_n 2, 1) := by decide +kernel
theorem dX6_outage_61 : decode cX6_outage 61 = .ok (.ishl, 1) := by decide +kernel
theorem dX6_outage_62 : decode cX6_outage 62 = .ok (.iconst (-1), 1) := by decide +kernel
theorem dX6_outage_63 : decode cX6_outage 63 = .ok (.ixor, 1) := by decide +kernel
theorem dX6_outage_64 : decode cX6_outage 64 = .ok (.iand, 1) := by decide +kernel
theorem dX6_outage_65 : decode cX6_outage 65 = .ok (.invokevirtual 189, 3) := by decide +kernel
theorem dX6_outage_68 : decode cX6_outage 68 = .ok (.aload_n 0, 1) := by decide +kernel
theorem dX6_outage_69 : decode cX6_outage 69 = .ok (.iload_n 1, 1) := by decide +kernel
theorem dX6_outage_70 : decode cX6_outage 70 = .ok (.aload_n 0, 1) := by decide +kernel
theorem dX6_outage_71 : decode cX6_outage 71 = .ok (.invokevirtual 179, 3) := by decide +kernel
theorem dX6_outage_74 : decode cX6_outage 74 = .ok (.iconst 1, 1) := by decide +kernel
theorem dX6_outage_75 : decode cX6_outage 75 = .ok (.iload_n 2, 1) := by decide +kernel
theorem dX6_outage_76 : decode cX6_outage 76 = .ok (.ishl, 1) := by decide +kernel
theorem dX6_outage_77 : decode cX6_outage 77 = .ok (.iconst (-1), 1) := by decide +kernel
theorem dX6_outage_78 : decode cX6_outage 78 = .ok (.ixor, 1) := by decide +kernel
theorem dX6_outage_79 : decode cX6_outage 79 = .ok (.iand, 1) := by decide +kernel
theorem dX6_outage_80 : decode cX6_outage 80 = .ok (.iload_n 3, 1) := by decide +kernel
theorem dX6_outage_81 : decode cX6_outage 81 = .ok (.invokevirtual 192, 3) := by decide +kernel
theorem dX6_outage_84 : decode cX6_outage 84 = .ok (.lreturn, 1) := by decide +kernel
theorem dX6_spread_0 : decode cX6_spread 0 = .ok (.aload_n 0, 1) := by decide +kernel
theorem dX6_spread_1 : decode cX6_spread 1 = .ok (.iload_n 1, 1) := by decide +kernel
theorem dX6_spread_2 : decode cX6_spread 2 = .ok (.invokevirtual 165, 3) := by decide +kernel
theorem dX6_spread_5 : decode cX6_spread 5 = .ok (.ifCond .eq 21, 3) := by decide +kernel
theorem dX6_spread_8 : decode cX6_spread 8 = .ok (.aload_n 0, 1) := by decide +kernel
theorem dX6_spread_9 : decode cX6_spread 9 = .ok (.iload_n 2, 1) := by decide +kernel
theorem dX6_spread_10 : decode cX6_spread 10 = .ok (.invokevirtual 165, 3) := by decide +kernel
theorem dX6_spread_13 : decode cX6_spread 13 = .ok (.ifCond .eq 13, 3) := by decide +kernel
theorem dX6_spread_16 : decode cX6_spread 16 = .ok (.iload_n 3, 1) := by decide +kernel
theorem dX6_spread_17 : decode cX6_spread 17 = .ok (.i2l, 1) := by decide +kernel
theorem dX6_spread_18 : decode cX6_spread 18 = .ok (.lconst 0, 1) := by decide +kernel
theorem dX6_spread_19 : decode cX6_spread 19 = .ok (.lconst 1, 1) := by decide +kernel
theorem dX6_spread_20 : decode cX6_spread 20 = .ok (.invokestatic 65, 3) := by decide +kernel
theorem dX6_spread_23 : decode cX6_spread 23 = .ok (.ifCond .ne 11, 3) := by decide +kernel
theorem dX6_spread_26 : decode cX6_spread 26 = .ok (.aload_n 0, 1) := by decide +kernel
theorem dX6_spread_27 : decode cX6_spread 27 = .ok (.bipush (-2), 2) := by decide +kernel
theorem dX6_spread_29 : decode cX6_spread 29 = .ok (.invokevirtual 130, 3) := by decide +kernel
theorem dX6_spread_32 : decode cX6_spread 32 = .ok (.i2l, 1) := by decide +kernel
theorem dX6_spread_33 : decode cX6_spread 33 = .ok (.lreturn, 1) := by decide +kernel
theorem dX6_spread_34 : decode cX6_spread 34 = .ok (.aload_n 0, 1) := by decide +kernel
theorem dX6_spread_35 : decode cX6_spread 35 = .ok (.iload_n 2, 1) := by decide +kernel
theorem dX6_spread_36 : decode cX6_spread 36 = .ok (.invokevirtual 73, 3) := by decide +kernel
theorem dX6_spread_39 : decode cX6_spread 39 = .ok (.ifCond .eq 11, 3) := by decide +kernel
theorem dX6_spread_42 : decode cX6_spread 42 = .ok (.aload_n 0, 1) := by decide +kernel
theorem dX6_spread_43 : decode cX6_spread 43 = .ok (.iload_n 2, 1) := by decide +kernel
theorem dX6_spread_44 : decode cX6_spread 44 = .ok (.invokevirtual 183, 3) := by decide +kernel
theorem dX6_spread_47 : decode cX6_spread 47 = .ok (.ifCond .eq 11, 3) := by decide +kernel
theorem dX6_spread_50 : decode cX6_spread 50 = .ok (.aload_n 0, 1) := by decide +kernel
theorem dX6_spread_51 : decode cX6_spread 51 = .ok (.bipush (-3), 2) := by decide +kernel
theorem dX6_spread_53 : decode cX6_spread 53 = .ok (.invokevirtual 130, 3) := by decide +kernel
theorem dX6_spread_56 : decode cX6_spread 56 = .ok (.i2l, 1) := by decide +kernel
theorem dX6_spread_57 : decode cX6_spread 57 = .ok (.lreturn, 1) := by decide +kernel
theorem dX6_spread_58 : decode cX6_spread 58 = .ok (.aload_n 0, 1) := by decide +kernel
theorem dX6_spread_59 : decode cX6_spread 59 = .ok (.aload_n 0, 1) := by decide +kernel
theorem dX6_spread_60 : decode cX6_spread 60 = .ok (.iload_n 2, 1) := by decide +kernel
theorem dX6_spread_61 : decode cX6_spread 61 = .ok (.iconst 0, 1) := by decide +kernel
theorem dX6_spread_62 : decode cX6_spread 62 = .ok (.invokevirtual 69, 3) := by decide +kernel
theorem dX6_spread_65 : decode cX6_spread 65 = .ok (.aload_n 0, 1) := by decide +kernel
theorem dX6_spread_66 : decode cX6_spread 66 = .ok (.iload_n 2, 1) := by decide +kernel
theorem dX6_spread_67 : decode cX6_spread 67 = .ok (.iconst 1, 1) := by decide +kernel
theorem dX6_spread_68 : decode cX6_spread 68 = .ok (.invokevirtual 69, 3) := by decide +kernel
theorem dX6_spread_71 : decode cX6_spread 71 = .ok (.invokevirtual 196, 3) := by decide +kernel
theorem dX6_spread_74 : decode cX6_spread 74 = .ok (.aload_n 0, 1) := by decide +kernel
theorem dX6_spread_75 : decode cX6_spread 75 = .ok (.aload_n 0, 1) := by decide +kernel
theorem dX6_spread_76 : decode cX6_spread 76 = .ok (.invokevirtual 179, 3) := by decide +kernel
theorem dX6_spread_79 : decode cX6_spread 79 = .ok (.invokevirtual 189, 3) := by decide +kernel
theorem dX6_spread_82 : decode cX6_spread 82 = .ok (.iload_n 1, 1) := by decide +kernel
theorem dX6_spread_83 : decode cX6_spread 83 = .ok (.iload_n 2, 1) := by decide +kernel
theorem dX6_spread_84 : decode cX6_spread 84 = .ok (.if_icmp .eq 40, 3) := by decide +kernel
theorem dX6_spread_87 : decode cX6_spread 87 = .ok (.aload_n 0, 1) := by decide +kernel
theorem dX6_spread_88 : decode cX6_spread 88 = .ok (.iload_n 1, 1) := by decide +kernel
theorem dX6_spread_89 : decode cX6_spread 89 = .ok (.invokevirtual 73, 3) := by decide +kernel
theorem dX6_spread_92 : decode cX6_spread 92 = .ok (.ifCond .eq 32, 3) := by decide +kernel
theorem dX6_spread_95 : decode cX6_spread 95 = .ok (.aload_n 0, 1) := by decide +kernel
theorem dX6_spread_96 : decode cX6_spread 96 = .ok (.getfield 29, 3) := by decide +kernel
theorem dX6_spread_99 : decode cX6_spread 99 = .ok (.aload_n 0, 1) := by decide +kernel
theorem dX6_spread_100 : decode cX6_spread 100 = .ok (.iload_n 1, 1) := by decide +kernel
theorem dX6_spread_101 : decode cX6_spread 101 = .ok (.iconst 0, 1) := by decide +kernel
theorem dX6_spread_102 : decode cX6_spread 102 = .ok (.invokevirtual 69, 3) := by decide +kernel
theorem dX6_spread_105 : decode cX6_spread 105 = .ok (.iaload, 1) := by decide +kernel
theorem dX6_spread_106 : decode cX6_spread 106 = .ok (.aload_n 0, 1) := by decide +kernel
theorem dX6_spread_107 : decode cX6_spread 107 = .ok (.getfield 29, 3) := by decide +kernel
theorem dX6_spread_110 : decode cX6_spread 110 = .ok (.aload_n 0, 1) := by decide +kernel
theorem dX6_spread_111 : decode cX6_spread 111 = .ok (.iload_n 2, 1) := by decide +kernel
theorem dX6_spread_112 : decode cX6_spread 112 = .ok (.iconst 0, 1) := by decide +kernel
theorem dX6_spread_113 : decode cX6_spread 113 = .ok (.invokevirtual 69, 3) := by decide +kernel
theorem dX6_spread_116 : decode cX6_spread 116 = .ok (.iaload, 1) := by decide +kernel
theorem dX6_spread_117 : decode cX6_spread 117 = .ok (.if_icmp .ne 7, 3) := by decide +kernel
theorem dX6_spread_120 : decode cX6_spread 120 = .ok (.iconst 1, 1) := by decide +kernel
theorem dX6_spread_121 : decode cX6_spread 121 = .ok (.goto 4, 3) := by decide +kernel
theorem dX6_spread_124 : decode cX6_spread 124 = .ok (.iconst 0, 1) := by decide +kernel
theorem dX6_spread_125 : decode cX6_spread 125 = .ok (.istore 4, 2) := by decide +kernel
theorem dX6_spread_127 : decode cX6_spread 127 = .ok (.iload 4, 2) := by decide +kernel
theorem dX6_spread_129 : decode cX6_spread 129 = .ok (.ifCond .eq 40, 3) := by decide +kernel
theorem dX6_spread_132 : decode cX6_spread 132 = .ok (.aload_n 0, 1) := by decide +kernel
theorem dX6_spread_133 : decode cX6_spread 133 = .ok (.iload_n 1, 1) := by decide +kernel
theorem dX6_spread_134 : decode cX6_spread 134 = .ok (.aload_n 0, 1) := by decide +kernel
theorem dX6_spread_135 : decode cX6_spread 135 = .ok (.invokevirtual 179, 3) := by decide +kernel
theorem dX6_spread_138 : decode cX6_spread 138 = .ok (.invokevirtual 113, 3) := by decide +kernel
theorem dX6_spread_141 : decode cX6_spread 141 = .ok (.aload_n 0, 1) := by decide +kernel
theorem dX6_spread_142 : decode cX6_spread 142 = .ok (.getfield 35, 3) := by decide +kernel
theorem dX6_spread_145 : decode cX6_spread 145 = .ok (.aload_n 0, 1) := by decide +kernel
theorem dX6_spread_146 : decode cX6_spread 146 = .ok (.iload_n 2, 1) := by decide +kernel
theorem dX6_spread_147 : decode cX6_spread 147 = .ok (.iconst 0, 1) := by decide +kernel
theorem dX6_spread_148 : decode cX6_spread 148 = .ok (.invokevirtual 69, 3) := by decide +kernel
theorem dX6_spread_151 : decode cX6_spread 151 = .ok (.laload, 1) := by decide +kernel
theorem dX6_spread_152 : decode cX6_spread 152 = .ok (.aload_n 0, 1) := by decide +kernel
theorem dX6_spread_153 : decode cX6_spread 153 = .ok (.iload_n 2, 1) := by decide +kernel
theorem dX6_spread_154 : decode cX6_spread 154 = .ok (.aload_n 0, 1) := by decide +kernel
theorem dX6_spread_155 : decode cX6_spread 155 = .ok (.invokevirtual 179, 3) := by decide +kernel
theorem dX6_spread_158 : decode cX6_spread 158 = .ok (.invokevirtual 113, 3) := by decide +kernel
theorem dX6_spread_161 : decode cX6_spread 161 = .ok (.lsub, 1) := by decide +kernel
theorem dX6_spread_162 : decode cX6_spread 162 = .ok (.iload_n 3, 1) := by decide +kernel
theorem dX6_spread_163 : decode cX6_spread 163 = .ok (.invokestatic 116, 3) := by decide +kernel
theorem dX6_spread_166 : decode cX6_spread 166 = .ok (.goto 5, 3) := by decide +kernel
theorem dX6_spread_169 : decode cX6_spread 169 = .ok (.iload_n 3, 1) := by decide +kernel
theorem dX6_spread_170 : decode cX6_spread 170 = .ok (.i2l, 1) := by decide +kernel
theorem dX6_spread_171 : decode cX6_spread 171 = .ok (.lreturn, 1) := by decide +kernel
theorem dX6_judges_0 : decode cX6_judges 0 = .ok (.aload_n 0, 1) := by decide +kernel
theorem dX6_judges_1 : decode cX6_judges 1 = .ok (.invokevirtual 186, 3) := by decide +kernel
theorem dX6_judges_4 : decode cX6_judges 4 = .ok (.aload_n 0, 1) := by decide +kernel
theorem dX6_judges_5 : decode cX6_judges 5 = .ok (.iload_n 1, 1) := by decide +kernel
theorem dX6_judges_6 : decode cX6_judges 6 = .ok (.invokevirtual 189, 3) := by decide +kernel
theorem dX6_judges_9 : decode cX6_judges 9 = .ok (.aload_n 0, 1) := by decide +kernel
theorem dX6_judges_10 : decode cX6_judges 10 = .ok (.iconst (-1), 1) := by decide +kernel
theorem dX6_judges_11 : decode cX6_judges 11 = .ok (.putfield 200, 3) := by decide +kernel
theorem dX6_judges_14 : decode cX6_judges 14 = .ok (.aload_n 0, 1) := by decide +kernel
theorem dX6_judges_15 : decode cX6_judges 15 = .ok (.lconst 0, 1) := by decide +kernel
theorem dX6_judges_16 : decode cX6_judges 16 = .ok (.putfield 203, 3) := by decide +kernel
theorem dX6_judges_19 : decode cX6_judges 19 = .ok (.aload_n 0, 1) := by decide +kernel
theorem dX6_judges_20 : decode cX6_judges 20 = .ok (.lconst 1, 1) := by decide +kernel
theorem dX6_judges_21 : decode cX6_judges 21 = .ok (.putfield 207, 3) := by decide +kernel
theorem dX6_judges_24 : decode cX6_judges 24 = .ok (.aload_n 0, 1) := by decide +kernel
theorem dX6_judges_25 : decode cX6_judges 25 = .ok (.iconst 0, 1) := by decide +kernel
theorem dX6_judges_26 : decode cX6_judges 26 = .ok (.putfield 210, 3) := by decide +kernel
theorem dX6_judges_29 : decode cX6_judges 29 = .ok (.iconst 0, 1) := by decide +kernel
theorem dX6_judges_30 : decode cX6_judges 30 = .ok (.istore_n 2, 1) := by decide +kernel
theorem dX6_judges_31 : decode cX6_judges 31 = .ok (.iload_n 2, 1) := by decide +kernel
theorem dX6_judges_32 : decode cX6_judges 32 = .ok (.aload_n 0, 1) := by decide +kernel
theorem dX6_judges_33 : decode cX6_judges 33 = .ok (.getfield 7, 3) := by decide +kernel
theorem dX6_judges_36 : decode cX6_judges 36 = .ok (.iconst 1, 1) := by decide +kernel
theorem dX6_judges_37 : decode cX6_judges 37 = .ok (.iaload, 1) := by decide +kernel
theorem dX6_judges_38 : decode cX6_judges 38 = .ok (.if_icmp .ge 140, 3) := by decide +kernel
theorem dX6_judges_41 : decode cX6_judges 41 = .ok (.iload_n 1, 1) := by decide +kernel
theorem dX6_judges_42 : decode cX6_judges 42 = .ok (.iload_n 2, 1) := by decide +kernel
theorem dX6_judges_43 : decode cX6_judges 43 = .ok (.invokestatic 81, 3) := by decide +kernel
theorem dX6_judges_46 : decode cX6_judges 46 = .ok (.ifCond .eq 126, 3) := by decide +kernel
theorem dX6_judges_49 : decode cX6_judges 49 = .ok (.aload_n 0, 1) := by decide +kernel
theorem dX6_judges_50 : decode cX6_judges 50 = .ok (.iload_n 2, 1) := by decide +kernel
theorem dX6_judges_51 : decode cX6_judges 51 = .ok (.iload_n 1, 1) := by decide +kernel
theorem dX6_judges_52 : decode cX6_judges 52 = .ok (.invokevirtual 113, 3) := by decide +kernel
theorem dX6_judges_55 : decode cX6_judges 55 = .ok (.lstore_n 3, 1) := by decide +kernel
theorem dX6_judges_56 : decode cX6_judges 56 = .ok (.lload_n 3, 1) := by decide +kernel
theorem dX6_judges_57 : decode cX6_judges 57 = .ok (.lconst 0, 1) := by decide +kernel
theorem dX6_judges_58 : decode cX6_judges 58 = .ok (.lcmp, 1) := by decide +kernel
theorem dX6_judges_59 : decode cX6_judges 59 = .ok (.ifCond .ge 8, 3) := by decide +kernel
theorem dX6_judges_62 : decode cX6_judges 62 = .ok (.lload_n 3, 1) := by decide +kernel
theorem dX6_judges_63 : decode cX6_judges 63 = .ok (.lneg, 1) := by decide +kernel
theorem dX6_judges_64 : decode cX6_judges 64 = .ok (.goto 4, 3) := by decide +kernel
theorem dX6_judges_67 : decode cX6_judges 67 = .ok (.lload_n 3, 1) := by decide +kernel
theorem dX6_judges_68 : decode cX6_judges 68 = .ok (.lstore_n 3, 1) := by decide +kernel
theorem dX6_judges_69 : decode cX6_judges 69 = .ok (.aload_n 0, 1) := by decide +kernel
theorem dX6_judges_70 : decode cX6_judges 70 = .ok (.getfield 35, 3) := by decide +kernel
theorem dX6_judges_73 : decode cX6_judges 73 = .ok (.aload_n 0, 1) := by decide +kernel
theorem dX6_judges_74 : decode cX6_judges 74 = .ok (.iload_n 2, 1) := by decide +kernel
theorem dX6_judges_75 : decode cX6_judges 75 = .ok (.iconst 0, 1) := by decide +kernel
theorem dX6_judges_76 : decode cX6_judges 76 = .ok (.invokevirtual 69, 3) := by decide +kernel
theorem dX6_judges_79 : decode cX6_judges 79 = .ok (.laload, 1) := by decide +kernel
theorem dX6_judges_80 : decode cX6_judges 80 = .ok (.aload_n 0, 1) := by decide +kernel
theorem dX6_judges_81 : decode cX6_judges 81 = .ok (.iload_n 2, 1) := by decide +kernel
theorem dX6_judges_82 : decode cX6_judges 82 = .ok (.iconst 3, 1) := by decide +kernel
theorem dX6_judges_83 : decode cX6_judges 83 = .ok (.invokevirtual 69, 3) := by decide +kernel
theorem dX6_judges_86 : decode cX6_judges 86 = .ok (.i2l, 1) := by decide +kernel
theorem dX6_judges_87 : decode cX6_judges 87 = .ok (.lmul, 1) := by decide +kernel
theorem dX6_judges_88 : decode cX6_judges 88 = .ok (.lstore 5, 2) := by decide +kernel
theorem dX6_judges_90 : decode cX6_judges 90 = .ok (.lload_n 3, 1) := by decide +kernel
theorem dX6_judges_91 : decode cX6_judges 91 = .ok (.lload 5, 2) := by decide +kernel
theorem dX6_judges_93 : decode cX6_judges 93 = .ok (.invokestatic 77, 3) := by decide +kernel
theorem dX6_judges_96 : decode cX6_judges 96 = .ok (.lstore 7, 2) := by decide +kernel
theorem dX6_judges_98 : decode cX6_judges 98 = .ok (.aload_n 0, 1) := by decide +kernel
theorem dX6_judges_99 : decode cX6_judges 99 = .ok (.dup, 1) := by decide +kernel
theorem dX6_judges_100 : decode cX6_judges 100 = .ok (.getfield 210, 3) := by decide +kernel
theorem dX6_judges_103 : decode cX6_judges 103 = .ok (.lload_n 3, 1) := by decide +kernel
theorem dX6_judges_104 : decode cX6_judges 104 = .ok (.lload 5, 2) := by decide +kernel
theorem dX6_judges_106 : decode cX6_judges 106 = .ok (.lcmp, 1) := by decide +kernel
theorem dX6_judges_107 : decode cX6_judges 107 = .ok (.ifCond .le 7, 3) := by decide +kernel
theorem dX6_judges_110 : decode cX6_judges 110 = .ok (.iconst 1, 1) := by decide +kernel
theorem dX6_judges_111 : decode cX6_judges 111 = .ok (.goto 4, 3) := by decide +kernel
theorem dX6_judges_114 : decode cX6_judges 114 = .ok (.iconst 0, 1) := by decide +kernel
theorem dX6_judges_115 : decode cX6_judges 115 = .ok (.iadd, 1) := by decide +kernel
theorem dX6_judges_116 : decode cX6_judges 116 = .ok (.putfield 210, 3) := by decide +kernel
theorem dX6_judges_119 : decode cX6_judges 119 = .ok (.aload_n 0, 1) := by decide +kernel
theorem dX6_judges_120 : decode cX6_judges 120 = .ok (.getfield 200, 3) := by decide +kernel
theorem dX6_judges_123 : decode cX6_judges 123 = .ok (.iconst (-1), 1) := by decide +kernel
theorem dX6_judges_124 : decode cX6_judges 124 = .ok (.if_icmp .eq 26, 3) := by decide +kernel
theorem dX6_judges_127 : decode cX6_judges 127 = .ok (.lload_n 3, 1) := by decide +kernel
theorem dX6_judges_128 : decode cX6_judges 128 = .ok (.lload 7, 2) := by decide +kernel
theorem dX6_judges_130 : decode cX6_judges 130 = .ok (.ldiv, 1) := by decide +kernel
theorem dX6_judges_131 : decode cX6_judges 131 = .ok (.aload_n 0, 1) := by decide +kernel
theorem dX6_judges_132 : decode cX6_judges 132 = .ok (.getfield 207, 3) := by decide +kernel
theorem dX6_judges_135 : decode cX6_judges 135 = .ok (.lmul, 1) := by decide +kernel
theorem dX6_judges_136 : decode cX6_judges 136 = .ok (.aload_n 0, 1) := by decide +kernel
theorem dX6_judges_137 : decode cX6_judges 137 = .ok (.getfield 203, 3) := by decide +kernel
theorem dX6_judges_140 : decode cX6_judges 140 = .ok (.lload 5, 2) := by decide +kernel
theorem dX6_judges_142 : decode cX6_judges 142 = .ok (.lload 7, 2) := by decide +kernel
theorem dX6_judges_144 : decode cX6_judges 144 = .ok (.ldiv, 1) := by decide +kernel
theorem dX6_judges_145 : decode cX6_judges 145 = .ok (.lmul, 1) := by decide +kernel
theorem dX6_judges_146 : decode cX6_judges 146 = .ok (.lcmp, 1) := by decide +kernel
theorem dX6_judges_147 : decode cX6_judges 147 = .ok (.ifCond .le 25, 3) := by decide +kernel
theorem dX6_judges_150 : decode cX6_judges 150 = .ok (.aload_n 0, 1) := by decide +kernel
theorem dX6_judges_151 : decode cX6_judges 151 = .ok (.iload_n 2, 1) := by decide +kernel
theorem dX6_judges_152 : decode cX6_judges 152 = .ok (.putfield 200, 3) := by decide +kernel
theorem dX6_judges_155 : decode cX6_judges 155 = .ok (.aload_n 0, 1) := by decide +kernel
theorem dX6_judges_156 : decode cX6_judges 156 = .ok (.lload_n 3, 1) := by decide +kernel
theorem dX6_judges_157 : decode cX6_judges 157 = .ok (.lload 7, 2) := by decide +kernel
theorem dX6_judges_159 : decode cX6_judges 159 = .ok (.ldiv, 1) := by decide +kernel
theorem dX6_judges_160 : decode cX6_judges 160 = .ok (.putfield 203, 3) := by decide +kernel
theorem dX6_judges_163 : decode cX6_judges 163 = .ok (.aload_n 0, 1) := by decide +kernel
theorem dX6_judges_164 : decode cX6_judges 164 = .ok (.lload 5, 2) := by decide +kernel
theorem dX6_judges_166 : decode cX6_judges 166 = .ok (.lload 7, 2) := by decide +kernel
theorem dX6_judges_168 : decode cX6_judges 168 = .ok (.ldiv, 1) := by decide +kernel
theorem dX6_judges_169 : decode cX6_judges 169 = .ok (.putfield 207, 3) := by decide +kernel
theorem dX6_judges_172 : decode cX6_judges 172 = .ok (.iinc 2 1, 3) := by decide +kernel
theorem dX6_judges_175 : decode cX6_judges 175 = .ok (.goto (-144), 3) := by decide +kernel
theorem dX6_judges_178 : decode cX6_judges 178 = .ok (.return_, 1) := by decide +kernel
theorem dX6_worst_0 : decode cX6_worst 0 = .ok (.iload_n 1, 1) := by decide +kernel
theorem dX6_worst_1 : decode cX6_worst 1 = .ok (.iconst (-1), 1) := by decide +kernel
theorem dX6_worst_2 : decode cX6_worst 2 = .ok (.if_icmp .eq 11, 3) := by decide +kernel
theorem dX6_worst_5 : decode cX6_worst 5 = .ok (.aload_n 0, 1) := by decide +kernel
theorem dX6_worst_6 : decode cX6_worst 6 = .ok (.iload_n 1, 1) := by decide +kernel
theorem dX6_worst_7 : decode cX6_worst 7 = .ok (.invokevirtual 165, 3) := by decide +kernel
theorem dX6_worst_10 : decode cX6_worst 10 = .ok (.ifCond .eq 15, 3) := by decide +kernel
theorem dX6_worst_13 : decode cX6_worst 13 = .ok (.iload_n 2, 1) := by decide +kernel
theorem dX6_worst_14 : decode cX6_worst 14 = .ok (.i2l, 1) := by decide +kernel
theorem dX6_worst_15 : decode cX6_worst 15 = .ok (.lconst 0, 1) := by decide +kernel
theorem dX6_worst_16 : decode cX6_worst 16 = .ok (.ldc2_w 213, 3) := by decide +kernel
theorem dX6_worst_19 : decode cX6_worst 19 = .ok (.invokestatic 65, 3) := by decide +kernel
theorem dX6_worst_22 : decode cX6_worst 22 = .ok (.ifCond .ne 11, 3) := by decide +kernel
theorem dX6_worst_25 : decode cX6_worst 25 = .ok (.aload_n 0, 1) := by decide +kernel
theorem dX6_worst_26 : decode cX6_worst 26 = .ok (.bipush (-2), 2) := by decide +kernel
theorem dX6_worst_28 : decode cX6_worst 28 = .ok (.invokevirtual 130, 3) := by decide +kernel
theorem dX6_worst_31 : decode cX6_worst 31 = .ok (.i2l, 1) := by decide +kernel
theorem dX6_worst_32 : decode cX6_worst 32 = .ok (.lreturn, 1) := by decide +kernel
theorem dX6_worst_33 : decode cX6_worst 33 = .ok (.iload_n 1, 1) := by decide +kernel
theorem dX6_worst_34 : decode cX6_worst 34 = .ok (.iconst (-1), 1) := by decide +kernel
theorem dX6_worst_35 : decode cX6_worst 35 = .ok (.if_icmp .eq 19, 3) := by decide +kernel
theorem dX6_worst_38 : decode cX6_worst 38 = .ok (.aload_n 0, 1) := by decide +kernel
theorem dX6_worst_39 : decode cX6_worst 39 = .ok (.iload_n 1, 1) := by decide +kernel
theorem dX6_worst_40 : decode cX6_worst 40 = .ok (.invokevirtual 73, 3) := by decide +kernel
theorem dX6_worst_43 : decode cX6_worst 43 = .ok (.ifCond .ne 11, 3) := by decide +kernel
theorem dX6_worst_46 : decode cX6_worst 46 = .ok (.aload_n 0, 1) := by decide +kernel
theorem dX6_worst_47 : decode cX6_worst 47 = .ok (.bipush (-3), 2) := by decide +kernel
theorem dX6_worst_49 : decode cX6_worst 49 = .ok (.invokevirtual 130, 3) := by decide +kernel
theorem dX6_worst_52 : decode cX6_worst 52 = .ok (.i2l, 1) := by decide +kernel
theorem dX6_worst_53 : decode cX6_worst 53 = .ok (.lreturn, 1) := by decide +kernel
theorem dX6_worst_54 : decode cX6_worst 54 = .ok (.aload_n 0, 1) := by decide +kernel
theorem dX6_worst_55 : decode cX6_worst 55 = .ok (.iload_n 1, 1) := by decide +kernel
theorem dX6_worst_56 : decode cX6_worst 56 = .ok (.iconst (-1), 1) := by decide +kernel
theorem dX6_worst_57 : decode cX6_worst 57 = .ok (.if_icmp .ne 10, 3) := by decide +kernel
theorem dX6_worst_60 : decode cX6_worst 60 = .ok (.aload_n 0, 1) := by decide +kernel
theorem dX6_worst_61 : decode cX6_worst 61 = .ok (.invokevirtual 179, 3) := by decide +kernel
theorem dX6_worst_64 : decode cX6_worst 64 = .ok (.goto 13, 3) := by decide +kernel
theorem dX6_worst_67 : decode cX6_worst 67 = .ok (.aload_n 0, 1) := by decide +kernel
theorem dX6_worst_68 : decode cX6_worst 68 = .ok (.invokevirtual 179, 3) := by decide +kernel
theorem dX6_worst_71 : decode cX6_worst 71 = .ok (.iconst 1, 1) := by decide +kernel
theorem dX6_worst_72 : decode cX6_worst 72 = .ok (.iload_n 1, 1) := by decide +kernel
theorem dX6_worst_73 : decode cX6_worst 73 = .ok (.ishl, 1) := by decide +kernel
theorem dX6_worst_74 : decode cX6_worst 74 = .ok (.iconst (-1), 1) := by decide +kernel
theorem dX6_worst_75 : decode cX6_worst 75 = .ok (.ixor, 1) := by decide +kernel
theorem dX6_worst_76 : decode cX6_worst 76 = .ok (.iand, 1) := by decide +kernel
theorem dX6_worst_77 : decode cX6_worst 77 = .ok (.invokevirtual 215, 3) := by decide +kernel
theorem dX6_worst_80 : decode cX6_worst 80 = .ok (.iload_n 2, 1) := by decide +kernel
theorem dX6_worst_81 : decode cX6_worst 81 = .ok (.ifCond .ne 11, 3) := by decide +kernel
theorem dX6_worst_84 : decode cX6_worst 84 = .ok (.aload_n 0, 1) := by decide +kernel
theorem dX6_worst_85 : decode cX6_worst 85 = .ok (.getfield 200, 3) := by decide +kernel
theorem dX6_worst_88 : decode cX6_worst 88 = .ok (.i2l, 1) := by decide +kernel
theorem dX6_worst_89 : decode cX6_worst 89 = .ok (.goto 32, 3) := by decide +kernel
theorem dX6_worst_92 : decode cX6_worst 92 = .ok (.iload_n 2, 1) := by decide +kernel
theorem dX6_worst_93 : decode cX6_worst 93 = .ok (.iconst 1, 1) := by decide +kernel
theorem dX6_worst_94 : decode cX6_worst 94 = .ok (.if_icmp .ne 10, 3) := by decide +kernel
theorem dX6_worst_97 : decode cX6_worst 97 = .ok (.aload_n 0, 1) := by decide +kernel
theorem dX6_worst_98 : decode cX6_worst 98 = .ok (.getfield 203, 3) := by decide +kernel
theorem dX6_worst_101 : decode cX6_worst 101 = .ok (.goto 20, 3) := by decide +kernel
theorem dX6_worst_104 : decode cX6_worst 104 = .ok (.iload_n 2, 1) := by decide +kernel
theorem dX6_worst_105 : decode cX6_worst 105 = .ok (.iconst 2, 1) := by decide +kernel
theorem dX6_worst_106 : decode cX6_worst 106 = .ok (.if_icmp .ne 10, 3) := by decide +kernel
theorem dX6_worst_109 : decode cX6_worst 109 = .ok (.aload_n 0, 1) := by decide +kernel
theorem dX6_worst_110 : decode cX6_worst 110 = .ok (.getfield 207, 3) := by decide +kernel
theorem dX6_worst_113 : decode cX6_worst 113 = .ok (.goto 8, 3) := by decide +kernel
theorem dX6_worst_116 : decode cX6_worst 116 = .ok (.aload_n 0, 1) := by decide +kernel
theorem dX6_worst_117 : decode cX6_worst 117 = .ok (.getfield 210, 3) := by decide +kernel
theorem dX6_worst_120 : decode cX6_worst 120 = .ok (.i2l, 1) := by decide +kernel
theorem dX6_worst_121 : decode cX6_worst 121 = .ok (.lreturn, 1) := by decide +kernel
theorem dX6_ranks_0 : decode cX6_ranks 0 = .ok (.aload_n 0, 1) := by decide +kernel
theorem dX6_ranks_1 : decode cX6_ranks 1 = .ok (.aload_n 0, 1) := by decide +kernel
theorem dX6_ranks_2 : decode cX6_ranks 2 = .ok (.invokevirtual 179, 3) := by decide +kernel
theorem dX6_ranks_5 : decode cX6_ranks 5 = .ok (.iconst 1, 1) := by decide +kernel
theorem dX6_ranks_6 : decode cX6_ranks 6 = .ok (.iload_n 1, 1) := by decide +kernel
theorem dX6_ranks_7 : decode cX6_ranks 7 = .ok (.ishl, 1) := by decide +kernel
theorem dX6_ranks_8 : decode cX6_ranks 8 = .ok (.iconst (-1), 1) := by decide +kernel
theorem dX6_ranks_9 : decode cX6_ranks 9 = .ok (.ixor, 1) := by decide +kernel
theorem dX6_ranks_10 : decode cX6_ranks 10 = .ok (.iand, 1) := by decide +kernel
theorem dX6_ranks_11 : decode cX6_ranks 11 = .ok (.iconst 1, 1) := by decide +kernel
theorem dX6_ranks_12 : decode cX6_ranks 12 = .ok (.iload_n 2, 1) := by decide +kernel
theorem dX6_ranks_13 : decode cX6_ranks 13 = .ok (.ishl, 1) := by decide +kernel
theorem dX6_ranks_14 : decode cX6_ranks 14 = .ok (.iconst (-1), 1) := by decide +kernel
theorem dX6_ranks_15 : decode cX6_ranks 15 = .ok (.ixor, 1) := by decide +kernel
theorem dX6_ranks_16 : decode cX6_ranks 16 = .ok (.iand, 1) := by decide +kernel
theorem dX6_ranks_17 : decode cX6_ranks 17 = .ok (.invokevirtual 215, 3) := by decide +kernel
theorem dX6_ranks_20 : decode cX6_ranks 20 = .ok (.aload_n 0, 1) := by decide +kernel
theorem dX6_ranks_21 : decode cX6_ranks 21 = .ok (.getfield 218, 3) := by decide +kernel
theorem dX6_ranks_24 : decode cX6_ranks 24 = .ok (.istore_n 3, 1) := by decide +kernel
theorem dX6_ranks_25 : decode cX6_ranks 25 = .ok (.iload_n 3, 1) := by decide +kernel
theorem dX6_ranks_26 : decode cX6_ranks 26 = .ok (.ifCond .le 95, 3) := by decide +kernel
theorem dX6_ranks_29 : decode cX6_ranks 29 = .ok (.aload_n 0, 1) := by decide +kernel
theorem dX6_ranks_30 : decode cX6_ranks 30 = .ok (.getfield 203, 3) := by decide +kernel
theorem dX6_ranks_33 : decode cX6_ranks 33 = .ok (.aload_n 0, 1) := by decide +kernel
theorem dX6_ranks_34 : decode cX6_ranks 34 = .ok (.getfield 53, 3) := by decide +kernel
theorem dX6_ranks_37 : decode cX6_ranks 37 = .ok (.iload_n 3, 1) := by decide +kernel
theorem dX6_ranks_38 : decode cX6_ranks 38 = .ok (.iconst 1, 1) := by decide +kernel
theorem dX6_ranks_39 : decode cX6_ranks 39 = .ok (.isub, 1) := by decide +kernel
theorem dX6_ranks_40 : decode cX6_ranks 40 = .ok (.laload, 1) := by decide +kernel
theorem dX6_ranks_41 : decode cX6_ranks 41 = .ok (.lmul, 1) := by decide +kernel
theorem dX6_ranks_42 : decode cX6_ranks 42 = .ok (.aload_n 0, 1) := by decide +kernel
theorem dX6_ranks_43 : decode cX6_ranks 43 = .ok (.getfield 50, 3) := by decide +kernel
theorem dX6_ranks_46 : decode cX6_ranks 46 = .ok (.iload_n 3, 1) := by decide +kernel
theorem dX6_ranks_47 : decode cX6_ranks 47 = .ok (.iconst 1, 1) := by decide +kernel
theorem dX6_ranks_48 : decode cX6_ranks 48 = .ok (.isub, 1) := by decide +kernel
theorem dX6_ranks_49 : decode cX6_ranks 49 = .ok (.laload, 1) := by decide +kernel
theorem dX6_ranks_50 : decode cX6_ranks 50 = .ok (.aload_n 0, 1) := by decide +kernel
theorem dX6_ranks_51 : decode cX6_ranks 51 = .ok (.getfield 207, 3) := by decide +kernel
theorem dX6_ranks_54 : decode cX6_ranks 54 = .ok (.lmul, 1) := by decide +kernel
theorem dX6_ranks_55 : decode cX6_ranks 55 = .ok (.lcmp, 1) := by decide +kernel
theorem dX6_ranks_56 : decode cX6_ranks 56 = .ok (.ifCond .le 65, 3) := by decide +kernel
theorem dX6_ranks_59 : decode cX6_ranks 59 = .ok (.aload_n 0, 1) := by decide +kernel
theorem dX6_ranks_60 : decode cX6_ranks 60 = .ok (.getfield 44, 3) := by decide +kernel
theorem dX6_ranks_63 : decode cX6_ranks 63 = .ok (.iload_n 3, 1) := by decide +kernel
theorem dX6_ranks_64 : decode cX6_ranks 64 = .ok (.aload_n 0, 1) := by decide +kernel
theorem dX6_ranks_65 : decode cX6_ranks 65 = .ok (.getfield 44, 3) := by decide +kernel
theorem dX6_ranks_68 : decode cX6_ranks 68 = .ok (.iload_n 3, 1) := by decide +kernel
theorem dX6_ranks_69 : decode cX6_ranks 69 = .ok (.iconst 1, 1) := by decide +kernel
theorem dX6_ranks_70 : decode cX6_ranks 70 = .ok (.isub, 1) := by decide +kernel
theorem dX6_ranks_71 : decode cX6_ranks 71 = .ok (.iaload, 1) := by decide +kernel
theorem dX6_ranks_72 : decode cX6_ranks 72 = .ok (.iastore, 1) := by decide +kernel
theorem dX6_ranks_73 : decode cX6_ranks 73 = .ok (.aload_n 0, 1) := by decide +kernel
theorem dX6_ranks_74 : decode cX6_ranks 74 = .ok (.getfield 47, 3) := by decide +kernel
theorem dX6_ranks_77 : decode cX6_ranks 77 = .ok (.iload_n 3, 1) := by decide +kernel
theorem dX6_ranks_78 : decode cX6_ranks 78 = .ok (.aload_n 0, 1) := by decide +kernel
theorem dX6_ranks_79 : decode cX6_ranks 79 = .ok (.getfield 47, 3) := by decide +kernel
theorem dX6_ranks_82 : decode cX6_ranks 82 = .ok (.iload_n 3, 1) := by decide +kernel
theorem dX6_ranks_83 : decode cX6_ranks 83 = .ok (.iconst 1, 1) := by decide +kernel
theorem dX6_ranks_84 : decode cX6_ranks 84 = .ok (.isub, 1) := by decide +kernel
theorem dX6_ranks_85 : decode cX6_ranks 85 = .ok (.iaload, 1) := by decide +kernel
theorem dX6_ranks_86 : decode cX6_ranks 86 = .ok (.iastore, 1) := by decide +kernel
theorem dX6_ranks_87 : decode cX6_ranks 87 = .ok (.aload_n 0, 1) := by decide +kernel
theorem dX6_ranks_88 : decode cX6_ranks 88 = .ok (.getfield 50, 3) := by decide +kernel
theorem dX6_ranks_91 : decode cX6_ranks 91 = .ok (.iload_n 3, 1) := by decide +kernel
theorem dX6_ranks_92 : decode cX6_ranks 92 = .ok (.aload_n 0, 1) := by decide +kernel
theorem dX6_ranks_93 : decode cX6_ranks 93 = .ok (.getfield 50, 3) := by decide +kernel
theorem dX6_ranks_96 : decode cX6_ranks 96 = .ok (.iload_n 3, 1) := by decide +kernel
theorem dX6_ranks_97 : decode cX6_ranks 97 = .ok (.iconst 1, 1) := by decide +kernel
theorem dX6_ranks_98 : decode cX6_ranks 98 = .ok (.isub, 1) := by decide +kernel
theorem dX6_ranks_99 : decode cX6_ranks 99 = .ok (.laload, 1) := by decide +kernel
theorem dX6_ranks_100 : decode cX6_ranks 100 = .ok (.lastore, 1) := by decide +kernel
theorem dX6_ranks_101 : decode cX6_ranks 101 = .ok (.aload_n 0, 1) := by decide +kernel
theorem dX6_ranks_102 : decode cX6_ranks 102 = .ok (.getfield 53, 3) := by decide +kernel
theorem dX6_ranks_105 : decode cX6_ranks 105 = .ok (.iload_n 3, 1) := by decide +kernel
theorem dX6_ranks_106 : decode cX6_ranks 106 = .ok (.aload_n 0, 1) := by decide +kernel
theorem dX6_ranks_107 : decode cX6_ranks 107 = .ok (.getfield 53, 3) := by decide +kernel
theorem dX6_ranks_110 : decode cX6_ranks 110 = .ok (.iload_n 3, 1) := by decide +kernel
theorem dX6_ranks_111 : decode cX6_ranks 111 = .ok (.iconst 1, 1) := by decide +kernel
theorem dX6_ranks_112 : decode cX6_ranks 112 = .ok (.isub, 1) := by decide +kernel
theorem dX6_ranks_113 : decode cX6_ranks 113 = .ok (.laload, 1) := by decide +kernel
theorem dX6_ranks_114 : decode cX6_ranks 114 = .ok (.lastore, 1) := by decide +kernel
theorem dX6_ranks_115 : decode cX6_ranks 115 = .ok (.iinc 3 (-1), 3) := by decide +kernel
theorem dX6_ranks_118 : decode cX6_ranks 118 = .ok (.goto (-93), 3) := by decide +kernel
theorem dX6_ranks_121 : decode cX6_ranks 121 = .ok (.aload_n 0, 1) := by decide +kernel
theorem dX6_ranks_122 : decode cX6_ranks 122 = .ok (.getfield 44, 3) := by decide +kernel
theorem dX6_ranks_125 : decode cX6_ranks 125 = .ok (.iload_n 3, 1) := by decide +kernel
theorem dX6_ranks_126 : decode cX6_ranks 126 = .ok (.iload_n 1, 1) := by decide +kernel
theorem dX6_ranks_127 : decode cX6_ranks 127 = .ok (.iastore, 1) := by decide +kernel
theorem dX6_ranks_128 : decode cX6_ranks 128 = .ok (.aload_n 0, 1) := by decide +kernel
theorem dX6_ranks_129 : decode cX6_ranks 129 = .ok (.getfield 47, 3) := by decide +kernel
theorem dX6_ranks_132 : decode cX6_ranks 132 = .ok (.iload_n 3, 1) := by decide +kernel
theorem dX6_ranks_133 : decode cX6_ranks 133 = .ok (.iload_n 2, 1) := by decide +kernel
theorem dX6_ranks_134 : decode cX6_ranks 134 = .ok (.iastore, 1) := by decide +kernel
theorem dX6_ranks_135 : decode cX6_ranks 135 = .ok (.aload_n 0, 1) := by decide +kernel
theorem dX6_ranks_136 : decode cX6_ranks 136 = .ok (.getfield 50, 3) := by decide +kernel
theorem dX6_ranks_139 : decode cX6_ranks 139 = .ok (.iload_n 3, 1) := by decide +kernel
theorem dX6_ranks_140 : decode cX6_ranks 140 = .ok (.aload_n 0, 1) := by decide +kernel
theorem dX6_ranks_141 : decode cX6_ranks 141 = .ok (.getfield 203, 3) := by decide +kernel
theorem dX6_ranks_144 : decode cX6_ranks 144 = .ok (.lastore, 1) := by decide +kernel
theorem dX6_ranks_145 : decode cX6_ranks 145 = .ok (.aload_n 0, 1) := by decide +kernel
theorem dX6_ranks_146 : decode cX6_ranks 146 = .ok (.getfield 53, 3) := by decide +kernel
theorem dX6_ranks_149 : decode cX6_ranks 149 = .ok (.iload_n 3, 1) := by decide +kernel
theorem dX6_ranks_150 : decode cX6_ranks 150 = .ok (.aload_n 0, 1) := by decide +kernel
theorem dX6_ranks_151 : decode cX6_ranks 151 = .ok (.getfield 207, 3) := by decide +kernel
theorem dX6_ranks_154 : decode cX6_ranks 154 = .ok (.lastore, 1) := by decide +kernel
theorem dX6_ranks_155 : decode cX6_ranks 155 = .ok (.aload_n 0, 1) := by decide +kernel
theorem dX6_ranks_156 : decode cX6_ranks 156 = .ok (.dup, 1) := by decide +kernel
theorem dX6_ranks_157 : decode cX6_ranks 157 = .ok (.getfield 218, 3) := by decide +kernel
theorem dX6_ranks_160 : decode cX6_ranks 160 = .ok (.iconst 1, 1) := by decide +kernel
theorem dX6_ranks_161 : decode cX6_ranks 161 = .ok (.iadd, 1) := by decide +kernel
theorem dX6_ranks_162 : decode cX6_ranks 162 = .ok (.putfield 218, 3) := by decide +kernel
theorem dX6_ranks_165 : decode cX6_ranks 165 = .ok (.aload_n 0, 1) := by decide +kernel
theorem dX6_ranks_166 : decode cX6_ranks 166 = .ok (.dup, 1) := by decide +kernel
theorem dX6_ranks_167 : decode cX6_ranks 167 = .ok (.getfield 221, 3) := by decide +kernel
theorem dX6_ranks_170 : decode cX6_ranks 170 = .ok (.aload_n 0, 1) := by decide +kernel
theorem dX6_ranks_171 : decode cX6_ranks 171 = .ok (.getfield 210, 3) := by decide +kernel
theorem dX6_ranks_174 : decode cX6_ranks 174 = .ok (.ifCond .le 7, 3) := by decide +kernel
theorem dX6_ranks_177 : decode cX6_ranks 177 = .ok (.iconst 1, 1) := by decide +kernel
theorem dX6_ranks_178 : decode cX6_ranks 178 = .ok (.goto 4, 3) := by decide +kernel
theorem dX6_ranks_181 : decode cX6_ranks 181 = .ok (.iconst 0, 1) := by decide +kernel
theorem dX6_ranks_182 : decode cX6_ranks 182 = .ok (.iadd, 1) := by decide +kernel
theorem dX6_ranks_183 : decode cX6_ranks 183 = .ok (.putfield 221, 3) := by decide +kernel
theorem dX6_ranks_186 : decode cX6_ranks 186 = .ok (.return_, 1) := by decide +kernel
theorem dX6_ranksAll_0 : decode cX6_ranksAll 0 = .ok (.aload_n 0, 1) := by decide +kernel
theorem dX6_ranksAll_1 : decode cX6_ranksAll 1 = .ok (.iconst 0, 1) := by decide +kernel
theorem dX6_ranksAll_2 : decode cX6_ranksAll 2 = .ok (.putfield 218, 3) := by decide +kernel
theorem dX6_ranksAll_5 : decode cX6_ranksAll 5 = .ok (.aload_n 0, 1) := by decide +kernel
theorem dX6_ranksAll_6 : decode cX6_ranksAll 6 = .ok (.iconst 0, 1) := by decide +kernel
theorem dX6_ranksAll_7 : decode cX6_ranksAll 7 = .ok (.putfield 221, 3) := by decide +kernel
theorem dX6_ranksAll_10 : decode cX6_ranksAll 10 = .ok (.iconst 0, 1) := by decide +kernel
theorem dX6_ranksAll_11 : decode cX6_ranksAll 11 = .ok (.istore_n 2, 1) := by decide +kernel
theorem dX6_ranksAll_12 : decode cX6_ranksAll 12 = .ok (.iload_n 2, 1) := by decide +kernel
theorem dX6_ranksAll_13 : decode cX6_ranksAll 13 = .ok (.aload_n 0, 1) := by decide +kernel
theorem dX6_ranksAll_14 : decode cX6_ranksAll 14 = .ok (.getfield 7, 3) := by decide +kernel
theorem dX6_ranksAll_17 : decode cX6_ranksAll 17 = .ok (.iconst 1, 1) := by decide +kernel
theorem dX6_ranksAll_18 : decode cX6_ranksAll 18 = .ok (.iaload, 1) := by decide +kernel
theorem dX6_ranksAll_19 : decode cX6_ranksAll 19 = .ok (.if_icmp .ge 69, 3) := by decide +kernel
theorem dX6_ranksAll_22 : decode cX6_ranksAll 22 = .ok (.iload_n 1, 1) := by decide +kernel
theorem dX6_ranksAll_23 : decode cX6_ranksAll 23 = .ok (.ifCond .eq 9, 3) := by decide +kernel
theorem dX6_ranksAll_26 : decode cX6_ranksAll 26 = .ok (.iload_n 2, 1) := by decide +kernel
theorem dX6_ranksAll_27 : decode cX6_ranksAll 27 = .ok (.iconst 1, 1) := by decide +kernel
theorem dX6_ranksAll_28 : decode cX6_ranksAll 28 = .ok (.iadd, 1) := by decide +kernel
theorem dX6_ranksAll_29 : decode cX6_ranksAll 29 = .ok (.goto 4, 3) := by decide +kernel
theorem dX6_ranksAll_32 : decode cX6_ranksAll 32 = .ok (.iload_n 2, 1) := by decide +kernel
theorem dX6_ranksAll_33 : decode cX6_ranksAll 33 = .ok (.istore_n 3, 1) := by decide +kernel
theorem dX6_ranksAll_34 : decode cX6_ranksAll 34 = .ok (.iload_n 3, 1) := by decide +kernel
theorem dX6_ranksAll_35 : decode cX6_ranksAll 35 = .ok (.iload_n 1, 1) := by decide +kernel
theorem dX6_ranksAll_36 : decode cX6_ranksAll 36 = .ok (.ifCond .eq 12, 3) := by decide +kernel
theorem dX6_ranksAll_39 : decode cX6_ranksAll 39 = .ok (.aload_n 0, 1) := by decide +kernel
theorem dX6_ranksAll_40 : decode cX6_ranksAll 40 = .ok (.getfield 7, 3) := by decide +kernel
theorem dX6_ranksAll_43 : decode cX6_ranksAll 43 = .ok (.iconst 1, 1) := by decide +kernel
theorem dX6_ranksAll_44 : decode cX6_ranksAll 44 = .ok (.iaload, 1) := by decide +kernel
theorem dX6_ranksAll_45 : decode cX6_ranksAll 45 = .ok (.goto 6, 3) := by decide +kernel
theorem dX6_ranksAll_48 : decode cX6_ranksAll 48 = .ok (.iload_n 2, 1) := by decide +kernel
theorem dX6_ranksAll_49 : decode cX6_ranksAll 49 = .ok (.iconst 1, 1) := by decide +kernel
theorem dX6_ranksAll_50 : decode cX6_ranksAll 50 = .ok (.iadd, 1) := by decide +kernel
theorem dX6_ranksAll_51 : decode cX6_ranksAll 51 = .ok (.if_icmp .ge 31, 3) := by decide +kernel
theorem dX6_ranksAll_54 : decode cX6_ranksAll 54 = .ok (.aload_n 0, 1) := by decide +kernel
theorem dX6_ranksAll_55 : decode cX6_ranksAll 55 = .ok (.iload_n 2, 1) := by decide +kernel
theorem dX6_ranksAll_56 : decode cX6_ranksAll 56 = .ok (.invokevirtual 73, 3) := by decide +kernel
theorem dX6_ranksAll_59 : decode cX6_ranksAll 59 = .ok (.ifCond .eq 17, 3) := by decide +kernel
theorem dX6_ranksAll_62 : decode cX6_ranksAll 62 = .ok (.aload_n 0, 1) := by decide +kernel
theorem dX6_ranksAll_63 : decode cX6_ranksAll 63 = .ok (.iload_n 3, 1) := by decide +kernel
theorem dX6_ranksAll_64 : decode cX6_ranksAll 64 = .ok (.invokevirtual 73, 3) := by decide +kernel
theorem dX6_ranksAll_67 : decode cX6_ranksAll 67 = .ok (.ifCond .eq 9, 3) := by decide +kernel
theorem dX6_ranksAll_70 : decode cX6_ranksAll 70 = .ok (.aload_n 0, 1) := by decide +kernel
theorem dX6_ranksAll_71 : decode cX6_ranksAll 71 = .ok (.iload_n 2, 1) := by decide +kernel
theorem dX6_ranksAll_72 : decode cX6_ranksAll 72 = .ok (.iload_n 3, 1) := by decide +kernel
theorem dX6_ranksAll_73 : decode cX6_ranksAll 73 = .ok (.invokevirtual 224, 3) := by decide +kernel
theorem dX6_ranksAll_76 : decode cX6_ranksAll 76 = .ok (.iinc 3 1, 3) := by decide +kernel
theorem dX6_ranksAll_79 : decode cX6_ranksAll 79 = .ok (.goto (-45), 3) := by decide +kernel
theorem dX6_ranksAll_82 : decode cX6_ranksAll 82 = .ok (.iinc 2 1, 3) := by decide +kernel
theorem dX6_ranksAll_85 : decode cX6_ranksAll 85 = .ok (.goto (-73), 3) := by decide +kernel
theorem dX6_ranksAll_88 : decode cX6_ranksAll 88 = .ok (.return_, 1) := by decide +kernel
theorem dX6_ranked_0 : decode cX6_ranked 0 = .ok (.iload_n 1, 1) := by decide +kernel
theorem dX6_ranked_1 : decode cX6_ranked 1 = .ok (.ifCond .ge 10, 3) := by decide +kernel
theorem dX6_ranked_4 : decode cX6_ranked 4 = .ok (.aload_n 0, 1) := by decide +kernel
theorem dX6_ranked_5 : decode cX6_ranked 5 = .ok (.bipush (-2), 2) := by decide +kernel
theorem dX6_ranked_7 : decode cX6_ranked 7 = .ok (.invokevirtual 130, 3) := by decide +kernel
theorem dX6_ranked_10 : decode cX6_ranked 10 = .ok (.ireturn, 1) := by decide +kernel
theorem dX6_ranked_11 : decode cX6_ranked 11 = .ok (.aload_n 0, 1) := by decide +kernel
theorem dX6_ranked_12 : decode cX6_ranked 12 = .ok (.iconst 0, 1) := by decide +kernel
theorem dX6_ranked_13 : decode cX6_ranked 13 = .ok (.invokevirtual 226, 3) := by decide +kernel
theorem dX6_ranked_16 : decode cX6_ranked 16 = .ok (.iload_n 1, 1) := by decide +kernel
theorem dX6_ranked_17 : decode cX6_ranked 17 = .ok (.aload_n 0, 1) := by decide +kernel
theorem dX6_ranked_18 : decode cX6_ranked 18 = .ok (.getfield 218, 3) := by decide +kernel
theorem dX6_ranked_21 : decode cX6_ranked 21 = .ok (.if_icmp .ge 12, 3) := by decide +kernel
theorem dX6_ranked_24 : decode cX6_ranked 24 = .ok (.aload_n 0, 1) := by decide +kernel
theorem dX6_ranked_25 : decode cX6_ranked 25 = .ok (.getfield 44, 3) := by decide +kernel
theorem dX6_ranked_28 : decode cX6_ranked 28 = .ok (.iload_n 1, 1) := by decide +kernel
theorem dX6_ranked_29 : decode cX6_ranked 29 = .ok (.iaload, 1) := by decide +kernel
theorem dX6_ranked_30 : decode cX6_ranked 30 = .ok (.goto 4, 3) := by decide +kernel
theorem dX6_ranked_33 : decode cX6_ranked 33 = .ok (.iconst (-1), 1) := by decide +kernel
theorem dX6_ranked_34 : decode cX6_ranked 34 = .ok (.ireturn, 1) := by decide +kernel
theorem dX6_pair_0 : decode cX6_pair 0 = .ok (.iload_n 1, 1) := by decide +kernel
theorem dX6_pair_1 : decode cX6_pair 1 = .ok (.ifCond .lt 15, 3) := by decide +kernel
theorem dX6_pair_4 : decode cX6_pair 4 = .ok (.iload_n 2, 1) := by decide +kernel
theorem dX6_pair_5 : decode cX6_pair 5 = .ok (.i2l, 1) := by decide +kernel
theorem dX6_pair_6 : decode cX6_pair 6 = .ok (.lconst 0, 1) := by decide +kernel
theorem dX6_pair_7 : decode cX6_pair 7 = .ok (.ldc2_w 213, 3) := by decide +kernel
theorem dX6_pair_10 : decode cX6_pair 10 = .ok (.invokestatic 65, 3) := by decide +kernel
theorem dX6_pair_13 : decode cX6_pair 13 = .ok (.ifCond .ne 11, 3) := by decide +kernel
theorem dX6_pair_16 : decode cX6_pair 16 = .ok (.aload_n 0, 1) := by decide +kernel
theorem dX6_pair_17 : decode cX6_pair 17 = .ok (.bipush (-2), 2) := by decide +kernel
theorem dX6_pair_19 : decode cX6_pair 19 = .ok (.invokevirtual 130, 3) := by decide +kernel
theorem dX6_pair_22 : decode cX6_pair 22 = .ok (.i2l, 1) := by decide +kernel
theorem dX6_pair_23 : decode cX6_pair 23 = .ok (.lreturn, 1) := by decide +kernel
theorem dX6_pair_24 : decode cX6_pair 24 = .ok (.aload_n 0, 1) := by decide +kernel
theorem dX6_pair_25 : decode cX6_pair 25 = .ok (.iconst 1, 1) := by decide +kernel
theorem dX6_pair_26 : decode cX6_pair 26 = .ok (.invokevirtual 226, 3) := by decide +kernel
theorem dX6_pair_29 : decode cX6_pair 29 = .ok (.iload_n 1, 1) := by decide +kernel
theorem dX6_pair_30 : decode cX6_pair 30 = .ok (.aload_n 0, 1) := by decide +kernel
theorem dX6_pair_31 : decode cX6_pair 31 = .ok (.getfield 218, 3) := by decide +kernel
theorem dX6_pair_34 : decode cX6_pair 34 = .ok (.if_icmp .lt 7, 3) := by decide +kernel
theorem dX6_pair_37 : decode cX6_pair 37 = .ok (.ldc2_w 111, 3) := by decide +kernel
theorem dX6_pair_40 : decode cX6_pair 40 = .ok (.lreturn, 1) := by decide +kernel
theorem dX6_pair_41 : decode cX6_pair 41 = .ok (.iload_n 2, 1) := by decide +kernel
theorem dX6_pair_42 : decode cX6_pair 42 = .ok (.ifCond .ne 13, 3) := by decide +kernel
theorem dX6_pair_45 : decode cX6_pair 45 = .ok (.aload_n 0, 1) := by decide +kernel
theorem dX6_pair_46 : decode cX6_pair 46 = .ok (.getfield 44, 3) := by decide +kernel
theorem dX6_pair_49 : decode cX6_pair 49 = .ok (.iload_n 1, 1) := by decide +kernel
theorem dX6_pair_50 : decode cX6_pair 50 = .ok (.iaload, 1) := by decide +kernel
theorem dX6_pair_51 : decode cX6_pair 51 = .ok (.i2l, 1) := by decide +kernel
theorem dX6_pair_52 : decode cX6_pair 52 = .ok (.goto 38, 3) := by decide +kernel
theorem dX6_pair_55 : decode cX6_pair 55 = .ok (.iload_n 2, 1) := by decide +kernel
theorem dX6_pair_56 : decode cX6_pair 56 = .ok (.iconst 1, 1) := by decide +kernel
theorem dX6_pair_57 : decode cX6_pair 57 = .ok (.if_icmp .ne 13, 3) := by decide +kernel
theorem dX6_pair_60 : decode cX6_pair 60 = .ok (.aload_n 0, 1) := by decide +kernel
theorem dX6_pair_61 : decode cX6_pair 61 = .ok (.getfield 47, 3) := by decide +kernel
theorem dX6_pair_64 : decode cX6_pair 64 = .ok (.iload_n 1, 1) := by decide +kernel
theorem dX6_pair_65 : decode cX6_pair 65 = .ok (.iaload, 1) := by decide +kernel
theorem dX6_pair_66 : decode cX6_pair 66 = .ok (.i2l, 1) := by decide +kernel
theorem dX6_pair_67 : decode cX6_pair 67 = .ok (.goto 23, 3) := by decide +kernel
theorem dX6_pair_70 : decode cX6_pair 70 = .ok (.iload_n 2, 1) := by decide +kernel
theorem dX6_pair_71 : decode cX6_pair 71 = .ok (.iconst 2, 1) := by decide +kernel
theorem dX6_pair_72 : decode cX6_pair 72 = .ok (.if_icmp .ne 12, 3) := by decide +kernel
theorem dX6_pair_75 : decode cX6_pair 75 = .ok (.aload_n 0, 1) := by decide +kernel
theorem dX6_pair_76 : decode cX6_pair 76 = .ok (.getfield 50, 3) := by decide +kernel
theorem dX6_pair_79 : decode cX6_pair 79 = .ok (.iload_n 1, 1) := by decide +kernel
theorem dX6_pair_80 : decode cX6_pair 80 = .ok (.laload, 1) := by decide +kernel
theorem dX6_pair_81 : decode cX6_pair 81 = .ok (.goto 9, 3) := by decide +kernel
theorem dX6_pair_84 : decode cX6_pair 84 = .ok (.aload_n 0, 1) := by decide +kernel
theorem dX6_pair_85 : decode cX6_pair 85 = .ok (.getfield 53, 3) := by decide +kernel
theorem dX6_pair_88 : decode cX6_pair 88 = .ok (.iload_n 1, 1) := by decide +kernel
theorem dX6_pair_89 : decode cX6_pair 89 = .ok (.laload, 1) := by decide +kernel
theorem dX6_pair_90 : decode cX6_pair 90 = .ok (.lreturn, 1) := by decide +kernel
theorem dX6_shift_0 : decode cX6_shift 0 = .ok (.aload_n 0, 1) := by decide +kernel
theorem dX6_shift_1 : decode cX6_shift 1 = .ok (.iload_n 1, 1) := by decide +kernel
theorem dX6_shift_2 : decode cX6_shift 2 = .ok (.invokevirtual 165, 3) := by decide +kernel
theorem dX6_shift_5 : decode cX6_shift 5 = .ok (.ifCond .ne 14, 3) := by decide +kernel
theorem dX6_shift_8 : decode cX6_shift 8 = .ok (.aload_n 0, 1) := by decide +kernel
theorem dX6_shift_9 : decode cX6_shift 9 = .ok (.bipush (-2), 2) := by decide +kernel
theorem dX6_shift_11 : decode cX6_shift 11 = .ok (.invokevirtual 130, 3) := by decide +kernel
theorem dX6_shift_14 : decode cX6_shift 14 = .ok (.pop, 1) := by decide +kernel
theorem dX6_shift_15 : decode cX6_shift 15 = .ok (.sipush (-9999), 3) := by decide +kernel
theorem dX6_shift_18 : decode cX6_shift 18 = .ok (.ireturn, 1) := by decide +kernel
theorem dX6_shift_19 : decode cX6_shift 19 = .ok (.aload_n 0, 1) := by decide +kernel
theorem dX6_shift_20 : decode cX6_shift 20 = .ok (.iload_n 1, 1) := by decide +kernel
theorem dX6_shift_21 : decode cX6_shift 21 = .ok (.invokevirtual 183, 3) := by decide +kernel
theorem dX6_shift_24 : decode cX6_shift 24 = .ok (.ifCond .ne 14, 3) := by decide +kernel
theorem dX6_shift_27 : decode cX6_shift 27 = .ok (.aload_n 0, 1) := by decide +kernel
theorem dX6_shift_28 : decode cX6_shift 28 = .ok (.bipush (-3), 2) := by decide +kernel
theorem dX6_shift_30 : decode cX6_shift 30 = .ok (.invokevirtual 130, 3) := by decide +kernel
theorem dX6_shift_33 : decode cX6_shift 33 = .ok (.pop, 1) := by decide +kernel
theorem dX6_shift_34 : decode cX6_shift 34 = .ok (.sipush (-9998), 3) := by decide +kernel
theorem dX6_shift_37 : decode cX6_shift 37 = .ok (.ireturn, 1) := by decide +kernel
theorem dX6_shift_38 : decode cX6_shift 38 = .ok (.aload_n 0, 1) := by decide +kernel
theorem dX6_shift_39 : decode cX6_shift 39 = .ok (.getfield 29, 3) := by decide +kernel
theorem dX6_shift_42 : decode cX6_shift 42 = .ok (.aload_n 0, 1) := by decide +kernel
theorem dX6_shift_43 : decode cX6_shift 43 = .ok (.iload_n 1, 1) := by decide +kernel
theorem dX6_shift_44 : decode cX6_shift 44 = .ok (.iconst 0, 1) := by decide +kernel
theorem dX6_shift_45 : decode cX6_shift 45 = .ok (.invokevirtual 69, 3) := by decide +kernel
theorem dX6_shift_48 : decode cX6_shift 48 = .ok (.iaload, 1) := by decide +kernel
theorem dX6_shift_49 : decode cX6_shift 49 = .ok (.istore_n 2, 1) := by decide +kernel
theorem dX6_shift_50 : decode cX6_shift 50 = .ok (.aload_n 0, 1) := by decide +kernel
theorem dX6_shift_51 : decode cX6_shift 51 = .ok (.getfield 29, 3) := by decide +kernel
theorem dX6_shift_54 : decode cX6_shift 54 = .ok (.aload_n 0, 1) := by decide +kernel
theorem dX6_shift_55 : decode cX6_shift 55 = .ok (.iload_n 1, 1) := by decide +kernel
theorem dX6_shift_56 : decode cX6_shift 56 = .ok (.iconst 1, 1) := by decide +kernel
theorem dX6_shift_57 : decode cX6_shift 57 = .ok (.invokevirtual 69, 3) := by decide +kernel
theorem dX6_shift_60 : decode cX6_shift 60 = .ok (.iaload, 1) := by decide +kernel
theorem dX6_shift_61 : decode cX6_shift 61 = .ok (.istore_n 3, 1) := by decide +kernel
theorem dX6_shift_62 : decode cX6_shift 62 = .ok (.iconst 0, 1) := by decide +kernel
theorem dX6_shift_63 : decode cX6_shift 63 = .ok (.istore 4, 2) := by decide +kernel
theorem dX6_shift_65 : decode cX6_shift 65 = .ok (.iconst 0, 1) := by decide +kernel
theorem dX6_shift_66 : decode cX6_shift 66 = .ok (.istore 5, 2) := by decide +kernel
theorem dX6_shift_68 : decode cX6_shift 68 = .ok (.iload 5, 2) := by decide +kernel
theorem dX6_shift_70 : decode cX6_shift 70 = .ok (.aload_n 0, 1) := by decide +kernel
theorem dX6_shift_71 : decode cX6_shift 71 = .ok (.getfield 7, 3) := by decide +kernel
theorem dX6_shift_74 : decode cX6_shift 74 = .ok (.iconst 0, 1) := by decide +kernel
theorem dX6_shift_75 : decode cX6_shift 75 = .ok (.iaload, 1) := by decide +kernel
theorem dX6_shift_76 : decode cX6_shift 76 = .ok (.if_icmp .ge 47, 3) := by decide +kernel
theorem dX6_shift_79 : decode cX6_shift 79 = .ok (.iload 4, 2) := by decide +kernel
theorem dX6_shift_81 : decode cX6_shift 81 = .ok (.aload_n 0, 1) := by decide +kernel
theorem dX6_shift_82 : decode cX6_shift 82 = .ok (.getfield 29, 3) := by decide +kernel
theorem dX6_shift_85 : decode cX6_shift 85 = .ok (.iload 5, 2) := by decide +kernel
theorem dX6_shift_87 : decode cX6_shift 87 = .ok (.iaload, 1) := by decide +kernel
theorem dX6_shift_88 : decode cX6_shift 88 = .ok (.iload_n 2, 1) := by decide +kernel
theorem dX6_shift_89 : decode cX6_shift 89 = .ok (.iload_n 3, 1) := by decide +kernel
theorem dX6_shift_90 : decode cX6_shift 90 = .ok (.if_icmp .le 7, 3) := by decide +kernel
theorem dX6_shift_93 : decode cX6_shift 93 = .ok (.iload_n 2, 1) := by decide +kernel
theorem dX6_shift_94 : decode cX6_shift 94 = .ok (.goto 4, 3) := by decide +kernel
theorem dX6_shift_97 : decode cX6_shift 97 = .ok (.iload_n 3, 1) := by decide +kernel
theorem dX6_shift_98 : decode cX6_shift 98 = .ok (.if_icmp .ne 15, 3) := by decide +kernel
theorem dX6_shift_101 : decode cX6_shift 101 = .ok (.aload_n 0, 1) := by decide +kernel
theorem dX6_shift_102 : decode cX6_shift 102 = .ok (.getfield 7, 3) := by decide +kernel
theorem dX6_shift_105 : decode cX6_shift 105 = .ok (.iconst 2, 1) := by decide +kernel
theorem dX6_shift_106 : decode cX6_shift 106 = .ok (.iload 5, 2) := by decide +kernel
theorem dX6_shift_108 : decode cX6_shift 108 = .ok (.iadd, 1) := by decide +kernel
theorem dX6_shift_109 : decode cX6_shift 109 = .ok (.iaload, 1) := by decide +kernel
theorem dX6_shift_110 : decode cX6_shift 110 = .ok (.goto 4, 3) := by decide +kernel
theorem dX6_shift_113 : decode cX6_shift 113 = .ok (.iconst 0, 1) := by decide +kernel
theorem dX6_shift_114 : decode cX6_shift 114 = .ok (.iadd, 1) := by decide +kernel
theorem dX6_shift_115 : decode cX6_shift 115 = .ok (.istore 4, 2) := by decide +kernel
theorem dX6_shift_117 : decode cX6_shift 117 = .ok (.iinc 5 1, 3) := by decide +kernel
theorem dX6_shift_120 : decode cX6_shift 120 = .ok (.goto (-52), 3) := by decide +kernel
theorem dX6_shift_123 : decode cX6_shift 123 = .ok (.iload 4, 2) := by decide +kernel
theorem dX6_shift_125 : decode cX6_shift 125 = .ok (.ireturn, 1) := by decide +kernel
theorem dX6_carries_0 : decode cX6_carries 0 = .ok (.aload_n 0, 1) := by decide +kernel
theorem dX6_carries_1 : decode cX6_carries 1 = .ok (.invokevirtual 186, 3) := by decide +kernel
theorem dX6_carries_4 : decode cX6_carries 4 = .ok (.aload_n 0, 1) := by decide +kernel
theorem dX6_carries_5 : decode cX6_carries 5 = .ok (.iload_n 3, 1) := by decide +kernel
theorem dX6_carries_6 : decode cX6_carries 6 = .ok (.invokevirtual 189, 3) := by decide +kernel
theorem dX6_carries_9 : decode cX6_carries 9 = .ok (.iconst 0, 1) := by decide +kernel
theorem dX6_carries_10 : decode cX6_carries 10 = .ok (.istore 4, 2) := by decide +kernel
theorem dX6_carries_12 : decode cX6_carries 12 = .ok (.iload 4, 2) := by decide +kernel
theorem dX6_carries_14 : decode cX6_carries 14 = .ok (.aload_n 0, 1) := by decide +kernel
theorem dX6_carries_15 : decode cX6_carries 15 = .ok (.getfield 7, 3) := by decide +kernel
theorem dX6_carries_18 : decode cX6_carries 18 = .ok (.iconst 1, 1) := by decide +kernel
theorem dX6_carries_19 : decode cX6_carries 19 = .ok (.iaload, 1) := by decide +kernel
theorem dX6_carries_20 : decode cX6_carries 20 = .ok (.if_icmp .ge 23, 3) := by decide +kernel
theorem dX6_carries_23 : decode cX6_carries 23 = .ok (.aload_n 0, 1) := by decide +kernel
theorem dX6_carries_24 : decode cX6_carries 24 = .ok (.getfield 56, 3) := by decide +kernel
theorem dX6_carries_27 : decode cX6_carries 27 = .ok (.iload 4, 2) := by decide +kernel
theorem dX6_carries_29 : decode cX6_carries 29 = .ok (.aload_n 0, 1) := by decide +kernel
theorem dX6_carries_30 : decode cX6_carries 30 = .ok (.iload 4, 2) := by decide +kernel
theorem dX6_carries_32 : decode cX6_carries 32 = .ok (.iload_n 3, 1) := by decide +kernel
theorem dX6_carries_33 : decode cX6_carries 33 = .ok (.invokevirtual 113, 3) := by decide +kernel
theorem dX6_carries_36 : decode cX6_carries 36 = .ok (.lastore, 1) := by decide +kernel
theorem dX6_carries_37 : decode cX6_carries 37 = .ok (.iinc 4 1, 3) := by decide +kernel
theorem dX6_carries_40 : decode cX6_carries 40 = .ok (.goto (-28), 3) := by decide +kernel
theorem dX6_carries_43 : decode cX6_carries 43 = .ok (.aload_n 0, 1) := by decide +kernel
theorem dX6_carries_44 : decode cX6_carries 44 = .ok (.iload_n 1, 1) := by decide +kernel
theorem dX6_carries_45 : decode cX6_carries 45 = .ok (.iload_n 2, 1) := by decide +kernel
theorem dX6_carries_46 : decode cX6_carries 46 = .ok (.invokevirtual 196, 3) := by decide +kernel
theorem dX6_carries_49 : decode cX6_carries 49 = .ok (.aload_n 0, 1) := by decide +kernel
theorem dX6_carries_50 : decode cX6_carries 50 = .ok (.iload_n 3, 1) := by decide +kernel
theorem dX6_carries_51 : decode cX6_carries 51 = .ok (.invokevirtual 189, 3) := by decide +kernel
theorem dX6_carries_54 : decode cX6_carries 54 = .ok (.ldc2_w 230, 3) := by decide +kernel
theorem dX6_carries_57 : decode cX6_carries 57 = .ok (.lstore 4, 2) := by decide +kernel
theorem dX6_carries_59 : decode cX6_carries 59 = .ok (.iconst 0, 1) := by decide +kernel
theorem dX6_carries_60 : decode cX6_carries 60 = .ok (.istore 6, 2) := by decide +kernel
theorem dX6_carries_62 : decode cX6_carries 62 = .ok (.iload 6, 2) := by decide +kernel
theorem dX6_carries_64 : decode cX6_carries 64 = .ok (.aload_n 0, 1) := by decide +kernel
theorem dX6_carries_65 : decode cX6_carries 65 = .ok (.getfield 7, 3) := by decide +kernel
theorem dX6_carries_68 : decode cX6_carries 68 = .ok (.iconst 1, 1) := by decide +kernel
theorem dX6_carries_69 : decode cX6_carries 69 = .ok (.iaload, 1) := by decide +kernel
theorem dX6_carries_70 : decode cX6_carries 70 = .ok (.if_icmp .ge 157, 3) := by decide +kernel
theorem dX6_carries_73 : decode cX6_carries 73 = .ok (.aload_n 0, 1) := by decide +kernel
theorem dX6_carries_74 : decode cX6_carries 74 = .ok (.iload 6, 2) := by decide +kernel
theorem dX6_carries_76 : decode cX6_carries 76 = .ok (.iconst 3, 1) := by decide +kernel
theorem dX6_carries_77 : decode cX6_carries 77 = .ok (.invokevirtual 69, 3) := by decide +kernel
theorem dX6_carries_80 : decode cX6_carries 80 = .ok (.i2l, 1) := by decide +kernel
theorem dX6_carries_81 : decode cX6_carries 81 = .ok (.aload_n 0, 1) := by decide +kernel
theorem dX6_carries_82 : decode cX6_carries 82 = .ok (.getfield 35, 3) := by decide +kernel
theorem dX6_carries_85 : decode cX6_carries 85 = .ok (.aload_n 0, 1) := by decide +kernel
theorem dX6_carries_86 : decode cX6_carries 86 = .ok (.iload 6, 2) := by decide +kernel
theorem dX6_carries_88 : decode cX6_carries 88 = .ok (.iconst 0, 1) := by decide +kernel
theorem dX6_carries_89 : decode cX6_carries 89 = .ok (.invokevirtual 69, 3) := by decide +kernel
theorem dX6_carries_92 : decode cX6_carries 92 = .ok (.laload, 1) := by decide +kernel
theorem dX6_carries_93 : decode cX6_carries 93 = .ok (.lmul, 1) := by decide +kernel
theorem dX6_carries_94 : decode cX6_carries 94 = .ok (.lstore 7, 2) := by decide +kernel
theorem dX6_carries_96 : decode cX6_carries 96 = .ok (.aload_n 0, 1) := by decide +kernel
theorem dX6_carries_97 : decode cX6_carries 97 = .ok (.iload 6, 2) := by decide +kernel
theorem dX6_carries_99 : decode cX6_carries 99 = .ok (.iload_n 3, 1) := by decide +kernel
theorem dX6_carries_100 : decode cX6_carries 100 = .ok (.invokevirtual 113, 3) := by decide +kernel
theorem dX6_carries_103 : decode cX6_carries 103 = .ok (.lstore 9, 2) := by decide +kernel
theorem dX6_carries_105 : decode cX6_carries 105 = .ok (.iload_n 3, 1) := by decide +kernel
theorem dX6_carries_106 : decode cX6_carries 106 = .ok (.iload 6, 2) := by decide +kernel
theorem dX6_carries_108 : decode cX6_carries 108 = .ok (.invokestatic 81, 3) := by decide +kernel
theorem dX6_carries_111 : decode cX6_carries 111 = .ok (.ifCond .eq 32, 3) := by decide +kernel
theorem dX6_carries_114 : decode cX6_carries 114 = .ok (.aload_n 0, 1) := by decide +kernel
theorem dX6_carries_115 : decode cX6_carries 115 = .ok (.getfield 56, 3) := by decide +kernel
theorem dX6_carries_118 : decode cX6_carries 118 = .ok (.iload 6, 2) := by decide +kernel
theorem dX6_carries_120 : decode cX6_carries 120 = .ok (.laload, 1) := by decide +kernel
theorem dX6_carries_121 : decode cX6_carries 121 = .ok (.lload 7, 2) := by decide +kernel
theorem dX6_carries_123 : decode cX6_carries 123 = .ok (.lcmp, 1) := by decide +kernel
theorem dX6_carries_124 : decode cX6_carries 124 = .ok (.ifCond .gt 17, 3) := by decide +kernel
theorem dX6_carries_127 : decode cX6_carries 127 = .ok (.aload_n 0, 1) := by decide +kernel
theorem dX6_carries_128 : decode cX6_carries 128 = .ok (.getfield 56, 3) := by decide +kernel
theorem dX6_carries_131 : decode cX6_carries 131 = .ok (.iload 6, 2) := by decide +kernel
theorem dX6_carries_133 : decode cX6_carries 133 = .ok (.laload, 1) := by decide +kernel
theorem dX6_carries_134 : decode cX6_carries 134 = .ok (.lload 7, 2) := by decide +kernel
theorem dX6_carries_136 : decode cX6_carries 136 = .ok (.lneg, 1) := by decide +kernel
theorem dX6_carries_137 : decode cX6_carries 137 = .ok (.lcmp, 1) := by decide +kernel
theorem dX6_carries_138 : decode cX6_carries 138 = .ok (.ifCond .ge 5, 3) := by decide +kernel
theorem dX6_carries_141 : decode cX6_carries 141 = .ok (.iconst (-1), 1) := by decide +kernel
theorem dX6_carries_142 : decode cX6_carries 142 = .ok (.ireturn, 1) := by decide +kernel
theorem dX6_carries_143 : decode cX6_carries 143 = .ok (.lload 9, 2) := by decide +kernel
theorem dX6_carries_145 : decode cX6_carries 145 = .ok (.lconst 0, 1) := by decide +kernel
theorem dX6_carries_146 : decode cX6_carries 146 = .ok (.lcmp, 1) := by decide +kernel
theorem dX6_carries_147 : decode cX6_carries 147 = .ok (.ifCond .le 19, 3) := by decide +kernel
theorem dX6_carries_150 : decode cX6_carries 150 = .ok (.lload 7, 2) := by decide +kernel
theorem dX6_carries_152 : decode cX6_carries 152 = .ok (.aload_n 0, 1) := by decide +kernel
theorem dX6_carries_153 : decode cX6_carries 153 = .ok (.getfield 56, 3) := by decide +kernel
theorem dX6_carries_156 : decode cX6_carries 156 = .ok (.iload 6, 2) := by decide +kernel
theorem dX6_carries_158 : decode cX6_carries 158 = .ok (.laload, 1) := by decide +kernel
theorem dX6_carries_159 : decode cX6_carries 159 = .ok (.lsub, 1) := by decide +kernel
theorem dX6_carries_160 : decode cX6_carries 160 = .ok (.lload 9, 2) := by decide +kernel
theorem dX6_carries_162 : decode cX6_carries 162 = .ok (.ldiv, 1) := by decide +kernel
theorem dX6_carries_163 : decode cX6_carries 163 = .ok (.goto 30, 3) := by decide +kernel
theorem dX6_carries_166 : decode cX6_carries 166 = .ok (.lload 9, 2) := by decide +kernel
theorem dX6_carries_168 : decode cX6_carries 168 = .ok (.lconst 0, 1) := by decide +kernel
theorem dX6_carries_169 : decode cX6_carries 169 = .ok (.lcmp, 1) := by decide +kernel
theorem dX6_carries_170 : decode cX6_carries 170 = .ok (.ifCond .ge 20, 3) := by decide +kernel
theorem dX6_carries_173 : decode cX6_carries 173 = .ok (.lload 7, 2) := by decide +kernel
theorem dX6_carries_175 : decode cX6_carries 175 = .ok (.aload_n 0, 1) := by decide +kernel
theorem dX6_carries_176 : decode cX6_carries 176 = .ok (.getfield 56, 3) := by decide +kernel
theorem dX6_carries_179 : decode cX6_carries 179 = .ok (.iload 6, 2) := by decide +kernel
theorem dX6_carries_181 : decode cX6_carries 181 = .ok (.laload, 1) := by decide +kernel
theorem dX6_carries_182 : decode cX6_carries 182 = .ok (.ladd, 1) := by decide +kernel
theorem dX6_carries_183 : decode cX6_carries 183 = .ok (.lload 9, 2) := by decide +kernel
theorem dX6_carries_185 : decode cX6_carries 185 = .ok (.lneg, 1) := by decide +kernel
theorem dX6_carries_186 : decode cX6_carries 186 = .ok (.ldiv, 1) := by decide +kernel
theorem dX6_carries_187 : decode cX6_carries 187 = .ok (.goto 6, 3) := by decide +kernel
theorem dX6_carries_190 : decode cX6_carries 190 = .ok (.ldc2_w 230, 3) := by decide +kernel
theorem dX6_carries_193 : decode cX6_carries 193 = .ok (.lstore 11, 2) := by decide +kernel
theorem dX6_carries_195 : decode cX6_carries 195 = .ok (.iload_n 3, 1) := by decide +kernel
theorem dX6_carries_196 : decode cX6_carries 196 = .ok (.iload 6, 2) := by decide +kernel
theorem dX6_carries_198 : decode cX6_carries 198 = .ok (.invokestatic 81, 3) := by decide +kernel
theorem dX6_carries_201 : decode cX6_carries 201 = .ok (.ifCond .eq 16, 3) := by decide +kernel
theorem dX6_carries_204 : decode cX6_carries 204 = .ok (.lload 11, 2) := by decide +kernel
theorem dX6_carries_206 : decode cX6_carries 206 = .ok (.lload 4, 2) := by decide +kernel
theorem dX6_carries_208 : decode cX6_carries 208 = .ok (.lcmp, 1) := by decide +kernel
theorem dX6_carries_209 : decode cX6_carries 209 = .ok (.ifCond .ge 8, 3) := by decide +kernel
theorem dX6_carries_212 : decode cX6_carries 212 = .ok (.lload 11, 2) := by decide +kernel
theorem dX6_carries_214 : decode cX6_carries 214 = .ok (.goto 5, 3) := by decide +kernel
theorem dX6_carries_217 : decode cX6_carries 217 = .ok (.lload 4, 2) := by decide +kernel
theorem dX6_carries_219 : decode cX6_carries 219 = .ok (.lstore 4, 2) := by decide +kernel
theorem dX6_carries_221 : decode cX6_carries 221 = .ok (.iinc 6 1, 3) := by decide +kernel
theorem dX6_carries_224 : decode cX6_carries 224 = .ok (.goto (-162), 3) := by decide +kernel
theorem dX6_carries_227 : decode cX6_carries 227 = .ok (.lload 4, 2) := by decide +kernel
theorem dX6_carries_229 : decode cX6_carries 229 = .ok (.l2i, 1) := by decide +kernel
theorem dX6_carries_230 : decode cX6_carries 230 = .ok (.ireturn, 1) := by decide +kernel
theorem dX6_transfer_0 : decode cX6_transfer 0 = .ok (.aload_n 0, 1) := by decide +kernel
theorem dX6_transfer_1 : decode cX6_transfer 1 = .ok (.iload_n 1, 1) := by decide +kernel
theorem dX6_transfer_2 : decode cX6_transfer 2 = .ok (.invokevirtual 143, 3) := by decide +kernel
theorem dX6_transfer_5 : decode cX6_transfer 5 = .ok (.ifCond .eq 26, 3) := by decide +kernel
theorem dX6_transfer_8 : decode cX6_transfer 8 = .ok (.aload_n 0, 1) := by decide +kernel
theorem dX6_transfer_9 : decode cX6_transfer 9 = .ok (.iload_n 2, 1) := by decide +kernel
theorem dX6_transfer_10 : decode cX6_transfer 10 = .ok (.invokevirtual 143, 3) := by decide +kernel
theorem dX6_transfer_13 : decode cX6_transfer 13 = .ok (.ifCond .eq 18, 3) := by decide +kernel
theorem dX6_transfer_16 : decode cX6_transfer 16 = .ok (.iload_n 1, 1) := by decide +kernel
theorem dX6_transfer_17 : decode cX6_transfer 17 = .ok (.iload_n 2, 1) := by decide +kernel
theorem dX6_transfer_18 : decode cX6_transfer 18 = .ok (.if_icmp .eq 13, 3) := by decide +kernel
theorem dX6_transfer_21 : decode cX6_transfer 21 = .ok (.iload_n 3, 1) := by decide +kernel
theorem dX6_transfer_22 : decode cX6_transfer 22 = .ok (.i2l, 1) := by decide +kernel
theorem dX6_transfer_23 : decode cX6_transfer 23 = .ok (.lconst 0, 1) := by decide +kernel
theorem dX6_transfer_24 : decode cX6_transfer 24 = .ok (.lconst 1, 1) := by decide +kernel
theorem dX6_transfer_25 : decode cX6_transfer 25 = .ok (.invokestatic 65, 3) := by decide +kernel
theorem dX6_transfer_28 : decode cX6_transfer 28 = .ok (.ifCond .ne 10, 3) := by decide +kernel
theorem dX6_transfer_31 : decode cX6_transfer 31 = .ok (.aload_n 0, 1) := by decide +kernel
theorem dX6_transfer_32 : decode cX6_transfer 32 = .ok (.bipush (-2), 2) := by decide +kernel
theorem dX6_transfer_34 : decode cX6_transfer 34 = .ok (.invokevirtual 130, 3) := by decide +kernel
theorem dX6_transfer_37 : decode cX6_transfer 37 = .ok (.ireturn, 1) := by decide +kernel
theorem dX6_transfer_38 : decode cX6_transfer 38 = .ok (.aload_n 0, 1) := by decide +kernel
theorem dX6_transfer_39 : decode cX6_transfer 39 = .ok (.aload_n 0, 1) := by decide +kernel
theorem dX6_transfer_40 : decode cX6_transfer 40 = .ok (.invokevirtual 179, 3) := by decide +kernel
theorem dX6_transfer_43 : decode cX6_transfer 43 = .ok (.invokevirtual 104, 3) := by decide +kernel
theorem dX6_transfer_46 : decode cX6_transfer 46 = .ok (.aload_n 0, 1) := by decide +kernel
theorem dX6_transfer_47 : decode cX6_transfer 47 = .ok (.getfield 29, 3) := by decide +kernel
theorem dX6_transfer_50 : decode cX6_transfer 50 = .ok (.iload_n 1, 1) := by decide +kernel
theorem dX6_transfer_51 : decode cX6_transfer 51 = .ok (.iaload, 1) := by decide +kernel
theorem dX6_transfer_52 : decode cX6_transfer 52 = .ok (.aload_n 0, 1) := by decide +kernel
theorem dX6_transfer_53 : decode cX6_transfer 53 = .ok (.getfield 29, 3) := by decide +kernel
theorem dX6_transfer_56 : decode cX6_transfer 56 = .ok (.iload_n 2, 1) := by decide +kernel
theorem dX6_transfer_57 : decode cX6_transfer 57 = .ok (.iaload, 1) := by decide +kernel
theorem dX6_transfer_58 : decode cX6_transfer 58 = .ok (.if_icmp .eq 10, 3) := by decide +kernel
theorem dX6_transfer_61 : decode cX6_transfer 61 = .ok (.aload_n 0, 1) := by decide +kernel
theorem dX6_transfer_62 : decode cX6_transfer 62 = .ok (.bipush (-3), 2) := by decide +kernel
theorem dX6_transfer_64 : decode cX6_transfer 64 = .ok (.invokevirtual 130, 3) := by decide +kernel
theorem dX6_transfer_67 : decode cX6_transfer 67 = .ok (.ireturn, 1) := by decide +kernel
theorem dX6_transfer_68 : decode cX6_transfer 68 = .ok (.aload_n 0, 1) := by decide +kernel
theorem dX6_transfer_69 : decode cX6_transfer 69 = .ok (.iload_n 1, 1) := by decide +kernel
theorem dX6_transfer_70 : decode cX6_transfer 70 = .ok (.iload_n 2, 1) := by decide +kernel
theorem dX6_transfer_71 : decode cX6_transfer 71 = .ok (.aload_n 0, 1) := by decide +kernel
theorem dX6_transfer_72 : decode cX6_transfer 72 = .ok (.invokevirtual 179, 3) := by decide +kernel
theorem dX6_transfer_75 : decode cX6_transfer 75 = .ok (.invokevirtual 232, 3) := by decide +kernel
theorem dX6_transfer_78 : decode cX6_transfer 78 = .ok (.istore 4, 2) := by decide +kernel
theorem dX6_transfer_80 : decode cX6_transfer 80 = .ok (.iconst 0, 1) := by decide +kernel
theorem dX6_transfer_81 : decode cX6_transfer 81 = .ok (.istore 5, 2) := by decide +kernel
theorem dX6_transfer_83 : decode cX6_transfer 83 = .ok (.iload 5, 2) := by decide +kernel
theorem dX6_transfer_85 : decode cX6_transfer 85 = .ok (.aload_n 0, 1) := by decide +kernel
theorem dX6_transfer_86 : decode cX6_transfer 86 = .ok (.getfield 7, 3) := by decide +kernel
theorem dX6_transfer_89 : decode cX6_transfer 89 = .ok (.iconst 1, 1) := by decide +kernel
theorem dX6_transfer_90 : decode cX6_transfer 90 = .ok (.iaload, 1) := by decide +kernel
theorem dX6_transfer_91 : decode cX6_transfer 91 = .ok (.if_icmp .ge 73, 3) := by decide +kernel
theorem dX6_transfer_94 : decode cX6_transfer 94 = .ok (.iload_n 3, 1) := by decide +kernel
theorem dX6_transfer_95 : decode cX6_transfer 95 = .ok (.iconst 1, 1) := by decide +kernel
theorem dX6_transfer_96 : decode cX6_transfer 96 = .ok (.if_icmp .ne 68, 3) := by decide +kernel
theorem dX6_transfer_99 : decode cX6_transfer 99 = .ok (.iload 4, 2) := by decide +kernel
theorem dX6_transfer_101 : decode cX6_transfer 101 = .ok (.iconst (-1), 1) := by decide +kernel
theorem dX6_transfer_102 : decode cX6_transfer 102 = .ok (.if_icmp .eq 62, 3) := by decide +kernel
theorem dX6_transfer_105 : decode cX6_transfer 105 = .ok (.aload_n 0, 1) := by decide +kernel
theorem dX6_transfer_106 : decode cX6_transfer 106 = .ok (.iload 5, 2) := by decide +kernel
theorem dX6_transfer_108 : decode cX6_transfer 108 = .ok (.invokevirtual 73, 3) := by decide +kernel
theorem dX6_transfer_111 : decode cX6_transfer 111 = .ok (.ifCond .eq 47, 3) := by decide +kernel
theorem dX6_transfer_114 : decode cX6_transfer 114 = .ok (.aload_n 0, 1) := by decide +kernel
theorem dX6_transfer_115 : decode cX6_transfer 115 = .ok (.iload 5, 2) := by decide +kernel
theorem dX6_transfer_117 : decode cX6_transfer 117 = .ok (.invokevirtual 183, 3) := by decide +kernel
theorem dX6_transfer_120 : decode cX6_transfer 120 = .ok (.ifCond .ne 38, 3) := by decide +kernel
theorem dX6_transfer_123 : decode cX6_transfer 123 = .ok (.aload_n 0, 1) := by decide +kernel
theorem dX6_transfer_124 : decode cX6_transfer 124 = .ok (.iload_n 1, 1) := by decide +kernel
theorem dX6_transfer_125 : decode cX6_transfer 125 = .ok (.iload_n 2, 1) := by decide +kernel
theorem dX6_transfer_126 : decode cX6_transfer 126 = .ok (.aload_n 0, 1) := by decide +kernel
theorem dX6_transfer_127 : decode cX6_transfer 127 = .ok (.invokevirtual 179, 3) := by decide +kernel
theorem dX6_transfer_130 : decode cX6_transfer 130 = .ok (.iconst 1, 1) := by decide +kernel
theorem dX6_transfer_131 : decode cX6_transfer 131 = .ok (.iload 5, 2) := by decide +kernel
theorem dX6_transfer_133 : decode cX6_transfer 133 = .ok (.ishl, 1) := by decide +kernel
theorem dX6_transfer_134 : decode cX6_transfer 134 = .ok (.iconst (-1), 1) := by decide +kernel
theorem dX6_transfer_135 : decode cX6_transfer 135 = .ok (.ixor, 1) := by decide +kernel
theorem dX6_transfer_136 : decode cX6_transfer 136 = .ok (.iand, 1) := by decide +kernel
theorem dX6_transfer_137 : decode cX6_transfer 137 = .ok (.invokevirtual 232, 3) := by decide +kernel
theorem dX6_transfer_140 : decode cX6_transfer 140 = .ok (.istore 6, 2) := by decide +kernel
theorem dX6_transfer_142 : decode cX6_transfer 142 = .ok (.iload 6, 2) := by decide +kernel
theorem dX6_transfer_144 : decode cX6_transfer 144 = .ok (.iload 4, 2) := by decide +kernel
theorem dX6_transfer_146 : decode cX6_transfer 146 = .ok (.if_icmp .ge 8, 3) := by decide +kernel
theorem dX6_transfer_149 : decode cX6_transfer 149 = .ok (.iload 6, 2) := by decide +kernel
theorem dX6_transfer_151 : decode cX6_transfer 151 = .ok (.goto 5, 3) := by decide +kernel
theorem dX6_transfer_154 : decode cX6_transfer 154 = .ok (.iload 4, 2) := by decide +kernel
theorem dX6_transfer_156 : decode cX6_transfer 156 = .ok (.istore 4, 2) := by decide +kernel
theorem dX6_transfer_158 : decode cX6_transfer 158 = .ok (.iinc 5 1, 3) := by decide +kernel
theorem dX6_transfer_161 : decode cX6_transfer 161 = .ok (.goto (-78), 3) := by decide +kernel
theorem dX6_transfer_164 : decode cX6_transfer 164 = .ok (.iload 4, 2) := by decide +kernel
theorem dX6_transfer_166 : decode cX6_transfer 166 = .ok (.ireturn, 1) := by decide +kernel
theorem dX6_countOf_0 : decode cX6_countOf 0 = .ok (.iconst 0, 1) := by decide +kernel
theorem dX6_countOf_1 : decode cX6_countOf 1 = .ok (.istore_n 2, 1) := by decide +kernel
theorem dX6_countOf_2 : decode cX6_countOf 2 = .ok (.iload_n 1, 1) := by decide +kernel
theorem dX6_countOf_3 : decode cX6_countOf 3 = .ok (.tableswitch 149 0 4 #[33, 79, 86, 86, 136], 33) := by decide +kernel
theorem dX6_countOf_36 : decode cX6_countOf 36 = .ok (.aload_n 0, 1) := by decide +kernel
theorem dX6_countOf_37 : decode cX6_countOf 37 = .ok (.aload_n 0, 1) := by decide +kernel
theorem dX6_countOf_38 : decode cX6_countOf 38 = .ok (.invokevirtual 179, 3) := by decide +kernel
theorem dX6_countOf_41 : decode cX6_countOf 41 = .ok (.invokevirtual 104, 3) := by decide +kernel
theorem dX6_countOf_44 : decode cX6_countOf 44 = .ok (.iconst 0, 1) := by decide +kernel
theorem dX6_countOf_45 : decode cX6_countOf 45 = .ok (.istore_n 3, 1) := by decide +kernel
theorem dX6_countOf_46 : decode cX6_countOf 46 = .ok (.iload_n 3, 1) := by decide +kernel
theorem dX6_countOf_47 : decode cX6_countOf 47 = .ok (.aload_n 0, 1) := by decide +kernel
theorem dX6_countOf_48 : decode cX6_countOf 48 = .ok (.getfield 7, 3) := by decide +kernel
theorem dX6_countOf_51 : decode cX6_countOf 51 = .ok (.iconst 0, 1) := by decide +kernel
theorem dX6_countOf_52 : decode cX6_countOf 52 = .ok (.iaload, 1) := by decide +kernel
theorem dX6_countOf_53 : decode cX6_countOf 53 = .ok (.if_icmp .ge 27, 3) := by decide +kernel
theorem dX6_countOf_56 : decode cX6_countOf 56 = .ok (.iload_n 2, 1) := by decide +kernel
theorem dX6_countOf_57 : decode cX6_countOf 57 = .ok (.aload_n 0, 1) := by decide +kernel
theorem dX6_countOf_58 : decode cX6_countOf 58 = .ok (.getfield 29, 3) := by decide +kernel
theorem dX6_countOf_61 : decode cX6_countOf 61 = .ok (.iload_n 3, 1) := by decide +kernel
theorem dX6_countOf_62 : decode cX6_countOf 62 = .ok (.iaload, 1) := by decide +kernel
theorem dX6_countOf_63 : decode cX6_countOf 63 = .ok (.iload_n 3, 1) := by decide +kernel
theorem dX6_countOf_64 : decode cX6_countOf 64 = .ok (.if_icmp .ne 7, 3) := by decide +kernel
theorem dX6_countOf_67 : decode cX6_countOf 67 = .ok (.iconst 1, 1) := by decide +kernel
theorem dX6_countOf_68 : decode cX6_countOf 68 = .ok (.goto 4, 3) := by decide +kernel
theorem dX6_countOf_71 : decode cX6_countOf 71 = .ok (.iconst 0, 1) := by decide +kernel
theorem dX6_countOf_72 : decode cX6_countOf 72 = .ok (.iadd, 1) := by decide +kernel
theorem dX6_countOf_73 : decode cX6_countOf 73 = .ok (.istore_n 2, 1) := by decide +kernel
theorem dX6_countOf_74 : decode cX6_countOf 74 = .ok (.iinc 3 1, 3) := by decide +kernel
theorem dX6_countOf_77 : decode cX6_countOf 77 = .ok (.goto (-31), 3) := by decide +kernel
theorem dX6_countOf_80 : decode cX6_countOf 80 = .ok (.iload_n 2, 1) := by decide +kernel
theorem dX6_countOf_81 : decode cX6_countOf 81 = .ok (.ireturn, 1) := by decide +kernel
theorem dX6_countOf_82 : decode cX6_countOf 82 = .ok (.aload_n 0, 1) := by decide +kernel
theorem dX6_countOf_83 : decode cX6_countOf 83 = .ok (.getfield 7, 3) := by decide +kernel
theorem dX6_countOf_86 : decode cX6_countOf 86 = .ok (.iconst 1, 1) := by decide +kernel
theorem dX6_countOf_87 : decode cX6_countOf 87 = .ok (.iaload, 1) := by decide +kernel
theorem dX6_countOf_88 : decode cX6_countOf 88 = .ok (.ireturn, 1) := by decide +kernel
theorem dX6_countOf_89 : decode cX6_countOf 89 = .ok (.iconst 0, 1) := by decide +kernel
theorem dX6_countOf_90 : decode cX6_countOf 90 = .ok (.istore_n 3, 1) := by decide +kernel
theorem dX6_countOf_91 : decode cX6_countOf 91 = .ok (.iload_n 3, 1) := by decide +kernel
theorem dX6_countOf_92 : decode cX6_countOf 92 = .ok (.aload_n 0, 1) := by decide +kernel
theorem dX6_countOf_93 : decode cX6_countOf 93 = .ok (.getfield 7, 3) := by decide +kernel
theorem dX6_countOf_96 : decode cX6_countOf 96 = .ok (.iconst 1, 1) := by decide +kernel
theorem dX6_countOf_97 : decode cX6_countOf 97 = .ok (.iaload, 1) := by decide +kernel
theorem dX6_countOf_98 : decode cX6_countOf 98 = .ok (.if_icmp .ge 39, 3) := by decide +kernel
theorem dX6_countOf_101 : decode cX6_countOf 101 = .ok (.iload_n 2, 1) := by decide +kernel
theorem dX6_countOf_102 : decode cX6_countOf 102 = .ok (.iload_n 1, 1) := by decide +kernel
theorem dX6_countOf_103 : decode cX6_countOf 103 = .ok (.iconst 2, 1) := by decide +kernel
theorem dX6_countOf_104 : decode cX6_countOf 104 = .ok (.if_icmp .ne 12, 3) := by decide +kernel
theorem dX6_countOf_107 : decode cX6_countOf 107 = .ok (.aload_n 0, 1) := by decide +kernel
theorem dX6_countOf_108 : decode cX6_countOf 108 = .ok (.iload_n 3, 1) := by decide +kernel
theorem dX6_countOf_109 : decode cX6_countOf 109 = .ok (.iconst 4, 1) := by decide +kernel
theorem dX6_countOf_110 : decode cX6_countOf 110 = .ok (.invokevirtual 69, 3) := by decide +kernel
theorem dX6_countOf_113 : decode cX6_countOf 113 = .ok (.goto 16, 3) := by decide +kernel
theorem dX6_countOf_116 : decode cX6_countOf 116 = .ok (.aload_n 0, 1) := by decide +kernel
theorem dX6_countOf_117 : decode cX6_countOf 117 = .ok (.iload_n 3, 1) := by decide +kernel
theorem dX6_countOf_118 : decode cX6_countOf 118 = .ok (.invokevirtual 183, 3) := by decide +kernel
theorem dX6_countOf_121 : decode cX6_countOf 121 = .ok (.ifCond .eq 7, 3) := by decide +kernel
theorem dX6_countOf_124 : decode cX6_countOf 124 = .ok (.iconst 1, 1) := by decide +kernel
theorem dX6_countOf_125 : decode cX6_countOf 125 = .ok (.goto 4, 3) := by decide +kernel
theorem dX6_countOf_128 : decode cX6_countOf 128 = .ok (.iconst 0, 1) := by decide +kernel
theorem dX6_countOf_129 : decode cX6_countOf 129 = .ok (.iadd, 1) := by decide +kernel
theorem dX6_countOf_130 : decode cX6_countOf 130 = .ok (.istore_n 2, 1) := by decide +kernel
theorem dX6_countOf_131 : decode cX6_countOf 131 = .ok (.iinc 3 1, 3) := by decide +kernel
theorem dX6_countOf_134 : decode cX6_countOf 134 = .ok (.goto (-43), 3) := by decide +kernel
theorem dX6_countOf_137 : decode cX6_countOf 137 = .ok (.iload_n 2, 1) := by decide +kernel
theorem dX6_countOf_138 : decode cX6_countOf 138 = .ok (.ireturn, 1) := by decide +kernel
theorem dX6_countOf_139 : decode cX6_countOf 139 = .ok (.aload_n 0, 1) := by decide +kernel
theorem dX6_countOf_140 : decode cX6_countOf 140 = .ok (.aload_n 0, 1) := by decide +kernel
theorem dX6_countOf_141 : decode cX6_countOf 141 = .ok (.invokevirtual 179, 3) := by decide +kernel
theorem dX6_countOf_144 : decode cX6_countOf 144 = .ok (.invokevirtual 215, 3) := by decide +kernel
theorem dX6_countOf_147 : decode cX6_countOf 147 = .ok (.aload_n 0, 1) := by decide +kernel
theorem dX6_countOf_148 : decode cX6_countOf 148 = .ok (.getfield 210, 3) := by decide +kernel
theorem dX6_countOf_151 : decode cX6_countOf 151 = .ok (.ireturn, 1) := by decide +kernel
theorem dX6_countOf_152 : decode cX6_countOf 152 = .ok (.aload_n 0, 1) := by decide +kernel
theorem dX6_countOf_153 : decode cX6_countOf 153 = .ok (.iload_n 1, 1) := by decide +kernel
theorem dX6_countOf_154 : decode cX6_countOf 154 = .ok (.bipush 6, 2) := by decide +kernel
theorem dX6_countOf_156 : decode cX6_countOf 156 = .ok (.if_icmp .ne 7, 3) := by decide +kernel
theorem dX6_countOf_159 : decode cX6_countOf 159 = .ok (.iconst 1, 1) := by decide +kernel
theorem dX6_countOf_160 : decode cX6_countOf 160 = .ok (.goto 4, 3) := by decide +kernel
theorem dX6_countOf_163 : decode cX6_countOf 163 = .ok (.iconst 0, 1) := by decide +kernel
theorem dX6_countOf_164 : decode cX6_countOf 164 = .ok (.invokevirtual 226, 3) := by decide +kernel
theorem dX6_countOf_167 : decode cX6_countOf 167 = .ok (.aload_n 0, 1) := by decide +kernel
theorem dX6_countOf_168 : decode cX6_countOf 168 = .ok (.getfield 221, 3) := by decide +kernel
theorem dX6_countOf_171 : decode cX6_countOf 171 = .ok (.ireturn, 1) := by decide +kernel
theorem dX6_count_0 : decode cX6_count 0 = .ok (.iload_n 1, 1) := by decide +kernel
theorem dX6_count_1 : decode cX6_count 1 = .ok (.i2l, 1) := by decide +kernel
theorem dX6_count_2 : decode cX6_count 2 = .ok (.lconst 0, 1) := by decide +kernel
theorem dX6_count_3 : decode cX6_count 3 = .ok (.ldc2_w 125, 3) := by decide +kernel
theorem dX6_count_6 : decode cX6_count 6 = .ok (.invokestatic 65, 3) := by decide +kernel
theorem dX6_count_9 : decode cX6_count 9 = .ok (.ifCond .eq 11, 3) := by decide +kernel
theorem dX6_count_12 : decode cX6_count 12 = .ok (.aload_n 0, 1) := by decide +kernel
theorem dX6_count_13 : decode cX6_count 13 = .ok (.iload_n 1, 1) := by decide +kernel
theorem dX6_count_14 : decode cX6_count 14 = .ok (.invokevirtual 235, 3) := by decide +kernel
theorem dX6_count_17 : decode cX6_count 17 = .ok (.goto 9, 3) := by decide +kernel
theorem dX6_count_20 : decode cX6_count 20 = .ok (.aload_n 0, 1) := by decide +kernel
theorem dX6_count_21 : decode cX6_count 21 = .ok (.bipush (-2), 2) := by decide +kernel
theorem dX6_count_23 : decode cX6_count 23 = .ok (.invokevirtual 130, 3) := by decide +kernel
theorem dX6_count_26 : decode cX6_count 26 = .ok (.ireturn, 1) := by decide +kernel
theorem dX6_type_0 : decode cX6_type 0 = .ok (.iload_n 1, 1) := by decide +kernel
theorem dX6_type_1 : decode cX6_type 1 = .ok (.i2l, 1) := by decide +kernel
theorem dX6_type_2 : decode cX6_type 2 = .ok (.lconst 0, 1) := by decide +kernel
theorem dX6_type_3 : decode cX6_type 3 = .ok (.ldc2_w 238, 3) := by decide +kernel
theorem dX6_type_6 : decode cX6_type 6 = .ok (.invokestatic 65, 3) := by decide +kernel
theorem dX6_type_9 : decode cX6_type 9 = .ok (.ifCond .ne 10, 3) := by decide +kernel
theorem dX6_type_12 : decode cX6_type 12 = .ok (.aload_n 0, 1) := by decide +kernel
theorem dX6_type_13 : decode cX6_type 13 = .ok (.bipush (-2), 2) := by decide +kernel
theorem dX6_type_15 : decode cX6_type 15 = .ok (.invokevirtual 130, 3) := by decide +kernel
theorem dX6_type_18 : decode cX6_type 18 = .ok (.ireturn, 1) := by decide +kernel
theorem dX6_type_19 : decode cX6_type 19 = .ok (.aload_n 0, 1) := by decide +kernel
theorem dX6_type_20 : decode cX6_type 20 = .ok (.getfield 240, 3) := by decide +kernel
theorem dX6_type_23 : decode cX6_type 23 = .ok (.bipush 120, 2) := by decide +kernel
theorem dX6_type_25 : decode cX6_type 25 = .ok (.if_icmp .ne 10, 3) := by decide +kernel
theorem dX6_type_28 : decode cX6_type 28 = .ok (.aload_n 0, 1) := by decide +kernel
theorem dX6_type_29 : decode cX6_type 29 = .ok (.bipush (-4), 2) := by decide +kernel
theorem dX6_type_31 : decode cX6_type 31 = .ok (.invokevirtual 130, 3) := by decide +kernel
theorem dX6_type_34 : decode cX6_type 34 = .ok (.ireturn, 1) := by decide +kernel
theorem dX6_type_35 : decode cX6_type 35 = .ok (.aload_n 0, 1) := by decide +kernel
theorem dX6_type_36 : decode cX6_type 36 = .ok (.getfield 22, 3) := by decide +kernel
theorem dX6_type_39 : decode cX6_type 39 = .ok (.aload_n 0, 1) := by decide +kernel
theorem dX6_type_40 : decode cX6_type 40 = .ok (.getfield 240, 3) := by decide +kernel
theorem dX6_type_43 : decode cX6_type 43 = .ok (.iload_n 1, 1) := by decide +kernel
theorem dX6_type_44 : decode cX6_type 44 = .ok (.iastore, 1) := by decide +kernel
theorem dX6_type_45 : decode cX6_type 45 = .ok (.aload_n 0, 1) := by decide +kernel
theorem dX6_type_46 : decode cX6_type 46 = .ok (.dup, 1) := by decide +kernel
theorem dX6_type_47 : decode cX6_type 47 = .ok (.getfield 240, 3) := by decide +kernel
theorem dX6_type_50 : decode cX6_type 50 = .ok (.iconst 1, 1) := by decide +kernel
theorem dX6_type_51 : decode cX6_type 51 = .ok (.iadd, 1) := by decide +kernel
theorem dX6_type_52 : decode cX6_type 52 = .ok (.putfield 240, 3) := by decide +kernel
theorem dX6_type_55 : decode cX6_type 55 = .ok (.aload_n 0, 1) := by decide +kernel
theorem dX6_type_56 : decode cX6_type 56 = .ok (.getfield 240, 3) := by decide +kernel
theorem dX6_type_59 : decode cX6_type 59 = .ok (.ireturn, 1) := by decide +kernel
theorem dX6_clear_0 : decode cX6_clear 0 = .ok (.aload_n 0, 1) := by decide +kernel
theorem dX6_clear_1 : decode cX6_clear 1 = .ok (.getfield 240, 3) := by decide +kernel
theorem dX6_clear_4 : decode cX6_clear 4 = .ok (.istore_n 1, 1) := by decide +kernel
theorem dX6_clear_5 : decode cX6_clear 5 = .ok (.aload_n 0, 1) := by decide +kernel
theorem dX6_clear_6 : decode cX6_clear 6 = .ok (.iconst 0, 1) := by decide +kernel
theorem dX6_clear_7 : decode cX6_clear 7 = .ok (.putfield 240, 3) := by decide +kernel
theorem dX6_clear_10 : decode cX6_clear 10 = .ok (.iload_n 1, 1) := by decide +kernel
theorem dX6_clear_11 : decode cX6_clear 11 = .ok (.ireturn, 1) := by decide +kernel
theorem dX6_here_0 : decode cX6_here 0 = .ok (.aload_n 0, 1) := by decide +kernel
theorem dX6_here_1 : decode cX6_here 1 = .ok (.getfield 243, 3) := by decide +kernel
theorem dX6_here_4 : decode cX6_here 4 = .ok (.aload_n 0, 1) := by decide +kernel
theorem dX6_here_5 : decode cX6_here 5 = .ok (.getfield 240, 3) := by decide +kernel
theorem dX6_here_8 : decode cX6_here 8 = .ok (.if_icmp .ge 30, 3) := by decide +kernel
theorem dX6_here_11 : decode cX6_here 11 = .ok (.aload_n 0, 1) := by decide +kernel
theorem dX6_here_12 : decode cX6_here 12 = .ok (.getfield 22, 3) := by decide +kernel
theorem dX6_here_15 : decode cX6_here 15 = .ok (.aload_n 0, 1) := by decide +kernel
theorem dX6_here_16 : decode cX6_here 16 = .ok (.getfield 243, 3) := by decide +kernel
theorem dX6_here_19 : decode cX6_here 19 = .ok (.iaload, 1) := by decide +kernel
theorem dX6_here_20 : decode cX6_here 20 = .ok (.bipush 32, 2) := by decide +kernel
theorem dX6_here_22 : decode cX6_here 22 = .ok (.if_icmp .ne 16, 3) := by decide +kernel
theorem dX6_here_25 : decode cX6_here 25 = .ok (.aload_n 0, 1) := by decide +kernel
theorem dX6_here_26 : decode cX6_here 26 = .ok (.dup, 1) := by decide +kernel
theorem dX6_here_27 : decode cX6_here 27 = .ok (.getfield 243, 3) := by decide +kernel
theorem dX6_here_30 : decode cX6_here 30 = .ok (.iconst 1, 1) := by decide +kernel
theorem dX6_here_31 : decode cX6_here 31 = .ok (.iadd, 1) := by decide +kernel
theorem dX6_here_32 : decode cX6_here 32 = .ok (.putfield 243, 3) := by decide +kernel
theorem dX6_here_35 : decode cX6_here 35 = .ok (.goto (-35), 3) := by decide +kernel
theorem dX6_here_38 : decode cX6_here 38 = .ok (.aload_n 0, 1) := by decide +kernel
theorem dX6_here_39 : decode cX6_here 39 = .ok (.getfield 243, 3) := by decide +kernel
theorem dX6_here_42 : decode cX6_here 42 = .ok (.aload_n 0, 1) := by decide +kernel
theorem dX6_here_43 : decode cX6_here 43 = .ok (.getfield 240, 3) := by decide +kernel
theorem dX6_here_46 : decode cX6_here 46 = .ok (.if_icmp .ge 15, 3) := by decide +kernel
theorem dX6_here_49 : decode cX6_here 49 = .ok (.aload_n 0, 1) := by decide +kernel
theorem dX6_here_50 : decode cX6_here 50 = .ok (.getfield 22, 3) := by decide +kernel
theorem dX6_here_53 : decode cX6_here 53 = .ok (.aload_n 0, 1) := by decide +kernel
theorem dX6_here_54 : decode cX6_here 54 = .ok (.getfield 243, 3) := by decide +kernel
theorem dX6_here_57 : decode cX6_here 57 = .ok (.iaload, 1) := by decide +kernel
theorem dX6_here_58 : decode cX6_here 58 = .ok (.goto 4, 3) := by decide +kernel
theorem dX6_here_61 : decode cX6_here 61 = .ok (.iconst (-1), 1) := by decide +kernel
theorem dX6_here_62 : decode cX6_here 62 = .ok (.ireturn, 1) := by decide +kernel
theorem dX6_isLetter_0 : decode cX6_isLetter 0 = .ok (.iload_n 1, 1) := by decide +kernel
theorem dX6_isLetter_1 : decode cX6_isLetter 1 = .ok (.aload_n 0, 1) := by decide +kernel
theorem dX6_isLetter_2 : decode cX6_isLetter 2 = .ok (.getfield 240, 3) := by decide +kernel
theorem dX6_isLetter_5 : decode cX6_isLetter 5 = .ok (.if_icmp .ge 26, 3) := by decide +kernel
theorem dX6_isLetter_8 : decode cX6_isLetter 8 = .ok (.aload_n 0, 1) := by decide +kernel
theorem dX6_isLetter_9 : decode cX6_isLetter 9 = .ok (.getfield 22, 3) := by decide +kernel
theorem dX6_isLetter_12 : decode cX6_isLetter 12 = .ok (.iload_n 1, 1) := by decide +kernel
theorem dX6_isLetter_13 : decode cX6_isLetter 13 = .ok (.iaload, 1) := by decide +kernel
theorem dX6_isLetter_14 : decode cX6_isLetter 14 = .ok (.i2l, 1) := by decide +kernel
theorem dX6_isLetter_15 : decode cX6_isLetter 15 = .ok (.ldc2_w 246, 3) := by decide +kernel
theorem dX6_isLetter_18 : decode cX6_isLetter 18 = .ok (.ldc2_w 248, 3) := by decide +kernel
theorem dX6_isLetter_21 : decode cX6_isLetter 21 = .ok (.invokestatic 65, 3) := by decide +kernel
theorem dX6_isLetter_24 : decode cX6_isLetter 24 = .ok (.ifCond .eq 7, 3) := by decide +kernel
theorem dX6_isLetter_27 : decode cX6_isLetter 27 = .ok (.iconst 1, 1) := by decide +kernel
theorem dX6_isLetter_28 : decode cX6_isLetter 28 = .ok (.goto 4, 3) := by decide +kernel
theorem dX6_isLetter_31 : decode cX6_isLetter 31 = .ok (.iconst 0, 1) := by decide +kernel
theorem dX6_isLetter_32 : decode cX6_isLetter 32 = .ok (.ireturn, 1) := by decide +kernel
theorem dX6_isFigure_0 : decode cX6_isFigure 0 = .ok (.iload_n 1, 1) := by decide +kernel
theorem dX6_isFigure_1 : decode cX6_isFigure 1 = .ok (.aload_n 0, 1) := by decide +kernel
theorem dX6_isFigure_2 : decode cX6_isFigure 2 = .ok (.getfield 240, 3) := by decide +kernel
theorem dX6_isFigure_5 : decode cX6_isFigure 5 = .ok (.if_icmp .ge 26, 3) := by decide +kernel
theorem dX6_isFigure_8 : decode cX6_isFigure 8 = .ok (.aload_n 0, 1) := by decide +kernel
theorem dX6_isFigure_9 : decode cX6_isFigure 9 = .ok (.getfield 22, 3) := by decide +kernel
theorem dX6_isFigure_12 : decode cX6_isFigure 12 = .ok (.iload_n 1, 1) := by decide +kernel
theorem dX6_isFigure_13 : decode cX6_isFigure 13 = .ok (.iaload, 1) := by decide +kernel
theorem dX6_isFigure_14 : decode cX6_isFigure 14 = .ok (.i2l, 1) := by decide +kernel
theorem dX6_isFigure_15 : decode cX6_isFigure 15 = .ok (.ldc2_w 250, 3) := by decide +kernel
theorem dX6_isFigure_18 : decode cX6_isFigure 18 = .ok (.ldc2_w 252, 3) := by decide +kernel
theorem dX6_isFigure_21 : decode cX6_isFigure 21 = .ok (.invokestatic 65, 3) := by decide +kernel
theorem dX6_isFigure_24 : decode cX6_isFigure 24 = .ok (.ifCond .eq 7, 3) := by decide +kernel
theorem dX6_isFigure_27 : decode cX6_isFigure 27 = .ok (.iconst 1, 1) := by decide +kernel
theorem dX6_isFigure_28 : decode cX6_isFigure 28 = .ok (.goto 4, 3) := by decide +kernel
theorem dX6_isFigure_31 : decode cX6_isFigure 31 = .ok (.iconst 0, 1) := by decide +kernel
theorem dX6_isFigure_32 : decode cX6_isFigure 32 = .ok (.ireturn, 1) := by decide +kernel
theorem dX6_word_0 : decode cX6_word 0 = .ok (.aload_n 0, 1) := by decide +kernel
theorem dX6_word_1 : decode cX6_word 1 = .ok (.invokevirtual 254, 3) := by decide +kernel
theorem dX6_word_4 : decode cX6_word 4 = .ok (.pop, 1) := by decide +kernel
theorem dX6_word_5 : decode cX6_word 5 = .ok (.aload_n 0, 1) := by decide +kernel
theorem dX6_word_6 : decode cX6_word 6 = .ok (.getfield 243, 3) := by decide +kernel
theorem dX6_word_9 : decode cX6_word 9 = .ok (.istore_n 1, 1) := by decide +kernel
theorem dX6_word_10 : decode cX6_word 10 = .ok (.aload_n 0, 1) := by decide +kernel
theorem dX6_word_11 : decode cX6_word 11 = .ok (.iload_n 1, 1) := by decide +kernel
theorem dX6_word_12 : decode cX6_word 12 = .ok (.invokevirtual 257, 3) := by decide +kernel
theorem dX6_word_15 : decode cX6_word 15 = .ok (.ifCond .eq 9, 3) := by decide +kernel
theorem dX6_word_18 : decode cX6_word 18 = .ok (.iinc 1 1, 3) := by decide +kernel
theorem dX6_word_21 : decode cX6_word 21 = .ok (.goto (-11), 3) := by decide +kernel
theorem dX6_word_24 : decode cX6_word 24 = .ok (.iconst (-1), 1) := by decide +kernel
theorem dX6_word_25 : decode cX6_word 25 = .ok (.istore_n 2, 1) := by decide +kernel
theorem dX6_word_26 : decode cX6_word 26 = .ok (.iconst 0, 1) := by decide +kernel
theorem dX6_word_27 : decode cX6_word 27 = .ok (.istore_n 3, 1) := by decide +kernel
theorem dX6_word_28 : decode cX6_word 28 = .ok (.iload_n 3, 1) := by decide +kernel
theorem dX6_word_29 : decode cX6_word 29 = .ok (.bipush 8, 2) := by decide +kernel
theorem dX6_word_31 : decode cX6_word 31 = .ok (.if_icmp .ge 116, 3) := by decide +kernel
theorem dX6_word_34 : decode cX6_word 34 = .ok (.iload_n 1, 1) := by decide +kernel
theorem dX6_word_35 : decode cX6_word 35 = .ok (.aload_n 0, 1) := by decide +kernel
theorem dX6_word_36 : decode cX6_word 36 = .ok (.getfield 243, 3) := by decide +kernel
theorem dX6_word_39 : decode cX6_word 39 = .ok (.if_icmp .le 18, 3) := by decide +kernel
theorem dX6_word_42 : decode cX6_word 42 = .ok (.iload_n 1, 1) := by decide +kernel
theorem dX6_word_43 : decode cX6_word 43 = .ok (.aload_n 0, 1) := by decide +kernel
theorem dX6_word_44 : decode cX6_word 44 = .ok (.getfield 243, 3) := by decide +kernel
theorem dX6_word_47 : decode cX6_word 47 = .ok (.isub, 1) := by decide +kernel
theorem dX6_word_48 : decode cX6_word 48 = .ok (.bipush 9, 2) := by decide +kernel
theorem dX6_word_50 : decode cX6_word 50 = .ok (.if_icmp .ge 7, 3) := by decide +kernel
theorem dX6_word_53 : decode cX6_word 53 = .ok (.iconst 1, 1) := by decide +kernel
theorem dX6_word_54 : decode cX6_word 54 = .ok (.goto 4, 3) := by decide +kernel
theorem dX6_word_57 : decode cX6_word 57 = .ok (.iconst 0, 1) := by decide +kernel
theorem dX6_word_58 : decode cX6_word 58 = .ok (.istore 4, 2) := by decide +kernel
theorem dX6_word_60 : decode cX6_word 60 = .ok (.iconst 0, 1) := by decide +kernel
theorem dX6_word_61 : decode cX6_word 61 = .ok (.istore 5, 2) := by decide +kernel
theorem dX6_word_63 : decode cX6_word 63 = .ok (.iload 5, 2) := by decide +kernel
theorem dX6_word_65 : decode cX6_word 65 = .ok (.bipush 8, 2) := by decide +kernel
theorem dX6_word_67 : decode cX6_word 67 = .ok (.if_icmp .ge 63, 3) := by decide +kernel
theorem dX6_word_70 : decode cX6_word 70 = .ok (.iload 4, 2) := by decide +kernel
theorem dX6_word_72 : decode cX6_word 72 = .ok (.ifCond .eq 58, 3) := by decide +kernel
theorem dX6_word_75 : decode cX6_word 75 = .ok (.aload_n 0, 1) := by decide +kernel
theorem dX6_word_76 : decode cX6_word 76 = .ok (.getfield 59, 3) := by decide +kernel
theorem dX6_word_79 : decode cX6_word 79 = .ok (.bipush 8, 2) := by decide +kernel
theorem dX6_word_81 : decode cX6_word 81 = .ok (.iload_n 3, 1) := by decide +kernel
theorem dX6_word_82 : decode cX6_word 82 = .ok (.imul, 1) := by decide +kernel
theorem dX6_word_83 : decode cX6_word 83 = .ok (.iload 5, 2) := by decide +kernel
theorem dX6_word_85 : decode cX6_word 85 = .ok (.iadd, 1) := by decide +kernel
theorem dX6_word_86 : decode cX6_word 86 = .ok (.iaload, 1) := by decide +kernel
theorem dX6_word_87 : decode cX6_word 87 = .ok (.aload_n 0, 1) := by decide +kernel
theorem dX6_word_88 : decode cX6_word 88 = .ok (.getfield 243, 3) := by decide +kernel
theorem dX6_word_91 : decode cX6_word 91 = .ok (.iload 5, 2) := by decide +kernel
theorem dX6_word_93 : decode cX6_word 93 = .ok (.iadd, 1) := by decide +kernel
theorem dX6_word_94 : decode cX6_word 94 = .ok (.iload_n 1, 1) := by decide +kernel
theorem dX6_word_95 : decode cX6_word 95 = .ok (.if_icmp .ge 18, 3) := by decide +kernel
theorem dX6_word_98 : decode cX6_word 98 = .ok (.aload_n 0, 1) := by decide +kernel
theorem dX6_word_99 : decode cX6_word 99 = .ok (.getfield 22, 3) := by decide +kernel
theorem dX6_word_102 : decode cX6_word 102 = .ok (.aload_n 0, 1) := by decide +kernel
theorem dX6_word_103 : decode cX6_word 103 = .ok (.getfield 243, 3) := by decide +kernel
theorem dX6_word_106 : decode cX6_word 106 = .ok (.iload 5, 2) := by decide +kernel
theorem dX6_word_108 : decode cX6_word 108 = .ok (.iadd, 1) := by decide +kernel
theorem dX6_word_109 : decode cX6_word 109 = .ok (.iaload, 1) := by decide +kernel
theorem dX6_word_110 : decode cX6_word 110 = .ok (.goto 4, 3) := by decide +kernel
theorem dX6_word_113 : decode cX6_word 113 = .ok (.iconst 0, 1) := by decide +kernel
theorem dX6_word_114 : decode cX6_word 114 = .ok (.if_icmp .ne 7, 3) := by decide +kernel
theorem dX6_word_117 : decode cX6_word 117 = .ok (.iconst 1, 1) := by decide +kernel
theorem dX6_word_118 : decode cX6_word 118 = .ok (.goto 4, 3) := by decide +kernel
theorem dX6_word_121 : decode cX6_word 121 = .ok (.iconst 0, 1) := by decide +kernel
theorem dX6_word_122 : decode cX6_word 122 = .ok (.istore 4, 2) := by decide +kernel
theorem dX6_word_124 : decode cX6_word 124 = .ok (.iinc 5 1, 3) := by decide +kernel
theorem dX6_word_127 : decode cX6_word 127 = .ok (.goto (-64), 3) := by decide +kernel
theorem dX6_word_130 : decode cX6_word 130 = .ok (.iload 4, 2) := by decide +kernel
theorem dX6_word_132 : decode cX6_word 132 = .ok (.ifCond .eq 7, 3) := by decide +kernel
theorem dX6_word_135 : decode cX6_word 135 = .ok (.iload_n 3, 1) := by decide +kernel
theorem dX6_word_136 : decode cX6_word 136 = .ok (.goto 4, 3) := by decide +kernel
theorem dX6_word_139 : decode cX6_word 139 = .ok (.iload_n 2, 1) := by decide +kernel
theorem dX6_word_140 : decode cX6_word 140 = .ok (.istore_n 2, 1) := by decide +kernel
theorem dX6_word_141 : decode cX6_word 141 = .ok (.iinc 3 1, 3) := by decide +kernel
theorem dX6_word_144 : decode cX6_word 144 = .ok (.goto (-116), 3) := by decide +kernel
theorem dX6_word_147 : decode cX6_word 147 = .ok (.aload_n 0, 1) := by decide +kernel
theorem dX6_word_148 : decode cX6_word 148 = .ok (.iload_n 2, 1) := by decide +kernel
theorem dX6_word_149 : decode cX6_word 149 = .ok (.iconst (-1), 1) := by decide +kernel
theorem dX6_word_150 : decode cX6_word 150 = .ok (.if_icmp .ne 10, 3) := by decide +kernel
theorem dX6_word_153 : decode cX6_word 153 = .ok (.aload_n 0, 1) := by decide +kernel
theorem dX6_word_154 : decode cX6_word 154 = .ok (.getfield 243, 3) := by decide +kernel
theorem dX6_word_157 : decode cX6_word 157 = .ok (.goto 4, 3) := by decide +kernel
theorem dX6_word_160 : decode cX6_word 160 = .ok (.iload_n 1, 1) := by decide +kernel
theorem dX6_word_161 : decode cX6_word 161 = .ok (.putfield 243, 3) := by decide +kernel
theorem dX6_word_164 : decode cX6_word 164 = .ok (.iload_n 2, 1) := by decide +kernel
theorem dX6_word_165 : decode cX6_word 165 = .ok (.ireturn, 1) := by decide +kernel
theorem dX6_number_0 : decode cX6_number 0 = .ok (.aload_n 0, 1) := by decide +kernel
theorem dX6_number_1 : decode cX6_number 1 = .ok (.invokevirtual 254, 3) := by decide +kernel
theorem dX6_number_4 : decode cX6_number 4 = .ok (.bipush 45, 2) := by decide +kernel
theorem dX6_number_6 : decode cX6_number 6 = .ok (.if_icmp .ne 11, 3) := by decide +kernel
theorem dX6_number_9 : decode cX6_number 9 = .ok (.iload_n 2, 1) := by decide +kernel
theorem dX6_number_10 : decode cX6_number 10 = .ok (.ifCond .eq 7, 3) := by decide +kernel
theorem dX6_number_13 : decode cX6_number 13 = .ok (.iconst 1, 1) := by decide +kernel
theorem dX6_number_14 : decode cX6_number 14 = .ok (.goto 4, 3) := by decide +kernel
theorem dX6_number_17 : decode cX6_number 17 = .ok (.iconst 0, 1) := by decide +kernel
theorem dX6_number_18 : decode cX6_number 18 = .ok (.istore_n 3, 1) := by decide +kernel
theorem dX6_number_19 : decode cX6_number 19 = .ok (.aload_n 0, 1) := by decide +kernel
theorem dX6_number_20 : decode cX6_number 20 = .ok (.dup, 1) := by decide +kernel
theorem dX6_number_21 : decode cX6_number 21 = .ok (.getfield 243, 3) := by decide +kernel
theorem dX6_number_24 : decode cX6_number 24 = .ok (.iload_n 3, 1) := by decide +kernel
theorem dX6_number_25 : decode cX6_number 25 = .ok (.ifCond .eq 7, 3) := by decide +kernel
theorem dX6_number_28 : decode cX6_number 28 = .ok (.iconst 1, 1) := by decide +kernel
theorem dX6_number_29 : decode cX6_number 29 = .ok (.goto 4, 3) := by decide +kernel
theorem dX6_number_32 : decode cX6_number 32 = .ok (.iconst 0, 1) := by decide +kernel
theorem dX6_number_33 : decode cX6_number 33 = .ok (.iadd, 1) := by decide +kernel
theorem dX6_number_34 : decode cX6_number 34 = .ok (.putfield 243, 3) := by decide +kernel
theorem dX6_number_37 : decode cX6_number 37 = .ok (.iconst 0, 1) := by decide +kernel
theorem dX6_number_38 : decode cX6_number 38 = .ok (.istore 4, 2) := by decide +kernel
theorem dX6_number_40 : decode cX6_number 40 = .ok (.iconst 0, 1) := by decide +kernel
theorem dX6_number_41 : decode cX6_number 41 = .ok (.istore 5, 2) := by decide +kernel
theorem dX6_number_43 : decode cX6_number 43 = .ok (.iload 4, 2) := by decide +kernel
theorem dX6_number_45 : decode cX6_number 45 = .ok (.iconst 3, 1) := by decide +kernel
theorem dX6_number_46 : decode cX6_number 46 = .ok (.if_icmp .ge 50, 3) := by decide +kernel
theorem dX6_number_49 : decode cX6_number 49 = .ok (.aload_n 0, 1) := by decide +kernel
theorem dX6_number_50 : decode cX6_number 50 = .ok (.aload_n 0, 1) := by decide +kernel
theorem dX6_number_51 : decode cX6_number 51 = .ok (.getfield 243, 3) := by decide +kernel
theorem dX6_number_54 : decode cX6_number 54 = .ok (.invokevirtual 260, 3) := by decide +kernel
theorem dX6_number_57 : decode cX6_number 57 = .ok (.ifCond .eq 39, 3) := by decide +kernel
theorem dX6_number_60 : decode cX6_number 60 = .ok (.bipush 10, 2) := by decide +kernel
theorem dX6_number_62 : decode cX6_number 62 = .ok (.iload 5, 2) := by decide +kernel
theorem dX6_number_64 : decode cX6_number 64 = .ok (.imul, 1) := by decide +kernel
theorem dX6_number_65 : decode cX6_number 65 = .ok (.aload_n 0, 1) := by decide +kernel
theorem dX6_number_66 : decode cX6_number 66 = .ok (.getfield 22, 3) := by decide +kernel
theorem dX6_number_69 : decode cX6_number 69 = .ok (.aload_n 0, 1) := by decide +kernel
theorem dX6_number_70 : decode cX6_number 70 = .ok (.getfield 243, 3) := by decide +kernel
theorem dX6_number_73 : decode cX6_number 73 = .ok (.iaload, 1) := by decide +kernel
theorem dX6_number_74 : decode cX6_number 74 = .ok (.iadd, 1) := by decide +kernel
theorem dX6_number_75 : decode cX6_number 75 = .ok (.bipush 48, 2) := by decide +kernel
theorem dX6_number_77 : decode cX6_number 77 = .ok (.isub, 1) := by decide +kernel
theorem dX6_number_78 : decode cX6_number 78 = .ok (.istore 5, 2) := by decide +kernel
theorem dX6_number_80 : decode cX6_number 80 = .ok (.aload_n 0, 1) := by decide +kernel
theorem dX6_number_81 : decode cX6_number 81 = .ok (.dup, 1) := by decide +kernel
theorem dX6_number_82 : decode cX6_number 82 = .ok (.getfield 243, 3) := by decide +kernel
theorem dX6_number_85 : decode cX6_number 85 = .ok (.iconst 1, 1) := by decide +kernel
theorem dX6_number_86 : decode cX6_number 86 = .ok (.iadd, 1) := by decide +kernel
theorem dX6_number_87 : decode cX6_number 87 = .ok (.putfield 243, 3) := by decide +kernel
theorem dX6_number_90 : decode cX6_number 90 = .ok (.iinc 4 1, 3) := by decide +kernel
theorem dX6_number_93 : decode cX6_number 93 = .ok (.goto (-50), 3) := by decide +kernel
theorem dX6_number_96 : decode cX6_number 96 = .ok (.aload_n 0, 1) := by decide +kernel
theorem dX6_number_97 : decode cX6_number 97 = .ok (.getfield 62, 3) := by decide +kernel
theorem dX6_number_100 : decode cX6_number 100 = .ok (.iload_n 1, 1) := by decide +kernel
theorem dX6_number_101 : decode cX6_number 101 = .ok (.iload_n 3, 1) := by decide +kernel
theorem dX6_number_102 : decode cX6_number 102 = .ok (.ifCond .eq 9, 3) := by decide +kernel
theorem dX6_number_105 : decode cX6_number 105 = .ok (.iload 5, 2) := by decide +kernel
theorem dX6_number_107 : decode cX6_number 107 = .ok (.ineg, 1) := by decide +kernel
theorem dX6_number_108 : decode cX6_number 108 = .ok (.goto 5, 3) := by decide +kernel
theorem dX6_number_111 : decode cX6_number 111 = .ok (.iload 5, 2) := by decide +kernel
theorem dX6_number_113 : decode cX6_number 113 = .ok (.iastore, 1) := by decide +kernel
theorem dX6_number_114 : decode cX6_number 114 = .ok (.iload 4, 2) := by decide +kernel
theorem dX6_number_116 : decode cX6_number 116 = .ok (.ifCond .le 18, 3) := by decide +kernel
theorem dX6_number_119 : decode cX6_number 119 = .ok (.aload_n 0, 1) := by decide +kernel
theorem dX6_number_120 : decode cX6_number 120 = .ok (.aload_n 0, 1) := by decide +kernel
theorem dX6_number_121 : decode cX6_number 121 = .ok (.getfield 243, 3) := by decide +kernel
theorem dX6_number_124 : decode cX6_number 124 = .ok (.invokevirtual 260, 3) := by decide +kernel
theorem dX6_number_127 : decode cX6_number 127 = .ok (.ifCond .ne 7, 3) := by decide +kernel
theorem dX6_number_130 : decode cX6_number 130 = .ok (.iconst 1, 1) := by decide +kernel
theorem dX6_number_131 : decode cX6_number 131 = .ok (.goto 4, 3) := by decide +kernel
theorem dX6_number_134 : decode cX6_number 134 = .ok (.iconst 0, 1) := by decide +kernel
theorem dX6_number_135 : decode cX6_number 135 = .ok (.ireturn, 1) := by decide +kernel
theorem dX6_manyOf_0 : decode cX6_manyOf 0 = .ok (.iload_n 0, 1) := by decide +kernel
theorem dX6_manyOf_1 : decode cX6_manyOf 1 = .ok (.iconst 1, 1) := by decide +kernel
theorem dX6_manyOf_2 : decode cX6_manyOf 2 = .ok (.if_icmp .ne 7, 3) := by decide +kernel
theorem dX6_manyOf_5 : decode cX6_manyOf 5 = .ok (.iconst 4, 1) := by decide +kernel
theorem dX6_manyOf_6 : decode cX6_manyOf 6 = .ok (.goto 22, 3) := by decide +kernel
theorem dX6_manyOf_9 : decode cX6_manyOf 9 = .ok (.iload_n 0, 1) := by decide +kernel
theorem dX6_manyOf_10 : decode cX6_manyOf 10 = .ok (.ifCond .eq 13, 3) := by decide +kernel
theorem dX6_manyOf_13 : decode cX6_manyOf 13 = .ok (.iload_n 0, 1) := by decide +kernel
theorem dX6_manyOf_14 : decode cX6_manyOf 14 = .ok (.iconst 4, 1) := by decide +kernel
theorem dX6_manyOf_15 : decode cX6_manyOf 15 = .ok (.if_icmp .eq 8, 3) := by decide +kernel
theorem dX6_manyOf_18 : decode cX6_manyOf 18 = .ok (.iload_n 0, 1) := by decide +kernel
theorem dX6_manyOf_19 : decode cX6_manyOf 19 = .ok (.iconst 5, 1) := by decide +kernel
theorem dX6_manyOf_20 : decode cX6_manyOf 20 = .ok (.if_icmp .ne 7, 3) := by decide +kernel
theorem dX6_manyOf_23 : decode cX6_manyOf 23 = .ok (.iconst 2, 1) := by decide +kernel
theorem dX6_manyOf_24 : decode cX6_manyOf 24 = .ok (.goto 4, 3) := by decide +kernel
theorem dX6_manyOf_27 : decode cX6_manyOf 27 = .ok (.iconst 1, 1) := by decide +kernel
theorem dX6_manyOf_28 : decode cX6_manyOf 28 = .ok (.ireturn, 1) := by decide +kernel
theorem dX6_isDone_0 : decode cX6_isDone 0 = .ok (.aload_n 0, 1) := by decide +kernel
theorem dX6_isDone_1 : decode cX6_isDone 1 = .ok (.getfield 62, 3) := by decide +kernel
theorem dX6_isDone_4 : decode cX6_isDone 4 = .ok (.iconst 0, 1) := by decide +kernel
theorem dX6_isDone_5 : decode cX6_isDone 5 = .ok (.iaload, 1) := by decide +kernel
theorem dX6_isDone_6 : decode cX6_isDone 6 = .ok (.istore_n 2, 1) := by decide +kernel
theorem dX6_isDone_7 : decode cX6_isDone 7 = .ok (.aload_n 0, 1) := by decide +kernel
theorem dX6_isDone_8 : decode cX6_isDone 8 = .ok (.getfield 62, 3) := by decide +kernel
theorem dX6_isDone_11 : decode cX6_isDone 11 = .ok (.iconst 1, 1) := by decide +kernel
theorem dX6_isDone_12 : decode cX6_isDone 12 = .ok (.iaload, 1) := by decide +kernel
theorem dX6_isDone_13 : decode cX6_isDone 13 = .ok (.istore_n 3, 1) := by decide +kernel
theorem dX6_isDone_14 : decode cX6_isDone 14 = .ok (.iload_n 1, 1) := by decide +kernel
theorem dX6_isDone_15 : decode cX6_isDone 15 = .ok (.tableswitch 216 0 6 #[41, 66, 137, 137, 163, 163, 194], 41) := by decide +kernel
theorem dX6_isDone_56 : decode cX6_isDone 56 = .ok (.aload_n 0, 1) := by decide +kernel
theorem dX6_isDone_57 : decode cX6_isDone 57 = .ok (.iload_n 2, 1) := by decide +kernel
theorem dX6_isDone_58 : decode cX6_isDone 58 = .ok (.iload_n 3, 1) := by decide +kernel
theorem dX6_isDone_59 : decode cX6_isDone 59 = .ok (.invokevirtual 150, 3) := by decide +kernel
theorem dX6_isDone_62 : decode cX6_isDone 62 = .ok (.istore 4, 2) := by decide +kernel
theorem dX6_isDone_64 : decode cX6_isDone 64 = .ok (.iload 4, 2) := by decide +kernel
theorem dX6_isDone_66 : decode cX6_isDone 66 = .ok (.ifCond .eq 12, 3) := by decide +kernel
theorem dX6_isDone_69 : decode cX6_isDone 69 = .ok (.aload_n 0, 1) := by decide +kernel
theorem dX6_isDone_70 : decode cX6_isDone 70 = .ok (.getfield 7, 3) := by decide +kernel
theorem dX6_isDone_73 : decode cX6_isDone 73 = .ok (.iconst 2, 1) := by decide +kernel
theorem dX6_isDone_74 : decode cX6_isDone 74 = .ok (.iload_n 2, 1) := by decide +kernel
theorem dX6_isDone_75 : decode cX6_isDone 75 = .ok (.iadd, 1) := by decide +kernel
theorem dX6_isDone_76 : decode cX6_isDone 76 = .ok (.iload_n 3, 1) := by decide +kernel
theorem dX6_isDone_77 : decode cX6_isDone 77 = .ok (.iastore, 1) := by decide +kernel
theorem dX6_isDone_78 : decode cX6_isDone 78 = .ok (.iload 4, 2) := by decide +kernel
theorem dX6_isDone_80 : decode cX6_isDone 80 = .ok (.ireturn, 1) := by decide +kernel
theorem dX6_isDone_81 : decode cX6_isDone 81 = .ok (.aload_n 0, 1) := by decide +kernel
theorem dX6_isDone_82 : decode cX6_isDone 82 = .ok (.iload_n 2, 1) := by decide +kernel
theorem dX6_isDone_83 : decode cX6_isDone 83 = .ok (.iload_n 3, 1) := by decide +kernel
theorem dX6_isDone_84 : decode cX6_isDone 84 = .ok (.aload_n 0, 1) := by decide +kernel
theorem dX6_isDone_85 : decode cX6_isDone 85 = .ok (.getfield 62, 3) := by decide +kernel
theorem dX6_isDone_88 : decode cX6_isDone 88 = .ok (.iconst 2, 1) := by decide +kernel
theorem dX6_isDone_89 : decode cX6_isDone 89 = .ok (.iaload, 1) := by decide +kernel
theorem dX6_isDone_90 : decode cX6_isDone 90 = .ok (.aload_n 0, 1) := by decide +kernel
theorem dX6_isDone_91 : decode cX6_isDone 91 = .ok (.getfield 62, 3) := by decide +kernel
theorem dX6_isDone_94 : decode cX6_isDone 94 = .ok (.iconst 3, 1) := by decide +kernel
theorem dX6_isDone_95 : decode cX6_isDone 95 = .ok (.iaload, 1) := by decide +kernel
theorem dX6_isDone_96 : decode cX6_isDone 96 = .ok (.invokevirtual 157, 3) := by decide +kernel
theorem dX6_isDone_99 : decode cX6_isDone 99 = .ok (.ifCond .eq 18, 3) := by decide +kernel
theorem dX6_isDone_102 : decode cX6_isDone 102 = .ok (.aload_n 0, 1) := by decide +kernel
theorem dX6_isDone_103 : decode cX6_isDone 103 = .ok (.getfield 7, 3) := by decide +kernel
theorem dX6_isDone_106 : decode cX6_isDone 106 = .ok (.iconst 1, 1) := by decide +kernel
theorem dX6_isDone_107 : decode cX6_isDone 107 = .ok (.iaload, 1) := by decide +kernel
theorem dX6_isDone_108 : decode cX6_isDone 108 = .ok (.bipush 10, 2) := by decide +kernel
theorem dX6_isDone_110 : decode cX6_isDone 110 = .ok (.if_icmp .ge 7, 3) := by decide +kernel
theorem dX6_isDone_113 : decode cX6_isDone 113 = .ok (.iconst 1, 1) := by decide +kernel
theorem dX6_isDone_114 : decode cX6_isDone 114 = .ok (.goto 4, 3) := by decide +kernel
theorem dX6_isDone_117 : decode cX6_isDone 117 = .ok (.iconst 0, 1) := by decide +kernel
theorem dX6_isDone_118 : decode cX6_isDone 118 = .ok (.istore 4, 2) := by decide +kernel
theorem dX6_isDone_120 : decode cX6_isDone 120 = .ok (.iload 4, 2) := by decide +kernel
theorem dX6_isDone_122 : decode cX6_isDone 122 = .ok (.ifCond .eq 28, 3) := by decide +kernel
theorem dX6_isDone_125 : decode cX6_isDone 125 = .ok (.aload_n 0, 1) := by decide +kernel
theorem dX6_isDone_126 : decode cX6_isDone 126 = .ok (.iload_n 2, 1) := by decide +kernel
theorem dX6_isDone_127 : decode cX6_isDone 127 = .ok (.iload_n 3, 1) := by decide +kernel
theorem dX6_isDone_128 : decode cX6_isDone 128 = .ok (.aload_n 0, 1) := by decide +kernel
theorem dX6_isDone_129 : decode cX6_isDone 129 = .ok (.getfield 62, 3) := by decide +kernel
theorem dX6_isDone_132 : decode cX6_isDone 132 = .ok (.iconst 2, 1) := by decide +kernel
theorem dX6_isDone_133 : decode cX6_isDone 133 = .ok (.iaload, 1) := by decide +kernel
theorem dX6_isDone_134 : decode cX6_isDone 134 = .ok (.aload_n 0, 1) := by decide +kernel
theorem dX6_isDone_135 : decode cX6_isDone 135 = .ok (.getfield 62, 3) := by decide +kernel
theorem dX6_isDone_138 : decode cX6_isDone 138 = .ok (.iconst 3, 1) := by decide +kernel
theorem dX6_isDone_139 : decode cX6_isDone 139 = .ok (.iaload, 1) := by decide +kernel
theorem dX6_isDone_140 : decode cX6_isDone 140 = .ok (.invokevirtual 161, 3) := by decide +kernel
theorem dX6_isDone_143 : decode cX6_isDone 143 = .ok (.ifCond .lt 7, 3) := by decide +kernel
theorem dX6_isDone_146 : decode cX6_isDone 146 = .ok (.iconst 1, 1) := by decide +kernel
theorem dX6_isDone_147 : decode cX6_isDone 147 = .ok (.goto 4, 3) := by decide +kernel
theorem dX6_isDone_150 : decode cX6_isDone 150 = .ok (.iconst 0, 1) := by decide +kernel
theorem dX6_isDone_151 : decode cX6_isDone 151 = .ok (.ireturn, 1) := by decide +kernel
theorem dX6_isDone_152 : decode cX6_isDone 152 = .ok (.aload_n 0, 1) := by decide +kernel
theorem dX6_isDone_153 : decode cX6_isDone 153 = .ok (.iload_n 2, 1) := by decide +kernel
theorem dX6_isDone_154 : decode cX6_isDone 154 = .ok (.invokevirtual 165, 3) := by decide +kernel
theorem dX6_isDone_157 : decode cX6_isDone 157 = .ok (.ifCond .eq 19, 3) := by decide +kernel
theorem dX6_isDone_160 : decode cX6_isDone 160 = .ok (.aload_n 0, 1) := by decide +kernel
theorem dX6_isDone_161 : decode cX6_isDone 161 = .ok (.iload_n 2, 1) := by decide +kernel
theorem dX6_isDone_162 : decode cX6_isDone 162 = .ok (.iconst 4, 1) := by decide +kernel
theorem dX6_isDone_163 : decode cX6_isDone 163 = .ok (.iload_n 1, 1) := by decide +kernel
theorem dX6_isDone_164 : decode cX6_isDone 164 = .ok (.iconst 2, 1) := by decide +kernel
theorem dX6_isDone_165 : decode cX6_isDone 165 = .ok (.isub, 1) := by decide +kernel
theorem dX6_isDone_166 : decode cX6_isDone 166 = .ok (.invokevirtual 171, 3) := by decide +kernel
theorem dX6_isDone_169 : decode cX6_isDone 169 = .ok (.ifCond .lt 7, 3) := by decide +kernel
theorem dX6_isDone_172 : decode cX6_isDone 172 = .ok (.iconst 1, 1) := by decide +kernel
theorem dX6_isDone_173 : decode cX6_isDone 173 = .ok (.goto 4, 3) := by decide +kernel
theorem dX6_isDone_176 : decode cX6_isDone 176 = .ok (.iconst 0, 1) := by decide +kernel
theorem dX6_isDone_177 : decode cX6_isDone 177 = .ok (.ireturn, 1) := by decide +kernel
theorem dX6_isDone_178 : decode cX6_isDone 178 = .ok (.aload_n 0, 1) := by decide +kernel
theorem dX6_isDone_179 : decode cX6_isDone 179 = .ok (.iload_n 2, 1) := by decide +kernel
theorem dX6_isDone_180 : decode cX6_isDone 180 = .ok (.iconst 5, 1) := by decide +kernel
theorem dX6_isDone_181 : decode cX6_isDone 181 = .ok (.iload_n 1, 1) := by decide +kernel
theorem dX6_isDone_182 : decode cX6_isDone 182 = .ok (.isub, 1) := by decide +kernel
theorem dX6_isDone_183 : decode cX6_isDone 183 = .ok (.iload_n 3, 1) := by decide +kernel
theorem dX6_isDone_184 : decode cX6_isDone 184 = .ok (.invokevirtual 175, 3) := by decide +kernel
theorem dX6_isDone_187 : decode cX6_isDone 187 = .ok (.ifCond .eq 20, 3) := by decide +kernel
theorem dX6_isDone_190 : decode cX6_isDone 190 = .ok (.aload_n 0, 1) := by decide +kernel
theorem dX6_isDone_191 : decode cX6_isDone 191 = .ok (.iload_n 2, 1) := by decide +kernel
theorem dX6_isDone_192 : decode cX6_isDone 192 = .ok (.bipush 7, 2) := by decide +kernel
theorem dX6_isDone_194 : decode cX6_isDone 194 = .ok (.iload_n 1, 1) := by decide +kernel
theorem dX6_isDone_195 : decode cX6_isDone 195 = .ok (.isub, 1) := by decide +kernel
theorem dX6_isDone_196 : decode cX6_isDone 196 = .ok (.iload_n 3, 1) := by decide +kernel
theorem dX6_isDone_197 : decode cX6_isDone 197 = .ok (.invokevirtual 171, 3) := by decide +kernel
theorem dX6_isDone_200 : decode cX6_isDone 200 = .ok (.ifCond .lt 7, 3) := by decide +kernel
theorem dX6_isDone_203 : decode cX6_isDone 203 = .ok (.iconst 1, 1) := by decide +kernel
theorem dX6_isDone_204 : decode cX6_isDone 204 = .ok (.goto 4, 3) := by decide +kernel
theorem dX6_isDone_207 : decode cX6_isDone 207 = .ok (.iconst 0, 1) := by decide +kernel
theorem dX6_isDone_208 : decode cX6_isDone 208 = .ok (.ireturn, 1) := by decide +kernel
theorem dX6_isDone_209 : decode cX6_isDone 209 = .ok (.aload_n 0, 1) := by decide +kernel
theorem dX6_isDone_210 : decode cX6_isDone 210 = .ok (.iload_n 2, 1) := by decide +kernel
theorem dX6_isDone_211 : decode cX6_isDone 211 = .ok (.invokevirtual 165, 3) := by decide +kernel
theorem dX6_isDone_214 : decode cX6_isDone 214 = .ok (.ifCond .eq 15, 3) := by decide +kernel
theorem dX6_isDone_217 : decode cX6_isDone 217 = .ok (.aload_n 0, 1) := by decide +kernel
theorem dX6_isDone_218 : decode cX6_isDone 218 = .ok (.iload_n 2, 1) := by decide +kernel
theorem dX6_isDone_219 : decode cX6_isDone 219 = .ok (.invokevirtual 168, 3) := by decide +kernel
theorem dX6_isDone_222 : decode cX6_isDone 222 = .ok (.ifCond .lt 7, 3) := by decide +kernel
theorem dX6_isDone_225 : decode cX6_isDone 225 = .ok (.iconst 1, 1) := by decide +kernel
theorem dX6_isDone_226 : decode cX6_isDone 226 = .ok (.goto 4, 3) := by decide +kernel
theorem dX6_isDone_229 : decode cX6_isDone 229 = .ok (.iconst 0, 1) := by decide +kernel
theorem dX6_isDone_230 : decode cX6_isDone 230 = .ok (.ireturn, 1) := by decide +kernel
theorem dX6_isDone_231 : decode cX6_isDone 231 = .ok (.iload_n 2, 1) := by decide +kernel
theorem dX6_isDone_232 : decode cX6_isDone 232 = .ok (.invokestatic 127, 3) := by decide +kernel
theorem dX6_isDone_235 : decode cX6_isDone 235 = .ok (.ifCond .eq 15, 3) := by decide +kernel
theorem dX6_isDone_238 : decode cX6_isDone 238 = .ok (.aload_n 0, 1) := by decide +kernel
theorem dX6_isDone_239 : decode cX6_isDone 239 = .ok (.iload_n 2, 1) := by decide +kernel
theorem dX6_isDone_240 : decode cX6_isDone 240 = .ok (.invokevirtual 140, 3) := by decide +kernel
theorem dX6_isDone_243 : decode cX6_isDone 243 = .ok (.ifCond .lt 7, 3) := by decide +kernel
theorem dX6_isDone_246 : decode cX6_isDone 246 = .ok (.iconst 1, 1) := by decide +kernel
theorem dX6_isDone_247 : decode cX6_isDone 247 = .ok (.goto 4, 3) := by decide +kernel
theorem dX6_isDone_250 : decode cX6_isDone 250 = .ok (.iconst 0, 1) := by decide +kernel
theorem dX6_isDone_251 : decode cX6_isDone 251 = .ok (.ireturn, 1) := by decide +kernel
theorem dX6_order_0 : decode cX6_order 0 = .ok (.aload_n 0, 1) := by decide +kernel
theorem dX6_order_1 : decode cX6_order 1 = .ok (.invokevirtual 263, 3) := by decide +kernel
theorem dX6_order_4 : decode cX6_order 4 = .ok (.istore_n 2, 1) := by decide +kernel
theorem dX6_order_5 : decode cX6_order 5 = .ok (.iload_n 2, 1) := by decide +kernel
theorem dX6_order_6 : decode cX6_order 6 = .ok (.iconst (-1), 1) := by decide +kernel
theorem dX6_order_7 : decode cX6_order 7 = .ok (.if_icmp .ne 5, 3) := by decide +kernel
theorem dX6_order_10 : decode cX6_order 10 = .ok (.iconst (-1), 1) := by decide +kernel
theorem dX6_order_11 : decode cX6_order 11 = .ok (.ireturn, 1) := by decide +kernel
theorem dX6_order_12 : decode cX6_order 12 = .ok (.iconst 0, 1) := by decide +kernel
theorem dX6_order_13 : decode cX6_order 13 = .ok (.istore_n 3, 1) := by decide +kernel
theorem dX6_order_14 : decode cX6_order 14 = .ok (.iload_n 3, 1) := by decide +kernel
theorem dX6_order_15 : decode cX6_order 15 = .ok (.iload_n 2, 1) := by decide +kernel
theorem dX6_order_16 : decode cX6_order 16 = .ok (.invokestatic 266, 3) := by decide +kernel
theorem dX6_order_19 : decode cX6_order 19 = .ok (.if_icmp .ge 33, 3) := by decide +kernel
theorem dX6_order_22 : decode cX6_order 22 = .ok (.aload_n 0, 1) := by decide +kernel
theorem dX6_order_23 : decode cX6_order 23 = .ok (.iload_n 3, 1) := by decide +kernel
theorem dX6_order_24 : decode cX6_order 24 = .ok (.iload_n 2, 1) := by decide +kernel
theorem dX6_order_25 : decode cX6_order 25 = .ok (.ifCond .ne 12, 3) := by decide +kernel
theorem dX6_order_28 : decode cX6_order 28 = .ok (.iload_n 3, 1) := by decide +kernel
theorem dX6_order_29 : decode cX6_order 29 = .ok (.iconst 1, 1) := by decide +kernel
theorem dX6_order_30 : decode cX6_order 30 = .ok (.if_icmp .ne 7, 3) := by decide +kernel
theorem dX6_order_33 : decode cX6_order 33 = .ok (.iconst 1, 1) := by decide +kernel
theorem dX6_order_34 : decode cX6_order 34 = .ok (.goto 4, 3) := by decide +kernel
theorem dX6_order_37 : decode cX6_order 37 = .ok (.iconst 0, 1) := by decide +kernel
theorem dX6_order_38 : decode cX6_order 38 = .ok (.invokevirtual 269, 3) := by decide +kernel
theorem dX6_order_41 : decode cX6_order 41 = .ok (.ifCond .ne 5, 3) := by decide +kernel
theorem dX6_order_44 : decode cX6_order 44 = .ok (.iconst (-1), 1) := by decide +kernel
theorem dX6_order_45 : decode cX6_order 45 = .ok (.ireturn, 1) := by decide +kernel
theorem dX6_order_46 : decode cX6_order 46 = .ok (.iinc 3 1, 3) := by decide +kernel
theorem dX6_order_49 : decode cX6_order 49 = .ok (.goto (-35), 3) := by decide +kernel
theorem dX6_order_52 : decode cX6_order 52 = .ok (.aload_n 0, 1) := by decide +kernel
theorem dX6_order_53 : decode cX6_order 53 = .ok (.invokevirtual 254, 3) := by decide +kernel
theorem dX6_order_56 : decode cX6_order 56 = .ok (.bipush 59, 2) := by decide +kernel
theorem dX6_order_58 : decode cX6_order 58 = .ok (.if_icmp .eq 5, 3) := by decide +kernel
theorem dX6_order_61 : decode cX6_order 61 = .ok (.iconst (-1), 1) := by decide +kernel
theorem dX6_order_62 : decode cX6_order 62 = .ok (.ireturn, 1) := by decide +kernel
theorem dX6_order_63 : decode cX6_order 63 = .ok (.aload_n 0, 1) := by decide +kernel
theorem dX6_order_64 : decode cX6_order 64 = .ok (.dup, 1) := by decide +kernel
theorem dX6_order_65 : decode cX6_order 65 = .ok (.getfield 243, 3) := by decide +kernel
theorem dX6_order_68 : decode cX6_order 68 = .ok (.iconst 1, 1) := by decide +kernel
theorem dX6_order_69 : decode cX6_order 69 = .ok (.iadd, 1) := by decide +kernel
theorem dX6_order_70 : decode cX6_order 70 = .ok (.putfield 243, 3) := by decide +kernel
theorem dX6_order_73 : decode cX6_order 73 = .ok (.iload_n 1, 1) := by decide +kernel
theorem dX6_order_74 : decode cX6_order 74 = .ok (.ifCond .eq 15, 3) := by decide +kernel
theorem dX6_order_77 : decode cX6_order 77 = .ok (.aload_n 0, 1) := by decide +kernel
theorem dX6_order_78 : decode cX6_order 78 = .ok (.iload_n 2, 1) := by decide +kernel
theorem dX6_order_79 : decode cX6_order 79 = .ok (.invokevirtual 273, 3) := by decide +kernel
theorem dX6_order_82 : decode cX6_order 82 = .ok (.ifCond .eq 7, 3) := by decide +kernel
theorem dX6_order_85 : decode cX6_order 85 = .ok (.iconst 1, 1) := by decide +kernel
theorem dX6_order_86 : decode cX6_order 86 = .ok (.goto 4, 3) := by decide +kernel
theorem dX6_order_89 : decode cX6_order 89 = .ok (.iconst 0, 1) := by decide +kernel
theorem dX6_order_90 : decode cX6_order 90 = .ok (.ireturn, 1) := by decide +kernel
theorem dX6_does_0 : decode cX6_does 0 = .ok (.aload_n 0, 1) := by decide +kernel
theorem dX6_does_1 : decode cX6_does 1 = .ok (.iconst 0, 1) := by decide +kernel
theorem dX6_does_2 : decode cX6_does 2 = .ok (.putfield 243, 3) := by decide +kernel
theorem dX6_does_5 : decode cX6_does 5 = .ok (.iconst 1, 1) := by decide +kernel
theorem dX6_does_6 : decode cX6_does 6 = .ok (.istore_n 1, 1) := by decide +kernel
theorem dX6_does_7 : decode cX6_does 7 = .ok (.iload_n 1, 1) := by decide +kernel
theorem dX6_does_8 : decode cX6_does 8 = .ok (.ifCond .eq 36, 3) := by decide +kernel
theorem dX6_does_11 : decode cX6_does 11 = .ok (.aload_n 0, 1) := by decide +kernel
theorem dX6_does_12 : decode cX6_does 12 = .ok (.iconst 0, 1) := by decide +kernel
theorem dX6_does_13 : decode cX6_does 13 = .ok (.invokevirtual 276, 3) := by decide +kernel
theorem dX6_does_16 : decode cX6_does 16 = .ok (.ifCond .ge 11, 3) := by decide +kernel
theorem dX6_does_19 : decode cX6_does 19 = .ok (.bipush (-10), 2) := by decide +kernel
theorem dX6_does_21 : decode cX6_does 21 = .ok (.aload_n 0, 1) := by decide +kernel
theorem dX6_does_22 : decode cX6_does 22 = .ok (.getfield 243, 3) := by decide +kernel
theorem dX6_does_25 : decode cX6_does 25 = .ok (.isub, 1) := by decide +kernel
theorem dX6_does_26 : decode cX6_does 26 = .ok (.ireturn, 1) := by decide +kernel
theorem dX6_does_27 : decode cX6_does 27 = .ok (.aload_n 0, 1) := by decide +kernel
theorem dX6_does_28 : decode cX6_does 28 = .ok (.invokevirtual 254, 3) := by decide +kernel
theorem dX6_does_31 : decode cX6_does 31 = .ok (.iconst (-1), 1) := by decide +kernel
theorem dX6_does_32 : decode cX6_does 32 = .ok (.if_icmp .eq 7, 3) := by decide +kernel
theorem dX6_does_35 : decode cX6_does 35 = .ok (.iconst 1, 1) := by decide +kernel
theorem dX6_does_36 : decode cX6_does 36 = .ok (.goto 4, 3) := by decide +kernel
theorem dX6_does_39 : decode cX6_does 39 = .ok (.iconst 0, 1) := by decide +kernel
theorem dX6_does_40 : decode cX6_does 40 = .ok (.istore_n 1, 1) := by decide +kernel
theorem dX6_does_41 : decode cX6_does 41 = .ok (.goto (-34), 3) := by decide +kernel
theorem dX6_does_44 : decode cX6_does 44 = .ok (.aload_n 0, 1) := by decide +kernel
theorem dX6_does_45 : decode cX6_does 45 = .ok (.invokevirtual 134, 3) := by decide +kernel
theorem dX6_does_48 : decode cX6_does 48 = .ok (.aload_n 0, 1) := by decide +kernel
theorem dX6_does_49 : decode cX6_does 49 = .ok (.invokevirtual 137, 3) := by decide +kernel
theorem dX6_does_52 : decode cX6_does 52 = .ok (.aload_n 0, 1) := by decide +kernel
theorem dX6_does_53 : decode cX6_does 53 = .ok (.iconst 0, 1) := by decide +kernel
theorem dX6_does_54 : decode cX6_does 54 = .ok (.putfield 243, 3) := by decide +kernel
theorem dX6_does_57 : decode cX6_does 57 = .ok (.iconst 0, 1) := by decide +kernel
theorem dX6_does_58 : decode cX6_does 58 = .ok (.istore_n 2, 1) := by decide +kernel
theorem dX6_does_59 : decode cX6_does 59 = .ok (.aload_n 0, 1) := by decide +kernel
theorem dX6_does_60 : decode cX6_does 60 = .ok (.invokevirtual 254, 3) := by decide +kernel
theorem dX6_does_63 : decode cX6_does 63 = .ok (.iconst (-1), 1) := by decide +kernel
theorem dX6_does_64 : decode cX6_does 64 = .ok (.if_icmp .eq 14, 3) := by decide +kernel
theorem dX6_does_67 : decode cX6_does 67 = .ok (.iload_n 2, 1) := by decide +kernel
theorem dX6_does_68 : decode cX6_does 68 = .ok (.aload_n 0, 1) := by decide +kernel
theorem dX6_does_69 : decode cX6_does 69 = .ok (.iconst 1, 1) := by decide +kernel
theorem dX6_does_70 : decode cX6_does 70 = .ok (.invokevirtual 276, 3) := by decide +kernel
theorem dX6_does_73 : decode cX6_does 73 = .ok (.iadd, 1) := by decide +kernel
theorem dX6_does_74 : decode cX6_does 74 = .ok (.istore_n 2, 1) := by decide +kernel
theorem dX6_does_75 : decode cX6_does 75 = .ok (.goto (-16), 3) := by decide +kernel
theorem dX6_does_78 : decode cX6_does 78 = .ok (.iload_n 2, 1) := by decide +kernel
theorem dX6_does_79 : decode cX6_does 79 = .ok (.ireturn, 1) := by decide +kernel
theorem dX6_back_0 : decode cX6_back 0 = .ok (.aload_n 0, 1) := by decide +kernel
theorem dX6_back_1 : decode cX6_back 1 = .ok (.getfield 120, 3) := by decide +kernel
theorem dX6_back_4 : decode cX6_back 4 = .ok (.ifCond .ne 10, 3) := by decide +kernel
theorem dX6_back_7 : decode cX6_back 7 = .ok (.aload_n 0, 1) := by decide +kernel
theorem dX6_back_8 : decode cX6_back 8 = .ok (.bipush (-3), 2) := by decide +kernel
theorem dX6_back_10 : decode cX6_back 10 = .ok (.invokevirtual 130, 3) := by decide +kernel
theorem dX6_back_13 : decode cX6_back 13 = .ok (.ireturn, 1) := by decide +kernel
theorem dX6_back_14 : decode cX6_back 14 = .ok (.aload_n 0, 1) := by decide +kernel
theorem dX6_back_15 : decode cX6_back 15 = .ok (.dup, 1) := by decide +kernel
theorem dX6_back_16 : decode cX6_back 16 = .ok (.getfield 120, 3) := by decide +kernel
theorem dX6_back_19 : decode cX6_back 19 = .ok (.iconst 1, 1) := by decide +kernel
theorem dX6_back_20 : decode cX6_back 20 = .ok (.isub, 1) := by decide +kernel
theorem dX6_back_21 : decode cX6_back 21 = .ok (.putfield 120, 3) := by decide +kernel
theorem dX6_back_24 : decode cX6_back 24 = .ok (.iconst 0, 1) := by decide +kernel
theorem dX6_back_25 : decode cX6_back 25 = .ok (.istore_n 1, 1) := by decide +kernel
theorem dX6_back_26 : decode cX6_back 26 = .ok (.iload_n 1, 1) := by decide +kernel
theorem dX6_back_27 : decode cX6_back 27 = .ok (.bipush 58, 2) := by decide +kernel
theorem dX6_back_29 : decode cX6_back 29 = .ok (.if_icmp .ge 29, 3) := by decide +kernel
theorem dX6_back_32 : decode cX6_back 32 = .ok (.aload_n 0, 1) := by decide +kernel
theorem dX6_back_33 : decode cX6_back 33 = .ok (.getfield 7, 3) := by decide +kernel
theorem dX6_back_36 : decode cX6_back 36 = .ok (.iload_n 1, 1) := by decide +kernel
theorem dX6_back_37 : decode cX6_back 37 = .ok (.aload_n 0, 1) := by decide +kernel
theorem dX6_back_38 : decode cX6_back 38 = .ok (.getfield 13, 3) := by decide +kernel
theorem dX6_back_41 : decode cX6_back 41 = .ok (.bipush 58, 2) := by decide +kernel
theorem dX6_back_43 : decode cX6_back 43 = .ok (.aload_n 0, 1) := by decide +kernel
theorem dX6_back_44 : decode cX6_back 44 = .ok (.getfield 120, 3) := by decide +kernel
theorem dX6_back_47 : decode cX6_back 47 = .ok (.imul, 1) := by decide +kernel
theorem dX6_back_48 : decode cX6_back 48 = .ok (.iload_n 1, 1) := by decide +kernel
theorem dX6_back_49 : decode cX6_back 49 = .ok (.iadd, 1) := by decide +kernel
theorem dX6_back_50 : decode cX6_back 50 = .ok (.iaload, 1) := by decide +kernel
theorem dX6_back_51 : decode cX6_back 51 = .ok (.iastore, 1) := by decide +kernel
theorem dX6_back_52 : decode cX6_back 52 = .ok (.iinc 1 1, 3) := by decide +kernel
theorem dX6_back_55 : decode cX6_back 55 = .ok (.goto (-29), 3) := by decide +kernel
theorem dX6_back_58 : decode cX6_back 58 = .ok (.aload_n 0, 1) := by decide +kernel
theorem dX6_back_59 : decode cX6_back 59 = .ok (.getfield 120, 3) := by decide +kernel
theorem dX6_back_62 : decode cX6_back 62 = .ok (.ireturn, 1) := by decide +kernel
theorem dX6_toldOf_0 : decode cX6_toldOf 0 = .ok (.iload_n 1, 1) := by decide +kernel
theorem dX6_toldOf_1 : decode cX6_toldOf 1 = .ok (.iconst 3, 1) := by decide +kernel
theorem dX6_toldOf_2 : decode cX6_toldOf 2 = .ok (.if_icmp .ge 12, 3) := by decide +kernel
theorem dX6_toldOf_5 : decode cX6_toldOf 5 = .ok (.aload_n 0, 1) := by decide +kernel
theorem dX6_toldOf_6 : decode cX6_toldOf 6 = .ok (.getfield 19, 3) := by decide +kernel
theorem dX6_toldOf_9 : decode cX6_toldOf 9 = .ok (.iload_n 1, 1) := by decide +kernel
theorem dX6_toldOf_10 : decode cX6_toldOf 10 = .ok (.iaload, 1) := by decide +kernel
theorem dX6_toldOf_11 : decode cX6_toldOf 11 = .ok (.goto 47, 3) := by decide +kernel
theorem dX6_toldOf_14 : decode cX6_toldOf 14 = .ok (.iload_n 1, 1) := by decide +kernel
theorem dX6_toldOf_15 : decode cX6_toldOf 15 = .ok (.iconst 3, 1) := by decide +kernel
theorem dX6_toldOf_16 : decode cX6_toldOf 16 = .ok (.if_icmp .ne 12, 3) := by decide +kernel
theorem dX6_toldOf_19 : decode cX6_toldOf 19 = .ok (.aload_n 0, 1) := by decide +kernel
theorem dX6_toldOf_20 : decode cX6_toldOf 20 = .ok (.getfield 7, 3) := by decide +kernel
theorem dX6_toldOf_23 : decode cX6_toldOf 23 = .ok (.iconst 0, 1) := by decide +kernel
theorem dX6_toldOf_24 : decode cX6_toldOf 24 = .ok (.iaload, 1) := by decide +kernel
theorem dX6_toldOf_25 : decode cX6_toldOf 25 = .ok (.goto 33, 3) := by decide +kernel
theorem dX6_toldOf_28 : decode cX6_toldOf 28 = .ok (.iload_n 1, 1) := by decide +kernel
theorem dX6_toldOf_29 : decode cX6_toldOf 29 = .ok (.iconst 4, 1) := by decide +kernel
theorem dX6_toldOf_30 : decode cX6_toldOf 30 = .ok (.if_icmp .ne 12, 3) := by decide +kernel
theorem dX6_toldOf_33 : decode cX6_toldOf 33 = .ok (.aload_n 0, 1) := by decide +kernel
theorem dX6_toldOf_34 : decode cX6_toldOf 34 = .ok (.getfield 7, 3) := by decide +kernel
theorem dX6_toldOf_37 : decode cX6_toldOf 37 = .ok (.iconst 1, 1) := by decide +kernel
theorem dX6_toldOf_38 : decode cX6_toldOf 38 = .ok (.iaload, 1) := by decide +kernel
theorem dX6_toldOf_39 : decode cX6_toldOf 39 = .ok (.goto 19, 3) := by decide +kernel
theorem dX6_toldOf_42 : decode cX6_toldOf 42 = .ok (.iload_n 1, 1) := by decide +kernel
theorem dX6_toldOf_43 : decode cX6_toldOf 43 = .ok (.iconst 5, 1) := by decide +kernel
theorem dX6_toldOf_44 : decode cX6_toldOf 44 = .ok (.if_icmp .ne 10, 3) := by decide +kernel
theorem dX6_toldOf_47 : decode cX6_toldOf 47 = .ok (.aload_n 0, 1) := by decide +kernel
theorem dX6_toldOf_48 : decode cX6_toldOf 48 = .ok (.getfield 240, 3) := by decide +kernel
theorem dX6_toldOf_51 : decode cX6_toldOf 51 = .ok (.goto 7, 3) := by decide +kernel
theorem dX6_toldOf_54 : decode cX6_toldOf 54 = .ok (.aload_n 0, 1) := by decide +kernel
theorem dX6_toldOf_55 : decode cX6_toldOf 55 = .ok (.getfield 120, 3) := by decide +kernel
theorem dX6_toldOf_58 : decode cX6_toldOf 58 = .ok (.ireturn, 1) := by decide +kernel
theorem dX6_told_0 : decode cX6_told 0 = .ok (.iload_n 1, 1) := by decide +kernel
theorem dX6_told_1 : decode cX6_told 1 = .ok (.i2l, 1) := by decide +kernel
theorem dX6_told_2 : decode cX6_told 2 = .ok (.lconst 0, 1) := by decide +kernel
theorem dX6_told_3 : decode cX6_told 3 = .ok (.ldc2_w 125, 3) := by decide +kernel
theorem dX6_told_6 : decode cX6_told 6 = .ok (.invokestatic 65, 3) := by decide +kernel
theorem dX6_told_9 : decode cX6_told 9 = .ok (.ifCond .eq 11, 3) := by decide +kernel
theorem dX6_told_12 : decode cX6_told 12 = .ok (.aload_n 0, 1) := by decide +kernel
theorem dX6_told_13 : decode cX6_told 13 = .ok (.iload_n 1, 1) := by decide +kernel
theorem dX6_told_14 : decode cX6_told 14 = .ok (.invokevirtual 280, 3) := by decide +kernel
theorem dX6_told_17 : decode cX6_told 17 = .ok (.goto 9, 3) := by decide +kernel
theorem dX6_told_20 : decode cX6_told 20 = .ok (.aload_n 0, 1) := by decide +kernel
theorem dX6_told_21 : decode cX6_told 21 = .ok (.bipush (-2), 2) := by decide +kernel
theorem dX6_told_23 : decode cX6_told 23 = .ok (.invokevirtual 130, 3) := by decide +kernel
theorem dX6_told_26 : decode cX6_told 26 = .ok (.ireturn, 1) := by decide +kernel
theorem dX6_digest_0 : decode cX6_digest 0 = .ok (.ldc2_w 283, 3) := by decide +kernel
theorem dX6_digest_3 : decode cX6_digest 3 = .ok (.lstore_n 1, 1) := by decide +kernel
theorem dX6_digest_4 : decode cX6_digest 4 = .ok (.iconst 0, 1) := by decide +kernel
theorem dX6_digest_5 : decode cX6_digest 5 = .ok (.istore_n 3, 1) := by decide +kernel
theorem dX6_digest_6 : decode cX6_digest 6 = .ok (.iload_n 3, 1) := by decide +kernel
theorem dX6_digest_7 : decode cX6_digest 7 = .ok (.bipush 7, 2) := by decide +kernel
theorem dX6_digest_9 : decode cX6_digest 9 = .ok (.if_icmp .ge 22, 3) := by decide +kernel
theorem dX6_digest_12 : decode cX6_digest 12 = .ok (.ldc2_w 285, 3) := by decide +kernel
theorem dX6_digest_15 : decode cX6_digest 15 = .ok (.lload_n 1, 1) := by decide +kernel
theorem dX6_digest_16 : decode cX6_digest 16 = .ok (.lmul, 1) := by decide +kernel
theorem dX6_digest_17 : decode cX6_digest 17 = .ok (.aload_n 0, 1) := by decide +kernel
theorem dX6_digest_18 : decode cX6_digest 18 = .ok (.iload_n 3, 1) := by decide +kernel
theorem dX6_digest_19 : decode cX6_digest 19 = .ok (.invokevirtual 280, 3) := by decide +kernel
theorem dX6_digest_22 : decode cX6_digest 22 = .ok (.i2l, 1) := by decide +kernel
theorem dX6_digest_23 : decode cX6_digest 23 = .ok (.ladd, 1) := by decide +kernel
theorem dX6_digest_24 : decode cX6_digest 24 = .ok (.lstore_n 1, 1) := by decide +kernel
theorem dX6_digest_25 : decode cX6_digest 25 = .ok (.iinc 3 1, 3) := by decide +kernel
theorem dX6_digest_28 : decode cX6_digest 28 = .ok (.goto (-22), 3) := by decide +kernel
theorem dX6_digest_31 : decode cX6_digest 31 = .ok (.aload_n 0, 1) := by decide +kernel
theorem dX6_digest_32 : decode cX6_digest 32 = .ok (.aload_n 0, 1) := by decide +kernel
theorem dX6_digest_33 : decode cX6_digest 33 = .ok (.invokevirtual 179, 3) := by decide +kernel
theorem dX6_digest_36 : decode cX6_digest 36 = .ok (.invokevirtual 104, 3) := by decide +kernel
theorem dX6_digest_39 : decode cX6_digest 39 = .ok (.iconst 0, 1) := by decide +kernel
theorem dX6_digest_40 : decode cX6_digest 40 = .ok (.istore_n 3, 1) := by decide +kernel
theorem dX6_digest_41 : decode cX6_digest 41 = .ok (.iload_n 3, 1) := by decide +kernel
theorem dX6_digest_42 : decode cX6_digest 42 = .ok (.aload_n 0, 1) := by decide +kernel
theorem dX6_digest_43 : decode cX6_digest 43 = .ok (.getfield 7, 3) := by decide +kernel
theorem dX6_digest_46 : decode cX6_digest 46 = .ok (.iconst 0, 1) := by decide +kernel
theorem dX6_digest_47 : decode cX6_digest 47 = .ok (.iaload, 1) := by decide +kernel
theorem dX6_digest_48 : decode cX6_digest 48 = .ok (.if_icmp .ge 39, 3) := by decide +kernel
theorem dX6_digest_51 : decode cX6_digest 51 = .ok (.ldc2_w 285, 3) := by decide +kernel
theorem dX6_digest_54 : decode cX6_digest 54 = .ok (.lload_n 1, 1) := by decide +kernel
theorem dX6_digest_55 : decode cX6_digest 55 = .ok (.lmul, 1) := by decide +kernel
theorem dX6_digest_56 : decode cX6_digest 56 = .ok (.aload_n 0, 1) := by decide +kernel
theorem dX6_digest_57 : decode cX6_digest 57 = .ok (.getfield 7, 3) := by decide +kernel
theorem dX6_digest_60 : decode cX6_digest 60 = .ok (.iconst 2, 1) := by decide +kernel
theorem dX6_digest_61 : decode cX6_digest 61 = .ok (.iload_n 3, 1) := by decide +kernel
theorem dX6_digest_62 : decode cX6_digest 62 = .ok (.iadd, 1) := by decide +kernel
theorem dX6_digest_63 : decode cX6_digest 63 = .ok (.iaload, 1) := by decide +kernel
theorem dX6_digest_64 : decode cX6_digest 64 = .ok (.i2l, 1) := by decide +kernel
theorem dX6_digest_65 : decode cX6_digest 65 = .ok (.ladd, 1) := by decide +kernel
theorem dX6_digest_66 : decode cX6_digest 66 = .ok (.lstore_n 1, 1) := by decide +kernel
theorem dX6_digest_67 : decode cX6_digest 67 = .ok (.ldc2_w 285, 3) := by decide +kernel
theorem dX6_digest_70 : decode cX6_digest 70 = .ok (.lload_n 1, 1) := by decide +kernel
theorem dX6_digest_71 : decode cX6_digest 71 = .ok (.lmul, 1) := by decide +kernel
theorem dX6_digest_72 : decode cX6_digest 72 = .ok (.aload_n 0, 1) := by decide +kernel
theorem dX6_digest_73 : decode cX6_digest 73 = .ok (.getfield 29, 3) := by decide +kernel
theorem dX6_digest_76 : decode cX6_digest 76 = .ok (.iload_n 3, 1) := by decide +kernel
theorem dX6_digest_77 : decode cX6_digest 77 = .ok (.iaload, 1) := by decide +kernel
theorem dX6_digest_78 : decode cX6_digest 78 = .ok (.i2l, 1) := by decide +kernel
theorem dX6_digest_79 : decode cX6_digest 79 = .ok (.ladd, 1) := by decide +kernel
theorem dX6_digest_80 : decode cX6_digest 80 = .ok (.lstore_n 1, 1) := by decide +kernel
theorem dX6_digest_81 : decode cX6_digest 81 = .ok (.iinc 3 1, 3) := by decide +kernel
theorem dX6_digest_84 : decode cX6_digest 84 = .ok (.goto (-43), 3) := by decide +kernel
theorem dX6_digest_87 : decode cX6_digest 87 = .ok (.iconst 0, 1) := by decide +kernel
theorem dX6_digest_88 : decode cX6_digest 88 = .ok (.istore_n 3, 1) := by decide +kernel
theorem dX6_digest_89 : decode cX6_digest 89 = .ok (.iload_n 3, 1) := by decide +kernel
theorem dX6_digest_90 : decode cX6_digest 90 = .ok (.aload_n 0, 1) := by decide +kernel
theorem dX6_digest_91 : decode cX6_digest 91 = .ok (.getfield 7, 3) := by decide +kernel
theorem dX6_digest_94 : decode cX6_digest 94 = .ok (.iconst 1, 1) := by decide +kernel
theorem dX6_digest_95 : decode cX6_digest 95 = .ok (.iaload, 1) := by decide +kernel
theorem dX6_digest_96 : decode cX6_digest 96 = .ok (.if_icmp .ge 108, 3) := by decide +kernel
theorem dX6_digest_99 : decode cX6_digest 99 = .ok (.iconst 0, 1) := by decide +kernel
theorem dX6_digest_100 : decode cX6_digest 100 = .ok (.istore 4, 2) := by decide +kernel
theorem dX6_digest_102 : decode cX6_digest 102 = .ok (.iload 4, 2) := by decide +kernel
theorem dX6_digest_104 : decode cX6_digest 104 = .ok (.bipush 6, 2) := by decide +kernel
theorem dX6_digest_106 : decode cX6_digest 106 = .ok (.if_icmp .ge 46, 3) := by decide +kernel
theorem dX6_digest_109 : decode cX6_digest 109 = .ok (.ldc2_w 285, 3) := by decide +kernel
theorem dX6_digest_112 : decode cX6_digest 112 = .ok (.lload_n 1, 1) := by decide +kernel
theorem dX6_digest_113 : decode cX6_digest 113 = .ok (.lmul, 1) := by decide +kernel
theorem dX6_digest_114 : decode cX6_digest 114 = .ok (.iload 4, 2) := by decide +kernel
theorem dX6_digest_116 : decode cX6_digest 116 = .ok (.iconst 5, 1) := by decide +kernel
theorem dX6_digest_117 : decode cX6_digest 117 = .ok (.if_icmp .ge 13, 3) := by decide +kernel
theorem dX6_digest_120 : decode cX6_digest 120 = .ok (.aload_n 0, 1) := by decide +kernel
theorem dX6_digest_121 : decode cX6_digest 121 = .ok (.iload_n 3, 1) := by decide +kernel
theorem dX6_digest_122 : decode cX6_digest 122 = .ok (.iload 4, 2) := by decide +kernel
theorem dX6_digest_124 : decode cX6_digest 124 = .ok (.invokevirtual 69, 3) := by decide +kernel
theorem dX6_digest_127 : decode cX6_digest 127 = .ok (.goto 16, 3) := by decide +kernel
theorem dX6_digest_130 : decode cX6_digest 130 = .ok (.aload_n 0, 1) := by decide +kernel
theorem dX6_digest_131 : decode cX6_digest 131 = .ok (.iload_n 3, 1) := by decide +kernel
theorem dX6_digest_132 : decode cX6_digest 132 = .ok (.invokevirtual 183, 3) := by decide +kernel
theorem dX6_digest_135 : decode cX6_digest 135 = .ok (.ifCond .eq 7, 3) := by decide +kernel
theorem dX6_digest_138 : decode cX6_digest 138 = .ok (.iconst 1, 1) := by decide +kernel
theorem dX6_digest_139 : decode cX6_digest 139 = .ok (.goto 4, 3) := by decide +kernel
theorem dX6_digest_142 : decode cX6_digest 142 = .ok (.iconst 0, 1) := by decide +kernel
theorem dX6_digest_143 : decode cX6_digest 143 = .ok (.i2l, 1) := by decide +kernel
theorem dX6_digest_144 : decode cX6_digest 144 = .ok (.ladd, 1) := by decide +kernel
theorem dX6_digest_145 : decode cX6_digest 145 = .ok (.lstore_n 1, 1) := by decide +kernel
theorem dX6_digest_146 : decode cX6_digest 146 = .ok (.iinc 4 1, 3) := by decide +kernel
theorem dX6_digest_149 : decode cX6_digest 149 = .ok (.goto (-47), 3) := by decide +kernel
theorem dX6_digest_152 : decode cX6_digest 152 = .ok (.aload_n 0, 1) := by decide +kernel
theorem dX6_digest_153 : decode cX6_digest 153 = .ok (.invokevirtual 186, 3) := by decide +kernel
theorem dX6_digest_156 : decode cX6_digest 156 = .ok (.aload_n 0, 1) := by decide +kernel
theorem dX6_digest_157 : decode cX6_digest 157 = .ok (.aload_n 0, 1) := by decide +kernel
theorem dX6_digest_158 : decode cX6_digest 158 = .ok (.invokevirtual 179, 3) := by decide +kernel
theorem dX6_digest_161 : decode cX6_digest 161 = .ok (.invokevirtual 189, 3) := by decide +kernel
theorem dX6_digest_164 : decode cX6_digest 164 = .ok (.ldc2_w 285, 3) := by decide +kernel
theorem dX6_digest_167 : decode cX6_digest 167 = .ok (.lload_n 1, 1) := by decide +kernel
theorem dX6_digest_168 : decode cX6_digest 168 = .ok (.lmul, 1) := by decide +kernel
theorem dX6_digest_169 : decode cX6_digest 169 = .ok (.aload_n 0, 1) := by decide +kernel
theorem dX6_digest_170 : decode cX6_digest 170 = .ok (.iload_n 3, 1) := by decide +kernel
theorem dX6_digest_171 : decode cX6_digest 171 = .ok (.aload_n 0, 1) := by decide +kernel
theorem dX6_digest_172 : decode cX6_digest 172 = .ok (.invokevirtual 179, 3) := by decide +kernel
theorem dX6_digest_175 : decode cX6_digest 175 = .ok (.iconst 0, 1) := by decide +kernel
theorem dX6_digest_176 : decode cX6_digest 176 = .ok (.invokevirtual 192, 3) := by decide +kernel
theorem dX6_digest_179 : decode cX6_digest 179 = .ok (.ladd, 1) := by decide +kernel
theorem dX6_digest_180 : decode cX6_digest 180 = .ok (.lstore_n 1, 1) := by decide +kernel
theorem dX6_digest_181 : decode cX6_digest 181 = .ok (.ldc2_w 285, 3) := by decide +kernel
theorem dX6_digest_184 : decode cX6_digest 184 = .ok (.lload_n 1, 1) := by decide +kernel
theorem dX6_digest_185 : decode cX6_digest 185 = .ok (.lmul, 1) := by decide +kernel
theorem dX6_digest_186 : decode cX6_digest 186 = .ok (.aload_n 0, 1) := by decide +kernel
theorem dX6_digest_187 : decode cX6_digest 187 = .ok (.iload_n 3, 1) := by decide +kernel
theorem dX6_digest_188 : decode cX6_digest 188 = .ok (.aload_n 0, 1) := by decide +kernel
theorem dX6_digest_189 : decode cX6_digest 189 = .ok (.invokevirtual 179, 3) := by decide +kernel
theorem dX6_digest_192 : decode cX6_digest 192 = .ok (.iconst 1, 1) := by decide +kernel
theorem dX6_digest_193 : decode cX6_digest 193 = .ok (.invokevirtual 192, 3) := by decide +kernel
theorem dX6_digest_196 : decode cX6_digest 196 = .ok (.ladd, 1) := by decide +kernel
theorem dX6_digest_197 : decode cX6_digest 197 = .ok (.lstore_n 1, 1) := by decide +kernel
theorem dX6_digest_198 : decode cX6_digest 198 = .ok (.iinc 3 1, 3) := by decide +kernel
theorem dX6_digest_201 : decode cX6_digest 201 = .ok (.goto (-112), 3) := by decide +kernel
theorem dX6_digest_204 : decode cX6_digest 204 = .ok (.aload_n 0, 1) := by decide +kernel
theorem dX6_digest_205 : decode cX6_digest 205 = .ok (.aload_n 0, 1) := by decide +kernel
theorem dX6_digest_206 : decode cX6_digest 206 = .ok (.invokevirtual 179, 3) := by decide +kernel
theorem dX6_digest_209 : decode cX6_digest 209 = .ok (.invokevirtual 215, 3) := by decide +kernel
theorem dX6_digest_212 : decode cX6_digest 212 = .ok (.ldc2_w 285, 3) := by decide +kernel
theorem dX6_digest_215 : decode cX6_digest 215 = .ok (.lload_n 1, 1) := by decide +kernel
theorem dX6_digest_216 : decode cX6_digest 216 = .ok (.lmul, 1) := by decide +kernel
theorem dX6_digest_217 : decode cX6_digest 217 = .ok (.aload_n 0, 1) := by decide +kernel
theorem dX6_digest_218 : decode cX6_digest 218 = .ok (.getfield 200, 3) := by decide +kernel
theorem dX6_digest_221 : decode cX6_digest 221 = .ok (.i2l, 1) := by decide +kernel
theorem dX6_digest_222 : decode cX6_digest 222 = .ok (.ladd, 1) := by decide +kernel
theorem dX6_digest_223 : decode cX6_digest 223 = .ok (.lstore_n 1, 1) := by decide +kernel
theorem dX6_digest_224 : decode cX6_digest 224 = .ok (.iconst 0, 1) := by decide +kernel
theorem dX6_digest_225 : decode cX6_digest 225 = .ok (.istore_n 3, 1) := by decide +kernel
theorem dX6_digest_226 : decode cX6_digest 226 = .ok (.iload_n 3, 1) := by decide +kernel
theorem dX6_digest_227 : decode cX6_digest 227 = .ok (.bipush 6, 2) := by decide +kernel
theorem dX6_digest_229 : decode cX6_digest 229 = .ok (.if_icmp .ge 22, 3) := by decide +kernel
theorem dX6_digest_232 : decode cX6_digest 232 = .ok (.ldc2_w 285, 3) := by decide +kernel
theorem dX6_digest_235 : decode cX6_digest 235 = .ok (.lload_n 1, 1) := by decide +kernel
theorem dX6_digest_236 : decode cX6_digest 236 = .ok (.lmul, 1) := by decide +kernel
theorem dX6_digest_237 : decode cX6_digest 237 = .ok (.aload_n 0, 1) := by decide +kernel
theorem dX6_digest_238 : decode cX6_digest 238 = .ok (.iload_n 3, 1) := by decide +kernel
theorem dX6_digest_239 : decode cX6_digest 239 = .ok (.invokevirtual 235, 3) := by decide +kernel
theorem dX6_digest_242 : decode cX6_digest 242 = .ok (.i2l, 1) := by decide +kernel
theorem dX6_digest_243 : decode cX6_digest 243 = .ok (.ladd, 1) := by decide +kernel
theorem dX6_digest_244 : decode cX6_digest 244 = .ok (.lstore_n 1, 1) := by decide +kernel
theorem dX6_digest_245 : decode cX6_digest 245 = .ok (.iinc 3 1, 3) := by decide +kernel
theorem dX6_digest_248 : decode cX6_digest 248 = .ok (.goto (-22), 3) := by decide +kernel
theorem dX6_digest_251 : decode cX6_digest 251 = .ok (.lload_n 1, 1) := by decide +kernel
theorem dX6_digest_252 : decode cX6_digest 252 = .ok (.lreturn, 1) := by decide +kernel
