theorem dX7_init_0 : decode cX7_init 0 = .ok (.aload_n 0, 1) := by decide +kernel
theorem dX7_init_1 : decode cX7_init 1 = .ok (.invokespecial 3, 3) := by decide +kernel
theorem dX7_init_4 : decode cX7_init 4 = .ok (.aload_n 0, 1) := by decide +kernel
theorem dX7_init_5 : decode cX7_init 5 = .ok (.new 9, 3) := by decide +kernel
theorem dX7_init_8 : decode cX7_init 8 = .ok (.dup, 1) := by decide +kernel
theorem dX7_init_9 : decode cX7_init 9 = .ok (.invokespecial 11, 3) := by decide +kernel
theorem dX7_init_12 : decode cX7_init 12 = .ok (.putfield 12, 3) := by decide +kernel
theorem dX7_init_15 : decode cX7_init 15 = .ok (.aload_n 0, 1) := by decide +kernel
theorem dX7_init_16 : decode cX7_init 16 = .ok (.new 9, 3) := by decide +kernel
theorem dX7_init_19 : decode cX7_init 19 = .ok (.dup, 1) := by decide +kernel
theorem dX7_init_20 : decode cX7_init 20 = .ok (.invokespecial 11, 3) := by decide +kernel
theorem dX7_init_23 : decode cX7_init 23 = .ok (.putfield 18, 3) := by decide +kernel
theorem dX7_init_26 : decode cX7_init 26 = .ok (.aload_n 0, 1) := by decide +kernel
theorem dX7_init_27 : decode cX7_init 27 = .ok (.new 9, 3) := by decide +kernel
theorem dX7_init_30 : decode cX7_init 30 = .ok (.dup, 1) := by decide +kernel
theorem dX7_init_31 : decode cX7_init 31 = .ok (.invokespecial 11, 3) := by decide +kernel
theorem dX7_init_34 : decode cX7_init 34 = .ok (.putfield 21, 3) := by decide +kernel
theorem dX7_init_37 : decode cX7_init 37 = .ok (.aload_n 0, 1) := by decide +kernel
theorem dX7_init_38 : decode cX7_init 38 = .ok (.new 9, 3) := by decide +kernel
theorem dX7_init_41 : decode cX7_init 41 = .ok (.dup, 1) := by decide +kernel
theorem dX7_init_42 : decode cX7_init 42 = .ok (.invokespecial 11, 3) := by decide +kernel
theorem dX7_init_45 : decode cX7_init 45 = .ok (.putfield 24, 3) := by decide +kernel
theorem dX7_init_48 : decode cX7_init 48 = .ok (.aload_n 0, 1) := by decide +kernel
theorem dX7_init_49 : decode cX7_init 49 = .ok (.aload_n 1, 1) := by decide +kernel
theorem dX7_init_50 : decode cX7_init 50 = .ok (.putfield 27, 3) := by decide +kernel
theorem dX7_init_53 : decode cX7_init 53 = .ok (.return_, 1) := by decide +kernel
theorem dX7_reduce_0 : decode cX7_reduce 0 = .ok (.aload_n 1, 1) := by decide +kernel
theorem dX7_reduce_1 : decode cX7_reduce 1 = .ok (.invokevirtual 31, 3) := by decide +kernel
theorem dX7_reduce_4 : decode cX7_reduce 4 = .ok (.istore_n 3, 1) := by decide +kernel
theorem dX7_reduce_5 : decode cX7_reduce 5 = .ok (.iload_n 3, 1) := by decide +kernel
theorem dX7_reduce_6 : decode cX7_reduce 6 = .ok (.iconst (-1), 1) := by decide +kernel
theorem dX7_reduce_7 : decode cX7_reduce 7 = .ok (.if_icmp .ne 5, 3) := by decide +kernel
theorem dX7_reduce_10 : decode cX7_reduce 10 = .ok (.iconst 0, 1) := by decide +kernel
theorem dX7_reduce_11 : decode cX7_reduce 11 = .ok (.ireturn, 1) := by decide +kernel
theorem dX7_reduce_12 : decode cX7_reduce 12 = .ok (.aload_n 1, 1) := by decide +kernel
theorem dX7_reduce_13 : decode cX7_reduce 13 = .ok (.iload_n 3, 1) := by decide +kernel
theorem dX7_reduce_14 : decode cX7_reduce 14 = .ok (.invokevirtual 35, 3) := by decide +kernel
theorem dX7_reduce_17 : decode cX7_reduce 17 = .ok (.istore 4, 2) := by decide +kernel
theorem dX7_reduce_19 : decode cX7_reduce 19 = .ok (.aload_n 0, 1) := by decide +kernel
theorem dX7_reduce_20 : decode cX7_reduce 20 = .ok (.getfield 27, 3) := by decide +kernel
theorem dX7_reduce_23 : decode cX7_reduce 23 = .ok (.aload_n 1, 1) := by decide +kernel
theorem dX7_reduce_24 : decode cX7_reduce 24 = .ok (.invokevirtual 39, 3) := by decide +kernel
theorem dX7_reduce_27 : decode cX7_reduce 27 = .ok (.iload 4, 2) := by decide +kernel
theorem dX7_reduce_29 : decode cX7_reduce 29 = .ok (.bipush 7, 2) := by decide +kernel
theorem dX7_reduce_31 : decode cX7_reduce 31 = .ok (.if_icmp .ne 11, 3) := by decide +kernel
theorem dX7_reduce_34 : decode cX7_reduce 34 = .ok (.aload_n 0, 1) := by decide +kernel
theorem dX7_reduce_35 : decode cX7_reduce 35 = .ok (.getfield 27, 3) := by decide +kernel
theorem dX7_reduce_38 : decode cX7_reduce 38 = .ok (.invokevirtual 45, 3) := by decide +kernel
theorem dX7_reduce_41 : decode cX7_reduce 41 = .ok (.pop, 1) := by decide +kernel
theorem dX7_reduce_42 : decode cX7_reduce 42 = .ok (.aload_n 0, 1) := by decide +kernel
theorem dX7_reduce_43 : decode cX7_reduce 43 = .ok (.aload_n 1, 1) := by decide +kernel
theorem dX7_reduce_44 : decode cX7_reduce 44 = .ok (.putfield 12, 3) := by decide +kernel
theorem dX7_reduce_47 : decode cX7_reduce 47 = .ok (.aload_n 0, 1) := by decide +kernel
theorem dX7_reduce_48 : decode cX7_reduce 48 = .ok (.aload_n 2, 1) := by decide +kernel
theorem dX7_reduce_49 : decode cX7_reduce 49 = .ok (.putfield 18, 3) := by decide +kernel
theorem dX7_reduce_52 : decode cX7_reduce 52 = .ok (.aload_n 2, 1) := by decide +kernel
theorem dX7_reduce_53 : decode cX7_reduce 53 = .ok (.invokevirtual 48, 3) := by decide +kernel
theorem dX7_reduce_56 : decode cX7_reduce 56 = .ok (.aload_n 0, 1) := by decide +kernel
theorem dX7_reduce_57 : decode cX7_reduce 57 = .ok (.iconst 0, 1) := by decide +kernel
theorem dX7_reduce_58 : decode cX7_reduce 58 = .ok (.iload_n 3, 1) := by decide +kernel
theorem dX7_reduce_59 : decode cX7_reduce 59 = .ok (.invokevirtual 51, 3) := by decide +kernel
theorem dX7_reduce_62 : decode cX7_reduce 62 = .ok (.aload_n 0, 1) := by decide +kernel
theorem dX7_reduce_63 : decode cX7_reduce 63 = .ok (.iload_n 3, 1) := by decide +kernel
theorem dX7_reduce_64 : decode cX7_reduce 64 = .ok (.iload 4, 2) := by decide +kernel
theorem dX7_reduce_66 : decode cX7_reduce 66 = .ok (.invokevirtual 55, 3) := by decide +kernel
theorem dX7_reduce_69 : decode cX7_reduce 69 = .ok (.aload_n 0, 1) := by decide +kernel
theorem dX7_reduce_70 : decode cX7_reduce 70 = .ok (.aload_n 0, 1) := by decide +kernel
theorem dX7_reduce_71 : decode cX7_reduce 71 = .ok (.getfield 27, 3) := by decide +kernel
theorem dX7_reduce_74 : decode cX7_reduce 74 = .ok (.iload_n 3, 1) := by decide +kernel
theorem dX7_reduce_75 : decode cX7_reduce 75 = .ok (.invokevirtual 58, 3) := by decide +kernel
theorem dX7_reduce_78 : decode cX7_reduce 78 = .ok (.aload_n 1, 1) := by decide +kernel
theorem dX7_reduce_79 : decode cX7_reduce 79 = .ok (.getfield 61, 3) := by decide +kernel
theorem dX7_reduce_82 : decode cX7_reduce 82 = .ok (.invokevirtual 51, 3) := by decide +kernel
theorem dX7_reduce_85 : decode cX7_reduce 85 = .ok (.aload_n 2, 1) := by decide +kernel
theorem dX7_reduce_86 : decode cX7_reduce 86 = .ok (.getfield 65, 3) := by decide +kernel
theorem dX7_reduce_89 : decode cX7_reduce 89 = .ok (.ifCond .eq 8, 3) := by decide +kernel
theorem dX7_reduce_92 : decode cX7_reduce 92 = .ok (.bipush (-4), 2) := by decide +kernel
theorem dX7_reduce_94 : decode cX7_reduce 94 = .ok (.goto 5, 3) := by decide +kernel
theorem dX7_reduce_97 : decode cX7_reduce 97 = .ok (.iload 4, 2) := by decide +kernel
theorem dX7_reduce_99 : decode cX7_reduce 99 = .ok (.ireturn, 1) := by decide +kernel
theorem dX7_contract_0 : decode cX7_contract 0 = .ok (.iload_n 1, 1) := by decide +kernel
theorem dX7_contract_1 : decode cX7_contract 1 = .ok (.iconst 1, 1) := by decide +kernel
theorem dX7_contract_2 : decode cX7_contract 2 = .ok (.iadd, 1) := by decide +kernel
theorem dX7_contract_3 : decode cX7_contract 3 = .ok (.istore_n 3, 1) := by decide +kernel
theorem dX7_contract_4 : decode cX7_contract 4 = .ok (.iload_n 1, 1) := by decide +kernel
theorem dX7_contract_5 : decode cX7_contract 5 = .ok (.iconst 2, 1) := by decide +kernel
theorem dX7_contract_6 : decode cX7_contract 6 = .ok (.iadd, 1) := by decide +kernel
theorem dX7_contract_7 : decode cX7_contract 7 = .ok (.istore 4, 2) := by decide +kernel
theorem dX7_contract_9 : decode cX7_contract 9 = .ok (.aload_n 0, 1) := by decide +kernel
theorem dX7_contract_10 : decode cX7_contract 10 = .ok (.getfield 27, 3) := by decide +kernel
theorem dX7_contract_13 : decode cX7_contract 13 = .ok (.iload_n 3, 1) := by decide +kernel
theorem dX7_contract_14 : decode cX7_contract 14 = .ok (.invokevirtual 58, 3) := by decide +kernel
theorem dX7_contract_17 : decode cX7_contract 17 = .ok (.istore 5, 2) := by decide +kernel
theorem dX7_contract_19 : decode cX7_contract 19 = .ok (.aload_n 0, 1) := by decide +kernel
theorem dX7_contract_20 : decode cX7_contract 20 = .ok (.getfield 27, 3) := by decide +kernel
theorem dX7_contract_23 : decode cX7_contract 23 = .ok (.iload 4, 2) := by decide +kernel
theorem dX7_contract_25 : decode cX7_contract 25 = .ok (.invokevirtual 58, 3) := by decide +kernel
theorem dX7_contract_28 : decode cX7_contract 28 = .ok (.istore 6, 2) := by decide +kernel
theorem dX7_contract_30 : decode cX7_contract 30 = .ok (.iload_n 2, 1) := by decide +kernel
theorem dX7_contract_31 : decode cX7_contract 31 = .ok (.tableswitch 122 1 6 #[37, 57, 68, 79, 93, 114], 37) := by decide +kernel
theorem dX7_contract_68 : decode cX7_contract 68 = .ok (.aload_n 0, 1) := by decide +kernel
theorem dX7_contract_69 : decode cX7_contract 69 = .ok (.iload_n 1, 1) := by decide +kernel
theorem dX7_contract_70 : decode cX7_contract 70 = .ok (.iload 4, 2) := by decide +kernel
theorem dX7_contract_72 : decode cX7_contract 72 = .ok (.iload 5, 2) := by decide +kernel
theorem dX7_contract_74 : decode cX7_contract 74 = .ok (.aload_n 0, 1) := by decide +kernel
theorem dX7_contract_75 : decode cX7_contract 75 = .ok (.getfield 27, 3) := by decide +kernel
theorem dX7_contract_78 : decode cX7_contract 78 = .ok (.iload_n 1, 1) := by decide +kernel
theorem dX7_contract_79 : decode cX7_contract 79 = .ok (.invokevirtual 58, 3) := by decide +kernel
theorem dX7_contract_82 : decode cX7_contract 82 = .ok (.invokevirtual 69, 3) := by decide +kernel
theorem dX7_contract_85 : decode cX7_contract 85 = .ok (.goto 93, 3) := by decide +kernel
theorem dX7_contract_88 : decode cX7_contract 88 = .ok (.aload_n 0, 1) := by decide +kernel
theorem dX7_contract_89 : decode cX7_contract 89 = .ok (.iload 4, 2) := by decide +kernel
theorem dX7_contract_91 : decode cX7_contract 91 = .ok (.iload 6, 2) := by decide +kernel
theorem dX7_contract_93 : decode cX7_contract 93 = .ok (.invokevirtual 51, 3) := by decide +kernel
theorem dX7_contract_96 : decode cX7_contract 96 = .ok (.goto 82, 3) := by decide +kernel
theorem dX7_contract_99 : decode cX7_contract 99 = .ok (.aload_n 0, 1) := by decide +kernel
theorem dX7_contract_100 : decode cX7_contract 100 = .ok (.iload 6, 2) := by decide +kernel
theorem dX7_contract_102 : decode cX7_contract 102 = .ok (.iload 5, 2) := by decide +kernel
theorem dX7_contract_104 : decode cX7_contract 104 = .ok (.invokevirtual 51, 3) := by decide +kernel
theorem dX7_contract_107 : decode cX7_contract 107 = .ok (.goto 71, 3) := by decide +kernel
theorem dX7_contract_110 : decode cX7_contract 110 = .ok (.aload_n 0, 1) := by decide +kernel
theorem dX7_contract_111 : decode cX7_contract 111 = .ok (.iload_n 1, 1) := by decide +kernel
theorem dX7_contract_112 : decode cX7_contract 112 = .ok (.iload 5, 2) := by decide +kernel
theorem dX7_contract_114 : decode cX7_contract 114 = .ok (.iload 4, 2) := by decide +kernel
theorem dX7_contract_116 : decode cX7_contract 116 = .ok (.iload 5, 2) := by decide +kernel
theorem dX7_contract_118 : decode cX7_contract 118 = .ok (.invokevirtual 69, 3) := by decide +kernel
theorem dX7_contract_121 : decode cX7_contract 121 = .ok (.goto 57, 3) := by decide +kernel
theorem dX7_contract_124 : decode cX7_contract 124 = .ok (.aload_n 0, 1) := by decide +kernel
theorem dX7_contract_125 : decode cX7_contract 125 = .ok (.iload_n 1, 1) := by decide +kernel
theorem dX7_contract_126 : decode cX7_contract 126 = .ok (.aload_n 0, 1) := by decide +kernel
theorem dX7_contract_127 : decode cX7_contract 127 = .ok (.getfield 27, 3) := by decide +kernel
theorem dX7_contract_130 : decode cX7_contract 130 = .ok (.iload 5, 2) := by decide +kernel
theorem dX7_contract_132 : decode cX7_contract 132 = .ok (.invokevirtual 58, 3) := by decide +kernel
theorem dX7_contract_135 : decode cX7_contract 135 = .ok (.iload 4, 2) := by decide +kernel
theorem dX7_contract_137 : decode cX7_contract 137 = .ok (.iload 5, 2) := by decide +kernel
theorem dX7_contract_139 : decode cX7_contract 139 = .ok (.invokevirtual 69, 3) := by decide +kernel
theorem dX7_contract_142 : decode cX7_contract 142 = .ok (.goto 36, 3) := by decide +kernel
theorem dX7_contract_145 : decode cX7_contract 145 = .ok (.aload_n 0, 1) := by decide +kernel
theorem dX7_contract_146 : decode cX7_contract 146 = .ok (.iload_n 1, 1) := by decide +kernel
theorem dX7_contract_147 : decode cX7_contract 147 = .ok (.invokevirtual 73, 3) := by decide +kernel
theorem dX7_contract_150 : decode cX7_contract 150 = .ok (.goto 28, 3) := by decide +kernel
theorem dX7_contract_153 : decode cX7_contract 153 = .ok (.aload_n 0, 1) := by decide +kernel
theorem dX7_contract_154 : decode cX7_contract 154 = .ok (.getfield 18, 3) := by decide +kernel
theorem dX7_contract_157 : decode cX7_contract 157 = .ok (.bipush 10, 2) := by decide +kernel
theorem dX7_contract_159 : decode cX7_contract 159 = .ok (.aload_n 0, 1) := by decide +kernel
theorem dX7_contract_160 : decode cX7_contract 160 = .ok (.getfield 27, 3) := by decide +kernel
theorem dX7_contract_163 : decode cX7_contract 163 = .ok (.iload_n 1, 1) := by decide +kernel
theorem dX7_contract_164 : decode cX7_contract 164 = .ok (.invokevirtual 77, 3) := by decide +kernel
theorem dX7_contract_167 : decode cX7_contract 167 = .ok (.invokevirtual 80, 3) := by decide +kernel
theorem dX7_contract_170 : decode cX7_contract 170 = .ok (.aload_n 0, 1) := by decide +kernel
theorem dX7_contract_171 : decode cX7_contract 171 = .ok (.iload 4, 2) := by decide +kernel
theorem dX7_contract_173 : decode cX7_contract 173 = .ok (.iload 5, 2) := by decide +kernel
theorem dX7_contract_175 : decode cX7_contract 175 = .ok (.invokevirtual 51, 3) := by decide +kernel
theorem dX7_contract_178 : decode cX7_contract 178 = .ok (.return_, 1) := by decide +kernel
theorem dX7_copyPlain_0 : decode cX7_copyPlain 0 = .ok (.aload_n 0, 1) := by decide +kernel
theorem dX7_copyPlain_1 : decode cX7_copyPlain 1 = .ok (.aload_n 0, 1) := by decide +kernel
theorem dX7_copyPlain_2 : decode cX7_copyPlain 2 = .ok (.getfield 12, 3) := by decide +kernel
theorem dX7_copyPlain_5 : decode cX7_copyPlain 5 = .ok (.iload_n 1, 1) := by decide +kernel
theorem dX7_copyPlain_6 : decode cX7_copyPlain 6 = .ok (.iload_n 2, 1) := by decide +kernel
theorem dX7_copyPlain_7 : decode cX7_copyPlain 7 = .ok (.iconst 0, 1) := by decide +kernel
theorem dX7_copyPlain_8 : decode cX7_copyPlain 8 = .ok (.iconst 0, 1) := by decide +kernel
theorem dX7_copyPlain_9 : decode cX7_copyPlain 9 = .ok (.invokevirtual 83, 3) := by decide +kernel
theorem dX7_copyPlain_12 : decode cX7_copyPlain 12 = .ok (.return_, 1) := by decide +kernel
theorem dX7_copyDeeper_0 : decode cX7_copyDeeper 0 = .ok (.iload_n 2, 1) := by decide +kernel
theorem dX7_copyDeeper_1 : decode cX7_copyDeeper 1 = .ok (.istore 6, 2) := by decide +kernel
theorem dX7_copyDeeper_3 : decode cX7_copyDeeper 3 = .ok (.iload 6, 2) := by decide +kernel
theorem dX7_copyDeeper_5 : decode cX7_copyDeeper 5 = .ok (.iload_n 3, 1) := by decide +kernel
theorem dX7_copyDeeper_6 : decode cX7_copyDeeper 6 = .ok (.if_icmp .ge 87, 3) := by decide +kernel
theorem dX7_copyDeeper_9 : decode cX7_copyDeeper 9 = .ok (.iload 6, 2) := by decide +kernel
theorem dX7_copyDeeper_11 : decode cX7_copyDeeper 11 = .ok (.sipush 200, 3) := by decide +kernel
theorem dX7_copyDeeper_14 : decode cX7_copyDeeper 14 = .ok (.if_icmp .ge 79, 3) := by decide +kernel
theorem dX7_copyDeeper_17 : decode cX7_copyDeeper 17 = .ok (.aload_n 0, 1) := by decide +kernel
theorem dX7_copyDeeper_18 : decode cX7_copyDeeper 18 = .ok (.getfield 18, 3) := by decide +kernel
theorem dX7_copyDeeper_21 : decode cX7_copyDeeper 21 = .ok (.getfield 65, 3) := by decide +kernel
theorem dX7_copyDeeper_24 : decode cX7_copyDeeper 24 = .ok (.ifCond .ne 69, 3) := by decide +kernel
theorem dX7_copyDeeper_27 : decode cX7_copyDeeper 27 = .ok (.aload_n 1, 1) := by decide +kernel
theorem dX7_copyDeeper_28 : decode cX7_copyDeeper 28 = .ok (.iload 6, 2) := by decide +kernel
theorem dX7_copyDeeper_30 : decode cX7_copyDeeper 30 = .ok (.invokevirtual 87, 3) := by decide +kernel
theorem dX7_copyDeeper_33 : decode cX7_copyDeeper 33 = .ok (.istore 7, 2) := by decide +kernel
theorem dX7_copyDeeper_35 : decode cX7_copyDeeper 35 = .ok (.aload_n 1, 1) := by decide +kernel
theorem dX7_copyDeeper_36 : decode cX7_copyDeeper 36 = .ok (.iload 6, 2) := by decide +kernel
theorem dX7_copyDeeper_38 : decode cX7_copyDeeper 38 = .ok (.invokevirtual 90, 3) := by decide +kernel
theorem dX7_copyDeeper_41 : decode cX7_copyDeeper 41 = .ok (.iconst 1, 1) := by decide +kernel
theorem dX7_copyDeeper_42 : decode cX7_copyDeeper 42 = .ok (.if_icmp .ne 14, 3) := by decide +kernel
theorem dX7_copyDeeper_45 : decode cX7_copyDeeper 45 = .ok (.iload 7, 2) := by decide +kernel
theorem dX7_copyDeeper_47 : decode cX7_copyDeeper 47 = .ok (.iload 4, 2) := by decide +kernel
theorem dX7_copyDeeper_49 : decode cX7_copyDeeper 49 = .ok (.if_icmp .lt 7, 3) := by decide +kernel
theorem dX7_copyDeeper_52 : decode cX7_copyDeeper 52 = .ok (.iconst 1, 1) := by decide +kernel
theorem dX7_copyDeeper_53 : decode cX7_copyDeeper 53 = .ok (.goto 4, 3) := by decide +kernel
theorem dX7_copyDeeper_56 : decode cX7_copyDeeper 56 = .ok (.iconst 0, 1) := by decide +kernel
theorem dX7_copyDeeper_57 : decode cX7_copyDeeper 57 = .ok (.istore 8, 2) := by decide +kernel
theorem dX7_copyDeeper_59 : decode cX7_copyDeeper 59 = .ok (.aload_n 0, 1) := by decide +kernel
theorem dX7_copyDeeper_60 : decode cX7_copyDeeper 60 = .ok (.getfield 18, 3) := by decide +kernel
theorem dX7_copyDeeper_63 : decode cX7_copyDeeper 63 = .ok (.aload_n 1, 1) := by decide +kernel
theorem dX7_copyDeeper_64 : decode cX7_copyDeeper 64 = .ok (.iload 6, 2) := by decide +kernel
theorem dX7_copyDeeper_66 : decode cX7_copyDeeper 66 = .ok (.invokevirtual 90, 3) := by decide +kernel
theorem dX7_copyDeeper_69 : decode cX7_copyDeeper 69 = .ok (.iload 8, 2) := by decide +kernel
theorem dX7_copyDeeper_71 : decode cX7_copyDeeper 71 = .ok (.ifCond .eq 11, 3) := by decide +kernel
theorem dX7_copyDeeper_74 : decode cX7_copyDeeper 74 = .ok (.iload 7, 2) := by decide +kernel
theorem dX7_copyDeeper_76 : decode cX7_copyDeeper 76 = .ok (.iload 5, 2) := by decide +kernel
theorem dX7_copyDeeper_78 : decode cX7_copyDeeper 78 = .ok (.iadd, 1) := by decide +kernel
theorem dX7_copyDeeper_79 : decode cX7_copyDeeper 79 = .ok (.goto 5, 3) := by decide +kernel
theorem dX7_copyDeeper_82 : decode cX7_copyDeeper 82 = .ok (.iload 7, 2) := by decide +kernel
theorem dX7_copyDeeper_84 : decode cX7_copyDeeper 84 = .ok (.invokevirtual 80, 3) := by decide +kernel
theorem dX7_copyDeeper_87 : decode cX7_copyDeeper 87 = .ok (.iinc 6 1, 3) := by decide +kernel
theorem dX7_copyDeeper_90 : decode cX7_copyDeeper 90 = .ok (.goto (-87), 3) := by decide +kernel
theorem dX7_copyDeeper_93 : decode cX7_copyDeeper 93 = .ok (.return_, 1) := by decide +kernel
theorem dX7_putFor_0 : decode cX7_putFor 0 = .ok (.aload_n 0, 1) := by decide +kernel
theorem dX7_putFor_1 : decode cX7_putFor 1 = .ok (.getfield 27, 3) := by decide +kernel
theorem dX7_putFor_4 : decode cX7_putFor 4 = .ok (.iload_n 1, 1) := by decide +kernel
theorem dX7_putFor_5 : decode cX7_putFor 5 = .ok (.invokevirtual 93, 3) := by decide +kernel
theorem dX7_putFor_8 : decode cX7_putFor 8 = .ok (.istore 5, 2) := by decide +kernel
theorem dX7_putFor_10 : decode cX7_putFor 10 = .ok (.aload_n 0, 1) := by decide +kernel
theorem dX7_putFor_11 : decode cX7_putFor 11 = .ok (.getfield 27, 3) := by decide +kernel
theorem dX7_putFor_14 : decode cX7_putFor 14 = .ok (.iload_n 2, 1) := by decide +kernel
theorem dX7_putFor_15 : decode cX7_putFor 15 = .ok (.invokevirtual 58, 3) := by decide +kernel
theorem dX7_putFor_18 : decode cX7_putFor 18 = .ok (.istore 6, 2) := by decide +kernel
theorem dX7_putFor_20 : decode cX7_putFor 20 = .ok (.iload_n 2, 1) := by decide +kernel
theorem dX7_putFor_21 : decode cX7_putFor 21 = .ok (.istore 7, 2) := by decide +kernel
theorem dX7_putFor_23 : decode cX7_putFor 23 = .ok (.iload 7, 2) := by decide +kernel
theorem dX7_putFor_25 : decode cX7_putFor 25 = .ok (.iload 6, 2) := by decide +kernel
theorem dX7_putFor_27 : decode cX7_putFor 27 = .ok (.if_icmp .ge 139, 3) := by decide +kernel
theorem dX7_putFor_30 : decode cX7_putFor 30 = .ok (.iload 7, 2) := by decide +kernel
theorem dX7_putFor_32 : decode cX7_putFor 32 = .ok (.sipush 200, 3) := by decide +kernel
theorem dX7_putFor_35 : decode cX7_putFor 35 = .ok (.if_icmp .ge 131, 3) := by decide +kernel
theorem dX7_putFor_38 : decode cX7_putFor 38 = .ok (.aload_n 0, 1) := by decide +kernel
theorem dX7_putFor_39 : decode cX7_putFor 39 = .ok (.getfield 18, 3) := by decide +kernel
theorem dX7_putFor_42 : decode cX7_putFor 42 = .ok (.getfield 65, 3) := by decide +kernel
theorem dX7_putFor_45 : decode cX7_putFor 45 = .ok (.ifCond .ne 121, 3) := by decide +kernel
theorem dX7_putFor_48 : decode cX7_putFor 48 = .ok (.aload_n 0, 1) := by decide +kernel
theorem dX7_putFor_49 : decode cX7_putFor 49 = .ok (.getfield 12, 3) := by decide +kernel
theorem dX7_putFor_52 : decode cX7_putFor 52 = .ok (.iload 7, 2) := by decide +kernel
theorem dX7_putFor_54 : decode cX7_putFor 54 = .ok (.invokevirtual 87, 3) := by decide +kernel
theorem dX7_putFor_57 : decode cX7_putFor 57 = .ok (.istore 8, 2) := by decide +kernel
theorem dX7_putFor_59 : decode cX7_putFor 59 = .ok (.aload_n 0, 1) := by decide +kernel
theorem dX7_putFor_60 : decode cX7_putFor 60 = .ok (.getfield 12, 3) := by decide +kernel
theorem dX7_putFor_63 : decode cX7_putFor 63 = .ok (.iload 7, 2) := by decide +kernel
theorem dX7_putFor_65 : decode cX7_putFor 65 = .ok (.iload 5, 2) := by decide +kernel
theorem dX7_putFor_67 : decode cX7_putFor 67 = .ok (.invokevirtual 96, 3) := by decide +kernel
theorem dX7_putFor_70 : decode cX7_putFor 70 = .ok (.ifCond .eq 33, 3) := by decide +kernel
theorem dX7_putFor_73 : decode cX7_putFor 73 = .ok (.aload_n 0, 1) := by decide +kernel
theorem dX7_putFor_74 : decode cX7_putFor 74 = .ok (.aload_n 0, 1) := by decide +kernel
theorem dX7_putFor_75 : decode cX7_putFor 75 = .ok (.getfield 12, 3) := by decide +kernel
theorem dX7_putFor_78 : decode cX7_putFor 78 = .ok (.iload_n 3, 1) := by decide +kernel
theorem dX7_putFor_79 : decode cX7_putFor 79 = .ok (.iload 4, 2) := by decide +kernel
theorem dX7_putFor_81 : decode cX7_putFor 81 = .ok (.iload 5, 2) := by decide +kernel
theorem dX7_putFor_83 : decode cX7_putFor 83 = .ok (.aload_n 0, 1) := by decide +kernel
theorem dX7_putFor_84 : decode cX7_putFor 84 = .ok (.getfield 27, 3) := by decide +kernel
theorem dX7_putFor_87 : decode cX7_putFor 87 = .ok (.iload 7, 2) := by decide +kernel
theorem dX7_putFor_89 : decode cX7_putFor 89 = .ok (.invokevirtual 93, 3) := by decide +kernel
theorem dX7_putFor_92 : decode cX7_putFor 92 = .ok (.iconst 1, 1) := by decide +kernel
theorem dX7_putFor_93 : decode cX7_putFor 93 = .ok (.isub, 1) := by decide +kernel
theorem dX7_putFor_94 : decode cX7_putFor 94 = .ok (.iload 5, 2) := by decide +kernel
theorem dX7_putFor_96 : decode cX7_putFor 96 = .ok (.isub, 1) := by decide +kernel
theorem dX7_putFor_97 : decode cX7_putFor 97 = .ok (.invokevirtual 83, 3) := by decide +kernel
theorem dX7_putFor_100 : decode cX7_putFor 100 = .ok (.goto 60, 3) := by decide +kernel
theorem dX7_putFor_103 : decode cX7_putFor 103 = .ok (.aload_n 0, 1) := by decide +kernel
theorem dX7_putFor_104 : decode cX7_putFor 104 = .ok (.getfield 12, 3) := by decide +kernel
theorem dX7_putFor_107 : decode cX7_putFor 107 = .ok (.iload 7, 2) := by decide +kernel
theorem dX7_putFor_109 : decode cX7_putFor 109 = .ok (.invokevirtual 90, 3) := by decide +kernel
theorem dX7_putFor_112 : decode cX7_putFor 112 = .ok (.iconst 1, 1) := by decide +kernel
theorem dX7_putFor_113 : decode cX7_putFor 113 = .ok (.if_icmp .ne 14, 3) := by decide +kernel
theorem dX7_putFor_116 : decode cX7_putFor 116 = .ok (.iload 8, 2) := by decide +kernel
theorem dX7_putFor_118 : decode cX7_putFor 118 = .ok (.iload 5, 2) := by decide +kernel
theorem dX7_putFor_120 : decode cX7_putFor 120 = .ok (.if_icmp .le 7, 3) := by decide +kernel
theorem dX7_putFor_123 : decode cX7_putFor 123 = .ok (.iconst 1, 1) := by decide +kernel
theorem dX7_putFor_124 : decode cX7_putFor 124 = .ok (.goto 4, 3) := by decide +kernel
theorem dX7_putFor_127 : decode cX7_putFor 127 = .ok (.iconst 0, 1) := by decide +kernel
theorem dX7_putFor_128 : decode cX7_putFor 128 = .ok (.istore 9, 2) := by decide +kernel
theorem dX7_putFor_130 : decode cX7_putFor 130 = .ok (.aload_n 0, 1) := by decide +kernel
theorem dX7_putFor_131 : decode cX7_putFor 131 = .ok (.getfield 18, 3) := by decide +kernel
theorem dX7_putFor_134 : decode cX7_putFor 134 = .ok (.aload_n 0, 1) := by decide +kernel
theorem dX7_putFor_135 : decode cX7_putFor 135 = .ok (.getfield 12, 3) := by decide +kernel
theorem dX7_putFor_138 : decode cX7_putFor 138 = .ok (.iload 7, 2) := by decide +kernel
theorem dX7_putFor_140 : decode cX7_putFor 140 = .ok (.invokevirtual 90, 3) := by decide +kernel
theorem dX7_putFor_143 : decode cX7_putFor 143 = .ok (.iload 9, 2) := by decide +kernel
theorem dX7_putFor_145 : decode cX7_putFor 145 = .ok (.ifCond .eq 10, 3) := by decide +kernel
theorem dX7_putFor_148 : decode cX7_putFor 148 = .ok (.iload 8, 2) := by decide +kernel
theorem dX7_putFor_150 : decode cX7_putFor 150 = .ok (.iconst 1, 1) := by decide +kernel
theorem dX7_putFor_151 : decode cX7_putFor 151 = .ok (.isub, 1) := by decide +kernel
theorem dX7_putFor_152 : decode cX7_putFor 152 = .ok (.goto 5, 3) := by decide +kernel
theorem dX7_putFor_155 : decode cX7_putFor 155 = .ok (.iload 8, 2) := by decide +kernel
theorem dX7_putFor_157 : decode cX7_putFor 157 = .ok (.invokevirtual 80, 3) := by decide +kernel
theorem dX7_putFor_160 : decode cX7_putFor 160 = .ok (.iinc 7 1, 3) := by decide +kernel
theorem dX7_putFor_163 : decode cX7_putFor 163 = .ok (.goto (-140), 3) := by decide +kernel
theorem dX7_putFor_166 : decode cX7_putFor 166 = .ok (.return_, 1) := by decide +kernel
theorem dX7_moveOut_0 : decode cX7_moveOut 0 = .ok (.iload_n 1, 1) := by decide +kernel
theorem dX7_moveOut_1 : decode cX7_moveOut 1 = .ok (.iconst 1, 1) := by decide +kernel
theorem dX7_moveOut_2 : decode cX7_moveOut 2 = .ok (.iadd, 1) := by decide +kernel
theorem dX7_moveOut_3 : decode cX7_moveOut 3 = .ok (.istore_n 2, 1) := by decide +kernel
theorem dX7_moveOut_4 : decode cX7_moveOut 4 = .ok (.aload_n 0, 1) := by decide +kernel
theorem dX7_moveOut_5 : decode cX7_moveOut 5 = .ok (.getfield 27, 3) := by decide +kernel
theorem dX7_moveOut_8 : decode cX7_moveOut 8 = .ok (.iload_n 1, 1) := by decide +kernel
theorem dX7_moveOut_9 : decode cX7_moveOut 9 = .ok (.invokevirtual 93, 3) := by decide +kernel
theorem dX7_moveOut_12 : decode cX7_moveOut 12 = .ok (.istore_n 3, 1) := by decide +kernel
theorem dX7_moveOut_13 : decode cX7_moveOut 13 = .ok (.aload_n 0, 1) := by decide +kernel
theorem dX7_moveOut_14 : decode cX7_moveOut 14 = .ok (.getfield 27, 3) := by decide +kernel
theorem dX7_moveOut_17 : decode cX7_moveOut 17 = .ok (.iload_n 2, 1) := by decide +kernel
theorem dX7_moveOut_18 : decode cX7_moveOut 18 = .ok (.iconst 1, 1) := by decide +kernel
theorem dX7_moveOut_19 : decode cX7_moveOut 19 = .ok (.iadd, 1) := by decide +kernel
theorem dX7_moveOut_20 : decode cX7_moveOut 20 = .ok (.invokevirtual 58, 3) := by decide +kernel
theorem dX7_moveOut_23 : decode cX7_moveOut 23 = .ok (.istore 4, 2) := by decide +kernel
theorem dX7_moveOut_25 : decode cX7_moveOut 25 = .ok (.aload_n 0, 1) := by decide +kernel
theorem dX7_moveOut_26 : decode cX7_moveOut 26 = .ok (.getfield 18, 3) := by decide +kernel
theorem dX7_moveOut_29 : decode cX7_moveOut 29 = .ok (.bipush 9, 2) := by decide +kernel
theorem dX7_moveOut_31 : decode cX7_moveOut 31 = .ok (.iconst 0, 1) := by decide +kernel
theorem dX7_moveOut_32 : decode cX7_moveOut 32 = .ok (.invokevirtual 80, 3) := by decide +kernel
theorem dX7_moveOut_35 : decode cX7_moveOut 35 = .ok (.aload_n 0, 1) := by decide +kernel
theorem dX7_moveOut_36 : decode cX7_moveOut 36 = .ok (.aload_n 0, 1) := by decide +kernel
theorem dX7_moveOut_37 : decode cX7_moveOut 37 = .ok (.getfield 12, 3) := by decide +kernel
theorem dX7_moveOut_40 : decode cX7_moveOut 40 = .ok (.iload_n 2, 1) := by decide +kernel
theorem dX7_moveOut_41 : decode cX7_moveOut 41 = .ok (.iconst 1, 1) := by decide +kernel
theorem dX7_moveOut_42 : decode cX7_moveOut 42 = .ok (.iadd, 1) := by decide +kernel
theorem dX7_moveOut_43 : decode cX7_moveOut 43 = .ok (.iload 4, 2) := by decide +kernel
theorem dX7_moveOut_45 : decode cX7_moveOut 45 = .ok (.iconst 0, 1) := by decide +kernel
theorem dX7_moveOut_46 : decode cX7_moveOut 46 = .ok (.iconst 0, 1) := by decide +kernel
theorem dX7_moveOut_47 : decode cX7_moveOut 47 = .ok (.invokevirtual 83, 3) := by decide +kernel
theorem dX7_moveOut_50 : decode cX7_moveOut 50 = .ok (.iconst 0, 1) := by decide +kernel
theorem dX7_moveOut_51 : decode cX7_moveOut 51 = .ok (.istore 5, 2) := by decide +kernel
theorem dX7_moveOut_53 : decode cX7_moveOut 53 = .ok (.iload 5, 2) := by decide +kernel
theorem dX7_moveOut_55 : decode cX7_moveOut 55 = .ok (.iconst 2, 1) := by decide +kernel
theorem dX7_moveOut_56 : decode cX7_moveOut 56 = .ok (.if_icmp .ge 87, 3) := by decide +kernel
theorem dX7_moveOut_59 : decode cX7_moveOut 59 = .ok (.aload_n 0, 1) := by decide +kernel
theorem dX7_moveOut_60 : decode cX7_moveOut 60 = .ok (.getfield 27, 3) := by decide +kernel
theorem dX7_moveOut_63 : decode cX7_moveOut 63 = .ok (.iload 4, 2) := by decide +kernel
theorem dX7_moveOut_65 : decode cX7_moveOut 65 = .ok (.invokevirtual 58, 3) := by decide +kernel
theorem dX7_moveOut_68 : decode cX7_moveOut 68 = .ok (.istore 6, 2) := by decide +kernel
theorem dX7_moveOut_70 : decode cX7_moveOut 70 = .ok (.aload_n 0, 1) := by decide +kernel
theorem dX7_moveOut_71 : decode cX7_moveOut 71 = .ok (.getfield 18, 3) := by decide +kernel
theorem dX7_moveOut_74 : decode cX7_moveOut 74 = .ok (.aload_n 0, 1) := by decide +kernel
theorem dX7_moveOut_75 : decode cX7_moveOut 75 = .ok (.getfield 12, 3) := by decide +kernel
theorem dX7_moveOut_78 : decode cX7_moveOut 78 = .ok (.iload_n 1, 1) := by decide +kernel
theorem dX7_moveOut_79 : decode cX7_moveOut 79 = .ok (.invokevirtual 90, 3) := by decide +kernel
theorem dX7_moveOut_82 : decode cX7_moveOut 82 = .ok (.aload_n 0, 1) := by decide +kernel
theorem dX7_moveOut_83 : decode cX7_moveOut 83 = .ok (.getfield 12, 3) := by decide +kernel
theorem dX7_moveOut_86 : decode cX7_moveOut 86 = .ok (.iload_n 1, 1) := by decide +kernel
theorem dX7_moveOut_87 : decode cX7_moveOut 87 = .ok (.invokevirtual 87, 3) := by decide +kernel
theorem dX7_moveOut_90 : decode cX7_moveOut 90 = .ok (.invokevirtual 80, 3) := by decide +kernel
theorem dX7_moveOut_93 : decode cX7_moveOut 93 = .ok (.aload_n 0, 1) := by decide +kernel
theorem dX7_moveOut_94 : decode cX7_moveOut 94 = .ok (.aload_n 0, 1) := by decide +kernel
theorem dX7_moveOut_95 : decode cX7_moveOut 95 = .ok (.getfield 12, 3) := by decide +kernel
theorem dX7_moveOut_98 : decode cX7_moveOut 98 = .ok (.iload 4, 2) := by decide +kernel
theorem dX7_moveOut_100 : decode cX7_moveOut 100 = .ok (.iload 6, 2) := by decide +kernel
theorem dX7_moveOut_102 : decode cX7_moveOut 102 = .ok (.iconst 0, 1) := by decide +kernel
theorem dX7_moveOut_103 : decode cX7_moveOut 103 = .ok (.iconst 0, 1) := by decide +kernel
theorem dX7_moveOut_104 : decode cX7_moveOut 104 = .ok (.invokevirtual 83, 3) := by decide +kernel
theorem dX7_moveOut_107 : decode cX7_moveOut 107 = .ok (.aload_n 0, 1) := by decide +kernel
theorem dX7_moveOut_108 : decode cX7_moveOut 108 = .ok (.aload_n 0, 1) := by decide +kernel
theorem dX7_moveOut_109 : decode cX7_moveOut 109 = .ok (.getfield 12, 3) := by decide +kernel
theorem dX7_moveOut_112 : decode cX7_moveOut 112 = .ok (.aload_n 0, 1) := by decide +kernel
theorem dX7_moveOut_113 : decode cX7_moveOut 113 = .ok (.getfield 27, 3) := by decide +kernel
theorem dX7_moveOut_116 : decode cX7_moveOut 116 = .ok (.iload_n 2, 1) := by decide +kernel
theorem dX7_moveOut_117 : decode cX7_moveOut 117 = .ok (.invokevirtual 58, 3) := by decide +kernel
theorem dX7_moveOut_120 : decode cX7_moveOut 120 = .ok (.aload_n 0, 1) := by decide +kernel
theorem dX7_moveOut_121 : decode cX7_moveOut 121 = .ok (.getfield 27, 3) := by decide +kernel
theorem dX7_moveOut_124 : decode cX7_moveOut 124 = .ok (.iload_n 1, 1) := by decide +kernel
theorem dX7_moveOut_125 : decode cX7_moveOut 125 = .ok (.invokevirtual 58, 3) := by decide +kernel
theorem dX7_moveOut_128 : decode cX7_moveOut 128 = .ok (.iload_n 3, 1) := by decide +kernel
theorem dX7_moveOut_129 : decode cX7_moveOut 129 = .ok (.iconst 1, 1) := by decide +kernel
theorem dX7_moveOut_130 : decode cX7_moveOut 130 = .ok (.invokevirtual 83, 3) := by decide +kernel
theorem dX7_moveOut_133 : decode cX7_moveOut 133 = .ok (.iload 6, 2) := by decide +kernel
theorem dX7_moveOut_135 : decode cX7_moveOut 135 = .ok (.istore 4, 2) := by decide +kernel
theorem dX7_moveOut_137 : decode cX7_moveOut 137 = .ok (.iinc 5 1, 3) := by decide +kernel
theorem dX7_moveOut_140 : decode cX7_moveOut 140 = .ok (.goto (-87), 3) := by decide +kernel
theorem dX7_moveOut_143 : decode cX7_moveOut 143 = .ok (.return_, 1) := by decide +kernel
theorem dX7_reduceAll_0 : decode cX7_reduceAll 0 = .ok (.aload_n 0, 1) := by decide +kernel
theorem dX7_reduceAll_1 : decode cX7_reduceAll 1 = .ok (.getfield 21, 3) := by decide +kernel
theorem dX7_reduceAll_4 : decode cX7_reduceAll 4 = .ok (.aload_n 1, 1) := by decide +kernel
theorem dX7_reduceAll_5 : decode cX7_reduceAll 5 = .ok (.invokevirtual 100, 3) := by decide +kernel
theorem dX7_reduceAll_8 : decode cX7_reduceAll 8 = .ok (.iconst 0, 1) := by decide +kernel
theorem dX7_reduceAll_9 : decode cX7_reduceAll 9 = .ok (.istore_n 3, 1) := by decide +kernel
theorem dX7_reduceAll_10 : decode cX7_reduceAll 10 = .ok (.iload_n 3, 1) := by decide +kernel
theorem dX7_reduceAll_11 : decode cX7_reduceAll 11 = .ok (.bipush 60, 2) := by decide +kernel
theorem dX7_reduceAll_13 : decode cX7_reduceAll 13 = .ok (.if_icmp .gt 78, 3) := by decide +kernel
theorem dX7_reduceAll_16 : decode cX7_reduceAll 16 = .ok (.aload_n 0, 1) := by decide +kernel
theorem dX7_reduceAll_17 : decode cX7_reduceAll 17 = .ok (.getfield 21, 3) := by decide +kernel
theorem dX7_reduceAll_20 : decode cX7_reduceAll 20 = .ok (.invokevirtual 31, 3) := by decide +kernel
theorem dX7_reduceAll_23 : decode cX7_reduceAll 23 = .ok (.iconst (-1), 1) := by decide +kernel
theorem dX7_reduceAll_24 : decode cX7_reduceAll 24 = .ok (.if_icmp .ne 5, 3) := by decide +kernel
theorem dX7_reduceAll_27 : decode cX7_reduceAll 27 = .ok (.iload_n 3, 1) := by decide +kernel
theorem dX7_reduceAll_28 : decode cX7_reduceAll 28 = .ok (.ireturn, 1) := by decide +kernel
theorem dX7_reduceAll_29 : decode cX7_reduceAll 29 = .ok (.iload_n 3, 1) := by decide +kernel
theorem dX7_reduceAll_30 : decode cX7_reduceAll 30 = .ok (.aload_n 2, 1) := by decide +kernel
theorem dX7_reduceAll_31 : decode cX7_reduceAll 31 = .ok (.arraylength, 1) := by decide +kernel
theorem dX7_reduceAll_32 : decode cX7_reduceAll 32 = .ok (.if_icmp .lt 6, 3) := by decide +kernel
theorem dX7_reduceAll_35 : decode cX7_reduceAll 35 = .ok (.bipush (-4), 2) := by decide +kernel
theorem dX7_reduceAll_37 : decode cX7_reduceAll 37 = .ok (.ireturn, 1) := by decide +kernel
theorem dX7_reduceAll_38 : decode cX7_reduceAll 38 = .ok (.aload_n 0, 1) := by decide +kernel
theorem dX7_reduceAll_39 : decode cX7_reduceAll 39 = .ok (.aload_n 0, 1) := by decide +kernel
theorem dX7_reduceAll_40 : decode cX7_reduceAll 40 = .ok (.getfield 21, 3) := by decide +kernel
theorem dX7_reduceAll_43 : decode cX7_reduceAll 43 = .ok (.aload_n 0, 1) := by decide +kernel
theorem dX7_reduceAll_44 : decode cX7_reduceAll 44 = .ok (.getfield 24, 3) := by decide +kernel
theorem dX7_reduceAll_47 : decode cX7_reduceAll 47 = .ok (.invokevirtual 103, 3) := by decide +kernel
theorem dX7_reduceAll_50 : decode cX7_reduceAll 50 = .ok (.istore 4, 2) := by decide +kernel
theorem dX7_reduceAll_52 : decode cX7_reduceAll 52 = .ok (.iload 4, 2) := by decide +kernel
theorem dX7_reduceAll_54 : decode cX7_reduceAll 54 = .ok (.ifCond .ge 6, 3) := by decide +kernel
theorem dX7_reduceAll_57 : decode cX7_reduceAll 57 = .ok (.iload 4, 2) := by decide +kernel
theorem dX7_reduceAll_59 : decode cX7_reduceAll 59 = .ok (.ireturn, 1) := by decide +kernel
theorem dX7_reduceAll_60 : decode cX7_reduceAll 60 = .ok (.aload_n 2, 1) := by decide +kernel
theorem dX7_reduceAll_61 : decode cX7_reduceAll 61 = .ok (.iload_n 3, 1) := by decide +kernel
theorem dX7_reduceAll_62 : decode cX7_reduceAll 62 = .ok (.iload 4, 2) := by decide +kernel
theorem dX7_reduceAll_64 : decode cX7_reduceAll 64 = .ok (.iastore, 1) := by decide +kernel
theorem dX7_reduceAll_65 : decode cX7_reduceAll 65 = .ok (.aload_n 0, 1) := by decide +kernel
theorem dX7_reduceAll_66 : decode cX7_reduceAll 66 = .ok (.getfield 24, 3) := by decide +kernel
theorem dX7_reduceAll_69 : decode cX7_reduceAll 69 = .ok (.astore 5, 2) := by decide +kernel
theorem dX7_reduceAll_71 : decode cX7_reduceAll 71 = .ok (.aload_n 0, 1) := by decide +kernel
theorem dX7_reduceAll_72 : decode cX7_reduceAll 72 = .ok (.aload_n 0, 1) := by decide +kernel
theorem dX7_reduceAll_73 : decode cX7_reduceAll 73 = .ok (.getfield 21, 3) := by decide +kernel
theorem dX7_reduceAll_76 : decode cX7_reduceAll 76 = .ok (.putfield 24, 3) := by decide +kernel
theorem dX7_reduceAll_79 : decode cX7_reduceAll 79 = .ok (.aload_n 0, 1) := by decide +kernel
theorem dX7_reduceAll_80 : decode cX7_reduceAll 80 = .ok (.aload 5, 2) := by decide +kernel
theorem dX7_reduceAll_82 : decode cX7_reduceAll 82 = .ok (.putfield 21, 3) := by decide +kernel
theorem dX7_reduceAll_85 : decode cX7_reduceAll 85 = .ok (.iinc 3 1, 3) := by decide +kernel
theorem dX7_reduceAll_88 : decode cX7_reduceAll 88 = .ok (.goto (-78), 3) := by decide +kernel
theorem dX7_reduceAll_91 : decode cX7_reduceAll 91 = .ok (.bipush (-4), 2) := by decide +kernel
theorem dX7_reduceAll_93 : decode cX7_reduceAll 93 = .ok (.ireturn, 1) := by decide +kernel
theorem dX7_reduced_0 : decode cX7_reduced 0 = .ok (.aload_n 0, 1) := by decide +kernel
theorem dX7_reduced_1 : decode cX7_reduced 1 = .ok (.getfield 21, 3) := by decide +kernel
theorem dX7_reduced_4 : decode cX7_reduced 4 = .ok (.areturn, 1) := by decide +kernel
theorem dX7_replace_0 : decode cX7_replace 0 = .ok (.aload_n 0, 1) := by decide +kernel
theorem dX7_replace_1 : decode cX7_replace 1 = .ok (.getfield 27, 3) := by decide +kernel
theorem dX7_replace_4 : decode cX7_replace 4 = .ok (.aload_n 1, 1) := by decide +kernel
theorem dX7_replace_5 : decode cX7_replace 5 = .ok (.invokevirtual 39, 3) := by decide +kernel
theorem dX7_replace_8 : decode cX7_replace 8 = .ok (.aload_n 0, 1) := by decide +kernel
theorem dX7_replace_9 : decode cX7_replace 9 = .ok (.aload 4, 2) := by decide +kernel
theorem dX7_replace_11 : decode cX7_replace 11 = .ok (.putfield 18, 3) := by decide +kernel
theorem dX7_replace_14 : decode cX7_replace 14 = .ok (.aload 4, 2) := by decide +kernel
theorem dX7_replace_16 : decode cX7_replace 16 = .ok (.invokevirtual 48, 3) := by decide +kernel
theorem dX7_replace_19 : decode cX7_replace 19 = .ok (.iconst 0, 1) := by decide +kernel
theorem dX7_replace_20 : decode cX7_replace 20 = .ok (.istore 5, 2) := by decide +kernel
theorem dX7_replace_22 : decode cX7_replace 22 = .ok (.iload 5, 2) := by decide +kernel
theorem dX7_replace_24 : decode cX7_replace 24 = .ok (.aload_n 1, 1) := by decide +kernel
theorem dX7_replace_25 : decode cX7_replace 25 = .ok (.getfield 61, 3) := by decide +kernel
theorem dX7_replace_28 : decode cX7_replace 28 = .ok (.if_icmp .ge 69, 3) := by decide +kernel
theorem dX7_replace_31 : decode cX7_replace 31 = .ok (.aload 4, 2) := by decide +kernel
theorem dX7_replace_33 : decode cX7_replace 33 = .ok (.getfield 65, 3) := by decide +kernel
theorem dX7_replace_36 : decode cX7_replace 36 = .ok (.ifCond .ne 61, 3) := by decide +kernel
theorem dX7_replace_39 : decode cX7_replace 39 = .ok (.aload_n 1, 1) := by decide +kernel
theorem dX7_replace_40 : decode cX7_replace 40 = .ok (.iload 5, 2) := by decide +kernel
theorem dX7_replace_42 : decode cX7_replace 42 = .ok (.iconst (-1), 1) := by decide +kernel
theorem dX7_replace_43 : decode cX7_replace 43 = .ok (.iload_n 2, 1) := by decide +kernel
theorem dX7_replace_44 : decode cX7_replace 44 = .ok (.isub, 1) := by decide +kernel
theorem dX7_replace_45 : decode cX7_replace 45 = .ok (.invokevirtual 96, 3) := by decide +kernel
theorem dX7_replace_48 : decode cX7_replace 48 = .ok (.ifCond .eq 26, 3) := by decide +kernel
theorem dX7_replace_51 : decode cX7_replace 51 = .ok (.aload_n 0, 1) := by decide +kernel
theorem dX7_replace_52 : decode cX7_replace 52 = .ok (.aload_n 3, 1) := by decide +kernel
theorem dX7_replace_53 : decode cX7_replace 53 = .ok (.iconst 0, 1) := by decide +kernel
theorem dX7_replace_54 : decode cX7_replace 54 = .ok (.aload_n 3, 1) := by decide +kernel
theorem dX7_replace_55 : decode cX7_replace 55 = .ok (.getfield 61, 3) := by decide +kernel
theorem dX7_replace_58 : decode cX7_replace 58 = .ok (.iconst 0, 1) := by decide +kernel
theorem dX7_replace_59 : decode cX7_replace 59 = .ok (.aload_n 0, 1) := by decide +kernel
theorem dX7_replace_60 : decode cX7_replace 60 = .ok (.getfield 27, 3) := by decide +kernel
theorem dX7_replace_63 : decode cX7_replace 63 = .ok (.iload 5, 2) := by decide +kernel
theorem dX7_replace_65 : decode cX7_replace 65 = .ok (.invokevirtual 93, 3) := by decide +kernel
theorem dX7_replace_68 : decode cX7_replace 68 = .ok (.invokevirtual 83, 3) := by decide +kernel
theorem dX7_replace_71 : decode cX7_replace 71 = .ok (.goto 20, 3) := by decide +kernel
theorem dX7_replace_74 : decode cX7_replace 74 = .ok (.aload 4, 2) := by decide +kernel
theorem dX7_replace_76 : decode cX7_replace 76 = .ok (.aload_n 1, 1) := by decide +kernel
theorem dX7_replace_77 : decode cX7_replace 77 = .ok (.iload 5, 2) := by decide +kernel
theorem dX7_replace_79 : decode cX7_replace 79 = .ok (.invokevirtual 90, 3) := by decide +kernel
theorem dX7_replace_82 : decode cX7_replace 82 = .ok (.aload_n 1, 1) := by decide +kernel
theorem dX7_replace_83 : decode cX7_replace 83 = .ok (.iload 5, 2) := by decide +kernel
theorem dX7_replace_85 : decode cX7_replace 85 = .ok (.invokevirtual 87, 3) := by decide +kernel
theorem dX7_replace_88 : decode cX7_replace 88 = .ok (.invokevirtual 80, 3) := by decide +kernel
theorem dX7_replace_91 : decode cX7_replace 91 = .ok (.iinc 5 1, 3) := by decide +kernel
theorem dX7_replace_94 : decode cX7_replace 94 = .ok (.goto (-72), 3) := by decide +kernel
theorem dX7_replace_97 : decode cX7_replace 97 = .ok (.aload 4, 2) := by decide +kernel
theorem dX7_replace_99 : decode cX7_replace 99 = .ok (.getfield 65, 3) := by decide +kernel
theorem dX7_replace_102 : decode cX7_replace 102 = .ok (.ifCond .ne 7, 3) := by decide +kernel
theorem dX7_replace_105 : decode cX7_replace 105 = .ok (.iconst 1, 1) := by decide +kernel
theorem dX7_replace_106 : decode cX7_replace 106 = .ok (.goto 4, 3) := by decide +kernel
theorem dX7_replace_109 : decode cX7_replace 109 = .ok (.iconst 0, 1) := by decide +kernel
theorem dX7_replace_110 : decode cX7_replace 110 = .ok (.ireturn, 1) := by decide +kernel
theorem dX8_init_0 : decode cX8_init 0 = .ok (.aload_n 0, 1) := by decide +kernel
theorem dX8_init_1 : decode cX8_init 1 = .ok (.invokespecial 3, 3) := by decide +kernel
theorem dX8_init_4 : decode cX8_init 4 = .ok (.aload_n 0, 1) := by decide +kernel
theorem dX8_init_5 : decode cX8_init 5 = .ok (.aload_n 1, 1) := by decide +kernel
theorem dX8_init_6 : decode cX8_init 6 = .ok (.putfield 9, 3) := by decide +kernel
theorem dX8_init_9 : decode cX8_init 9 = .ok (.aload_n 0, 1) := by decide +kernel
theorem dX8_init_10 : decode cX8_init 10 = .ok (.aload_n 2, 1) := by decide +kernel
theorem dX8_init_11 : decode cX8_init 11 = .ok (.putfield 15, 3) := by decide +kernel
theorem dX8_init_14 : decode cX8_init 14 = .ok (.return_, 1) := by decide +kernel
theorem dX8_begin_0 : decode cX8_begin 0 = .ok (.aload_n 0, 1) := by decide +kernel
theorem dX8_begin_1 : decode cX8_begin 1 = .ok (.lload_n 1, 1) := by decide +kernel
theorem dX8_begin_2 : decode cX8_begin 2 = .ok (.putfield 19, 3) := by decide +kernel
theorem dX8_begin_5 : decode cX8_begin 5 = .ok (.aload_n 0, 1) := by decide +kernel
theorem dX8_begin_6 : decode cX8_begin 6 = .ok (.lconst 0, 1) := by decide +kernel
theorem dX8_begin_7 : decode cX8_begin 7 = .ok (.putfield 23, 3) := by decide +kernel
theorem dX8_begin_10 : decode cX8_begin 10 = .ok (.aload_n 0, 1) := by decide +kernel
theorem dX8_begin_11 : decode cX8_begin 11 = .ok (.iconst (-1), 1) := by decide +kernel
theorem dX8_begin_12 : decode cX8_begin 12 = .ok (.putfield 26, 3) := by decide +kernel
theorem dX8_begin_15 : decode cX8_begin 15 = .ok (.return_, 1) := by decide +kernel
theorem dX8_putBlank_0 : decode cX8_putBlank 0 = .ok (.aload_n 0, 1) := by decide +kernel
theorem dX8_putBlank_1 : decode cX8_putBlank 1 = .ok (.getfield 23, 3) := by decide +kernel
theorem dX8_putBlank_4 : decode cX8_putBlank 4 = .ok (.lconst 0, 1) := by decide +kernel
theorem dX8_putBlank_5 : decode cX8_putBlank 5 = .ok (.lcmp, 1) := by decide +kernel
theorem dX8_putBlank_6 : decode cX8_putBlank 6 = .ok (.ifCond .le 31, 3) := by decide +kernel
theorem dX8_putBlank_9 : decode cX8_putBlank 9 = .ok (.aload_n 0, 1) := by decide +kernel
theorem dX8_putBlank_10 : decode cX8_putBlank 10 = .ok (.getfield 23, 3) := by decide +kernel
theorem dX8_putBlank_13 : decode cX8_putBlank 13 = .ok (.aload_n 0, 1) := by decide +kernel
theorem dX8_putBlank_14 : decode cX8_putBlank 14 = .ok (.getfield 19, 3) := by decide +kernel
theorem dX8_putBlank_17 : decode cX8_putBlank 17 = .ok (.lcmp, 1) := by decide +kernel
theorem dX8_putBlank_18 : decode cX8_putBlank 18 = .ok (.ifCond .ne 9, 3) := by decide +kernel
theorem dX8_putBlank_21 : decode cX8_putBlank 21 = .ok (.aload_n 0, 1) := by decide +kernel
theorem dX8_putBlank_22 : decode cX8_putBlank 22 = .ok (.bipush 32, 2) := by decide +kernel
theorem dX8_putBlank_24 : decode cX8_putBlank 24 = .ok (.putfield 26, 3) := by decide +kernel
theorem dX8_putBlank_27 : decode cX8_putBlank 27 = .ok (.aload_n 0, 1) := by decide +kernel
theorem dX8_putBlank_28 : decode cX8_putBlank 28 = .ok (.dup, 1) := by decide +kernel
theorem dX8_putBlank_29 : decode cX8_putBlank 29 = .ok (.getfield 23, 3) := by decide +kernel
theorem dX8_putBlank_32 : decode cX8_putBlank 32 = .ok (.lconst 1, 1) := by decide +kernel
theorem dX8_putBlank_33 : decode cX8_putBlank 33 = .ok (.ladd, 1) := by decide +kernel
theorem dX8_putBlank_34 : decode cX8_putBlank 34 = .ok (.putfield 23, 3) := by decide +kernel
theorem dX8_putBlank_37 : decode cX8_putBlank 37 = .ok (.return_, 1) := by decide +kernel
theorem dX8_wantsWithin_0 : decode cX8_wantsWithin 0 = .ok (.aload_n 0, 1) := by decide +kernel
theorem dX8_wantsWithin_1 : decode cX8_wantsWithin 1 = .ok (.getfield 19, 3) := by decide +kernel
theorem dX8_wantsWithin_4 : decode cX8_wantsWithin 4 = .ok (.aload_n 0, 1) := by decide +kernel
theorem dX8_wantsWithin_5 : decode cX8_wantsWithin 5 = .ok (.getfield 23, 3) := by decide +kernel
theorem dX8_wantsWithin_8 : decode cX8_wantsWithin 8 = .ok (.lcmp, 1) := by decide +kernel
theorem dX8_wantsWithin_9 : decode cX8_wantsWithin 9 = .ok (.ifCond .lt 21, 3) := by decide +kernel
theorem dX8_wantsWithin_12 : decode cX8_wantsWithin 12 = .ok (.aload_n 0, 1) := by decide +kernel
theorem dX8_wantsWithin_13 : decode cX8_wantsWithin 13 = .ok (.getfield 19, 3) := by decide +kernel
theorem dX8_wantsWithin_16 : decode cX8_wantsWithin 16 = .ok (.aload_n 0, 1) := by decide +kernel
theorem dX8_wantsWithin_17 : decode cX8_wantsWithin 17 = .ok (.getfield 23, 3) := by decide +kernel
theorem dX8_wantsWithin_20 : decode cX8_wantsWithin 20 = .ok (.lload_n 1, 1) := by decide +kernel
theorem dX8_wantsWithin_21 : decode cX8_wantsWithin 21 = .ok (.ladd, 1) := by decide +kernel
theorem dX8_wantsWithin_22 : decode cX8_wantsWithin 22 = .ok (.lcmp, 1) := by decide +kernel
theorem dX8_wantsWithin_23 : decode cX8_wantsWithin 23 = .ok (.ifCond .ge 7, 3) := by decide +kernel
theorem dX8_wantsWithin_26 : decode cX8_wantsWithin 26 = .ok (.iconst 1, 1) := by decide +kernel
theorem dX8_wantsWithin_27 : decode cX8_wantsWithin 27 = .ok (.goto 4, 3) := by decide +kernel
theorem dX8_wantsWithin_30 : decode cX8_wantsWithin 30 = .ok (.iconst 0, 1) := by decide +kernel
theorem dX8_wantsWithin_31 : decode cX8_wantsWithin 31 = .ok (.ireturn, 1) := by decide +kernel
theorem dX8_putWord_0 : decode cX8_putWord 0 = .ok (.aload_n 0, 1) := by decide +kernel
theorem dX8_putWord_1 : decode cX8_putWord 1 = .ok (.invokevirtual 30, 3) := by decide +kernel
theorem dX8_putWord_4 : decode cX8_putWord 4 = .ok (.iload_n 1, 1) := by decide +kernel
theorem dX8_putWord_5 : decode cX8_putWord 5 = .ok (.invokestatic 33, 3) := by decide +kernel
theorem dX8_putWord_8 : decode cX8_putWord 8 = .ok (.istore_n 2, 1) := by decide +kernel
theorem dX8_putWord_9 : decode cX8_putWord 9 = .ok (.aload_n 0, 1) := by decide +kernel
theorem dX8_putWord_10 : decode cX8_putWord 10 = .ok (.iload_n 2, 1) := by decide +kernel
theorem dX8_putWord_11 : decode cX8_putWord 11 = .ok (.i2l, 1) := by decide +kernel
theorem dX8_putWord_12 : decode cX8_putWord 12 = .ok (.invokevirtual 37, 3) := by decide +kernel
theorem dX8_putWord_15 : decode cX8_putWord 15 = .ok (.ifCond .eq 21, 3) := by decide +kernel
theorem dX8_putWord_18 : decode cX8_putWord 18 = .ok (.aload_n 0, 1) := by decide +kernel
theorem dX8_putWord_19 : decode cX8_putWord 19 = .ok (.iload_n 1, 1) := by decide +kernel
theorem dX8_putWord_20 : decode cX8_putWord 20 = .ok (.aload_n 0, 1) := by decide +kernel
theorem dX8_putWord_21 : decode cX8_putWord 21 = .ok (.getfield 19, 3) := by decide +kernel
theorem dX8_putWord_24 : decode cX8_putWord 24 = .ok (.aload_n 0, 1) := by decide +kernel
theorem dX8_putWord_25 : decode cX8_putWord 25 = .ok (.getfield 23, 3) := by decide +kernel
theorem dX8_putWord_28 : decode cX8_putWord 28 = .ok (.lsub, 1) := by decide +kernel
theorem dX8_putWord_29 : decode cX8_putWord 29 = .ok (.l2i, 1) := by decide +kernel
theorem dX8_putWord_30 : decode cX8_putWord 30 = .ok (.invokestatic 41, 3) := by decide +kernel
theorem dX8_putWord_33 : decode cX8_putWord 33 = .ok (.putfield 26, 3) := by decide +kernel
theorem dX8_putWord_36 : decode cX8_putWord 36 = .ok (.aload_n 0, 1) := by decide +kernel
theorem dX8_putWord_37 : decode cX8_putWord 37 = .ok (.dup, 1) := by decide +kernel
theorem dX8_putWord_38 : decode cX8_putWord 38 = .ok (.getfield 23, 3) := by decide +kernel
theorem dX8_putWord_41 : decode cX8_putWord 41 = .ok (.iload_n 2, 1) := by decide +kernel
theorem dX8_putWord_42 : decode cX8_putWord 42 = .ok (.i2l, 1) := by decide +kernel
theorem dX8_putWord_43 : decode cX8_putWord 43 = .ok (.ladd, 1) := by decide +kernel
theorem dX8_putWord_44 : decode cX8_putWord 44 = .ok (.putfield 23, 3) := by decide +kernel
theorem dX8_putWord_47 : decode cX8_putWord 47 = .ok (.return_, 1) := by decide +kernel
theorem dX8_putFormula_0 : decode cX8_putFormula 0 = .ok (.aload_n 0, 1) := by decide +kernel
theorem dX8_putFormula_1 : decode cX8_putFormula 1 = .ok (.invokevirtual 30, 3) := by decide +kernel
theorem dX8_putFormula_4 : decode cX8_putFormula 4 = .ok (.aload_n 0, 1) := by decide +kernel
theorem dX8_putFormula_5 : decode cX8_putFormula 5 = .ok (.getfield 9, 3) := by decide +kernel
theorem dX8_putFormula_8 : decode cX8_putFormula 8 = .ok (.iload_n 1, 1) := by decide +kernel
theorem dX8_putFormula_9 : decode cX8_putFormula 9 = .ok (.invokevirtual 45, 3) := by decide +kernel
theorem dX8_putFormula_12 : decode cX8_putFormula 12 = .ok (.lstore_n 2, 1) := by decide +kernel
theorem dX8_putFormula_13 : decode cX8_putFormula 13 = .ok (.aload_n 0, 1) := by decide +kernel
theorem dX8_putFormula_14 : decode cX8_putFormula 14 = .ok (.lload_n 2, 1) := by decide +kernel
theorem dX8_putFormula_15 : decode cX8_putFormula 15 = .ok (.invokevirtual 37, 3) := by decide +kernel
theorem dX8_putFormula_18 : decode cX8_putFormula 18 = .ok (.ifCond .eq 24, 3) := by decide +kernel
theorem dX8_putFormula_21 : decode cX8_putFormula 21 = .ok (.aload_n 0, 1) := by decide +kernel
theorem dX8_putFormula_22 : decode cX8_putFormula 22 = .ok (.aload_n 0, 1) := by decide +kernel
theorem dX8_putFormula_23 : decode cX8_putFormula 23 = .ok (.getfield 9, 3) := by decide +kernel
theorem dX8_putFormula_26 : decode cX8_putFormula 26 = .ok (.iload_n 1, 1) := by decide +kernel
theorem dX8_putFormula_27 : decode cX8_putFormula 27 = .ok (.aload_n 0, 1) := by decide +kernel
theorem dX8_putFormula_28 : decode cX8_putFormula 28 = .ok (.getfield 19, 3) := by decide +kernel
theorem dX8_putFormula_31 : decode cX8_putFormula 31 = .ok (.aload_n 0, 1) := by decide +kernel
theorem dX8_putFormula_32 : decode cX8_putFormula 32 = .ok (.getfield 23, 3) := by decide +kernel
theorem dX8_putFormula_35 : decode cX8_putFormula 35 = .ok (.lsub, 1) := by decide +kernel
theorem dX8_putFormula_36 : decode cX8_putFormula 36 = .ok (.invokevirtual 51, 3) := by decide +kernel
theorem dX8_putFormula_39 : decode cX8_putFormula 39 = .ok (.putfield 26, 3) := by decide +kernel
theorem dX8_putFormula_42 : decode cX8_putFormula 42 = .ok (.aload_n 0, 1) := by decide +kernel
theorem dX8_putFormula_43 : decode cX8_putFormula 43 = .ok (.dup, 1) := by decide +kernel
theorem dX8_putFormula_44 : decode cX8_putFormula 44 = .ok (.getfield 23, 3) := by decide +kernel
theorem dX8_putFormula_47 : decode cX8_putFormula 47 = .ok (.lload_n 2, 1) := by decide +kernel
theorem dX8_putFormula_48 : decode cX8_putFormula 48 = .ok (.ladd, 1) := by decide +kernel
theorem dX8_putFormula_49 : decode cX8_putFormula 49 = .ok (.putfield 23, 3) := by decide +kernel
theorem dX8_putFormula_52 : decode cX8_putFormula 52 = .ok (.return_, 1) := by decide +kernel
theorem dX8_putName_0 : decode cX8_putName 0 = .ok (.aload_n 0, 1) := by decide +kernel
theorem dX8_putName_1 : decode cX8_putName 1 = .ok (.invokevirtual 30, 3) := by decide +kernel
theorem dX8_putName_4 : decode cX8_putName 4 = .ok (.iload_n 1, 1) := by decide +kernel
theorem dX8_putName_5 : decode cX8_putName 5 = .ok (.invokestatic 55, 3) := by decide +kernel
theorem dX8_putName_8 : decode cX8_putName 8 = .ok (.istore_n 2, 1) := by decide +kernel
theorem dX8_putName_9 : decode cX8_putName 9 = .ok (.aload_n 0, 1) := by decide +kernel
theorem dX8_putName_10 : decode cX8_putName 10 = .ok (.iload_n 2, 1) := by decide +kernel
theorem dX8_putName_11 : decode cX8_putName 11 = .ok (.i2l, 1) := by decide +kernel
theorem dX8_putName_12 : decode cX8_putName 12 = .ok (.invokevirtual 37, 3) := by decide +kernel
theorem dX8_putName_15 : decode cX8_putName 15 = .ok (.ifCond .eq 21, 3) := by decide +kernel
theorem dX8_putName_18 : decode cX8_putName 18 = .ok (.aload_n 0, 1) := by decide +kernel
theorem dX8_putName_19 : decode cX8_putName 19 = .ok (.iload_n 1, 1) := by decide +kernel
theorem dX8_putName_20 : decode cX8_putName 20 = .ok (.aload_n 0, 1) := by decide +kernel
theorem dX8_putName_21 : decode cX8_putName 21 = .ok (.getfield 19, 3) := by decide +kernel
theorem dX8_putName_24 : decode cX8_putName 24 = .ok (.aload_n 0, 1) := by decide +kernel
theorem dX8_putName_25 : decode cX8_putName 25 = .ok (.getfield 23, 3) := by decide +kernel
theorem dX8_putName_28 : decode cX8_putName 28 = .ok (.lsub, 1) := by decide +kernel
theorem dX8_putName_29 : decode cX8_putName 29 = .ok (.l2i, 1) := by decide +kernel
theorem dX8_putName_30 : decode cX8_putName 30 = .ok (.invokestatic 58, 3) := by decide +kernel
theorem dX8_putName_33 : decode cX8_putName 33 = .ok (.putfield 26, 3) := by decide +kernel
theorem dX8_putName_36 : decode cX8_putName 36 = .ok (.aload_n 0, 1) := by decide +kernel
theorem dX8_putName_37 : decode cX8_putName 37 = .ok (.dup, 1) := by decide +kernel
theorem dX8_putName_38 : decode cX8_putName 38 = .ok (.getfield 23, 3) := by decide +kernel
theorem dX8_putName_41 : decode cX8_putName 41 = .ok (.iload_n 2, 1) := by decide +kernel
theorem dX8_putName_42 : decode cX8_putName 42 = .ok (.i2l, 1) := by decide +kernel
theorem dX8_putName_43 : decode cX8_putName 43 = .ok (.ladd, 1) := by decide +kernel
theorem dX8_putName_44 : decode cX8_putName 44 = .ok (.putfield 23, 3) := by decide +kernel
theorem dX8_putName_47 : decode cX8_putName 47 = .ok (.return_, 1) := by decide +kernel
theorem dX8_putLevel_0 : decode cX8_putLevel 0 = .ok (.bipush 97, 2) := by decide +kernel
theorem dX8_putLevel_2 : decode cX8_putLevel 2 = .ok (.iload_n 1, 1) := by decide +kernel
theorem dX8_putLevel_3 : decode cX8_putLevel 3 = .ok (.bipush 26, 2) := by decide +kernel
theorem dX8_putLevel_5 : decode cX8_putLevel 5 = .ok (.irem, 1) := by decide +kernel
theorem dX8_putLevel_6 : decode cX8_putLevel 6 = .ok (.iadd, 1) := by decide +kernel
theorem dX8_putLevel_7 : decode cX8_putLevel 7 = .ok (.istore_n 2, 1) := by decide +kernel
theorem dX8_putLevel_8 : decode cX8_putLevel 8 = .ok (.iload_n 1, 1) := by decide +kernel
theorem dX8_putLevel_9 : decode cX8_putLevel 9 = .ok (.bipush 26, 2) := by decide +kernel
theorem dX8_putLevel_11 : decode cX8_putLevel 11 = .ok (.if_icmp .ge 17, 3) := by decide +kernel
theorem dX8_putLevel_14 : decode cX8_putLevel 14 = .ok (.aload_n 0, 1) := by decide +kernel
theorem dX8_putLevel_15 : decode cX8_putLevel 15 = .ok (.ldc 61, 2) := by decide +kernel
theorem dX8_putLevel_17 : decode cX8_putLevel 17 = .ok (.iload_n 2, 1) := by decide +kernel
theorem dX8_putLevel_18 : decode cX8_putLevel 18 = .ok (.bipush 16, 2) := by decide +kernel
theorem dX8_putLevel_20 : decode cX8_putLevel 20 = .ok (.ishl, 1) := by decide +kernel
theorem dX8_putLevel_21 : decode cX8_putLevel 21 = .ok (.ior, 1) := by decide +kernel
theorem dX8_putLevel_22 : decode cX8_putLevel 22 = .ok (.invokevirtual 62, 3) := by decide +kernel
theorem dX8_putLevel_25 : decode cX8_putLevel 25 = .ok (.goto 25, 3) := by decide +kernel
theorem dX8_putLevel_28 : decode cX8_putLevel 28 = .ok (.aload_n 0, 1) := by decide +kernel
theorem dX8_putLevel_29 : decode cX8_putLevel 29 = .ok (.ldc 61, 2) := by decide +kernel
theorem dX8_putLevel_31 : decode cX8_putLevel 31 = .ok (.bipush 97, 2) := by decide +kernel
theorem dX8_putLevel_33 : decode cX8_putLevel 33 = .ok (.iload_n 1, 1) := by decide +kernel
theorem dX8_putLevel_34 : decode cX8_putLevel 34 = .ok (.bipush 26, 2) := by decide +kernel
theorem dX8_putLevel_36 : decode cX8_putLevel 36 = .ok (.idiv, 1) := by decide +kernel
theorem dX8_putLevel_37 : decode cX8_putLevel 37 = .ok (.iadd, 1) := by decide +kernel
theorem dX8_putLevel_38 : decode cX8_putLevel 38 = .ok (.bipush 16, 2) := by decide +kernel
theorem dX8_putLevel_40 : decode cX8_putLevel 40 = .ok (.ishl, 1) := by decide +kernel
theorem dX8_putLevel_41 : decode cX8_putLevel 41 = .ok (.ior, 1) := by decide +kernel
theorem dX8_putLevel_42 : decode cX8_putLevel 42 = .ok (.iload_n 2, 1) := by decide +kernel
theorem dX8_putLevel_43 : decode cX8_putLevel 43 = .ok (.bipush 8, 2) := by decide +kernel
theorem dX8_putLevel_45 : decode cX8_putLevel 45 = .ok (.ishl, 1) := by decide +kernel
theorem dX8_putLevel_46 : decode cX8_putLevel 46 = .ok (.ior, 1) := by decide +kernel
theorem dX8_putLevel_47 : decode cX8_putLevel 47 = .ok (.invokevirtual 62, 3) := by decide +kernel
theorem dX8_putLevel_50 : decode cX8_putLevel 50 = .ok (.return_, 1) := by decide +kernel
theorem dX8_putTerm_0 : decode cX8_putTerm 0 = .ok (.aload_n 1, 1) := by decide +kernel
theorem dX8_putTerm_1 : decode cX8_putTerm 1 = .ok (.getfield 66, 3) := by decide +kernel
theorem dX8_putTerm_4 : decode cX8_putTerm 4 = .ok (.astore_n 3, 1) := by decide +kernel
theorem dX8_putTerm_5 : decode cX8_putTerm 5 = .ok (.iconst 0, 1) := by decide +kernel
theorem dX8_putTerm_6 : decode cX8_putTerm 6 = .ok (.istore 4, 2) := by decide +kernel
theorem dX8_putTerm_8 : decode cX8_putTerm 8 = .ok (.iload 4, 2) := by decide +kernel
theorem dX8_putTerm_10 : decode cX8_putTerm 10 = .ok (.aload_n 3, 1) := by decide +kernel
theorem dX8_putTerm_11 : decode cX8_putTerm 11 = .ok (.getfield 72, 3) := by decide +kernel
theorem dX8_putTerm_14 : decode cX8_putTerm 14 = .ok (.if_icmp .ge 127, 3) := by decide +kernel
theorem dX8_putTerm_17 : decode cX8_putTerm 17 = .ok (.aload_n 0, 1) := by decide +kernel
theorem dX8_putTerm_18 : decode cX8_putTerm 18 = .ok (.getfield 26, 3) := by decide +kernel
theorem dX8_putTerm_21 : decode cX8_putTerm 21 = .ok (.iconst (-1), 1) := by decide +kernel
theorem dX8_putTerm_22 : decode cX8_putTerm 22 = .ok (.if_icmp .ne 119, 3) := by decide +kernel
theorem dX8_putTerm_25 : decode cX8_putTerm 25 = .ok (.aload_n 3, 1) := by decide +kernel
theorem dX8_putTerm_26 : decode cX8_putTerm 26 = .ok (.iload 4, 2) := by decide +kernel
theorem dX8_putTerm_28 : decode cX8_putTerm 28 = .ok (.invokevirtual 77, 3) := by decide +kernel
theorem dX8_putTerm_31 : decode cX8_putTerm 31 = .ok (.istore 5, 2) := by decide +kernel
theorem dX8_putTerm_33 : decode cX8_putTerm 33 = .ok (.aload_n 3, 1) := by decide +kernel
theorem dX8_putTerm_34 : decode cX8_putTerm 34 = .ok (.iload 4, 2) := by decide +kernel
theorem dX8_putTerm_36 : decode cX8_putTerm 36 = .ok (.invokevirtual 80, 3) := by decide +kernel
theorem dX8_putTerm_39 : decode cX8_putTerm 39 = .ok (.istore 6, 2) := by decide +kernel
theorem dX8_putTerm_41 : decode cX8_putTerm 41 = .ok (.aload_n 1, 1) := by decide +kernel
theorem dX8_putTerm_42 : decode cX8_putTerm 42 = .ok (.iload 4, 2) := by decide +kernel
theorem dX8_putTerm_44 : decode cX8_putTerm 44 = .ok (.invokevirtual 83, 3) := by decide +kernel
theorem dX8_putTerm_47 : decode cX8_putTerm 47 = .ok (.ifCond .eq 30, 3) := by decide +kernel
theorem dX8_putTerm_50 : decode cX8_putTerm 50 = .ok (.aload_n 3, 1) := by decide +kernel
theorem dX8_putTerm_51 : decode cX8_putTerm 51 = .ok (.aload_n 1, 1) := by decide +kernel
theorem dX8_putTerm_52 : decode cX8_putTerm 52 = .ok (.iload 4, 2) := by decide +kernel
theorem dX8_putTerm_54 : decode cX8_putTerm 54 = .ok (.invokevirtual 87, 3) := by decide +kernel
theorem dX8_putTerm_57 : decode cX8_putTerm 57 = .ok (.invokevirtual 77, 3) := by decide +kernel
theorem dX8_putTerm_60 : decode cX8_putTerm 60 = .ok (.bipush 9, 2) := by decide +kernel
theorem dX8_putTerm_62 : decode cX8_putTerm 62 = .ok (.if_icmp .ne 15, 3) := by decide +kernel
theorem dX8_putTerm_65 : decode cX8_putTerm 65 = .ok (.aload_n 0, 1) := by decide +kernel
theorem dX8_putTerm_66 : decode cX8_putTerm 66 = .ok (.aload_n 1, 1) := by decide +kernel
theorem dX8_putTerm_67 : decode cX8_putTerm 67 = .ok (.iload 4, 2) := by decide +kernel
theorem dX8_putTerm_69 : decode cX8_putTerm 69 = .ok (.invokevirtual 90, 3) := by decide +kernel
theorem dX8_putTerm_72 : decode cX8_putTerm 72 = .ok (.iconst 1, 1) := by decide +kernel
theorem dX8_putTerm_73 : decode cX8_putTerm 73 = .ok (.isub, 1) := by decide +kernel
theorem dX8_putTerm_74 : decode cX8_putTerm 74 = .ok (.invokevirtual 93, 3) := by decide +kernel
theorem dX8_putTerm_77 : decode cX8_putTerm 77 = .ok (.iload 5, 2) := by decide +kernel
theorem dX8_putTerm_79 : decode cX8_putTerm 79 = .ok (.iconst 1, 1) := by decide +kernel
theorem dX8_putTerm_80 : decode cX8_putTerm 80 = .ok (.if_icmp .ne 12, 3) := by decide +kernel
theorem dX8_putTerm_83 : decode cX8_putTerm 83 = .ok (.aload_n 0, 1) := by decide +kernel
theorem dX8_putTerm_84 : decode cX8_putTerm 84 = .ok (.iload 6, 2) := by decide +kernel
theorem dX8_putTerm_86 : decode cX8_putTerm 86 = .ok (.invokevirtual 96, 3) := by decide +kernel
theorem dX8_putTerm_89 : decode cX8_putTerm 89 = .ok (.goto 12, 3) := by decide +kernel
theorem dX8_putTerm_92 : decode cX8_putTerm 92 = .ok (.aload_n 0, 1) := by decide +kernel
theorem dX8_putTerm_93 : decode cX8_putTerm 93 = .ok (.iload 5, 2) := by decide +kernel
theorem dX8_putTerm_95 : decode cX8_putTerm 95 = .ok (.bipush 11, 2) := by decide +kernel
theorem dX8_putTerm_97 : decode cX8_putTerm 97 = .ok (.iadd, 1) := by decide +kernel
theorem dX8_putTerm_98 : decode cX8_putTerm 98 = .ok (.invokevirtual 99, 3) := by decide +kernel
theorem dX8_putTerm_101 : decode cX8_putTerm 101 = .ok (.iload 5, 2) := by decide +kernel
theorem dX8_putTerm_103 : decode cX8_putTerm 103 = .ok (.iconst 2, 1) := by decide +kernel
theorem dX8_putTerm_104 : decode cX8_putTerm 104 = .ok (.if_icmp .ne 13, 3) := by decide +kernel
theorem dX8_putTerm_107 : decode cX8_putTerm 107 = .ok (.aload_n 0, 1) := by decide +kernel
theorem dX8_putTerm_108 : decode cX8_putTerm 108 = .ok (.aload_n 1, 1) := by decide +kernel
theorem dX8_putTerm_109 : decode cX8_putTerm 109 = .ok (.iload 4, 2) := by decide +kernel
theorem dX8_putTerm_111 : decode cX8_putTerm 111 = .ok (.invokevirtual 90, 3) := by decide +kernel
theorem dX8_putTerm_114 : decode cX8_putTerm 114 = .ok (.invokevirtual 93, 3) := by decide +kernel
theorem dX8_putTerm_117 : decode cX8_putTerm 117 = .ok (.iload_n 2, 1) := by decide +kernel
theorem dX8_putTerm_118 : decode cX8_putTerm 118 = .ok (.ifCond .eq 17, 3) := by decide +kernel
theorem dX8_putTerm_121 : decode cX8_putTerm 121 = .ok (.iload 5, 2) := by decide +kernel
theorem dX8_putTerm_123 : decode cX8_putTerm 123 = .ok (.invokestatic 102, 3) := by decide +kernel
theorem dX8_putTerm_126 : decode cX8_putTerm 126 = .ok (.ifCond .eq 9, 3) := by decide +kernel
theorem dX8_putTerm_129 : decode cX8_putTerm 129 = .ok (.aload_n 0, 1) := by decide +kernel
theorem dX8_putTerm_130 : decode cX8_putTerm 130 = .ok (.iload 6, 2) := by decide +kernel
theorem dX8_putTerm_132 : decode cX8_putTerm 132 = .ok (.invokevirtual 105, 3) := by decide +kernel
theorem dX8_putTerm_135 : decode cX8_putTerm 135 = .ok (.iinc 4 1, 3) := by decide +kernel
theorem dX8_putTerm_138 : decode cX8_putTerm 138 = .ok (.goto (-130), 3) := by decide +kernel
theorem dX8_putTerm_141 : decode cX8_putTerm 141 = .ok (.return_, 1) := by decide +kernel
theorem dX8_putMeaning_0 : decode cX8_putMeaning 0 = .ok (.iload_n 1, 1) := by decide +kernel
theorem dX8_putMeaning_1 : decode cX8_putMeaning 1 = .ok (.ifCond .ge 20, 3) := by decide +kernel
theorem dX8_putMeaning_4 : decode cX8_putMeaning 4 = .ok (.aload_n 0, 1) := by decide +kernel
theorem dX8_putMeaning_5 : decode cX8_putMeaning 5 = .ok (.aload_n 0, 1) := by decide +kernel
theorem dX8_putMeaning_6 : decode cX8_putMeaning 6 = .ok (.getfield 15, 3) := by decide +kernel
theorem dX8_putMeaning_9 : decode cX8_putMeaning 9 = .ok (.iconst (-1), 1) := by decide +kernel
theorem dX8_putMeaning_10 : decode cX8_putMeaning 10 = .ok (.iload_n 1, 1) := by decide +kernel
theorem dX8_putMeaning_11 : decode cX8_putMeaning 11 = .ok (.isub, 1) := by decide +kernel
theorem dX8_putMeaning_12 : decode cX8_putMeaning 12 = .ok (.invokevirtual 108, 3) := by decide +kernel
theorem dX8_putMeaning_15 : decode cX8_putMeaning 15 = .ok (.invokevirtual 62, 3) := by decide +kernel
theorem dX8_putMeaning_18 : decode cX8_putMeaning 18 = .ok (.goto 8, 3) := by decide +kernel
theorem dX8_putMeaning_21 : decode cX8_putMeaning 21 = .ok (.aload_n 0, 1) := by decide +kernel
theorem dX8_putMeaning_22 : decode cX8_putMeaning 22 = .ok (.iload_n 1, 1) := by decide +kernel
theorem dX8_putMeaning_23 : decode cX8_putMeaning 23 = .ok (.invokevirtual 93, 3) := by decide +kernel
theorem dX8_putMeaning_26 : decode cX8_putMeaning 26 = .ok (.return_, 1) := by decide +kernel
theorem dX9_init_0 : decode cX9_init 0 = .ok (.aload_n 0, 1) := by decide +kernel
theorem dX9_init_1 : decode cX9_init 1 = .ok (.invokespecial 3, 3) := by decide +kernel
theorem dX9_init_4 : decode cX9_init 4 = .ok (.aload_n 0, 1) := by decide +kernel
theorem dX9_init_5 : decode cX9_init 5 = .ok (.sipush 200, 3) := by decide +kernel
theorem dX9_init_8 : decode cX9_init 8 = .ok (.newarray .int, 2) := by decide +kernel
theorem dX9_init_10 : decode cX9_init 10 = .ok (.putfield 9, 3) := by decide +kernel
theorem dX9_init_13 : decode cX9_init 13 = .ok (.aload_n 0, 1) := by decide +kernel
theorem dX9_init_14 : decode cX9_init 14 = .ok (.sipush 200, 3) := by decide +kernel
theorem dX9_init_17 : decode cX9_init 17 = .ok (.newarray .int, 2) := by decide +kernel
theorem dX9_init_19 : decode cX9_init 19 = .ok (.putfield 15, 3) := by decide +kernel
theorem dX9_init_22 : decode cX9_init 22 = .ok (.return_, 1) := by decide +kernel
theorem dX9_clear_0 : decode cX9_clear 0 = .ok (.aload_n 0, 1) := by decide +kernel
theorem dX9_clear_1 : decode cX9_clear 1 = .ok (.iconst 0, 1) := by decide +kernel
theorem dX9_clear_2 : decode cX9_clear 2 = .ok (.putfield 18, 3) := by decide +kernel
theorem dX9_clear_5 : decode cX9_clear 5 = .ok (.aload_n 0, 1) := by decide +kernel
theorem dX9_clear_6 : decode cX9_clear 6 = .ok (.iconst 0, 1) := by decide +kernel
theorem dX9_clear_7 : decode cX9_clear 7 = .ok (.putfield 22, 3) := by decide +kernel
theorem dX9_clear_10 : decode cX9_clear 10 = .ok (.return_, 1) := by decide +kernel
theorem dX9_add_0 : decode cX9_add 0 = .ok (.aload_n 0, 1) := by decide +kernel
theorem dX9_add_1 : decode cX9_add 1 = .ok (.getfield 18, 3) := by decide +kernel
theorem dX9_add_4 : decode cX9_add 4 = .ok (.sipush 200, 3) := by decide +kernel
theorem dX9_add_7 : decode cX9_add 7 = .ok (.if_icmp .lt 9, 3) := by decide +kernel
theorem dX9_add_10 : decode cX9_add 10 = .ok (.aload_n 0, 1) := by decide +kernel
theorem dX9_add_11 : decode cX9_add 11 = .ok (.iconst 1, 1) := by decide +kernel
theorem dX9_add_12 : decode cX9_add 12 = .ok (.putfield 22, 3) := by decide +kernel
theorem dX9_add_15 : decode cX9_add 15 = .ok (.return_, 1) := by decide +kernel
theorem dX9_add_16 : decode cX9_add 16 = .ok (.aload_n 0, 1) := by decide +kernel
theorem dX9_add_17 : decode cX9_add 17 = .ok (.getfield 9, 3) := by decide +kernel
theorem dX9_add_20 : decode cX9_add 20 = .ok (.aload_n 0, 1) := by decide +kernel
theorem dX9_add_21 : decode cX9_add 21 = .ok (.getfield 18, 3) := by decide +kernel
theorem dX9_add_24 : decode cX9_add 24 = .ok (.iload_n 1, 1) := by decide +kernel
theorem dX9_add_25 : decode cX9_add 25 = .ok (.iastore, 1) := by decide +kernel
theorem dX9_add_26 : decode cX9_add 26 = .ok (.aload_n 0, 1) := by decide +kernel
theorem dX9_add_27 : decode cX9_add 27 = .ok (.getfield 15, 3) := by decide +kernel
theorem dX9_add_30 : decode cX9_add 30 = .ok (.aload_n 0, 1) := by decide +kernel
theorem dX9_add_31 : decode cX9_add 31 = .ok (.getfield 18, 3) := by decide +kernel
theorem dX9_add_34 : decode cX9_add 34 = .ok (.iload_n 2, 1) := by decide +kernel
theorem dX9_add_35 : decode cX9_add 35 = .ok (.iastore, 1) := by decide +kernel
theorem dX9_add_36 : decode cX9_add 36 = .ok (.aload_n 0, 1) := by decide +kernel
theorem dX9_add_37 : decode cX9_add 37 = .ok (.dup, 1) := by decide +kernel
theorem dX9_add_38 : decode cX9_add 38 = .ok (.getfield 18, 3) := by decide +kernel
theorem dX9_add_41 : decode cX9_add 41 = .ok (.iconst 1, 1) := by decide +kernel
theorem dX9_add_42 : decode cX9_add 42 = .ok (.iadd, 1) := by decide +kernel
theorem dX9_add_43 : decode cX9_add 43 = .ok (.putfield 18, 3) := by decide +kernel
theorem dX9_add_46 : decode cX9_add 46 = .ok (.return_, 1) := by decide +kernel
theorem dX9_tell_0 : decode cX9_tell 0 = .ok (.iload_n 1, 1) := by decide +kernel
theorem dX9_tell_1 : decode cX9_tell 1 = .ok (.ifCond .lt 18, 3) := by decide +kernel
theorem dX9_tell_4 : decode cX9_tell 4 = .ok (.iload_n 1, 1) := by decide +kernel
theorem dX9_tell_5 : decode cX9_tell 5 = .ok (.aload_n 0, 1) := by decide +kernel
theorem dX9_tell_6 : decode cX9_tell 6 = .ok (.getfield 18, 3) := by decide +kernel
theorem dX9_tell_9 : decode cX9_tell 9 = .ok (.if_icmp .ge 10, 3) := by decide +kernel
theorem dX9_tell_12 : decode cX9_tell 12 = .ok (.aload_n 0, 1) := by decide +kernel
theorem dX9_tell_13 : decode cX9_tell 13 = .ok (.getfield 15, 3) := by decide +kernel
theorem dX9_tell_16 : decode cX9_tell 16 = .ok (.iload_n 1, 1) := by decide +kernel
theorem dX9_tell_17 : decode cX9_tell 17 = .ok (.iload_n 2, 1) := by decide +kernel
theorem dX9_tell_18 : decode cX9_tell 18 = .ok (.iastore, 1) := by decide +kernel
theorem dX9_tell_19 : decode cX9_tell 19 = .ok (.return_, 1) := by decide +kernel
theorem dX9_opAt_0 : decode cX9_opAt 0 = .ok (.iload_n 1, 1) := by decide +kernel
theorem dX9_opAt_1 : decode cX9_opAt 1 = .ok (.ifCond .lt 20, 3) := by decide +kernel
theorem dX9_opAt_4 : decode cX9_opAt 4 = .ok (.iload_n 1, 1) := by decide +kernel
theorem dX9_opAt_5 : decode cX9_opAt 5 = .ok (.aload_n 0, 1) := by decide +kernel
theorem dX9_opAt_6 : decode cX9_opAt 6 = .ok (.getfield 18, 3) := by decide +kernel
theorem dX9_opAt_9 : decode cX9_opAt 9 = .ok (.if_icmp .ge 12, 3) := by decide +kernel
theorem dX9_opAt_12 : decode cX9_opAt 12 = .ok (.aload_n 0, 1) := by decide +kernel
theorem dX9_opAt_13 : decode cX9_opAt 13 = .ok (.getfield 9, 3) := by decide +kernel
theorem dX9_opAt_16 : decode cX9_opAt 16 = .ok (.iload_n 1, 1) := by decide +kernel
theorem dX9_opAt_17 : decode cX9_opAt 17 = .ok (.iaload, 1) := by decide +kernel
theorem dX9_opAt_18 : decode cX9_opAt 18 = .ok (.goto 4, 3) := by decide +kernel
theorem dX9_opAt_21 : decode cX9_opAt 21 = .ok (.iconst (-1), 1) := by decide +kernel
theorem dX9_opAt_22 : decode cX9_opAt 22 = .ok (.ireturn, 1) := by decide +kernel
theorem dX9_argAt_0 : decode cX9_argAt 0 = .ok (.iload_n 1, 1) := by decide +kernel
theorem dX9_argAt_1 : decode cX9_argAt 1 = .ok (.ifCond .lt 20, 3) := by decide +kernel
theorem dX9_argAt_4 : decode cX9_argAt 4 = .ok (.iload_n 1, 1) := by decide +kernel
theorem dX9_argAt_5 : decode cX9_argAt 5 = .ok (.aload_n 0, 1) := by decide +kernel
theorem dX9_argAt_6 : decode cX9_argAt 6 = .ok (.getfield 18, 3) := by decide +kernel
theorem dX9_argAt_9 : decode cX9_argAt 9 = .ok (.if_icmp .ge 12, 3) := by decide +kernel
theorem dX9_argAt_12 : decode cX9_argAt 12 = .ok (.aload_n 0, 1) := by decide +kernel
theorem dX9_argAt_13 : decode cX9_argAt 13 = .ok (.getfield 15, 3) := by decide +kernel
theorem dX9_argAt_16 : decode cX9_argAt 16 = .ok (.iload_n 1, 1) := by decide +kernel
theorem dX9_argAt_17 : decode cX9_argAt 17 = .ok (.iaload, 1) := by decide +kernel
theorem dX9_argAt_18 : decode cX9_argAt 18 = .ok (.goto 4, 3) := by decide +kernel
theorem dX9_argAt_21 : decode cX9_argAt 21 = .ok (.iconst (-1), 1) := by decide +kernel
theorem dX9_argAt_22 : decode cX9_argAt 22 = .ok (.ireturn, 1) := by decide +kernel
theorem dX9_isName_0 : decode cX9_isName 0 = .ok (.aload_n 0, 1) := by decide +kernel
theorem dX9_isName_1 : decode cX9_isName 1 = .ok (.iload_n 1, 1) := by decide +kernel
theorem dX9_isName_2 : decode cX9_isName 2 = .ok (.invokevirtual 26, 3) := by decide +kernel
theorem dX9_isName_5 : decode cX9_isName 5 = .ok (.iconst 1, 1) := by decide +kernel
theorem dX9_isName_6 : decode cX9_isName 6 = .ok (.if_icmp .ne 16, 3) := by decide +kernel
theorem dX9_isName_9 : decode cX9_isName 9 = .ok (.aload_n 0, 1) := by decide +kernel
theorem dX9_isName_10 : decode cX9_isName 10 = .ok (.iload_n 1, 1) := by decide +kernel
theorem dX9_isName_11 : decode cX9_isName 11 = .ok (.invokevirtual 30, 3) := by decide +kernel
theorem dX9_isName_14 : decode cX9_isName 14 = .ok (.iload_n 2, 1) := by decide +kernel
theorem dX9_isName_15 : decode cX9_isName 15 = .ok (.if_icmp .ne 7, 3) := by decide +kernel
theorem dX9_isName_18 : decode cX9_isName 18 = .ok (.iconst 1, 1) := by decide +kernel
theorem dX9_isName_19 : decode cX9_isName 19 = .ok (.goto 4, 3) := by decide +kernel
theorem dX9_isName_22 : decode cX9_isName 22 = .ok (.iconst 0, 1) := by decide +kernel
theorem dX9_isName_23 : decode cX9_isName 23 = .ok (.ireturn, 1) := by decide +kernel
theorem dX9_takeOver_0 : decode cX9_takeOver 0 = .ok (.aload_n 1, 1) := by decide +kernel
theorem dX9_takeOver_1 : decode cX9_takeOver 1 = .ok (.getfield 18, 3) := by decide +kernel
theorem dX9_takeOver_4 : decode cX9_takeOver 4 = .ok (.ifCond .lt 60, 3) := by decide +kernel
theorem dX9_takeOver_7 : decode cX9_takeOver 7 = .ok (.aload_n 1, 1) := by decide +kernel
theorem dX9_takeOver_8 : decode cX9_takeOver 8 = .ok (.getfield 18, 3) := by decide +kernel
theorem dX9_takeOver_11 : decode cX9_takeOver 11 = .ok (.sipush 200, 3) := by decide +kernel
theorem dX9_takeOver_14 : decode cX9_takeOver 14 = .ok (.if_icmp .gt 50, 3) := by decide +kernel
theorem dX9_takeOver_17 : decode cX9_takeOver 17 = .ok (.aload_n 1, 1) := by decide +kernel
theorem dX9_takeOver_18 : decode cX9_takeOver 18 = .ok (.getfield 9, 3) := by decide +kernel
theorem dX9_takeOver_21 : decode cX9_takeOver 21 = .ok (.iconst 0, 1) := by decide +kernel
theorem dX9_takeOver_22 : decode cX9_takeOver 22 = .ok (.aload_n 0, 1) := by decide +kernel
theorem dX9_takeOver_23 : decode cX9_takeOver 23 = .ok (.getfield 9, 3) := by decide +kernel
theorem dX9_takeOver_26 : decode cX9_takeOver 26 = .ok (.iconst 0, 1) := by decide +kernel
theorem dX9_takeOver_27 : decode cX9_takeOver 27 = .ok (.aload_n 1, 1) := by decide +kernel
theorem dX9_takeOver_28 : decode cX9_takeOver 28 = .ok (.getfield 18, 3) := by decide +kernel
theorem dX9_takeOver_31 : decode cX9_takeOver 31 = .ok (.invokestatic 33, 3) := by decide +kernel
theorem dX9_takeOver_34 : decode cX9_takeOver 34 = .ok (.aload_n 1, 1) := by decide +kernel
theorem dX9_takeOver_35 : decode cX9_takeOver 35 = .ok (.getfield 15, 3) := by decide +kernel
theorem dX9_takeOver_38 : decode cX9_takeOver 38 = .ok (.iconst 0, 1) := by decide +kernel
theorem dX9_takeOver_39 : decode cX9_takeOver 39 = .ok (.aload_n 0, 1) := by decide +kernel
theorem dX9_takeOver_40 : decode cX9_takeOver 40 = .ok (.getfield 15, 3) := by decide +kernel
theorem dX9_takeOver_43 : decode cX9_takeOver 43 = .ok (.iconst 0, 1) := by decide +kernel
theorem dX9_takeOver_44 : decode cX9_takeOver 44 = .ok (.aload_n 1, 1) := by decide +kernel
theorem dX9_takeOver_45 : decode cX9_takeOver 45 = .ok (.getfield 18, 3) := by decide +kernel
theorem dX9_takeOver_48 : decode cX9_takeOver 48 = .ok (.invokestatic 33, 3) := by decide +kernel
theorem dX9_takeOver_51 : decode cX9_takeOver 51 = .ok (.aload_n 0, 1) := by decide +kernel
theorem dX9_takeOver_52 : decode cX9_takeOver 52 = .ok (.aload_n 1, 1) := by decide +kernel
theorem dX9_takeOver_53 : decode cX9_takeOver 53 = .ok (.getfield 18, 3) := by decide +kernel
theorem dX9_takeOver_56 : decode cX9_takeOver 56 = .ok (.putfield 18, 3) := by decide +kernel
theorem dX9_takeOver_59 : decode cX9_takeOver 59 = .ok (.aload_n 0, 1) := by decide +kernel
theorem dX9_takeOver_60 : decode cX9_takeOver 60 = .ok (.iconst 0, 1) := by decide +kernel
theorem dX9_takeOver_61 : decode cX9_takeOver 61 = .ok (.putfield 22, 3) := by decide +kernel
theorem dX9_takeOver_64 : decode cX9_takeOver 64 = .ok (.return_, 1) := by decide +kernel
theorem dX9_sameAs_0 : decode cX9_sameAs 0 = .ok (.aload_n 0, 1) := by decide +kernel
theorem dX9_sameAs_1 : decode cX9_sameAs 1 = .ok (.getfield 18, 3) := by decide +kernel
theorem dX9_sameAs_4 : decode cX9_sameAs 4 = .ok (.aload_n 1, 1) := by decide +kernel
theorem dX9_sameAs_5 : decode cX9_sameAs 5 = .ok (.getfield 18, 3) := by decide +kernel
theorem dX9_sameAs_8 : decode cX9_sameAs 8 = .ok (.if_icmp .eq 5, 3) := by decide +kernel
theorem dX9_sameAs_11 : decode cX9_sameAs 11 = .ok (.iconst 0, 1) := by decide +kernel
theorem dX9_sameAs_12 : decode cX9_sameAs 12 = .ok (.ireturn, 1) := by decide +kernel
theorem dX9_sameAs_13 : decode cX9_sameAs 13 = .ok (.iconst 0, 1) := by decide +kernel
theorem dX9_sameAs_14 : decode cX9_sameAs 14 = .ok (.istore_n 2, 1) := by decide +kernel
theorem dX9_sameAs_15 : decode cX9_sameAs 15 = .ok (.iload_n 2, 1) := by decide +kernel
theorem dX9_sameAs_16 : decode cX9_sameAs 16 = .ok (.aload_n 0, 1) := by decide +kernel
theorem dX9_sameAs_17 : decode cX9_sameAs 17 = .ok (.getfield 18, 3) := by decide +kernel
theorem dX9_sameAs_20 : decode cX9_sameAs 20 = .ok (.if_icmp .ge 48, 3) := by decide +kernel
theorem dX9_sameAs_23 : decode cX9_sameAs 23 = .ok (.iload_n 2, 1) := by decide +kernel
theorem dX9_sameAs_24 : decode cX9_sameAs 24 = .ok (.sipush 200, 3) := by decide +kernel
theorem dX9_sameAs_27 : decode cX9_sameAs 27 = .ok (.if_icmp .ge 41, 3) := by decide +kernel
theorem dX9_sameAs_30 : decode cX9_sameAs 30 = .ok (.aload_n 0, 1) := by decide +kernel
theorem dX9_sameAs_31 : decode cX9_sameAs 31 = .ok (.getfield 9, 3) := by decide +kernel
theorem dX9_sameAs_34 : decode cX9_sameAs 34 = .ok (.iload_n 2, 1) := by decide +kernel
theorem dX9_sameAs_35 : decode cX9_sameAs 35 = .ok (.iaload, 1) := by decide +kernel
theorem dX9_sameAs_36 : decode cX9_sameAs 36 = .ok (.aload_n 1, 1) := by decide +kernel
theorem dX9_sameAs_37 : decode cX9_sameAs 37 = .ok (.getfield 9, 3) := by decide +kernel
theorem dX9_sameAs_40 : decode cX9_sameAs 40 = .ok (.iload_n 2, 1) := by decide +kernel
theorem dX9_sameAs_41 : decode cX9_sameAs 41 = .ok (.iaload, 1) := by decide +kernel
theorem dX9_sameAs_42 : decode cX9_sameAs 42 = .ok (.if_icmp .ne 18, 3) := by decide +kernel
theorem dX9_sameAs_45 : decode cX9_sameAs 45 = .ok (.aload_n 0, 1) := by decide +kernel
theorem dX9_sameAs_46 : decode cX9_sameAs 46 = .ok (.getfield 15, 3) := by decide +kernel
theorem dX9_sameAs_49 : decode cX9_sameAs 49 = .ok (.iload_n 2, 1) := by decide +kernel
theorem dX9_sameAs_50 : decode cX9_sameAs 50 = .ok (.iaload, 1) := by decide +kernel
theorem dX9_sameAs_51 : decode cX9_sameAs 51 = .ok (.aload_n 1, 1) := by decide +kernel
theorem dX9_sameAs_52 : decode cX9_sameAs 52 = .ok (.getfield 15, 3) := by decide +kernel
theorem dX9_sameAs_55 : decode cX9_sameAs 55 = .ok (.iload_n 2, 1) := by decide +kernel
theorem dX9_sameAs_56 : decode cX9_sameAs 56 = .ok (.iaload, 1) := by decide +kernel
theorem dX9_sameAs_57 : decode cX9_sameAs 57 = .ok (.if_icmp .eq 5, 3) := by decide +kernel
theorem dX9_sameAs_60 : decode cX9_sameAs 60 = .ok (.iconst 0, 1) := by decide +kernel
theorem dX9_sameAs_61 : decode cX9_sameAs 61 = .ok (.ireturn, 1) := by decide +kernel
theorem dX9_sameAs_62 : decode cX9_sameAs 62 = .ok (.iinc 2 1, 3) := by decide +kernel
theorem dX9_sameAs_65 : decode cX9_sameAs 65 = .ok (.goto (-50), 3) := by decide +kernel
theorem dX9_sameAs_68 : decode cX9_sameAs 68 = .ok (.iconst 1, 1) := by decide +kernel
theorem dX9_sameAs_69 : decode cX9_sameAs 69 = .ok (.ireturn, 1) := by decide +kernel
theorem dX9_hypothesesUsed_0 : decode cX9_hypothesesUsed 0 = .ok (.iconst 0, 1) := by decide +kernel
theorem dX9_hypothesesUsed_1 : decode cX9_hypothesesUsed 1 = .ok (.istore_n 1, 1) := by decide +kernel
theorem dX9_hypothesesUsed_2 : decode cX9_hypothesesUsed 2 = .ok (.iconst 0, 1) := by decide +kernel
theorem dX9_hypothesesUsed_3 : decode cX9_hypothesesUsed 3 = .ok (.istore_n 2, 1) := by decide +kernel
theorem dX9_hypothesesUsed_4 : decode cX9_hypothesesUsed 4 = .ok (.iload_n 2, 1) := by decide +kernel
theorem dX9_hypothesesUsed_5 : decode cX9_hypothesesUsed 5 = .ok (.aload_n 0, 1) := by decide +kernel
theorem dX9_hypothesesUsed_6 : decode cX9_hypothesesUsed 6 = .ok (.getfield 18, 3) := by decide +kernel
theorem dX9_hypothesesUsed_9 : decode cX9_hypothesesUsed 9 = .ok (.if_icmp .ge 48, 3) := by decide +kernel
theorem dX9_hypothesesUsed_12 : decode cX9_hypothesesUsed 12 = .ok (.iload_n 2, 1) := by decide +kernel
theorem dX9_hypothesesUsed_13 : decode cX9_hypothesesUsed 13 = .ok (.sipush 200, 3) := by decide +kernel
theorem dX9_hypothesesUsed_16 : decode cX9_hypothesesUsed 16 = .ok (.if_icmp .ge 41, 3) := by decide +kernel
theorem dX9_hypothesesUsed_19 : decode cX9_hypothesesUsed 19 = .ok (.aload_n 0, 1) := by decide +kernel
theorem dX9_hypothesesUsed_20 : decode cX9_hypothesesUsed 20 = .ok (.getfield 9, 3) := by decide +kernel
theorem dX9_hypothesesUsed_23 : decode cX9_hypothesesUsed 23 = .ok (.iload_n 2, 1) := by decide +kernel
theorem dX9_hypothesesUsed_24 : decode cX9_hypothesesUsed 24 = .ok (.iaload, 1) := by decide +kernel
theorem dX9_hypothesesUsed_25 : decode cX9_hypothesesUsed 25 = .ok (.iconst 1, 1) := by decide +kernel
theorem dX9_hypothesesUsed_26 : decode cX9_hypothesesUsed 26 = .ok (.if_icmp .ne 25, 3) := by decide +kernel
theorem dX9_hypothesesUsed_29 : decode cX9_hypothesesUsed 29 = .ok (.aload_n 0, 1) := by decide +kernel
theorem dX9_hypothesesUsed_30 : decode cX9_hypothesesUsed 30 = .ok (.getfield 15, 3) := by decide +kernel
theorem dX9_hypothesesUsed_33 : decode cX9_hypothesesUsed 33 = .ok (.iload_n 2, 1) := by decide +kernel
theorem dX9_hypothesesUsed_34 : decode cX9_hypothesesUsed 34 = .ok (.iaload, 1) := by decide +kernel
theorem dX9_hypothesesUsed_35 : decode cX9_hypothesesUsed 35 = .ok (.ifCond .ge 16, 3) := by decide +kernel
theorem dX9_hypothesesUsed_38 : decode cX9_hypothesesUsed 38 = .ok (.iload_n 1, 1) := by decide +kernel
theorem dX9_hypothesesUsed_39 : decode cX9_hypothesesUsed 39 = .ok (.iconst 1, 1) := by decide +kernel
theorem dX9_hypothesesUsed_40 : decode cX9_hypothesesUsed 40 = .ok (.iconst (-1), 1) := by decide +kernel
theorem dX9_hypothesesUsed_41 : decode cX9_hypothesesUsed 41 = .ok (.aload_n 0, 1) := by decide +kernel
theorem dX9_hypothesesUsed_42 : decode cX9_hypothesesUsed 42 = .ok (.getfield 15, 3) := by decide +kernel
theorem dX9_hypothesesUsed_45 : decode cX9_hypothesesUsed 45 = .ok (.iload_n 2, 1) := by decide +kernel
theorem dX9_hypothesesUsed_46 : decode cX9_hypothesesUsed 46 = .ok (.iaload, 1) := by decide +kernel
theorem dX9_hypothesesUsed_47 : decode cX9_hypothesesUsed 47 = .ok (.isub, 1) := by decide +kernel
theorem dX9_hypothesesUsed_48 : decode cX9_hypothesesUsed 48 = .ok (.ishl, 1) := by decide +kernel
theorem dX9_hypothesesUsed_49 : decode cX9_hypothesesUsed 49 = .ok (.ior, 1) := by decide +kernel
theorem dX9_hypothesesUsed_50 : decode cX9_hypothesesUsed 50 = .ok (.istore_n 1, 1) := by decide +kernel
theorem dX9_hypothesesUsed_51 : decode cX9_hypothesesUsed 51 = .ok (.iinc 2 1, 3) := by decide +kernel
theorem dX9_hypothesesUsed_54 : decode cX9_hypothesesUsed 54 = .ok (.goto (-50), 3) := by decide +kernel
theorem dX9_hypothesesUsed_57 : decode cX9_hypothesesUsed 57 = .ok (.iload_n 1, 1) := by decide +kernel
theorem dX9_hypothesesUsed_58 : decode cX9_hypothesesUsed 58 = .ok (.ireturn, 1) := by decide +kernel
theorem dX9_redexAt_0 : decode cX9_redexAt 0 = .ok (.aload_n 0, 1) := by decide +kernel
theorem dX9_redexAt_1 : decode cX9_redexAt 1 = .ok (.iload_n 1, 1) := by decide +kernel
theorem dX9_redexAt_2 : decode cX9_redexAt 2 = .ok (.invokevirtual 26, 3) := by decide +kernel
theorem dX9_redexAt_5 : decode cX9_redexAt 5 = .ok (.istore_n 2, 1) := by decide +kernel
theorem dX9_redexAt_6 : decode cX9_redexAt 6 = .ok (.aload_n 0, 1) := by decide +kernel
theorem dX9_redexAt_7 : decode cX9_redexAt 7 = .ok (.iload_n 1, 1) := by decide +kernel
theorem dX9_redexAt_8 : decode cX9_redexAt 8 = .ok (.iconst 1, 1) := by decide +kernel
theorem dX9_redexAt_9 : decode cX9_redexAt 9 = .ok (.iadd, 1) := by decide +kernel
theorem dX9_redexAt_10 : decode cX9_redexAt 10 = .ok (.invokevirtual 26, 3) := by decide +kernel
theorem dX9_redexAt_13 : decode cX9_redexAt 13 = .ok (.istore_n 3, 1) := by decide +kernel
theorem dX9_redexAt_14 : decode cX9_redexAt 14 = .ok (.iload_n 2, 1) := by decide +kernel
theorem dX9_redexAt_15 : decode cX9_redexAt 15 = .ok (.iconst 3, 1) := by decide +kernel
theorem dX9_redexAt_16 : decode cX9_redexAt 16 = .ok (.if_icmp .eq 28, 3) := by decide +kernel
theorem dX9_redexAt_19 : decode cX9_redexAt 19 = .ok (.iload_n 2, 1) := by decide +kernel
theorem dX9_redexAt_20 : decode cX9_redexAt 20 = .ok (.iconst 5, 1) := by decide +kernel
theorem dX9_redexAt_21 : decode cX9_redexAt 21 = .ok (.if_icmp .eq 23, 3) := by decide +kernel
theorem dX9_redexAt_24 : decode cX9_redexAt 24 = .ok (.iload_n 2, 1) := by decide +kernel
theorem dX9_redexAt_25 : decode cX9_redexAt 25 = .ok (.bipush 6, 2) := by decide +kernel
theorem dX9_redexAt_27 : decode cX9_redexAt 27 = .ok (.if_icmp .eq 17, 3) := by decide +kernel
theorem dX9_redexAt_30 : decode cX9_redexAt 30 = .ok (.iload_n 2, 1) := by decide +kernel
theorem dX9_redexAt_31 : decode cX9_redexAt 31 = .ok (.bipush 9, 2) := by decide +kernel
theorem dX9_redexAt_33 : decode cX9_redexAt 33 = .ok (.if_icmp .eq 11, 3) := by decide +kernel
theorem dX9_redexAt_36 : decode cX9_redexAt 36 = .ok (.iload_n 2, 1) := by decide +kernel
theorem dX9_redexAt_37 : decode cX9_redexAt 37 = .ok (.bipush 10, 2) := by decide +kernel
theorem dX9_redexAt_39 : decode cX9_redexAt 39 = .ok (.if_icmp .eq 5, 3) := by decide +kernel
theorem dX9_redexAt_42 : decode cX9_redexAt 42 = .ok (.iconst 0, 1) := by decide +kernel
theorem dX9_redexAt_43 : decode cX9_redexAt 43 = .ok (.ireturn, 1) := by decide +kernel
theorem dX9_redexAt_44 : decode cX9_redexAt 44 = .ok (.iload_n 3, 1) := by decide +kernel
theorem dX9_redexAt_45 : decode cX9_redexAt 45 = .ok (.bipush 9, 2) := by decide +kernel
theorem dX9_redexAt_47 : decode cX9_redexAt 47 = .ok (.if_icmp .eq 9, 3) := by decide +kernel
theorem dX9_redexAt_50 : decode cX9_redexAt 50 = .ok (.iload_n 3, 1) := by decide +kernel
theorem dX9_redexAt_51 : decode cX9_redexAt 51 = .ok (.bipush 10, 2) := by decide +kernel
theorem dX9_redexAt_53 : decode cX9_redexAt 53 = .ok (.if_icmp .ne 17, 3) := by decide +kernel
theorem dX9_redexAt_56 : decode cX9_redexAt 56 = .ok (.iload_n 3, 1) := by decide +kernel
theorem dX9_redexAt_57 : decode cX9_redexAt 57 = .ok (.bipush 9, 2) := by decide +kernel
theorem dX9_redexAt_59 : decode cX9_redexAt 59 = .ok (.if_icmp .ne 8, 3) := by decide +kernel
theorem dX9_redexAt_62 : decode cX9_redexAt 62 = .ok (.bipush 6, 2) := by decide +kernel
theorem dX9_redexAt_64 : decode cX9_redexAt 64 = .ok (.goto 5, 3) := by decide +kernel
theorem dX9_redexAt_67 : decode cX9_redexAt 67 = .ok (.bipush 7, 2) := by decide +kernel
theorem dX9_redexAt_69 : decode cX9_redexAt 69 = .ok (.ireturn, 1) := by decide +kernel
theorem dX9_redexAt_70 : decode cX9_redexAt 70 = .ok (.iload_n 2, 1) := by decide +kernel
theorem dX9_redexAt_71 : decode cX9_redexAt 71 = .ok (.tableswitch 96 3 9 #[41, 96, 52, 63, 96, 96, 74], 41) := by decide +kernel
theorem dX9_redexAt_112 : decode cX9_redexAt 112 = .ok (.iload_n 3, 1) := by decide +kernel
theorem dX9_redexAt_113 : decode cX9_redexAt 113 = .ok (.iconst 2, 1) := by decide +kernel
theorem dX9_redexAt_114 : decode cX9_redexAt 114 = .ok (.if_icmp .ne 7, 3) := by decide +kernel
theorem dX9_redexAt_117 : decode cX9_redexAt 117 = .ok (.iconst 1, 1) := by decide +kernel
theorem dX9_redexAt_118 : decode cX9_redexAt 118 = .ok (.goto 4, 3) := by decide +kernel
theorem dX9_redexAt_121 : decode cX9_redexAt 121 = .ok (.iconst 0, 1) := by decide +kernel
theorem dX9_redexAt_122 : decode cX9_redexAt 122 = .ok (.ireturn, 1) := by decide +kernel
theorem dX9_redexAt_123 : decode cX9_redexAt 123 = .ok (.iload_n 3, 1) := by decide +kernel
theorem dX9_redexAt_124 : decode cX9_redexAt 124 = .ok (.iconst 4, 1) := by decide +kernel
theorem dX9_redexAt_125 : decode cX9_redexAt 125 = .ok (.if_icmp .ne 7, 3) := by decide +kernel
theorem dX9_redexAt_128 : decode cX9_redexAt 128 = .ok (.iconst 2, 1) := by decide +kernel
theorem dX9_redexAt_129 : decode cX9_redexAt 129 = .ok (.goto 4, 3) := by decide +kernel
theorem dX9_redexAt_132 : decode cX9_redexAt 132 = .ok (.iconst 0, 1) := by decide +kernel
theorem dX9_redexAt_133 : decode cX9_redexAt 133 = .ok (.ireturn, 1) := by decide +kernel
theorem dX9_redexAt_134 : decode cX9_redexAt 134 = .ok (.iload_n 3, 1) := by decide +kernel
theorem dX9_redexAt_135 : decode cX9_redexAt 135 = .ok (.iconst 4, 1) := by decide +kernel
theorem dX9_redexAt_136 : decode cX9_redexAt 136 = .ok (.if_icmp .ne 7, 3) := by decide +kernel
theorem dX9_redexAt_139 : decode cX9_redexAt 139 = .ok (.iconst 3, 1) := by decide +kernel
theorem dX9_redexAt_140 : decode cX9_redexAt 140 = .ok (.goto 4, 3) := by decide +kernel
theorem dX9_redexAt_143 : decode cX9_redexAt 143 = .ok (.iconst 0, 1) := by decide +kernel
theorem dX9_redexAt_144 : decode cX9_redexAt 144 = .ok (.ireturn, 1) := by decide +kernel
theorem dX9_redexAt_145 : decode cX9_redexAt 145 = .ok (.iload_n 3, 1) := by decide +kernel
theorem dX9_redexAt_146 : decode cX9_redexAt 146 = .ok (.bipush 7, 2) := by decide +kernel
theorem dX9_redexAt_148 : decode cX9_redexAt 148 = .ok (.if_icmp .ne 7, 3) := by decide +kernel
theorem dX9_redexAt_151 : decode cX9_redexAt 151 = .ok (.iconst 4, 1) := by decide +kernel
theorem dX9_redexAt_152 : decode cX9_redexAt 152 = .ok (.goto 14, 3) := by decide +kernel
theorem dX9_redexAt_155 : decode cX9_redexAt 155 = .ok (.iload_n 3, 1) := by decide +kernel
theorem dX9_redexAt_156 : decode cX9_redexAt 156 = .ok (.bipush 8, 2) := by decide +kernel
theorem dX9_redexAt_158 : decode cX9_redexAt 158 = .ok (.if_icmp .ne 7, 3) := by decide +kernel
theorem dX9_redexAt_161 : decode cX9_redexAt 161 = .ok (.iconst 5, 1) := by decide +kernel
theorem dX9_redexAt_162 : decode cX9_redexAt 162 = .ok (.goto 4, 3) := by decide +kernel
theorem dX9_redexAt_165 : decode cX9_redexAt 165 = .ok (.iconst 0, 1) := by decide +kernel
theorem dX9_redexAt_166 : decode cX9_redexAt 166 = .ok (.ireturn, 1) := by decide +kernel
theorem dX9_redexAt_167 : decode cX9_redexAt 167 = .ok (.iconst 0, 1) := by decide +kernel
theorem dX9_redexAt_168 : decode cX9_redexAt 168 = .ok (.ireturn, 1) := by decide +kernel
theorem dX9_redexesOf_0 : decode cX9_redexesOf 0 = .ok (.iconst 0, 1) := by decide +kernel
theorem dX9_redexesOf_1 : decode cX9_redexesOf 1 = .ok (.istore_n 2, 1) := by decide +kernel
theorem dX9_redexesOf_2 : decode cX9_redexesOf 2 = .ok (.iconst 0, 1) := by decide +kernel
theorem dX9_redexesOf_3 : decode cX9_redexesOf 3 = .ok (.istore_n 3, 1) := by decide +kernel
theorem dX9_redexesOf_4 : decode cX9_redexesOf 4 = .ok (.iload_n 3, 1) := by decide +kernel
theorem dX9_redexesOf_5 : decode cX9_redexesOf 5 = .ok (.aload_n 0, 1) := by decide +kernel
theorem dX9_redexesOf_6 : decode cX9_redexesOf 6 = .ok (.getfield 18, 3) := by decide +kernel
theorem dX9_redexesOf_9 : decode cX9_redexesOf 9 = .ok (.if_icmp .ge 34, 3) := by decide +kernel
theorem dX9_redexesOf_12 : decode cX9_redexesOf 12 = .ok (.aload_n 0, 1) := by decide +kernel
theorem dX9_redexesOf_13 : decode cX9_redexesOf 13 = .ok (.iload_n 3, 1) := by decide +kernel
theorem dX9_redexesOf_14 : decode cX9_redexesOf 14 = .ok (.invokevirtual 39, 3) := by decide +kernel
theorem dX9_redexesOf_17 : decode cX9_redexesOf 17 = .ok (.istore 4, 2) := by decide +kernel
theorem dX9_redexesOf_19 : decode cX9_redexesOf 19 = .ok (.iload 4, 2) := by decide +kernel
theorem dX9_redexesOf_21 : decode cX9_redexesOf 21 = .ok (.ifCond .eq 16, 3) := by decide +kernel
theorem dX9_redexesOf_24 : decode cX9_redexesOf 24 = .ok (.iload_n 1, 1) := by decide +kernel
theorem dX9_redexesOf_25 : decode cX9_redexesOf 25 = .ok (.ifCond .eq 9, 3) := by decide +kernel
theorem dX9_redexesOf_28 : decode cX9_redexesOf 28 = .ok (.iload_n 1, 1) := by decide +kernel
theorem dX9_redexesOf_29 : decode cX9_redexesOf 29 = .ok (.iload 4, 2) := by decide +kernel
theorem dX9_redexesOf_31 : decode cX9_redexesOf 31 = .ok (.if_icmp .ne 6, 3) := by decide +kernel
theorem dX9_redexesOf_34 : decode cX9_redexesOf 34 = .ok (.iinc 2 1, 3) := by decide +kernel
theorem dX9_redexesOf_37 : decode cX9_redexesOf 37 = .ok (.iinc 3 1, 3) := by decide +kernel
theorem dX9_redexesOf_40 : decode cX9_redexesOf 40 = .ok (.goto (-36), 3) := by decide +kernel
theorem dX9_redexesOf_43 : decode cX9_redexesOf 43 = .ok (.iload_n 2, 1) := by decide +kernel
theorem dX9_redexesOf_44 : decode cX9_redexesOf 44 = .ok (.ireturn, 1) := by decide +kernel
theorem dX9_firstRedex_0 : decode cX9_firstRedex 0 = .ok (.iconst 0, 1) := by decide +kernel
theorem dX9_firstRedex_1 : decode cX9_firstRedex 1 = .ok (.istore_n 1, 1) := by decide +kernel
theorem dX9_firstRedex_2 : decode cX9_firstRedex 2 = .ok (.iload_n 1, 1) := by decide +kernel
theorem dX9_firstRedex_3 : decode cX9_firstRedex 3 = .ok (.aload_n 0, 1) := by decide +kernel
theorem dX9_firstRedex_4 : decode cX9_firstRedex 4 = .ok (.getfield 18, 3) := by decide +kernel
theorem dX9_firstRedex_7 : decode cX9_firstRedex 7 = .ok (.if_icmp .ge 19, 3) := by decide +kernel
theorem dX9_firstRedex_10 : decode cX9_firstRedex 10 = .ok (.aload_n 0, 1) := by decide +kernel
theorem dX9_firstRedex_11 : decode cX9_firstRedex 11 = .ok (.iload_n 1, 1) := by decide +kernel
theorem dX9_firstRedex_12 : decode cX9_firstRedex 12 = .ok (.invokevirtual 39, 3) := by decide +kernel
theorem dX9_firstRedex_15 : decode cX9_firstRedex 15 = .ok (.ifCond .eq 5, 3) := by decide +kernel
theorem dX9_firstRedex_18 : decode cX9_firstRedex 18 = .ok (.iload_n 1, 1) := by decide +kernel
theorem dX9_firstRedex_19 : decode cX9_firstRedex 19 = .ok (.ireturn, 1) := by decide +kernel
theorem dX9_firstRedex_20 : decode cX9_firstRedex 20 = .ok (.iinc 1 1, 3) := by decide +kernel
theorem dX9_firstRedex_23 : decode cX9_firstRedex 23 = .ok (.goto (-21), 3) := by decide +kernel
theorem dX9_firstRedex_26 : decode cX9_firstRedex 26 = .ok (.iconst (-1), 1) := by decide +kernel
theorem dX9_firstRedex_27 : decode cX9_firstRedex 27 = .ok (.ireturn, 1) := by decide +kernel
theorem dX10_init_0 : decode cX10_init 0 = .ok (.aload_n 0, 1) := by decide +kernel
theorem dX10_init_1 : decode cX10_init 1 = .ok (.invokespecial 1, 3) := by decide +kernel
theorem dX10_init_4 : decode cX10_init 4 = .ok (.aload_n 0, 1) := by decide +kernel
theorem dX10_init_5 : decode cX10_init 5 = .ok (.sipush 600, 3) := by decide +kernel
theorem dX10_init_8 : decode cX10_init 8 = .ok (.newarray .int, 2) := by decide +kernel
theorem dX10_init_10 : decode cX10_init 10 = .ok (.putfield 9, 3) := by decide +kernel
theorem dX10_init_13 : decode cX10_init 13 = .ok (.aload_n 0, 1) := by decide +kernel
theorem dX10_init_14 : decode cX10_init 14 = .ok (.new 13, 3) := by decide +kernel
theorem dX10_init_17 : decode cX10_init 17 = .ok (.dup, 1) := by decide +kernel
theorem dX10_init_18 : decode cX10_init 18 = .ok (.invokespecial 15, 3) := by decide +kernel
theorem dX10_init_21 : decode cX10_init 21 = .ok (.putfield 16, 3) := by decide +kernel
theorem dX10_init_24 : decode cX10_init 24 = .ok (.aload_n 0, 1) := by decide +kernel
theorem dX10_init_25 : decode cX10_init 25 = .ok (.new 20, 3) := by decide +kernel
theorem dX10_init_28 : decode cX10_init 28 = .ok (.dup, 1) := by decide +kernel
theorem dX10_init_29 : decode cX10_init 29 = .ok (.invokespecial 22, 3) := by decide +kernel
theorem dX10_init_32 : decode cX10_init 32 = .ok (.putfield 23, 3) := by decide +kernel
theorem dX10_init_35 : decode cX10_init 35 = .ok (.aload_n 0, 1) := by decide +kernel
theorem dX10_init_36 : decode cX10_init 36 = .ok (.new 27, 3) := by decide +kernel
theorem dX10_init_39 : decode cX10_init 39 = .ok (.dup, 1) := by decide +kernel
theorem dX10_init_40 : decode cX10_init 40 = .ok (.aload_n 0, 1) := by decide +kernel
theorem dX10_init_41 : decode cX10_init 41 = .ok (.getfield 16, 3) := by decide +kernel
theorem dX10_init_44 : decode cX10_init 44 = .ok (.aload_n 0, 1) := by decide +kernel
theorem dX10_init_45 : decode cX10_init 45 = .ok (.getfield 9, 3) := by decide +kernel
theorem dX10_init_48 : decode cX10_init 48 = .ok (.invokespecial 29, 3) := by decide +kernel
theorem dX10_init_51 : decode cX10_init 51 = .ok (.putfield 32, 3) := by decide +kernel
theorem dX10_init_54 : decode cX10_init 54 = .ok (.aload_n 0, 1) := by decide +kernel
theorem dX10_init_55 : decode cX10_init 55 = .ok (.iconst 4, 1) := by decide +kernel
theorem dX10_init_56 : decode cX10_init 56 = .ok (.anewarray 36, 3) := by decide +kernel
theorem dX10_init_59 : decode cX10_init 59 = .ok (.putfield 38, 3) := by decide +kernel
theorem dX10_init_62 : decode cX10_init 62 = .ok (.iconst 0, 1) := by decide +kernel
theorem dX10_init_63 : decode cX10_init 63 = .ok (.istore_n 1, 1) := by decide +kernel
theorem dX10_init_64 : decode cX10_init 64 = .ok (.iload_n 1, 1) := by decide +kernel
theorem dX10_init_65 : decode cX10_init 65 = .ok (.iconst 4, 1) := by decide +kernel
theorem dX10_init_66 : decode cX10_init 66 = .ok (.if_icmp .ge 22, 3) := by decide +kernel
theorem dX10_init_69 : decode cX10_init 69 = .ok (.aload_n 0, 1) := by decide +kernel
theorem dX10_init_70 : decode cX10_init 70 = .ok (.getfield 38, 3) := by decide +kernel
theorem dX10_init_73 : decode cX10_init 73 = .ok (.iload_n 1, 1) := by decide +kernel
theorem dX10_init_74 : decode cX10_init 74 = .ok (.new 36, 3) := by decide +kernel
theorem dX10_init_77 : decode cX10_init 77 = .ok (.dup, 1) := by decide +kernel
theorem dX10_init_78 : decode cX10_init 78 = .ok (.invokespecial 42, 3) := by decide +kernel
theorem dX10_init_81 : decode cX10_init 81 = .ok (.aastore, 1) := by decide +kernel
theorem dX10_init_82 : decode cX10_init 82 = .ok (.iinc 1 1, 3) := by decide +kernel
theorem dX10_init_85 : decode cX10_init 85 = .ok (.goto (-21), 3) := by decide +kernel
theorem dX10_init_88 : decode cX10_init 88 = .ok (.aload_n 0, 1) := by decide +kernel
theorem dX10_init_89 : decode cX10_init 89 = .ok (.new 36, 3) := by decide +kernel
theorem dX10_init_92 : decode cX10_init 92 = .ok (.dup, 1) := by decide +kernel
theorem dX10_init_93 : decode cX10_init 93 = .ok (.invokespecial 42, 3) := by decide +kernel
theorem dX10_init_96 : decode cX10_init 96 = .ok (.putfield 43, 3) := by decide +kernel
theorem dX10_init_99 : decode cX10_init 99 = .ok (.aload_n 0, 1) := by decide +kernel
theorem dX10_init_100 : decode cX10_init 100 = .ok (.new 47, 3) := by decide +kernel
theorem dX10_init_103 : decode cX10_init 103 = .ok (.dup, 1) := by decide +kernel
theorem dX10_init_104 : decode cX10_init 104 = .ok (.aload_n 0, 1) := by decide +kernel
theorem dX10_init_105 : decode cX10_init 105 = .ok (.getfield 16, 3) := by decide +kernel
theorem dX10_init_108 : decode cX10_init 108 = .ok (.aload_n 0, 1) := by decide +kernel
theorem dX10_init_109 : decode cX10_init 109 = .ok (.getfield 23, 3) := by decide +kernel
theorem dX10_init_112 : decode cX10_init 112 = .ok (.invokespecial 49, 3) := by decide +kernel
theorem dX10_init_115 : decode cX10_init 115 = .ok (.putfield 52, 3) := by decide +kernel
theorem dX10_init_118 : decode cX10_init 118 = .ok (.aload_n 0, 1) := by decide +kernel
theorem dX10_init_119 : decode cX10_init 119 = .ok (.new 56, 3) := by decide +kernel
theorem dX10_init_122 : decode cX10_init 122 = .ok (.dup, 1) := by decide +kernel
theorem dX10_init_123 : decode cX10_init 123 = .ok (.aload_n 0, 1) := by decide +kernel
theorem dX10_init_124 : decode cX10_init 124 = .ok (.getfield 52, 3) := by decide +kernel
theorem dX10_init_127 : decode cX10_init 127 = .ok (.invokespecial 58, 3) := by decide +kernel
theorem dX10_init_130 : decode cX10_init 130 = .ok (.putfield 61, 3) := by decide +kernel
theorem dX10_init_133 : decode cX10_init 133 = .ok (.aload_n 0, 1) := by decide +kernel
theorem dX10_init_134 : decode cX10_init 134 = .ok (.new 65, 3) := by decide +kernel
theorem dX10_init_137 : decode cX10_init 137 = .ok (.dup, 1) := by decide +kernel
theorem dX10_init_138 : decode cX10_init 138 = .ok (.aload_n 0, 1) := by decide +kernel
theorem dX10_init_139 : decode cX10_init 139 = .ok (.getfield 16, 3) := by decide +kernel
theorem dX10_init_142 : decode cX10_init 142 = .ok (.aload_n 0, 1) := by decide +kernel
theorem dX10_init_143 : decode cX10_init 143 = .ok (.getfield 23, 3) := by decide +kernel
theorem dX10_init_146 : decode cX10_init 146 = .ok (.invokespecial 67, 3) := by decide +kernel
theorem dX10_init_149 : decode cX10_init 149 = .ok (.putfield 68, 3) := by decide +kernel
theorem dX10_init_152 : decode cX10_init 152 = .ok (.aload_n 0, 1) := by decide +kernel
theorem dX10_init_153 : decode cX10_init 153 = .ok (.new 72, 3) := by decide +kernel
theorem dX10_init_156 : decode cX10_init 156 = .ok (.dup, 1) := by decide +kernel
theorem dX10_init_157 : decode cX10_init 157 = .ok (.aload_n 0, 1) := by decide +kernel
theorem dX10_init_158 : decode cX10_init 158 = .ok (.getfield 23, 3) := by decide +kernel
theorem dX10_init_161 : decode cX10_init 161 = .ok (.invokespecial 74, 3) := by decide +kernel
theorem dX10_init_164 : decode cX10_init 164 = .ok (.putfield 77, 3) := by decide +kernel
theorem dX10_init_167 : decode cX10_init 167 = .ok (.aload_n 0, 1) := by decide +kernel
theorem dX10_init_168 : decode cX10_init 168 = .ok (.new 81, 3) := by decide +kernel
theorem dX10_init_171 : decode cX10_init 171 = .ok (.dup, 1) := by decide +kernel
theorem dX10_init_172 : decode cX10_init 172 = .ok (.aload_n 0, 1) := by decide +kernel
theorem dX10_init_173 : decode cX10_init 173 = .ok (.getfield 16, 3) := by decide +kernel
theorem dX10_init_176 : decode cX10_init 176 = .ok (.invokespecial 83, 3) := by decide +kernel
theorem dX10_init_179 : decode cX10_init 179 = .ok (.putfield 86, 3) := by decide +kernel
theorem dX10_init_182 : decode cX10_init 182 = .ok (.aload_n 0, 1) := by decide +kernel
theorem dX10_init_183 : decode cX10_init 183 = .ok (.new 90, 3) := by decide +kernel
theorem dX10_init_186 : decode cX10_init 186 = .ok (.dup, 1) := by decide +kernel
theorem dX10_init_187 : decode cX10_init 187 = .ok (.aload_n 0, 1) := by decide +kernel
theorem dX10_init_188 : decode cX10_init 188 = .ok (.getfield 86, 3) := by decide +kernel
theorem dX10_init_191 : decode cX10_init 191 = .ok (.invokespecial 92, 3) := by decide +kernel
theorem dX10_init_194 : decode cX10_init 194 = .ok (.putfield 95, 3) := by decide +kernel
theorem dX10_init_197 : decode cX10_init 197 = .ok (.aload_n 0, 1) := by decide +kernel
theorem dX10_init_198 : decode cX10_init 198 = .ok (.bipush 60, 2) := by decide +kernel
theorem dX10_init_200 : decode cX10_init 200 = .ok (.newarray .int, 2) := by decide +kernel
theorem dX10_init_202 : decode cX10_init 202 = .ok (.putfield 99, 3) := by decide +kernel
theorem dX10_init_205 : decode cX10_init 205 = .ok (.aload_n 0, 1) := by decide +kernel
theorem dX10_init_206 : decode cX10_init 206 = .ok (.bipush 60, 2) := by decide +kernel
theorem dX10_init_208 : decode cX10_init 208 = .ok (.newarray .int, 2) := by decide +kernel
theorem dX10_init_210 : decode cX10_init 210 = .ok (.putfield 102, 3) := by decide +kernel
theorem dX10_init_213 : decode cX10_init 213 = .ok (.aload_n 0, 1) := by decide +kernel
theorem dX10_init_214 : decode cX10_init 214 = .ok (.iconst 0, 1) := by decide +kernel
theorem dX10_init_215 : decode cX10_init 215 = .ok (.putfield 105, 3) := by decide +kernel
theorem dX10_init_218 : decode cX10_init 218 = .ok (.aload_n 0, 1) := by decide +kernel
theorem dX10_init_219 : decode cX10_init 219 = .ok (.iconst 1, 1) := by decide +kernel
theorem dX10_init_220 : decode cX10_init 220 = .ok (.putfield 109, 3) := by decide +kernel
theorem dX10_init_223 : decode cX10_init 223 = .ok (.return_, 1) := by decide +kernel
theorem dX10_feed_0 : decode cX10_feed 0 = .ok (.aload_n 0, 1) := by decide +kernel
theorem dX10_feed_1 : decode cX10_feed 1 = .ok (.getfield 112, 3) := by decide +kernel
theorem dX10_feed_4 : decode cX10_feed 4 = .ok (.bipush 20, 2) := by decide +kernel
theorem dX10_feed_6 : decode cX10_feed 6 = .ok (.iadd, 1) := by decide +kernel
theorem dX10_feed_7 : decode cX10_feed 7 = .ok (.sipush 600, 3) := by decide +kernel
theorem dX10_feed_10 : decode cX10_feed 10 = .ok (.if_icmp .le 6, 3) := by decide +kernel
theorem dX10_feed_13 : decode cX10_feed 13 = .ok (.bipush (-4), 2) := by decide +kernel
theorem dX10_feed_15 : decode cX10_feed 15 = .ok (.ireturn, 1) := by decide +kernel
theorem dX10_feed_16 : decode cX10_feed 16 = .ok (.aload_n 0, 1) := by decide +kernel
theorem dX10_feed_17 : decode cX10_feed 17 = .ok (.iload_n 1, 1) := by decide +kernel
theorem dX10_feed_18 : decode cX10_feed 18 = .ok (.invokevirtual 115, 3) := by decide +kernel
theorem dX10_feed_21 : decode cX10_feed 21 = .ok (.aload_n 0, 1) := by decide +kernel
theorem dX10_feed_22 : decode cX10_feed 22 = .ok (.iload_n 2, 1) := by decide +kernel
theorem dX10_feed_23 : decode cX10_feed 23 = .ok (.invokevirtual 115, 3) := by decide +kernel
theorem dX10_feed_26 : decode cX10_feed 26 = .ok (.aload_n 0, 1) := by decide +kernel
theorem dX10_feed_27 : decode cX10_feed 27 = .ok (.iload_n 3, 1) := by decide +kernel
theorem dX10_feed_28 : decode cX10_feed 28 = .ok (.invokevirtual 115, 3) := by decide +kernel
theorem dX10_feed_31 : decode cX10_feed 31 = .ok (.aload_n 0, 1) := by decide +kernel
theorem dX10_feed_32 : decode cX10_feed 32 = .ok (.iload 4, 2) := by decide +kernel
theorem dX10_feed_34 : decode cX10_feed 34 = .ok (.invokevirtual 115, 3) := by decide +kernel
theorem dX10_feed_37 : decode cX10_feed 37 = .ok (.aload_n 0, 1) := by decide +kernel
theorem dX10_feed_38 : decode cX10_feed 38 = .ok (.iload 5, 2) := by decide +kernel
theorem dX10_feed_40 : decode cX10_feed 40 = .ok (.invokevirtual 115, 3) := by decide +kernel
theorem dX10_feed_43 : decode cX10_feed 43 = .ok (.aload_n 0, 1) := by decide +kernel
theorem dX10_feed_44 : decode cX10_feed 44 = .ok (.getfield 112, 3) := by decide +kernel
theorem dX10_feed_47 : decode cX10_feed 47 = .ok (.ireturn, 1) := by decide +kernel
theorem dX10_putBytes_0 : decode cX10_putBytes 0 = .ok (.bipush 24, 2) := by decide +kernel
theorem dX10_putBytes_2 : decode cX10_putBytes 2 = .ok (.istore_n 2, 1) := by decide +kernel
theorem dX10_putBytes_3 : decode cX10_putBytes 3 = .ok (.iload_n 2, 1) := by decide +kernel
theorem dX10_putBytes_4 : decode cX10_putBytes 4 = .ok (.ifCond .lt 45, 3) := by decide +kernel
theorem dX10_putBytes_7 : decode cX10_putBytes 7 = .ok (.aload_n 0, 1) := by decide +kernel
theorem dX10_putBytes_8 : decode cX10_putBytes 8 = .ok (.getfield 112, 3) := by decide +kernel
theorem dX10_putBytes_11 : decode cX10_putBytes 11 = .ok (.sipush 600, 3) := by decide +kernel
theorem dX10_putBytes_14 : decode cX10_putBytes 14 = .ok (.if_icmp .ge 35, 3) := by decide +kernel
theorem dX10_putBytes_17 : decode cX10_putBytes 17 = .ok (.aload_n 0, 1) := by decide +kernel
theorem dX10_putBytes_18 : decode cX10_putBytes 18 = .ok (.getfield 9, 3) := by decide +kernel
theorem dX10_putBytes_21 : decode cX10_putBytes 21 = .ok (.aload_n 0, 1) := by decide +kernel
theorem dX10_putBytes_22 : decode cX10_putBytes 22 = .ok (.getfield 112, 3) := by decide +kernel
theorem dX10_putBytes_25 : decode cX10_putBytes 25 = .ok (.iload_n 1, 1) := by decide +kernel
theorem dX10_putBytes_26 : decode cX10_putBytes 26 = .ok (.iload_n 2, 1) := by decide +kernel
theorem dX10_putBytes_27 : decode cX10_putBytes 27 = .ok (.iushr, 1) := by decide +kernel
theorem dX10_putBytes_28 : decode cX10_putBytes 28 = .ok (.sipush 255, 3) := by decide +kernel
theorem dX10_putBytes_31 : decode cX10_putBytes 31 = .ok (.iand, 1) := by decide +kernel
theorem dX10_putBytes_32 : decode cX10_putBytes 32 = .ok (.iastore, 1) := by decide +kernel
theorem dX10_putBytes_33 : decode cX10_putBytes 33 = .ok (.aload_n 0, 1) := by decide +kernel
theorem dX10_putBytes_34 : decode cX10_putBytes 34 = .ok (.dup, 1) := by decide +kernel
theorem dX10_putBytes_35 : decode cX10_putBytes 35 = .ok (.getfield 112, 3) := by decide +kernel
theorem dX10_putBytes_38 : decode cX10_putBytes 38 = .ok (.iconst 1, 1) := by decide +kernel
theorem dX10_putBytes_39 : decode cX10_putBytes 39 = .ok (.iadd, 1) := by decide +kernel
theorem dX10_putBytes_40 : decode cX10_putBytes 40 = .ok (.putfield 112, 3) := by decide +kernel
theorem dX10_putBytes_43 : decode cX10_putBytes 43 = .ok (.iinc 2 (-8), 3) := by decide +kernel
theorem dX10_putBytes_46 : decode cX10_putBytes 46 = .ok (.goto (-43), 3) := by decide +kernel
theorem dX10_putBytes_49 : decode cX10_putBytes 49 = .ok (.return_, 1) := by decide +kernel
theorem dX10_tapeLacks_0 : decode cX10_tapeLacks 0 = .ok (.iload_n 1, 1) := by decide +kernel
theorem dX10_tapeLacks_1 : decode cX10_tapeLacks 1 = .ok (.ifCond .lt 11, 3) := by decide +kernel
theorem dX10_tapeLacks_4 : decode cX10_tapeLacks 4 = .ok (.iload_n 1, 1) := by decide +kernel
theorem dX10_tapeLacks_5 : decode cX10_tapeLacks 5 = .ok (.aload_n 0, 1) := by decide +kernel
theorem dX10_tapeLacks_6 : decode cX10_tapeLacks 6 = .ok (.getfield 112, 3) := by decide +kernel
theorem dX10_tapeLacks_9 : decode cX10_tapeLacks 9 = .ok (.if_icmp .le 7, 3) := by decide +kernel
theorem dX10_tapeLacks_12 : decode cX10_tapeLacks 12 = .ok (.iconst 1, 1) := by decide +kernel
theorem dX10_tapeLacks_13 : decode cX10_tapeLacks 13 = .ok (.goto 4, 3) := by decide +kernel
theorem dX10_tapeLacks_16 : decode cX10_tapeLacks 16 = .ok (.iconst 0, 1) := by decide +kernel
theorem dX10_tapeLacks_17 : decode cX10_tapeLacks 17 = .ok (.ireturn, 1) := by decide +kernel
theorem dX10_hypotheses_0 : decode cX10_hypotheses 0 = .ok (.aload_n 0, 1) := by decide +kernel
theorem dX10_hypotheses_1 : decode cX10_hypotheses 1 = .ok (.iload_n 1, 1) := by decide +kernel
theorem dX10_hypotheses_2 : decode cX10_hypotheses 2 = .ok (.invokevirtual 119, 3) := by decide +kernel
theorem dX10_hypotheses_5 : decode cX10_hypotheses 5 = .ok (.ifCond .eq 6, 3) := by decide +kernel
theorem dX10_hypotheses_8 : decode cX10_hypotheses 8 = .ok (.bipush (-3), 2) := by decide +kernel
theorem dX10_hypotheses_10 : decode cX10_hypotheses 10 = .ok (.ireturn, 1) := by decide +kernel
theorem dX10_hypotheses_11 : decode cX10_hypotheses 11 = .ok (.aload_n 0, 1) := by decide +kernel
theorem dX10_hypotheses_12 : decode cX10_hypotheses 12 = .ok (.iconst 0, 1) := by decide +kernel
theorem dX10_hypotheses_13 : decode cX10_hypotheses 13 = .ok (.putfield 112, 3) := by decide +kernel
theorem dX10_hypotheses_16 : decode cX10_hypotheses 16 = .ok (.aload_n 0, 1) := by decide +kernel
theorem dX10_hypotheses_17 : decode cX10_hypotheses 17 = .ok (.getfield 32, 3) := by decide +kernel
theorem dX10_hypotheses_20 : decode cX10_hypotheses 20 = .ok (.iload_n 1, 1) := by decide +kernel
theorem dX10_hypotheses_21 : decode cX10_hypotheses 21 = .ok (.invokevirtual 123, 3) := by decide +kernel
theorem dX10_hypotheses_24 : decode cX10_hypotheses 24 = .ok (.ifCond .ne 14, 3) := by decide +kernel
theorem dX10_hypotheses_27 : decode cX10_hypotheses 27 = .ok (.bipush (-30), 2) := by decide +kernel
theorem dX10_hypotheses_29 : decode cX10_hypotheses 29 = .ok (.aload_n 0, 1) := by decide +kernel
theorem dX10_hypotheses_30 : decode cX10_hypotheses 30 = .ok (.getfield 32, 3) := by decide +kernel
theorem dX10_hypotheses_33 : decode cX10_hypotheses 33 = .ok (.getfield 126, 3) := by decide +kernel
theorem dX10_hypotheses_36 : decode cX10_hypotheses 36 = .ok (.isub, 1) := by decide +kernel
theorem dX10_hypotheses_37 : decode cX10_hypotheses 37 = .ok (.ireturn, 1) := by decide +kernel
theorem dX10_hypotheses_38 : decode cX10_hypotheses 38 = .ok (.aload_n 0, 1) := by decide +kernel
theorem dX10_hypotheses_39 : decode cX10_hypotheses 39 = .ok (.getfield 23, 3) := by decide +kernel
theorem dX10_hypotheses_42 : decode cX10_hypotheses 42 = .ok (.aload_n 0, 1) := by decide +kernel
theorem dX10_hypotheses_43 : decode cX10_hypotheses 43 = .ok (.getfield 32, 3) := by decide +kernel
theorem dX10_hypotheses_46 : decode cX10_hypotheses 46 = .ok (.getfield 129, 3) := by decide +kernel
theorem dX10_hypotheses_49 : decode cX10_hypotheses 49 = .ok (.invokevirtual 132, 3) := by decide +kernel
theorem dX10_hypotheses_52 : decode cX10_hypotheses 52 = .ok (.iconst 0, 1) := by decide +kernel
theorem dX10_hypotheses_53 : decode cX10_hypotheses 53 = .ok (.istore_n 2, 1) := by decide +kernel
theorem dX10_hypotheses_54 : decode cX10_hypotheses 54 = .ok (.iload_n 2, 1) := by decide +kernel
theorem dX10_hypotheses_55 : decode cX10_hypotheses 55 = .ok (.iconst 4, 1) := by decide +kernel
theorem dX10_hypotheses_56 : decode cX10_hypotheses 56 = .ok (.if_icmp .ge 18, 3) := by decide +kernel
theorem dX10_hypotheses_59 : decode cX10_hypotheses 59 = .ok (.aload_n 0, 1) := by decide +kernel
theorem dX10_hypotheses_60 : decode cX10_hypotheses 60 = .ok (.getfield 38, 3) := by decide +kernel
theorem dX10_hypotheses_63 : decode cX10_hypotheses 63 = .ok (.iload_n 2, 1) := by decide +kernel
theorem dX10_hypotheses_64 : decode cX10_hypotheses 64 = .ok (.aaload, 1) := by decide +kernel
theorem dX10_hypotheses_65 : decode cX10_hypotheses 65 = .ok (.invokevirtual 135, 3) := by decide +kernel
theorem dX10_hypotheses_68 : decode cX10_hypotheses 68 = .ok (.iinc 2 1, 3) := by decide +kernel
theorem dX10_hypotheses_71 : decode cX10_hypotheses 71 = .ok (.goto (-17), 3) := by decide +kernel
theorem dX10_hypotheses_74 : decode cX10_hypotheses 74 = .ok (.aload_n 0, 1) := by decide +kernel
theorem dX10_hypotheses_75 : decode cX10_hypotheses 75 = .ok (.getfield 23, 3) := by decide +kernel
theorem dX10_hypotheses_78 : decode cX10_hypotheses 78 = .ok (.getfield 138, 3) := by decide +kernel
theorem dX10_hypotheses_81 : decode cX10_hypotheses 81 = .ok (.ireturn, 1) := by decide +kernel
theorem dX10_goal_0 : decode cX10_goal 0 = .ok (.aload_n 0, 1) := by decide +kernel
theorem dX10_goal_1 : decode cX10_goal 1 = .ok (.iload_n 1, 1) := by decide +kernel
theorem dX10_goal_2 : decode cX10_goal 2 = .ok (.invokevirtual 119, 3) := by decide +kernel
theorem dX10_goal_5 : decode cX10_goal 5 = .ok (.ifCond .eq 6, 3) := by decide +kernel
theorem dX10_goal_8 : decode cX10_goal 8 = .ok (.bipush (-3), 2) := by decide +kernel
theorem dX10_goal_10 : decode cX10_goal 10 = .ok (.ireturn, 1) := by decide +kernel
theorem dX10_goal_11 : decode cX10_goal 11 = .ok (.aload_n 0, 1) := by decide +kernel
theorem dX10_goal_12 : decode cX10_goal 12 = .ok (.iconst 0, 1) := by decide +kernel
theorem dX10_goal_13 : decode cX10_goal 13 = .ok (.putfield 112, 3) := by decide +kernel
theorem dX10_goal_16 : decode cX10_goal 16 = .ok (.aload_n 0, 1) := by decide +kernel
theorem dX10_goal_17 : decode cX10_goal 17 = .ok (.getfield 32, 3) := by decide +kernel
theorem dX10_goal_20 : decode cX10_goal 20 = .ok (.iload_n 1, 1) := by decide +kernel
theorem dX10_goal_21 : decode cX10_goal 21 = .ok (.invokevirtual 141, 3) := by decide +kernel
theorem dX10_goal_24 : decode cX10_goal 24 = .ok (.istore_n 2, 1) := by decide +kernel
theorem dX10_goal_25 : decode cX10_goal 25 = .ok (.iload_n 2, 1) := by decide +kernel
theorem dX10_goal_26 : decode cX10_goal 26 = .ok (.iconst (-1), 1) := by decide +kernel
theorem dX10_goal_27 : decode cX10_goal 27 = .ok (.if_icmp .ne 14, 3) := by decide +kernel
theorem dX10_goal_30 : decode cX10_goal 30 = .ok (.bipush (-30), 2) := by decide +kernel
theorem dX10_goal_32 : decode cX10_goal 32 = .ok (.aload_n 0, 1) := by decide +kernel
theorem dX10_goal_33 : decode cX10_goal 33 = .ok (.getfield 32, 3) := by decide +kernel
theorem dX10_goal_36 : decode cX10_goal 36 = .ok (.getfield 126, 3) := by decide +kernel
theorem dX10_goal_39 : decode cX10_goal 39 = .ok (.isub, 1) := by decide +kernel
theorem dX10_goal_40 : decode cX10_goal 40 = .ok (.ireturn, 1) := by decide +kernel
theorem dX10_goal_41 : decode cX10_goal 41 = .ok (.aload_n 0, 1) := by decide +kernel
theorem dX10_goal_42 : decode cX10_goal 42 = .ok (.iload_n 2, 1) := by decide +kernel
theorem dX10_goal_43 : decode cX10_goal 43 = .ok (.putfield 105, 3) := by decide +kernel
theorem dX10_goal_46 : decode cX10_goal 46 = .ok (.aload_n 0, 1) := by decide +kernel
theorem dX10_goal_47 : decode cX10_goal 47 = .ok (.aload_n 0, 1) := by decide +kernel
theorem dX10_goal_48 : decode cX10_goal 48 = .ok (.getfield 32, 3) := by decide +kernel
theorem dX10_goal_51 : decode cX10_goal 51 = .ok (.getfield 145, 3) := by decide +kernel
theorem dX10_goal_54 : decode cX10_goal 54 = .ok (.putfield 109, 3) := by decide +kernel
theorem dX10_goal_57 : decode cX10_goal 57 = .ok (.aload_n 0, 1) := by decide +kernel
theorem dX10_goal_58 : decode cX10_goal 58 = .ok (.getfield 32, 3) := by decide +kernel
theorem dX10_goal_61 : decode cX10_goal 61 = .ok (.getfield 148, 3) := by decide +kernel
theorem dX10_goal_64 : decode cX10_goal 64 = .ok (.ireturn, 1) := by decide +kernel
theorem dX10_proof_0 : decode cX10_proof 0 = .ok (.iload_n 1, 1) := by decide +kernel
theorem dX10_proof_1 : decode cX10_proof 1 = .ok (.invokestatic 151, 3) := by decide +kernel
theorem dX10_proof_4 : decode cX10_proof 4 = .ok (.ifCond .eq 6, 3) := by decide +kernel
theorem dX10_proof_7 : decode cX10_proof 7 = .ok (.bipush (-2), 2) := by decide +kernel
theorem dX10_proof_9 : decode cX10_proof 9 = .ok (.ireturn, 1) := by decide +kernel
theorem dX10_proof_10 : decode cX10_proof 10 = .ok (.aload_n 0, 1) := by decide +kernel
theorem dX10_proof_11 : decode cX10_proof 11 = .ok (.iload_n 2, 1) := by decide +kernel
theorem dX10_proof_12 : decode cX10_proof 12 = .ok (.invokevirtual 119, 3) := by decide +kernel
theorem dX10_proof_15 : decode cX10_proof 15 = .ok (.ifCond .eq 6, 3) := by decide +kernel
theorem dX10_proof_18 : decode cX10_proof 18 = .ok (.bipush (-3), 2) := by decide +kernel
theorem dX10_proof_20 : decode cX10_proof 20 = .ok (.ireturn, 1) := by decide +kernel
theorem dX10_proof_21 : decode cX10_proof 21 = .ok (.aload_n 0, 1) := by decide +kernel
theorem dX10_proof_22 : decode cX10_proof 22 = .ok (.iconst 0, 1) := by decide +kernel
theorem dX10_proof_23 : decode cX10_proof 23 = .ok (.putfield 112, 3) := by decide +kernel
theorem dX10_proof_26 : decode cX10_proof 26 = .ok (.aload_n 0, 1) := by decide +kernel
theorem dX10_proof_27 : decode cX10_proof 27 = .ok (.getfield 32, 3) := by decide +kernel
theorem dX10_proof_30 : decode cX10_proof 30 = .ok (.iload_n 2, 1) := by decide +kernel
theorem dX10_proof_31 : decode cX10_proof 31 = .ok (.aload_n 0, 1) := by decide +kernel
theorem dX10_proof_32 : decode cX10_proof 32 = .ok (.getfield 23, 3) := by decide +kernel
theorem dX10_proof_35 : decode cX10_proof 35 = .ok (.aload_n 0, 1) := by decide +kernel
theorem dX10_proof_36 : decode cX10_proof 36 = .ok (.getfield 43, 3) := by decide +kernel
theorem dX10_proof_39 : decode cX10_proof 39 = .ok (.invokevirtual 154, 3) := by decide +kernel
theorem dX10_proof_42 : decode cX10_proof 42 = .ok (.ifCond .ne 14, 3) := by decide +kernel
theorem dX10_proof_45 : decode cX10_proof 45 = .ok (.bipush (-30), 2) := by decide +kernel
theorem dX10_proof_47 : decode cX10_proof 47 = .ok (.aload_n 0, 1) := by decide +kernel
theorem dX10_proof_48 : decode cX10_proof 48 = .ok (.getfield 32, 3) := by decide +kernel
theorem dX10_proof_51 : decode cX10_proof 51 = .ok (.getfield 126, 3) := by decide +kernel
theorem dX10_proof_54 : decode cX10_proof 54 = .ok (.isub, 1) := by decide +kernel
theorem dX10_proof_55 : decode cX10_proof 55 = .ok (.ireturn, 1) := by decide +kernel
theorem dX10_proof_56 : decode cX10_proof 56 = .ok (.aload_n 0, 1) := by decide +kernel
theorem dX10_proof_57 : decode cX10_proof 57 = .ok (.getfield 52, 3) := by decide +kernel
theorem dX10_proof_60 : decode cX10_proof 60 = .ok (.aload_n 0, 1) := by decide +kernel
theorem dX10_proof_61 : decode cX10_proof 61 = .ok (.getfield 43, 3) := by decide +kernel
theorem dX10_proof_64 : decode cX10_proof 64 = .ok (.invokevirtual 158, 3) := by decide +kernel
theorem dX10_proof_67 : decode cX10_proof 67 = .ok (.aload_n 0, 1) := by decide +kernel
theorem dX10_proof_68 : decode cX10_proof 68 = .ok (.getfield 52, 3) := by decide +kernel
theorem dX10_proof_71 : decode cX10_proof 71 = .ok (.invokevirtual 162, 3) := by decide +kernel
theorem dX10_proof_74 : decode cX10_proof 74 = .ok (.istore_n 3, 1) := by decide +kernel
theorem dX10_proof_75 : decode cX10_proof 75 = .ok (.iload_n 3, 1) := by decide +kernel
theorem dX10_proof_76 : decode cX10_proof 76 = .ok (.iconst (-1), 1) := by decide +kernel
theorem dX10_proof_77 : decode cX10_proof 77 = .ok (.if_icmp .eq 22, 3) := by decide +kernel
theorem dX10_proof_80 : decode cX10_proof 80 = .ok (.aload_n 0, 1) := by decide +kernel
theorem dX10_proof_81 : decode cX10_proof 81 = .ok (.getfield 32, 3) := by decide +kernel
theorem dX10_proof_84 : decode cX10_proof 84 = .ok (.iload_n 3, 1) := by decide +kernel
theorem dX10_proof_85 : decode cX10_proof 85 = .ok (.invokevirtual 166, 3) := by decide +kernel
theorem dX10_proof_88 : decode cX10_proof 88 = .ok (.bipush (-30), 2) := by decide +kernel
theorem dX10_proof_90 : decode cX10_proof 90 = .ok (.aload_n 0, 1) := by decide +kernel
theorem dX10_proof_91 : decode cX10_proof 91 = .ok (.getfield 32, 3) := by decide +kernel
theorem dX10_proof_94 : decode cX10_proof 94 = .ok (.getfield 126, 3) := by decide +kernel
theorem dX10_proof_97 : decode cX10_proof 97 = .ok (.isub, 1) := by decide +kernel
theorem dX10_proof_98 : decode cX10_proof 98 = .ok (.ireturn, 1) := by decide +kernel
theorem dX10_proof_99 : decode cX10_proof 99 = .ok (.aload_n 0, 1) := by decide +kernel
theorem dX10_proof_100 : decode cX10_proof 100 = .ok (.getfield 38, 3) := by decide +kernel
theorem dX10_proof_103 : decode cX10_proof 103 = .ok (.iload_n 1, 1) := by decide +kernel
theorem dX10_proof_104 : decode cX10_proof 104 = .ok (.aaload, 1) := by decide +kernel
theorem dX10_proof_105 : decode cX10_proof 105 = .ok (.aload_n 0, 1) := by decide +kernel
theorem dX10_proof_106 : decode cX10_proof 106 = .ok (.getfield 43, 3) := by decide +kernel
theorem dX10_proof_109 : decode cX10_proof 109 = .ok (.invokevirtual 169, 3) := by decide +kernel
theorem dX10_proof_112 : decode cX10_proof 112 = .ok (.aload_n 0, 1) := by decide +kernel
theorem dX10_proof_113 : decode cX10_proof 113 = .ok (.getfield 43, 3) := by decide +kernel
theorem dX10_proof_116 : decode cX10_proof 116 = .ok (.getfield 171, 3) := by decide +kernel
theorem dX10_proof_119 : decode cX10_proof 119 = .ok (.ireturn, 1) := by decide +kernel
theorem dX10_fault_0 : decode cX10_fault 0 = .ok (.iload_n 1, 1) := by decide +kernel
theorem dX10_fault_1 : decode cX10_fault 1 = .ok (.ifCond .ne 11, 3) := by decide +kernel
theorem dX10_fault_4 : decode cX10_fault 4 = .ok (.aload_n 0, 1) := by decide +kernel
theorem dX10_fault_5 : decode cX10_fault 5 = .ok (.getfield 32, 3) := by decide +kernel
theorem dX10_fault_8 : decode cX10_fault 8 = .ok (.getfield 126, 3) := by decide +kernel
theorem dX10_fault_11 : decode cX10_fault 11 = .ok (.ireturn, 1) := by decide +kernel
theorem dX10_fault_12 : decode cX10_fault 12 = .ok (.iload_n 1, 1) := by decide +kernel
theorem dX10_fault_13 : decode cX10_fault 13 = .ok (.iconst 1, 1) := by decide +kernel
theorem dX10_fault_14 : decode cX10_fault 14 = .ok (.if_icmp .ne 13, 3) := by decide +kernel
theorem dX10_fault_17 : decode cX10_fault 17 = .ok (.aload_n 0, 1) := by decide +kernel
theorem dX10_fault_18 : decode cX10_fault 18 = .ok (.getfield 32, 3) := by decide +kernel
theorem dX10_fault_21 : decode cX10_fault 21 = .ok (.getfield 174, 3) := by decide +kernel
theorem dX10_fault_24 : decode cX10_fault 24 = .ok (.goto 4, 3) := by decide +kernel
theorem dX10_fault_27 : decode cX10_fault 27 = .ok (.iconst (-1), 1) := by decide +kernel
theorem dX10_fault_28 : decode cX10_fault 28 = .ok (.ireturn, 1) := by decide +kernel
theorem dX10_drop_0 : decode cX10_drop 0 = .ok (.iload_n 1, 1) := by decide +kernel
theorem dX10_drop_1 : decode cX10_drop 1 = .ok (.invokestatic 151, 3) := by decide +kernel
theorem dX10_drop_4 : decode cX10_drop 4 = .ok (.ifCond .eq 6, 3) := by decide +kernel
theorem dX10_drop_7 : decode cX10_drop 7 = .ok (.bipush (-2), 2) := by decide +kernel
theorem dX10_drop_9 : decode cX10_drop 9 = .ok (.ireturn, 1) := by decide +kernel
theorem dX10_drop_10 : decode cX10_drop 10 = .ok (.aload_n 0, 1) := by decide +kernel
theorem dX10_drop_11 : decode cX10_drop 11 = .ok (.getfield 38, 3) := by decide +kernel
theorem dX10_drop_14 : decode cX10_drop 14 = .ok (.iload_n 1, 1) := by decide +kernel
theorem dX10_drop_15 : decode cX10_drop 15 = .ok (.aaload, 1) := by decide +kernel
theorem dX10_drop_16 : decode cX10_drop 16 = .ok (.getfield 171, 3) := by decide +kernel
theorem dX10_drop_19 : decode cX10_drop 19 = .ok (.istore_n 2, 1) := by decide +kernel
theorem dX10_drop_20 : decode cX10_drop 20 = .ok (.aload_n 0, 1) := by decide +kernel
theorem dX10_drop_21 : decode cX10_drop 21 = .ok (.getfield 38, 3) := by decide +kernel
theorem dX10_drop_24 : decode cX10_drop 24 = .ok (.iload_n 1, 1) := by decide +kernel
theorem dX10_drop_25 : decode cX10_drop 25 = .ok (.aaload, 1) := by decide +kernel
theorem dX10_drop_26 : decode cX10_drop 26 = .ok (.invokevirtual 135, 3) := by decide +kernel
theorem dX10_drop_29 : decode cX10_drop 29 = .ok (.iload_n 2, 1) := by decide +kernel
theorem dX10_drop_30 : decode cX10_drop 30 = .ok (.ireturn, 1) := by decide +kernel
theorem dX10_count_0 : decode cX10_count 0 = .ok (.iload_n 1, 1) := by decide +kernel
theorem dX10_count_1 : decode cX10_count 1 = .ok (.tableswitch 54 0 3 #[31, 39, 44, 49], 31) := by decide +kernel
theorem dX10_count_32 : decode cX10_count 32 = .ok (.aload_n 0, 1) := by decide +kernel
theorem dX10_count_33 : decode cX10_count 33 = .ok (.getfield 23, 3) := by decide +kernel
theorem dX10_count_36 : decode cX10_count 36 = .ok (.getfield 138, 3) := by decide +kernel
theorem dX10_count_39 : decode cX10_count 39 = .ok (.ireturn, 1) := by decide +kernel
theorem dX10_count_40 : decode cX10_count 40 = .ok (.aload_n 0, 1) := by decide +kernel
theorem dX10_count_41 : decode cX10_count 41 = .ok (.invokevirtual 177, 3) := by decide +kernel
theorem dX10_count_44 : decode cX10_count 44 = .ok (.ireturn, 1) := by decide +kernel
theorem dX10_count_45 : decode cX10_count 45 = .ok (.aload_n 0, 1) := by decide +kernel
theorem dX10_count_46 : decode cX10_count 46 = .ok (.getfield 112, 3) := by decide +kernel
theorem dX10_count_49 : decode cX10_count 49 = .ok (.ireturn, 1) := by decide +kernel
theorem dX10_count_50 : decode cX10_count 50 = .ok (.aload_n 0, 1) := by decide +kernel
theorem dX10_count_51 : decode cX10_count 51 = .ok (.getfield 180, 3) := by decide +kernel
theorem dX10_count_54 : decode cX10_count 54 = .ok (.ireturn, 1) := by decide +kernel
theorem dX10_count_55 : decode cX10_count 55 = .ok (.iconst (-1), 1) := by decide +kernel
theorem dX10_count_56 : decode cX10_count 56 = .ok (.ireturn, 1) := by decide +kernel
theorem dX10_fullSlots_0 : decode cX10_fullSlots 0 = .ok (.iconst 0, 1) := by decide +kernel
theorem dX10_fullSlots_1 : decode cX10_fullSlots 1 = .ok (.istore_n 1, 1) := by decide +kernel
theorem dX10_fullSlots_2 : decode cX10_fullSlots 2 = .ok (.iconst 0, 1) := by decide +kernel
theorem dX10_fullSlots_3 : decode cX10_fullSlots 3 = .ok (.istore_n 2, 1) := by decide +kernel
theorem dX10_fullSlots_4 : decode cX10_fullSlots 4 = .ok (.iload_n 2, 1) := by decide +kernel
theorem dX10_fullSlots_5 : decode cX10_fullSlots 5 = .ok (.iconst 4, 1) := by decide +kernel
theorem dX10_fullSlots_6 : decode cX10_fullSlots 6 = .ok (.if_icmp .ge 27, 3) := by decide +kernel
theorem dX10_fullSlots_9 : decode cX10_fullSlots 9 = .ok (.aload_n 0, 1) := by decide +kernel
theorem dX10_fullSlots_10 : decode cX10_fullSlots 10 = .ok (.getfield 38, 3) := by decide +kernel
theorem dX10_fullSlots_13 : decode cX10_fullSlots 13 = .ok (.iload_n 2, 1) := by decide +kernel
theorem dX10_fullSlots_14 : decode cX10_fullSlots 14 = .ok (.aaload, 1) := by decide +kernel
theorem dX10_fullSlots_15 : decode cX10_fullSlots 15 = .ok (.getfield 171, 3) := by decide +kernel
theorem dX10_fullSlots_18 : decode cX10_fullSlots 18 = .ok (.ifCond .le 9, 3) := by decide +kernel
theorem dX10_fullSlots_21 : decode cX10_fullSlots 21 = .ok (.iload_n 1, 1) := by decide +kernel
theorem dX10_fullSlots_22 : decode cX10_fullSlots 22 = .ok (.iconst 1, 1) := by decide +kernel
theorem dX10_fullSlots_23 : decode cX10_fullSlots 23 = .ok (.iload_n 2, 1) := by decide +kernel
theorem dX10_fullSlots_24 : decode cX10_fullSlots 24 = .ok (.ishl, 1) := by decide +kernel
theorem dX10_fullSlots_25 : decode cX10_fullSlots 25 = .ok (.ior, 1) := by decide +kernel
theorem dX10_fullSlots_26 : decode cX10_fullSlots 26 = .ok (.istore_n 1, 1) := by decide +kernel
theorem dX10_fullSlots_27 : decode cX10_fullSlots 27 = .ok (.iinc 2 1, 3) := by decide +kernel
theorem dX10_fullSlots_30 : decode cX10_fullSlots 30 = .ok (.goto (-26), 3) := by decide +kernel
theorem dX10_fullSlots_33 : decode cX10_fullSlots 33 = .ok (.iload_n 1, 1) := by decide +kernel
theorem dX10_fullSlots_34 : decode cX10_fullSlots 34 = .ok (.ireturn, 1) := by decide +kernel
theorem dX10_hypothesis_0 : decode cX10_hypothesis 0 = .ok (.iload_n 1, 1) := by decide +kernel
theorem dX10_hypothesis_1 : decode cX10_hypothesis 1 = .ok (.ifCond .lt 23, 3) := by decide +kernel
theorem dX10_hypothesis_4 : decode cX10_hypothesis 4 = .ok (.iload_n 1, 1) := by decide +kernel
theorem dX10_hypothesis_5 : decode cX10_hypothesis 5 = .ok (.aload_n 0, 1) := by decide +kernel
theorem dX10_hypothesis_6 : decode cX10_hypothesis 6 = .ok (.getfield 23, 3) := by decide +kernel
theorem dX10_hypothesis_9 : decode cX10_hypothesis 9 = .ok (.getfield 138, 3) := by decide +kernel
theorem dX10_hypothesis_12 : decode cX10_hypothesis 12 = .ok (.if_icmp .ge 12, 3) := by decide +kernel
theorem dX10_hypothesis_15 : decode cX10_hypothesis 15 = .ok (.iload_n 2, 1) := by decide +kernel
theorem dX10_hypothesis_16 : decode cX10_hypothesis 16 = .ok (.ifCond .lt 8, 3) := by decide +kernel
theorem dX10_hypothesis_19 : decode cX10_hypothesis 19 = .ok (.iload_n 2, 1) := by decide +kernel
theorem dX10_hypothesis_20 : decode cX10_hypothesis 20 = .ok (.iconst 1, 1) := by decide +kernel
theorem dX10_hypothesis_21 : decode cX10_hypothesis 21 = .ok (.if_icmp .le 6, 3) := by decide +kernel
theorem dX10_hypothesis_24 : decode cX10_hypothesis 24 = .ok (.bipush (-2), 2) := by decide +kernel
theorem dX10_hypothesis_26 : decode cX10_hypothesis 26 = .ok (.ireturn, 1) := by decide +kernel
theorem dX10_hypothesis_27 : decode cX10_hypothesis 27 = .ok (.iload_n 3, 1) := by decide +kernel
theorem dX10_hypothesis_28 : decode cX10_hypothesis 28 = .ok (.ifCond .ge 6, 3) := by decide +kernel
theorem dX10_hypothesis_31 : decode cX10_hypothesis 31 = .ok (.bipush (-3), 2) := by decide +kernel
theorem dX10_hypothesis_33 : decode cX10_hypothesis 33 = .ok (.ireturn, 1) := by decide +kernel
theorem dX10_hypothesis_34 : decode cX10_hypothesis 34 = .ok (.iload_n 2, 1) := by decide +kernel
theorem dX10_hypothesis_35 : decode cX10_hypothesis 35 = .ok (.ifCond .ne 18, 3) := by decide +kernel
theorem dX10_hypothesis_38 : decode cX10_hypothesis 38 = .ok (.aload_n 0, 1) := by decide +kernel
theorem dX10_hypothesis_39 : decode cX10_hypothesis 39 = .ok (.getfield 23, 3) := by decide +kernel
theorem dX10_hypothesis_42 : decode cX10_hypothesis 42 = .ok (.iload_n 1, 1) := by decide +kernel
theorem dX10_hypothesis_43 : decode cX10_hypothesis 43 = .ok (.invokevirtual 183, 3) := by decide +kernel
theorem dX10_hypothesis_46 : decode cX10_hypothesis 46 = .ok (.iload_n 3, 1) := by decide +kernel
theorem dX10_hypothesis_47 : decode cX10_hypothesis 47 = .ok (.invokestatic 186, 3) := by decide +kernel
theorem dX10_hypothesis_50 : decode cX10_hypothesis 50 = .ok (.goto 20, 3) := by decide +kernel
theorem dX10_hypothesis_53 : decode cX10_hypothesis 53 = .ok (.aload_n 0, 1) := by decide +kernel
theorem dX10_hypothesis_54 : decode cX10_hypothesis 54 = .ok (.getfield 16, 3) := by decide +kernel
theorem dX10_hypothesis_57 : decode cX10_hypothesis 57 = .ok (.aload_n 0, 1) := by decide +kernel
theorem dX10_hypothesis_58 : decode cX10_hypothesis 58 = .ok (.getfield 23, 3) := by decide +kernel
theorem dX10_hypothesis_61 : decode cX10_hypothesis 61 = .ok (.iload_n 1, 1) := by decide +kernel
theorem dX10_hypothesis_62 : decode cX10_hypothesis 62 = .ok (.invokevirtual 190, 3) := by decide +kernel
theorem dX10_hypothesis_65 : decode cX10_hypothesis 65 = .ok (.iload_n 3, 1) := by decide +kernel
theorem dX10_hypothesis_66 : decode cX10_hypothesis 66 = .ok (.i2l, 1) := by decide +kernel
theorem dX10_hypothesis_67 : decode cX10_hypothesis 67 = .ok (.invokevirtual 193, 3) := by decide +kernel
theorem dX10_hypothesis_70 : decode cX10_hypothesis 70 = .ok (.ireturn, 1) := by decide +kernel
theorem dX10_goalByte_0 : decode cX10_goalByte 0 = .ok (.iload_n 1, 1) := by decide +kernel
theorem dX10_goalByte_1 : decode cX10_goalByte 1 = .ok (.ifCond .ge 8, 3) := by decide +kernel
theorem dX10_goalByte_4 : decode cX10_goalByte 4 = .ok (.bipush (-3), 2) := by decide +kernel
theorem dX10_goalByte_6 : decode cX10_goalByte 6 = .ok (.goto 16, 3) := by decide +kernel
theorem dX10_goalByte_9 : decode cX10_goalByte 9 = .ok (.aload_n 0, 1) := by decide +kernel
theorem dX10_goalByte_10 : decode cX10_goalByte 10 = .ok (.getfield 16, 3) := by decide +kernel
theorem dX10_goalByte_13 : decode cX10_goalByte 13 = .ok (.aload_n 0, 1) := by decide +kernel
theorem dX10_goalByte_14 : decode cX10_goalByte 14 = .ok (.getfield 105, 3) := by decide +kernel
theorem dX10_goalByte_17 : decode cX10_goalByte 17 = .ok (.iload_n 1, 1) := by decide +kernel
theorem dX10_goalByte_18 : decode cX10_goalByte 18 = .ok (.i2l, 1) := by decide +kernel
theorem dX10_goalByte_19 : decode cX10_goalByte 19 = .ok (.invokevirtual 193, 3) := by decide +kernel
theorem dX10_goalByte_22 : decode cX10_goalByte 22 = .ok (.ireturn, 1) := by decide +kernel
theorem dX10_spell_0 : decode cX10_spell 0 = .ok (.iload_n 1, 1) := by decide +kernel
theorem dX10_spell_1 : decode cX10_spell 1 = .ok (.invokestatic 151, 3) := by decide +kernel
theorem dX10_spell_4 : decode cX10_spell 4 = .ok (.ifCond .ne 12, 3) := by decide +kernel
theorem dX10_spell_7 : decode cX10_spell 7 = .ok (.iload_n 2, 1) := by decide +kernel
theorem dX10_spell_8 : decode cX10_spell 8 = .ok (.ifCond .lt 8, 3) := by decide +kernel
theorem dX10_spell_11 : decode cX10_spell 11 = .ok (.iload_n 2, 1) := by decide +kernel
theorem dX10_spell_12 : decode cX10_spell 12 = .ok (.iconst 2, 1) := by decide +kernel
theorem dX10_spell_13 : decode cX10_spell 13 = .ok (.if_icmp .le 6, 3) := by decide +kernel
theorem dX10_spell_16 : decode cX10_spell 16 = .ok (.bipush (-2), 2) := by decide +kernel
theorem dX10_spell_18 : decode cX10_spell 18 = .ok (.ireturn, 1) := by decide +kernel
theorem dX10_spell_19 : decode cX10_spell 19 = .ok (.iload_n 3, 1) := by decide +kernel
theorem dX10_spell_20 : decode cX10_spell 20 = .ok (.ifCond .ge 6, 3) := by decide +kernel
theorem dX10_spell_23 : decode cX10_spell 23 = .ok (.bipush (-3), 2) := by decide +kernel
theorem dX10_spell_25 : decode cX10_spell 25 = .ok (.ireturn, 1) := by decide +kernel
theorem dX10_spell_26 : decode cX10_spell 26 = .ok (.aload_n 0, 1) := by decide +kernel
theorem dX10_spell_27 : decode cX10_spell 27 = .ok (.getfield 38, 3) := by decide +kernel
theorem dX10_spell_30 : decode cX10_spell 30 = .ok (.iload_n 1, 1) := by decide +kernel
theorem dX10_spell_31 : decode cX10_spell 31 = .ok (.aaload, 1) := by decide +kernel
theorem dX10_spell_32 : decode cX10_spell 32 = .ok (.getfield 171, 3) := by decide +kernel
theorem dX10_spell_35 : decode cX10_spell 35 = .ok (.ifCond .ne 6, 3) := by decide +kernel
theorem dX10_spell_38 : decode cX10_spell 38 = .ok (.bipush (-5), 2) := by decide +kernel
theorem dX10_spell_40 : decode cX10_spell 40 = .ok (.ireturn, 1) := by decide +kernel
theorem dX10_spell_41 : decode cX10_spell 41 = .ok (.aload_n 0, 1) := by decide +kernel
theorem dX10_spell_42 : decode cX10_spell 42 = .ok (.iload_n 1, 1) := by decide +kernel
theorem dX10_spell_43 : decode cX10_spell 43 = .ok (.iload_n 2, 1) := by decide +kernel
theorem dX10_spell_44 : decode cX10_spell 44 = .ok (.iload_n 3, 1) := by decide +kernel
theorem dX10_spell_45 : decode cX10_spell 45 = .ok (.invokevirtual 197, 3) := by decide +kernel
theorem dX10_spell_48 : decode cX10_spell 48 = .ok (.aload_n 0, 1) := by decide +kernel
theorem dX10_spell_49 : decode cX10_spell 49 = .ok (.getfield 68, 3) := by decide +kernel
theorem dX10_spell_52 : decode cX10_spell 52 = .ok (.getfield 201, 3) := by decide +kernel
theorem dX10_spell_55 : decode cX10_spell 55 = .ok (.ireturn, 1) := by decide +kernel
theorem dX10_length_0 : decode cX10_length 0 = .ok (.iload_n 1, 1) := by decide +kernel
theorem dX10_length_1 : decode cX10_length 1 = .ok (.invokestatic 151, 3) := by decide +kernel
theorem dX10_length_4 : decode cX10_length 4 = .ok (.ifCond .ne 12, 3) := by decide +kernel
theorem dX10_length_7 : decode cX10_length 7 = .ok (.iload_n 2, 1) := by decide +kernel
theorem dX10_length_8 : decode cX10_length 8 = .ok (.ifCond .lt 8, 3) := by decide +kernel
theorem dX10_length_11 : decode cX10_length 11 = .ok (.iload_n 2, 1) := by decide +kernel
theorem dX10_length_12 : decode cX10_length 12 = .ok (.iconst 2, 1) := by decide +kernel
theorem dX10_length_13 : decode cX10_length 13 = .ok (.if_icmp .le 6, 3) := by decide +kernel
theorem dX10_length_16 : decode cX10_length 16 = .ok (.bipush (-2), 2) := by decide +kernel
theorem dX10_length_18 : decode cX10_length 18 = .ok (.ireturn, 1) := by decide +kernel
theorem dX10_length_19 : decode cX10_length 19 = .ok (.aload_n 0, 1) := by decide +kernel
theorem dX10_length_20 : decode cX10_length 20 = .ok (.getfield 38, 3) := by decide +kernel
theorem dX10_length_23 : decode cX10_length 23 = .ok (.iload_n 1, 1) := by decide +kernel
theorem dX10_length_24 : decode cX10_length 24 = .ok (.aaload, 1) := by decide +kernel
theorem dX10_length_25 : decode cX10_length 25 = .ok (.getfield 171, 3) := by decide +kernel
theorem dX10_length_28 : decode cX10_length 28 = .ok (.ifCond .ne 6, 3) := by decide +kernel
theorem dX10_length_31 : decode cX10_length 31 = .ok (.bipush (-5), 2) := by decide +kernel
theorem dX10_length_33 : decode cX10_length 33 = .ok (.ireturn, 1) := by decide +kernel
theorem dX10_length_34 : decode cX10_length 34 = .ok (.aload_n 0, 1) := by decide +kernel
theorem dX10_length_35 : decode cX10_length 35 = .ok (.iload_n 1, 1) := by decide +kernel
theorem dX10_length_36 : decode cX10_length 36 = .ok (.iload_n 2, 1) := by decide +kernel
theorem dX10_length_37 : decode cX10_length 37 = .ok (.iconst (-1), 1) := by decide +kernel
theorem dX10_length_38 : decode cX10_length 38 = .ok (.invokevirtual 197, 3) := by decide +kernel
theorem dX10_length_41 : decode cX10_length 41 = .ok (.aload_n 0, 1) := by decide +kernel
theorem dX10_length_42 : decode cX10_length 42 = .ok (.getfield 68, 3) := by decide +kernel
theorem dX10_length_45 : decode cX10_length 45 = .ok (.getfield 204, 3) := by decide +kernel
theorem dX10_length_48 : decode cX10_length 48 = .ok (.ldc2_w 208, 3) := by decide +kernel
theorem dX10_length_51 : decode cX10_length 51 = .ok (.invokestatic 210, 3) := by decide +kernel
theorem dX10_length_54 : decode cX10_length 54 = .ok (.l2i, 1) := by decide +kernel
theorem dX10_length_55 : decode cX10_length 55 = .ok (.ireturn, 1) := by decide +kernel
theorem dX10_spellSlot_0 : decode cX10_spellSlot 0 = .ok (.aload_n 0, 1) := by decide +kernel
theorem dX10_spellSlot_1 : decode cX10_spellSlot 1 = .ok (.getfield 52, 3) := by decide +kernel
theorem dX10_spellSlot_4 : decode cX10_spellSlot 4 = .ok (.aload_n 0, 1) := by decide +kernel
theorem dX10_spellSlot_5 : decode cX10_spellSlot 5 = .ok (.getfield 38, 3) := by decide +kernel
theorem dX10_spellSlot_8 : decode cX10_spellSlot 8 = .ok (.iload_n 1, 1) := by decide +kernel
theorem dX10_spellSlot_9 : decode cX10_spellSlot 9 = .ok (.aaload, 1) := by decide +kernel
theorem dX10_spellSlot_10 : decode cX10_spellSlot 10 = .ok (.invokevirtual 158, 3) := by decide +kernel
theorem dX10_spellSlot_13 : decode cX10_spellSlot 13 = .ok (.aload_n 0, 1) := by decide +kernel
theorem dX10_spellSlot_14 : decode cX10_spellSlot 14 = .ok (.getfield 68, 3) := by decide +kernel
theorem dX10_spellSlot_17 : decode cX10_spellSlot 17 = .ok (.iload_n 3, 1) := by decide +kernel
theorem dX10_spellSlot_18 : decode cX10_spellSlot 18 = .ok (.i2l, 1) := by decide +kernel
theorem dX10_spellSlot_19 : decode cX10_spellSlot 19 = .ok (.invokevirtual 216, 3) := by decide +kernel
theorem dX10_spellSlot_22 : decode cX10_spellSlot 22 = .ok (.iload_n 2, 1) := by decide +kernel
theorem dX10_spellSlot_23 : decode cX10_spellSlot 23 = .ok (.iconst 2, 1) := by decide +kernel
theorem dX10_spellSlot_24 : decode cX10_spellSlot 24 = .ok (.if_icmp .ne 29, 3) := by decide +kernel
theorem dX10_spellSlot_27 : decode cX10_spellSlot 27 = .ok (.aload_n 0, 1) := by decide +kernel
theorem dX10_spellSlot_28 : decode cX10_spellSlot 28 = .ok (.getfield 52, 3) := by decide +kernel
theorem dX10_spellSlot_31 : decode cX10_spellSlot 31 = .ok (.invokevirtual 162, 3) := by decide +kernel
theorem dX10_spellSlot_34 : decode cX10_spellSlot 34 = .ok (.pop, 1) := by decide +kernel
theorem dX10_spellSlot_35 : decode cX10_spellSlot 35 = .ok (.aload_n 0, 1) := by decide +kernel
theorem dX10_spellSlot_36 : decode cX10_spellSlot 36 = .ok (.getfield 68, 3) := by decide +kernel
theorem dX10_spellSlot_39 : decode cX10_spellSlot 39 = .ok (.aload_n 0, 1) := by decide +kernel
theorem dX10_spellSlot_40 : decode cX10_spellSlot 40 = .ok (.getfield 52, 3) := by decide +kernel
theorem dX10_spellSlot_43 : decode cX10_spellSlot 43 = .ok (.iconst 0, 1) := by decide +kernel
theorem dX10_spellSlot_44 : decode cX10_spellSlot 44 = .ok (.invokevirtual 220, 3) := by decide +kernel
theorem dX10_spellSlot_47 : decode cX10_spellSlot 47 = .ok (.invokevirtual 223, 3) := by decide +kernel
theorem dX10_spellSlot_50 : decode cX10_spellSlot 50 = .ok (.goto 23, 3) := by decide +kernel
theorem dX10_spellSlot_53 : decode cX10_spellSlot 53 = .ok (.aload_n 0, 1) := by decide +kernel
theorem dX10_spellSlot_54 : decode cX10_spellSlot 54 = .ok (.getfield 68, 3) := by decide +kernel
theorem dX10_spellSlot_57 : decode cX10_spellSlot 57 = .ok (.aload_n 0, 1) := by decide +kernel
theorem dX10_spellSlot_58 : decode cX10_spellSlot 58 = .ok (.getfield 52, 3) := by decide +kernel
theorem dX10_spellSlot_61 : decode cX10_spellSlot 61 = .ok (.iload_n 2, 1) := by decide +kernel
theorem dX10_spellSlot_62 : decode cX10_spellSlot 62 = .ok (.ifCond .ne 7, 3) := by decide +kernel
theorem dX10_spellSlot_65 : decode cX10_spellSlot 65 = .ok (.iconst 1, 1) := by decide +kernel
theorem dX10_spellSlot_66 : decode cX10_spellSlot 66 = .ok (.goto 4, 3) := by decide +kernel
theorem dX10_spellSlot_69 : decode cX10_spellSlot 69 = .ok (.iconst 0, 1) := by decide +kernel
theorem dX10_spellSlot_70 : decode cX10_spellSlot 70 = .ok (.invokevirtual 226, 3) := by decide +kernel
theorem dX10_spellSlot_73 : decode cX10_spellSlot 73 = .ok (.return_, 1) := by decide +kernel
theorem dX10_size_0 : decode cX10_size 0 = .ok (.iload_n 1, 1) := by decide +kernel
theorem dX10_size_1 : decode cX10_size 1 = .ok (.invokestatic 151, 3) := by decide +kernel
theorem dX10_size_4 : decode cX10_size 4 = .ok (.ifCond .ne 13, 3) := by decide +kernel
theorem dX10_size_7 : decode cX10_size 7 = .ok (.iload_n 2, 1) := by decide +kernel
theorem dX10_size_8 : decode cX10_size 8 = .ok (.ifCond .lt 9, 3) := by decide +kernel
theorem dX10_size_11 : decode cX10_size 11 = .ok (.iload_n 2, 1) := by decide +kernel
theorem dX10_size_12 : decode cX10_size 12 = .ok (.bipush 6, 2) := by decide +kernel
theorem dX10_size_14 : decode cX10_size 14 = .ok (.if_icmp .le 6, 3) := by decide +kernel
theorem dX10_size_17 : decode cX10_size 17 = .ok (.bipush (-2), 2) := by decide +kernel
theorem dX10_size_19 : decode cX10_size 19 = .ok (.ireturn, 1) := by decide +kernel
theorem dX10_size_20 : decode cX10_size 20 = .ok (.aload_n 0, 1) := by decide +kernel
theorem dX10_size_21 : decode cX10_size 21 = .ok (.getfield 38, 3) := by decide +kernel
theorem dX10_size_24 : decode cX10_size 24 = .ok (.iload_n 1, 1) := by decide +kernel
theorem dX10_size_25 : decode cX10_size 25 = .ok (.aaload, 1) := by decide +kernel
theorem dX10_size_26 : decode cX10_size 26 = .ok (.astore_n 3, 1) := by decide +kernel
theorem dX10_size_27 : decode cX10_size 27 = .ok (.aload_n 3, 1) := by decide +kernel
theorem dX10_size_28 : decode cX10_size 28 = .ok (.getfield 171, 3) := by decide +kernel
theorem dX10_size_31 : decode cX10_size 31 = .ok (.ifCond .ne 6, 3) := by decide +kernel
theorem dX10_size_34 : decode cX10_size 34 = .ok (.bipush (-5), 2) := by decide +kernel
theorem dX10_size_36 : decode cX10_size 36 = .ok (.ireturn, 1) := by decide +kernel
theorem dX10_size_37 : decode cX10_size 37 = .ok (.aload_n 0, 1) := by decide +kernel
theorem dX10_size_38 : decode cX10_size 38 = .ok (.getfield 52, 3) := by decide +kernel
theorem dX10_size_41 : decode cX10_size 41 = .ok (.aload_n 3, 1) := by decide +kernel
theorem dX10_size_42 : decode cX10_size 42 = .ok (.invokevirtual 158, 3) := by decide +kernel
theorem dX10_size_45 : decode cX10_size 45 = .ok (.iload_n 2, 1) := by decide +kernel
theorem dX10_size_46 : decode cX10_size 46 = .ok (.tableswitch 74 0 6 #[42, 47, 55, 74, 74, 74, 60], 42) := by decide +kernel
theorem dX10_size_88 : decode cX10_size 88 = .ok (.aload_n 3, 1) := by decide +kernel
theorem dX10_size_89 : decode cX10_size 89 = .ok (.getfield 171, 3) := by decide +kernel
theorem dX10_size_92 : decode cX10_size 92 = .ok (.ireturn, 1) := by decide +kernel
theorem dX10_size_93 : decode cX10_size 93 = .ok (.aload_n 0, 1) := by decide +kernel
theorem dX10_size_94 : decode cX10_size 94 = .ok (.getfield 52, 3) := by decide +kernel
theorem dX10_size_97 : decode cX10_size 97 = .ok (.invokevirtual 230, 3) := by decide +kernel
theorem dX10_size_100 : decode cX10_size 100 = .ok (.ireturn, 1) := by decide +kernel
theorem dX10_size_101 : decode cX10_size 101 = .ok (.aload_n 3, 1) := by decide +kernel
theorem dX10_size_102 : decode cX10_size 102 = .ok (.invokevirtual 233, 3) := by decide +kernel
theorem dX10_size_105 : decode cX10_size 105 = .ok (.ireturn, 1) := by decide +kernel
theorem dX10_size_106 : decode cX10_size 106 = .ok (.aload_n 3, 1) := by decide +kernel
theorem dX10_size_107 : decode cX10_size 107 = .ok (.iconst 0, 1) := by decide +kernel
theorem dX10_size_108 : decode cX10_size 108 = .ok (.invokevirtual 236, 3) := by decide +kernel
theorem dX10_size_111 : decode cX10_size 111 = .ok (.ifCond .ne 7, 3) := by decide +kernel
theorem dX10_size_114 : decode cX10_size 114 = .ok (.iconst 1, 1) := by decide +kernel
theorem dX10_size_115 : decode cX10_size 115 = .ok (.goto 4, 3) := by decide +kernel
theorem dX10_size_118 : decode cX10_size 118 = .ok (.iconst 0, 1) := by decide +kernel
theorem dX10_size_119 : decode cX10_size 119 = .ok (.ireturn, 1) := by decide +kernel
theorem dX10_size_120 : decode cX10_size 120 = .ok (.aload_n 0, 1) := by decide +kernel
theorem dX10_size_121 : decode cX10_size 121 = .ok (.getfield 52, 3) := by decide +kernel
theorem dX10_size_124 : decode cX10_size 124 = .ok (.invokevirtual 162, 3) := by decide +kernel
theorem dX10_size_127 : decode cX10_size 127 = .ok (.pop, 1) := by decide +kernel
theorem dX10_size_128 : decode cX10_size 128 = .ok (.aload_n 0, 1) := by decide +kernel
theorem dX10_size_129 : decode cX10_size 129 = .ok (.iload_n 2, 1) := by decide +kernel
theorem dX10_size_130 : decode cX10_size 130 = .ok (.invokevirtual 239, 3) := by decide +kernel
theorem dX10_size_133 : decode cX10_size 133 = .ok (.ireturn, 1) := by decide +kernel
theorem dX10_sizeByFormulas_0 : decode cX10_sizeByFormulas 0 = .ok (.iload_n 1, 1) := by decide +kernel
theorem dX10_sizeByFormulas_1 : decode cX10_sizeByFormulas 1 = .ok (.iconst 5, 1) := by decide +kernel
theorem dX10_sizeByFormulas_2 : decode cX10_sizeByFormulas 2 = .ok (.if_icmp .ne 24, 3) := by decide +kernel
theorem dX10_sizeByFormulas_5 : decode cX10_sizeByFormulas 5 = .ok (.aload_n 0, 1) := by decide +kernel
theorem dX10_sizeByFormulas_6 : decode cX10_sizeByFormulas 6 = .ok (.getfield 52, 3) := by decide +kernel
theorem dX10_sizeByFormulas_9 : decode cX10_sizeByFormulas 9 = .ok (.iconst 0, 1) := by decide +kernel
theorem dX10_sizeByFormulas_10 : decode cX10_sizeByFormulas 10 = .ok (.invokevirtual 220, 3) := by decide +kernel
theorem dX10_sizeByFormulas_13 : decode cX10_sizeByFormulas 13 = .ok (.aload_n 0, 1) := by decide +kernel
theorem dX10_sizeByFormulas_14 : decode cX10_sizeByFormulas 14 = .ok (.getfield 105, 3) := by decide +kernel
theorem dX10_sizeByFormulas_17 : decode cX10_sizeByFormulas 17 = .ok (.if_icmp .ne 7, 3) := by decide +kernel
theorem dX10_sizeByFormulas_20 : decode cX10_sizeByFormulas 20 = .ok (.iconst 1, 1) := by decide +kernel
theorem dX10_sizeByFormulas_21 : decode cX10_sizeByFormulas 21 = .ok (.goto 4, 3) := by decide +kernel
theorem dX10_sizeByFormulas_24 : decode cX10_sizeByFormulas 24 = .ok (.iconst 0, 1) := by decide +kernel
theorem dX10_sizeByFormulas_25 : decode cX10_sizeByFormulas 25 = .ok (.ireturn, 1) := by decide +kernel
theorem dX10_sizeByFormulas_26 : decode cX10_sizeByFormulas 26 = .ok (.aload_n 0, 1) := by decide +kernel
theorem dX10_sizeByFormulas_27 : decode cX10_sizeByFormulas 27 = .ok (.getfield 16, 3) := by decide +kernel
theorem dX10_sizeByFormulas_30 : decode cX10_sizeByFormulas 30 = .ok (.invokevirtual 242, 3) := by decide +kernel
theorem dX10_sizeByFormulas_33 : decode cX10_sizeByFormulas 33 = .ok (.iload_n 1, 1) := by decide +kernel
theorem dX10_sizeByFormulas_34 : decode cX10_sizeByFormulas 34 = .ok (.iconst 4, 1) := by decide +kernel
theorem dX10_sizeByFormulas_35 : decode cX10_sizeByFormulas 35 = .ok (.if_icmp .ne 38, 3) := by decide +kernel
theorem dX10_sizeByFormulas_38 : decode cX10_sizeByFormulas 38 = .ok (.aload_n 0, 1) := by decide +kernel
theorem dX10_sizeByFormulas_39 : decode cX10_sizeByFormulas 39 = .ok (.getfield 23, 3) := by decide +kernel
theorem dX10_sizeByFormulas_42 : decode cX10_sizeByFormulas 42 = .ok (.aload_n 0, 1) := by decide +kernel
theorem dX10_sizeByFormulas_43 : decode cX10_sizeByFormulas 43 = .ok (.getfield 16, 3) := by decide +kernel
theorem dX10_sizeByFormulas_46 : decode cX10_sizeByFormulas 46 = .ok (.invokevirtual 245, 3) := by decide +kernel
theorem dX10_sizeByFormulas_49 : decode cX10_sizeByFormulas 49 = .ok (.aload_n 0, 1) := by decide +kernel
theorem dX10_sizeByFormulas_50 : decode cX10_sizeByFormulas 50 = .ok (.getfield 16, 3) := by decide +kernel
theorem dX10_sizeByFormulas_53 : decode cX10_sizeByFormulas 53 = .ok (.aload_n 0, 1) := by decide +kernel
theorem dX10_sizeByFormulas_54 : decode cX10_sizeByFormulas 54 = .ok (.getfield 52, 3) := by decide +kernel
theorem dX10_sizeByFormulas_57 : decode cX10_sizeByFormulas 57 = .ok (.iconst 0, 1) := by decide +kernel
theorem dX10_sizeByFormulas_58 : decode cX10_sizeByFormulas 58 = .ok (.invokevirtual 220, 3) := by decide +kernel
theorem dX10_sizeByFormulas_61 : decode cX10_sizeByFormulas 61 = .ok (.invokevirtual 248, 3) := by decide +kernel
theorem dX10_sizeByFormulas_64 : decode cX10_sizeByFormulas 64 = .ok (.pop, 1) := by decide +kernel
theorem dX10_sizeByFormulas_65 : decode cX10_sizeByFormulas 65 = .ok (.aload_n 0, 1) := by decide +kernel
theorem dX10_sizeByFormulas_66 : decode cX10_sizeByFormulas 66 = .ok (.getfield 16, 3) := by decide +kernel
theorem dX10_sizeByFormulas_69 : decode cX10_sizeByFormulas 69 = .ok (.invokevirtual 251, 3) := by decide +kernel
theorem dX10_sizeByFormulas_72 : decode cX10_sizeByFormulas 72 = .ok (.pop, 1) := by decide +kernel
theorem dX10_sizeByFormulas_73 : decode cX10_sizeByFormulas 73 = .ok (.aload_n 0, 1) := by decide +kernel
theorem dX10_sizeByFormulas_74 : decode cX10_sizeByFormulas 74 = .ok (.getfield 52, 3) := by decide +kernel
theorem dX10_sizeByFormulas_77 : decode cX10_sizeByFormulas 77 = .ok (.invokevirtual 254, 3) := by decide +kernel
theorem dX10_sizeByFormulas_80 : decode cX10_sizeByFormulas 80 = .ok (.ireturn, 1) := by decide +kernel
theorem dX10_redexes_0 : decode cX10_redexes 0 = .ok (.iload_n 1, 1) := by decide +kernel
theorem dX10_redexes_1 : decode cX10_redexes 1 = .ok (.invokestatic 151, 3) := by decide +kernel
theorem dX10_redexes_4 : decode cX10_redexes 4 = .ok (.ifCond .ne 13, 3) := by decide +kernel
theorem dX10_redexes_7 : decode cX10_redexes 7 = .ok (.iload_n 2, 1) := by decide +kernel
theorem dX10_redexes_8 : decode cX10_redexes 8 = .ok (.ifCond .lt 9, 3) := by decide +kernel
theorem dX10_redexes_11 : decode cX10_redexes 11 = .ok (.iload_n 2, 1) := by decide +kernel
theorem dX10_redexes_12 : decode cX10_redexes 12 = .ok (.bipush 7, 2) := by decide +kernel
theorem dX10_redexes_14 : decode cX10_redexes 14 = .ok (.if_icmp .le 6, 3) := by decide +kernel
theorem dX10_redexes_17 : decode cX10_redexes 17 = .ok (.bipush (-2), 2) := by decide +kernel
theorem dX10_redexes_19 : decode cX10_redexes 19 = .ok (.ireturn, 1) := by decide +kernel
theorem dX10_redexes_20 : decode cX10_redexes 20 = .ok (.aload_n 0, 1) := by decide +kernel
theorem dX10_redexes_21 : decode cX10_redexes 21 = .ok (.getfield 38, 3) := by decide +kernel
theorem dX10_redexes_24 : decode cX10_redexes 24 = .ok (.iload_n 1, 1) := by decide +kernel
theorem dX10_redexes_25 : decode cX10_redexes 25 = .ok (.aaload, 1) := by decide +kernel
theorem dX10_redexes_26 : decode cX10_redexes 26 = .ok (.getfield 171, 3) := by decide +kernel
theorem dX10_redexes_29 : decode cX10_redexes 29 = .ok (.ifCond .ne 6, 3) := by decide +kernel
theorem dX10_redexes_32 : decode cX10_redexes 32 = .ok (.bipush (-5), 2) := by decide +kernel
theorem dX10_redexes_34 : decode cX10_redexes 34 = .ok (.ireturn, 1) := by decide +kernel
theorem dX10_redexes_35 : decode cX10_redexes 35 = .ok (.aload_n 0, 1) := by decide +kernel
theorem dX10_redexes_36 : decode cX10_redexes 36 = .ok (.getfield 38, 3) := by decide +kernel
theorem dX10_redexes_39 : decode cX10_redexes 39 = .ok (.iload_n 1, 1) := by decide +kernel
theorem dX10_redexes_40 : decode cX10_redexes 40 = .ok (.aaload, 1) := by decide +kernel
theorem dX10_redexes_41 : decode cX10_redexes 41 = .ok (.iload_n 2, 1) := by decide +kernel
theorem dX10_redexes_42 : decode cX10_redexes 42 = .ok (.invokevirtual 236, 3) := by decide +kernel
theorem dX10_redexes_45 : decode cX10_redexes 45 = .ok (.ireturn, 1) := by decide +kernel
theorem dX10_step_0 : decode cX10_step 0 = .ok (.iload_n 1, 1) := by decide +kernel
theorem dX10_step_1 : decode cX10_step 1 = .ok (.invokestatic 151, 3) := by decide +kernel
theorem dX10_step_4 : decode cX10_step 4 = .ok (.ifCond .eq 6, 3) := by decide +kernel
theorem dX10_step_7 : decode cX10_step 7 = .ok (.bipush (-2), 2) := by decide +kernel
theorem dX10_step_9 : decode cX10_step 9 = .ok (.ireturn, 1) := by decide +kernel
theorem dX10_step_10 : decode cX10_step 10 = .ok (.aload_n 0, 1) := by decide +kernel
theorem dX10_step_11 : decode cX10_step 11 = .ok (.getfield 38, 3) := by decide +kernel
theorem dX10_step_14 : decode cX10_step 14 = .ok (.iload_n 1, 1) := by decide +kernel
theorem dX10_step_15 : decode cX10_step 15 = .ok (.aaload, 1) := by decide +kernel
theorem dX10_step_16 : decode cX10_step 16 = .ok (.getfield 171, 3) := by decide +kernel
theorem dX10_step_19 : decode cX10_step 19 = .ok (.ifCond .ne 6, 3) := by decide +kernel
theorem dX10_step_22 : decode cX10_step 22 = .ok (.bipush (-5), 2) := by decide +kernel
theorem dX10_step_24 : decode cX10_step 24 = .ok (.ireturn, 1) := by decide +kernel
theorem dX10_step_25 : decode cX10_step 25 = .ok (.aload_n 0, 1) := by decide +kernel
theorem dX10_step_26 : decode cX10_step 26 = .ok (.getfield 61, 3) := by decide +kernel
theorem dX10_step_29 : decode cX10_step 29 = .ok (.aload_n 0, 1) := by decide +kernel
theorem dX10_step_30 : decode cX10_step 30 = .ok (.getfield 38, 3) := by decide +kernel
theorem dX10_step_33 : decode cX10_step 33 = .ok (.iload_n 1, 1) := by decide +kernel
theorem dX10_step_34 : decode cX10_step 34 = .ok (.aaload, 1) := by decide +kernel
theorem dX10_step_35 : decode cX10_step 35 = .ok (.aload_n 0, 1) := by decide +kernel
theorem dX10_step_36 : decode cX10_step 36 = .ok (.getfield 43, 3) := by decide +kernel
theorem dX10_step_39 : decode cX10_step 39 = .ok (.invokevirtual 257, 3) := by decide +kernel
theorem dX10_step_42 : decode cX10_step 42 = .ok (.istore_n 2, 1) := by decide +kernel
theorem dX10_step_43 : decode cX10_step 43 = .ok (.iload_n 2, 1) := by decide +kernel
theorem dX10_step_44 : decode cX10_step 44 = .ok (.ifCond .le 16, 3) := by decide +kernel
theorem dX10_step_47 : decode cX10_step 47 = .ok (.aload_n 0, 1) := by decide +kernel
theorem dX10_step_48 : decode cX10_step 48 = .ok (.getfield 38, 3) := by decide +kernel
theorem dX10_step_51 : decode cX10_step 51 = .ok (.iload_n 1, 1) := by decide +kernel
theorem dX10_step_52 : decode cX10_step 52 = .ok (.aaload, 1) := by decide +kernel
theorem dX10_step_53 : decode cX10_step 53 = .ok (.aload_n 0, 1) := by decide +kernel
theorem dX10_step_54 : decode cX10_step 54 = .ok (.getfield 43, 3) := by decide +kernel
theorem dX10_step_57 : decode cX10_step 57 = .ok (.invokevirtual 169, 3) := by decide +kernel
theorem dX10_step_60 : decode cX10_step 60 = .ok (.iload_n 2, 1) := by decide +kernel
theorem dX10_step_61 : decode cX10_step 61 = .ok (.ireturn, 1) := by decide +kernel
theorem dX10_normal_0 : decode cX10_normal 0 = .ok (.iload_n 1, 1) := by decide +kernel
theorem dX10_normal_1 : decode cX10_normal 1 = .ok (.invokestatic 151, 3) := by decide +kernel
theorem dX10_normal_4 : decode cX10_normal 4 = .ok (.ifCond .eq 6, 3) := by decide +kernel
theorem dX10_normal_7 : decode cX10_normal 7 = .ok (.bipush (-2), 2) := by decide +kernel
theorem dX10_normal_9 : decode cX10_normal 9 = .ok (.ireturn, 1) := by decide +kernel
theorem dX10_normal_10 : decode cX10_normal 10 = .ok (.aload_n 0, 1) := by decide +kernel
theorem dX10_normal_11 : decode cX10_normal 11 = .ok (.getfield 38, 3) := by decide +kernel
theorem dX10_normal_14 : decode cX10_normal 14 = .ok (.iload_n 1, 1) := by decide +kernel
theorem dX10_normal_15 : decode cX10_normal 15 = .ok (.aaload, 1) := by decide +kernel
theorem dX10_normal_16 : decode cX10_normal 16 = .ok (.getfield 171, 3) := by decide +kernel
theorem dX10_normal_19 : decode cX10_normal 19 = .ok (.ifCond .ne 6, 3) := by decide +kernel
theorem dX10_normal_22 : decode cX10_normal 22 = .ok (.bipush (-5), 2) := by decide +kernel
theorem dX10_normal_24 : decode cX10_normal 24 = .ok (.ireturn, 1) := by decide +kernel
theorem dX10_normal_25 : decode cX10_normal 25 = .ok (.aload_n 0, 1) := by decide +kernel
theorem dX10_normal_26 : decode cX10_normal 26 = .ok (.getfield 61, 3) := by decide +kernel
theorem dX10_normal_29 : decode cX10_normal 29 = .ok (.aload_n 0, 1) := by decide +kernel
theorem dX10_normal_30 : decode cX10_normal 30 = .ok (.getfield 38, 3) := by decide +kernel
theorem dX10_normal_33 : decode cX10_normal 33 = .ok (.iload_n 1, 1) := by decide +kernel
theorem dX10_normal_34 : decode cX10_normal 34 = .ok (.aaload, 1) := by decide +kernel
theorem dX10_normal_35 : decode cX10_normal 35 = .ok (.aload_n 0, 1) := by decide +kernel
theorem dX10_normal_36 : decode cX10_normal 36 = .ok (.getfield 99, 3) := by decide +kernel
theorem dX10_normal_39 : decode cX10_normal 39 = .ok (.invokevirtual 261, 3) := by decide +kernel
theorem dX10_normal_42 : decode cX10_normal 42 = .ok (.istore_n 2, 1) := by decide +kernel
theorem dX10_normal_43 : decode cX10_normal 43 = .ok (.iload_n 2, 1) := by decide +kernel
theorem dX10_normal_44 : decode cX10_normal 44 = .ok (.ifCond .ge 5, 3) := by decide +kernel
theorem dX10_normal_47 : decode cX10_normal 47 = .ok (.iload_n 2, 1) := by decide +kernel
theorem dX10_normal_48 : decode cX10_normal 48 = .ok (.ireturn, 1) := by decide +kernel
theorem dX10_normal_49 : decode cX10_normal 49 = .ok (.aload_n 0, 1) := by decide +kernel
theorem dX10_normal_50 : decode cX10_normal 50 = .ok (.getfield 38, 3) := by decide +kernel
theorem dX10_normal_53 : decode cX10_normal 53 = .ok (.iload_n 1, 1) := by decide +kernel
theorem dX10_normal_54 : decode cX10_normal 54 = .ok (.aaload, 1) := by decide +kernel
theorem dX10_normal_55 : decode cX10_normal 55 = .ok (.aload_n 0, 1) := by decide +kernel
theorem dX10_normal_56 : decode cX10_normal 56 = .ok (.getfield 61, 3) := by decide +kernel
theorem dX10_normal_59 : decode cX10_normal 59 = .ok (.invokevirtual 265, 3) := by decide +kernel
theorem dX10_normal_62 : decode cX10_normal 62 = .ok (.invokevirtual 169, 3) := by decide +kernel
theorem dX10_normal_65 : decode cX10_normal 65 = .ok (.aload_n 0, 1) := by decide +kernel
theorem dX10_normal_66 : decode cX10_normal 66 = .ok (.getfield 99, 3) := by decide +kernel
theorem dX10_normal_69 : decode cX10_normal 69 = .ok (.iconst 0, 1) := by decide +kernel
theorem dX10_normal_70 : decode cX10_normal 70 = .ok (.aload_n 0, 1) := by decide +kernel
theorem dX10_normal_71 : decode cX10_normal 71 = .ok (.getfield 102, 3) := by decide +kernel
theorem dX10_normal_74 : decode cX10_normal 74 = .ok (.iconst 0, 1) := by decide +kernel
theorem dX10_normal_75 : decode cX10_normal 75 = .ok (.bipush 60, 2) := by decide +kernel
theorem dX10_normal_77 : decode cX10_normal 77 = .ok (.invokestatic 269, 3) := by decide +kernel
theorem dX10_normal_80 : decode cX10_normal 80 = .ok (.aload_n 0, 1) := by decide +kernel
theorem dX10_normal_81 : decode cX10_normal 81 = .ok (.iload_n 2, 1) := by decide +kernel
theorem dX10_normal_82 : decode cX10_normal 82 = .ok (.putfield 180, 3) := by decide +kernel
theorem dX10_normal_85 : decode cX10_normal 85 = .ok (.iload_n 2, 1) := by decide +kernel
theorem dX10_normal_86 : decode cX10_normal 86 = .ok (.ireturn, 1) := by decide +kernel
theorem dX10_trace_0 : decode cX10_trace 0 = .ok (.iload_n 1, 1) := by decide +kernel
theorem dX10_trace_1 : decode cX10_trace 1 = .ok (.ifCond .lt 17, 3) := by decide +kernel
theorem dX10_trace_4 : decode cX10_trace 4 = .ok (.iload_n 1, 1) := by decide +kernel
theorem dX10_trace_5 : decode cX10_trace 5 = .ok (.aload_n 0, 1) := by decide +kernel
theorem dX10_trace_6 : decode cX10_trace 6 = .ok (.getfield 180, 3) := by decide +kernel
theorem dX10_trace_9 : decode cX10_trace 9 = .ok (.if_icmp .ge 9, 3) := by decide +kernel
theorem dX10_trace_12 : decode cX10_trace 12 = .ok (.iload_n 1, 1) := by decide +kernel
theorem dX10_trace_13 : decode cX10_trace 13 = .ok (.bipush 60, 2) := by decide +kernel
theorem dX10_trace_15 : decode cX10_trace 15 = .ok (.if_icmp .lt 8, 3) := by decide +kernel
theorem dX10_trace_18 : decode cX10_trace 18 = .ok (.bipush (-2), 2) := by decide +kernel
theorem dX10_trace_20 : decode cX10_trace 20 = .ok (.goto 9, 3) := by decide +kernel
theorem dX10_trace_23 : decode cX10_trace 23 = .ok (.aload_n 0, 1) := by decide +kernel
theorem dX10_trace_24 : decode cX10_trace 24 = .ok (.getfield 102, 3) := by decide +kernel
theorem dX10_trace_27 : decode cX10_trace 27 = .ok (.iload_n 1, 1) := by decide +kernel
theorem dX10_trace_28 : decode cX10_trace 28 = .ok (.iaload, 1) := by decide +kernel
theorem dX10_trace_29 : decode cX10_trace 29 = .ok (.ireturn, 1) := by decide +kernel
theorem dX10_cut_0 : decode cX10_cut 0 = .ok (.iload_n 1, 1) := by decide +kernel
theorem dX10_cut_1 : decode cX10_cut 1 = .ok (.invokestatic 151, 3) := by decide +kernel
theorem dX10_cut_4 : decode cX10_cut 4 = .ok (.ifCond .ne 33, 3) := by decide +kernel
theorem dX10_cut_7 : decode cX10_cut 7 = .ok (.iload_n 3, 1) := by decide +kernel
theorem dX10_cut_8 : decode cX10_cut 8 = .ok (.invokestatic 151, 3) := by decide +kernel
theorem dX10_cut_11 : decode cX10_cut 11 = .ok (.ifCond .ne 26, 3) := by decide +kernel
theorem dX10_cut_14 : decode cX10_cut 14 = .ok (.iload 4, 2) := by decide +kernel
theorem dX10_cut_16 : decode cX10_cut 16 = .ok (.invokestatic 151, 3) := by decide +kernel
theorem dX10_cut_19 : decode cX10_cut 19 = .ok (.ifCond .ne 18, 3) := by decide +kernel
theorem dX10_cut_22 : decode cX10_cut 22 = .ok (.iload_n 2, 1) := by decide +kernel
theorem dX10_cut_23 : decode cX10_cut 23 = .ok (.ifCond .lt 14, 3) := by decide +kernel
theorem dX10_cut_26 : decode cX10_cut 26 = .ok (.iload_n 2, 1) := by decide +kernel
theorem dX10_cut_27 : decode cX10_cut 27 = .ok (.aload_n 0, 1) := by decide +kernel
theorem dX10_cut_28 : decode cX10_cut 28 = .ok (.getfield 23, 3) := by decide +kernel
theorem dX10_cut_31 : decode cX10_cut 31 = .ok (.getfield 138, 3) := by decide +kernel
theorem dX10_cut_34 : decode cX10_cut 34 = .ok (.if_icmp .lt 6, 3) := by decide +kernel
theorem dX10_cut_37 : decode cX10_cut 37 = .ok (.bipush (-2), 2) := by decide +kernel
theorem dX10_cut_39 : decode cX10_cut 39 = .ok (.ireturn, 1) := by decide +kernel
theorem dX10_cut_40 : decode cX10_cut 40 = .ok (.aload_n 0, 1) := by decide +kernel
theorem dX10_cut_41 : decode cX10_cut 41 = .ok (.getfield 38, 3) := by decide +kernel
theorem dX10_cut_44 : decode cX10_cut 44 = .ok (.iload_n 1, 1) := by decide +kernel
theorem dX10_cut_45 : decode cX10_cut 45 = .ok (.aaload, 1) := by decide +kernel
theorem dX10_cut_46 : decode cX10_cut 46 = .ok (.getfield 171, 3) := by decide +kernel
theorem dX10_cut_49 : decode cX10_cut 49 = .ok (.ifCond .eq 31, 3) := by decide +kernel
theorem dX10_cut_52 : decode cX10_cut 52 = .ok (.aload_n 0, 1) := by decide +kernel
theorem dX10_cut_53 : decode cX10_cut 53 = .ok (.getfield 38, 3) := by decide +kernel
theorem dX10_cut_56 : decode cX10_cut 56 = .ok (.iload_n 3, 1) := by decide +kernel
theorem dX10_cut_57 : decode cX10_cut 57 = .ok (.aaload, 1) := by decide +kernel
theorem dX10_cut_58 : decode cX10_cut 58 = .ok (.getfield 171, 3) := by decide +kernel
theorem dX10_cut_61 : decode cX10_cut 61 = .ok (.ifCond .eq 19, 3) := by decide +kernel
theorem dX10_cut_64 : decode cX10_cut 64 = .ok (.aload_n 0, 1) := by decide +kernel
theorem dX10_cut_65 : decode cX10_cut 65 = .ok (.iload_n 3, 1) := by decide +kernel
theorem dX10_cut_66 : decode cX10_cut 66 = .ok (.invokevirtual 275, 3) := by decide +kernel
theorem dX10_cut_69 : decode cX10_cut 69 = .ok (.aload_n 0, 1) := by decide +kernel
theorem dX10_cut_70 : decode cX10_cut 70 = .ok (.getfield 23, 3) := by decide +kernel
theorem dX10_cut_73 : decode cX10_cut 73 = .ok (.iload_n 2, 1) := by decide +kernel
theorem dX10_cut_74 : decode cX10_cut 74 = .ok (.invokevirtual 190, 3) := by decide +kernel
theorem dX10_cut_77 : decode cX10_cut 77 = .ok (.if_icmp .eq 6, 3) := by decide +kernel
theorem dX10_cut_80 : decode cX10_cut 80 = .ok (.bipush (-5), 2) := by decide +kernel
theorem dX10_cut_82 : decode cX10_cut 82 = .ok (.ireturn, 1) := by decide +kernel
theorem dX10_cut_83 : decode cX10_cut 83 = .ok (.aload_n 0, 1) := by decide +kernel
theorem dX10_cut_84 : decode cX10_cut 84 = .ok (.getfield 61, 3) := by decide +kernel
theorem dX10_cut_87 : decode cX10_cut 87 = .ok (.aload_n 0, 1) := by decide +kernel
theorem dX10_cut_88 : decode cX10_cut 88 = .ok (.getfield 38, 3) := by decide +kernel
theorem dX10_cut_91 : decode cX10_cut 91 = .ok (.iload_n 1, 1) := by decide +kernel
theorem dX10_cut_92 : decode cX10_cut 92 = .ok (.aaload, 1) := by decide +kernel
theorem dX10_cut_93 : decode cX10_cut 93 = .ok (.iload_n 2, 1) := by decide +kernel
theorem dX10_cut_94 : decode cX10_cut 94 = .ok (.aload_n 0, 1) := by decide +kernel
theorem dX10_cut_95 : decode cX10_cut 95 = .ok (.getfield 38, 3) := by decide +kernel
theorem dX10_cut_98 : decode cX10_cut 98 = .ok (.iload_n 3, 1) := by decide +kernel
theorem dX10_cut_99 : decode cX10_cut 99 = .ok (.aaload, 1) := by decide +kernel
theorem dX10_cut_100 : decode cX10_cut 100 = .ok (.aload_n 0, 1) := by decide +kernel
theorem dX10_cut_101 : decode cX10_cut 101 = .ok (.getfield 43, 3) := by decide +kernel
theorem dX10_cut_104 : decode cX10_cut 104 = .ok (.invokevirtual 278, 3) := by decide +kernel
theorem dX10_cut_107 : decode cX10_cut 107 = .ok (.ifCond .ne 6, 3) := by decide +kernel
theorem dX10_cut_110 : decode cX10_cut 110 = .ok (.bipush (-4), 2) := by decide +kernel
theorem dX10_cut_112 : decode cX10_cut 112 = .ok (.ireturn, 1) := by decide +kernel
theorem dX10_cut_113 : decode cX10_cut 113 = .ok (.aload_n 0, 1) := by decide +kernel
theorem dX10_cut_114 : decode cX10_cut 114 = .ok (.getfield 38, 3) := by decide +kernel
theorem dX10_cut_117 : decode cX10_cut 117 = .ok (.iload 4, 2) := by decide +kernel
theorem dX10_cut_119 : decode cX10_cut 119 = .ok (.aaload, 1) := by decide +kernel
theorem dX10_cut_120 : decode cX10_cut 120 = .ok (.aload_n 0, 1) := by decide +kernel
theorem dX10_cut_121 : decode cX10_cut 121 = .ok (.getfield 43, 3) := by decide +kernel
theorem dX10_cut_124 : decode cX10_cut 124 = .ok (.invokevirtual 169, 3) := by decide +kernel
theorem dX10_cut_127 : decode cX10_cut 127 = .ok (.aload_n 0, 1) := by decide +kernel
theorem dX10_cut_128 : decode cX10_cut 128 = .ok (.getfield 43, 3) := by decide +kernel
theorem dX10_cut_131 : decode cX10_cut 131 = .ok (.getfield 171, 3) := by decide +kernel
theorem dX10_cut_134 : decode cX10_cut 134 = .ok (.ireturn, 1) := by decide +kernel
theorem dX10_provenBy_0 : decode cX10_provenBy 0 = .ok (.iload_n 1, 1) := by decide +kernel
theorem dX10_provenBy_1 : decode cX10_provenBy 1 = .ok (.invokestatic 151, 3) := by decide +kernel
theorem dX10_provenBy_4 : decode cX10_provenBy 4 = .ok (.ifCond .eq 5, 3) := by decide +kernel
theorem dX10_provenBy_7 : decode cX10_provenBy 7 = .ok (.iconst (-1), 1) := by decide +kernel
theorem dX10_provenBy_8 : decode cX10_provenBy 8 = .ok (.ireturn, 1) := by decide +kernel
theorem dX10_provenBy_9 : decode cX10_provenBy 9 = .ok (.aload_n 0, 1) := by decide +kernel
theorem dX10_provenBy_10 : decode cX10_provenBy 10 = .ok (.getfield 52, 3) := by decide +kernel
theorem dX10_provenBy_13 : decode cX10_provenBy 13 = .ok (.aload_n 0, 1) := by decide +kernel
theorem dX10_provenBy_14 : decode cX10_provenBy 14 = .ok (.getfield 38, 3) := by decide +kernel
theorem dX10_provenBy_17 : decode cX10_provenBy 17 = .ok (.iload_n 1, 1) := by decide +kernel
theorem dX10_provenBy_18 : decode cX10_provenBy 18 = .ok (.aaload, 1) := by decide +kernel
theorem dX10_provenBy_19 : decode cX10_provenBy 19 = .ok (.invokevirtual 158, 3) := by decide +kernel
theorem dX10_provenBy_22 : decode cX10_provenBy 22 = .ok (.aload_n 0, 1) := by decide +kernel
theorem dX10_provenBy_23 : decode cX10_provenBy 23 = .ok (.getfield 52, 3) := by decide +kernel
theorem dX10_provenBy_26 : decode cX10_provenBy 26 = .ok (.invokevirtual 162, 3) := by decide +kernel
theorem dX10_provenBy_29 : decode cX10_provenBy 29 = .ok (.pop, 1) := by decide +kernel
theorem dX10_provenBy_30 : decode cX10_provenBy 30 = .ok (.aload_n 0, 1) := by decide +kernel
theorem dX10_provenBy_31 : decode cX10_provenBy 31 = .ok (.getfield 52, 3) := by decide +kernel
theorem dX10_provenBy_34 : decode cX10_provenBy 34 = .ok (.iconst 0, 1) := by decide +kernel
theorem dX10_provenBy_35 : decode cX10_provenBy 35 = .ok (.invokevirtual 220, 3) := by decide +kernel
theorem dX10_provenBy_38 : decode cX10_provenBy 38 = .ok (.ireturn, 1) := by decide +kernel
theorem dX10_lines_0 : decode cX10_lines 0 = .ok (.aload_n 0, 1) := by decide +kernel
theorem dX10_lines_1 : decode cX10_lines 1 = .ok (.iload_n 1, 1) := by decide +kernel
theorem dX10_lines_2 : decode cX10_lines 2 = .ok (.invokevirtual 282, 3) := by decide +kernel
theorem dX10_lines_5 : decode cX10_lines 5 = .ok (.istore_n 2, 1) := by decide +kernel
theorem dX10_lines_6 : decode cX10_lines 6 = .ok (.iload_n 2, 1) := by decide +kernel
theorem dX10_lines_7 : decode cX10_lines 7 = .ok (.ifCond .eq 7, 3) := by decide +kernel
theorem dX10_lines_10 : decode cX10_lines 10 = .ok (.iload_n 2, 1) := by decide +kernel
theorem dX10_lines_11 : decode cX10_lines 11 = .ok (.goto 10, 3) := by decide +kernel
theorem dX10_lines_14 : decode cX10_lines 14 = .ok (.aload_n 0, 1) := by decide +kernel
theorem dX10_lines_15 : decode cX10_lines 15 = .ok (.getfield 77, 3) := by decide +kernel
theorem dX10_lines_18 : decode cX10_lines 18 = .ok (.getfield 285, 3) := by decide +kernel
theorem dX10_lines_21 : decode cX10_lines 21 = .ok (.ireturn, 1) := by decide +kernel
theorem dX10_line_0 : decode cX10_line 0 = .ok (.aload_n 0, 1) := by decide +kernel
theorem dX10_line_1 : decode cX10_line 1 = .ok (.iload_n 1, 1) := by decide +kernel
theorem dX10_line_2 : decode cX10_line 2 = .ok (.invokevirtual 282, 3) := by decide +kernel
theorem dX10_line_5 : decode cX10_line 5 = .ok (.istore 4, 2) := by decide +kernel
theorem dX10_line_7 : decode cX10_line 7 = .ok (.iload 4, 2) := by decide +kernel
theorem dX10_line_9 : decode cX10_line 9 = .ok (.ifCond .eq 6, 3) := by decide +kernel
theorem dX10_line_12 : decode cX10_line 12 = .ok (.iload 4, 2) := by decide +kernel
theorem dX10_line_14 : decode cX10_line 14 = .ok (.ireturn, 1) := by decide +kernel
theorem dX10_line_15 : decode cX10_line 15 = .ok (.iload_n 2, 1) := by decide +kernel
theorem dX10_line_16 : decode cX10_line 16 = .ok (.ifCond .lt 23, 3) := by decide +kernel
theorem dX10_line_19 : decode cX10_line 19 = .ok (.iload_n 2, 1) := by decide +kernel
theorem dX10_line_20 : decode cX10_line 20 = .ok (.aload_n 0, 1) := by decide +kernel
theorem dX10_line_21 : decode cX10_line 21 = .ok (.getfield 77, 3) := by decide +kernel
theorem dX10_line_24 : decode cX10_line 24 = .ok (.getfield 285, 3) := by decide +kernel
theorem dX10_line_27 : decode cX10_line 27 = .ok (.if_icmp .ge 12, 3) := by decide +kernel
theorem dX10_line_30 : decode cX10_line 30 = .ok (.iload_n 3, 1) := by decide +kernel
theorem dX10_line_31 : decode cX10_line 31 = .ok (.ifCond .lt 8, 3) := by decide +kernel
theorem dX10_line_34 : decode cX10_line 34 = .ok (.iload_n 3, 1) := by decide +kernel
theorem dX10_line_35 : decode cX10_line 35 = .ok (.iconst 4, 1) := by decide +kernel
theorem dX10_line_36 : decode cX10_line 36 = .ok (.if_icmp .le 6, 3) := by decide +kernel
theorem dX10_line_39 : decode cX10_line 39 = .ok (.bipush (-2), 2) := by decide +kernel
theorem dX10_line_41 : decode cX10_line 41 = .ok (.ireturn, 1) := by decide +kernel
theorem dX10_line_42 : decode cX10_line 42 = .ok (.iload_n 3, 1) := by decide +kernel
theorem dX10_line_43 : decode cX10_line 43 = .ok (.ifCond .ne 12, 3) := by decide +kernel
theorem dX10_line_46 : decode cX10_line 46 = .ok (.aload_n 0, 1) := by decide +kernel
theorem dX10_line_47 : decode cX10_line 47 = .ok (.getfield 77, 3) := by decide +kernel
theorem dX10_line_50 : decode cX10_line 50 = .ok (.iload_n 2, 1) := by decide +kernel
theorem dX10_line_51 : decode cX10_line 51 = .ok (.invokevirtual 286, 3) := by decide +kernel
theorem dX10_line_54 : decode cX10_line 54 = .ok (.ireturn, 1) := by decide +kernel
theorem dX10_line_55 : decode cX10_line 55 = .ok (.iload_n 3, 1) := by decide +kernel
theorem dX10_line_56 : decode cX10_line 56 = .ok (.iconst 4, 1) := by decide +kernel
theorem dX10_line_57 : decode cX10_line 57 = .ok (.if_icmp .ne 14, 3) := by decide +kernel
theorem dX10_line_60 : decode cX10_line 60 = .ok (.aload_n 0, 1) := by decide +kernel
theorem dX10_line_61 : decode cX10_line 61 = .ok (.getfield 77, 3) := by decide +kernel
theorem dX10_line_64 : decode cX10_line 64 = .ok (.iload_n 2, 1) := by decide +kernel
theorem dX10_line_65 : decode cX10_line 65 = .ok (.invokevirtual 289, 3) := by decide +kernel
theorem dX10_line_68 : decode cX10_line 68 = .ok (.goto 14, 3) := by decide +kernel
theorem dX10_line_71 : decode cX10_line 71 = .ok (.aload_n 0, 1) := by decide +kernel
theorem dX10_line_72 : decode cX10_line 72 = .ok (.getfield 77, 3) := by decide +kernel
theorem dX10_line_75 : decode cX10_line 75 = .ok (.iload_n 2, 1) := by decide +kernel
theorem dX10_line_76 : decode cX10_line 76 = .ok (.iload_n 3, 1) := by decide +kernel
theorem dX10_line_77 : decode cX10_line 77 = .ok (.iconst 1, 1) := by decide +kernel
theorem dX10_line_78 : decode cX10_line 78 = .ok (.isub, 1) := by decide +kernel
theorem dX10_line_79 : decode cX10_line 79 = .ok (.invokevirtual 292, 3) := by decide +kernel
theorem dX10_line_82 : decode cX10_line 82 = .ok (.ireturn, 1) := by decide +kernel
theorem dX10_lineByte_0 : decode cX10_lineByte 0 = .ok (.aload_n 0, 1) := by decide +kernel
theorem dX10_lineByte_1 : decode cX10_lineByte 1 = .ok (.iload_n 1, 1) := by decide +kernel
theorem dX10_lineByte_2 : decode cX10_lineByte 2 = .ok (.invokevirtual 282, 3) := by decide +kernel
theorem dX10_lineByte_5 : decode cX10_lineByte 5 = .ok (.istore 4, 2) := by decide +kernel
theorem dX10_lineByte_7 : decode cX10_lineByte 7 = .ok (.iload 4, 2) := by decide +kernel
theorem dX10_lineByte_9 : decode cX10_lineByte 9 = .ok (.ifCond .eq 6, 3) := by decide +kernel
theorem dX10_lineByte_12 : decode cX10_lineByte 12 = .ok (.iload 4, 2) := by decide +kernel
theorem dX10_lineByte_14 : decode cX10_lineByte 14 = .ok (.ireturn, 1) := by decide +kernel
theorem dX10_lineByte_15 : decode cX10_lineByte 15 = .ok (.iload_n 2, 1) := by decide +kernel
theorem dX10_lineByte_16 : decode cX10_lineByte 16 = .ok (.ifCond .lt 14, 3) := by decide +kernel
theorem dX10_lineByte_19 : decode cX10_lineByte 19 = .ok (.iload_n 2, 1) := by decide +kernel
theorem dX10_lineByte_20 : decode cX10_lineByte 20 = .ok (.aload_n 0, 1) := by decide +kernel
theorem dX10_lineByte_21 : decode cX10_lineByte 21 = .ok (.getfield 77, 3) := by decide +kernel
theorem dX10_lineByte_24 : decode cX10_lineByte 24 = .ok (.getfield 285, 3) := by decide +kernel
theorem dX10_lineByte_27 : decode cX10_lineByte 27 = .ok (.if_icmp .lt 6, 3) := by decide +kernel
theorem dX10_lineByte_30 : decode cX10_lineByte 30 = .ok (.bipush (-2), 2) := by decide +kernel
theorem dX10_lineByte_32 : decode cX10_lineByte 32 = .ok (.ireturn, 1) := by decide +kernel
theorem dX10_lineByte_33 : decode cX10_lineByte 33 = .ok (.iload_n 3, 1) := by decide +kernel
theorem dX10_lineByte_34 : decode cX10_lineByte 34 = .ok (.ifCond .ge 8, 3) := by decide +kernel
theorem dX10_lineByte_37 : decode cX10_lineByte 37 = .ok (.bipush (-3), 2) := by decide +kernel
theorem dX10_lineByte_39 : decode cX10_lineByte 39 = .ok (.goto 20, 3) := by decide +kernel
theorem dX10_lineByte_42 : decode cX10_lineByte 42 = .ok (.aload_n 0, 1) := by decide +kernel
theorem dX10_lineByte_43 : decode cX10_lineByte 43 = .ok (.getfield 16, 3) := by decide +kernel
theorem dX10_lineByte_46 : decode cX10_lineByte 46 = .ok (.aload_n 0, 1) := by decide +kernel
theorem dX10_lineByte_47 : decode cX10_lineByte 47 = .ok (.getfield 77, 3) := by decide +kernel
theorem dX10_lineByte_50 : decode cX10_lineByte 50 = .ok (.iload_n 2, 1) := by decide +kernel
theorem dX10_lineByte_51 : decode cX10_lineByte 51 = .ok (.invokevirtual 295, 3) := by decide +kernel
theorem dX10_lineByte_54 : decode cX10_lineByte 54 = .ok (.iload_n 3, 1) := by decide +kernel
theorem dX10_lineByte_55 : decode cX10_lineByte 55 = .ok (.i2l, 1) := by decide +kernel
theorem dX10_lineByte_56 : decode cX10_lineByte 56 = .ok (.invokevirtual 193, 3) := by decide +kernel
theorem dX10_lineByte_59 : decode cX10_lineByte 59 = .ok (.ireturn, 1) := by decide +kernel
theorem dX10_numberLines_0 : decode cX10_numberLines 0 = .ok (.iload_n 1, 1) := by decide +kernel
theorem dX10_numberLines_1 : decode cX10_numberLines 1 = .ok (.invokestatic 151, 3) := by decide +kernel
theorem dX10_numberLines_4 : decode cX10_numberLines 4 = .ok (.ifCond .eq 6, 3) := by decide +kernel
theorem dX10_numberLines_7 : decode cX10_numberLines 7 = .ok (.bipush (-2), 2) := by decide +kernel
theorem dX10_numberLines_9 : decode cX10_numberLines 9 = .ok (.ireturn, 1) := by decide +kernel
theorem dX10_numberLines_10 : decode cX10_numberLines 10 = .ok (.aload_n 0, 1) := by decide +kernel
theorem dX10_numberLines_11 : decode cX10_numberLines 11 = .ok (.getfield 38, 3) := by decide +kernel
theorem dX10_numberLines_14 : decode cX10_numberLines 14 = .ok (.iload_n 1, 1) := by decide +kernel
theorem dX10_numberLines_15 : decode cX10_numberLines 15 = .ok (.aaload, 1) := by decide +kernel
theorem dX10_numberLines_16 : decode cX10_numberLines 16 = .ok (.getfield 171, 3) := by decide +kernel
theorem dX10_numberLines_19 : decode cX10_numberLines 19 = .ok (.ifCond .ne 6, 3) := by decide +kernel
theorem dX10_numberLines_22 : decode cX10_numberLines 22 = .ok (.bipush (-5), 2) := by decide +kernel
theorem dX10_numberLines_24 : decode cX10_numberLines 24 = .ok (.ireturn, 1) := by decide +kernel
theorem dX10_numberLines_25 : decode cX10_numberLines 25 = .ok (.aload_n 0, 1) := by decide +kernel
theorem dX10_numberLines_26 : decode cX10_numberLines 26 = .ok (.getfield 52, 3) := by decide +kernel
theorem dX10_numberLines_29 : decode cX10_numberLines 29 = .ok (.aload_n 0, 1) := by decide +kernel
theorem dX10_numberLines_30 : decode cX10_numberLines 30 = .ok (.getfield 38, 3) := by decide +kernel
theorem dX10_numberLines_33 : decode cX10_numberLines 33 = .ok (.iload_n 1, 1) := by decide +kernel
theorem dX10_numberLines_34 : decode cX10_numberLines 34 = .ok (.aaload, 1) := by decide +kernel
theorem dX10_numberLines_35 : decode cX10_numberLines 35 = .ok (.invokevirtual 158, 3) := by decide +kernel
theorem dX10_numberLines_38 : decode cX10_numberLines 38 = .ok (.aload_n 0, 1) := by decide +kernel
theorem dX10_numberLines_39 : decode cX10_numberLines 39 = .ok (.getfield 52, 3) := by decide +kernel
theorem dX10_numberLines_42 : decode cX10_numberLines 42 = .ok (.invokevirtual 162, 3) := by decide +kernel
theorem dX10_numberLines_45 : decode cX10_numberLines 45 = .ok (.pop, 1) := by decide +kernel
theorem dX10_numberLines_46 : decode cX10_numberLines 46 = .ok (.aload_n 0, 1) := by decide +kernel
theorem dX10_numberLines_47 : decode cX10_numberLines 47 = .ok (.getfield 77, 3) := by decide +kernel
theorem dX10_numberLines_50 : decode cX10_numberLines 50 = .ok (.aload_n 0, 1) := by decide +kernel
theorem dX10_numberLines_51 : decode cX10_numberLines 51 = .ok (.getfield 52, 3) := by decide +kernel
theorem dX10_numberLines_54 : decode cX10_numberLines 54 = .ok (.invokevirtual 296, 3) := by decide +kernel
theorem dX10_numberLines_57 : decode cX10_numberLines 57 = .ok (.iconst 0, 1) := by decide +kernel
theorem dX10_numberLines_58 : decode cX10_numberLines 58 = .ok (.ireturn, 1) := by decide +kernel
theorem dX10_equal_0 : decode cX10_equal 0 = .ok (.iload_n 1, 1) := by decide +kernel
theorem dX10_equal_1 : decode cX10_equal 1 = .ok (.invokestatic 151, 3) := by decide +kernel
theorem dX10_equal_4 : decode cX10_equal 4 = .ok (.ifCond .ne 10, 3) := by decide +kernel
theorem dX10_equal_7 : decode cX10_equal 7 = .ok (.iload_n 2, 1) := by decide +kernel
theorem dX10_equal_8 : decode cX10_equal 8 = .ok (.invokestatic 151, 3) := by decide +kernel
theorem dX10_equal_11 : decode cX10_equal 11 = .ok (.ifCond .eq 6, 3) := by decide +kernel
theorem dX10_equal_14 : decode cX10_equal 14 = .ok (.bipush (-2), 2) := by decide +kernel
theorem dX10_equal_16 : decode cX10_equal 16 = .ok (.ireturn, 1) := by decide +kernel
theorem dX10_equal_17 : decode cX10_equal 17 = .ok (.aload_n 0, 1) := by decide +kernel
theorem dX10_equal_18 : decode cX10_equal 18 = .ok (.getfield 38, 3) := by decide +kernel
theorem dX10_equal_21 : decode cX10_equal 21 = .ok (.iload_n 1, 1) := by decide +kernel
theorem dX10_equal_22 : decode cX10_equal 22 = .ok (.aaload, 1) := by decide +kernel
theorem dX10_equal_23 : decode cX10_equal 23 = .ok (.getfield 171, 3) := by decide +kernel
theorem dX10_equal_26 : decode cX10_equal 26 = .ok (.ifCond .eq 15, 3) := by decide +kernel
theorem dX10_equal_29 : decode cX10_equal 29 = .ok (.aload_n 0, 1) := by decide +kernel
theorem dX10_equal_30 : decode cX10_equal 30 = .ok (.getfield 38, 3) := by decide +kernel
theorem dX10_equal_33 : decode cX10_equal 33 = .ok (.iload_n 2, 1) := by decide +kernel
theorem dX10_equal_34 : decode cX10_equal 34 = .ok (.aaload, 1) := by decide +kernel
theorem dX10_equal_35 : decode cX10_equal 35 = .ok (.getfield 171, 3) := by decide +kernel
theorem dX10_equal_38 : decode cX10_equal 38 = .ok (.ifCond .ne 6, 3) := by decide +kernel
theorem dX10_equal_41 : decode cX10_equal 41 = .ok (.bipush (-5), 2) := by decide +kernel
theorem dX10_equal_43 : decode cX10_equal 43 = .ok (.ireturn, 1) := by decide +kernel
theorem dX10_equal_44 : decode cX10_equal 44 = .ok (.aload_n 0, 1) := by decide +kernel
theorem dX10_equal_45 : decode cX10_equal 45 = .ok (.getfield 38, 3) := by decide +kernel
theorem dX10_equal_48 : decode cX10_equal 48 = .ok (.iload_n 1, 1) := by decide +kernel
theorem dX10_equal_49 : decode cX10_equal 49 = .ok (.aaload, 1) := by decide +kernel
theorem dX10_equal_50 : decode cX10_equal 50 = .ok (.aload_n 0, 1) := by decide +kernel
theorem dX10_equal_51 : decode cX10_equal 51 = .ok (.getfield 38, 3) := by decide +kernel
theorem dX10_equal_54 : decode cX10_equal 54 = .ok (.iload_n 2, 1) := by decide +kernel
theorem dX10_equal_55 : decode cX10_equal 55 = .ok (.aaload, 1) := by decide +kernel
theorem dX10_equal_56 : decode cX10_equal 56 = .ok (.invokevirtual 299, 3) := by decide +kernel
theorem dX10_equal_59 : decode cX10_equal 59 = .ok (.ifCond .eq 7, 3) := by decide +kernel
theorem dX10_equal_62 : decode cX10_equal 62 = .ok (.iconst 1, 1) := by decide +kernel
theorem dX10_equal_63 : decode cX10_equal 63 = .ok (.goto 4, 3) := by decide +kernel
theorem dX10_equal_66 : decode cX10_equal 66 = .ok (.iconst 0, 1) := by decide +kernel
theorem dX10_equal_67 : decode cX10_equal 67 = .ok (.ireturn, 1) := by decide +kernel
theorem dX10_alike_0 : decode cX10_alike 0 = .ok (.iload_n 1, 1) := by decide +kernel
theorem dX10_alike_1 : decode cX10_alike 1 = .ok (.invokestatic 151, 3) := by decide +kernel
theorem dX10_alike_4 : decode cX10_alike 4 = .ok (.ifCond .ne 10, 3) := by decide +kernel
theorem dX10_alike_7 : decode cX10_alike 7 = .ok (.iload_n 2, 1) := by decide +kernel
theorem dX10_alike_8 : decode cX10_alike 8 = .ok (.invokestatic 151, 3) := by decide +kernel
theorem dX10_alike_11 : decode cX10_alike 11 = .ok (.ifCond .eq 6, 3) := by decide +kernel
theorem dX10_alike_14 : decode cX10_alike 14 = .ok (.bipush (-2), 2) := by decide +kernel
theorem dX10_alike_16 : decode cX10_alike 16 = .ok (.ireturn, 1) := by decide +kernel
theorem dX10_alike_17 : decode cX10_alike 17 = .ok (.aload_n 0, 1) := by decide +kernel
theorem dX10_alike_18 : decode cX10_alike 18 = .ok (.getfield 38, 3) := by decide +kernel
theorem dX10_alike_21 : decode cX10_alike 21 = .ok (.iload_n 1, 1) := by decide +kernel
theorem dX10_alike_22 : decode cX10_alike 22 = .ok (.aaload, 1) := by decide +kernel
theorem dX10_alike_23 : decode cX10_alike 23 = .ok (.getfield 171, 3) := by decide +kernel
theorem dX10_alike_26 : decode cX10_alike 26 = .ok (.ifCond .eq 15, 3) := by decide +kernel
theorem dX10_alike_29 : decode cX10_alike 29 = .ok (.aload_n 0, 1) := by decide +kernel
theorem dX10_alike_30 : decode cX10_alike 30 = .ok (.getfield 38, 3) := by decide +kernel
theorem dX10_alike_33 : decode cX10_alike 33 = .ok (.iload_n 2, 1) := by decide +kernel
theorem dX10_alike_34 : decode cX10_alike 34 = .ok (.aaload, 1) := by decide +kernel
theorem dX10_alike_35 : decode cX10_alike 35 = .ok (.getfield 171, 3) := by decide +kernel
theorem dX10_alike_38 : decode cX10_alike 38 = .ok (.ifCond .ne 6, 3) := by decide +kernel
theorem dX10_alike_41 : decode cX10_alike 41 = .ok (.bipush (-5), 2) := by decide +kernel
theorem dX10_alike_43 : decode cX10_alike 43 = .ok (.ireturn, 1) := by decide +kernel
theorem dX10_alike_44 : decode cX10_alike 44 = .ok (.aload_n 0, 1) := by decide +kernel
theorem dX10_alike_45 : decode cX10_alike 45 = .ok (.getfield 61, 3) := by decide +kernel
theorem dX10_alike_48 : decode cX10_alike 48 = .ok (.aload_n 0, 1) := by decide +kernel
theorem dX10_alike_49 : decode cX10_alike 49 = .ok (.getfield 38, 3) := by decide +kernel
theorem dX10_alike_52 : decode cX10_alike 52 = .ok (.iload_n 1, 1) := by decide +kernel
theorem dX10_alike_53 : decode cX10_alike 53 = .ok (.aaload, 1) := by decide +kernel
theorem dX10_alike_54 : decode cX10_alike 54 = .ok (.aload_n 0, 1) := by decide +kernel
theorem dX10_alike_55 : decode cX10_alike 55 = .ok (.getfield 99, 3) := by decide +kernel
theorem dX10_alike_58 : decode cX10_alike 58 = .ok (.invokevirtual 261, 3) := by decide +kernel
theorem dX10_alike_61 : decode cX10_alike 61 = .ok (.ifCond .ge 6, 3) := by decide +kernel
theorem dX10_alike_64 : decode cX10_alike 64 = .ok (.bipush (-4), 2) := by decide +kernel
theorem dX10_alike_66 : decode cX10_alike 66 = .ok (.ireturn, 1) := by decide +kernel
theorem dX10_alike_67 : decode cX10_alike 67 = .ok (.aload_n 0, 1) := by decide +kernel
theorem dX10_alike_68 : decode cX10_alike 68 = .ok (.getfield 43, 3) := by decide +kernel
theorem dX10_alike_71 : decode cX10_alike 71 = .ok (.aload_n 0, 1) := by decide +kernel
theorem dX10_alike_72 : decode cX10_alike 72 = .ok (.getfield 61, 3) := by decide +kernel
theorem dX10_alike_75 : decode cX10_alike 75 = .ok (.invokevirtual 265, 3) := by decide +kernel
theorem dX10_alike_78 : decode cX10_alike 78 = .ok (.invokevirtual 169, 3) := by decide +kernel
theorem dX10_alike_81 : decode cX10_alike 81 = .ok (.aload_n 0, 1) := by decide +kernel
theorem dX10_alike_82 : decode cX10_alike 82 = .ok (.getfield 61, 3) := by decide +kernel
theorem dX10_alike_85 : decode cX10_alike 85 = .ok (.aload_n 0, 1) := by decide +kernel
theorem dX10_alike_86 : decode cX10_alike 86 = .ok (.getfield 38, 3) := by decide +kernel
theorem dX10_alike_89 : decode cX10_alike 89 = .ok (.iload_n 2, 1) := by decide +kernel
theorem dX10_alike_90 : decode cX10_alike 90 = .ok (.aaload, 1) := by decide +kernel
theorem dX10_alike_91 : decode cX10_alike 91 = .ok (.aload_n 0, 1) := by decide +kernel
theorem dX10_alike_92 : decode cX10_alike 92 = .ok (.getfield 99, 3) := by decide +kernel
theorem dX10_alike_95 : decode cX10_alike 95 = .ok (.invokevirtual 261, 3) := by decide +kernel
theorem dX10_alike_98 : decode cX10_alike 98 = .ok (.ifCond .ge 6, 3) := by decide +kernel
theorem dX10_alike_101 : decode cX10_alike 101 = .ok (.bipush (-4), 2) := by decide +kernel
theorem dX10_alike_103 : decode cX10_alike 103 = .ok (.ireturn, 1) := by decide +kernel
theorem dX10_alike_104 : decode cX10_alike 104 = .ok (.aload_n 0, 1) := by decide +kernel
theorem dX10_alike_105 : decode cX10_alike 105 = .ok (.getfield 43, 3) := by decide +kernel
theorem dX10_alike_108 : decode cX10_alike 108 = .ok (.aload_n 0, 1) := by decide +kernel
theorem dX10_alike_109 : decode cX10_alike 109 = .ok (.getfield 61, 3) := by decide +kernel
theorem dX10_alike_112 : decode cX10_alike 112 = .ok (.invokevirtual 265, 3) := by decide +kernel
theorem dX10_alike_115 : decode cX10_alike 115 = .ok (.invokevirtual 299, 3) := by decide +kernel
theorem dX10_alike_118 : decode cX10_alike 118 = .ok (.ifCond .eq 7, 3) := by decide +kernel
theorem dX10_alike_121 : decode cX10_alike 121 = .ok (.iconst 1, 1) := by decide +kernel
theorem dX10_alike_122 : decode cX10_alike 122 = .ok (.goto 4, 3) := by decide +kernel
theorem dX10_alike_125 : decode cX10_alike 125 = .ok (.iconst 0, 1) := by decide +kernel
theorem dX10_alike_126 : decode cX10_alike 126 = .ok (.ireturn, 1) := by decide +kernel
theorem dX10_side_0 : decode cX10_side 0 = .ok (.iload_n 1, 1) := by decide +kernel
theorem dX10_side_1 : decode cX10_side 1 = .ok (.invokestatic 151, 3) := by decide +kernel
theorem dX10_side_4 : decode cX10_side 4 = .ok (.ifCond .eq 6, 3) := by decide +kernel
theorem dX10_side_7 : decode cX10_side 7 = .ok (.bipush (-2), 2) := by decide +kernel
theorem dX10_side_9 : decode cX10_side 9 = .ok (.ireturn, 1) := by decide +kernel
theorem dX10_side_10 : decode cX10_side 10 = .ok (.aload_n 0, 1) := by decide +kernel
theorem dX10_side_11 : decode cX10_side 11 = .ok (.getfield 38, 3) := by decide +kernel
theorem dX10_side_14 : decode cX10_side 14 = .ok (.iload_n 1, 1) := by decide +kernel
theorem dX10_side_15 : decode cX10_side 15 = .ok (.aaload, 1) := by decide +kernel
theorem dX10_side_16 : decode cX10_side 16 = .ok (.getfield 171, 3) := by decide +kernel
theorem dX10_side_19 : decode cX10_side 19 = .ok (.ifCond .eq 20, 3) := by decide +kernel
theorem dX10_side_22 : decode cX10_side 22 = .ok (.aload_n 0, 1) := by decide +kernel
theorem dX10_side_23 : decode cX10_side 23 = .ok (.getfield 16, 3) := by decide +kernel
theorem dX10_side_26 : decode cX10_side 26 = .ok (.aload_n 0, 1) := by decide +kernel
theorem dX10_side_27 : decode cX10_side 27 = .ok (.iload_n 1, 1) := by decide +kernel
theorem dX10_side_28 : decode cX10_side 28 = .ok (.invokevirtual 275, 3) := by decide +kernel
theorem dX10_side_31 : decode cX10_side 31 = .ok (.invokevirtual 303, 3) := by decide +kernel
theorem dX10_side_34 : decode cX10_side 34 = .ok (.bipush 11, 2) := by decide +kernel
theorem dX10_side_36 : decode cX10_side 36 = .ok (.if_icmp .eq 6, 3) := by decide +kernel
theorem dX10_side_39 : decode cX10_side 39 = .ok (.bipush (-5), 2) := by decide +kernel
theorem dX10_side_41 : decode cX10_side 41 = .ok (.ireturn, 1) := by decide +kernel
theorem dX10_side_42 : decode cX10_side 42 = .ok (.aload_n 0, 1) := by decide +kernel
theorem dX10_side_43 : decode cX10_side 43 = .ok (.getfield 61, 3) := by decide +kernel
theorem dX10_side_46 : decode cX10_side 46 = .ok (.aload_n 0, 1) := by decide +kernel
theorem dX10_side_47 : decode cX10_side 47 = .ok (.getfield 38, 3) := by decide +kernel
theorem dX10_side_50 : decode cX10_side 50 = .ok (.iload_n 1, 1) := by decide +kernel
theorem dX10_side_51 : decode cX10_side 51 = .ok (.aaload, 1) := by decide +kernel
theorem dX10_side_52 : decode cX10_side 52 = .ok (.aload_n 0, 1) := by decide +kernel
theorem dX10_side_53 : decode cX10_side 53 = .ok (.getfield 99, 3) := by decide +kernel
theorem dX10_side_56 : decode cX10_side 56 = .ok (.invokevirtual 261, 3) := by decide +kernel
theorem dX10_side_59 : decode cX10_side 59 = .ok (.ifCond .ge 6, 3) := by decide +kernel
theorem dX10_side_62 : decode cX10_side 62 = .ok (.bipush (-4), 2) := by decide +kernel
theorem dX10_side_64 : decode cX10_side 64 = .ok (.ireturn, 1) := by decide +kernel
theorem dX10_side_65 : decode cX10_side 65 = .ok (.aload_n 0, 1) := by decide +kernel
theorem dX10_side_66 : decode cX10_side 66 = .ok (.getfield 61, 3) := by decide +kernel
theorem dX10_side_69 : decode cX10_side 69 = .ok (.invokevirtual 265, 3) := by decide +kernel
theorem dX10_side_72 : decode cX10_side 72 = .ok (.iconst 0, 1) := by decide +kernel
theorem dX10_side_73 : decode cX10_side 73 = .ok (.invokevirtual 306, 3) := by decide +kernel
theorem dX10_side_76 : decode cX10_side 76 = .ok (.istore_n 2, 1) := by decide +kernel
theorem dX10_side_77 : decode cX10_side 77 = .ok (.iload_n 2, 1) := by decide +kernel
theorem dX10_side_78 : decode cX10_side 78 = .ok (.bipush 7, 2) := by decide +kernel
theorem dX10_side_80 : decode cX10_side 80 = .ok (.if_icmp .ne 5, 3) := by decide +kernel
theorem dX10_side_83 : decode cX10_side 83 = .ok (.iconst 0, 1) := by decide +kernel
theorem dX10_side_84 : decode cX10_side 84 = .ok (.ireturn, 1) := by decide +kernel
theorem dX10_side_85 : decode cX10_side 85 = .ok (.iload_n 2, 1) := by decide +kernel
theorem dX10_side_86 : decode cX10_side 86 = .ok (.bipush 8, 2) := by decide +kernel
theorem dX10_side_88 : decode cX10_side 88 = .ok (.if_icmp .ne 7, 3) := by decide +kernel
theorem dX10_side_91 : decode cX10_side 91 = .ok (.iconst 1, 1) := by decide +kernel
theorem dX10_side_92 : decode cX10_side 92 = .ok (.goto 4, 3) := by decide +kernel
theorem dX10_side_95 : decode cX10_side 95 = .ok (.iconst (-1), 1) := by decide +kernel
theorem dX10_side_96 : decode cX10_side 96 = .ok (.ireturn, 1) := by decide +kernel
theorem dX10_provable_0 : decode cX10_provable 0 = .ok (.aload_n 0, 1) := by decide +kernel
theorem dX10_provable_1 : decode cX10_provable 1 = .ok (.aload_n 0, 1) := by decide +kernel
theorem dX10_provable_2 : decode cX10_provable 2 = .ok (.getfield 105, 3) := by decide +kernel
theorem dX10_provable_5 : decode cX10_provable 5 = .ok (.invokevirtual 309, 3) := by decide +kernel
theorem dX10_provable_8 : decode cX10_provable 8 = .ok (.ireturn, 1) := by decide +kernel
theorem dX10_bySide_0 : decode cX10_bySide 0 = .ok (.iload_n 1, 1) := by decide +kernel
theorem dX10_bySide_1 : decode cX10_bySide 1 = .ok (.ifCond .lt 8, 3) := by decide +kernel
theorem dX10_bySide_4 : decode cX10_bySide 4 = .ok (.iload_n 1, 1) := by decide +kernel
theorem dX10_bySide_5 : decode cX10_bySide 5 = .ok (.iconst 1, 1) := by decide +kernel
theorem dX10_bySide_6 : decode cX10_bySide 6 = .ok (.if_icmp .le 6, 3) := by decide +kernel
theorem dX10_bySide_9 : decode cX10_bySide 9 = .ok (.bipush (-2), 2) := by decide +kernel
theorem dX10_bySide_11 : decode cX10_bySide 11 = .ok (.ireturn, 1) := by decide +kernel
theorem dX10_bySide_12 : decode cX10_bySide 12 = .ok (.aload_n 0, 1) := by decide +kernel
theorem dX10_bySide_13 : decode cX10_bySide 13 = .ok (.getfield 16, 3) := by decide +kernel
theorem dX10_bySide_16 : decode cX10_bySide 16 = .ok (.aload_n 0, 1) := by decide +kernel
theorem dX10_bySide_17 : decode cX10_bySide 17 = .ok (.getfield 105, 3) := by decide +kernel
theorem dX10_bySide_20 : decode cX10_bySide 20 = .ok (.invokevirtual 303, 3) := by decide +kernel
theorem dX10_bySide_23 : decode cX10_bySide 23 = .ok (.bipush 11, 2) := by decide +kernel
theorem dX10_bySide_25 : decode cX10_bySide 25 = .ok (.if_icmp .eq 6, 3) := by decide +kernel
theorem dX10_bySide_28 : decode cX10_bySide 28 = .ok (.bipush (-5), 2) := by decide +kernel
theorem dX10_bySide_30 : decode cX10_bySide 30 = .ok (.ireturn, 1) := by decide +kernel
theorem dX10_bySide_31 : decode cX10_bySide 31 = .ok (.aload_n 0, 1) := by decide +kernel
theorem dX10_bySide_32 : decode cX10_bySide 32 = .ok (.iload_n 1, 1) := by decide +kernel
theorem dX10_bySide_33 : decode cX10_bySide 33 = .ok (.ifCond .ne 17, 3) := by decide +kernel
theorem dX10_bySide_36 : decode cX10_bySide 36 = .ok (.aload_n 0, 1) := by decide +kernel
theorem dX10_bySide_37 : decode cX10_bySide 37 = .ok (.getfield 16, 3) := by decide +kernel
theorem dX10_bySide_40 : decode cX10_bySide 40 = .ok (.aload_n 0, 1) := by decide +kernel
theorem dX10_bySide_41 : decode cX10_bySide 41 = .ok (.getfield 105, 3) := by decide +kernel
theorem dX10_bySide_44 : decode cX10_bySide 44 = .ok (.invokevirtual 312, 3) := by decide +kernel
theorem dX10_bySide_47 : decode cX10_bySide 47 = .ok (.goto 14, 3) := by decide +kernel
theorem dX10_bySide_50 : decode cX10_bySide 50 = .ok (.aload_n 0, 1) := by decide +kernel
theorem dX10_bySide_51 : decode cX10_bySide 51 = .ok (.getfield 16, 3) := by decide +kernel
theorem dX10_bySide_54 : decode cX10_bySide 54 = .ok (.aload_n 0, 1) := by decide +kernel
theorem dX10_bySide_55 : decode cX10_bySide 55 = .ok (.getfield 105, 3) := by decide +kernel
theorem dX10_bySide_58 : decode cX10_bySide 58 = .ok (.invokevirtual 315, 3) := by decide +kernel
theorem dX10_bySide_61 : decode cX10_bySide 61 = .ok (.invokevirtual 309, 3) := by decide +kernel
theorem dX10_bySide_64 : decode cX10_bySide 64 = .ok (.ireturn, 1) := by decide +kernel
theorem dX10_provableFrom_0 : decode cX10_provableFrom 0 = .ok (.aload_n 0, 1) := by decide +kernel
theorem dX10_provableFrom_1 : decode cX10_provableFrom 1 = .ok (.getfield 23, 3) := by decide +kernel
theorem dX10_provableFrom_4 : decode cX10_provableFrom 4 = .ok (.invokevirtual 318, 3) := by decide +kernel
theorem dX10_provableFrom_7 : decode cX10_provableFrom 7 = .ok (.aload_n 0, 1) := by decide +kernel
theorem dX10_provableFrom_8 : decode cX10_provableFrom 8 = .ok (.getfield 109, 3) := by decide +kernel
theorem dX10_provableFrom_11 : decode cX10_provableFrom 11 = .ok (.iadd, 1) := by decide +kernel
theorem dX10_provableFrom_12 : decode cX10_provableFrom 12 = .ok (.bipush 40, 2) := by decide +kernel
theorem dX10_provableFrom_14 : decode cX10_provableFrom 14 = .ok (.if_icmp .le 6, 3) := by decide +kernel
theorem dX10_provableFrom_17 : decode cX10_provableFrom 17 = .ok (.bipush (-4), 2) := by decide +kernel
theorem dX10_provableFrom_19 : decode cX10_provableFrom 19 = .ok (.ireturn, 1) := by decide +kernel
theorem dX10_provableFrom_20 : decode cX10_provableFrom 20 = .ok (.aload_n 0, 1) := by decide +kernel
theorem dX10_provableFrom_21 : decode cX10_provableFrom 21 = .ok (.getfield 86, 3) := by decide +kernel
theorem dX10_provableFrom_24 : decode cX10_provableFrom 24 = .ok (.aload_n 0, 1) := by decide +kernel
theorem dX10_provableFrom_25 : decode cX10_provableFrom 25 = .ok (.getfield 23, 3) := by decide +kernel
theorem dX10_provableFrom_28 : decode cX10_provableFrom 28 = .ok (.iload_n 1, 1) := by decide +kernel
theorem dX10_provableFrom_29 : decode cX10_provableFrom 29 = .ok (.invokevirtual 321, 3) := by decide +kernel
theorem dX10_provableFrom_32 : decode cX10_provableFrom 32 = .ok (.aload_n 0, 1) := by decide +kernel
theorem dX10_provableFrom_33 : decode cX10_provableFrom 33 = .ok (.getfield 95, 3) := by decide +kernel
theorem dX10_provableFrom_36 : decode cX10_provableFrom 36 = .ok (.aload_n 0, 1) := by decide +kernel
theorem dX10_provableFrom_37 : decode cX10_provableFrom 37 = .ok (.getfield 23, 3) := by decide +kernel
theorem dX10_provableFrom_40 : decode cX10_provableFrom 40 = .ok (.iload_n 1, 1) := by decide +kernel
theorem dX10_provableFrom_41 : decode cX10_provableFrom 41 = .ok (.invokevirtual 325, 3) := by decide +kernel
theorem dX10_provableFrom_44 : decode cX10_provableFrom 44 = .ok (.ifCond .eq 7, 3) := by decide +kernel
theorem dX10_provableFrom_47 : decode cX10_provableFrom 47 = .ok (.iconst 1, 1) := by decide +kernel
theorem dX10_provableFrom_48 : decode cX10_provableFrom 48 = .ok (.goto 4, 3) := by decide +kernel
theorem dX10_provableFrom_51 : decode cX10_provableFrom 51 = .ok (.iconst 0, 1) := by decide +kernel
theorem dX10_provableFrom_52 : decode cX10_provableFrom 52 = .ok (.ireturn, 1) := by decide +kernel
theorem dX10_classical_0 : decode cX10_classical 0 = .ok (.aload_n 0, 1) := by decide +kernel
theorem dX10_classical_1 : decode cX10_classical 1 = .ok (.invokevirtual 329, 3) := by decide +kernel
theorem dX10_classical_4 : decode cX10_classical 4 = .ok (.iconst (-1), 1) := by decide +kernel
theorem dX10_classical_5 : decode cX10_classical 5 = .ok (.if_icmp .ne 7, 3) := by decide +kernel
theorem dX10_classical_8 : decode cX10_classical 8 = .ok (.iconst 1, 1) := by decide +kernel
theorem dX10_classical_9 : decode cX10_classical 9 = .ok (.goto 4, 3) := by decide +kernel
theorem dX10_classical_12 : decode cX10_classical 12 = .ok (.iconst 0, 1) := by decide +kernel
theorem dX10_classical_13 : decode cX10_classical 13 = .ok (.ireturn, 1) := by decide +kernel
theorem dX10_against_0 : decode cX10_against 0 = .ok (.aload_n 0, 1) := by decide +kernel
theorem dX10_against_1 : decode cX10_against 1 = .ok (.getfield 86, 3) := by decide +kernel
theorem dX10_against_4 : decode cX10_against 4 = .ok (.aload_n 0, 1) := by decide +kernel
theorem dX10_against_5 : decode cX10_against 5 = .ok (.getfield 23, 3) := by decide +kernel
theorem dX10_against_8 : decode cX10_against 8 = .ok (.aload_n 0, 1) := by decide +kernel
theorem dX10_against_9 : decode cX10_against 9 = .ok (.getfield 105, 3) := by decide +kernel
theorem dX10_against_12 : decode cX10_against 12 = .ok (.invokevirtual 321, 3) := by decide +kernel
theorem dX10_against_15 : decode cX10_against 15 = .ok (.aload_n 0, 1) := by decide +kernel
theorem dX10_against_16 : decode cX10_against 16 = .ok (.getfield 86, 3) := by decide +kernel
theorem dX10_against_19 : decode cX10_against 19 = .ok (.aload_n 0, 1) := by decide +kernel
theorem dX10_against_20 : decode cX10_against 20 = .ok (.getfield 23, 3) := by decide +kernel
theorem dX10_against_23 : decode cX10_against 23 = .ok (.aload_n 0, 1) := by decide +kernel
theorem dX10_against_24 : decode cX10_against 24 = .ok (.getfield 105, 3) := by decide +kernel
theorem dX10_against_27 : decode cX10_against 27 = .ok (.invokevirtual 332, 3) := by decide +kernel
theorem dX10_against_30 : decode cX10_against 30 = .ok (.ireturn, 1) := by decide +kernel
theorem dX10_noSlot_0 : decode cX10_noSlot 0 = .ok (.iload_n 0, 1) := by decide +kernel
theorem dX10_noSlot_1 : decode cX10_noSlot 1 = .ok (.ifCond .lt 8, 3) := by decide +kernel
theorem dX10_noSlot_4 : decode cX10_noSlot 4 = .ok (.iload_n 0, 1) := by decide +kernel
theorem dX10_noSlot_5 : decode cX10_noSlot 5 = .ok (.iconst 4, 1) := by decide +kernel
theorem dX10_noSlot_6 : decode cX10_noSlot 6 = .ok (.if_icmp .lt 7, 3) := by decide +kernel
theorem dX10_noSlot_9 : decode cX10_noSlot 9 = .ok (.iconst 1, 1) := by decide +kernel
theorem dX10_noSlot_10 : decode cX10_noSlot 10 = .ok (.goto 4, 3) := by decide +kernel
theorem dX10_noSlot_13 : decode cX10_noSlot 13 = .ok (.iconst 0, 1) := by decide +kernel
theorem dX10_noSlot_14 : decode cX10_noSlot 14 = .ok (.ireturn, 1) := by decide +kernel
theorem dX10_at_0 : decode cX10_at 0 = .ok (.iload_n 1, 1) := by decide +kernel
theorem dX10_at_1 : decode cX10_at 1 = .ok (.ifCond .lt 15, 3) := by decide +kernel
theorem dX10_at_4 : decode cX10_at 4 = .ok (.iload_n 1, 1) := by decide +kernel
theorem dX10_at_5 : decode cX10_at 5 = .ok (.aload_n 0, 1) := by decide +kernel
theorem dX10_at_6 : decode cX10_at 6 = .ok (.arraylength, 1) := by decide +kernel
theorem dX10_at_7 : decode cX10_at 7 = .ok (.if_icmp .ge 9, 3) := by decide +kernel
theorem dX10_at_10 : decode cX10_at 10 = .ok (.aload_n 0, 1) := by decide +kernel
theorem dX10_at_11 : decode cX10_at 11 = .ok (.iload_n 1, 1) := by decide +kernel
theorem dX10_at_12 : decode cX10_at 12 = .ok (.iaload, 1) := by decide +kernel
theorem dX10_at_13 : decode cX10_at 13 = .ok (.goto 4, 3) := by decide +kernel
theorem dX10_at_16 : decode cX10_at 16 = .ok (.iconst (-1), 1) := by decide +kernel
theorem dX10_at_17 : decode cX10_at 17 = .ok (.ireturn, 1) := by decide +kernel
theorem dX10_nameLetter_0 : decode cX10_nameLetter 0 = .ok (.iload_n 1, 1) := by decide +kernel
theorem dX10_nameLetter_1 : decode cX10_nameLetter 1 = .ok (.ifCond .lt 8, 3) := by decide +kernel
theorem dX10_nameLetter_4 : decode cX10_nameLetter 4 = .ok (.iload_n 1, 1) := by decide +kernel
theorem dX10_nameLetter_5 : decode cX10_nameLetter 5 = .ok (.iconst 3, 1) := by decide +kernel
theorem dX10_nameLetter_6 : decode cX10_nameLetter 6 = .ok (.if_icmp .le 5, 3) := by decide +kernel
theorem dX10_nameLetter_9 : decode cX10_nameLetter 9 = .ok (.iconst (-1), 1) := by decide +kernel
theorem dX10_nameLetter_10 : decode cX10_nameLetter 10 = .ok (.ireturn, 1) := by decide +kernel
theorem dX10_nameLetter_11 : decode cX10_nameLetter 11 = .ok (.iload_n 0, 1) := by decide +kernel
theorem dX10_nameLetter_12 : decode cX10_nameLetter 12 = .ok (.bipush 24, 2) := by decide +kernel
theorem dX10_nameLetter_14 : decode cX10_nameLetter 14 = .ok (.bipush 8, 2) := by decide +kernel
theorem dX10_nameLetter_16 : decode cX10_nameLetter 16 = .ok (.iload_n 1, 1) := by decide +kernel
theorem dX10_nameLetter_17 : decode cX10_nameLetter 17 = .ok (.imul, 1) := by decide +kernel
theorem dX10_nameLetter_18 : decode cX10_nameLetter 18 = .ok (.isub, 1) := by decide +kernel
theorem dX10_nameLetter_19 : decode cX10_nameLetter 19 = .ok (.iushr, 1) := by decide +kernel
theorem dX10_nameLetter_20 : decode cX10_nameLetter 20 = .ok (.sipush 255, 3) := by decide +kernel
theorem dX10_nameLetter_23 : decode cX10_nameLetter 23 = .ok (.iand, 1) := by decide +kernel
theorem dX10_nameLetter_24 : decode cX10_nameLetter 24 = .ok (.istore_n 2, 1) := by decide +kernel
theorem dX10_nameLetter_25 : decode cX10_nameLetter 25 = .ok (.iload_n 2, 1) := by decide +kernel
theorem dX10_nameLetter_26 : decode cX10_nameLetter 26 = .ok (.ifCond .ne 7, 3) := by decide +kernel
theorem dX10_nameLetter_29 : decode cX10_nameLetter 29 = .ok (.iconst (-1), 1) := by decide +kernel
theorem dX10_nameLetter_30 : decode cX10_nameLetter 30 = .ok (.goto 4, 3) := by decide +kernel
theorem dX10_nameLetter_33 : decode cX10_nameLetter 33 = .ok (.iload_n 2, 1) := by decide +kernel
theorem dX10_nameLetter_34 : decode cX10_nameLetter 34 = .ok (.ireturn, 1) := by decide +kernel
theorem dX10_nameLength_0 : decode cX10_nameLength 0 = .ok (.iconst 0, 1) := by decide +kernel
theorem dX10_nameLength_1 : decode cX10_nameLength 1 = .ok (.istore_n 1, 1) := by decide +kernel
theorem dX10_nameLength_2 : decode cX10_nameLength 2 = .ok (.iload_n 0, 1) := by decide +kernel
theorem dX10_nameLength_3 : decode cX10_nameLength 3 = .ok (.istore_n 2, 1) := by decide +kernel
theorem dX10_nameLength_4 : decode cX10_nameLength 4 = .ok (.iload_n 2, 1) := by decide +kernel
theorem dX10_nameLength_5 : decode cX10_nameLength 5 = .ok (.ifCond .eq 19, 3) := by decide +kernel
theorem dX10_nameLength_8 : decode cX10_nameLength 8 = .ok (.iload_n 1, 1) := by decide +kernel
theorem dX10_nameLength_9 : decode cX10_nameLength 9 = .ok (.iconst 4, 1) := by decide +kernel
theorem dX10_nameLength_10 : decode cX10_nameLength 10 = .ok (.if_icmp .ge 14, 3) := by decide +kernel
theorem dX10_nameLength_13 : decode cX10_nameLength 13 = .ok (.iinc 1 1, 3) := by decide +kernel
theorem dX10_nameLength_16 : decode cX10_nameLength 16 = .ok (.iload_n 2, 1) := by decide +kernel
theorem dX10_nameLength_17 : decode cX10_nameLength 17 = .ok (.bipush 8, 2) := by decide +kernel
theorem dX10_nameLength_19 : decode cX10_nameLength 19 = .ok (.ishl, 1) := by decide +kernel
theorem dX10_nameLength_20 : decode cX10_nameLength 20 = .ok (.istore_n 2, 1) := by decide +kernel
theorem dX10_nameLength_21 : decode cX10_nameLength 21 = .ok (.goto (-17), 3) := by decide +kernel
theorem dX10_nameLength_24 : decode cX10_nameLength 24 = .ok (.iload_n 1, 1) := by decide +kernel
theorem dX10_nameLength_25 : decode cX10_nameLength 25 = .ok (.ireturn, 1) := by decide +kernel
theorem dX10_wordLength_0 : decode cX10_wordLength 0 = .ok (.iload_n 0, 1) := by decide +kernel
theorem dX10_wordLength_1 : decode cX10_wordLength 1 = .ok (.ifCond .lt 17, 3) := by decide +kernel
theorem dX10_wordLength_4 : decode cX10_wordLength 4 = .ok (.iload_n 0, 1) := by decide +kernel
theorem dX10_wordLength_5 : decode cX10_wordLength 5 = .ok (.bipush 22, 2) := by decide +kernel
theorem dX10_wordLength_7 : decode cX10_wordLength 7 = .ok (.if_icmp .ge 11, 3) := by decide +kernel
theorem dX10_wordLength_10 : decode cX10_wordLength 10 = .ok (.getstatic 336, 3) := by decide +kernel
theorem dX10_wordLength_13 : decode cX10_wordLength 13 = .ok (.iload_n 0, 1) := by decide +kernel
theorem dX10_wordLength_14 : decode cX10_wordLength 14 = .ok (.iaload, 1) := by decide +kernel
theorem dX10_wordLength_15 : decode cX10_wordLength 15 = .ok (.goto 4, 3) := by decide +kernel
theorem dX10_wordLength_18 : decode cX10_wordLength 18 = .ok (.iconst 0, 1) := by decide +kernel
theorem dX10_wordLength_19 : decode cX10_wordLength 19 = .ok (.ireturn, 1) := by decide +kernel
theorem dX10_wordLetter_0 : decode cX10_wordLetter 0 = .ok (.iload_n 1, 1) := by decide +kernel
theorem dX10_wordLetter_1 : decode cX10_wordLetter 1 = .ok (.ifCond .lt 11, 3) := by decide +kernel
theorem dX10_wordLetter_4 : decode cX10_wordLetter 4 = .ok (.iload_n 1, 1) := by decide +kernel
theorem dX10_wordLetter_5 : decode cX10_wordLetter 5 = .ok (.iload_n 0, 1) := by decide +kernel
theorem dX10_wordLetter_6 : decode cX10_wordLetter 6 = .ok (.invokestatic 339, 3) := by decide +kernel
theorem dX10_wordLetter_9 : decode cX10_wordLetter 9 = .ok (.if_icmp .lt 5, 3) := by decide +kernel
theorem dX10_wordLetter_12 : decode cX10_wordLetter 12 = .ok (.iconst (-1), 1) := by decide +kernel
theorem dX10_wordLetter_13 : decode cX10_wordLetter 13 = .ok (.ireturn, 1) := by decide +kernel
theorem dX10_wordLetter_14 : decode cX10_wordLetter 14 = .ok (.ldc_w 342, 3) := by decide +kernel
theorem dX10_wordLetter_17 : decode cX10_wordLetter 17 = .ok (.iload_n 0, 1) := by decide +kernel
theorem dX10_wordLetter_18 : decode cX10_wordLetter 18 = .ok (.iconst 5, 1) := by decide +kernel
theorem dX10_wordLetter_19 : decode cX10_wordLetter 19 = .ok (.imul, 1) := by decide +kernel
theorem dX10_wordLetter_20 : decode cX10_wordLetter 20 = .ok (.iload_n 1, 1) := by decide +kernel
theorem dX10_wordLetter_21 : decode cX10_wordLetter 21 = .ok (.iadd, 1) := by decide +kernel
theorem dX10_wordLetter_22 : decode cX10_wordLetter 22 = .ok (.invokevirtual 344, 3) := by decide +kernel
theorem dX10_wordLetter_25 : decode cX10_wordLetter 25 = .ok (.ireturn, 1) := by decide +kernel
theorem dX10_arity_0 : decode cX10_arity 0 = .ok (.iload_n 0, 1) := by decide +kernel
theorem dX10_arity_1 : decode cX10_arity 1 = .ok (.ifCond .lt 19, 3) := by decide +kernel
theorem dX10_arity_4 : decode cX10_arity 4 = .ok (.iload_n 0, 1) := by decide +kernel
theorem dX10_arity_5 : decode cX10_arity 5 = .ok (.getstatic 350, 3) := by decide +kernel
theorem dX10_arity_8 : decode cX10_arity 8 = .ok (.arraylength, 1) := by decide +kernel
theorem dX10_arity_9 : decode cX10_arity 9 = .ok (.if_icmp .ge 11, 3) := by decide +kernel
theorem dX10_arity_12 : decode cX10_arity 12 = .ok (.getstatic 350, 3) := by decide +kernel
theorem dX10_arity_15 : decode cX10_arity 15 = .ok (.iload_n 0, 1) := by decide +kernel
theorem dX10_arity_16 : decode cX10_arity 16 = .ok (.iaload, 1) := by decide +kernel
theorem dX10_arity_17 : decode cX10_arity 17 = .ok (.goto 4, 3) := by decide +kernel
theorem dX10_arity_20 : decode cX10_arity 20 = .ok (.iconst 0, 1) := by decide +kernel
theorem dX10_arity_21 : decode cX10_arity 21 = .ok (.ireturn, 1) := by decide +kernel
theorem dX10_tellsFormula_0 : decode cX10_tellsFormula 0 = .ok (.iload_n 0, 1) := by decide +kernel
theorem dX10_tellsFormula_1 : decode cX10_tellsFormula 1 = .ok (.iconst 2, 1) := by decide +kernel
theorem dX10_tellsFormula_2 : decode cX10_tellsFormula 2 = .ok (.if_icmp .eq 21, 3) := by decide +kernel
theorem dX10_tellsFormula_5 : decode cX10_tellsFormula 5 = .ok (.iload_n 0, 1) := by decide +kernel
theorem dX10_tellsFormula_6 : decode cX10_tellsFormula 6 = .ok (.bipush 7, 2) := by decide +kernel
theorem dX10_tellsFormula_8 : decode cX10_tellsFormula 8 = .ok (.if_icmp .eq 15, 3) := by decide +kernel
theorem dX10_tellsFormula_11 : decode cX10_tellsFormula 11 = .ok (.iload_n 0, 1) := by decide +kernel
theorem dX10_tellsFormula_12 : decode cX10_tellsFormula 12 = .ok (.bipush 8, 2) := by decide +kernel
theorem dX10_tellsFormula_14 : decode cX10_tellsFormula 14 = .ok (.if_icmp .eq 9, 3) := by decide +kernel
theorem dX10_tellsFormula_17 : decode cX10_tellsFormula 17 = .ok (.iload_n 0, 1) := by decide +kernel
theorem dX10_tellsFormula_18 : decode cX10_tellsFormula 18 = .ok (.bipush 10, 2) := by decide +kernel
theorem dX10_tellsFormula_20 : decode cX10_tellsFormula 20 = .ok (.if_icmp .ne 7, 3) := by decide +kernel
theorem dX10_tellsFormula_23 : decode cX10_tellsFormula 23 = .ok (.iconst 1, 1) := by decide +kernel
theorem dX10_tellsFormula_24 : decode cX10_tellsFormula 24 = .ok (.goto 4, 3) := by decide +kernel
theorem dX10_tellsFormula_27 : decode cX10_tellsFormula 27 = .ok (.iconst 0, 1) := by decide +kernel
theorem dX10_tellsFormula_28 : decode cX10_tellsFormula 28 = .ok (.ireturn, 1) := by decide +kernel
