theorem dX3_init_0 : decode cX3_init 0 = .ok (.aload_n 0, 1) := by decide +kernel
theorem dX3_init_1 : decode cX3_init 1 = .ok (.invokespecial 3, 3) := by decide +kernel
theorem dX3_init_4 : decode cX3_init 4 = .ok (.aload_n 0, 1) := by decide +kernel
theorem dX3_init_5 : decode cX3_init 5 = .ok (.sipush 200, 3) := by decide +kernel
theorem dX3_init_8 : decode cX3_init 8 = .ok (.newarray .int, 2) := by decide +kernel
theorem dX3_init_10 : decode cX3_init 10 = .ok (.putfield 9, 3) := by decide +kernel
theorem dX3_init_13 : decode cX3_init 13 = .ok (.aload_n 0, 1) := by decide +kernel
theorem dX3_init_14 : decode cX3_init 14 = .ok (.sipush 200, 3) := by decide +kernel
theorem dX3_init_17 : decode cX3_init 17 = .ok (.newarray .int, 2) := by decide +kernel
theorem dX3_init_19 : decode cX3_init 19 = .ok (.putfield 15, 3) := by decide +kernel
theorem dX3_init_22 : decode cX3_init 22 = .ok (.aload_n 0, 1) := by decide +kernel
theorem dX3_init_23 : decode cX3_init 23 = .ok (.sipush 200, 3) := by decide +kernel
theorem dX3_init_26 : decode cX3_init 26 = .ok (.newarray .int, 2) := by decide +kernel
theorem dX3_init_28 : decode cX3_init 28 = .ok (.putfield 18, 3) := by decide +kernel
theorem dX3_init_31 : decode cX3_init 31 = .ok (.aload_n 0, 1) := by decide +kernel
theorem dX3_init_32 : decode cX3_init 32 = .ok (.sipush 200, 3) := by decide +kernel
theorem dX3_init_35 : decode cX3_init 35 = .ok (.newarray .int, 2) := by decide +kernel
theorem dX3_init_37 : decode cX3_init 37 = .ok (.putfield 21, 3) := by decide +kernel
theorem dX3_init_40 : decode cX3_init 40 = .ok (.aload_n 0, 1) := by decide +kernel
theorem dX3_init_41 : decode cX3_init 41 = .ok (.sipush 200, 3) := by decide +kernel
theorem dX3_init_44 : decode cX3_init 44 = .ok (.newarray .int, 2) := by decide +kernel
theorem dX3_init_46 : decode cX3_init 46 = .ok (.putfield 24, 3) := by decide +kernel
theorem dX3_init_49 : decode cX3_init 49 = .ok (.aload_n 0, 1) := by decide +kernel
theorem dX3_init_50 : decode cX3_init 50 = .ok (.sipush 200, 3) := by decide +kernel
theorem dX3_init_53 : decode cX3_init 53 = .ok (.newarray .int, 2) := by decide +kernel
theorem dX3_init_55 : decode cX3_init 55 = .ok (.putfield 27, 3) := by decide +kernel
theorem dX3_init_58 : decode cX3_init 58 = .ok (.aload_n 0, 1) := by decide +kernel
theorem dX3_init_59 : decode cX3_init 59 = .ok (.sipush 200, 3) := by decide +kernel
theorem dX3_init_62 : decode cX3_init 62 = .ok (.newarray .int, 2) := by decide +kernel
theorem dX3_init_64 : decode cX3_init 64 = .ok (.putfield 30, 3) := by decide +kernel
theorem dX3_init_67 : decode cX3_init 67 = .ok (.aload_n 0, 1) := by decide +kernel
theorem dX3_init_68 : decode cX3_init 68 = .ok (.sipush 200, 3) := by decide +kernel
theorem dX3_init_71 : decode cX3_init 71 = .ok (.newarray .int, 2) := by decide +kernel
theorem dX3_init_73 : decode cX3_init 73 = .ok (.putfield 33, 3) := by decide +kernel
theorem dX3_init_76 : decode cX3_init 76 = .ok (.aload_n 0, 1) := by decide +kernel
theorem dX3_init_77 : decode cX3_init 77 = .ok (.sipush 400, 3) := by decide +kernel
theorem dX3_init_80 : decode cX3_init 80 = .ok (.newarray .int, 2) := by decide +kernel
theorem dX3_init_82 : decode cX3_init 82 = .ok (.putfield 36, 3) := by decide +kernel
theorem dX3_init_85 : decode cX3_init 85 = .ok (.aload_n 0, 1) := by decide +kernel
theorem dX3_init_86 : decode cX3_init 86 = .ok (.aload_n 1, 1) := by decide +kernel
theorem dX3_init_87 : decode cX3_init 87 = .ok (.putfield 39, 3) := by decide +kernel
theorem dX3_init_90 : decode cX3_init 90 = .ok (.aload_n 0, 1) := by decide +kernel
theorem dX3_init_91 : decode cX3_init 91 = .ok (.aload_n 2, 1) := by decide +kernel
theorem dX3_init_92 : decode cX3_init 92 = .ok (.putfield 43, 3) := by decide +kernel
theorem dX3_init_95 : decode cX3_init 95 = .ok (.aload_n 0, 1) := by decide +kernel
theorem dX3_init_96 : decode cX3_init 96 = .ok (.new 47, 3) := by decide +kernel
theorem dX3_init_99 : decode cX3_init 99 = .ok (.dup, 1) := by decide +kernel
theorem dX3_init_100 : decode cX3_init 100 = .ok (.invokespecial 49, 3) := by decide +kernel
theorem dX3_init_103 : decode cX3_init 103 = .ok (.putfield 50, 3) := by decide +kernel
theorem dX3_init_106 : decode cX3_init 106 = .ok (.return_, 1) := by decide +kernel
theorem dX3_arrange_0 : decode cX3_arrange 0 = .ok (.aload_n 0, 1) := by decide +kernel
theorem dX3_arrange_1 : decode cX3_arrange 1 = .ok (.aload_n 1, 1) := by decide +kernel
theorem dX3_arrange_2 : decode cX3_arrange 2 = .ok (.putfield 50, 3) := by decide +kernel
theorem dX3_arrange_5 : decode cX3_arrange 5 = .ok (.aload_n 0, 1) := by decide +kernel
theorem dX3_arrange_6 : decode cX3_arrange 6 = .ok (.getfield 50, 3) := by decide +kernel
theorem dX3_arrange_9 : decode cX3_arrange 9 = .ok (.getfield 54, 3) := by decide +kernel
theorem dX3_arrange_12 : decode cX3_arrange 12 = .ok (.iconst 1, 1) := by decide +kernel
theorem dX3_arrange_13 : decode cX3_arrange 13 = .ok (.isub, 1) := by decide +kernel
theorem dX3_arrange_14 : decode cX3_arrange 14 = .ok (.istore_n 2, 1) := by decide +kernel
theorem dX3_arrange_15 : decode cX3_arrange 15 = .ok (.iload_n 2, 1) := by decide +kernel
theorem dX3_arrange_16 : decode cX3_arrange 16 = .ok (.ifCond .lt 57, 3) := by decide +kernel
theorem dX3_arrange_19 : decode cX3_arrange 19 = .ok (.iload_n 2, 1) := by decide +kernel
theorem dX3_arrange_20 : decode cX3_arrange 20 = .ok (.sipush 200, 3) := by decide +kernel
theorem dX3_arrange_23 : decode cX3_arrange 23 = .ok (.if_icmp .ge 50, 3) := by decide +kernel
theorem dX3_arrange_26 : decode cX3_arrange 26 = .ok (.iload_n 2, 1) := by decide +kernel
theorem dX3_arrange_27 : decode cX3_arrange 27 = .ok (.iconst 1, 1) := by decide +kernel
theorem dX3_arrange_28 : decode cX3_arrange 28 = .ok (.iadd, 1) := by decide +kernel
theorem dX3_arrange_29 : decode cX3_arrange 29 = .ok (.istore_n 3, 1) := by decide +kernel
theorem dX3_arrange_30 : decode cX3_arrange 30 = .ok (.aload_n 0, 1) := by decide +kernel
theorem dX3_arrange_31 : decode cX3_arrange 31 = .ok (.getfield 50, 3) := by decide +kernel
theorem dX3_arrange_34 : decode cX3_arrange 34 = .ok (.iload_n 2, 1) := by decide +kernel
theorem dX3_arrange_35 : decode cX3_arrange 35 = .ok (.invokevirtual 58, 3) := by decide +kernel
theorem dX3_arrange_38 : decode cX3_arrange 38 = .ok (.invokestatic 62, 3) := by decide +kernel
theorem dX3_arrange_41 : decode cX3_arrange 41 = .ok (.istore 4, 2) := by decide +kernel
theorem dX3_arrange_43 : decode cX3_arrange 43 = .ok (.iload 4, 2) := by decide +kernel
theorem dX3_arrange_45 : decode cX3_arrange 45 = .ok (.ifCond .le 15, 3) := by decide +kernel
theorem dX3_arrange_48 : decode cX3_arrange 48 = .ok (.aload_n 0, 1) := by decide +kernel
theorem dX3_arrange_49 : decode cX3_arrange 49 = .ok (.iload_n 3, 1) := by decide +kernel
theorem dX3_arrange_50 : decode cX3_arrange 50 = .ok (.invokevirtual 65, 3) := by decide +kernel
theorem dX3_arrange_53 : decode cX3_arrange 53 = .ok (.istore_n 3, 1) := by decide +kernel
theorem dX3_arrange_54 : decode cX3_arrange 54 = .ok (.iinc 4 (-1), 3) := by decide +kernel
theorem dX3_arrange_57 : decode cX3_arrange 57 = .ok (.goto (-14), 3) := by decide +kernel
theorem dX3_arrange_60 : decode cX3_arrange 60 = .ok (.aload_n 0, 1) := by decide +kernel
theorem dX3_arrange_61 : decode cX3_arrange 61 = .ok (.getfield 9, 3) := by decide +kernel
theorem dX3_arrange_64 : decode cX3_arrange 64 = .ok (.iload_n 2, 1) := by decide +kernel
theorem dX3_arrange_65 : decode cX3_arrange 65 = .ok (.iload_n 3, 1) := by decide +kernel
theorem dX3_arrange_66 : decode cX3_arrange 66 = .ok (.iastore, 1) := by decide +kernel
theorem dX3_arrange_67 : decode cX3_arrange 67 = .ok (.iinc 2 (-1), 3) := by decide +kernel
theorem dX3_arrange_70 : decode cX3_arrange 70 = .ok (.goto (-55), 3) := by decide +kernel
theorem dX3_arrange_73 : decode cX3_arrange 73 = .ok (.aload_n 0, 1) := by decide +kernel
theorem dX3_arrange_74 : decode cX3_arrange 74 = .ok (.getfield 18, 3) := by decide +kernel
theorem dX3_arrange_77 : decode cX3_arrange 77 = .ok (.iconst 0, 1) := by decide +kernel
theorem dX3_arrange_78 : decode cX3_arrange 78 = .ok (.iconst (-1), 1) := by decide +kernel
theorem dX3_arrange_79 : decode cX3_arrange 79 = .ok (.iastore, 1) := by decide +kernel
theorem dX3_arrange_80 : decode cX3_arrange 80 = .ok (.aload_n 0, 1) := by decide +kernel
theorem dX3_arrange_81 : decode cX3_arrange 81 = .ok (.getfield 21, 3) := by decide +kernel
theorem dX3_arrange_84 : decode cX3_arrange 84 = .ok (.iconst 0, 1) := by decide +kernel
theorem dX3_arrange_85 : decode cX3_arrange 85 = .ok (.iconst 0, 1) := by decide +kernel
theorem dX3_arrange_86 : decode cX3_arrange 86 = .ok (.iastore, 1) := by decide +kernel
theorem dX3_arrange_87 : decode cX3_arrange 87 = .ok (.aload_n 0, 1) := by decide +kernel
theorem dX3_arrange_88 : decode cX3_arrange 88 = .ok (.getfield 24, 3) := by decide +kernel
theorem dX3_arrange_91 : decode cX3_arrange 91 = .ok (.iconst 0, 1) := by decide +kernel
theorem dX3_arrange_92 : decode cX3_arrange 92 = .ok (.iconst 1, 1) := by decide +kernel
theorem dX3_arrange_93 : decode cX3_arrange 93 = .ok (.iastore, 1) := by decide +kernel
theorem dX3_arrange_94 : decode cX3_arrange 94 = .ok (.aload_n 0, 1) := by decide +kernel
theorem dX3_arrange_95 : decode cX3_arrange 95 = .ok (.getfield 15, 3) := by decide +kernel
theorem dX3_arrange_98 : decode cX3_arrange 98 = .ok (.iconst 0, 1) := by decide +kernel
theorem dX3_arrange_99 : decode cX3_arrange 99 = .ok (.iconst 0, 1) := by decide +kernel
theorem dX3_arrange_100 : decode cX3_arrange 100 = .ok (.iastore, 1) := by decide +kernel
theorem dX3_arrange_101 : decode cX3_arrange 101 = .ok (.aload_n 0, 1) := by decide +kernel
theorem dX3_arrange_102 : decode cX3_arrange 102 = .ok (.iconst 0, 1) := by decide +kernel
theorem dX3_arrange_103 : decode cX3_arrange 103 = .ok (.putfield 68, 3) := by decide +kernel
theorem dX3_arrange_106 : decode cX3_arrange 106 = .ok (.iconst 0, 1) := by decide +kernel
theorem dX3_arrange_107 : decode cX3_arrange 107 = .ok (.istore_n 2, 1) := by decide +kernel
theorem dX3_arrange_108 : decode cX3_arrange 108 = .ok (.iload_n 2, 1) := by decide +kernel
theorem dX3_arrange_109 : decode cX3_arrange 109 = .ok (.aload_n 0, 1) := by decide +kernel
theorem dX3_arrange_110 : decode cX3_arrange 110 = .ok (.getfield 50, 3) := by decide +kernel
theorem dX3_arrange_113 : decode cX3_arrange 113 = .ok (.getfield 54, 3) := by decide +kernel
theorem dX3_arrange_116 : decode cX3_arrange 116 = .ok (.if_icmp .ge 45, 3) := by decide +kernel
theorem dX3_arrange_119 : decode cX3_arrange 119 = .ok (.iload_n 2, 1) := by decide +kernel
theorem dX3_arrange_120 : decode cX3_arrange 120 = .ok (.sipush 200, 3) := by decide +kernel
theorem dX3_arrange_123 : decode cX3_arrange 123 = .ok (.if_icmp .ge 38, 3) := by decide +kernel
theorem dX3_arrange_126 : decode cX3_arrange 126 = .ok (.aload_n 0, 1) := by decide +kernel
theorem dX3_arrange_127 : decode cX3_arrange 127 = .ok (.iload_n 2, 1) := by decide +kernel
theorem dX3_arrange_128 : decode cX3_arrange 128 = .ok (.invokevirtual 71, 3) := by decide +kernel
theorem dX3_arrange_131 : decode cX3_arrange 131 = .ok (.aload_n 0, 1) := by decide +kernel
theorem dX3_arrange_132 : decode cX3_arrange 132 = .ok (.iload_n 2, 1) := by decide +kernel
theorem dX3_arrange_133 : decode cX3_arrange 133 = .ok (.invokevirtual 75, 3) := by decide +kernel
theorem dX3_arrange_136 : decode cX3_arrange 136 = .ok (.aload_n 0, 1) := by decide +kernel
theorem dX3_arrange_137 : decode cX3_arrange 137 = .ok (.getfield 50, 3) := by decide +kernel
theorem dX3_arrange_140 : decode cX3_arrange 140 = .ok (.iload_n 2, 1) := by decide +kernel
theorem dX3_arrange_141 : decode cX3_arrange 141 = .ok (.invokevirtual 58, 3) := by decide +kernel
theorem dX3_arrange_144 : decode cX3_arrange 144 = .ok (.invokestatic 62, 3) := by decide +kernel
theorem dX3_arrange_147 : decode cX3_arrange 147 = .ok (.ifCond .ne 8, 3) := by decide +kernel
theorem dX3_arrange_150 : decode cX3_arrange 150 = .ok (.aload_n 0, 1) := by decide +kernel
theorem dX3_arrange_151 : decode cX3_arrange 151 = .ok (.iload_n 2, 1) := by decide +kernel
theorem dX3_arrange_152 : decode cX3_arrange 152 = .ok (.invokevirtual 78, 3) := by decide +kernel
theorem dX3_arrange_155 : decode cX3_arrange 155 = .ok (.iinc 2 1, 3) := by decide +kernel
theorem dX3_arrange_158 : decode cX3_arrange 158 = .ok (.goto (-50), 3) := by decide +kernel
theorem dX3_arrange_161 : decode cX3_arrange 161 = .ok (.return_, 1) := by decide +kernel
theorem dX3_placeChildren_0 : decode cX3_placeChildren 0 = .ok (.aload_n 0, 1) := by decide +kernel
theorem dX3_placeChildren_1 : decode cX3_placeChildren 1 = .ok (.getfield 50, 3) := by decide +kernel
theorem dX3_placeChildren_4 : decode cX3_placeChildren 4 = .ok (.iload_n 1, 1) := by decide +kernel
theorem dX3_placeChildren_5 : decode cX3_placeChildren 5 = .ok (.invokevirtual 58, 3) := by decide +kernel
theorem dX3_placeChildren_8 : decode cX3_placeChildren 8 = .ok (.istore_n 2, 1) := by decide +kernel
theorem dX3_placeChildren_9 : decode cX3_placeChildren 9 = .ok (.iload_n 1, 1) := by decide +kernel
theorem dX3_placeChildren_10 : decode cX3_placeChildren 10 = .ok (.iconst 1, 1) := by decide +kernel
theorem dX3_placeChildren_11 : decode cX3_placeChildren 11 = .ok (.iadd, 1) := by decide +kernel
theorem dX3_placeChildren_12 : decode cX3_placeChildren 12 = .ok (.istore_n 3, 1) := by decide +kernel
theorem dX3_placeChildren_13 : decode cX3_placeChildren 13 = .ok (.iconst 0, 1) := by decide +kernel
theorem dX3_placeChildren_14 : decode cX3_placeChildren 14 = .ok (.istore 4, 2) := by decide +kernel
theorem dX3_placeChildren_16 : decode cX3_placeChildren 16 = .ok (.iload 4, 2) := by decide +kernel
theorem dX3_placeChildren_18 : decode cX3_placeChildren 18 = .ok (.iload_n 2, 1) := by decide +kernel
theorem dX3_placeChildren_19 : decode cX3_placeChildren 19 = .ok (.invokestatic 62, 3) := by decide +kernel
theorem dX3_placeChildren_22 : decode cX3_placeChildren 22 = .ok (.if_icmp .ge 79, 3) := by decide +kernel
theorem dX3_placeChildren_25 : decode cX3_placeChildren 25 = .ok (.iload_n 3, 1) := by decide +kernel
theorem dX3_placeChildren_26 : decode cX3_placeChildren 26 = .ok (.ifCond .lt 75, 3) := by decide +kernel
theorem dX3_placeChildren_29 : decode cX3_placeChildren 29 = .ok (.iload_n 3, 1) := by decide +kernel
theorem dX3_placeChildren_30 : decode cX3_placeChildren 30 = .ok (.sipush 200, 3) := by decide +kernel
theorem dX3_placeChildren_33 : decode cX3_placeChildren 33 = .ok (.if_icmp .ge 68, 3) := by decide +kernel
theorem dX3_placeChildren_36 : decode cX3_placeChildren 36 = .ok (.aload_n 0, 1) := by decide +kernel
theorem dX3_placeChildren_37 : decode cX3_placeChildren 37 = .ok (.getfield 18, 3) := by decide +kernel
theorem dX3_placeChildren_40 : decode cX3_placeChildren 40 = .ok (.iload_n 3, 1) := by decide +kernel
theorem dX3_placeChildren_41 : decode cX3_placeChildren 41 = .ok (.iload_n 1, 1) := by decide +kernel
theorem dX3_placeChildren_42 : decode cX3_placeChildren 42 = .ok (.iastore, 1) := by decide +kernel
theorem dX3_placeChildren_43 : decode cX3_placeChildren 43 = .ok (.aload_n 0, 1) := by decide +kernel
theorem dX3_placeChildren_44 : decode cX3_placeChildren 44 = .ok (.getfield 21, 3) := by decide +kernel
theorem dX3_placeChildren_47 : decode cX3_placeChildren 47 = .ok (.iload_n 3, 1) := by decide +kernel
theorem dX3_placeChildren_48 : decode cX3_placeChildren 48 = .ok (.iload 4, 2) := by decide +kernel
theorem dX3_placeChildren_50 : decode cX3_placeChildren 50 = .ok (.iastore, 1) := by decide +kernel
theorem dX3_placeChildren_51 : decode cX3_placeChildren 51 = .ok (.aload_n 0, 1) := by decide +kernel
theorem dX3_placeChildren_52 : decode cX3_placeChildren 52 = .ok (.getfield 24, 3) := by decide +kernel
theorem dX3_placeChildren_55 : decode cX3_placeChildren 55 = .ok (.iload_n 3, 1) := by decide +kernel
theorem dX3_placeChildren_56 : decode cX3_placeChildren 56 = .ok (.aload_n 0, 1) := by decide +kernel
theorem dX3_placeChildren_57 : decode cX3_placeChildren 57 = .ok (.iload_n 1, 1) := by decide +kernel
theorem dX3_placeChildren_58 : decode cX3_placeChildren 58 = .ok (.invokevirtual 81, 3) := by decide +kernel
theorem dX3_placeChildren_61 : decode cX3_placeChildren 61 = .ok (.iconst 1, 1) := by decide +kernel
theorem dX3_placeChildren_62 : decode cX3_placeChildren 62 = .ok (.iadd, 1) := by decide +kernel
theorem dX3_placeChildren_63 : decode cX3_placeChildren 63 = .ok (.iastore, 1) := by decide +kernel
theorem dX3_placeChildren_64 : decode cX3_placeChildren 64 = .ok (.aload_n 0, 1) := by decide +kernel
theorem dX3_placeChildren_65 : decode cX3_placeChildren 65 = .ok (.getfield 15, 3) := by decide +kernel
theorem dX3_placeChildren_68 : decode cX3_placeChildren 68 = .ok (.iload_n 3, 1) := by decide +kernel
theorem dX3_placeChildren_69 : decode cX3_placeChildren 69 = .ok (.aload_n 0, 1) := by decide +kernel
theorem dX3_placeChildren_70 : decode cX3_placeChildren 70 = .ok (.iload_n 1, 1) := by decide +kernel
theorem dX3_placeChildren_71 : decode cX3_placeChildren 71 = .ok (.invokevirtual 84, 3) := by decide +kernel
theorem dX3_placeChildren_74 : decode cX3_placeChildren 74 = .ok (.aload_n 0, 1) := by decide +kernel
theorem dX3_placeChildren_75 : decode cX3_placeChildren 75 = .ok (.iload_n 3, 1) := by decide +kernel
theorem dX3_placeChildren_76 : decode cX3_placeChildren 76 = .ok (.invokevirtual 87, 3) := by decide +kernel
theorem dX3_placeChildren_79 : decode cX3_placeChildren 79 = .ok (.ifCond .eq 7, 3) := by decide +kernel
theorem dX3_placeChildren_82 : decode cX3_placeChildren 82 = .ok (.iconst 1, 1) := by decide +kernel
theorem dX3_placeChildren_83 : decode cX3_placeChildren 83 = .ok (.goto 4, 3) := by decide +kernel
theorem dX3_placeChildren_86 : decode cX3_placeChildren 86 = .ok (.iconst 0, 1) := by decide +kernel
theorem dX3_placeChildren_87 : decode cX3_placeChildren 87 = .ok (.iadd, 1) := by decide +kernel
theorem dX3_placeChildren_88 : decode cX3_placeChildren 88 = .ok (.iastore, 1) := by decide +kernel
theorem dX3_placeChildren_89 : decode cX3_placeChildren 89 = .ok (.aload_n 0, 1) := by decide +kernel
theorem dX3_placeChildren_90 : decode cX3_placeChildren 90 = .ok (.iload_n 3, 1) := by decide +kernel
theorem dX3_placeChildren_91 : decode cX3_placeChildren 91 = .ok (.invokevirtual 65, 3) := by decide +kernel
theorem dX3_placeChildren_94 : decode cX3_placeChildren 94 = .ok (.istore_n 3, 1) := by decide +kernel
theorem dX3_placeChildren_95 : decode cX3_placeChildren 95 = .ok (.iinc 4 1, 3) := by decide +kernel
theorem dX3_placeChildren_98 : decode cX3_placeChildren 98 = .ok (.goto (-82), 3) := by decide +kernel
theorem dX3_placeChildren_101 : decode cX3_placeChildren 101 = .ok (.return_, 1) := by decide +kernel
theorem dX3_bind_0 : decode cX3_bind 0 = .ok (.iload_n 1, 1) := by decide +kernel
theorem dX3_bind_1 : decode cX3_bind 1 = .ok (.ifCond .lt 10, 3) := by decide +kernel
theorem dX3_bind_4 : decode cX3_bind 4 = .ok (.iload_n 1, 1) := by decide +kernel
theorem dX3_bind_5 : decode cX3_bind 5 = .ok (.sipush 200, 3) := by decide +kernel
theorem dX3_bind_8 : decode cX3_bind 8 = .ok (.if_icmp .lt 4, 3) := by decide +kernel
theorem dX3_bind_11 : decode cX3_bind 11 = .ok (.return_, 1) := by decide +kernel
theorem dX3_bind_12 : decode cX3_bind 12 = .ok (.aload_n 0, 1) := by decide +kernel
theorem dX3_bind_13 : decode cX3_bind 13 = .ok (.getfield 15, 3) := by decide +kernel
theorem dX3_bind_16 : decode cX3_bind 16 = .ok (.iload_n 1, 1) := by decide +kernel
theorem dX3_bind_17 : decode cX3_bind 17 = .ok (.iaload, 1) := by decide +kernel
theorem dX3_bind_18 : decode cX3_bind 18 = .ok (.iconst 1, 1) := by decide +kernel
theorem dX3_bind_19 : decode cX3_bind 19 = .ok (.isub, 1) := by decide +kernel
theorem dX3_bind_20 : decode cX3_bind 20 = .ok (.istore_n 2, 1) := by decide +kernel
theorem dX3_bind_21 : decode cX3_bind 21 = .ok (.aload_n 0, 1) := by decide +kernel
theorem dX3_bind_22 : decode cX3_bind 22 = .ok (.iload_n 1, 1) := by decide +kernel
theorem dX3_bind_23 : decode cX3_bind 23 = .ok (.invokevirtual 87, 3) := by decide +kernel
theorem dX3_bind_26 : decode cX3_bind 26 = .ok (.ifCond .eq 28, 3) := by decide +kernel
theorem dX3_bind_29 : decode cX3_bind 29 = .ok (.iload_n 2, 1) := by decide +kernel
theorem dX3_bind_30 : decode cX3_bind 30 = .ok (.ifCond .lt 24, 3) := by decide +kernel
theorem dX3_bind_33 : decode cX3_bind 33 = .ok (.iload_n 2, 1) := by decide +kernel
theorem dX3_bind_34 : decode cX3_bind 34 = .ok (.sipush 200, 3) := by decide +kernel
theorem dX3_bind_37 : decode cX3_bind 37 = .ok (.if_icmp .ge 17, 3) := by decide +kernel
theorem dX3_bind_40 : decode cX3_bind 40 = .ok (.aload_n 0, 1) := by decide +kernel
theorem dX3_bind_41 : decode cX3_bind 41 = .ok (.getfield 30, 3) := by decide +kernel
theorem dX3_bind_44 : decode cX3_bind 44 = .ok (.iload_n 2, 1) := by decide +kernel
theorem dX3_bind_45 : decode cX3_bind 45 = .ok (.iload_n 1, 1) := by decide +kernel
theorem dX3_bind_46 : decode cX3_bind 46 = .ok (.iastore, 1) := by decide +kernel
theorem dX3_bind_47 : decode cX3_bind 47 = .ok (.aload_n 0, 1) := by decide +kernel
theorem dX3_bind_48 : decode cX3_bind 48 = .ok (.iconst (-1), 1) := by decide +kernel
theorem dX3_bind_49 : decode cX3_bind 49 = .ok (.iload_n 1, 1) := by decide +kernel
theorem dX3_bind_50 : decode cX3_bind 50 = .ok (.isub, 1) := by decide +kernel
theorem dX3_bind_51 : decode cX3_bind 51 = .ok (.invokevirtual 91, 3) := by decide +kernel
theorem dX3_bind_54 : decode cX3_bind 54 = .ok (.aload_n 0, 1) := by decide +kernel
theorem dX3_bind_55 : decode cX3_bind 55 = .ok (.getfield 27, 3) := by decide +kernel
theorem dX3_bind_58 : decode cX3_bind 58 = .ok (.iload_n 1, 1) := by decide +kernel
theorem dX3_bind_59 : decode cX3_bind 59 = .ok (.aload_n 0, 1) := by decide +kernel
theorem dX3_bind_60 : decode cX3_bind 60 = .ok (.getfield 50, 3) := by decide +kernel
theorem dX3_bind_63 : decode cX3_bind 63 = .ok (.iload_n 1, 1) := by decide +kernel
theorem dX3_bind_64 : decode cX3_bind 64 = .ok (.invokevirtual 58, 3) := by decide +kernel
theorem dX3_bind_67 : decode cX3_bind 67 = .ok (.iconst 1, 1) := by decide +kernel
theorem dX3_bind_68 : decode cX3_bind 68 = .ok (.if_icmp .ne 21, 3) := by decide +kernel
theorem dX3_bind_71 : decode cX3_bind 71 = .ok (.aload_n 0, 1) := by decide +kernel
theorem dX3_bind_72 : decode cX3_bind 72 = .ok (.getfield 30, 3) := by decide +kernel
theorem dX3_bind_75 : decode cX3_bind 75 = .ok (.aload_n 0, 1) := by decide +kernel
theorem dX3_bind_76 : decode cX3_bind 76 = .ok (.getfield 50, 3) := by decide +kernel
theorem dX3_bind_79 : decode cX3_bind 79 = .ok (.iload_n 1, 1) := by decide +kernel
theorem dX3_bind_80 : decode cX3_bind 80 = .ok (.invokevirtual 94, 3) := by decide +kernel
theorem dX3_bind_83 : decode cX3_bind 83 = .ok (.invokestatic 97, 3) := by decide +kernel
theorem dX3_bind_86 : decode cX3_bind 86 = .ok (.goto 4, 3) := by decide +kernel
theorem dX3_bind_89 : decode cX3_bind 89 = .ok (.iconst (-1), 1) := by decide +kernel
theorem dX3_bind_90 : decode cX3_bind 90 = .ok (.iastore, 1) := by decide +kernel
theorem dX3_bind_91 : decode cX3_bind 91 = .ok (.return_, 1) := by decide +kernel
theorem dX3_walkOut_0 : decode cX3_walkOut 0 = .ok (.iload_n 1, 1) := by decide +kernel
theorem dX3_walkOut_1 : decode cX3_walkOut 1 = .ok (.istore_n 2, 1) := by decide +kernel
theorem dX3_walkOut_2 : decode cX3_walkOut 2 = .ok (.aload_n 0, 1) := by decide +kernel
theorem dX3_walkOut_3 : decode cX3_walkOut 3 = .ok (.iload_n 2, 1) := by decide +kernel
theorem dX3_walkOut_4 : decode cX3_walkOut 4 = .ok (.invokevirtual 91, 3) := by decide +kernel
theorem dX3_walkOut_7 : decode cX3_walkOut 7 = .ok (.iconst 0, 1) := by decide +kernel
theorem dX3_walkOut_8 : decode cX3_walkOut 8 = .ok (.istore_n 3, 1) := by decide +kernel
theorem dX3_walkOut_9 : decode cX3_walkOut 9 = .ok (.iload_n 3, 1) := by decide +kernel
theorem dX3_walkOut_10 : decode cX3_walkOut 10 = .ok (.sipush 200, 3) := by decide +kernel
theorem dX3_walkOut_13 : decode cX3_walkOut 13 = .ok (.if_icmp .ge 45, 3) := by decide +kernel
theorem dX3_walkOut_16 : decode cX3_walkOut 16 = .ok (.aload_n 0, 1) := by decide +kernel
theorem dX3_walkOut_17 : decode cX3_walkOut 17 = .ok (.iload_n 2, 1) := by decide +kernel
theorem dX3_walkOut_18 : decode cX3_walkOut 18 = .ok (.invokevirtual 101, 3) := by decide +kernel
theorem dX3_walkOut_21 : decode cX3_walkOut 21 = .ok (.istore 4, 2) := by decide +kernel
theorem dX3_walkOut_23 : decode cX3_walkOut 23 = .ok (.iload 4, 2) := by decide +kernel
theorem dX3_walkOut_25 : decode cX3_walkOut 25 = .ok (.iconst (-1), 1) := by decide +kernel
theorem dX3_walkOut_26 : decode cX3_walkOut 26 = .ok (.if_icmp .eq 17, 3) := by decide +kernel
theorem dX3_walkOut_29 : decode cX3_walkOut 29 = .ok (.aload_n 0, 1) := by decide +kernel
theorem dX3_walkOut_30 : decode cX3_walkOut 30 = .ok (.iload 4, 2) := by decide +kernel
theorem dX3_walkOut_32 : decode cX3_walkOut 32 = .ok (.invokevirtual 65, 3) := by decide +kernel
theorem dX3_walkOut_35 : decode cX3_walkOut 35 = .ok (.aload_n 0, 1) := by decide +kernel
theorem dX3_walkOut_36 : decode cX3_walkOut 36 = .ok (.iload_n 2, 1) := by decide +kernel
theorem dX3_walkOut_37 : decode cX3_walkOut 37 = .ok (.invokevirtual 65, 3) := by decide +kernel
theorem dX3_walkOut_40 : decode cX3_walkOut 40 = .ok (.if_icmp .eq 4, 3) := by decide +kernel
theorem dX3_walkOut_43 : decode cX3_walkOut 43 = .ok (.return_, 1) := by decide +kernel
theorem dX3_walkOut_44 : decode cX3_walkOut 44 = .ok (.iload 4, 2) := by decide +kernel
theorem dX3_walkOut_46 : decode cX3_walkOut 46 = .ok (.istore_n 2, 1) := by decide +kernel
theorem dX3_walkOut_47 : decode cX3_walkOut 47 = .ok (.aload_n 0, 1) := by decide +kernel
theorem dX3_walkOut_48 : decode cX3_walkOut 48 = .ok (.iload_n 2, 1) := by decide +kernel
theorem dX3_walkOut_49 : decode cX3_walkOut 49 = .ok (.invokevirtual 91, 3) := by decide +kernel
theorem dX3_walkOut_52 : decode cX3_walkOut 52 = .ok (.iinc 3 1, 3) := by decide +kernel
theorem dX3_walkOut_55 : decode cX3_walkOut 55 = .ok (.goto (-46), 3) := by decide +kernel
theorem dX3_walkOut_58 : decode cX3_walkOut 58 = .ok (.return_, 1) := by decide +kernel
theorem dX3_addToWalk_0 : decode cX3_addToWalk 0 = .ok (.aload_n 0, 1) := by decide +kernel
theorem dX3_addToWalk_1 : decode cX3_addToWalk 1 = .ok (.getfield 68, 3) := by decide +kernel
theorem dX3_addToWalk_4 : decode cX3_addToWalk 4 = .ok (.ifCond .lt 35, 3) := by decide +kernel
theorem dX3_addToWalk_7 : decode cX3_addToWalk 7 = .ok (.aload_n 0, 1) := by decide +kernel
theorem dX3_addToWalk_8 : decode cX3_addToWalk 8 = .ok (.getfield 68, 3) := by decide +kernel
theorem dX3_addToWalk_11 : decode cX3_addToWalk 11 = .ok (.aload_n 0, 1) := by decide +kernel
theorem dX3_addToWalk_12 : decode cX3_addToWalk 12 = .ok (.getfield 36, 3) := by decide +kernel
theorem dX3_addToWalk_15 : decode cX3_addToWalk 15 = .ok (.arraylength, 1) := by decide +kernel
theorem dX3_addToWalk_16 : decode cX3_addToWalk 16 = .ok (.if_icmp .ge 23, 3) := by decide +kernel
theorem dX3_addToWalk_19 : decode cX3_addToWalk 19 = .ok (.aload_n 0, 1) := by decide +kernel
theorem dX3_addToWalk_20 : decode cX3_addToWalk 20 = .ok (.getfield 36, 3) := by decide +kernel
theorem dX3_addToWalk_23 : decode cX3_addToWalk 23 = .ok (.aload_n 0, 1) := by decide +kernel
theorem dX3_addToWalk_24 : decode cX3_addToWalk 24 = .ok (.getfield 68, 3) := by decide +kernel
theorem dX3_addToWalk_27 : decode cX3_addToWalk 27 = .ok (.iload_n 1, 1) := by decide +kernel
theorem dX3_addToWalk_28 : decode cX3_addToWalk 28 = .ok (.iastore, 1) := by decide +kernel
theorem dX3_addToWalk_29 : decode cX3_addToWalk 29 = .ok (.aload_n 0, 1) := by decide +kernel
theorem dX3_addToWalk_30 : decode cX3_addToWalk 30 = .ok (.dup, 1) := by decide +kernel
theorem dX3_addToWalk_31 : decode cX3_addToWalk 31 = .ok (.getfield 68, 3) := by decide +kernel
theorem dX3_addToWalk_34 : decode cX3_addToWalk 34 = .ok (.iconst 1, 1) := by decide +kernel
theorem dX3_addToWalk_35 : decode cX3_addToWalk 35 = .ok (.iadd, 1) := by decide +kernel
theorem dX3_addToWalk_36 : decode cX3_addToWalk 36 = .ok (.putfield 68, 3) := by decide +kernel
theorem dX3_addToWalk_39 : decode cX3_addToWalk 39 = .ok (.return_, 1) := by decide +kernel
theorem dX3_isArm_0 : decode cX3_isArm 0 = .ok (.aload_n 0, 1) := by decide +kernel
theorem dX3_isArm_1 : decode cX3_isArm 1 = .ok (.getfield 50, 3) := by decide +kernel
theorem dX3_isArm_4 : decode cX3_isArm 4 = .ok (.aload_n 0, 1) := by decide +kernel
theorem dX3_isArm_5 : decode cX3_isArm 5 = .ok (.iload_n 1, 1) := by decide +kernel
theorem dX3_isArm_6 : decode cX3_isArm 6 = .ok (.invokevirtual 101, 3) := by decide +kernel
theorem dX3_isArm_9 : decode cX3_isArm 9 = .ok (.invokevirtual 58, 3) := by decide +kernel
theorem dX3_isArm_12 : decode cX3_isArm 12 = .ok (.istore_n 2, 1) := by decide +kernel
theorem dX3_isArm_13 : decode cX3_isArm 13 = .ok (.iload_n 2, 1) := by decide +kernel
theorem dX3_isArm_14 : decode cX3_isArm 14 = .ok (.iconst 2, 1) := by decide +kernel
theorem dX3_isArm_15 : decode cX3_isArm 15 = .ok (.if_icmp .eq 17, 3) := by decide +kernel
theorem dX3_isArm_18 : decode cX3_isArm 18 = .ok (.iload_n 2, 1) := by decide +kernel
theorem dX3_isArm_19 : decode cX3_isArm 19 = .ok (.bipush 9, 2) := by decide +kernel
theorem dX3_isArm_21 : decode cX3_isArm 21 = .ok (.if_icmp .ne 15, 3) := by decide +kernel
theorem dX3_isArm_24 : decode cX3_isArm 24 = .ok (.aload_n 0, 1) := by decide +kernel
theorem dX3_isArm_25 : decode cX3_isArm 25 = .ok (.iload_n 1, 1) := by decide +kernel
theorem dX3_isArm_26 : decode cX3_isArm 26 = .ok (.invokevirtual 104, 3) := by decide +kernel
theorem dX3_isArm_29 : decode cX3_isArm 29 = .ok (.ifCond .le 7, 3) := by decide +kernel
theorem dX3_isArm_32 : decode cX3_isArm 32 = .ok (.iconst 1, 1) := by decide +kernel
theorem dX3_isArm_33 : decode cX3_isArm 33 = .ok (.goto 4, 3) := by decide +kernel
theorem dX3_isArm_36 : decode cX3_isArm 36 = .ok (.iconst 0, 1) := by decide +kernel
theorem dX3_isArm_37 : decode cX3_isArm 37 = .ok (.ireturn, 1) := by decide +kernel
theorem dX3_endOf_0 : decode cX3_endOf 0 = .ok (.iload_n 1, 1) := by decide +kernel
theorem dX3_endOf_1 : decode cX3_endOf 1 = .ok (.ifCond .lt 19, 3) := by decide +kernel
theorem dX3_endOf_4 : decode cX3_endOf 4 = .ok (.iload_n 1, 1) := by decide +kernel
theorem dX3_endOf_5 : decode cX3_endOf 5 = .ok (.sipush 200, 3) := by decide +kernel
theorem dX3_endOf_8 : decode cX3_endOf 8 = .ok (.if_icmp .ge 12, 3) := by decide +kernel
theorem dX3_endOf_11 : decode cX3_endOf 11 = .ok (.aload_n 0, 1) := by decide +kernel
theorem dX3_endOf_12 : decode cX3_endOf 12 = .ok (.getfield 9, 3) := by decide +kernel
theorem dX3_endOf_15 : decode cX3_endOf 15 = .ok (.iload_n 1, 1) := by decide +kernel
theorem dX3_endOf_16 : decode cX3_endOf 16 = .ok (.iaload, 1) := by decide +kernel
theorem dX3_endOf_17 : decode cX3_endOf 17 = .ok (.goto 6, 3) := by decide +kernel
theorem dX3_endOf_20 : decode cX3_endOf 20 = .ok (.sipush 200, 3) := by decide +kernel
theorem dX3_endOf_23 : decode cX3_endOf 23 = .ok (.ireturn, 1) := by decide +kernel
theorem dX3_depthOf_0 : decode cX3_depthOf 0 = .ok (.iload_n 1, 1) := by decide +kernel
theorem dX3_depthOf_1 : decode cX3_depthOf 1 = .ok (.ifCond .lt 19, 3) := by decide +kernel
theorem dX3_depthOf_4 : decode cX3_depthOf 4 = .ok (.iload_n 1, 1) := by decide +kernel
theorem dX3_depthOf_5 : decode cX3_depthOf 5 = .ok (.sipush 200, 3) := by decide +kernel
theorem dX3_depthOf_8 : decode cX3_depthOf 8 = .ok (.if_icmp .ge 12, 3) := by decide +kernel
theorem dX3_depthOf_11 : decode cX3_depthOf 11 = .ok (.aload_n 0, 1) := by decide +kernel
theorem dX3_depthOf_12 : decode cX3_depthOf 12 = .ok (.getfield 15, 3) := by decide +kernel
theorem dX3_depthOf_15 : decode cX3_depthOf 15 = .ok (.iload_n 1, 1) := by decide +kernel
theorem dX3_depthOf_16 : decode cX3_depthOf 16 = .ok (.iaload, 1) := by decide +kernel
theorem dX3_depthOf_17 : decode cX3_depthOf 17 = .ok (.goto 4, 3) := by decide +kernel
theorem dX3_depthOf_20 : decode cX3_depthOf 20 = .ok (.iconst 0, 1) := by decide +kernel
theorem dX3_depthOf_21 : decode cX3_depthOf 21 = .ok (.ireturn, 1) := by decide +kernel
theorem dX3_parentOf_0 : decode cX3_parentOf 0 = .ok (.iload_n 1, 1) := by decide +kernel
theorem dX3_parentOf_1 : decode cX3_parentOf 1 = .ok (.ifCond .lt 19, 3) := by decide +kernel
theorem dX3_parentOf_4 : decode cX3_parentOf 4 = .ok (.iload_n 1, 1) := by decide +kernel
theorem dX3_parentOf_5 : decode cX3_parentOf 5 = .ok (.sipush 200, 3) := by decide +kernel
theorem dX3_parentOf_8 : decode cX3_parentOf 8 = .ok (.if_icmp .ge 12, 3) := by decide +kernel
theorem dX3_parentOf_11 : decode cX3_parentOf 11 = .ok (.aload_n 0, 1) := by decide +kernel
theorem dX3_parentOf_12 : decode cX3_parentOf 12 = .ok (.getfield 18, 3) := by decide +kernel
theorem dX3_parentOf_15 : decode cX3_parentOf 15 = .ok (.iload_n 1, 1) := by decide +kernel
theorem dX3_parentOf_16 : decode cX3_parentOf 16 = .ok (.iaload, 1) := by decide +kernel
theorem dX3_parentOf_17 : decode cX3_parentOf 17 = .ok (.goto 4, 3) := by decide +kernel
theorem dX3_parentOf_20 : decode cX3_parentOf 20 = .ok (.iconst (-1), 1) := by decide +kernel
theorem dX3_parentOf_21 : decode cX3_parentOf 21 = .ok (.ireturn, 1) := by decide +kernel
theorem dX3_rankOf_0 : decode cX3_rankOf 0 = .ok (.iload_n 1, 1) := by decide +kernel
theorem dX3_rankOf_1 : decode cX3_rankOf 1 = .ok (.ifCond .lt 19, 3) := by decide +kernel
theorem dX3_rankOf_4 : decode cX3_rankOf 4 = .ok (.iload_n 1, 1) := by decide +kernel
theorem dX3_rankOf_5 : decode cX3_rankOf 5 = .ok (.sipush 200, 3) := by decide +kernel
theorem dX3_rankOf_8 : decode cX3_rankOf 8 = .ok (.if_icmp .ge 12, 3) := by decide +kernel
theorem dX3_rankOf_11 : decode cX3_rankOf 11 = .ok (.aload_n 0, 1) := by decide +kernel
theorem dX3_rankOf_12 : decode cX3_rankOf 12 = .ok (.getfield 21, 3) := by decide +kernel
theorem dX3_rankOf_15 : decode cX3_rankOf 15 = .ok (.iload_n 1, 1) := by decide +kernel
theorem dX3_rankOf_16 : decode cX3_rankOf 16 = .ok (.iaload, 1) := by decide +kernel
theorem dX3_rankOf_17 : decode cX3_rankOf 17 = .ok (.goto 4, 3) := by decide +kernel
theorem dX3_rankOf_20 : decode cX3_rankOf 20 = .ok (.iconst (-1), 1) := by decide +kernel
theorem dX3_rankOf_21 : decode cX3_rankOf 21 = .ok (.ireturn, 1) := by decide +kernel
theorem dX3_nestOf_0 : decode cX3_nestOf 0 = .ok (.iload_n 1, 1) := by decide +kernel
theorem dX3_nestOf_1 : decode cX3_nestOf 1 = .ok (.ifCond .lt 19, 3) := by decide +kernel
theorem dX3_nestOf_4 : decode cX3_nestOf 4 = .ok (.iload_n 1, 1) := by decide +kernel
theorem dX3_nestOf_5 : decode cX3_nestOf 5 = .ok (.sipush 200, 3) := by decide +kernel
theorem dX3_nestOf_8 : decode cX3_nestOf 8 = .ok (.if_icmp .ge 12, 3) := by decide +kernel
theorem dX3_nestOf_11 : decode cX3_nestOf 11 = .ok (.aload_n 0, 1) := by decide +kernel
theorem dX3_nestOf_12 : decode cX3_nestOf 12 = .ok (.getfield 24, 3) := by decide +kernel
theorem dX3_nestOf_15 : decode cX3_nestOf 15 = .ok (.iload_n 1, 1) := by decide +kernel
theorem dX3_nestOf_16 : decode cX3_nestOf 16 = .ok (.iaload, 1) := by decide +kernel
theorem dX3_nestOf_17 : decode cX3_nestOf 17 = .ok (.goto 4, 3) := by decide +kernel
theorem dX3_nestOf_20 : decode cX3_nestOf 20 = .ok (.iconst 0, 1) := by decide +kernel
theorem dX3_nestOf_21 : decode cX3_nestOf 21 = .ok (.ireturn, 1) := by decide +kernel
theorem dX3_typeOf_0 : decode cX3_typeOf 0 = .ok (.iload_n 1, 1) := by decide +kernel
theorem dX3_typeOf_1 : decode cX3_typeOf 1 = .ok (.ifCond .lt 19, 3) := by decide +kernel
theorem dX3_typeOf_4 : decode cX3_typeOf 4 = .ok (.iload_n 1, 1) := by decide +kernel
theorem dX3_typeOf_5 : decode cX3_typeOf 5 = .ok (.sipush 200, 3) := by decide +kernel
theorem dX3_typeOf_8 : decode cX3_typeOf 8 = .ok (.if_icmp .ge 12, 3) := by decide +kernel
theorem dX3_typeOf_11 : decode cX3_typeOf 11 = .ok (.aload_n 0, 1) := by decide +kernel
theorem dX3_typeOf_12 : decode cX3_typeOf 12 = .ok (.getfield 33, 3) := by decide +kernel
theorem dX3_typeOf_15 : decode cX3_typeOf 15 = .ok (.iload_n 1, 1) := by decide +kernel
theorem dX3_typeOf_16 : decode cX3_typeOf 16 = .ok (.iaload, 1) := by decide +kernel
theorem dX3_typeOf_17 : decode cX3_typeOf 17 = .ok (.goto 4, 3) := by decide +kernel
theorem dX3_typeOf_20 : decode cX3_typeOf 20 = .ok (.iconst (-1), 1) := by decide +kernel
theorem dX3_typeOf_21 : decode cX3_typeOf 21 = .ok (.ireturn, 1) := by decide +kernel
theorem dX3_stop_0 : decode cX3_stop 0 = .ok (.iload_n 1, 1) := by decide +kernel
theorem dX3_stop_1 : decode cX3_stop 1 = .ok (.ifCond .lt 22, 3) := by decide +kernel
theorem dX3_stop_4 : decode cX3_stop 4 = .ok (.iload_n 1, 1) := by decide +kernel
theorem dX3_stop_5 : decode cX3_stop 5 = .ok (.aload_n 0, 1) := by decide +kernel
theorem dX3_stop_6 : decode cX3_stop 6 = .ok (.getfield 68, 3) := by decide +kernel
theorem dX3_stop_9 : decode cX3_stop 9 = .ok (.if_icmp .ge 14, 3) := by decide +kernel
theorem dX3_stop_12 : decode cX3_stop 12 = .ok (.aload_n 0, 1) := by decide +kernel
theorem dX3_stop_13 : decode cX3_stop 13 = .ok (.getfield 36, 3) := by decide +kernel
theorem dX3_stop_16 : decode cX3_stop 16 = .ok (.iload_n 1, 1) := by decide +kernel
theorem dX3_stop_17 : decode cX3_stop 17 = .ok (.invokestatic 97, 3) := by decide +kernel
theorem dX3_stop_20 : decode cX3_stop 20 = .ok (.goto 4, 3) := by decide +kernel
theorem dX3_stop_23 : decode cX3_stop 23 = .ok (.iconst 0, 1) := by decide +kernel
theorem dX3_stop_24 : decode cX3_stop 24 = .ok (.ireturn, 1) := by decide +kernel
theorem dX3_height_0 : decode cX3_height 0 = .ok (.iconst 0, 1) := by decide +kernel
theorem dX3_height_1 : decode cX3_height 1 = .ok (.istore_n 1, 1) := by decide +kernel
theorem dX3_height_2 : decode cX3_height 2 = .ok (.iconst 0, 1) := by decide +kernel
theorem dX3_height_3 : decode cX3_height 3 = .ok (.istore_n 2, 1) := by decide +kernel
theorem dX3_height_4 : decode cX3_height 4 = .ok (.iload_n 2, 1) := by decide +kernel
theorem dX3_height_5 : decode cX3_height 5 = .ok (.aload_n 0, 1) := by decide +kernel
theorem dX3_height_6 : decode cX3_height 6 = .ok (.getfield 50, 3) := by decide +kernel
theorem dX3_height_9 : decode cX3_height 9 = .ok (.getfield 54, 3) := by decide +kernel
theorem dX3_height_12 : decode cX3_height 12 = .ok (.if_icmp .ge 19, 3) := by decide +kernel
theorem dX3_height_15 : decode cX3_height 15 = .ok (.iload_n 1, 1) := by decide +kernel
theorem dX3_height_16 : decode cX3_height 16 = .ok (.aload_n 0, 1) := by decide +kernel
theorem dX3_height_17 : decode cX3_height 17 = .ok (.iload_n 2, 1) := by decide +kernel
theorem dX3_height_18 : decode cX3_height 18 = .ok (.invokevirtual 81, 3) := by decide +kernel
theorem dX3_height_21 : decode cX3_height 21 = .ok (.invokestatic 107, 3) := by decide +kernel
theorem dX3_height_24 : decode cX3_height 24 = .ok (.istore_n 1, 1) := by decide +kernel
theorem dX3_height_25 : decode cX3_height 25 = .ok (.iinc 2 1, 3) := by decide +kernel
theorem dX3_height_28 : decode cX3_height 28 = .ok (.goto (-24), 3) := by decide +kernel
theorem dX3_height_31 : decode cX3_height 31 = .ok (.iload_n 1, 1) := by decide +kernel
theorem dX3_height_32 : decode cX3_height 32 = .ok (.ireturn, 1) := by decide +kernel
theorem dX3_takenOn_0 : decode cX3_takenOn 0 = .ok (.aload_n 0, 1) := by decide +kernel
theorem dX3_takenOn_1 : decode cX3_takenOn 1 = .ok (.iload_n 1, 1) := by decide +kernel
theorem dX3_takenOn_2 : decode cX3_takenOn 2 = .ok (.invokevirtual 101, 3) := by decide +kernel
theorem dX3_takenOn_5 : decode cX3_takenOn 5 = .ok (.istore_n 2, 1) := by decide +kernel
theorem dX3_takenOn_6 : decode cX3_takenOn 6 = .ok (.aload_n 0, 1) := by decide +kernel
theorem dX3_takenOn_7 : decode cX3_takenOn 7 = .ok (.getfield 50, 3) := by decide +kernel
theorem dX3_takenOn_10 : decode cX3_takenOn 10 = .ok (.iload_n 2, 1) := by decide +kernel
theorem dX3_takenOn_11 : decode cX3_takenOn 11 = .ok (.invokevirtual 58, 3) := by decide +kernel
theorem dX3_takenOn_14 : decode cX3_takenOn 14 = .ok (.iconst 2, 1) := by decide +kernel
theorem dX3_takenOn_15 : decode cX3_takenOn 15 = .ok (.if_icmp .ne 12, 3) := by decide +kernel
theorem dX3_takenOn_18 : decode cX3_takenOn 18 = .ok (.aload_n 0, 1) := by decide +kernel
theorem dX3_takenOn_19 : decode cX3_takenOn 19 = .ok (.getfield 50, 3) := by decide +kernel
theorem dX3_takenOn_22 : decode cX3_takenOn 22 = .ok (.iload_n 2, 1) := by decide +kernel
theorem dX3_takenOn_23 : decode cX3_takenOn 23 = .ok (.invokevirtual 94, 3) := by decide +kernel
theorem dX3_takenOn_26 : decode cX3_takenOn 26 = .ok (.ireturn, 1) := by decide +kernel
theorem dX3_takenOn_27 : decode cX3_takenOn 27 = .ok (.aload_n 0, 1) := by decide +kernel
theorem dX3_takenOn_28 : decode cX3_takenOn 28 = .ok (.iload_n 2, 1) := by decide +kernel
theorem dX3_takenOn_29 : decode cX3_takenOn 29 = .ok (.iconst 1, 1) := by decide +kernel
theorem dX3_takenOn_30 : decode cX3_takenOn 30 = .ok (.iadd, 1) := by decide +kernel
theorem dX3_takenOn_31 : decode cX3_takenOn 31 = .ok (.invokevirtual 113, 3) := by decide +kernel
theorem dX3_takenOn_34 : decode cX3_takenOn 34 = .ok (.istore_n 3, 1) := by decide +kernel
theorem dX3_takenOn_35 : decode cX3_takenOn 35 = .ok (.aload_n 0, 1) := by decide +kernel
theorem dX3_takenOn_36 : decode cX3_takenOn 36 = .ok (.iload_n 1, 1) := by decide +kernel
theorem dX3_takenOn_37 : decode cX3_takenOn 37 = .ok (.invokevirtual 104, 3) := by decide +kernel
theorem dX3_takenOn_40 : decode cX3_takenOn 40 = .ok (.iconst 1, 1) := by decide +kernel
theorem dX3_takenOn_41 : decode cX3_takenOn 41 = .ok (.if_icmp .ne 14, 3) := by decide +kernel
theorem dX3_takenOn_44 : decode cX3_takenOn 44 = .ok (.aload_n 0, 1) := by decide +kernel
theorem dX3_takenOn_45 : decode cX3_takenOn 45 = .ok (.getfield 39, 3) := by decide +kernel
theorem dX3_takenOn_48 : decode cX3_takenOn 48 = .ok (.iload_n 3, 1) := by decide +kernel
theorem dX3_takenOn_49 : decode cX3_takenOn 49 = .ok (.invokevirtual 116, 3) := by decide +kernel
theorem dX3_takenOn_52 : decode cX3_takenOn 52 = .ok (.goto 11, 3) := by decide +kernel
theorem dX3_takenOn_55 : decode cX3_takenOn 55 = .ok (.aload_n 0, 1) := by decide +kernel
theorem dX3_takenOn_56 : decode cX3_takenOn 56 = .ok (.getfield 39, 3) := by decide +kernel
theorem dX3_takenOn_59 : decode cX3_takenOn 59 = .ok (.iload_n 3, 1) := by decide +kernel
theorem dX3_takenOn_60 : decode cX3_takenOn 60 = .ok (.invokevirtual 121, 3) := by decide +kernel
theorem dX3_takenOn_63 : decode cX3_takenOn 63 = .ok (.ireturn, 1) := by decide +kernel
theorem dX3_ask_0 : decode cX3_ask 0 = .ok (.iconst 0, 1) := by decide +kernel
theorem dX3_ask_1 : decode cX3_ask 1 = .ok (.istore_n 1, 1) := by decide +kernel
theorem dX3_ask_2 : decode cX3_ask 2 = .ok (.iload_n 1, 1) := by decide +kernel
theorem dX3_ask_3 : decode cX3_ask 3 = .ok (.aload_n 0, 1) := by decide +kernel
theorem dX3_ask_4 : decode cX3_ask 4 = .ok (.getfield 68, 3) := by decide +kernel
theorem dX3_ask_7 : decode cX3_ask 7 = .ok (.if_icmp .ge 107, 3) := by decide +kernel
theorem dX3_ask_10 : decode cX3_ask 10 = .ok (.aload_n 0, 1) := by decide +kernel
theorem dX3_ask_11 : decode cX3_ask 11 = .ok (.iload_n 1, 1) := by decide +kernel
theorem dX3_ask_12 : decode cX3_ask 12 = .ok (.invokevirtual 124, 3) := by decide +kernel
theorem dX3_ask_15 : decode cX3_ask 15 = .ok (.istore_n 2, 1) := by decide +kernel
theorem dX3_ask_16 : decode cX3_ask 16 = .ok (.iload_n 2, 1) := by decide +kernel
theorem dX3_ask_17 : decode cX3_ask 17 = .ok (.ifCond .lt 91, 3) := by decide +kernel
theorem dX3_ask_20 : decode cX3_ask 20 = .ok (.iload_n 2, 1) := by decide +kernel
theorem dX3_ask_21 : decode cX3_ask 21 = .ok (.sipush 200, 3) := by decide +kernel
theorem dX3_ask_24 : decode cX3_ask 24 = .ok (.if_icmp .ge 84, 3) := by decide +kernel
theorem dX3_ask_27 : decode cX3_ask 27 = .ok (.aload_n 0, 1) := by decide +kernel
theorem dX3_ask_28 : decode cX3_ask 28 = .ok (.iload_n 2, 1) := by decide +kernel
theorem dX3_ask_29 : decode cX3_ask 29 = .ok (.invokevirtual 127, 3) := by decide +kernel
theorem dX3_ask_32 : decode cX3_ask 32 = .ok (.istore_n 3, 1) := by decide +kernel
theorem dX3_ask_33 : decode cX3_ask 33 = .ok (.iload_n 3, 1) := by decide +kernel
theorem dX3_ask_34 : decode cX3_ask 34 = .ok (.iconst (-1), 1) := by decide +kernel
theorem dX3_ask_35 : decode cX3_ask 35 = .ok (.if_icmp .eq 5, 3) := by decide +kernel
theorem dX3_ask_38 : decode cX3_ask 38 = .ok (.iload_n 3, 1) := by decide +kernel
theorem dX3_ask_39 : decode cX3_ask 39 = .ok (.ireturn, 1) := by decide +kernel
theorem dX3_ask_40 : decode cX3_ask 40 = .ok (.aload_n 0, 1) := by decide +kernel
theorem dX3_ask_41 : decode cX3_ask 41 = .ok (.getfield 33, 3) := by decide +kernel
theorem dX3_ask_44 : decode cX3_ask 44 = .ok (.iload_n 2, 1) := by decide +kernel
theorem dX3_ask_45 : decode cX3_ask 45 = .ok (.aload_n 0, 1) := by decide +kernel
theorem dX3_ask_46 : decode cX3_ask 46 = .ok (.iload_n 2, 1) := by decide +kernel
theorem dX3_ask_47 : decode cX3_ask 47 = .ok (.invokevirtual 130, 3) := by decide +kernel
theorem dX3_ask_50 : decode cX3_ask 50 = .ok (.iastore, 1) := by decide +kernel
theorem dX3_ask_51 : decode cX3_ask 51 = .ok (.aload_n 0, 1) := by decide +kernel
theorem dX3_ask_52 : decode cX3_ask 52 = .ok (.getfield 50, 3) := by decide +kernel
theorem dX3_ask_55 : decode cX3_ask 55 = .ok (.aload_n 0, 1) := by decide +kernel
theorem dX3_ask_56 : decode cX3_ask 56 = .ok (.iload_n 2, 1) := by decide +kernel
theorem dX3_ask_57 : decode cX3_ask 57 = .ok (.invokevirtual 101, 3) := by decide +kernel
theorem dX3_ask_60 : decode cX3_ask 60 = .ok (.invokevirtual 58, 3) := by decide +kernel
theorem dX3_ask_63 : decode cX3_ask 63 = .ok (.bipush 9, 2) := by decide +kernel
theorem dX3_ask_65 : decode cX3_ask 65 = .ok (.if_icmp .ne 15, 3) := by decide +kernel
theorem dX3_ask_68 : decode cX3_ask 68 = .ok (.aload_n 0, 1) := by decide +kernel
theorem dX3_ask_69 : decode cX3_ask 69 = .ok (.iload_n 2, 1) := by decide +kernel
theorem dX3_ask_70 : decode cX3_ask 70 = .ok (.invokevirtual 104, 3) := by decide +kernel
theorem dX3_ask_73 : decode cX3_ask 73 = .ok (.ifCond .ne 7, 3) := by decide +kernel
theorem dX3_ask_76 : decode cX3_ask 76 = .ok (.iconst 1, 1) := by decide +kernel
theorem dX3_ask_77 : decode cX3_ask 77 = .ok (.goto 4, 3) := by decide +kernel
theorem dX3_ask_80 : decode cX3_ask 80 = .ok (.iconst 0, 1) := by decide +kernel
theorem dX3_ask_81 : decode cX3_ask 81 = .ok (.istore 4, 2) := by decide +kernel
theorem dX3_ask_83 : decode cX3_ask 83 = .ok (.iload 4, 2) := by decide +kernel
theorem dX3_ask_85 : decode cX3_ask 85 = .ok (.ifCond .eq 23, 3) := by decide +kernel
theorem dX3_ask_88 : decode cX3_ask 88 = .ok (.aload_n 0, 1) := by decide +kernel
theorem dX3_ask_89 : decode cX3_ask 89 = .ok (.getfield 39, 3) := by decide +kernel
theorem dX3_ask_92 : decode cX3_ask 92 = .ok (.aload_n 0, 1) := by decide +kernel
theorem dX3_ask_93 : decode cX3_ask 93 = .ok (.getfield 33, 3) := by decide +kernel
theorem dX3_ask_96 : decode cX3_ask 96 = .ok (.iload_n 2, 1) := by decide +kernel
theorem dX3_ask_97 : decode cX3_ask 97 = .ok (.iaload, 1) := by decide +kernel
theorem dX3_ask_98 : decode cX3_ask 98 = .ok (.invokevirtual 133, 3) := by decide +kernel
theorem dX3_ask_101 : decode cX3_ask 101 = .ok (.bipush 11, 2) := by decide +kernel
theorem dX3_ask_103 : decode cX3_ask 103 = .ok (.if_icmp .eq 5, 3) := by decide +kernel
theorem dX3_ask_106 : decode cX3_ask 106 = .ok (.iload_n 2, 1) := by decide +kernel
theorem dX3_ask_107 : decode cX3_ask 107 = .ok (.ireturn, 1) := by decide +kernel
theorem dX3_ask_108 : decode cX3_ask 108 = .ok (.iinc 1 1, 3) := by decide +kernel
theorem dX3_ask_111 : decode cX3_ask 111 = .ok (.goto (-109), 3) := by decide +kernel
theorem dX3_ask_114 : decode cX3_ask 114 = .ok (.iconst (-1), 1) := by decide +kernel
theorem dX3_ask_115 : decode cX3_ask 115 = .ok (.ireturn, 1) := by decide +kernel
theorem dX3_unfitWithin_0 : decode cX3_unfitWithin 0 = .ok (.iload_n 1, 1) := by decide +kernel
theorem dX3_unfitWithin_1 : decode cX3_unfitWithin 1 = .ok (.iconst 1, 1) := by decide +kernel
theorem dX3_unfitWithin_2 : decode cX3_unfitWithin 2 = .ok (.iadd, 1) := by decide +kernel
theorem dX3_unfitWithin_3 : decode cX3_unfitWithin 3 = .ok (.istore_n 2, 1) := by decide +kernel
theorem dX3_unfitWithin_4 : decode cX3_unfitWithin 4 = .ok (.aload_n 0, 1) := by decide +kernel
theorem dX3_unfitWithin_5 : decode cX3_unfitWithin 5 = .ok (.iload_n 2, 1) := by decide +kernel
theorem dX3_unfitWithin_6 : decode cX3_unfitWithin 6 = .ok (.invokevirtual 65, 3) := by decide +kernel
theorem dX3_unfitWithin_9 : decode cX3_unfitWithin 9 = .ok (.istore_n 3, 1) := by decide +kernel
theorem dX3_unfitWithin_10 : decode cX3_unfitWithin 10 = .ok (.aload_n 0, 1) := by decide +kernel
theorem dX3_unfitWithin_11 : decode cX3_unfitWithin 11 = .ok (.iload_n 2, 1) := by decide +kernel
theorem dX3_unfitWithin_12 : decode cX3_unfitWithin 12 = .ok (.invokevirtual 113, 3) := by decide +kernel
theorem dX3_unfitWithin_15 : decode cX3_unfitWithin 15 = .ok (.istore 4, 2) := by decide +kernel
theorem dX3_unfitWithin_17 : decode cX3_unfitWithin 17 = .ok (.aload_n 0, 1) := by decide +kernel
theorem dX3_unfitWithin_18 : decode cX3_unfitWithin 18 = .ok (.getfield 50, 3) := by decide +kernel
theorem dX3_unfitWithin_21 : decode cX3_unfitWithin 21 = .ok (.iload_n 1, 1) := by decide +kernel
theorem dX3_unfitWithin_22 : decode cX3_unfitWithin 22 = .ok (.invokevirtual 58, 3) := by decide +kernel
theorem dX3_unfitWithin_25 : decode cX3_unfitWithin 25 = .ok (.tableswitch 147 3 10 #[47, 147, 86, 86, 147, 147, 106, 134], 47) := by decide +kernel
theorem dX3_unfitWithin_72 : decode cX3_unfitWithin 72 = .ok (.aload_n 0, 1) := by decide +kernel
theorem dX3_unfitWithin_73 : decode cX3_unfitWithin 73 = .ok (.getfield 39, 3) := by decide +kernel
theorem dX3_unfitWithin_76 : decode cX3_unfitWithin 76 = .ok (.iload 4, 2) := by decide +kernel
theorem dX3_unfitWithin_78 : decode cX3_unfitWithin 78 = .ok (.invokevirtual 133, 3) := by decide +kernel
theorem dX3_unfitWithin_81 : decode cX3_unfitWithin 81 = .ok (.bipush 9, 2) := by decide +kernel
theorem dX3_unfitWithin_83 : decode cX3_unfitWithin 83 = .ok (.if_icmp .eq 5, 3) := by decide +kernel
theorem dX3_unfitWithin_86 : decode cX3_unfitWithin 86 = .ok (.iload_n 2, 1) := by decide +kernel
theorem dX3_unfitWithin_87 : decode cX3_unfitWithin 87 = .ok (.ireturn, 1) := by decide +kernel
theorem dX3_unfitWithin_88 : decode cX3_unfitWithin 88 = .ok (.aload_n 0, 1) := by decide +kernel
theorem dX3_unfitWithin_89 : decode cX3_unfitWithin 89 = .ok (.iload_n 3, 1) := by decide +kernel
theorem dX3_unfitWithin_90 : decode cX3_unfitWithin 90 = .ok (.invokevirtual 113, 3) := by decide +kernel
theorem dX3_unfitWithin_93 : decode cX3_unfitWithin 93 = .ok (.aload_n 0, 1) := by decide +kernel
theorem dX3_unfitWithin_94 : decode cX3_unfitWithin 94 = .ok (.getfield 39, 3) := by decide +kernel
theorem dX3_unfitWithin_97 : decode cX3_unfitWithin 97 = .ok (.iload 4, 2) := by decide +kernel
theorem dX3_unfitWithin_99 : decode cX3_unfitWithin 99 = .ok (.invokevirtual 116, 3) := by decide +kernel
theorem dX3_unfitWithin_102 : decode cX3_unfitWithin 102 = .ok (.if_icmp .ne 7, 3) := by decide +kernel
theorem dX3_unfitWithin_105 : decode cX3_unfitWithin 105 = .ok (.iconst (-1), 1) := by decide +kernel
theorem dX3_unfitWithin_106 : decode cX3_unfitWithin 106 = .ok (.goto 4, 3) := by decide +kernel
theorem dX3_unfitWithin_109 : decode cX3_unfitWithin 109 = .ok (.iload_n 3, 1) := by decide +kernel
theorem dX3_unfitWithin_110 : decode cX3_unfitWithin 110 = .ok (.ireturn, 1) := by decide +kernel
theorem dX3_unfitWithin_111 : decode cX3_unfitWithin 111 = .ok (.aload_n 0, 1) := by decide +kernel
theorem dX3_unfitWithin_112 : decode cX3_unfitWithin 112 = .ok (.getfield 39, 3) := by decide +kernel
theorem dX3_unfitWithin_115 : decode cX3_unfitWithin 115 = .ok (.iload 4, 2) := by decide +kernel
theorem dX3_unfitWithin_117 : decode cX3_unfitWithin 117 = .ok (.invokevirtual 133, 3) := by decide +kernel
theorem dX3_unfitWithin_120 : decode cX3_unfitWithin 120 = .ok (.bipush 10, 2) := by decide +kernel
theorem dX3_unfitWithin_122 : decode cX3_unfitWithin 122 = .ok (.if_icmp .ne 7, 3) := by decide +kernel
theorem dX3_unfitWithin_125 : decode cX3_unfitWithin 125 = .ok (.iconst (-1), 1) := by decide +kernel
theorem dX3_unfitWithin_126 : decode cX3_unfitWithin 126 = .ok (.goto 4, 3) := by decide +kernel
theorem dX3_unfitWithin_129 : decode cX3_unfitWithin 129 = .ok (.iload_n 2, 1) := by decide +kernel
theorem dX3_unfitWithin_130 : decode cX3_unfitWithin 130 = .ok (.ireturn, 1) := by decide +kernel
theorem dX3_unfitWithin_131 : decode cX3_unfitWithin 131 = .ok (.aload_n 0, 1) := by decide +kernel
theorem dX3_unfitWithin_132 : decode cX3_unfitWithin 132 = .ok (.iload_n 3, 1) := by decide +kernel
theorem dX3_unfitWithin_133 : decode cX3_unfitWithin 133 = .ok (.invokevirtual 65, 3) := by decide +kernel
theorem dX3_unfitWithin_136 : decode cX3_unfitWithin 136 = .ok (.istore 5, 2) := by decide +kernel
theorem dX3_unfitWithin_138 : decode cX3_unfitWithin 138 = .ok (.aload_n 0, 1) := by decide +kernel
theorem dX3_unfitWithin_139 : decode cX3_unfitWithin 139 = .ok (.iload 5, 2) := by decide +kernel
theorem dX3_unfitWithin_141 : decode cX3_unfitWithin 141 = .ok (.invokevirtual 113, 3) := by decide +kernel
theorem dX3_unfitWithin_144 : decode cX3_unfitWithin 144 = .ok (.aload_n 0, 1) := by decide +kernel
theorem dX3_unfitWithin_145 : decode cX3_unfitWithin 145 = .ok (.iload_n 3, 1) := by decide +kernel
theorem dX3_unfitWithin_146 : decode cX3_unfitWithin 146 = .ok (.invokevirtual 113, 3) := by decide +kernel
theorem dX3_unfitWithin_149 : decode cX3_unfitWithin 149 = .ok (.if_icmp .ne 7, 3) := by decide +kernel
theorem dX3_unfitWithin_152 : decode cX3_unfitWithin 152 = .ok (.iconst (-1), 1) := by decide +kernel
theorem dX3_unfitWithin_153 : decode cX3_unfitWithin 153 = .ok (.goto 5, 3) := by decide +kernel
theorem dX3_unfitWithin_156 : decode cX3_unfitWithin 156 = .ok (.iload 5, 2) := by decide +kernel
theorem dX3_unfitWithin_158 : decode cX3_unfitWithin 158 = .ok (.ireturn, 1) := by decide +kernel
theorem dX3_unfitWithin_159 : decode cX3_unfitWithin 159 = .ok (.iload 4, 2) := by decide +kernel
theorem dX3_unfitWithin_161 : decode cX3_unfitWithin 161 = .ok (.bipush 8, 2) := by decide +kernel
theorem dX3_unfitWithin_163 : decode cX3_unfitWithin 163 = .ok (.if_icmp .ne 7, 3) := by decide +kernel
theorem dX3_unfitWithin_166 : decode cX3_unfitWithin 166 = .ok (.iconst (-1), 1) := by decide +kernel
theorem dX3_unfitWithin_167 : decode cX3_unfitWithin 167 = .ok (.goto 4, 3) := by decide +kernel
theorem dX3_unfitWithin_170 : decode cX3_unfitWithin 170 = .ok (.iload_n 2, 1) := by decide +kernel
theorem dX3_unfitWithin_171 : decode cX3_unfitWithin 171 = .ok (.ireturn, 1) := by decide +kernel
theorem dX3_unfitWithin_172 : decode cX3_unfitWithin 172 = .ok (.iconst (-1), 1) := by decide +kernel
theorem dX3_unfitWithin_173 : decode cX3_unfitWithin 173 = .ok (.ireturn, 1) := by decide +kernel
theorem dX3_provenBy_0 : decode cX3_provenBy 0 = .ok (.aload_n 0, 1) := by decide +kernel
theorem dX3_provenBy_1 : decode cX3_provenBy 1 = .ok (.getfield 50, 3) := by decide +kernel
theorem dX3_provenBy_4 : decode cX3_provenBy 4 = .ok (.iload_n 1, 1) := by decide +kernel
theorem dX3_provenBy_5 : decode cX3_provenBy 5 = .ok (.invokevirtual 94, 3) := by decide +kernel
theorem dX3_provenBy_8 : decode cX3_provenBy 8 = .ok (.istore_n 2, 1) := by decide +kernel
theorem dX3_provenBy_9 : decode cX3_provenBy 9 = .ok (.aload_n 0, 1) := by decide +kernel
theorem dX3_provenBy_10 : decode cX3_provenBy 10 = .ok (.iload_n 1, 1) := by decide +kernel
theorem dX3_provenBy_11 : decode cX3_provenBy 11 = .ok (.iconst 1, 1) := by decide +kernel
theorem dX3_provenBy_12 : decode cX3_provenBy 12 = .ok (.iadd, 1) := by decide +kernel
theorem dX3_provenBy_13 : decode cX3_provenBy 13 = .ok (.invokevirtual 113, 3) := by decide +kernel
theorem dX3_provenBy_16 : decode cX3_provenBy 16 = .ok (.istore_n 3, 1) := by decide +kernel
theorem dX3_provenBy_17 : decode cX3_provenBy 17 = .ok (.aload_n 0, 1) := by decide +kernel
theorem dX3_provenBy_18 : decode cX3_provenBy 18 = .ok (.aload_n 0, 1) := by decide +kernel
theorem dX3_provenBy_19 : decode cX3_provenBy 19 = .ok (.iload_n 1, 1) := by decide +kernel
theorem dX3_provenBy_20 : decode cX3_provenBy 20 = .ok (.iconst 1, 1) := by decide +kernel
theorem dX3_provenBy_21 : decode cX3_provenBy 21 = .ok (.iadd, 1) := by decide +kernel
theorem dX3_provenBy_22 : decode cX3_provenBy 22 = .ok (.invokevirtual 65, 3) := by decide +kernel
theorem dX3_provenBy_25 : decode cX3_provenBy 25 = .ok (.invokevirtual 113, 3) := by decide +kernel
theorem dX3_provenBy_28 : decode cX3_provenBy 28 = .ok (.istore 4, 2) := by decide +kernel
theorem dX3_provenBy_30 : decode cX3_provenBy 30 = .ok (.aload_n 0, 1) := by decide +kernel
theorem dX3_provenBy_31 : decode cX3_provenBy 31 = .ok (.getfield 50, 3) := by decide +kernel
theorem dX3_provenBy_34 : decode cX3_provenBy 34 = .ok (.iload_n 1, 1) := by decide +kernel
theorem dX3_provenBy_35 : decode cX3_provenBy 35 = .ok (.invokevirtual 58, 3) := by decide +kernel
theorem dX3_provenBy_38 : decode cX3_provenBy 38 = .ok (.tableswitch 131 2 10 #[50, 62, 71, 84, 93, 102, 114, 126, 129], 50) := by decide +kernel
theorem dX3_provenBy_88 : decode cX3_provenBy 88 = .ok (.aload_n 0, 1) := by decide +kernel
theorem dX3_provenBy_89 : decode cX3_provenBy 89 = .ok (.getfield 39, 3) := by decide +kernel
theorem dX3_provenBy_92 : decode cX3_provenBy 92 = .ok (.bipush 9, 2) := by decide +kernel
theorem dX3_provenBy_94 : decode cX3_provenBy 94 = .ok (.iload_n 2, 1) := by decide +kernel
theorem dX3_provenBy_95 : decode cX3_provenBy 95 = .ok (.iload_n 3, 1) := by decide +kernel
theorem dX3_provenBy_96 : decode cX3_provenBy 96 = .ok (.invokevirtual 136, 3) := by decide +kernel
theorem dX3_provenBy_99 : decode cX3_provenBy 99 = .ok (.ireturn, 1) := by decide +kernel
theorem dX3_provenBy_100 : decode cX3_provenBy 100 = .ok (.aload_n 0, 1) := by decide +kernel
theorem dX3_provenBy_101 : decode cX3_provenBy 101 = .ok (.getfield 39, 3) := by decide +kernel
theorem dX3_provenBy_104 : decode cX3_provenBy 104 = .ok (.iload_n 3, 1) := by decide +kernel
theorem dX3_provenBy_105 : decode cX3_provenBy 105 = .ok (.invokevirtual 121, 3) := by decide +kernel
theorem dX3_provenBy_108 : decode cX3_provenBy 108 = .ok (.ireturn, 1) := by decide +kernel
theorem dX3_provenBy_109 : decode cX3_provenBy 109 = .ok (.aload_n 0, 1) := by decide +kernel
theorem dX3_provenBy_110 : decode cX3_provenBy 110 = .ok (.getfield 39, 3) := by decide +kernel
theorem dX3_provenBy_113 : decode cX3_provenBy 113 = .ok (.bipush 10, 2) := by decide +kernel
theorem dX3_provenBy_115 : decode cX3_provenBy 115 = .ok (.iload_n 3, 1) := by decide +kernel
theorem dX3_provenBy_116 : decode cX3_provenBy 116 = .ok (.iload 4, 2) := by decide +kernel
theorem dX3_provenBy_118 : decode cX3_provenBy 118 = .ok (.invokevirtual 136, 3) := by decide +kernel
theorem dX3_provenBy_121 : decode cX3_provenBy 121 = .ok (.ireturn, 1) := by decide +kernel
theorem dX3_provenBy_122 : decode cX3_provenBy 122 = .ok (.aload_n 0, 1) := by decide +kernel
theorem dX3_provenBy_123 : decode cX3_provenBy 123 = .ok (.getfield 39, 3) := by decide +kernel
theorem dX3_provenBy_126 : decode cX3_provenBy 126 = .ok (.iload_n 3, 1) := by decide +kernel
theorem dX3_provenBy_127 : decode cX3_provenBy 127 = .ok (.invokevirtual 116, 3) := by decide +kernel
theorem dX3_provenBy_130 : decode cX3_provenBy 130 = .ok (.ireturn, 1) := by decide +kernel
theorem dX3_provenBy_131 : decode cX3_provenBy 131 = .ok (.aload_n 0, 1) := by decide +kernel
theorem dX3_provenBy_132 : decode cX3_provenBy 132 = .ok (.getfield 39, 3) := by decide +kernel
theorem dX3_provenBy_135 : decode cX3_provenBy 135 = .ok (.iload_n 3, 1) := by decide +kernel
theorem dX3_provenBy_136 : decode cX3_provenBy 136 = .ok (.invokevirtual 121, 3) := by decide +kernel
theorem dX3_provenBy_139 : decode cX3_provenBy 139 = .ok (.ireturn, 1) := by decide +kernel
theorem dX3_provenBy_140 : decode cX3_provenBy 140 = .ok (.aload_n 0, 1) := by decide +kernel
theorem dX3_provenBy_141 : decode cX3_provenBy 141 = .ok (.getfield 39, 3) := by decide +kernel
theorem dX3_provenBy_144 : decode cX3_provenBy 144 = .ok (.bipush 11, 2) := by decide +kernel
theorem dX3_provenBy_146 : decode cX3_provenBy 146 = .ok (.iload_n 3, 1) := by decide +kernel
theorem dX3_provenBy_147 : decode cX3_provenBy 147 = .ok (.iload_n 2, 1) := by decide +kernel
theorem dX3_provenBy_148 : decode cX3_provenBy 148 = .ok (.invokevirtual 136, 3) := by decide +kernel
theorem dX3_provenBy_151 : decode cX3_provenBy 151 = .ok (.ireturn, 1) := by decide +kernel
theorem dX3_provenBy_152 : decode cX3_provenBy 152 = .ok (.aload_n 0, 1) := by decide +kernel
theorem dX3_provenBy_153 : decode cX3_provenBy 153 = .ok (.getfield 39, 3) := by decide +kernel
theorem dX3_provenBy_156 : decode cX3_provenBy 156 = .ok (.bipush 11, 2) := by decide +kernel
theorem dX3_provenBy_158 : decode cX3_provenBy 158 = .ok (.iload_n 2, 1) := by decide +kernel
theorem dX3_provenBy_159 : decode cX3_provenBy 159 = .ok (.iload_n 3, 1) := by decide +kernel
theorem dX3_provenBy_160 : decode cX3_provenBy 160 = .ok (.invokevirtual 136, 3) := by decide +kernel
theorem dX3_provenBy_163 : decode cX3_provenBy 163 = .ok (.ireturn, 1) := by decide +kernel
theorem dX3_provenBy_164 : decode cX3_provenBy 164 = .ok (.iload 4, 2) := by decide +kernel
theorem dX3_provenBy_166 : decode cX3_provenBy 166 = .ok (.ireturn, 1) := by decide +kernel
theorem dX3_provenBy_167 : decode cX3_provenBy 167 = .ok (.iload_n 2, 1) := by decide +kernel
theorem dX3_provenBy_168 : decode cX3_provenBy 168 = .ok (.ireturn, 1) := by decide +kernel
theorem dX3_provenBy_169 : decode cX3_provenBy 169 = .ok (.iload_n 2, 1) := by decide +kernel
theorem dX3_provenBy_170 : decode cX3_provenBy 170 = .ok (.ifCond .ge 16, 3) := by decide +kernel
theorem dX3_provenBy_173 : decode cX3_provenBy 173 = .ok (.aload_n 0, 1) := by decide +kernel
theorem dX3_provenBy_174 : decode cX3_provenBy 174 = .ok (.getfield 43, 3) := by decide +kernel
theorem dX3_provenBy_177 : decode cX3_provenBy 177 = .ok (.iconst (-1), 1) := by decide +kernel
theorem dX3_provenBy_178 : decode cX3_provenBy 178 = .ok (.iload_n 2, 1) := by decide +kernel
theorem dX3_provenBy_179 : decode cX3_provenBy 179 = .ok (.isub, 1) := by decide +kernel
theorem dX3_provenBy_180 : decode cX3_provenBy 180 = .ok (.invokevirtual 140, 3) := by decide +kernel
theorem dX3_provenBy_183 : decode cX3_provenBy 183 = .ok (.goto 15, 3) := by decide +kernel
theorem dX3_provenBy_186 : decode cX3_provenBy 186 = .ok (.aload_n 0, 1) := by decide +kernel
theorem dX3_provenBy_187 : decode cX3_provenBy 187 = .ok (.aload_n 0, 1) := by decide +kernel
theorem dX3_provenBy_188 : decode cX3_provenBy 188 = .ok (.getfield 27, 3) := by decide +kernel
theorem dX3_provenBy_191 : decode cX3_provenBy 191 = .ok (.iload_n 1, 1) := by decide +kernel
theorem dX3_provenBy_192 : decode cX3_provenBy 192 = .ok (.invokestatic 97, 3) := by decide +kernel
theorem dX3_provenBy_195 : decode cX3_provenBy 195 = .ok (.invokevirtual 145, 3) := by decide +kernel
theorem dX3_provenBy_198 : decode cX3_provenBy 198 = .ok (.ireturn, 1) := by decide +kernel
theorem dX3_markTypes_0 : decode cX3_markTypes 0 = .ok (.iconst 0, 1) := by decide +kernel
theorem dX3_markTypes_1 : decode cX3_markTypes 1 = .ok (.istore_n 1, 1) := by decide +kernel
theorem dX3_markTypes_2 : decode cX3_markTypes 2 = .ok (.iconst 0, 1) := by decide +kernel
theorem dX3_markTypes_3 : decode cX3_markTypes 3 = .ok (.istore_n 2, 1) := by decide +kernel
theorem dX3_markTypes_4 : decode cX3_markTypes 4 = .ok (.iload_n 2, 1) := by decide +kernel
theorem dX3_markTypes_5 : decode cX3_markTypes 5 = .ok (.aload_n 0, 1) := by decide +kernel
theorem dX3_markTypes_6 : decode cX3_markTypes 6 = .ok (.getfield 50, 3) := by decide +kernel
theorem dX3_markTypes_9 : decode cX3_markTypes 9 = .ok (.getfield 54, 3) := by decide +kernel
theorem dX3_markTypes_12 : decode cX3_markTypes 12 = .ok (.if_icmp .ge 27, 3) := by decide +kernel
theorem dX3_markTypes_15 : decode cX3_markTypes 15 = .ok (.aload_n 0, 1) := by decide +kernel
theorem dX3_markTypes_16 : decode cX3_markTypes 16 = .ok (.getfield 39, 3) := by decide +kernel
theorem dX3_markTypes_19 : decode cX3_markTypes 19 = .ok (.aload_n 0, 1) := by decide +kernel
theorem dX3_markTypes_20 : decode cX3_markTypes 20 = .ok (.iload_n 2, 1) := by decide +kernel
theorem dX3_markTypes_21 : decode cX3_markTypes 21 = .ok (.invokevirtual 113, 3) := by decide +kernel
theorem dX3_markTypes_24 : decode cX3_markTypes 24 = .ok (.invokevirtual 148, 3) := by decide +kernel
theorem dX3_markTypes_27 : decode cX3_markTypes 27 = .ok (.ifCond .eq 6, 3) := by decide +kernel
theorem dX3_markTypes_30 : decode cX3_markTypes 30 = .ok (.iinc 1 1, 3) := by decide +kernel
theorem dX3_markTypes_33 : decode cX3_markTypes 33 = .ok (.iinc 2 1, 3) := by decide +kernel
theorem dX3_markTypes_36 : decode cX3_markTypes 36 = .ok (.goto (-32), 3) := by decide +kernel
theorem dX3_markTypes_39 : decode cX3_markTypes 39 = .ok (.iload_n 1, 1) := by decide +kernel
theorem dX3_markTypes_40 : decode cX3_markTypes 40 = .ok (.ireturn, 1) := by decide +kernel
theorem dX4_init_0 : decode cX4_init 0 = .ok (.aload_n 0, 1) := by decide +kernel
theorem dX4_init_1 : decode cX4_init 1 = .ok (.invokespecial 3, 3) := by decide +kernel
theorem dX4_init_4 : decode cX4_init 4 = .ok (.aload_n 0, 1) := by decide +kernel
theorem dX4_init_5 : decode cX4_init 5 = .ok (.sipush 406, 3) := by decide +kernel
theorem dX4_init_8 : decode cX4_init 8 = .ok (.newarray .int, 2) := by decide +kernel
theorem dX4_init_10 : decode cX4_init 10 = .ok (.putfield 11, 3) := by decide +kernel
theorem dX4_init_13 : decode cX4_init 13 = .ok (.aload_n 0, 1) := by decide +kernel
theorem dX4_init_14 : decode cX4_init 14 = .ok (.sipush 406, 3) := by decide +kernel
theorem dX4_init_17 : decode cX4_init 17 = .ok (.newarray .int, 2) := by decide +kernel
theorem dX4_init_19 : decode cX4_init 19 = .ok (.putfield 15, 3) := by decide +kernel
theorem dX4_init_22 : decode cX4_init 22 = .ok (.aload_n 0, 1) := by decide +kernel
theorem dX4_init_23 : decode cX4_init 23 = .ok (.sipush 406, 3) := by decide +kernel
theorem dX4_init_26 : decode cX4_init 26 = .ok (.newarray .int, 2) := by decide +kernel
theorem dX4_init_28 : decode cX4_init 28 = .ok (.putfield 18, 3) := by decide +kernel
theorem dX4_init_31 : decode cX4_init 31 = .ok (.aload_n 0, 1) := by decide +kernel
theorem dX4_init_32 : decode cX4_init 32 = .ok (.sipush 1218, 3) := by decide +kernel
theorem dX4_init_35 : decode cX4_init 35 = .ok (.newarray .int, 2) := by decide +kernel
theorem dX4_init_37 : decode cX4_init 37 = .ok (.putfield 21, 3) := by decide +kernel
theorem dX4_init_40 : decode cX4_init 40 = .ok (.aload_n 0, 1) := by decide +kernel
theorem dX4_init_41 : decode cX4_init 41 = .ok (.sipush 200, 3) := by decide +kernel
theorem dX4_init_44 : decode cX4_init 44 = .ok (.newarray .int, 2) := by decide +kernel
theorem dX4_init_46 : decode cX4_init 46 = .ok (.putfield 24, 3) := by decide +kernel
theorem dX4_init_49 : decode cX4_init 49 = .ok (.aload_n 0, 1) := by decide +kernel
theorem dX4_init_50 : decode cX4_init 50 = .ok (.sipush 200, 3) := by decide +kernel
theorem dX4_init_53 : decode cX4_init 53 = .ok (.newarray .int, 2) := by decide +kernel
theorem dX4_init_55 : decode cX4_init 55 = .ok (.putfield 27, 3) := by decide +kernel
theorem dX4_init_58 : decode cX4_init 58 = .ok (.aload_n 0, 1) := by decide +kernel
theorem dX4_init_59 : decode cX4_init 59 = .ok (.aload_n 1, 1) := by decide +kernel
theorem dX4_init_60 : decode cX4_init 60 = .ok (.putfield 30, 3) := by decide +kernel
theorem dX4_init_63 : decode cX4_init 63 = .ok (.return_, 1) := by decide +kernel
theorem dX4_ruleOf_0 : decode cX4_ruleOf 0 = .ok (.aload_n 0, 1) := by decide +kernel
theorem dX4_ruleOf_1 : decode cX4_ruleOf 1 = .ok (.getfield 11, 3) := by decide +kernel
theorem dX4_ruleOf_4 : decode cX4_ruleOf 4 = .ok (.iload_n 1, 1) := by decide +kernel
theorem dX4_ruleOf_5 : decode cX4_ruleOf 5 = .ok (.invokestatic 34, 3) := by decide +kernel
theorem dX4_ruleOf_8 : decode cX4_ruleOf 8 = .ok (.ireturn, 1) := by decide +kernel
theorem dX4_deepOf_0 : decode cX4_deepOf 0 = .ok (.aload_n 0, 1) := by decide +kernel
theorem dX4_deepOf_1 : decode cX4_deepOf 1 = .ok (.getfield 18, 3) := by decide +kernel
theorem dX4_deepOf_4 : decode cX4_deepOf 4 = .ok (.iload_n 1, 1) := by decide +kernel
theorem dX4_deepOf_5 : decode cX4_deepOf 5 = .ok (.invokestatic 34, 3) := by decide +kernel
theorem dX4_deepOf_8 : decode cX4_deepOf 8 = .ok (.ireturn, 1) := by decide +kernel
theorem dX4_formulaOf_0 : decode cX4_formulaOf 0 = .ok (.aload_n 0, 1) := by decide +kernel
theorem dX4_formulaOf_1 : decode cX4_formulaOf 1 = .ok (.getfield 15, 3) := by decide +kernel
theorem dX4_formulaOf_4 : decode cX4_formulaOf 4 = .ok (.iload_n 1, 1) := by decide +kernel
theorem dX4_formulaOf_5 : decode cX4_formulaOf 5 = .ok (.invokestatic 34, 3) := by decide +kernel
theorem dX4_formulaOf_8 : decode cX4_formulaOf 8 = .ok (.ireturn, 1) := by decide +kernel
theorem dX4_fromOf_0 : decode cX4_fromOf 0 = .ok (.iload_n 1, 1) := by decide +kernel
theorem dX4_fromOf_1 : decode cX4_fromOf 1 = .ok (.ifCond .lt 12, 3) := by decide +kernel
theorem dX4_fromOf_4 : decode cX4_fromOf 4 = .ok (.iload_n 2, 1) := by decide +kernel
theorem dX4_fromOf_5 : decode cX4_fromOf 5 = .ok (.ifCond .lt 8, 3) := by decide +kernel
theorem dX4_fromOf_8 : decode cX4_fromOf 8 = .ok (.iload_n 2, 1) := by decide +kernel
theorem dX4_fromOf_9 : decode cX4_fromOf 9 = .ok (.iconst 3, 1) := by decide +kernel
theorem dX4_fromOf_10 : decode cX4_fromOf 10 = .ok (.if_icmp .lt 7, 3) := by decide +kernel
theorem dX4_fromOf_13 : decode cX4_fromOf 13 = .ok (.iconst (-1), 1) := by decide +kernel
theorem dX4_fromOf_14 : decode cX4_fromOf 14 = .ok (.goto 15, 3) := by decide +kernel
theorem dX4_fromOf_17 : decode cX4_fromOf 17 = .ok (.aload_n 0, 1) := by decide +kernel
theorem dX4_fromOf_18 : decode cX4_fromOf 18 = .ok (.getfield 21, 3) := by decide +kernel
theorem dX4_fromOf_21 : decode cX4_fromOf 21 = .ok (.iload_n 1, 1) := by decide +kernel
theorem dX4_fromOf_22 : decode cX4_fromOf 22 = .ok (.iconst 3, 1) := by decide +kernel
theorem dX4_fromOf_23 : decode cX4_fromOf 23 = .ok (.imul, 1) := by decide +kernel
theorem dX4_fromOf_24 : decode cX4_fromOf 24 = .ok (.iload_n 2, 1) := by decide +kernel
theorem dX4_fromOf_25 : decode cX4_fromOf 25 = .ok (.iadd, 1) := by decide +kernel
theorem dX4_fromOf_26 : decode cX4_fromOf 26 = .ok (.invokestatic 34, 3) := by decide +kernel
theorem dX4_fromOf_29 : decode cX4_fromOf 29 = .ok (.ireturn, 1) := by decide +kernel
theorem dX4_fill_0 : decode cX4_fill 0 = .ok (.aload_n 0, 1) := by decide +kernel
theorem dX4_fill_1 : decode cX4_fill 1 = .ok (.iconst 0, 1) := by decide +kernel
theorem dX4_fill_2 : decode cX4_fill 2 = .ok (.putfield 38, 3) := by decide +kernel
theorem dX4_fill_5 : decode cX4_fill 5 = .ok (.iconst 0, 1) := by decide +kernel
theorem dX4_fill_6 : decode cX4_fill 6 = .ok (.istore_n 2, 1) := by decide +kernel
theorem dX4_fill_7 : decode cX4_fill 7 = .ok (.iload_n 2, 1) := by decide +kernel
theorem dX4_fill_8 : decode cX4_fill 8 = .ok (.aload_n 0, 1) := by decide +kernel
theorem dX4_fill_9 : decode cX4_fill 9 = .ok (.getfield 30, 3) := by decide +kernel
theorem dX4_fill_12 : decode cX4_fill 12 = .ok (.getfield 42, 3) := by decide +kernel
theorem dX4_fill_15 : decode cX4_fill 15 = .ok (.if_icmp .ge 24, 3) := by decide +kernel
theorem dX4_fill_18 : decode cX4_fill 18 = .ok (.aload_n 0, 1) := by decide +kernel
theorem dX4_fill_19 : decode cX4_fill 19 = .ok (.iconst 0, 1) := by decide +kernel
theorem dX4_fill_20 : decode cX4_fill 20 = .ok (.aload_n 0, 1) := by decide +kernel
theorem dX4_fill_21 : decode cX4_fill 21 = .ok (.getfield 30, 3) := by decide +kernel
theorem dX4_fill_24 : decode cX4_fill 24 = .ok (.iload_n 2, 1) := by decide +kernel
theorem dX4_fill_25 : decode cX4_fill 25 = .ok (.invokevirtual 45, 3) := by decide +kernel
theorem dX4_fill_28 : decode cX4_fill 28 = .ok (.iconst 0, 1) := by decide +kernel
theorem dX4_fill_29 : decode cX4_fill 29 = .ok (.invokevirtual 49, 3) := by decide +kernel
theorem dX4_fill_32 : decode cX4_fill 32 = .ok (.pop, 1) := by decide +kernel
theorem dX4_fill_33 : decode cX4_fill 33 = .ok (.iinc 2 1, 3) := by decide +kernel
theorem dX4_fill_36 : decode cX4_fill 36 = .ok (.goto (-29), 3) := by decide +kernel
theorem dX4_fill_39 : decode cX4_fill 39 = .ok (.iconst 0, 1) := by decide +kernel
theorem dX4_fill_40 : decode cX4_fill 40 = .ok (.istore_n 2, 1) := by decide +kernel
theorem dX4_fill_41 : decode cX4_fill 41 = .ok (.iload_n 2, 1) := by decide +kernel
theorem dX4_fill_42 : decode cX4_fill 42 = .ok (.aload_n 1, 1) := by decide +kernel
theorem dX4_fill_43 : decode cX4_fill 43 = .ok (.getfield 53, 3) := by decide +kernel
theorem dX4_fill_46 : decode cX4_fill 46 = .ok (.if_icmp .ge 36, 3) := by decide +kernel
theorem dX4_fill_49 : decode cX4_fill 49 = .ok (.aload_n 1, 1) := by decide +kernel
theorem dX4_fill_50 : decode cX4_fill 50 = .ok (.iload_n 2, 1) := by decide +kernel
theorem dX4_fill_51 : decode cX4_fill 51 = .ok (.invokevirtual 58, 3) := by decide +kernel
theorem dX4_fill_54 : decode cX4_fill 54 = .ok (.istore_n 3, 1) := by decide +kernel
theorem dX4_fill_55 : decode cX4_fill 55 = .ok (.iload_n 3, 1) := by decide +kernel
theorem dX4_fill_56 : decode cX4_fill 56 = .ok (.ifCond .ge 14, 3) := by decide +kernel
theorem dX4_fill_59 : decode cX4_fill 59 = .ok (.aload_n 0, 1) := by decide +kernel
theorem dX4_fill_60 : decode cX4_fill 60 = .ok (.aload_n 1, 1) := by decide +kernel
theorem dX4_fill_61 : decode cX4_fill 61 = .ok (.iconst (-1), 1) := by decide +kernel
theorem dX4_fill_62 : decode cX4_fill 62 = .ok (.iload_n 3, 1) := by decide +kernel
theorem dX4_fill_63 : decode cX4_fill 63 = .ok (.isub, 1) := by decide +kernel
theorem dX4_fill_64 : decode cX4_fill 64 = .ok (.invokevirtual 61, 3) := by decide +kernel
theorem dX4_fill_67 : decode cX4_fill 67 = .ok (.goto 9, 3) := by decide +kernel
theorem dX4_fill_70 : decode cX4_fill 70 = .ok (.aload_n 0, 1) := by decide +kernel
theorem dX4_fill_71 : decode cX4_fill 71 = .ok (.aload_n 1, 1) := by decide +kernel
theorem dX4_fill_72 : decode cX4_fill 72 = .ok (.iload_n 3, 1) := by decide +kernel
theorem dX4_fill_73 : decode cX4_fill 73 = .ok (.invokevirtual 65, 3) := by decide +kernel
theorem dX4_fill_76 : decode cX4_fill 76 = .ok (.iinc 2 1, 3) := by decide +kernel
theorem dX4_fill_79 : decode cX4_fill 79 = .ok (.goto (-38), 3) := by decide +kernel
theorem dX4_fill_82 : decode cX4_fill 82 = .ok (.return_, 1) := by decide +kernel
theorem dX4_addLine_0 : decode cX4_addLine 0 = .ok (.aload_n 0, 1) := by decide +kernel
theorem dX4_addLine_1 : decode cX4_addLine 1 = .ok (.getfield 38, 3) := by decide +kernel
theorem dX4_addLine_4 : decode cX4_addLine 4 = .ok (.ifCond .lt 13, 3) := by decide +kernel
theorem dX4_addLine_7 : decode cX4_addLine 7 = .ok (.aload_n 0, 1) := by decide +kernel
theorem dX4_addLine_8 : decode cX4_addLine 8 = .ok (.getfield 38, 3) := by decide +kernel
theorem dX4_addLine_11 : decode cX4_addLine 11 = .ok (.sipush 406, 3) := by decide +kernel
theorem dX4_addLine_14 : decode cX4_addLine 14 = .ok (.if_icmp .lt 5, 3) := by decide +kernel
theorem dX4_addLine_17 : decode cX4_addLine 17 = .ok (.iconst (-1), 1) := by decide +kernel
theorem dX4_addLine_18 : decode cX4_addLine 18 = .ok (.ireturn, 1) := by decide +kernel
theorem dX4_addLine_19 : decode cX4_addLine 19 = .ok (.aload_n 0, 1) := by decide +kernel
theorem dX4_addLine_20 : decode cX4_addLine 20 = .ok (.getfield 38, 3) := by decide +kernel
theorem dX4_addLine_23 : decode cX4_addLine 23 = .ok (.istore 4, 2) := by decide +kernel
theorem dX4_addLine_25 : decode cX4_addLine 25 = .ok (.aload_n 0, 1) := by decide +kernel
theorem dX4_addLine_26 : decode cX4_addLine 26 = .ok (.getfield 11, 3) := by decide +kernel
theorem dX4_addLine_29 : decode cX4_addLine 29 = .ok (.iload 4, 2) := by decide +kernel
theorem dX4_addLine_31 : decode cX4_addLine 31 = .ok (.iload_n 1, 1) := by decide +kernel
theorem dX4_addLine_32 : decode cX4_addLine 32 = .ok (.iastore, 1) := by decide +kernel
theorem dX4_addLine_33 : decode cX4_addLine 33 = .ok (.aload_n 0, 1) := by decide +kernel
theorem dX4_addLine_34 : decode cX4_addLine 34 = .ok (.getfield 15, 3) := by decide +kernel
theorem dX4_addLine_37 : decode cX4_addLine 37 = .ok (.iload 4, 2) := by decide +kernel
theorem dX4_addLine_39 : decode cX4_addLine 39 = .ok (.iload_n 2, 1) := by decide +kernel
theorem dX4_addLine_40 : decode cX4_addLine 40 = .ok (.iastore, 1) := by decide +kernel
theorem dX4_addLine_41 : decode cX4_addLine 41 = .ok (.aload_n 0, 1) := by decide +kernel
theorem dX4_addLine_42 : decode cX4_addLine 42 = .ok (.getfield 18, 3) := by decide +kernel
theorem dX4_addLine_45 : decode cX4_addLine 45 = .ok (.iload 4, 2) := by decide +kernel
theorem dX4_addLine_47 : decode cX4_addLine 47 = .ok (.iload_n 3, 1) := by decide +kernel
theorem dX4_addLine_48 : decode cX4_addLine 48 = .ok (.iastore, 1) := by decide +kernel
theorem dX4_addLine_49 : decode cX4_addLine 49 = .ok (.iconst 0, 1) := by decide +kernel
theorem dX4_addLine_50 : decode cX4_addLine 50 = .ok (.istore 5, 2) := by decide +kernel
theorem dX4_addLine_52 : decode cX4_addLine 52 = .ok (.iload 5, 2) := by decide +kernel
theorem dX4_addLine_54 : decode cX4_addLine 54 = .ok (.iconst 3, 1) := by decide +kernel
theorem dX4_addLine_55 : decode cX4_addLine 55 = .ok (.if_icmp .ge 22, 3) := by decide +kernel
theorem dX4_addLine_58 : decode cX4_addLine 58 = .ok (.aload_n 0, 1) := by decide +kernel
theorem dX4_addLine_59 : decode cX4_addLine 59 = .ok (.getfield 21, 3) := by decide +kernel
theorem dX4_addLine_62 : decode cX4_addLine 62 = .ok (.iload 4, 2) := by decide +kernel
theorem dX4_addLine_64 : decode cX4_addLine 64 = .ok (.iconst 3, 1) := by decide +kernel
theorem dX4_addLine_65 : decode cX4_addLine 65 = .ok (.imul, 1) := by decide +kernel
theorem dX4_addLine_66 : decode cX4_addLine 66 = .ok (.iload 5, 2) := by decide +kernel
theorem dX4_addLine_68 : decode cX4_addLine 68 = .ok (.iadd, 1) := by decide +kernel
theorem dX4_addLine_69 : decode cX4_addLine 69 = .ok (.iconst (-1), 1) := by decide +kernel
theorem dX4_addLine_70 : decode cX4_addLine 70 = .ok (.iastore, 1) := by decide +kernel
theorem dX4_addLine_71 : decode cX4_addLine 71 = .ok (.iinc 5 1, 3) := by decide +kernel
theorem dX4_addLine_74 : decode cX4_addLine 74 = .ok (.goto (-22), 3) := by decide +kernel
theorem dX4_addLine_77 : decode cX4_addLine 77 = .ok (.aload_n 0, 1) := by decide +kernel
theorem dX4_addLine_78 : decode cX4_addLine 78 = .ok (.dup, 1) := by decide +kernel
theorem dX4_addLine_79 : decode cX4_addLine 79 = .ok (.getfield 38, 3) := by decide +kernel
theorem dX4_addLine_82 : decode cX4_addLine 82 = .ok (.iconst 1, 1) := by decide +kernel
theorem dX4_addLine_83 : decode cX4_addLine 83 = .ok (.iadd, 1) := by decide +kernel
theorem dX4_addLine_84 : decode cX4_addLine 84 = .ok (.putfield 38, 3) := by decide +kernel
theorem dX4_addLine_87 : decode cX4_addLine 87 = .ok (.iload 4, 2) := by decide +kernel
theorem dX4_addLine_89 : decode cX4_addLine 89 = .ok (.ireturn, 1) := by decide +kernel
theorem dX4_setFrom_0 : decode cX4_setFrom 0 = .ok (.iload_n 1, 1) := by decide +kernel
theorem dX4_setFrom_1 : decode cX4_setFrom 1 = .ok (.iconst 3, 1) := by decide +kernel
theorem dX4_setFrom_2 : decode cX4_setFrom 2 = .ok (.imul, 1) := by decide +kernel
theorem dX4_setFrom_3 : decode cX4_setFrom 3 = .ok (.iload_n 2, 1) := by decide +kernel
theorem dX4_setFrom_4 : decode cX4_setFrom 4 = .ok (.iadd, 1) := by decide +kernel
theorem dX4_setFrom_5 : decode cX4_setFrom 5 = .ok (.istore 4, 2) := by decide +kernel
theorem dX4_setFrom_7 : decode cX4_setFrom 7 = .ok (.iload_n 1, 1) := by decide +kernel
theorem dX4_setFrom_8 : decode cX4_setFrom 8 = .ok (.ifCond .lt 30, 3) := by decide +kernel
theorem dX4_setFrom_11 : decode cX4_setFrom 11 = .ok (.iload_n 2, 1) := by decide +kernel
theorem dX4_setFrom_12 : decode cX4_setFrom 12 = .ok (.ifCond .lt 26, 3) := by decide +kernel
theorem dX4_setFrom_15 : decode cX4_setFrom 15 = .ok (.iload_n 2, 1) := by decide +kernel
theorem dX4_setFrom_16 : decode cX4_setFrom 16 = .ok (.iconst 3, 1) := by decide +kernel
theorem dX4_setFrom_17 : decode cX4_setFrom 17 = .ok (.if_icmp .ge 21, 3) := by decide +kernel
theorem dX4_setFrom_20 : decode cX4_setFrom 20 = .ok (.iload 4, 2) := by decide +kernel
theorem dX4_setFrom_22 : decode cX4_setFrom 22 = .ok (.aload_n 0, 1) := by decide +kernel
theorem dX4_setFrom_23 : decode cX4_setFrom 23 = .ok (.getfield 21, 3) := by decide +kernel
theorem dX4_setFrom_26 : decode cX4_setFrom 26 = .ok (.arraylength, 1) := by decide +kernel
theorem dX4_setFrom_27 : decode cX4_setFrom 27 = .ok (.if_icmp .ge 11, 3) := by decide +kernel
theorem dX4_setFrom_30 : decode cX4_setFrom 30 = .ok (.aload_n 0, 1) := by decide +kernel
theorem dX4_setFrom_31 : decode cX4_setFrom 31 = .ok (.getfield 21, 3) := by decide +kernel
theorem dX4_setFrom_34 : decode cX4_setFrom 34 = .ok (.iload 4, 2) := by decide +kernel
theorem dX4_setFrom_36 : decode cX4_setFrom 36 = .ok (.iload_n 3, 1) := by decide +kernel
theorem dX4_setFrom_37 : decode cX4_setFrom 37 = .ok (.iastore, 1) := by decide +kernel
theorem dX4_setFrom_38 : decode cX4_setFrom 38 = .ok (.return_, 1) := by decide +kernel
theorem dX4_takeOn_0 : decode cX4_takeOn 0 = .ok (.aload_n 1, 1) := by decide +kernel
theorem dX4_takeOn_1 : decode cX4_takeOn 1 = .ok (.iload_n 2, 1) := by decide +kernel
theorem dX4_takeOn_2 : decode cX4_takeOn 2 = .ok (.invokevirtual 68, 3) := by decide +kernel
theorem dX4_takeOn_5 : decode cX4_takeOn 5 = .ok (.istore_n 3, 1) := by decide +kernel
theorem dX4_takeOn_6 : decode cX4_takeOn 6 = .ok (.aload_n 0, 1) := by decide +kernel
theorem dX4_takeOn_7 : decode cX4_takeOn 7 = .ok (.iconst 1, 1) := by decide +kernel
theorem dX4_takeOn_8 : decode cX4_takeOn 8 = .ok (.aload_n 1, 1) := by decide +kernel
theorem dX4_takeOn_9 : decode cX4_takeOn 9 = .ok (.iload_n 2, 1) := by decide +kernel
theorem dX4_takeOn_10 : decode cX4_takeOn 10 = .ok (.invokevirtual 71, 3) := by decide +kernel
theorem dX4_takeOn_13 : decode cX4_takeOn 13 = .ok (.iload_n 3, 1) := by decide +kernel
theorem dX4_takeOn_14 : decode cX4_takeOn 14 = .ok (.invokevirtual 49, 3) := by decide +kernel
theorem dX4_takeOn_17 : decode cX4_takeOn 17 = .ok (.istore 4, 2) := by decide +kernel
theorem dX4_takeOn_19 : decode cX4_takeOn 19 = .ok (.iload_n 3, 1) := by decide +kernel
theorem dX4_takeOn_20 : decode cX4_takeOn 20 = .ok (.ifCond .le 20, 3) := by decide +kernel
theorem dX4_takeOn_23 : decode cX4_takeOn 23 = .ok (.iload_n 3, 1) := by decide +kernel
theorem dX4_takeOn_24 : decode cX4_takeOn 24 = .ok (.sipush 200, 3) := by decide +kernel
theorem dX4_takeOn_27 : decode cX4_takeOn 27 = .ok (.if_icmp .gt 13, 3) := by decide +kernel
theorem dX4_takeOn_30 : decode cX4_takeOn 30 = .ok (.aload_n 0, 1) := by decide +kernel
theorem dX4_takeOn_31 : decode cX4_takeOn 31 = .ok (.getfield 27, 3) := by decide +kernel
theorem dX4_takeOn_34 : decode cX4_takeOn 34 = .ok (.iload_n 3, 1) := by decide +kernel
theorem dX4_takeOn_35 : decode cX4_takeOn 35 = .ok (.iconst 1, 1) := by decide +kernel
theorem dX4_takeOn_36 : decode cX4_takeOn 36 = .ok (.isub, 1) := by decide +kernel
theorem dX4_takeOn_37 : decode cX4_takeOn 37 = .ok (.iload 4, 2) := by decide +kernel
theorem dX4_takeOn_39 : decode cX4_takeOn 39 = .ok (.iastore, 1) := by decide +kernel
theorem dX4_takeOn_40 : decode cX4_takeOn 40 = .ok (.return_, 1) := by decide +kernel
theorem dX4_endNode_0 : decode cX4_endNode 0 = .ok (.aload_n 1, 1) := by decide +kernel
theorem dX4_endNode_1 : decode cX4_endNode 1 = .ok (.getfield 74, 3) := by decide +kernel
theorem dX4_endNode_4 : decode cX4_endNode 4 = .ok (.iload_n 2, 1) := by decide +kernel
theorem dX4_endNode_5 : decode cX4_endNode 5 = .ok (.invokevirtual 78, 3) := by decide +kernel
theorem dX4_endNode_8 : decode cX4_endNode 8 = .ok (.istore_n 3, 1) := by decide +kernel
theorem dX4_endNode_9 : decode cX4_endNode 9 = .ok (.iload_n 3, 1) := by decide +kernel
theorem dX4_endNode_10 : decode cX4_endNode 10 = .ok (.iconst 1, 1) := by decide +kernel
theorem dX4_endNode_11 : decode cX4_endNode 11 = .ok (.if_icmp .ne 18, 3) := by decide +kernel
theorem dX4_endNode_14 : decode cX4_endNode 14 = .ok (.aload_n 0, 1) := by decide +kernel
theorem dX4_endNode_15 : decode cX4_endNode 15 = .ok (.aload_n 1, 1) := by decide +kernel
theorem dX4_endNode_16 : decode cX4_endNode 16 = .ok (.getfield 74, 3) := by decide +kernel
theorem dX4_endNode_19 : decode cX4_endNode 19 = .ok (.iload_n 2, 1) := by decide +kernel
theorem dX4_endNode_20 : decode cX4_endNode 20 = .ok (.invokevirtual 83, 3) := by decide +kernel
theorem dX4_endNode_23 : decode cX4_endNode 23 = .ok (.invokevirtual 86, 3) := by decide +kernel
theorem dX4_endNode_26 : decode cX4_endNode 26 = .ok (.goto 18, 3) := by decide +kernel
theorem dX4_endNode_29 : decode cX4_endNode 29 = .ok (.aload_n 0, 1) := by decide +kernel
theorem dX4_endNode_30 : decode cX4_endNode 30 = .ok (.iload_n 3, 1) := by decide +kernel
theorem dX4_endNode_31 : decode cX4_endNode 31 = .ok (.aload_n 1, 1) := by decide +kernel
theorem dX4_endNode_32 : decode cX4_endNode 32 = .ok (.iload_n 2, 1) := by decide +kernel
theorem dX4_endNode_33 : decode cX4_endNode 33 = .ok (.invokevirtual 89, 3) := by decide +kernel
theorem dX4_endNode_36 : decode cX4_endNode 36 = .ok (.aload_n 1, 1) := by decide +kernel
theorem dX4_endNode_37 : decode cX4_endNode 37 = .ok (.iload_n 2, 1) := by decide +kernel
theorem dX4_endNode_38 : decode cX4_endNode 38 = .ok (.invokevirtual 68, 3) := by decide +kernel
theorem dX4_endNode_41 : decode cX4_endNode 41 = .ok (.invokevirtual 49, 3) := by decide +kernel
theorem dX4_endNode_44 : decode cX4_endNode 44 = .ok (.istore 4, 2) := by decide +kernel
theorem dX4_endNode_46 : decode cX4_endNode 46 = .ok (.iload_n 2, 1) := by decide +kernel
theorem dX4_endNode_47 : decode cX4_endNode 47 = .ok (.ifCond .lt 18, 3) := by decide +kernel
theorem dX4_endNode_50 : decode cX4_endNode 50 = .ok (.iload_n 2, 1) := by decide +kernel
theorem dX4_endNode_51 : decode cX4_endNode 51 = .ok (.sipush 200, 3) := by decide +kernel
theorem dX4_endNode_54 : decode cX4_endNode 54 = .ok (.if_icmp .ge 11, 3) := by decide +kernel
theorem dX4_endNode_57 : decode cX4_endNode 57 = .ok (.aload_n 0, 1) := by decide +kernel
theorem dX4_endNode_58 : decode cX4_endNode 58 = .ok (.getfield 24, 3) := by decide +kernel
theorem dX4_endNode_61 : decode cX4_endNode 61 = .ok (.iload_n 2, 1) := by decide +kernel
theorem dX4_endNode_62 : decode cX4_endNode 62 = .ok (.iload 4, 2) := by decide +kernel
theorem dX4_endNode_64 : decode cX4_endNode 64 = .ok (.iastore, 1) := by decide +kernel
theorem dX4_endNode_65 : decode cX4_endNode 65 = .ok (.iconst 0, 1) := by decide +kernel
theorem dX4_endNode_66 : decode cX4_endNode 66 = .ok (.istore 5, 2) := by decide +kernel
theorem dX4_endNode_68 : decode cX4_endNode 68 = .ok (.iload_n 3, 1) := by decide +kernel
theorem dX4_endNode_69 : decode cX4_endNode 69 = .ok (.iconst 2, 1) := by decide +kernel
theorem dX4_endNode_70 : decode cX4_endNode 70 = .ok (.if_icmp .ne 26, 3) := by decide +kernel
theorem dX4_endNode_73 : decode cX4_endNode 73 = .ok (.aload_n 0, 1) := by decide +kernel
theorem dX4_endNode_74 : decode cX4_endNode 74 = .ok (.iload 4, 2) := by decide +kernel
theorem dX4_endNode_76 : decode cX4_endNode 76 = .ok (.iload 5, 2) := by decide +kernel
theorem dX4_endNode_78 : decode cX4_endNode 78 = .ok (.aload_n 0, 1) := by decide +kernel
theorem dX4_endNode_79 : decode cX4_endNode 79 = .ok (.getfield 27, 3) := by decide +kernel
theorem dX4_endNode_82 : decode cX4_endNode 82 = .ok (.aload_n 1, 1) := by decide +kernel
theorem dX4_endNode_83 : decode cX4_endNode 83 = .ok (.iload_n 2, 1) := by decide +kernel
theorem dX4_endNode_84 : decode cX4_endNode 84 = .ok (.invokevirtual 68, 3) := by decide +kernel
theorem dX4_endNode_87 : decode cX4_endNode 87 = .ok (.invokestatic 34, 3) := by decide +kernel
theorem dX4_endNode_90 : decode cX4_endNode 90 = .ok (.invokevirtual 92, 3) := by decide +kernel
theorem dX4_endNode_93 : decode cX4_endNode 93 = .ok (.iinc 5 1, 3) := by decide +kernel
theorem dX4_endNode_96 : decode cX4_endNode 96 = .ok (.iload_n 2, 1) := by decide +kernel
theorem dX4_endNode_97 : decode cX4_endNode 97 = .ok (.iconst 1, 1) := by decide +kernel
theorem dX4_endNode_98 : decode cX4_endNode 98 = .ok (.iadd, 1) := by decide +kernel
theorem dX4_endNode_99 : decode cX4_endNode 99 = .ok (.istore 6, 2) := by decide +kernel
theorem dX4_endNode_101 : decode cX4_endNode 101 = .ok (.iconst 0, 1) := by decide +kernel
theorem dX4_endNode_102 : decode cX4_endNode 102 = .ok (.istore 7, 2) := by decide +kernel
theorem dX4_endNode_104 : decode cX4_endNode 104 = .ok (.iload 7, 2) := by decide +kernel
theorem dX4_endNode_106 : decode cX4_endNode 106 = .ok (.iload_n 3, 1) := by decide +kernel
theorem dX4_endNode_107 : decode cX4_endNode 107 = .ok (.invokestatic 96, 3) := by decide +kernel
theorem dX4_endNode_110 : decode cX4_endNode 110 = .ok (.if_icmp .ge 37, 3) := by decide +kernel
theorem dX4_endNode_113 : decode cX4_endNode 113 = .ok (.aload_n 0, 1) := by decide +kernel
theorem dX4_endNode_114 : decode cX4_endNode 114 = .ok (.iload 4, 2) := by decide +kernel
theorem dX4_endNode_116 : decode cX4_endNode 116 = .ok (.iload 5, 2) := by decide +kernel
theorem dX4_endNode_118 : decode cX4_endNode 118 = .ok (.aload_n 0, 1) := by decide +kernel
theorem dX4_endNode_119 : decode cX4_endNode 119 = .ok (.getfield 24, 3) := by decide +kernel
theorem dX4_endNode_122 : decode cX4_endNode 122 = .ok (.iload 6, 2) := by decide +kernel
theorem dX4_endNode_124 : decode cX4_endNode 124 = .ok (.invokestatic 34, 3) := by decide +kernel
theorem dX4_endNode_127 : decode cX4_endNode 127 = .ok (.invokevirtual 92, 3) := by decide +kernel
theorem dX4_endNode_130 : decode cX4_endNode 130 = .ok (.iinc 5 1, 3) := by decide +kernel
theorem dX4_endNode_133 : decode cX4_endNode 133 = .ok (.aload_n 1, 1) := by decide +kernel
theorem dX4_endNode_134 : decode cX4_endNode 134 = .ok (.iload 6, 2) := by decide +kernel
theorem dX4_endNode_136 : decode cX4_endNode 136 = .ok (.invokevirtual 99, 3) := by decide +kernel
theorem dX4_endNode_139 : decode cX4_endNode 139 = .ok (.istore 6, 2) := by decide +kernel
theorem dX4_endNode_141 : decode cX4_endNode 141 = .ok (.iinc 7 1, 3) := by decide +kernel
theorem dX4_endNode_144 : decode cX4_endNode 144 = .ok (.goto (-40), 3) := by decide +kernel
theorem dX4_endNode_147 : decode cX4_endNode 147 = .ok (.return_, 1) := by decide +kernel
theorem dX4_lineOfName_0 : decode cX4_lineOfName 0 = .ok (.iload_n 1, 1) := by decide +kernel
theorem dX4_lineOfName_1 : decode cX4_lineOfName 1 = .ok (.ifCond .ge 9, 3) := by decide +kernel
theorem dX4_lineOfName_4 : decode cX4_lineOfName 4 = .ok (.iconst (-1), 1) := by decide +kernel
theorem dX4_lineOfName_5 : decode cX4_lineOfName 5 = .ok (.iload_n 1, 1) := by decide +kernel
theorem dX4_lineOfName_6 : decode cX4_lineOfName 6 = .ok (.isub, 1) := by decide +kernel
theorem dX4_lineOfName_7 : decode cX4_lineOfName 7 = .ok (.goto 11, 3) := by decide +kernel
theorem dX4_lineOfName_10 : decode cX4_lineOfName 10 = .ok (.aload_n 0, 1) := by decide +kernel
theorem dX4_lineOfName_11 : decode cX4_lineOfName 11 = .ok (.getfield 27, 3) := by decide +kernel
theorem dX4_lineOfName_14 : decode cX4_lineOfName 14 = .ok (.iload_n 1, 1) := by decide +kernel
theorem dX4_lineOfName_15 : decode cX4_lineOfName 15 = .ok (.invokestatic 34, 3) := by decide +kernel
theorem dX4_lineOfName_18 : decode cX4_lineOfName 18 = .ok (.ireturn, 1) := by decide +kernel
theorem dX6_init_0 : decode cX6_init 0 = .ok (.aload_n 0, 1) := by decide +kernel
theorem dX6_init_1 : decode cX6_init 1 = .ok (.invokespecial 3, 3) := by decide +kernel
theorem dX6_init_4 : decode cX6_init 4 = .ok (.aload_n 0, 1) := by decide +kernel
theorem dX6_init_5 : decode cX6_init 5 = .ok (.bipush 22, 2) := by decide +kernel
theorem dX6_init_7 : decode cX6_init 7 = .ok (.newarray .long, 2) := by decide +kernel
theorem dX6_init_9 : decode cX6_init 9 = .ok (.putfield 9, 3) := by decide +kernel
theorem dX6_init_12 : decode cX6_init 12 = .ok (.aload_n 0, 1) := by decide +kernel
theorem dX6_init_13 : decode cX6_init 13 = .ok (.new 15, 3) := by decide +kernel
theorem dX6_init_16 : decode cX6_init 16 = .ok (.dup, 1) := by decide +kernel
theorem dX6_init_17 : decode cX6_init 17 = .ok (.invokespecial 17, 3) := by decide +kernel
theorem dX6_init_20 : decode cX6_init 20 = .ok (.putfield 18, 3) := by decide +kernel
theorem dX6_init_23 : decode cX6_init 23 = .ok (.aload_n 0, 1) := by decide +kernel
theorem dX6_init_24 : decode cX6_init 24 = .ok (.bipush 30, 2) := by decide +kernel
theorem dX6_init_26 : decode cX6_init 26 = .ok (.newarray .int, 2) := by decide +kernel
theorem dX6_init_28 : decode cX6_init 28 = .ok (.putfield 22, 3) := by decide +kernel
theorem dX6_init_31 : decode cX6_init 31 = .ok (.aload_n 0, 1) := by decide +kernel
theorem dX6_init_32 : decode cX6_init 32 = .ok (.sipush 854, 3) := by decide +kernel
theorem dX6_init_35 : decode cX6_init 35 = .ok (.newarray .int, 2) := by decide +kernel
theorem dX6_init_37 : decode cX6_init 37 = .ok (.putfield 26, 3) := by decide +kernel
theorem dX6_init_40 : decode cX6_init 40 = .ok (.aload_n 0, 1) := by decide +kernel
theorem dX6_init_41 : decode cX6_init 41 = .ok (.bipush 24, 2) := by decide +kernel
theorem dX6_init_43 : decode cX6_init 43 = .ok (.newarray .int, 2) := by decide +kernel
theorem dX6_init_45 : decode cX6_init 45 = .ok (.putfield 29, 3) := by decide +kernel
theorem dX6_init_48 : decode cX6_init 48 = .ok (.aload_n 0, 1) := by decide +kernel
theorem dX6_init_49 : decode cX6_init 49 = .ok (.bipush 120, 2) := by decide +kernel
theorem dX6_init_51 : decode cX6_init 51 = .ok (.newarray .int, 2) := by decide +kernel
theorem dX6_init_53 : decode cX6_init 53 = .ok (.putfield 32, 3) := by decide +kernel
theorem dX6_init_56 : decode cX6_init 56 = .ok (.aload_n 0, 1) := by decide +kernel
theorem dX6_init_57 : decode cX6_init 57 = .ok (.iconst (-1), 1) := by decide +kernel
theorem dX6_init_58 : decode cX6_init 58 = .ok (.putfield 35, 3) := by decide +kernel
theorem dX6_init_61 : decode cX6_init 61 = .ok (.aload_n 0, 1) := by decide +kernel
theorem dX6_init_62 : decode cX6_init 62 = .ok (.aload_n 1, 1) := by decide +kernel
theorem dX6_init_63 : decode cX6_init 63 = .ok (.putfield 39, 3) := by decide +kernel
theorem dX6_init_66 : decode cX6_init 66 = .ok (.aload_n 0, 1) := by decide +kernel
theorem dX6_init_67 : decode cX6_init 67 = .ok (.aload_n 2, 1) := by decide +kernel
theorem dX6_init_68 : decode cX6_init 68 = .ok (.putfield 43, 3) := by decide +kernel
theorem dX6_init_71 : decode cX6_init 71 = .ok (.iconst 0, 1) := by decide +kernel
theorem dX6_init_72 : decode cX6_init 72 = .ok (.istore_n 3, 1) := by decide +kernel
theorem dX6_init_73 : decode cX6_init 73 = .ok (.iload_n 3, 1) := by decide +kernel
theorem dX6_init_74 : decode cX6_init 74 = .ok (.bipush 22, 2) := by decide +kernel
theorem dX6_init_76 : decode cX6_init 76 = .ok (.if_icmp .ge 53, 3) := by decide +kernel
theorem dX6_init_79 : decode cX6_init 79 = .ok (.lconst 0, 1) := by decide +kernel
theorem dX6_init_80 : decode cX6_init 80 = .ok (.lstore 4, 2) := by decide +kernel
theorem dX6_init_82 : decode cX6_init 82 = .ok (.iconst 0, 1) := by decide +kernel
theorem dX6_init_83 : decode cX6_init 83 = .ok (.istore 6, 2) := by decide +kernel
theorem dX6_init_85 : decode cX6_init 85 = .ok (.iload 6, 2) := by decide +kernel
theorem dX6_init_87 : decode cX6_init 87 = .ok (.iload_n 3, 1) := by decide +kernel
theorem dX6_init_88 : decode cX6_init 88 = .ok (.invokestatic 46, 3) := by decide +kernel
theorem dX6_init_91 : decode cX6_init 91 = .ok (.if_icmp .ge 24, 3) := by decide +kernel
theorem dX6_init_94 : decode cX6_init 94 = .ok (.lload 4, 2) := by decide +kernel
theorem dX6_init_96 : decode cX6_init 96 = .ok (.bipush 8, 2) := by decide +kernel
theorem dX6_init_98 : decode cX6_init 98 = .ok (.lshl, 1) := by decide +kernel
theorem dX6_init_99 : decode cX6_init 99 = .ok (.iload_n 3, 1) := by decide +kernel
theorem dX6_init_100 : decode cX6_init 100 = .ok (.iload 6, 2) := by decide +kernel
theorem dX6_init_102 : decode cX6_init 102 = .ok (.invokestatic 50, 3) := by decide +kernel
theorem dX6_init_105 : decode cX6_init 105 = .ok (.i2l, 1) := by decide +kernel
theorem dX6_init_106 : decode cX6_init 106 = .ok (.lor, 1) := by decide +kernel
theorem dX6_init_107 : decode cX6_init 107 = .ok (.lstore 4, 2) := by decide +kernel
theorem dX6_init_109 : decode cX6_init 109 = .ok (.iinc 6 1, 3) := by decide +kernel
theorem dX6_init_112 : decode cX6_init 112 = .ok (.goto (-27), 3) := by decide +kernel
theorem dX6_init_115 : decode cX6_init 115 = .ok (.aload_n 0, 1) := by decide +kernel
theorem dX6_init_116 : decode cX6_init 116 = .ok (.getfield 9, 3) := by decide +kernel
theorem dX6_init_119 : decode cX6_init 119 = .ok (.iload_n 3, 1) := by decide +kernel
theorem dX6_init_120 : decode cX6_init 120 = .ok (.lload 4, 2) := by decide +kernel
theorem dX6_init_122 : decode cX6_init 122 = .ok (.lastore, 1) := by decide +kernel
theorem dX6_init_123 : decode cX6_init 123 = .ok (.iinc 3 1, 3) := by decide +kernel
theorem dX6_init_126 : decode cX6_init 126 = .ok (.goto (-53), 3) := by decide +kernel
theorem dX6_init_129 : decode cX6_init 129 = .ok (.return_, 1) := by decide +kernel
theorem dX6_begin_0 : decode cX6_begin 0 = .ok (.aload_n 0, 1) := by decide +kernel
theorem dX6_begin_1 : decode cX6_begin 1 = .ok (.iload_n 1, 1) := by decide +kernel
theorem dX6_begin_2 : decode cX6_begin 2 = .ok (.aload_n 0, 1) := by decide +kernel
theorem dX6_begin_3 : decode cX6_begin 3 = .ok (.getfield 43, 3) := by decide +kernel
theorem dX6_begin_6 : decode cX6_begin 6 = .ok (.arraylength, 1) := by decide +kernel
theorem dX6_begin_7 : decode cX6_begin 7 = .ok (.invokestatic 54, 3) := by decide +kernel
theorem dX6_begin_10 : decode cX6_begin 10 = .ok (.putfield 59, 3) := by decide +kernel
theorem dX6_begin_13 : decode cX6_begin 13 = .ok (.aload_n 0, 1) := by decide +kernel
theorem dX6_begin_14 : decode cX6_begin 14 = .ok (.iconst 0, 1) := by decide +kernel
theorem dX6_begin_15 : decode cX6_begin 15 = .ok (.putfield 62, 3) := by decide +kernel
theorem dX6_begin_18 : decode cX6_begin 18 = .ok (.aload_n 0, 1) := by decide +kernel
theorem dX6_begin_19 : decode cX6_begin 19 = .ok (.iconst 0, 1) := by decide +kernel
theorem dX6_begin_20 : decode cX6_begin 20 = .ok (.putfield 65, 3) := by decide +kernel
theorem dX6_begin_23 : decode cX6_begin 23 = .ok (.aload_n 0, 1) := by decide +kernel
theorem dX6_begin_24 : decode cX6_begin 24 = .ok (.iconst (-1), 1) := by decide +kernel
theorem dX6_begin_25 : decode cX6_begin 25 = .ok (.putfield 35, 3) := by decide +kernel
theorem dX6_begin_28 : decode cX6_begin 28 = .ok (.return_, 1) := by decide +kernel
theorem dX6_fail_0 : decode cX6_fail 0 = .ok (.aload_n 0, 1) := by decide +kernel
theorem dX6_fail_1 : decode cX6_fail 1 = .ok (.iload_n 1, 1) := by decide +kernel
theorem dX6_fail_2 : decode cX6_fail 2 = .ok (.putfield 65, 3) := by decide +kernel
theorem dX6_fail_5 : decode cX6_fail 5 = .ok (.aload_n 0, 1) := by decide +kernel
theorem dX6_fail_6 : decode cX6_fail 6 = .ok (.iload_n 2, 1) := by decide +kernel
theorem dX6_fail_7 : decode cX6_fail 7 = .ok (.putfield 35, 3) := by decide +kernel
theorem dX6_fail_10 : decode cX6_fail 10 = .ok (.iconst 0, 1) := by decide +kernel
theorem dX6_fail_11 : decode cX6_fail 11 = .ok (.ireturn, 1) := by decide +kernel
theorem dX6_isLetter_0 : decode cX6_isLetter 0 = .ok (.iload_n 0, 1) := by decide +kernel
theorem dX6_isLetter_1 : decode cX6_isLetter 1 = .ok (.bipush 97, 2) := by decide +kernel
theorem dX6_isLetter_3 : decode cX6_isLetter 3 = .ok (.if_icmp .lt 13, 3) := by decide +kernel
theorem dX6_isLetter_6 : decode cX6_isLetter 6 = .ok (.iload_n 0, 1) := by decide +kernel
theorem dX6_isLetter_7 : decode cX6_isLetter 7 = .ok (.bipush 122, 2) := by decide +kernel
theorem dX6_isLetter_9 : decode cX6_isLetter 9 = .ok (.if_icmp .gt 7, 3) := by decide +kernel
theorem dX6_isLetter_12 : decode cX6_isLetter 12 = .ok (.iconst 1, 1) := by decide +kernel
theorem dX6_isLetter_13 : decode cX6_isLetter 13 = .ok (.goto 4, 3) := by decide +kernel
theorem dX6_isLetter_16 : decode cX6_isLetter 16 = .ok (.iconst 0, 1) := by decide +kernel
theorem dX6_isLetter_17 : decode cX6_isLetter 17 = .ok (.ireturn, 1) := by decide +kernel
theorem dX6_advance_0 : decode cX6_advance 0 = .ok (.aload_n 0, 1) := by decide +kernel
theorem dX6_advance_1 : decode cX6_advance 1 = .ok (.getfield 62, 3) := by decide +kernel
theorem dX6_advance_4 : decode cX6_advance 4 = .ok (.aload_n 0, 1) := by decide +kernel
theorem dX6_advance_5 : decode cX6_advance 5 = .ok (.getfield 59, 3) := by decide +kernel
theorem dX6_advance_8 : decode cX6_advance 8 = .ok (.if_icmp .ge 30, 3) := by decide +kernel
theorem dX6_advance_11 : decode cX6_advance 11 = .ok (.aload_n 0, 1) := by decide +kernel
theorem dX6_advance_12 : decode cX6_advance 12 = .ok (.getfield 43, 3) := by decide +kernel
theorem dX6_advance_15 : decode cX6_advance 15 = .ok (.aload_n 0, 1) := by decide +kernel
theorem dX6_advance_16 : decode cX6_advance 16 = .ok (.getfield 62, 3) := by decide +kernel
theorem dX6_advance_19 : decode cX6_advance 19 = .ok (.iaload, 1) := by decide +kernel
theorem dX6_advance_20 : decode cX6_advance 20 = .ok (.bipush 32, 2) := by decide +kernel
theorem dX6_advance_22 : decode cX6_advance 22 = .ok (.if_icmp .ne 16, 3) := by decide +kernel
theorem dX6_advance_25 : decode cX6_advance 25 = .ok (.aload_n 0, 1) := by decide +kernel
theorem dX6_advance_26 : decode cX6_advance 26 = .ok (.dup, 1) := by decide +kernel
theorem dX6_advance_27 : decode cX6_advance 27 = .ok (.getfield 62, 3) := by decide +kernel
theorem dX6_advance_30 : decode cX6_advance 30 = .ok (.iconst 1, 1) := by decide +kernel
theorem dX6_advance_31 : decode cX6_advance 31 = .ok (.iadd, 1) := by decide +kernel
theorem dX6_advance_32 : decode cX6_advance 32 = .ok (.putfield 62, 3) := by decide +kernel
theorem dX6_advance_35 : decode cX6_advance 35 = .ok (.goto (-35), 3) := by decide +kernel
theorem dX6_advance_38 : decode cX6_advance 38 = .ok (.aload_n 0, 1) := by decide +kernel
theorem dX6_advance_39 : decode cX6_advance 39 = .ok (.aload_n 0, 1) := by decide +kernel
theorem dX6_advance_40 : decode cX6_advance 40 = .ok (.getfield 62, 3) := by decide +kernel
theorem dX6_advance_43 : decode cX6_advance 43 = .ok (.putfield 68, 3) := by decide +kernel
theorem dX6_advance_46 : decode cX6_advance 46 = .ok (.aload_n 0, 1) := by decide +kernel
theorem dX6_advance_47 : decode cX6_advance 47 = .ok (.lconst 0, 1) := by decide +kernel
theorem dX6_advance_48 : decode cX6_advance 48 = .ok (.putfield 71, 3) := by decide +kernel
theorem dX6_advance_51 : decode cX6_advance 51 = .ok (.aload_n 0, 1) := by decide +kernel
theorem dX6_advance_52 : decode cX6_advance 52 = .ok (.getfield 62, 3) := by decide +kernel
theorem dX6_advance_55 : decode cX6_advance 55 = .ok (.aload_n 0, 1) := by decide +kernel
theorem dX6_advance_56 : decode cX6_advance 56 = .ok (.getfield 59, 3) := by decide +kernel
theorem dX6_advance_59 : decode cX6_advance 59 = .ok (.if_icmp .lt 18, 3) := by decide +kernel
theorem dX6_advance_62 : decode cX6_advance 62 = .ok (.aload_n 0, 1) := by decide +kernel
theorem dX6_advance_63 : decode cX6_advance 63 = .ok (.aload_n 0, 1) := by decide +kernel
theorem dX6_advance_64 : decode cX6_advance 64 = .ok (.getfield 59, 3) := by decide +kernel
theorem dX6_advance_67 : decode cX6_advance 67 = .ok (.putfield 68, 3) := by decide +kernel
theorem dX6_advance_70 : decode cX6_advance 70 = .ok (.aload_n 0, 1) := by decide +kernel
theorem dX6_advance_71 : decode cX6_advance 71 = .ok (.bipush (-3), 2) := by decide +kernel
theorem dX6_advance_73 : decode cX6_advance 73 = .ok (.putfield 75, 3) := by decide +kernel
theorem dX6_advance_76 : decode cX6_advance 76 = .ok (.return_, 1) := by decide +kernel
theorem dX6_advance_77 : decode cX6_advance 77 = .ok (.aload_n 0, 1) := by decide +kernel
theorem dX6_advance_78 : decode cX6_advance 78 = .ok (.getfield 43, 3) := by decide +kernel
theorem dX6_advance_81 : decode cX6_advance 81 = .ok (.aload_n 0, 1) := by decide +kernel
theorem dX6_advance_82 : decode cX6_advance 82 = .ok (.getfield 62, 3) := by decide +kernel
theorem dX6_advance_85 : decode cX6_advance 85 = .ok (.iaload, 1) := by decide +kernel
theorem dX6_advance_86 : decode cX6_advance 86 = .ok (.invokestatic 78, 3) := by decide +kernel
theorem dX6_advance_89 : decode cX6_advance 89 = .ok (.ifCond .ne 34, 3) := by decide +kernel
theorem dX6_advance_92 : decode cX6_advance 92 = .ok (.aload_n 0, 1) := by decide +kernel
theorem dX6_advance_93 : decode cX6_advance 93 = .ok (.aload_n 0, 1) := by decide +kernel
theorem dX6_advance_94 : decode cX6_advance 94 = .ok (.getfield 43, 3) := by decide +kernel
theorem dX6_advance_97 : decode cX6_advance 97 = .ok (.aload_n 0, 1) := by decide +kernel
theorem dX6_advance_98 : decode cX6_advance 98 = .ok (.getfield 62, 3) := by decide +kernel
theorem dX6_advance_101 : decode cX6_advance 101 = .ok (.iaload, 1) := by decide +kernel
theorem dX6_advance_102 : decode cX6_advance 102 = .ok (.i2l, 1) := by decide +kernel
theorem dX6_advance_103 : decode cX6_advance 103 = .ok (.putfield 71, 3) := by decide +kernel
theorem dX6_advance_106 : decode cX6_advance 106 = .ok (.aload_n 0, 1) := by decide +kernel
theorem dX6_advance_107 : decode cX6_advance 107 = .ok (.dup, 1) := by decide +kernel
theorem dX6_advance_108 : decode cX6_advance 108 = .ok (.getfield 62, 3) := by decide +kernel
theorem dX6_advance_111 : decode cX6_advance 111 = .ok (.iconst 1, 1) := by decide +kernel
theorem dX6_advance_112 : decode cX6_advance 112 = .ok (.iadd, 1) := by decide +kernel
theorem dX6_advance_113 : decode cX6_advance 113 = .ok (.putfield 62, 3) := by decide +kernel
theorem dX6_advance_116 : decode cX6_advance 116 = .ok (.aload_n 0, 1) := by decide +kernel
theorem dX6_advance_117 : decode cX6_advance 117 = .ok (.bipush (-2), 2) := by decide +kernel
theorem dX6_advance_119 : decode cX6_advance 119 = .ok (.putfield 75, 3) := by decide +kernel
theorem dX6_advance_122 : decode cX6_advance 122 = .ok (.return_, 1) := by decide +kernel
theorem dX6_advance_123 : decode cX6_advance 123 = .ok (.aload_n 0, 1) := by decide +kernel
theorem dX6_advance_124 : decode cX6_advance 124 = .ok (.getfield 62, 3) := by decide +kernel
theorem dX6_advance_127 : decode cX6_advance 127 = .ok (.aload_n 0, 1) := by decide +kernel
theorem dX6_advance_128 : decode cX6_advance 128 = .ok (.getfield 59, 3) := by decide +kernel
theorem dX6_advance_131 : decode cX6_advance 131 = .ok (.if_icmp .ge 66, 3) := by decide +kernel
theorem dX6_advance_134 : decode cX6_advance 134 = .ok (.aload_n 0, 1) := by decide +kernel
theorem dX6_advance_135 : decode cX6_advance 135 = .ok (.getfield 43, 3) := by decide +kernel
theorem dX6_advance_138 : decode cX6_advance 138 = .ok (.aload_n 0, 1) := by decide +kernel
theorem dX6_advance_139 : decode cX6_advance 139 = .ok (.getfield 62, 3) := by decide +kernel
theorem dX6_advance_142 : decode cX6_advance 142 = .ok (.iaload, 1) := by decide +kernel
theorem dX6_advance_143 : decode cX6_advance 143 = .ok (.invokestatic 78, 3) := by decide +kernel
theorem dX6_advance_146 : decode cX6_advance 146 = .ok (.ifCond .eq 51, 3) := by decide +kernel
theorem dX6_advance_149 : decode cX6_advance 149 = .ok (.aload_n 0, 1) := by decide +kernel
theorem dX6_advance_150 : decode cX6_advance 150 = .ok (.getfield 62, 3) := by decide +kernel
theorem dX6_advance_153 : decode cX6_advance 153 = .ok (.aload_n 0, 1) := by decide +kernel
theorem dX6_advance_154 : decode cX6_advance 154 = .ok (.getfield 68, 3) := by decide +kernel
theorem dX6_advance_157 : decode cX6_advance 157 = .ok (.isub, 1) := by decide +kernel
theorem dX6_advance_158 : decode cX6_advance 158 = .ok (.iconst 5, 1) := by decide +kernel
theorem dX6_advance_159 : decode cX6_advance 159 = .ok (.if_icmp .ge 25, 3) := by decide +kernel
theorem dX6_advance_162 : decode cX6_advance 162 = .ok (.aload_n 0, 1) := by decide +kernel
theorem dX6_advance_163 : decode cX6_advance 163 = .ok (.aload_n 0, 1) := by decide +kernel
theorem dX6_advance_164 : decode cX6_advance 164 = .ok (.getfield 71, 3) := by decide +kernel
theorem dX6_advance_167 : decode cX6_advance 167 = .ok (.bipush 8, 2) := by decide +kernel
theorem dX6_advance_169 : decode cX6_advance 169 = .ok (.lshl, 1) := by decide +kernel
theorem dX6_advance_170 : decode cX6_advance 170 = .ok (.aload_n 0, 1) := by decide +kernel
theorem dX6_advance_171 : decode cX6_advance 171 = .ok (.getfield 43, 3) := by decide +kernel
theorem dX6_advance_174 : decode cX6_advance 174 = .ok (.aload_n 0, 1) := by decide +kernel
theorem dX6_advance_175 : decode cX6_advance 175 = .ok (.getfield 62, 3) := by decide +kernel
theorem dX6_advance_178 : decode cX6_advance 178 = .ok (.iaload, 1) := by decide +kernel
theorem dX6_advance_179 : decode cX6_advance 179 = .ok (.i2l, 1) := by decide +kernel
theorem dX6_advance_180 : decode cX6_advance 180 = .ok (.lor, 1) := by decide +kernel
theorem dX6_advance_181 : decode cX6_advance 181 = .ok (.putfield 71, 3) := by decide +kernel
theorem dX6_advance_184 : decode cX6_advance 184 = .ok (.aload_n 0, 1) := by decide +kernel
theorem dX6_advance_185 : decode cX6_advance 185 = .ok (.dup, 1) := by decide +kernel
theorem dX6_advance_186 : decode cX6_advance 186 = .ok (.getfield 62, 3) := by decide +kernel
theorem dX6_advance_189 : decode cX6_advance 189 = .ok (.iconst 1, 1) := by decide +kernel
theorem dX6_advance_190 : decode cX6_advance 190 = .ok (.iadd, 1) := by decide +kernel
theorem dX6_advance_191 : decode cX6_advance 191 = .ok (.putfield 62, 3) := by decide +kernel
theorem dX6_advance_194 : decode cX6_advance 194 = .ok (.goto (-71), 3) := by decide +kernel
theorem dX6_advance_197 : decode cX6_advance 197 = .ok (.aload_n 0, 1) := by decide +kernel
theorem dX6_advance_198 : decode cX6_advance 198 = .ok (.aload_n 0, 1) := by decide +kernel
theorem dX6_advance_199 : decode cX6_advance 199 = .ok (.getfield 62, 3) := by decide +kernel
theorem dX6_advance_202 : decode cX6_advance 202 = .ok (.aload_n 0, 1) := by decide +kernel
theorem dX6_advance_203 : decode cX6_advance 203 = .ok (.getfield 68, 3) := by decide +kernel
theorem dX6_advance_206 : decode cX6_advance 206 = .ok (.isub, 1) := by decide +kernel
theorem dX6_advance_207 : decode cX6_advance 207 = .ok (.iconst 5, 1) := by decide +kernel
theorem dX6_advance_208 : decode cX6_advance 208 = .ok (.if_icmp .le 7, 3) := by decide +kernel
theorem dX6_advance_211 : decode cX6_advance 211 = .ok (.iconst (-1), 1) := by decide +kernel
theorem dX6_advance_212 : decode cX6_advance 212 = .ok (.goto 11, 3) := by decide +kernel
theorem dX6_advance_215 : decode cX6_advance 215 = .ok (.aload_n 0, 1) := by decide +kernel
theorem dX6_advance_216 : decode cX6_advance 216 = .ok (.aload_n 0, 1) := by decide +kernel
theorem dX6_advance_217 : decode cX6_advance 217 = .ok (.getfield 71, 3) := by decide +kernel
theorem dX6_advance_220 : decode cX6_advance 220 = .ok (.invokevirtual 82, 3) := by decide +kernel
theorem dX6_advance_223 : decode cX6_advance 223 = .ok (.putfield 75, 3) := by decide +kernel
theorem dX6_advance_226 : decode cX6_advance 226 = .ok (.return_, 1) := by decide +kernel
theorem dX6_codeOf_0 : decode cX6_codeOf 0 = .ok (.iconst 0, 1) := by decide +kernel
theorem dX6_codeOf_1 : decode cX6_codeOf 1 = .ok (.istore_n 3, 1) := by decide +kernel
theorem dX6_codeOf_2 : decode cX6_codeOf 2 = .ok (.iload_n 3, 1) := by decide +kernel
theorem dX6_codeOf_3 : decode cX6_codeOf 3 = .ok (.bipush 22, 2) := by decide +kernel
theorem dX6_codeOf_5 : decode cX6_codeOf 5 = .ok (.if_icmp .ge 22, 3) := by decide +kernel
theorem dX6_codeOf_8 : decode cX6_codeOf 8 = .ok (.aload_n 0, 1) := by decide +kernel
theorem dX6_codeOf_9 : decode cX6_codeOf 9 = .ok (.getfield 9, 3) := by decide +kernel
theorem dX6_codeOf_12 : decode cX6_codeOf 12 = .ok (.iload_n 3, 1) := by decide +kernel
theorem dX6_codeOf_13 : decode cX6_codeOf 13 = .ok (.laload, 1) := by decide +kernel
theorem dX6_codeOf_14 : decode cX6_codeOf 14 = .ok (.lload_n 1, 1) := by decide +kernel
theorem dX6_codeOf_15 : decode cX6_codeOf 15 = .ok (.lcmp, 1) := by decide +kernel
theorem dX6_codeOf_16 : decode cX6_codeOf 16 = .ok (.ifCond .ne 5, 3) := by decide +kernel
theorem dX6_codeOf_19 : decode cX6_codeOf 19 = .ok (.iload_n 3, 1) := by decide +kernel
theorem dX6_codeOf_20 : decode cX6_codeOf 20 = .ok (.ireturn, 1) := by decide +kernel
theorem dX6_codeOf_21 : decode cX6_codeOf 21 = .ok (.iinc 3 1, 3) := by decide +kernel
theorem dX6_codeOf_24 : decode cX6_codeOf 24 = .ok (.goto (-22), 3) := by decide +kernel
theorem dX6_codeOf_27 : decode cX6_codeOf 27 = .ok (.iconst (-1), 1) := by decide +kernel
theorem dX6_codeOf_28 : decode cX6_codeOf 28 = .ok (.ireturn, 1) := by decide +kernel
theorem dX6_wordLetters_0 : decode cX6_wordLetters 0 = .ok (.aload_n 0, 1) := by decide +kernel
theorem dX6_wordLetters_1 : decode cX6_wordLetters 1 = .ok (.getfield 62, 3) := by decide +kernel
theorem dX6_wordLetters_4 : decode cX6_wordLetters 4 = .ok (.aload_n 0, 1) := by decide +kernel
theorem dX6_wordLetters_5 : decode cX6_wordLetters 5 = .ok (.getfield 68, 3) := by decide +kernel
theorem dX6_wordLetters_8 : decode cX6_wordLetters 8 = .ok (.isub, 1) := by decide +kernel
theorem dX6_wordLetters_9 : decode cX6_wordLetters 9 = .ok (.ireturn, 1) := by decide +kernel
theorem dX6_atName_0 : decode cX6_atName 0 = .ok (.aload_n 0, 1) := by decide +kernel
theorem dX6_atName_1 : decode cX6_atName 1 = .ok (.getfield 75, 3) := by decide +kernel
theorem dX6_atName_4 : decode cX6_atName 4 = .ok (.iconst (-1), 1) := by decide +kernel
theorem dX6_atName_5 : decode cX6_atName 5 = .ok (.if_icmp .lt 24, 3) := by decide +kernel
theorem dX6_atName_8 : decode cX6_atName 8 = .ok (.aload_n 0, 1) := by decide +kernel
theorem dX6_atName_9 : decode cX6_atName 9 = .ok (.getfield 75, 3) := by decide +kernel
theorem dX6_atName_12 : decode cX6_atName 12 = .ok (.bipush 7, 2) := by decide +kernel
theorem dX6_atName_14 : decode cX6_atName 14 = .ok (.if_icmp .gt 15, 3) := by decide +kernel
theorem dX6_atName_17 : decode cX6_atName 17 = .ok (.aload_n 0, 1) := by decide +kernel
theorem dX6_atName_18 : decode cX6_atName 18 = .ok (.invokevirtual 86, 3) := by decide +kernel
theorem dX6_atName_21 : decode cX6_atName 21 = .ok (.iconst 4, 1) := by decide +kernel
theorem dX6_atName_22 : decode cX6_atName 22 = .ok (.if_icmp .gt 7, 3) := by decide +kernel
theorem dX6_atName_25 : decode cX6_atName 25 = .ok (.iconst 1, 1) := by decide +kernel
theorem dX6_atName_26 : decode cX6_atName 26 = .ok (.goto 4, 3) := by decide +kernel
theorem dX6_atName_29 : decode cX6_atName 29 = .ok (.iconst 0, 1) := by decide +kernel
theorem dX6_atName_30 : decode cX6_atName 30 = .ok (.ireturn, 1) := by decide +kernel
theorem dX6_nameRead_0 : decode cX6_nameRead 0 = .ok (.aload_n 0, 1) := by decide +kernel
theorem dX6_nameRead_1 : decode cX6_nameRead 1 = .ok (.getfield 71, 3) := by decide +kernel
theorem dX6_nameRead_4 : decode cX6_nameRead 4 = .ok (.bipush 8, 2) := by decide +kernel
theorem dX6_nameRead_6 : decode cX6_nameRead 6 = .ok (.iconst 4, 1) := by decide +kernel
theorem dX6_nameRead_7 : decode cX6_nameRead 7 = .ok (.iconst 4, 1) := by decide +kernel
theorem dX6_nameRead_8 : decode cX6_nameRead 8 = .ok (.aload_n 0, 1) := by decide +kernel
theorem dX6_nameRead_9 : decode cX6_nameRead 9 = .ok (.invokevirtual 86, 3) := by decide +kernel
theorem dX6_nameRead_12 : decode cX6_nameRead 12 = .ok (.invokestatic 54, 3) := by decide +kernel
theorem dX6_nameRead_15 : decode cX6_nameRead 15 = .ok (.isub, 1) := by decide +kernel
theorem dX6_nameRead_16 : decode cX6_nameRead 16 = .ok (.imul, 1) := by decide +kernel
theorem dX6_nameRead_17 : decode cX6_nameRead 17 = .ok (.lshl, 1) := by decide +kernel
theorem dX6_nameRead_18 : decode cX6_nameRead 18 = .ok (.l2i, 1) := by decide +kernel
theorem dX6_nameRead_19 : decode cX6_nameRead 19 = .ok (.ireturn, 1) := by decide +kernel
theorem dX6_readHypotheses_0 : decode cX6_readHypotheses 0 = .ok (.aload_n 0, 1) := by decide +kernel
theorem dX6_readHypotheses_1 : decode cX6_readHypotheses 1 = .ok (.iload_n 1, 1) := by decide +kernel
theorem dX6_readHypotheses_2 : decode cX6_readHypotheses 2 = .ok (.invokevirtual 90, 3) := by decide +kernel
theorem dX6_readHypotheses_5 : decode cX6_readHypotheses 5 = .ok (.aload_n 0, 1) := by decide +kernel
theorem dX6_readHypotheses_6 : decode cX6_readHypotheses 6 = .ok (.getfield 18, 3) := by decide +kernel
theorem dX6_readHypotheses_9 : decode cX6_readHypotheses 9 = .ok (.invokevirtual 94, 3) := by decide +kernel
theorem dX6_readHypotheses_12 : decode cX6_readHypotheses 12 = .ok (.iconst 0, 1) := by decide +kernel
theorem dX6_readHypotheses_13 : decode cX6_readHypotheses 13 = .ok (.istore_n 2, 1) := by decide +kernel
theorem dX6_readHypotheses_14 : decode cX6_readHypotheses 14 = .ok (.iload_n 2, 1) := by decide +kernel
theorem dX6_readHypotheses_15 : decode cX6_readHypotheses 15 = .ok (.bipush 6, 2) := by decide +kernel
theorem dX6_readHypotheses_17 : decode cX6_readHypotheses 17 = .ok (.if_icmp .gt 33, 3) := by decide +kernel
theorem dX6_readHypotheses_20 : decode cX6_readHypotheses 20 = .ok (.aload_n 0, 1) := by decide +kernel
theorem dX6_readHypotheses_21 : decode cX6_readHypotheses 21 = .ok (.invokevirtual 97, 3) := by decide +kernel
theorem dX6_readHypotheses_24 : decode cX6_readHypotheses 24 = .ok (.aload_n 0, 1) := by decide +kernel
theorem dX6_readHypotheses_25 : decode cX6_readHypotheses 25 = .ok (.getfield 75, 3) := by decide +kernel
theorem dX6_readHypotheses_28 : decode cX6_readHypotheses 28 = .ok (.bipush (-3), 2) := by decide +kernel
theorem dX6_readHypotheses_30 : decode cX6_readHypotheses 30 = .ok (.if_icmp .ne 5, 3) := by decide +kernel
theorem dX6_readHypotheses_33 : decode cX6_readHypotheses 33 = .ok (.iconst 1, 1) := by decide +kernel
theorem dX6_readHypotheses_34 : decode cX6_readHypotheses 34 = .ok (.ireturn, 1) := by decide +kernel
theorem dX6_readHypotheses_35 : decode cX6_readHypotheses 35 = .ok (.aload_n 0, 1) := by decide +kernel
theorem dX6_readHypotheses_36 : decode cX6_readHypotheses 36 = .ok (.invokevirtual 100, 3) := by decide +kernel
theorem dX6_readHypotheses_39 : decode cX6_readHypotheses 39 = .ok (.ifCond .ne 5, 3) := by decide +kernel
theorem dX6_readHypotheses_42 : decode cX6_readHypotheses 42 = .ok (.iconst 0, 1) := by decide +kernel
theorem dX6_readHypotheses_43 : decode cX6_readHypotheses 43 = .ok (.ireturn, 1) := by decide +kernel
theorem dX6_readHypotheses_44 : decode cX6_readHypotheses 44 = .ok (.iinc 2 1, 3) := by decide +kernel
theorem dX6_readHypotheses_47 : decode cX6_readHypotheses 47 = .ok (.goto (-33), 3) := by decide +kernel
theorem dX6_readHypotheses_50 : decode cX6_readHypotheses 50 = .ok (.iconst 0, 1) := by decide +kernel
theorem dX6_readHypotheses_51 : decode cX6_readHypotheses 51 = .ok (.ireturn, 1) := by decide +kernel
theorem dX6_readHypothesis_0 : decode cX6_readHypothesis 0 = .ok (.aload_n 0, 1) := by decide +kernel
theorem dX6_readHypothesis_1 : decode cX6_readHypothesis 1 = .ok (.invokevirtual 104, 3) := by decide +kernel
theorem dX6_readHypothesis_4 : decode cX6_readHypothesis 4 = .ok (.ifCond .ne 13, 3) := by decide +kernel
theorem dX6_readHypothesis_7 : decode cX6_readHypothesis 7 = .ok (.aload_n 0, 1) := by decide +kernel
theorem dX6_readHypothesis_8 : decode cX6_readHypothesis 8 = .ok (.iconst 1, 1) := by decide +kernel
theorem dX6_readHypothesis_9 : decode cX6_readHypothesis 9 = .ok (.aload_n 0, 1) := by decide +kernel
theorem dX6_readHypothesis_10 : decode cX6_readHypothesis 10 = .ok (.getfield 68, 3) := by decide +kernel
theorem dX6_readHypothesis_13 : decode cX6_readHypothesis 13 = .ok (.invokevirtual 107, 3) := by decide +kernel
theorem dX6_readHypothesis_16 : decode cX6_readHypothesis 16 = .ok (.ireturn, 1) := by decide +kernel
theorem dX6_readHypothesis_17 : decode cX6_readHypothesis 17 = .ok (.aload_n 0, 1) := by decide +kernel
theorem dX6_readHypothesis_18 : decode cX6_readHypothesis 18 = .ok (.invokevirtual 111, 3) := by decide +kernel
theorem dX6_readHypothesis_21 : decode cX6_readHypothesis 21 = .ok (.istore_n 1, 1) := by decide +kernel
theorem dX6_readHypothesis_22 : decode cX6_readHypothesis 22 = .ok (.iload_n 1, 1) := by decide +kernel
theorem dX6_readHypothesis_23 : decode cX6_readHypothesis 23 = .ok (.iconst 0, 1) := by decide +kernel
theorem dX6_readHypothesis_24 : decode cX6_readHypothesis 24 = .ok (.invokestatic 114, 3) := by decide +kernel
theorem dX6_readHypothesis_27 : decode cX6_readHypothesis 27 = .ok (.bipush 120, 2) := by decide +kernel
theorem dX6_readHypothesis_29 : decode cX6_readHypothesis 29 = .ok (.if_icmp .ne 15, 3) := by decide +kernel
theorem dX6_readHypothesis_32 : decode cX6_readHypothesis 32 = .ok (.aload_n 0, 1) := by decide +kernel
theorem dX6_readHypothesis_33 : decode cX6_readHypothesis 33 = .ok (.invokevirtual 86, 3) := by decide +kernel
theorem dX6_readHypothesis_36 : decode cX6_readHypothesis 36 = .ok (.iconst 1, 1) := by decide +kernel
theorem dX6_readHypothesis_37 : decode cX6_readHypothesis 37 = .ok (.if_icmp .le 7, 3) := by decide +kernel
theorem dX6_readHypothesis_40 : decode cX6_readHypothesis 40 = .ok (.iconst 1, 1) := by decide +kernel
theorem dX6_readHypothesis_41 : decode cX6_readHypothesis 41 = .ok (.goto 4, 3) := by decide +kernel
theorem dX6_readHypothesis_44 : decode cX6_readHypothesis 44 = .ok (.iconst 0, 1) := by decide +kernel
theorem dX6_readHypothesis_45 : decode cX6_readHypothesis 45 = .ok (.istore_n 2, 1) := by decide +kernel
theorem dX6_readHypothesis_46 : decode cX6_readHypothesis 46 = .ok (.iload_n 2, 1) := by decide +kernel
theorem dX6_readHypothesis_47 : decode cX6_readHypothesis 47 = .ok (.ifCond .ne 15, 3) := by decide +kernel
theorem dX6_readHypothesis_50 : decode cX6_readHypothesis 50 = .ok (.aload_n 0, 1) := by decide +kernel
theorem dX6_readHypothesis_51 : decode cX6_readHypothesis 51 = .ok (.getfield 18, 3) := by decide +kernel
theorem dX6_readHypothesis_54 : decode cX6_readHypothesis 54 = .ok (.iload_n 1, 1) := by decide +kernel
theorem dX6_readHypothesis_55 : decode cX6_readHypothesis 55 = .ok (.invokevirtual 117, 3) := by decide +kernel
theorem dX6_readHypothesis_58 : decode cX6_readHypothesis 58 = .ok (.iconst (-1), 1) := by decide +kernel
theorem dX6_readHypothesis_59 : decode cX6_readHypothesis 59 = .ok (.if_icmp .eq 13, 3) := by decide +kernel
theorem dX6_readHypothesis_62 : decode cX6_readHypothesis 62 = .ok (.aload_n 0, 1) := by decide +kernel
theorem dX6_readHypothesis_63 : decode cX6_readHypothesis 63 = .ok (.iconst 2, 1) := by decide +kernel
theorem dX6_readHypothesis_64 : decode cX6_readHypothesis 64 = .ok (.aload_n 0, 1) := by decide +kernel
theorem dX6_readHypothesis_65 : decode cX6_readHypothesis 65 = .ok (.getfield 68, 3) := by decide +kernel
theorem dX6_readHypothesis_68 : decode cX6_readHypothesis 68 = .ok (.invokevirtual 107, 3) := by decide +kernel
theorem dX6_readHypothesis_71 : decode cX6_readHypothesis 71 = .ok (.ireturn, 1) := by decide +kernel
theorem dX6_readHypothesis_72 : decode cX6_readHypothesis 72 = .ok (.aload_n 0, 1) := by decide +kernel
theorem dX6_readHypothesis_73 : decode cX6_readHypothesis 73 = .ok (.getfield 18, 3) := by decide +kernel
theorem dX6_readHypothesis_76 : decode cX6_readHypothesis 76 = .ok (.invokevirtual 120, 3) := by decide +kernel
theorem dX6_readHypothesis_79 : decode cX6_readHypothesis 79 = .ok (.ifCond .eq 13, 3) := by decide +kernel
theorem dX6_readHypothesis_82 : decode cX6_readHypothesis 82 = .ok (.aload_n 0, 1) := by decide +kernel
theorem dX6_readHypothesis_83 : decode cX6_readHypothesis 83 = .ok (.iconst 4, 1) := by decide +kernel
theorem dX6_readHypothesis_84 : decode cX6_readHypothesis 84 = .ok (.aload_n 0, 1) := by decide +kernel
theorem dX6_readHypothesis_85 : decode cX6_readHypothesis 85 = .ok (.getfield 68, 3) := by decide +kernel
theorem dX6_readHypothesis_88 : decode cX6_readHypothesis 88 = .ok (.invokevirtual 107, 3) := by decide +kernel
theorem dX6_readHypothesis_91 : decode cX6_readHypothesis 91 = .ok (.ireturn, 1) := by decide +kernel
theorem dX6_readHypothesis_92 : decode cX6_readHypothesis 92 = .ok (.aload_n 0, 1) := by decide +kernel
theorem dX6_readHypothesis_93 : decode cX6_readHypothesis 93 = .ok (.invokevirtual 123, 3) := by decide +kernel
theorem dX6_readHypothesis_96 : decode cX6_readHypothesis 96 = .ok (.istore_n 3, 1) := by decide +kernel
theorem dX6_readHypothesis_97 : decode cX6_readHypothesis 97 = .ok (.iload_n 3, 1) := by decide +kernel
theorem dX6_readHypothesis_98 : decode cX6_readHypothesis 98 = .ok (.iconst (-1), 1) := by decide +kernel
theorem dX6_readHypothesis_99 : decode cX6_readHypothesis 99 = .ok (.if_icmp .ne 5, 3) := by decide +kernel
theorem dX6_readHypothesis_102 : decode cX6_readHypothesis 102 = .ok (.iconst 0, 1) := by decide +kernel
theorem dX6_readHypothesis_103 : decode cX6_readHypothesis 103 = .ok (.ireturn, 1) := by decide +kernel
theorem dX6_readHypothesis_104 : decode cX6_readHypothesis 104 = .ok (.aload_n 0, 1) := by decide +kernel
theorem dX6_readHypothesis_105 : decode cX6_readHypothesis 105 = .ok (.invokevirtual 97, 3) := by decide +kernel
theorem dX6_readHypothesis_108 : decode cX6_readHypothesis 108 = .ok (.aload_n 0, 1) := by decide +kernel
theorem dX6_readHypothesis_109 : decode cX6_readHypothesis 109 = .ok (.getfield 75, 3) := by decide +kernel
theorem dX6_readHypothesis_112 : decode cX6_readHypothesis 112 = .ok (.bipush (-2), 2) := by decide +kernel
theorem dX6_readHypothesis_114 : decode cX6_readHypothesis 114 = .ok (.if_icmp .ne 14, 3) := by decide +kernel
theorem dX6_readHypothesis_117 : decode cX6_readHypothesis 117 = .ok (.aload_n 0, 1) := by decide +kernel
theorem dX6_readHypothesis_118 : decode cX6_readHypothesis 118 = .ok (.getfield 71, 3) := by decide +kernel
theorem dX6_readHypothesis_121 : decode cX6_readHypothesis 121 = .ok (.ldc2_w 126, 3) := by decide +kernel
theorem dX6_readHypothesis_124 : decode cX6_readHypothesis 124 = .ok (.lcmp, 1) := by decide +kernel
theorem dX6_readHypothesis_125 : decode cX6_readHypothesis 125 = .ok (.ifCond .eq 13, 3) := by decide +kernel
theorem dX6_readHypothesis_128 : decode cX6_readHypothesis 128 = .ok (.aload_n 0, 1) := by decide +kernel
theorem dX6_readHypothesis_129 : decode cX6_readHypothesis 129 = .ok (.iconst 1, 1) := by decide +kernel
theorem dX6_readHypothesis_130 : decode cX6_readHypothesis 130 = .ok (.aload_n 0, 1) := by decide +kernel
theorem dX6_readHypothesis_131 : decode cX6_readHypothesis 131 = .ok (.getfield 68, 3) := by decide +kernel
theorem dX6_readHypothesis_134 : decode cX6_readHypothesis 134 = .ok (.invokevirtual 107, 3) := by decide +kernel
theorem dX6_readHypothesis_137 : decode cX6_readHypothesis 137 = .ok (.ireturn, 1) := by decide +kernel
theorem dX6_readHypothesis_138 : decode cX6_readHypothesis 138 = .ok (.aload_n 0, 1) := by decide +kernel
theorem dX6_readHypothesis_139 : decode cX6_readHypothesis 139 = .ok (.getfield 18, 3) := by decide +kernel
theorem dX6_readHypothesis_142 : decode cX6_readHypothesis 142 = .ok (.iload_n 1, 1) := by decide +kernel
theorem dX6_readHypothesis_143 : decode cX6_readHypothesis 143 = .ok (.iload_n 3, 1) := by decide +kernel
theorem dX6_readHypothesis_144 : decode cX6_readHypothesis 144 = .ok (.aload_n 0, 1) := by decide +kernel
theorem dX6_readHypothesis_145 : decode cX6_readHypothesis 145 = .ok (.getfield 128, 3) := by decide +kernel
theorem dX6_readHypothesis_148 : decode cX6_readHypothesis 148 = .ok (.invokevirtual 131, 3) := by decide +kernel
theorem dX6_readHypothesis_151 : decode cX6_readHypothesis 151 = .ok (.iconst 1, 1) := by decide +kernel
theorem dX6_readHypothesis_152 : decode cX6_readHypothesis 152 = .ok (.ireturn, 1) := by decide +kernel
theorem dX6_readGoal_0 : decode cX6_readGoal 0 = .ok (.aload_n 0, 1) := by decide +kernel
theorem dX6_readGoal_1 : decode cX6_readGoal 1 = .ok (.iload_n 1, 1) := by decide +kernel
theorem dX6_readGoal_2 : decode cX6_readGoal 2 = .ok (.invokevirtual 90, 3) := by decide +kernel
theorem dX6_readGoal_5 : decode cX6_readGoal 5 = .ok (.aload_n 0, 1) := by decide +kernel
theorem dX6_readGoal_6 : decode cX6_readGoal 6 = .ok (.invokevirtual 123, 3) := by decide +kernel
theorem dX6_readGoal_9 : decode cX6_readGoal 9 = .ok (.istore_n 2, 1) := by decide +kernel
theorem dX6_readGoal_10 : decode cX6_readGoal 10 = .ok (.iload_n 2, 1) := by decide +kernel
theorem dX6_readGoal_11 : decode cX6_readGoal 11 = .ok (.iconst (-1), 1) := by decide +kernel
theorem dX6_readGoal_12 : decode cX6_readGoal 12 = .ok (.if_icmp .eq 14, 3) := by decide +kernel
theorem dX6_readGoal_15 : decode cX6_readGoal 15 = .ok (.aload_n 0, 1) := by decide +kernel
theorem dX6_readGoal_16 : decode cX6_readGoal 16 = .ok (.invokevirtual 135, 3) := by decide +kernel
theorem dX6_readGoal_19 : decode cX6_readGoal 19 = .ok (.ifCond .eq 7, 3) := by decide +kernel
theorem dX6_readGoal_22 : decode cX6_readGoal 22 = .ok (.iload_n 2, 1) := by decide +kernel
theorem dX6_readGoal_23 : decode cX6_readGoal 23 = .ok (.goto 4, 3) := by decide +kernel
theorem dX6_readGoal_26 : decode cX6_readGoal 26 = .ok (.iconst (-1), 1) := by decide +kernel
theorem dX6_readGoal_27 : decode cX6_readGoal 27 = .ok (.ireturn, 1) := by decide +kernel
theorem dX6_readEnd_0 : decode cX6_readEnd 0 = .ok (.aload_n 0, 1) := by decide +kernel
theorem dX6_readEnd_1 : decode cX6_readEnd 1 = .ok (.invokevirtual 97, 3) := by decide +kernel
theorem dX6_readEnd_4 : decode cX6_readEnd 4 = .ok (.aload_n 0, 1) := by decide +kernel
theorem dX6_readEnd_5 : decode cX6_readEnd 5 = .ok (.getfield 75, 3) := by decide +kernel
theorem dX6_readEnd_8 : decode cX6_readEnd 8 = .ok (.bipush (-3), 2) := by decide +kernel
theorem dX6_readEnd_10 : decode cX6_readEnd 10 = .ok (.if_icmp .eq 15, 3) := by decide +kernel
theorem dX6_readEnd_13 : decode cX6_readEnd 13 = .ok (.aload_n 0, 1) := by decide +kernel
theorem dX6_readEnd_14 : decode cX6_readEnd 14 = .ok (.iconst 1, 1) := by decide +kernel
theorem dX6_readEnd_15 : decode cX6_readEnd 15 = .ok (.aload_n 0, 1) := by decide +kernel
theorem dX6_readEnd_16 : decode cX6_readEnd 16 = .ok (.getfield 68, 3) := by decide +kernel
theorem dX6_readEnd_19 : decode cX6_readEnd 19 = .ok (.invokevirtual 107, 3) := by decide +kernel
theorem dX6_readEnd_22 : decode cX6_readEnd 22 = .ok (.ifCond .eq 7, 3) := by decide +kernel
theorem dX6_readEnd_25 : decode cX6_readEnd 25 = .ok (.iconst 1, 1) := by decide +kernel
theorem dX6_readEnd_26 : decode cX6_readEnd 26 = .ok (.goto 4, 3) := by decide +kernel
theorem dX6_readEnd_29 : decode cX6_readEnd 29 = .ok (.iconst 0, 1) := by decide +kernel
theorem dX6_readEnd_30 : decode cX6_readEnd 30 = .ok (.ireturn, 1) := by decide +kernel
theorem dX6_readFormula_0 : decode cX6_readFormula 0 = .ok (.iconst 1, 1) := by decide +kernel
theorem dX6_readFormula_1 : decode cX6_readFormula 1 = .ok (.istore_n 1, 1) := by decide +kernel
theorem dX6_readFormula_2 : decode cX6_readFormula 2 = .ok (.iconst 0, 1) := by decide +kernel
theorem dX6_readFormula_3 : decode cX6_readFormula 3 = .ok (.istore_n 2, 1) := by decide +kernel
theorem dX6_readFormula_4 : decode cX6_readFormula 4 = .ok (.iconst 0, 1) := by decide +kernel
theorem dX6_readFormula_5 : decode cX6_readFormula 5 = .ok (.istore_n 3, 1) := by decide +kernel
theorem dX6_readFormula_6 : decode cX6_readFormula 6 = .ok (.iload_n 1, 1) := by decide +kernel
theorem dX6_readFormula_7 : decode cX6_readFormula 7 = .ok (.ifCond .le 107, 3) := by decide +kernel
theorem dX6_readFormula_10 : decode cX6_readFormula 10 = .ok (.iload_n 3, 1) := by decide +kernel
theorem dX6_readFormula_11 : decode cX6_readFormula 11 = .ok (.bipush 30, 2) := by decide +kernel
theorem dX6_readFormula_13 : decode cX6_readFormula 13 = .ok (.if_icmp .gt 101, 3) := by decide +kernel
theorem dX6_readFormula_16 : decode cX6_readFormula 16 = .ok (.aload_n 0, 1) := by decide +kernel
theorem dX6_readFormula_17 : decode cX6_readFormula 17 = .ok (.invokevirtual 97, 3) := by decide +kernel
theorem dX6_readFormula_20 : decode cX6_readFormula 20 = .ok (.aload_n 0, 1) := by decide +kernel
theorem dX6_readFormula_21 : decode cX6_readFormula 21 = .ok (.getfield 75, 3) := by decide +kernel
theorem dX6_readFormula_24 : decode cX6_readFormula 24 = .ok (.ifCond .lt 12, 3) := by decide +kernel
theorem dX6_readFormula_27 : decode cX6_readFormula 27 = .ok (.aload_n 0, 1) := by decide +kernel
theorem dX6_readFormula_28 : decode cX6_readFormula 28 = .ok (.getfield 75, 3) := by decide +kernel
theorem dX6_readFormula_31 : decode cX6_readFormula 31 = .ok (.bipush 12, 2) := by decide +kernel
theorem dX6_readFormula_33 : decode cX6_readFormula 33 = .ok (.if_icmp .le 15, 3) := by decide +kernel
theorem dX6_readFormula_36 : decode cX6_readFormula 36 = .ok (.aload_n 0, 1) := by decide +kernel
theorem dX6_readFormula_37 : decode cX6_readFormula 37 = .ok (.iconst 1, 1) := by decide +kernel
theorem dX6_readFormula_38 : decode cX6_readFormula 38 = .ok (.aload_n 0, 1) := by decide +kernel
theorem dX6_readFormula_39 : decode cX6_readFormula 39 = .ok (.getfield 68, 3) := by decide +kernel
theorem dX6_readFormula_42 : decode cX6_readFormula 42 = .ok (.invokevirtual 107, 3) := by decide +kernel
theorem dX6_readFormula_45 : decode cX6_readFormula 45 = .ok (.pop, 1) := by decide +kernel
theorem dX6_readFormula_46 : decode cX6_readFormula 46 = .ok (.iconst (-1), 1) := by decide +kernel
theorem dX6_readFormula_47 : decode cX6_readFormula 47 = .ok (.ireturn, 1) := by decide +kernel
theorem dX6_readFormula_48 : decode cX6_readFormula 48 = .ok (.iload_n 3, 1) := by decide +kernel
theorem dX6_readFormula_49 : decode cX6_readFormula 49 = .ok (.bipush 30, 2) := by decide +kernel
theorem dX6_readFormula_51 : decode cX6_readFormula 51 = .ok (.if_icmp .lt 15, 3) := by decide +kernel
theorem dX6_readFormula_54 : decode cX6_readFormula 54 = .ok (.aload_n 0, 1) := by decide +kernel
theorem dX6_readFormula_55 : decode cX6_readFormula 55 = .ok (.iconst 4, 1) := by decide +kernel
theorem dX6_readFormula_56 : decode cX6_readFormula 56 = .ok (.aload_n 0, 1) := by decide +kernel
theorem dX6_readFormula_57 : decode cX6_readFormula 57 = .ok (.getfield 68, 3) := by decide +kernel
theorem dX6_readFormula_60 : decode cX6_readFormula 60 = .ok (.invokevirtual 107, 3) := by decide +kernel
theorem dX6_readFormula_63 : decode cX6_readFormula 63 = .ok (.pop, 1) := by decide +kernel
theorem dX6_readFormula_64 : decode cX6_readFormula 64 = .ok (.iconst (-1), 1) := by decide +kernel
theorem dX6_readFormula_65 : decode cX6_readFormula 65 = .ok (.ireturn, 1) := by decide +kernel
theorem dX6_readFormula_66 : decode cX6_readFormula 66 = .ok (.aload_n 0, 1) := by decide +kernel
theorem dX6_readFormula_67 : decode cX6_readFormula 67 = .ok (.getfield 22, 3) := by decide +kernel
theorem dX6_readFormula_70 : decode cX6_readFormula 70 = .ok (.iload_n 3, 1) := by decide +kernel
theorem dX6_readFormula_71 : decode cX6_readFormula 71 = .ok (.aload_n 0, 1) := by decide +kernel
theorem dX6_readFormula_72 : decode cX6_readFormula 72 = .ok (.getfield 75, 3) := by decide +kernel
theorem dX6_readFormula_75 : decode cX6_readFormula 75 = .ok (.iastore, 1) := by decide +kernel
theorem dX6_readFormula_76 : decode cX6_readFormula 76 = .ok (.iinc 3 1, 3) := by decide +kernel
theorem dX6_readFormula_79 : decode cX6_readFormula 79 = .ok (.aload_n 0, 1) := by decide +kernel
theorem dX6_readFormula_80 : decode cX6_readFormula 80 = .ok (.getfield 75, 3) := by decide +kernel
theorem dX6_readFormula_83 : decode cX6_readFormula 83 = .ok (.bipush 12, 2) := by decide +kernel
theorem dX6_readFormula_85 : decode cX6_readFormula 85 = .ok (.if_icmp .ne 9, 3) := by decide +kernel
theorem dX6_readFormula_88 : decode cX6_readFormula 88 = .ok (.iinc 2 1, 3) := by decide +kernel
theorem dX6_readFormula_91 : decode cX6_readFormula 91 = .ok (.goto (-85), 3) := by decide +kernel
theorem dX6_readFormula_94 : decode cX6_readFormula 94 = .ok (.iload_n 1, 1) := by decide +kernel
theorem dX6_readFormula_95 : decode cX6_readFormula 95 = .ok (.aload_n 0, 1) := by decide +kernel
theorem dX6_readFormula_96 : decode cX6_readFormula 96 = .ok (.getfield 75, 3) := by decide +kernel
theorem dX6_readFormula_99 : decode cX6_readFormula 99 = .ok (.bipush 9, 2) := by decide +kernel
theorem dX6_readFormula_101 : decode cX6_readFormula 101 = .ok (.if_icmp .lt 7, 3) := by decide +kernel
theorem dX6_readFormula_104 : decode cX6_readFormula 104 = .ok (.iconst 1, 1) := by decide +kernel
theorem dX6_readFormula_105 : decode cX6_readFormula 105 = .ok (.goto 4, 3) := by decide +kernel
theorem dX6_readFormula_108 : decode cX6_readFormula 108 = .ok (.iconst (-1), 1) := by decide +kernel
theorem dX6_readFormula_109 : decode cX6_readFormula 109 = .ok (.iadd, 1) := by decide +kernel
theorem dX6_readFormula_110 : decode cX6_readFormula 110 = .ok (.istore_n 1, 1) := by decide +kernel
theorem dX6_readFormula_111 : decode cX6_readFormula 111 = .ok (.goto (-105), 3) := by decide +kernel
theorem dX6_readFormula_114 : decode cX6_readFormula 114 = .ok (.aload_n 0, 1) := by decide +kernel
theorem dX6_readFormula_115 : decode cX6_readFormula 115 = .ok (.iload_n 3, 1) := by decide +kernel
theorem dX6_readFormula_116 : decode cX6_readFormula 116 = .ok (.putfield 138, 3) := by decide +kernel
theorem dX6_readFormula_119 : decode cX6_readFormula 119 = .ok (.aload_n 0, 1) := by decide +kernel
theorem dX6_readFormula_120 : decode cX6_readFormula 120 = .ok (.iload_n 3, 1) := by decide +kernel
theorem dX6_readFormula_121 : decode cX6_readFormula 121 = .ok (.iload_n 2, 1) := by decide +kernel
theorem dX6_readFormula_122 : decode cX6_readFormula 122 = .ok (.iadd, 1) := by decide +kernel
theorem dX6_readFormula_123 : decode cX6_readFormula 123 = .ok (.putfield 128, 3) := by decide +kernel
theorem dX6_readFormula_126 : decode cX6_readFormula 126 = .ok (.aload_n 0, 1) := by decide +kernel
theorem dX6_readFormula_127 : decode cX6_readFormula 127 = .ok (.iload_n 3, 1) := by decide +kernel
theorem dX6_readFormula_128 : decode cX6_readFormula 128 = .ok (.invokevirtual 141, 3) := by decide +kernel
theorem dX6_readFormula_131 : decode cX6_readFormula 131 = .ok (.ireturn, 1) := by decide +kernel
theorem dX6_buildFormula_0 : decode cX6_buildFormula 0 = .ok (.iconst (-1), 1) := by decide +kernel
theorem dX6_buildFormula_1 : decode cX6_buildFormula 1 = .ok (.istore_n 2, 1) := by decide +kernel
theorem dX6_buildFormula_2 : decode cX6_buildFormula 2 = .ok (.iload_n 1, 1) := by decide +kernel
theorem dX6_buildFormula_3 : decode cX6_buildFormula 3 = .ok (.istore_n 3, 1) := by decide +kernel
theorem dX6_buildFormula_4 : decode cX6_buildFormula 4 = .ok (.iload_n 1, 1) := by decide +kernel
theorem dX6_buildFormula_5 : decode cX6_buildFormula 5 = .ok (.iconst 1, 1) := by decide +kernel
theorem dX6_buildFormula_6 : decode cX6_buildFormula 6 = .ok (.isub, 1) := by decide +kernel
theorem dX6_buildFormula_7 : decode cX6_buildFormula 7 = .ok (.istore 4, 2) := by decide +kernel
theorem dX6_buildFormula_9 : decode cX6_buildFormula 9 = .ok (.iload 4, 2) := by decide +kernel
theorem dX6_buildFormula_11 : decode cX6_buildFormula 11 = .ok (.ifCond .lt 112, 3) := by decide +kernel
theorem dX6_buildFormula_14 : decode cX6_buildFormula 14 = .ok (.iload 4, 2) := by decide +kernel
theorem dX6_buildFormula_16 : decode cX6_buildFormula 16 = .ok (.bipush 30, 2) := by decide +kernel
theorem dX6_buildFormula_18 : decode cX6_buildFormula 18 = .ok (.if_icmp .ge 105, 3) := by decide +kernel
theorem dX6_buildFormula_21 : decode cX6_buildFormula 21 = .ok (.aload_n 0, 1) := by decide +kernel
theorem dX6_buildFormula_22 : decode cX6_buildFormula 22 = .ok (.getfield 22, 3) := by decide +kernel
theorem dX6_buildFormula_25 : decode cX6_buildFormula 25 = .ok (.iload 4, 2) := by decide +kernel
theorem dX6_buildFormula_27 : decode cX6_buildFormula 27 = .ok (.iaload, 1) := by decide +kernel
theorem dX6_buildFormula_28 : decode cX6_buildFormula 28 = .ok (.istore_n 2, 1) := by decide +kernel
theorem dX6_buildFormula_29 : decode cX6_buildFormula 29 = .ok (.iload_n 2, 1) := by decide +kernel
theorem dX6_buildFormula_30 : decode cX6_buildFormula 30 = .ok (.bipush 12, 2) := by decide +kernel
theorem dX6_buildFormula_32 : decode cX6_buildFormula 32 = .ok (.if_icmp .ne 26, 3) := by decide +kernel
theorem dX6_buildFormula_35 : decode cX6_buildFormula 35 = .ok (.aload_n 0, 1) := by decide +kernel
theorem dX6_buildFormula_36 : decode cX6_buildFormula 36 = .ok (.getfield 39, 3) := by decide +kernel
theorem dX6_buildFormula_39 : decode cX6_buildFormula 39 = .ok (.bipush 9, 2) := by decide +kernel
theorem dX6_buildFormula_41 : decode cX6_buildFormula 41 = .ok (.aload_n 0, 1) := by decide +kernel
theorem dX6_buildFormula_42 : decode cX6_buildFormula 42 = .ok (.getfield 22, 3) := by decide +kernel
theorem dX6_buildFormula_45 : decode cX6_buildFormula 45 = .ok (.iload_n 3, 1) := by decide +kernel
theorem dX6_buildFormula_46 : decode cX6_buildFormula 46 = .ok (.invokestatic 144, 3) := by decide +kernel
theorem dX6_buildFormula_49 : decode cX6_buildFormula 49 = .ok (.bipush 8, 2) := by decide +kernel
theorem dX6_buildFormula_51 : decode cX6_buildFormula 51 = .ok (.invokevirtual 148, 3) := by decide +kernel
theorem dX6_buildFormula_54 : decode cX6_buildFormula 54 = .ok (.istore_n 2, 1) := by decide +kernel
theorem dX6_buildFormula_55 : decode cX6_buildFormula 55 = .ok (.goto 45, 3) := by decide +kernel
theorem dX6_buildFormula_58 : decode cX6_buildFormula 58 = .ok (.iload_n 2, 1) := by decide +kernel
theorem dX6_buildFormula_59 : decode cX6_buildFormula 59 = .ok (.bipush 9, 2) := by decide +kernel
theorem dX6_buildFormula_61 : decode cX6_buildFormula 61 = .ok (.if_icmp .lt 36, 3) := by decide +kernel
theorem dX6_buildFormula_64 : decode cX6_buildFormula 64 = .ok (.aload_n 0, 1) := by decide +kernel
theorem dX6_buildFormula_65 : decode cX6_buildFormula 65 = .ok (.getfield 39, 3) := by decide +kernel
theorem dX6_buildFormula_68 : decode cX6_buildFormula 68 = .ok (.iload_n 2, 1) := by decide +kernel
theorem dX6_buildFormula_69 : decode cX6_buildFormula 69 = .ok (.aload_n 0, 1) := by decide +kernel
theorem dX6_buildFormula_70 : decode cX6_buildFormula 70 = .ok (.getfield 22, 3) := by decide +kernel
theorem dX6_buildFormula_73 : decode cX6_buildFormula 73 = .ok (.iload_n 3, 1) := by decide +kernel
theorem dX6_buildFormula_74 : decode cX6_buildFormula 74 = .ok (.invokestatic 144, 3) := by decide +kernel
theorem dX6_buildFormula_77 : decode cX6_buildFormula 77 = .ok (.aload_n 0, 1) := by decide +kernel
theorem dX6_buildFormula_78 : decode cX6_buildFormula 78 = .ok (.getfield 22, 3) := by decide +kernel
theorem dX6_buildFormula_81 : decode cX6_buildFormula 81 = .ok (.iload_n 3, 1) := by decide +kernel
theorem dX6_buildFormula_82 : decode cX6_buildFormula 82 = .ok (.iconst 1, 1) := by decide +kernel
theorem dX6_buildFormula_83 : decode cX6_buildFormula 83 = .ok (.iadd, 1) := by decide +kernel
theorem dX6_buildFormula_84 : decode cX6_buildFormula 84 = .ok (.invokestatic 144, 3) := by decide +kernel
theorem dX6_buildFormula_87 : decode cX6_buildFormula 87 = .ok (.invokevirtual 148, 3) := by decide +kernel
theorem dX6_buildFormula_90 : decode cX6_buildFormula 90 = .ok (.istore_n 2, 1) := by decide +kernel
theorem dX6_buildFormula_91 : decode cX6_buildFormula 91 = .ok (.iinc 3 1, 3) := by decide +kernel
theorem dX6_buildFormula_94 : decode cX6_buildFormula 94 = .ok (.goto 6, 3) := by decide +kernel
theorem dX6_buildFormula_97 : decode cX6_buildFormula 97 = .ok (.iinc 3 (-1), 3) := by decide +kernel
theorem dX6_buildFormula_100 : decode cX6_buildFormula 100 = .ok (.iload_n 3, 1) := by decide +kernel
theorem dX6_buildFormula_101 : decode cX6_buildFormula 101 = .ok (.ifCond .lt 16, 3) := by decide +kernel
theorem dX6_buildFormula_104 : decode cX6_buildFormula 104 = .ok (.iload_n 3, 1) := by decide +kernel
theorem dX6_buildFormula_105 : decode cX6_buildFormula 105 = .ok (.bipush 30, 2) := by decide +kernel
theorem dX6_buildFormula_107 : decode cX6_buildFormula 107 = .ok (.if_icmp .ge 10, 3) := by decide +kernel
theorem dX6_buildFormula_110 : decode cX6_buildFormula 110 = .ok (.aload_n 0, 1) := by decide +kernel
theorem dX6_buildFormula_111 : decode cX6_buildFormula 111 = .ok (.getfield 22, 3) := by decide +kernel
theorem dX6_buildFormula_114 : decode cX6_buildFormula 114 = .ok (.iload_n 3, 1) := by decide +kernel
theorem dX6_buildFormula_115 : decode cX6_buildFormula 115 = .ok (.iload_n 2, 1) := by decide +kernel
theorem dX6_buildFormula_116 : decode cX6_buildFormula 116 = .ok (.iastore, 1) := by decide +kernel
theorem dX6_buildFormula_117 : decode cX6_buildFormula 117 = .ok (.iinc 4 (-1), 3) := by decide +kernel
theorem dX6_buildFormula_120 : decode cX6_buildFormula 120 = .ok (.goto (-111), 3) := by decide +kernel
theorem dX6_buildFormula_123 : decode cX6_buildFormula 123 = .ok (.iload_n 2, 1) := by decide +kernel
theorem dX6_buildFormula_124 : decode cX6_buildFormula 124 = .ok (.ireturn, 1) := by decide +kernel
theorem dX6_readTerm_0 : decode cX6_readTerm 0 = .ok (.aload_n 0, 1) := by decide +kernel
theorem dX6_readTerm_1 : decode cX6_readTerm 1 = .ok (.iload_n 1, 1) := by decide +kernel
theorem dX6_readTerm_2 : decode cX6_readTerm 2 = .ok (.invokevirtual 90, 3) := by decide +kernel
theorem dX6_readTerm_5 : decode cX6_readTerm 5 = .ok (.aload_n 3, 1) := by decide +kernel
theorem dX6_readTerm_6 : decode cX6_readTerm 6 = .ok (.invokevirtual 154, 3) := by decide +kernel
theorem dX6_readTerm_9 : decode cX6_readTerm 9 = .ok (.aload_n 0, 1) := by decide +kernel
theorem dX6_readTerm_10 : decode cX6_readTerm 10 = .ok (.iconst 0, 1) := by decide +kernel
theorem dX6_readTerm_11 : decode cX6_readTerm 11 = .ok (.putfield 157, 3) := by decide +kernel
theorem dX6_readTerm_14 : decode cX6_readTerm 14 = .ok (.aload_n 0, 1) := by decide +kernel
theorem dX6_readTerm_15 : decode cX6_readTerm 15 = .ok (.iconst 0, 1) := by decide +kernel
theorem dX6_readTerm_16 : decode cX6_readTerm 16 = .ok (.putfield 160, 3) := by decide +kernel
theorem dX6_readTerm_19 : decode cX6_readTerm 19 = .ok (.aload_n 0, 1) := by decide +kernel
theorem dX6_readTerm_20 : decode cX6_readTerm 20 = .ok (.iconst 1, 1) := by decide +kernel
theorem dX6_readTerm_21 : decode cX6_readTerm 21 = .ok (.invokevirtual 163, 3) := by decide +kernel
theorem dX6_readTerm_24 : decode cX6_readTerm 24 = .ok (.iconst 0, 1) := by decide +kernel
theorem dX6_readTerm_25 : decode cX6_readTerm 25 = .ok (.istore 4, 2) := by decide +kernel
theorem dX6_readTerm_27 : decode cX6_readTerm 27 = .ok (.iload 4, 2) := by decide +kernel
theorem dX6_readTerm_29 : decode cX6_readTerm 29 = .ok (.aload_n 0, 1) := by decide +kernel
theorem dX6_readTerm_30 : decode cX6_readTerm 30 = .ok (.getfield 26, 3) := by decide +kernel
theorem dX6_readTerm_33 : decode cX6_readTerm 33 = .ok (.arraylength, 1) := by decide +kernel
theorem dX6_readTerm_34 : decode cX6_readTerm 34 = .ok (.if_icmp .ge 31, 3) := by decide +kernel
theorem dX6_readTerm_37 : decode cX6_readTerm 37 = .ok (.aload_n 0, 1) := by decide +kernel
theorem dX6_readTerm_38 : decode cX6_readTerm 38 = .ok (.getfield 157, 3) := by decide +kernel
theorem dX6_readTerm_41 : decode cX6_readTerm 41 = .ok (.ifCond .le 24, 3) := by decide +kernel
theorem dX6_readTerm_44 : decode cX6_readTerm 44 = .ok (.aload_n 0, 1) := by decide +kernel
theorem dX6_readTerm_45 : decode cX6_readTerm 45 = .ok (.aload_n 0, 1) := by decide +kernel
theorem dX6_readTerm_46 : decode cX6_readTerm 46 = .ok (.invokevirtual 166, 3) := by decide +kernel
theorem dX6_readTerm_49 : decode cX6_readTerm 49 = .ok (.aload_n 2, 1) := by decide +kernel
theorem dX6_readTerm_50 : decode cX6_readTerm 50 = .ok (.aload_n 3, 1) := by decide +kernel
theorem dX6_readTerm_51 : decode cX6_readTerm 51 = .ok (.invokevirtual 169, 3) := by decide +kernel
theorem dX6_readTerm_54 : decode cX6_readTerm 54 = .ok (.ifCond .ne 5, 3) := by decide +kernel
theorem dX6_readTerm_57 : decode cX6_readTerm 57 = .ok (.iconst 0, 1) := by decide +kernel
theorem dX6_readTerm_58 : decode cX6_readTerm 58 = .ok (.ireturn, 1) := by decide +kernel
theorem dX6_readTerm_59 : decode cX6_readTerm 59 = .ok (.iinc 4 1, 3) := by decide +kernel
theorem dX6_readTerm_62 : decode cX6_readTerm 62 = .ok (.goto (-35), 3) := by decide +kernel
theorem dX6_readTerm_65 : decode cX6_readTerm 65 = .ok (.aload_n 0, 1) := by decide +kernel
theorem dX6_readTerm_66 : decode cX6_readTerm 66 = .ok (.invokevirtual 135, 3) := by decide +kernel
theorem dX6_readTerm_69 : decode cX6_readTerm 69 = .ok (.ireturn, 1) := by decide +kernel
theorem dX6_push_0 : decode cX6_push 0 = .ok (.aload_n 0, 1) := by decide +kernel
theorem dX6_push_1 : decode cX6_push 1 = .ok (.getfield 157, 3) := by decide +kernel
theorem dX6_push_4 : decode cX6_push 4 = .ok (.ifCond .lt 35, 3) := by decide +kernel
theorem dX6_push_7 : decode cX6_push 7 = .ok (.aload_n 0, 1) := by decide +kernel
theorem dX6_push_8 : decode cX6_push 8 = .ok (.getfield 157, 3) := by decide +kernel
theorem dX6_push_11 : decode cX6_push 11 = .ok (.aload_n 0, 1) := by decide +kernel
theorem dX6_push_12 : decode cX6_push 12 = .ok (.getfield 26, 3) := by decide +kernel
theorem dX6_push_15 : decode cX6_push 15 = .ok (.arraylength, 1) := by decide +kernel
theorem dX6_push_16 : decode cX6_push 16 = .ok (.if_icmp .ge 23, 3) := by decide +kernel
theorem dX6_push_19 : decode cX6_push 19 = .ok (.aload_n 0, 1) := by decide +kernel
theorem dX6_push_20 : decode cX6_push 20 = .ok (.getfield 26, 3) := by decide +kernel
theorem dX6_push_23 : decode cX6_push 23 = .ok (.aload_n 0, 1) := by decide +kernel
theorem dX6_push_24 : decode cX6_push 24 = .ok (.getfield 157, 3) := by decide +kernel
theorem dX6_push_27 : decode cX6_push 27 = .ok (.iload_n 1, 1) := by decide +kernel
theorem dX6_push_28 : decode cX6_push 28 = .ok (.iastore, 1) := by decide +kernel
theorem dX6_push_29 : decode cX6_push 29 = .ok (.aload_n 0, 1) := by decide +kernel
theorem dX6_push_30 : decode cX6_push 30 = .ok (.dup, 1) := by decide +kernel
theorem dX6_push_31 : decode cX6_push 31 = .ok (.getfield 157, 3) := by decide +kernel
theorem dX6_push_34 : decode cX6_push 34 = .ok (.iconst 1, 1) := by decide +kernel
theorem dX6_push_35 : decode cX6_push 35 = .ok (.iadd, 1) := by decide +kernel
theorem dX6_push_36 : decode cX6_push 36 = .ok (.putfield 157, 3) := by decide +kernel
theorem dX6_push_39 : decode cX6_push 39 = .ok (.return_, 1) := by decide +kernel
theorem dX6_pop_0 : decode cX6_pop 0 = .ok (.aload_n 0, 1) := by decide +kernel
theorem dX6_pop_1 : decode cX6_pop 1 = .ok (.dup, 1) := by decide +kernel
theorem dX6_pop_2 : decode cX6_pop 2 = .ok (.getfield 157, 3) := by decide +kernel
theorem dX6_pop_5 : decode cX6_pop 5 = .ok (.iconst 1, 1) := by decide +kernel
theorem dX6_pop_6 : decode cX6_pop 6 = .ok (.isub, 1) := by decide +kernel
theorem dX6_pop_7 : decode cX6_pop 7 = .ok (.putfield 157, 3) := by decide +kernel
theorem dX6_pop_10 : decode cX6_pop 10 = .ok (.aload_n 0, 1) := by decide +kernel
theorem dX6_pop_11 : decode cX6_pop 11 = .ok (.getfield 26, 3) := by decide +kernel
theorem dX6_pop_14 : decode cX6_pop 14 = .ok (.aload_n 0, 1) := by decide +kernel
theorem dX6_pop_15 : decode cX6_pop 15 = .ok (.getfield 157, 3) := by decide +kernel
theorem dX6_pop_18 : decode cX6_pop 18 = .ok (.invokestatic 144, 3) := by decide +kernel
theorem dX6_pop_21 : decode cX6_pop 21 = .ok (.ireturn, 1) := by decide +kernel
theorem dX6_readWanted_0 : decode cX6_readWanted 0 = .ok (.iload_n 1, 1) := by decide +kernel
theorem dX6_readWanted_1 : decode cX6_readWanted 1 = .ok (.tableswitch 74 2 4 #[27, 57, 62], 27) := by decide +kernel
theorem dX6_readWanted_28 : decode cX6_readWanted 28 = .ok (.aload_n 0, 1) := by decide +kernel
theorem dX6_readWanted_29 : decode cX6_readWanted 29 = .ok (.invokevirtual 123, 3) := by decide +kernel
theorem dX6_readWanted_32 : decode cX6_readWanted 32 = .ok (.istore 4, 2) := by decide +kernel
theorem dX6_readWanted_34 : decode cX6_readWanted 34 = .ok (.aload_n 3, 1) := by decide +kernel
theorem dX6_readWanted_35 : decode cX6_readWanted 35 = .ok (.aload_n 3, 1) := by decide +kernel
theorem dX6_readWanted_36 : decode cX6_readWanted 36 = .ok (.getfield 173, 3) := by decide +kernel
theorem dX6_readWanted_39 : decode cX6_readWanted 39 = .ok (.iconst 1, 1) := by decide +kernel
theorem dX6_readWanted_40 : decode cX6_readWanted 40 = .ok (.isub, 1) := by decide +kernel
theorem dX6_readWanted_41 : decode cX6_readWanted 41 = .ok (.iload 4, 2) := by decide +kernel
theorem dX6_readWanted_43 : decode cX6_readWanted 43 = .ok (.invokevirtual 176, 3) := by decide +kernel
theorem dX6_readWanted_46 : decode cX6_readWanted 46 = .ok (.iload 4, 2) := by decide +kernel
theorem dX6_readWanted_48 : decode cX6_readWanted 48 = .ok (.iconst (-1), 1) := by decide +kernel
theorem dX6_readWanted_49 : decode cX6_readWanted 49 = .ok (.if_icmp .eq 7, 3) := by decide +kernel
theorem dX6_readWanted_52 : decode cX6_readWanted 52 = .ok (.iconst 1, 1) := by decide +kernel
theorem dX6_readWanted_53 : decode cX6_readWanted 53 = .ok (.goto 4, 3) := by decide +kernel
theorem dX6_readWanted_56 : decode cX6_readWanted 56 = .ok (.iconst 0, 1) := by decide +kernel
theorem dX6_readWanted_57 : decode cX6_readWanted 57 = .ok (.ireturn, 1) := by decide +kernel
theorem dX6_readWanted_58 : decode cX6_readWanted 58 = .ok (.aload_n 0, 1) := by decide +kernel
theorem dX6_readWanted_59 : decode cX6_readWanted 59 = .ok (.invokevirtual 180, 3) := by decide +kernel
theorem dX6_readWanted_62 : decode cX6_readWanted 62 = .ok (.ireturn, 1) := by decide +kernel
theorem dX6_readWanted_63 : decode cX6_readWanted 63 = .ok (.aload_n 0, 1) := by decide +kernel
theorem dX6_readWanted_64 : decode cX6_readWanted 64 = .ok (.dup, 1) := by decide +kernel
theorem dX6_readWanted_65 : decode cX6_readWanted 65 = .ok (.getfield 160, 3) := by decide +kernel
theorem dX6_readWanted_68 : decode cX6_readWanted 68 = .ok (.iconst 1, 1) := by decide +kernel
theorem dX6_readWanted_69 : decode cX6_readWanted 69 = .ok (.isub, 1) := by decide +kernel
theorem dX6_readWanted_70 : decode cX6_readWanted 70 = .ok (.putfield 160, 3) := by decide +kernel
theorem dX6_readWanted_73 : decode cX6_readWanted 73 = .ok (.iconst 1, 1) := by decide +kernel
theorem dX6_readWanted_74 : decode cX6_readWanted 74 = .ok (.ireturn, 1) := by decide +kernel
theorem dX6_readWanted_75 : decode cX6_readWanted 75 = .ok (.aload_n 0, 1) := by decide +kernel
theorem dX6_readWanted_76 : decode cX6_readWanted 76 = .ok (.aload_n 2, 1) := by decide +kernel
theorem dX6_readWanted_77 : decode cX6_readWanted 77 = .ok (.aload_n 3, 1) := by decide +kernel
theorem dX6_readWanted_78 : decode cX6_readWanted 78 = .ok (.invokevirtual 183, 3) := by decide +kernel
theorem dX6_readWanted_81 : decode cX6_readWanted 81 = .ok (.ireturn, 1) := by decide +kernel
theorem dX6_readBinder_0 : decode cX6_readBinder 0 = .ok (.aload_n 0, 1) := by decide +kernel
theorem dX6_readBinder_1 : decode cX6_readBinder 1 = .ok (.invokevirtual 97, 3) := by decide +kernel
theorem dX6_readBinder_4 : decode cX6_readBinder 4 = .ok (.aload_n 0, 1) := by decide +kernel
theorem dX6_readBinder_5 : decode cX6_readBinder 5 = .ok (.invokevirtual 104, 3) := by decide +kernel
theorem dX6_readBinder_8 : decode cX6_readBinder 8 = .ok (.ifCond .ne 13, 3) := by decide +kernel
theorem dX6_readBinder_11 : decode cX6_readBinder 11 = .ok (.aload_n 0, 1) := by decide +kernel
theorem dX6_readBinder_12 : decode cX6_readBinder 12 = .ok (.iconst 1, 1) := by decide +kernel
theorem dX6_readBinder_13 : decode cX6_readBinder 13 = .ok (.aload_n 0, 1) := by decide +kernel
theorem dX6_readBinder_14 : decode cX6_readBinder 14 = .ok (.getfield 68, 3) := by decide +kernel
theorem dX6_readBinder_17 : decode cX6_readBinder 17 = .ok (.invokevirtual 107, 3) := by decide +kernel
theorem dX6_readBinder_20 : decode cX6_readBinder 20 = .ok (.ireturn, 1) := by decide +kernel
theorem dX6_readBinder_21 : decode cX6_readBinder 21 = .ok (.aload_n 0, 1) := by decide +kernel
theorem dX6_readBinder_22 : decode cX6_readBinder 22 = .ok (.getfield 160, 3) := by decide +kernel
theorem dX6_readBinder_25 : decode cX6_readBinder 25 = .ok (.ifCond .lt 12, 3) := by decide +kernel
theorem dX6_readBinder_28 : decode cX6_readBinder 28 = .ok (.aload_n 0, 1) := by decide +kernel
theorem dX6_readBinder_29 : decode cX6_readBinder 29 = .ok (.getfield 160, 3) := by decide +kernel
theorem dX6_readBinder_32 : decode cX6_readBinder 32 = .ok (.bipush 24, 2) := by decide +kernel
theorem dX6_readBinder_34 : decode cX6_readBinder 34 = .ok (.if_icmp .lt 13, 3) := by decide +kernel
theorem dX6_readBinder_37 : decode cX6_readBinder 37 = .ok (.aload_n 0, 1) := by decide +kernel
theorem dX6_readBinder_38 : decode cX6_readBinder 38 = .ok (.iconst 4, 1) := by decide +kernel
theorem dX6_readBinder_39 : decode cX6_readBinder 39 = .ok (.aload_n 0, 1) := by decide +kernel
theorem dX6_readBinder_40 : decode cX6_readBinder 40 = .ok (.getfield 68, 3) := by decide +kernel
theorem dX6_readBinder_43 : decode cX6_readBinder 43 = .ok (.invokevirtual 107, 3) := by decide +kernel
theorem dX6_readBinder_46 : decode cX6_readBinder 46 = .ok (.ireturn, 1) := by decide +kernel
theorem dX6_readBinder_47 : decode cX6_readBinder 47 = .ok (.aload_n 0, 1) := by decide +kernel
theorem dX6_readBinder_48 : decode cX6_readBinder 48 = .ok (.getfield 29, 3) := by decide +kernel
theorem dX6_readBinder_51 : decode cX6_readBinder 51 = .ok (.aload_n 0, 1) := by decide +kernel
theorem dX6_readBinder_52 : decode cX6_readBinder 52 = .ok (.getfield 160, 3) := by decide +kernel
theorem dX6_readBinder_55 : decode cX6_readBinder 55 = .ok (.aload_n 0, 1) := by decide +kernel
theorem dX6_readBinder_56 : decode cX6_readBinder 56 = .ok (.invokevirtual 111, 3) := by decide +kernel
theorem dX6_readBinder_59 : decode cX6_readBinder 59 = .ok (.iastore, 1) := by decide +kernel
theorem dX6_readBinder_60 : decode cX6_readBinder 60 = .ok (.aload_n 0, 1) := by decide +kernel
theorem dX6_readBinder_61 : decode cX6_readBinder 61 = .ok (.dup, 1) := by decide +kernel
theorem dX6_readBinder_62 : decode cX6_readBinder 62 = .ok (.getfield 160, 3) := by decide +kernel
theorem dX6_readBinder_65 : decode cX6_readBinder 65 = .ok (.iconst 1, 1) := by decide +kernel
theorem dX6_readBinder_66 : decode cX6_readBinder 66 = .ok (.iadd, 1) := by decide +kernel
theorem dX6_readBinder_67 : decode cX6_readBinder 67 = .ok (.putfield 160, 3) := by decide +kernel
theorem dX6_readBinder_70 : decode cX6_readBinder 70 = .ok (.iconst 1, 1) := by decide +kernel
theorem dX6_readBinder_71 : decode cX6_readBinder 71 = .ok (.ireturn, 1) := by decide +kernel
theorem dX6_readFirstWord_0 : decode cX6_readFirstWord 0 = .ok (.aload_n 0, 1) := by decide +kernel
theorem dX6_readFirstWord_1 : decode cX6_readFirstWord 1 = .ok (.invokevirtual 97, 3) := by decide +kernel
theorem dX6_readFirstWord_4 : decode cX6_readFirstWord 4 = .ok (.aload_n 0, 1) := by decide +kernel
theorem dX6_readFirstWord_5 : decode cX6_readFirstWord 5 = .ok (.getfield 75, 3) := by decide +kernel
theorem dX6_readFirstWord_8 : decode cX6_readFirstWord 8 = .ok (.bipush 11, 2) := by decide +kernel
theorem dX6_readFirstWord_10 : decode cX6_readFirstWord 10 = .ok (.isub, 1) := by decide +kernel
theorem dX6_readFirstWord_11 : decode cX6_readFirstWord 11 = .ok (.istore_n 3, 1) := by decide +kernel
theorem dX6_readFirstWord_12 : decode cX6_readFirstWord 12 = .ok (.aload_n 0, 1) := by decide +kernel
theorem dX6_readFirstWord_13 : decode cX6_readFirstWord 13 = .ok (.invokevirtual 104, 3) := by decide +kernel
theorem dX6_readFirstWord_16 : decode cX6_readFirstWord 16 = .ok (.istore 4, 2) := by decide +kernel
theorem dX6_readFirstWord_18 : decode cX6_readFirstWord 18 = .ok (.iload 4, 2) := by decide +kernel
theorem dX6_readFirstWord_20 : decode cX6_readFirstWord 20 = .ok (.ifCond .ne 24, 3) := by decide +kernel
theorem dX6_readFirstWord_23 : decode cX6_readFirstWord 23 = .ok (.iload_n 3, 1) := by decide +kernel
theorem dX6_readFirstWord_24 : decode cX6_readFirstWord 24 = .ok (.iconst 2, 1) := by decide +kernel
theorem dX6_readFirstWord_25 : decode cX6_readFirstWord 25 = .ok (.if_icmp .lt 9, 3) := by decide +kernel
theorem dX6_readFirstWord_28 : decode cX6_readFirstWord 28 = .ok (.iload_n 3, 1) := by decide +kernel
theorem dX6_readFirstWord_29 : decode cX6_readFirstWord 29 = .ok (.bipush 10, 2) := by decide +kernel
theorem dX6_readFirstWord_31 : decode cX6_readFirstWord 31 = .ok (.if_icmp .le 13, 3) := by decide +kernel
theorem dX6_readFirstWord_34 : decode cX6_readFirstWord 34 = .ok (.aload_n 0, 1) := by decide +kernel
theorem dX6_readFirstWord_35 : decode cX6_readFirstWord 35 = .ok (.iconst 1, 1) := by decide +kernel
theorem dX6_readFirstWord_36 : decode cX6_readFirstWord 36 = .ok (.aload_n 0, 1) := by decide +kernel
theorem dX6_readFirstWord_37 : decode cX6_readFirstWord 37 = .ok (.getfield 68, 3) := by decide +kernel
theorem dX6_readFirstWord_40 : decode cX6_readFirstWord 40 = .ok (.invokevirtual 107, 3) := by decide +kernel
theorem dX6_readFirstWord_43 : decode cX6_readFirstWord 43 = .ok (.ireturn, 1) := by decide +kernel
theorem dX6_readFirstWord_44 : decode cX6_readFirstWord 44 = .ok (.iload 4, 2) := by decide +kernel
theorem dX6_readFirstWord_46 : decode cX6_readFirstWord 46 = .ok (.ifCond .eq 15, 3) := by decide +kernel
theorem dX6_readFirstWord_49 : decode cX6_readFirstWord 49 = .ok (.aload_n 0, 1) := by decide +kernel
theorem dX6_readFirstWord_50 : decode cX6_readFirstWord 50 = .ok (.aload_n 0, 1) := by decide +kernel
theorem dX6_readFirstWord_51 : decode cX6_readFirstWord 51 = .ok (.invokevirtual 111, 3) := by decide +kernel
theorem dX6_readFirstWord_54 : decode cX6_readFirstWord 54 = .ok (.aload_n 1, 1) := by decide +kernel
theorem dX6_readFirstWord_55 : decode cX6_readFirstWord 55 = .ok (.invokevirtual 187, 3) := by decide +kernel
theorem dX6_readFirstWord_58 : decode cX6_readFirstWord 58 = .ok (.goto 4, 3) := by decide +kernel
theorem dX6_readFirstWord_61 : decode cX6_readFirstWord 61 = .ok (.iconst 0, 1) := by decide +kernel
theorem dX6_readFirstWord_62 : decode cX6_readFirstWord 62 = .ok (.istore 5, 2) := by decide +kernel
theorem dX6_readFirstWord_64 : decode cX6_readFirstWord 64 = .ok (.iload 4, 2) := by decide +kernel
theorem dX6_readFirstWord_66 : decode cX6_readFirstWord 66 = .ok (.ifCond .eq 20, 3) := by decide +kernel
theorem dX6_readFirstWord_69 : decode cX6_readFirstWord 69 = .ok (.iload 5, 2) := by decide +kernel
theorem dX6_readFirstWord_71 : decode cX6_readFirstWord 71 = .ok (.bipush 24, 2) := by decide +kernel
theorem dX6_readFirstWord_73 : decode cX6_readFirstWord 73 = .ok (.if_icmp .ne 13, 3) := by decide +kernel
theorem dX6_readFirstWord_76 : decode cX6_readFirstWord 76 = .ok (.aload_n 0, 1) := by decide +kernel
theorem dX6_readFirstWord_77 : decode cX6_readFirstWord 77 = .ok (.iconst 3, 1) := by decide +kernel
theorem dX6_readFirstWord_78 : decode cX6_readFirstWord 78 = .ok (.aload_n 0, 1) := by decide +kernel
theorem dX6_readFirstWord_79 : decode cX6_readFirstWord 79 = .ok (.getfield 68, 3) := by decide +kernel
theorem dX6_readFirstWord_82 : decode cX6_readFirstWord 82 = .ok (.invokevirtual 107, 3) := by decide +kernel
theorem dX6_readFirstWord_85 : decode cX6_readFirstWord 85 = .ok (.ireturn, 1) := by decide +kernel
theorem dX6_readFirstWord_86 : decode cX6_readFirstWord 86 = .ok (.aload_n 2, 1) := by decide +kernel
theorem dX6_readFirstWord_87 : decode cX6_readFirstWord 87 = .ok (.getfield 173, 3) := by decide +kernel
theorem dX6_readFirstWord_90 : decode cX6_readFirstWord 90 = .ok (.istore 6, 2) := by decide +kernel
theorem dX6_readFirstWord_92 : decode cX6_readFirstWord 92 = .ok (.iload 6, 2) := by decide +kernel
theorem dX6_readFirstWord_94 : decode cX6_readFirstWord 94 = .ok (.ifCond .lt 10, 3) := by decide +kernel
theorem dX6_readFirstWord_97 : decode cX6_readFirstWord 97 = .ok (.iload 6, 2) := by decide +kernel
theorem dX6_readFirstWord_99 : decode cX6_readFirstWord 99 = .ok (.bipush 120, 2) := by decide +kernel
theorem dX6_readFirstWord_101 : decode cX6_readFirstWord 101 = .ok (.if_icmp .lt 13, 3) := by decide +kernel
theorem dX6_readFirstWord_104 : decode cX6_readFirstWord 104 = .ok (.aload_n 0, 1) := by decide +kernel
theorem dX6_readFirstWord_105 : decode cX6_readFirstWord 105 = .ok (.iconst 4, 1) := by decide +kernel
theorem dX6_readFirstWord_106 : decode cX6_readFirstWord 106 = .ok (.aload_n 0, 1) := by decide +kernel
theorem dX6_readFirstWord_107 : decode cX6_readFirstWord 107 = .ok (.getfield 68, 3) := by decide +kernel
theorem dX6_readFirstWord_110 : decode cX6_readFirstWord 110 = .ok (.invokevirtual 107, 3) := by decide +kernel
theorem dX6_readFirstWord_113 : decode cX6_readFirstWord 113 = .ok (.ireturn, 1) := by decide +kernel
theorem dX6_readFirstWord_114 : decode cX6_readFirstWord 114 = .ok (.aload_n 0, 1) := by decide +kernel
theorem dX6_readFirstWord_115 : decode cX6_readFirstWord 115 = .ok (.getfield 32, 3) := by decide +kernel
theorem dX6_readFirstWord_118 : decode cX6_readFirstWord 118 = .ok (.iload 6, 2) := by decide +kernel
theorem dX6_readFirstWord_120 : decode cX6_readFirstWord 120 = .ok (.aload_n 0, 1) := by decide +kernel
theorem dX6_readFirstWord_121 : decode cX6_readFirstWord 121 = .ok (.getfield 68, 3) := by decide +kernel
theorem dX6_readFirstWord_124 : decode cX6_readFirstWord 124 = .ok (.iastore, 1) := by decide +kernel
theorem dX6_readFirstWord_125 : decode cX6_readFirstWord 125 = .ok (.aload_n 2, 1) := by decide +kernel
theorem dX6_readFirstWord_126 : decode cX6_readFirstWord 126 = .ok (.iload 4, 2) := by decide +kernel
theorem dX6_readFirstWord_128 : decode cX6_readFirstWord 128 = .ok (.ifCond .eq 7, 3) := by decide +kernel
theorem dX6_readFirstWord_131 : decode cX6_readFirstWord 131 = .ok (.iconst 1, 1) := by decide +kernel
theorem dX6_readFirstWord_132 : decode cX6_readFirstWord 132 = .ok (.goto 4, 3) := by decide +kernel
theorem dX6_readFirstWord_135 : decode cX6_readFirstWord 135 = .ok (.iload_n 3, 1) := by decide +kernel
theorem dX6_readFirstWord_136 : decode cX6_readFirstWord 136 = .ok (.iload 5, 2) := by decide +kernel
theorem dX6_readFirstWord_138 : decode cX6_readFirstWord 138 = .ok (.invokevirtual 191, 3) := by decide +kernel
theorem dX6_readFirstWord_141 : decode cX6_readFirstWord 141 = .ok (.iload 4, 2) := by decide +kernel
theorem dX6_readFirstWord_143 : decode cX6_readFirstWord 143 = .ok (.ifCond .ne 8, 3) := by decide +kernel
theorem dX6_readFirstWord_146 : decode cX6_readFirstWord 146 = .ok (.aload_n 0, 1) := by decide +kernel
theorem dX6_readFirstWord_147 : decode cX6_readFirstWord 147 = .ok (.iload_n 3, 1) := by decide +kernel
theorem dX6_readFirstWord_148 : decode cX6_readFirstWord 148 = .ok (.invokevirtual 193, 3) := by decide +kernel
theorem dX6_readFirstWord_151 : decode cX6_readFirstWord 151 = .ok (.iconst 1, 1) := by decide +kernel
theorem dX6_readFirstWord_152 : decode cX6_readFirstWord 152 = .ok (.ireturn, 1) := by decide +kernel
theorem dX6_meaning_0 : decode cX6_meaning 0 = .ok (.aload_n 0, 1) := by decide +kernel
theorem dX6_meaning_1 : decode cX6_meaning 1 = .ok (.getfield 160, 3) := by decide +kernel
theorem dX6_meaning_4 : decode cX6_meaning 4 = .ok (.bipush 24, 2) := by decide +kernel
theorem dX6_meaning_6 : decode cX6_meaning 6 = .ok (.invokestatic 54, 3) := by decide +kernel
theorem dX6_meaning_9 : decode cX6_meaning 9 = .ok (.iconst 1, 1) := by decide +kernel
theorem dX6_meaning_10 : decode cX6_meaning 10 = .ok (.isub, 1) := by decide +kernel
theorem dX6_meaning_11 : decode cX6_meaning 11 = .ok (.istore_n 3, 1) := by decide +kernel
theorem dX6_meaning_12 : decode cX6_meaning 12 = .ok (.iload_n 3, 1) := by decide +kernel
theorem dX6_meaning_13 : decode cX6_meaning 13 = .ok (.ifCond .lt 21, 3) := by decide +kernel
theorem dX6_meaning_16 : decode cX6_meaning 16 = .ok (.aload_n 0, 1) := by decide +kernel
theorem dX6_meaning_17 : decode cX6_meaning 17 = .ok (.getfield 29, 3) := by decide +kernel
theorem dX6_meaning_20 : decode cX6_meaning 20 = .ok (.iload_n 3, 1) := by decide +kernel
theorem dX6_meaning_21 : decode cX6_meaning 21 = .ok (.iaload, 1) := by decide +kernel
theorem dX6_meaning_22 : decode cX6_meaning 22 = .ok (.iload_n 1, 1) := by decide +kernel
theorem dX6_meaning_23 : decode cX6_meaning 23 = .ok (.if_icmp .ne 5, 3) := by decide +kernel
theorem dX6_meaning_26 : decode cX6_meaning 26 = .ok (.iload_n 3, 1) := by decide +kernel
theorem dX6_meaning_27 : decode cX6_meaning 27 = .ok (.ireturn, 1) := by decide +kernel
theorem dX6_meaning_28 : decode cX6_meaning 28 = .ok (.iinc 3 (-1), 3) := by decide +kernel
theorem dX6_meaning_31 : decode cX6_meaning 31 = .ok (.goto (-19), 3) := by decide +kernel
theorem dX6_meaning_34 : decode cX6_meaning 34 = .ok (.aload_n 2, 1) := by decide +kernel
theorem dX6_meaning_35 : decode cX6_meaning 35 = .ok (.iload_n 1, 1) := by decide +kernel
theorem dX6_meaning_36 : decode cX6_meaning 36 = .ok (.invokevirtual 117, 3) := by decide +kernel
theorem dX6_meaning_39 : decode cX6_meaning 39 = .ok (.istore_n 3, 1) := by decide +kernel
theorem dX6_meaning_40 : decode cX6_meaning 40 = .ok (.iload_n 3, 1) := by decide +kernel
theorem dX6_meaning_41 : decode cX6_meaning 41 = .ok (.iconst (-1), 1) := by decide +kernel
theorem dX6_meaning_42 : decode cX6_meaning 42 = .ok (.if_icmp .ne 8, 3) := by decide +kernel
theorem dX6_meaning_45 : decode cX6_meaning 45 = .ok (.bipush 24, 2) := by decide +kernel
theorem dX6_meaning_47 : decode cX6_meaning 47 = .ok (.goto 6, 3) := by decide +kernel
theorem dX6_meaning_50 : decode cX6_meaning 50 = .ok (.iconst (-1), 1) := by decide +kernel
theorem dX6_meaning_51 : decode cX6_meaning 51 = .ok (.iload_n 3, 1) := by decide +kernel
theorem dX6_meaning_52 : decode cX6_meaning 52 = .ok (.isub, 1) := by decide +kernel
theorem dX6_meaning_53 : decode cX6_meaning 53 = .ok (.ireturn, 1) := by decide +kernel
theorem dX6_wantRest_0 : decode cX6_wantRest 0 = .ok (.iload_n 1, 1) := by decide +kernel
theorem dX6_wantRest_1 : decode cX6_wantRest 1 = .ok (.bipush 9, 2) := by decide +kernel
theorem dX6_wantRest_3 : decode cX6_wantRest 3 = .ok (.if_icmp .ne 29, 3) := by decide +kernel
theorem dX6_wantRest_6 : decode cX6_wantRest 6 = .ok (.aload_n 0, 1) := by decide +kernel
theorem dX6_wantRest_7 : decode cX6_wantRest 7 = .ok (.invokevirtual 196, 3) := by decide +kernel
theorem dX6_wantRest_10 : decode cX6_wantRest 10 = .ok (.aload_n 0, 1) := by decide +kernel
theorem dX6_wantRest_11 : decode cX6_wantRest 11 = .ok (.iconst 3, 1) := by decide +kernel
theorem dX6_wantRest_12 : decode cX6_wantRest 12 = .ok (.invokevirtual 163, 3) := by decide +kernel
theorem dX6_wantRest_15 : decode cX6_wantRest 15 = .ok (.aload_n 0, 1) := by decide +kernel
theorem dX6_wantRest_16 : decode cX6_wantRest 16 = .ok (.invokevirtual 196, 3) := by decide +kernel
theorem dX6_wantRest_19 : decode cX6_wantRest 19 = .ok (.aload_n 0, 1) := by decide +kernel
theorem dX6_wantRest_20 : decode cX6_wantRest 20 = .ok (.iconst 3, 1) := by decide +kernel
theorem dX6_wantRest_21 : decode cX6_wantRest 21 = .ok (.invokevirtual 163, 3) := by decide +kernel
theorem dX6_wantRest_24 : decode cX6_wantRest 24 = .ok (.aload_n 0, 1) := by decide +kernel
theorem dX6_wantRest_25 : decode cX6_wantRest 25 = .ok (.iconst 1, 1) := by decide +kernel
theorem dX6_wantRest_26 : decode cX6_wantRest 26 = .ok (.invokevirtual 163, 3) := by decide +kernel
theorem dX6_wantRest_29 : decode cX6_wantRest 29 = .ok (.goto 58, 3) := by decide +kernel
theorem dX6_wantRest_32 : decode cX6_wantRest 32 = .ok (.iload_n 1, 1) := by decide +kernel
theorem dX6_wantRest_33 : decode cX6_wantRest 33 = .ok (.iconst 2, 1) := by decide +kernel
theorem dX6_wantRest_34 : decode cX6_wantRest 34 = .ok (.if_icmp .ne 20, 3) := by decide +kernel
theorem dX6_wantRest_37 : decode cX6_wantRest 37 = .ok (.aload_n 0, 1) := by decide +kernel
theorem dX6_wantRest_38 : decode cX6_wantRest 38 = .ok (.invokevirtual 196, 3) := by decide +kernel
theorem dX6_wantRest_41 : decode cX6_wantRest 41 = .ok (.aload_n 0, 1) := by decide +kernel
theorem dX6_wantRest_42 : decode cX6_wantRest 42 = .ok (.iconst 2, 1) := by decide +kernel
theorem dX6_wantRest_43 : decode cX6_wantRest 43 = .ok (.invokevirtual 163, 3) := by decide +kernel
theorem dX6_wantRest_46 : decode cX6_wantRest 46 = .ok (.aload_n 0, 1) := by decide +kernel
theorem dX6_wantRest_47 : decode cX6_wantRest 47 = .ok (.iconst 3, 1) := by decide +kernel
theorem dX6_wantRest_48 : decode cX6_wantRest 48 = .ok (.invokevirtual 163, 3) := by decide +kernel
theorem dX6_wantRest_51 : decode cX6_wantRest 51 = .ok (.goto 36, 3) := by decide +kernel
theorem dX6_wantRest_54 : decode cX6_wantRest 54 = .ok (.iconst 0, 1) := by decide +kernel
theorem dX6_wantRest_55 : decode cX6_wantRest 55 = .ok (.istore_n 2, 1) := by decide +kernel
theorem dX6_wantRest_56 : decode cX6_wantRest 56 = .ok (.iload_n 2, 1) := by decide +kernel
theorem dX6_wantRest_57 : decode cX6_wantRest 57 = .ok (.iload_n 1, 1) := by decide +kernel
theorem dX6_wantRest_58 : decode cX6_wantRest 58 = .ok (.invokestatic 199, 3) := by decide +kernel
theorem dX6_wantRest_61 : decode cX6_wantRest 61 = .ok (.if_icmp .ge 14, 3) := by decide +kernel
theorem dX6_wantRest_64 : decode cX6_wantRest 64 = .ok (.aload_n 0, 1) := by decide +kernel
theorem dX6_wantRest_65 : decode cX6_wantRest 65 = .ok (.iconst 1, 1) := by decide +kernel
theorem dX6_wantRest_66 : decode cX6_wantRest 66 = .ok (.invokevirtual 163, 3) := by decide +kernel
theorem dX6_wantRest_69 : decode cX6_wantRest 69 = .ok (.iinc 2 1, 3) := by decide +kernel
theorem dX6_wantRest_72 : decode cX6_wantRest 72 = .ok (.goto (-16), 3) := by decide +kernel
theorem dX6_wantRest_75 : decode cX6_wantRest 75 = .ok (.iload_n 1, 1) := by decide +kernel
theorem dX6_wantRest_76 : decode cX6_wantRest 76 = .ok (.invokestatic 202, 3) := by decide +kernel
theorem dX6_wantRest_79 : decode cX6_wantRest 79 = .ok (.ifCond .eq 8, 3) := by decide +kernel
theorem dX6_wantRest_82 : decode cX6_wantRest 82 = .ok (.aload_n 0, 1) := by decide +kernel
theorem dX6_wantRest_83 : decode cX6_wantRest 83 = .ok (.iconst 2, 1) := by decide +kernel
theorem dX6_wantRest_84 : decode cX6_wantRest 84 = .ok (.invokevirtual 163, 3) := by decide +kernel
theorem dX6_wantRest_87 : decode cX6_wantRest 87 = .ok (.return_, 1) := by decide +kernel
theorem dX6_wantBoundTerm_0 : decode cX6_wantBoundTerm 0 = .ok (.aload_n 0, 1) := by decide +kernel
theorem dX6_wantBoundTerm_1 : decode cX6_wantBoundTerm 1 = .ok (.iconst 4, 1) := by decide +kernel
theorem dX6_wantBoundTerm_2 : decode cX6_wantBoundTerm 2 = .ok (.invokevirtual 163, 3) := by decide +kernel
theorem dX6_wantBoundTerm_5 : decode cX6_wantBoundTerm 5 = .ok (.aload_n 0, 1) := by decide +kernel
theorem dX6_wantBoundTerm_6 : decode cX6_wantBoundTerm 6 = .ok (.iconst 1, 1) := by decide +kernel
theorem dX6_wantBoundTerm_7 : decode cX6_wantBoundTerm 7 = .ok (.invokevirtual 163, 3) := by decide +kernel
theorem dX6_wantBoundTerm_10 : decode cX6_wantBoundTerm 10 = .ok (.return_, 1) := by decide +kernel
theorem dX6_blameTerm_0 : decode cX6_blameTerm 0 = .ok (.aload_n 0, 1) := by decide +kernel
theorem dX6_blameTerm_1 : decode cX6_blameTerm 1 = .ok (.iconst 5, 1) := by decide +kernel
theorem dX6_blameTerm_2 : decode cX6_blameTerm 2 = .ok (.aload_n 0, 1) := by decide +kernel
theorem dX6_blameTerm_3 : decode cX6_blameTerm 3 = .ok (.getfield 32, 3) := by decide +kernel
theorem dX6_blameTerm_6 : decode cX6_blameTerm 6 = .ok (.iload_n 1, 1) := by decide +kernel
theorem dX6_blameTerm_7 : decode cX6_blameTerm 7 = .ok (.invokestatic 144, 3) := by decide +kernel
theorem dX6_blameTerm_10 : decode cX6_blameTerm 10 = .ok (.invokevirtual 107, 3) := by decide +kernel
theorem dX6_blameTerm_13 : decode cX6_blameTerm 13 = .ok (.pop, 1) := by decide +kernel
theorem dX6_blameTerm_14 : decode cX6_blameTerm 14 = .ok (.return_, 1) := by decide +kernel
