theorem dX0_init_0 : decode cX0_init 0 = .ok (.aload_n 0, 1) := by decide +kernel
theorem dX0_init_1 : decode cX0_init 1 = .ok (.invokespecial 3, 3) := by decide +kernel
theorem dX0_init_4 : decode cX0_init 4 = .ok (.aload_n 0, 1) := by decide +kernel
theorem dX0_init_5 : decode cX0_init 5 = .ok (.bipush 40, 2) := by decide +kernel
theorem dX0_init_7 : decode cX0_init 7 = .ok (.newarray .int, 2) := by decide +kernel
theorem dX0_init_9 : decode cX0_init 9 = .ok (.putfield 9, 3) := by decide +kernel
theorem dX0_init_12 : decode cX0_init 12 = .ok (.aload_n 0, 1) := by decide +kernel
theorem dX0_init_13 : decode cX0_init 13 = .ok (.bipush 40, 2) := by decide +kernel
theorem dX0_init_15 : decode cX0_init 15 = .ok (.newarray .long, 2) := by decide +kernel
theorem dX0_init_17 : decode cX0_init 17 = .ok (.putfield 15, 3) := by decide +kernel
theorem dX0_init_20 : decode cX0_init 20 = .ok (.aload_n 0, 1) := by decide +kernel
theorem dX0_init_21 : decode cX0_init 21 = .ok (.bipush 40, 2) := by decide +kernel
theorem dX0_init_23 : decode cX0_init 23 = .ok (.newarray .long, 2) := by decide +kernel
theorem dX0_init_25 : decode cX0_init 25 = .ok (.putfield 19, 3) := by decide +kernel
theorem dX0_init_28 : decode cX0_init 28 = .ok (.aload_n 0, 1) := by decide +kernel
theorem dX0_init_29 : decode cX0_init 29 = .ok (.sipush 8192, 3) := by decide +kernel
theorem dX0_init_32 : decode cX0_init 32 = .ok (.newarray .long, 2) := by decide +kernel
theorem dX0_init_34 : decode cX0_init 34 = .ok (.putfield 22, 3) := by decide +kernel
theorem dX0_init_37 : decode cX0_init 37 = .ok (.aload_n 0, 1) := by decide +kernel
theorem dX0_init_38 : decode cX0_init 38 = .ok (.sipush 8192, 3) := by decide +kernel
theorem dX0_init_41 : decode cX0_init 41 = .ok (.newarray .long, 2) := by decide +kernel
theorem dX0_init_43 : decode cX0_init 43 = .ok (.putfield 25, 3) := by decide +kernel
theorem dX0_init_46 : decode cX0_init 46 = .ok (.aload_n 0, 1) := by decide +kernel
theorem dX0_init_47 : decode cX0_init 47 = .ok (.aload_n 1, 1) := by decide +kernel
theorem dX0_init_48 : decode cX0_init 48 = .ok (.putfield 28, 3) := by decide +kernel
theorem dX0_init_51 : decode cX0_init 51 = .ok (.return_, 1) := by decide +kernel
theorem dX0_decide_0 : decode cX0_decide 0 = .ok (.aload_n 0, 1) := by decide +kernel
theorem dX0_decide_1 : decode cX0_decide 1 = .ok (.invokevirtual 32, 3) := by decide +kernel
theorem dX0_decide_4 : decode cX0_decide 4 = .ok (.aload_n 0, 1) := by decide +kernel
theorem dX0_decide_5 : decode cX0_decide 5 = .ok (.iconst 0, 1) := by decide +kernel
theorem dX0_decide_6 : decode cX0_decide 6 = .ok (.putfield 35, 3) := by decide +kernel
theorem dX0_decide_9 : decode cX0_decide 9 = .ok (.iconst 0, 1) := by decide +kernel
theorem dX0_decide_10 : decode cX0_decide 10 = .ok (.istore_n 3, 1) := by decide +kernel
theorem dX0_decide_11 : decode cX0_decide 11 = .ok (.iload_n 3, 1) := by decide +kernel
theorem dX0_decide_12 : decode cX0_decide 12 = .ok (.sipush 8192, 3) := by decide +kernel
theorem dX0_decide_15 : decode cX0_decide 15 = .ok (.if_icmp .ge 16, 3) := by decide +kernel
theorem dX0_decide_18 : decode cX0_decide 18 = .ok (.aload_n 0, 1) := by decide +kernel
theorem dX0_decide_19 : decode cX0_decide 19 = .ok (.getfield 22, 3) := by decide +kernel
theorem dX0_decide_22 : decode cX0_decide 22 = .ok (.iload_n 3, 1) := by decide +kernel
theorem dX0_decide_23 : decode cX0_decide 23 = .ok (.lconst 0, 1) := by decide +kernel
theorem dX0_decide_24 : decode cX0_decide 24 = .ok (.lastore, 1) := by decide +kernel
theorem dX0_decide_25 : decode cX0_decide 25 = .ok (.iinc 3 1, 3) := by decide +kernel
theorem dX0_decide_28 : decode cX0_decide 28 = .ok (.goto (-17), 3) := by decide +kernel
theorem dX0_decide_31 : decode cX0_decide 31 = .ok (.lconst 0, 1) := by decide +kernel
theorem dX0_decide_32 : decode cX0_decide 32 = .ok (.lstore_n 3, 1) := by decide +kernel
theorem dX0_decide_33 : decode cX0_decide 33 = .ok (.iconst 0, 1) := by decide +kernel
theorem dX0_decide_34 : decode cX0_decide 34 = .ok (.istore 5, 2) := by decide +kernel
theorem dX0_decide_36 : decode cX0_decide 36 = .ok (.iload 5, 2) := by decide +kernel
theorem dX0_decide_38 : decode cX0_decide 38 = .ok (.aload_n 1, 1) := by decide +kernel
theorem dX0_decide_39 : decode cX0_decide 39 = .ok (.getfield 39, 3) := by decide +kernel
theorem dX0_decide_42 : decode cX0_decide 42 = .ok (.if_icmp .ge 28, 3) := by decide +kernel
theorem dX0_decide_45 : decode cX0_decide 45 = .ok (.lload_n 3, 1) := by decide +kernel
theorem dX0_decide_46 : decode cX0_decide 46 = .ok (.aload_n 0, 1) := by decide +kernel
theorem dX0_decide_47 : decode cX0_decide 47 = .ok (.getfield 28, 3) := by decide +kernel
theorem dX0_decide_50 : decode cX0_decide 50 = .ok (.aload_n 1, 1) := by decide +kernel
theorem dX0_decide_51 : decode cX0_decide 51 = .ok (.iload 5, 2) := by decide +kernel
theorem dX0_decide_53 : decode cX0_decide 53 = .ok (.invokevirtual 44, 3) := by decide +kernel
theorem dX0_decide_56 : decode cX0_decide 56 = .ok (.invokevirtual 48, 3) := by decide +kernel
theorem dX0_decide_59 : decode cX0_decide 59 = .ok (.invokestatic 53, 3) := by decide +kernel
theorem dX0_decide_62 : decode cX0_decide 62 = .ok (.lor, 1) := by decide +kernel
theorem dX0_decide_63 : decode cX0_decide 63 = .ok (.lstore_n 3, 1) := by decide +kernel
theorem dX0_decide_64 : decode cX0_decide 64 = .ok (.iinc 5 1, 3) := by decide +kernel
theorem dX0_decide_67 : decode cX0_decide 67 = .ok (.goto (-31), 3) := by decide +kernel
theorem dX0_decide_70 : decode cX0_decide 70 = .ok (.aload_n 0, 1) := by decide +kernel
theorem dX0_decide_71 : decode cX0_decide 71 = .ok (.aload_n 0, 1) := by decide +kernel
theorem dX0_decide_72 : decode cX0_decide 72 = .ok (.getfield 28, 3) := by decide +kernel
theorem dX0_decide_75 : decode cX0_decide 75 = .ok (.iload_n 2, 1) := by decide +kernel
theorem dX0_decide_76 : decode cX0_decide 76 = .ok (.invokevirtual 48, 3) := by decide +kernel
theorem dX0_decide_79 : decode cX0_decide 79 = .ok (.invokestatic 53, 3) := by decide +kernel
theorem dX0_decide_82 : decode cX0_decide 82 = .ok (.putfield 57, 3) := by decide +kernel
theorem dX0_decide_85 : decode cX0_decide 85 = .ok (.aload_n 0, 1) := by decide +kernel
theorem dX0_decide_86 : decode cX0_decide 86 = .ok (.aload_n 0, 1) := by decide +kernel
theorem dX0_decide_87 : decode cX0_decide 87 = .ok (.lload_n 3, 1) := by decide +kernel
theorem dX0_decide_88 : decode cX0_decide 88 = .ok (.invokevirtual 61, 3) := by decide +kernel
theorem dX0_decide_91 : decode cX0_decide 91 = .ok (.putfield 65, 3) := by decide +kernel
theorem dX0_decide_94 : decode cX0_decide 94 = .ok (.aload_n 0, 1) := by decide +kernel
theorem dX0_decide_95 : decode cX0_decide 95 = .ok (.lload_n 3, 1) := by decide +kernel
theorem dX0_decide_96 : decode cX0_decide 96 = .ok (.iconst 0, 1) := by decide +kernel
theorem dX0_decide_97 : decode cX0_decide 97 = .ok (.invokevirtual 68, 3) := by decide +kernel
theorem dX0_decide_100 : decode cX0_decide 100 = .ok (.aload_n 0, 1) := by decide +kernel
theorem dX0_decide_101 : decode cX0_decide 101 = .ok (.getfield 57, 3) := by decide +kernel
theorem dX0_decide_104 : decode cX0_decide 104 = .ok (.land, 1) := by decide +kernel
theorem dX0_decide_105 : decode cX0_decide 105 = .ok (.lconst 0, 1) := by decide +kernel
theorem dX0_decide_106 : decode cX0_decide 106 = .ok (.lcmp, 1) := by decide +kernel
theorem dX0_decide_107 : decode cX0_decide 107 = .ok (.ifCond .eq 7, 3) := by decide +kernel
theorem dX0_decide_110 : decode cX0_decide 110 = .ok (.iconst 1, 1) := by decide +kernel
theorem dX0_decide_111 : decode cX0_decide 111 = .ok (.goto 4, 3) := by decide +kernel
theorem dX0_decide_114 : decode cX0_decide 114 = .ok (.iconst 0, 1) := by decide +kernel
theorem dX0_decide_115 : decode cX0_decide 115 = .ok (.ireturn, 1) := by decide +kernel
theorem dX0_takeParts_0 : decode cX0_takeParts 0 = .ok (.aload_n 0, 1) := by decide +kernel
theorem dX0_takeParts_1 : decode cX0_takeParts 1 = .ok (.aload_n 0, 1) := by decide +kernel
theorem dX0_takeParts_2 : decode cX0_takeParts 2 = .ok (.getfield 28, 3) := by decide +kernel
theorem dX0_takeParts_5 : decode cX0_takeParts 5 = .ok (.getfield 72, 3) := by decide +kernel
theorem dX0_takeParts_8 : decode cX0_takeParts 8 = .ok (.bipush 40, 2) := by decide +kernel
theorem dX0_takeParts_10 : decode cX0_takeParts 10 = .ok (.invokestatic 73, 3) := by decide +kernel
theorem dX0_takeParts_13 : decode cX0_takeParts 13 = .ok (.putfield 79, 3) := by decide +kernel
theorem dX0_takeParts_16 : decode cX0_takeParts 16 = .ok (.aload_n 0, 1) := by decide +kernel
theorem dX0_takeParts_17 : decode cX0_takeParts 17 = .ok (.lconst 0, 1) := by decide +kernel
theorem dX0_takeParts_18 : decode cX0_takeParts 18 = .ok (.putfield 80, 3) := by decide +kernel
theorem dX0_takeParts_21 : decode cX0_takeParts 21 = .ok (.iconst 0, 1) := by decide +kernel
theorem dX0_takeParts_22 : decode cX0_takeParts 22 = .ok (.istore_n 1, 1) := by decide +kernel
theorem dX0_takeParts_23 : decode cX0_takeParts 23 = .ok (.iload_n 1, 1) := by decide +kernel
theorem dX0_takeParts_24 : decode cX0_takeParts 24 = .ok (.aload_n 0, 1) := by decide +kernel
theorem dX0_takeParts_25 : decode cX0_takeParts 25 = .ok (.getfield 79, 3) := by decide +kernel
theorem dX0_takeParts_28 : decode cX0_takeParts 28 = .ok (.if_icmp .ge 106, 3) := by decide +kernel
theorem dX0_takeParts_31 : decode cX0_takeParts 31 = .ok (.aload_n 0, 1) := by decide +kernel
theorem dX0_takeParts_32 : decode cX0_takeParts 32 = .ok (.getfield 9, 3) := by decide +kernel
theorem dX0_takeParts_35 : decode cX0_takeParts 35 = .ok (.iload_n 1, 1) := by decide +kernel
theorem dX0_takeParts_36 : decode cX0_takeParts 36 = .ok (.aload_n 0, 1) := by decide +kernel
theorem dX0_takeParts_37 : decode cX0_takeParts 37 = .ok (.getfield 28, 3) := by decide +kernel
theorem dX0_takeParts_40 : decode cX0_takeParts 40 = .ok (.iload_n 1, 1) := by decide +kernel
theorem dX0_takeParts_41 : decode cX0_takeParts 41 = .ok (.invokevirtual 83, 3) := by decide +kernel
theorem dX0_takeParts_44 : decode cX0_takeParts 44 = .ok (.iastore, 1) := by decide +kernel
theorem dX0_takeParts_45 : decode cX0_takeParts 45 = .ok (.aload_n 0, 1) := by decide +kernel
theorem dX0_takeParts_46 : decode cX0_takeParts 46 = .ok (.getfield 15, 3) := by decide +kernel
theorem dX0_takeParts_49 : decode cX0_takeParts 49 = .ok (.iload_n 1, 1) := by decide +kernel
theorem dX0_takeParts_50 : decode cX0_takeParts 50 = .ok (.aload_n 0, 1) := by decide +kernel
theorem dX0_takeParts_51 : decode cX0_takeParts 51 = .ok (.getfield 9, 3) := by decide +kernel
theorem dX0_takeParts_54 : decode cX0_takeParts 54 = .ok (.iload_n 1, 1) := by decide +kernel
theorem dX0_takeParts_55 : decode cX0_takeParts 55 = .ok (.iaload, 1) := by decide +kernel
theorem dX0_takeParts_56 : decode cX0_takeParts 56 = .ok (.bipush 9, 2) := by decide +kernel
theorem dX0_takeParts_58 : decode cX0_takeParts 58 = .ok (.if_icmp .ge 7, 3) := by decide +kernel
theorem dX0_takeParts_61 : decode cX0_takeParts 61 = .ok (.lconst 0, 1) := by decide +kernel
theorem dX0_takeParts_62 : decode cX0_takeParts 62 = .ok (.goto 14, 3) := by decide +kernel
theorem dX0_takeParts_65 : decode cX0_takeParts 65 = .ok (.aload_n 0, 1) := by decide +kernel
theorem dX0_takeParts_66 : decode cX0_takeParts 66 = .ok (.getfield 28, 3) := by decide +kernel
theorem dX0_takeParts_69 : decode cX0_takeParts 69 = .ok (.iload_n 1, 1) := by decide +kernel
theorem dX0_takeParts_70 : decode cX0_takeParts 70 = .ok (.invokevirtual 86, 3) := by decide +kernel
theorem dX0_takeParts_73 : decode cX0_takeParts 73 = .ok (.invokestatic 53, 3) := by decide +kernel
theorem dX0_takeParts_76 : decode cX0_takeParts 76 = .ok (.lastore, 1) := by decide +kernel
theorem dX0_takeParts_77 : decode cX0_takeParts 77 = .ok (.aload_n 0, 1) := by decide +kernel
theorem dX0_takeParts_78 : decode cX0_takeParts 78 = .ok (.getfield 19, 3) := by decide +kernel
theorem dX0_takeParts_81 : decode cX0_takeParts 81 = .ok (.iload_n 1, 1) := by decide +kernel
theorem dX0_takeParts_82 : decode cX0_takeParts 82 = .ok (.aload_n 0, 1) := by decide +kernel
theorem dX0_takeParts_83 : decode cX0_takeParts 83 = .ok (.getfield 9, 3) := by decide +kernel
theorem dX0_takeParts_86 : decode cX0_takeParts 86 = .ok (.iload_n 1, 1) := by decide +kernel
theorem dX0_takeParts_87 : decode cX0_takeParts 87 = .ok (.iaload, 1) := by decide +kernel
theorem dX0_takeParts_88 : decode cX0_takeParts 88 = .ok (.bipush 9, 2) := by decide +kernel
theorem dX0_takeParts_90 : decode cX0_takeParts 90 = .ok (.if_icmp .ge 7, 3) := by decide +kernel
theorem dX0_takeParts_93 : decode cX0_takeParts 93 = .ok (.lconst 0, 1) := by decide +kernel
theorem dX0_takeParts_94 : decode cX0_takeParts 94 = .ok (.goto 14, 3) := by decide +kernel
theorem dX0_takeParts_97 : decode cX0_takeParts 97 = .ok (.aload_n 0, 1) := by decide +kernel
theorem dX0_takeParts_98 : decode cX0_takeParts 98 = .ok (.getfield 28, 3) := by decide +kernel
theorem dX0_takeParts_101 : decode cX0_takeParts 101 = .ok (.iload_n 1, 1) := by decide +kernel
theorem dX0_takeParts_102 : decode cX0_takeParts 102 = .ok (.invokevirtual 89, 3) := by decide +kernel
theorem dX0_takeParts_105 : decode cX0_takeParts 105 = .ok (.invokestatic 53, 3) := by decide +kernel
theorem dX0_takeParts_108 : decode cX0_takeParts 108 = .ok (.lastore, 1) := by decide +kernel
theorem dX0_takeParts_109 : decode cX0_takeParts 109 = .ok (.aload_n 0, 1) := by decide +kernel
theorem dX0_takeParts_110 : decode cX0_takeParts 110 = .ok (.getfield 9, 3) := by decide +kernel
theorem dX0_takeParts_113 : decode cX0_takeParts 113 = .ok (.iload_n 1, 1) := by decide +kernel
theorem dX0_takeParts_114 : decode cX0_takeParts 114 = .ok (.iaload, 1) := by decide +kernel
theorem dX0_takeParts_115 : decode cX0_takeParts 115 = .ok (.bipush 8, 2) := by decide +kernel
theorem dX0_takeParts_117 : decode cX0_takeParts 117 = .ok (.if_icmp .ne 11, 3) := by decide +kernel
theorem dX0_takeParts_120 : decode cX0_takeParts 120 = .ok (.aload_n 0, 1) := by decide +kernel
theorem dX0_takeParts_121 : decode cX0_takeParts 121 = .ok (.iload_n 1, 1) := by decide +kernel
theorem dX0_takeParts_122 : decode cX0_takeParts 122 = .ok (.invokestatic 53, 3) := by decide +kernel
theorem dX0_takeParts_125 : decode cX0_takeParts 125 = .ok (.putfield 80, 3) := by decide +kernel
theorem dX0_takeParts_128 : decode cX0_takeParts 128 = .ok (.iinc 1 1, 3) := by decide +kernel
theorem dX0_takeParts_131 : decode cX0_takeParts 131 = .ok (.goto (-108), 3) := by decide +kernel
theorem dX0_takeParts_134 : decode cX0_takeParts 134 = .ok (.return_, 1) := by decide +kernel
theorem dX0_bit_0 : decode cX0_bit 0 = .ok (.iload_n 0, 1) := by decide +kernel
theorem dX0_bit_1 : decode cX0_bit 1 = .ok (.ifCond .lt 15, 3) := by decide +kernel
theorem dX0_bit_4 : decode cX0_bit 4 = .ok (.iload_n 0, 1) := by decide +kernel
theorem dX0_bit_5 : decode cX0_bit 5 = .ok (.bipush 40, 2) := by decide +kernel
theorem dX0_bit_7 : decode cX0_bit 7 = .ok (.if_icmp .ge 9, 3) := by decide +kernel
theorem dX0_bit_10 : decode cX0_bit 10 = .ok (.lconst 1, 1) := by decide +kernel
theorem dX0_bit_11 : decode cX0_bit 11 = .ok (.iload_n 0, 1) := by decide +kernel
theorem dX0_bit_12 : decode cX0_bit 12 = .ok (.lshl, 1) := by decide +kernel
theorem dX0_bit_13 : decode cX0_bit 13 = .ok (.goto 4, 3) := by decide +kernel
theorem dX0_bit_16 : decode cX0_bit 16 = .ok (.lconst 0, 1) := by decide +kernel
theorem dX0_bit_17 : decode cX0_bit 17 = .ok (.lreturn, 1) := by decide +kernel
theorem dX0_findAsked_0 : decode cX0_findAsked 0 = .ok (.aload_n 0, 1) := by decide +kernel
theorem dX0_findAsked_1 : decode cX0_findAsked 1 = .ok (.getfield 57, 3) := by decide +kernel
theorem dX0_findAsked_4 : decode cX0_findAsked 4 = .ok (.lstore_n 3, 1) := by decide +kernel
theorem dX0_findAsked_5 : decode cX0_findAsked 5 = .ok (.lload_n 1, 1) := by decide +kernel
theorem dX0_findAsked_6 : decode cX0_findAsked 6 = .ok (.lstore 5, 2) := by decide +kernel
theorem dX0_findAsked_8 : decode cX0_findAsked 8 = .ok (.aload_n 0, 1) := by decide +kernel
theorem dX0_findAsked_9 : decode cX0_findAsked 9 = .ok (.getfield 79, 3) := by decide +kernel
theorem dX0_findAsked_12 : decode cX0_findAsked 12 = .ok (.iconst 1, 1) := by decide +kernel
theorem dX0_findAsked_13 : decode cX0_findAsked 13 = .ok (.isub, 1) := by decide +kernel
theorem dX0_findAsked_14 : decode cX0_findAsked 14 = .ok (.istore 7, 2) := by decide +kernel
theorem dX0_findAsked_16 : decode cX0_findAsked 16 = .ok (.iload 7, 2) := by decide +kernel
theorem dX0_findAsked_18 : decode cX0_findAsked 18 = .ok (.ifCond .lt 159, 3) := by decide +kernel
theorem dX0_findAsked_21 : decode cX0_findAsked 21 = .ok (.aload_n 0, 1) := by decide +kernel
theorem dX0_findAsked_22 : decode cX0_findAsked 22 = .ok (.getfield 9, 3) := by decide +kernel
theorem dX0_findAsked_25 : decode cX0_findAsked 25 = .ok (.iload 7, 2) := by decide +kernel
theorem dX0_findAsked_27 : decode cX0_findAsked 27 = .ok (.iaload, 1) := by decide +kernel
theorem dX0_findAsked_28 : decode cX0_findAsked 28 = .ok (.bipush 9, 2) := by decide +kernel
theorem dX0_findAsked_30 : decode cX0_findAsked 30 = .ok (.if_icmp .ne 7, 3) := by decide +kernel
theorem dX0_findAsked_33 : decode cX0_findAsked 33 = .ok (.iconst 1, 1) := by decide +kernel
theorem dX0_findAsked_34 : decode cX0_findAsked 34 = .ok (.goto 4, 3) := by decide +kernel
theorem dX0_findAsked_37 : decode cX0_findAsked 37 = .ok (.iconst 0, 1) := by decide +kernel
theorem dX0_findAsked_38 : decode cX0_findAsked 38 = .ok (.istore 8, 2) := by decide +kernel
theorem dX0_findAsked_40 : decode cX0_findAsked 40 = .ok (.lload_n 3, 1) := by decide +kernel
theorem dX0_findAsked_41 : decode cX0_findAsked 41 = .ok (.iload 7, 2) := by decide +kernel
theorem dX0_findAsked_43 : decode cX0_findAsked 43 = .ok (.lushr, 1) := by decide +kernel
theorem dX0_findAsked_44 : decode cX0_findAsked 44 = .ok (.lconst 1, 1) := by decide +kernel
theorem dX0_findAsked_45 : decode cX0_findAsked 45 = .ok (.land, 1) := by decide +kernel
theorem dX0_findAsked_46 : decode cX0_findAsked 46 = .ok (.lconst 0, 1) := by decide +kernel
theorem dX0_findAsked_47 : decode cX0_findAsked 47 = .ok (.lcmp, 1) := by decide +kernel
theorem dX0_findAsked_48 : decode cX0_findAsked 48 = .ok (.ifCond .eq 57, 3) := by decide +kernel
theorem dX0_findAsked_51 : decode cX0_findAsked 51 = .ok (.lload_n 3, 1) := by decide +kernel
theorem dX0_findAsked_52 : decode cX0_findAsked 52 = .ok (.iload 8, 2) := by decide +kernel
theorem dX0_findAsked_54 : decode cX0_findAsked 54 = .ok (.ifCond .eq 13, 3) := by decide +kernel
theorem dX0_findAsked_57 : decode cX0_findAsked 57 = .ok (.aload_n 0, 1) := by decide +kernel
theorem dX0_findAsked_58 : decode cX0_findAsked 58 = .ok (.getfield 19, 3) := by decide +kernel
theorem dX0_findAsked_61 : decode cX0_findAsked 61 = .ok (.iload 7, 2) := by decide +kernel
theorem dX0_findAsked_63 : decode cX0_findAsked 63 = .ok (.laload, 1) := by decide +kernel
theorem dX0_findAsked_64 : decode cX0_findAsked 64 = .ok (.goto 18, 3) := by decide +kernel
theorem dX0_findAsked_67 : decode cX0_findAsked 67 = .ok (.aload_n 0, 1) := by decide +kernel
theorem dX0_findAsked_68 : decode cX0_findAsked 68 = .ok (.getfield 15, 3) := by decide +kernel
theorem dX0_findAsked_71 : decode cX0_findAsked 71 = .ok (.iload 7, 2) := by decide +kernel
theorem dX0_findAsked_73 : decode cX0_findAsked 73 = .ok (.laload, 1) := by decide +kernel
theorem dX0_findAsked_74 : decode cX0_findAsked 74 = .ok (.aload_n 0, 1) := by decide +kernel
theorem dX0_findAsked_75 : decode cX0_findAsked 75 = .ok (.getfield 19, 3) := by decide +kernel
theorem dX0_findAsked_78 : decode cX0_findAsked 78 = .ok (.iload 7, 2) := by decide +kernel
theorem dX0_findAsked_80 : decode cX0_findAsked 80 = .ok (.laload, 1) := by decide +kernel
theorem dX0_findAsked_81 : decode cX0_findAsked 81 = .ok (.lor, 1) := by decide +kernel
theorem dX0_findAsked_82 : decode cX0_findAsked 82 = .ok (.lor, 1) := by decide +kernel
theorem dX0_findAsked_83 : decode cX0_findAsked 83 = .ok (.lstore_n 3, 1) := by decide +kernel
theorem dX0_findAsked_84 : decode cX0_findAsked 84 = .ok (.lload 5, 2) := by decide +kernel
theorem dX0_findAsked_86 : decode cX0_findAsked 86 = .ok (.iload 8, 2) := by decide +kernel
theorem dX0_findAsked_88 : decode cX0_findAsked 88 = .ok (.ifCond .eq 13, 3) := by decide +kernel
theorem dX0_findAsked_91 : decode cX0_findAsked 91 = .ok (.aload_n 0, 1) := by decide +kernel
theorem dX0_findAsked_92 : decode cX0_findAsked 92 = .ok (.getfield 15, 3) := by decide +kernel
theorem dX0_findAsked_95 : decode cX0_findAsked 95 = .ok (.iload 7, 2) := by decide +kernel
theorem dX0_findAsked_97 : decode cX0_findAsked 97 = .ok (.laload, 1) := by decide +kernel
theorem dX0_findAsked_98 : decode cX0_findAsked 98 = .ok (.goto 4, 3) := by decide +kernel
theorem dX0_findAsked_101 : decode cX0_findAsked 101 = .ok (.lconst 0, 1) := by decide +kernel
theorem dX0_findAsked_102 : decode cX0_findAsked 102 = .ok (.lor, 1) := by decide +kernel
theorem dX0_findAsked_103 : decode cX0_findAsked 103 = .ok (.lstore 5, 2) := by decide +kernel
theorem dX0_findAsked_105 : decode cX0_findAsked 105 = .ok (.lload 5, 2) := by decide +kernel
theorem dX0_findAsked_107 : decode cX0_findAsked 107 = .ok (.iload 7, 2) := by decide +kernel
theorem dX0_findAsked_109 : decode cX0_findAsked 109 = .ok (.lushr, 1) := by decide +kernel
theorem dX0_findAsked_110 : decode cX0_findAsked 110 = .ok (.lconst 1, 1) := by decide +kernel
theorem dX0_findAsked_111 : decode cX0_findAsked 111 = .ok (.land, 1) := by decide +kernel
theorem dX0_findAsked_112 : decode cX0_findAsked 112 = .ok (.lconst 0, 1) := by decide +kernel
theorem dX0_findAsked_113 : decode cX0_findAsked 113 = .ok (.lcmp, 1) := by decide +kernel
theorem dX0_findAsked_114 : decode cX0_findAsked 114 = .ok (.ifCond .eq 57, 3) := by decide +kernel
theorem dX0_findAsked_117 : decode cX0_findAsked 117 = .ok (.lload 5, 2) := by decide +kernel
theorem dX0_findAsked_119 : decode cX0_findAsked 119 = .ok (.iload 8, 2) := by decide +kernel
theorem dX0_findAsked_121 : decode cX0_findAsked 121 = .ok (.ifCond .eq 13, 3) := by decide +kernel
theorem dX0_findAsked_124 : decode cX0_findAsked 124 = .ok (.aload_n 0, 1) := by decide +kernel
theorem dX0_findAsked_125 : decode cX0_findAsked 125 = .ok (.getfield 19, 3) := by decide +kernel
theorem dX0_findAsked_128 : decode cX0_findAsked 128 = .ok (.iload 7, 2) := by decide +kernel
theorem dX0_findAsked_130 : decode cX0_findAsked 130 = .ok (.laload, 1) := by decide +kernel
theorem dX0_findAsked_131 : decode cX0_findAsked 131 = .ok (.goto 18, 3) := by decide +kernel
theorem dX0_findAsked_134 : decode cX0_findAsked 134 = .ok (.aload_n 0, 1) := by decide +kernel
theorem dX0_findAsked_135 : decode cX0_findAsked 135 = .ok (.getfield 15, 3) := by decide +kernel
theorem dX0_findAsked_138 : decode cX0_findAsked 138 = .ok (.iload 7, 2) := by decide +kernel
theorem dX0_findAsked_140 : decode cX0_findAsked 140 = .ok (.laload, 1) := by decide +kernel
theorem dX0_findAsked_141 : decode cX0_findAsked 141 = .ok (.aload_n 0, 1) := by decide +kernel
theorem dX0_findAsked_142 : decode cX0_findAsked 142 = .ok (.getfield 19, 3) := by decide +kernel
theorem dX0_findAsked_145 : decode cX0_findAsked 145 = .ok (.iload 7, 2) := by decide +kernel
theorem dX0_findAsked_147 : decode cX0_findAsked 147 = .ok (.laload, 1) := by decide +kernel
theorem dX0_findAsked_148 : decode cX0_findAsked 148 = .ok (.lor, 1) := by decide +kernel
theorem dX0_findAsked_149 : decode cX0_findAsked 149 = .ok (.lor, 1) := by decide +kernel
theorem dX0_findAsked_150 : decode cX0_findAsked 150 = .ok (.lstore 5, 2) := by decide +kernel
theorem dX0_findAsked_152 : decode cX0_findAsked 152 = .ok (.lload_n 3, 1) := by decide +kernel
theorem dX0_findAsked_153 : decode cX0_findAsked 153 = .ok (.iload 8, 2) := by decide +kernel
theorem dX0_findAsked_155 : decode cX0_findAsked 155 = .ok (.ifCond .eq 13, 3) := by decide +kernel
theorem dX0_findAsked_158 : decode cX0_findAsked 158 = .ok (.aload_n 0, 1) := by decide +kernel
theorem dX0_findAsked_159 : decode cX0_findAsked 159 = .ok (.getfield 15, 3) := by decide +kernel
theorem dX0_findAsked_162 : decode cX0_findAsked 162 = .ok (.iload 7, 2) := by decide +kernel
theorem dX0_findAsked_164 : decode cX0_findAsked 164 = .ok (.laload, 1) := by decide +kernel
theorem dX0_findAsked_165 : decode cX0_findAsked 165 = .ok (.goto 4, 3) := by decide +kernel
theorem dX0_findAsked_168 : decode cX0_findAsked 168 = .ok (.lconst 0, 1) := by decide +kernel
theorem dX0_findAsked_169 : decode cX0_findAsked 169 = .ok (.lor, 1) := by decide +kernel
theorem dX0_findAsked_170 : decode cX0_findAsked 170 = .ok (.lstore_n 3, 1) := by decide +kernel
theorem dX0_findAsked_171 : decode cX0_findAsked 171 = .ok (.iinc 7 (-1), 3) := by decide +kernel
theorem dX0_findAsked_174 : decode cX0_findAsked 174 = .ok (.goto (-158), 3) := by decide +kernel
theorem dX0_findAsked_177 : decode cX0_findAsked 177 = .ok (.lload_n 3, 1) := by decide +kernel
theorem dX0_findAsked_178 : decode cX0_findAsked 178 = .ok (.lreturn, 1) := by decide +kernel
theorem dX0_close_0 : decode cX0_close 0 = .ok (.aload_n 0, 1) := by decide +kernel
theorem dX0_close_1 : decode cX0_close 1 = .ok (.lload_n 1, 1) := by decide +kernel
theorem dX0_close_2 : decode cX0_close 2 = .ok (.invokevirtual 92, 3) := by decide +kernel
theorem dX0_close_5 : decode cX0_close 5 = .ok (.lstore 4, 2) := by decide +kernel
theorem dX0_close_7 : decode cX0_close 7 = .ok (.lload 4, 2) := by decide +kernel
theorem dX0_close_9 : decode cX0_close 9 = .ok (.aload_n 0, 1) := by decide +kernel
theorem dX0_close_10 : decode cX0_close 10 = .ok (.getfield 80, 3) := by decide +kernel
theorem dX0_close_13 : decode cX0_close 13 = .ok (.land, 1) := by decide +kernel
theorem dX0_close_14 : decode cX0_close 14 = .ok (.lconst 0, 1) := by decide +kernel
theorem dX0_close_15 : decode cX0_close 15 = .ok (.lcmp, 1) := by decide +kernel
theorem dX0_close_16 : decode cX0_close 16 = .ok (.ifCond .eq 7, 3) := by decide +kernel
theorem dX0_close_19 : decode cX0_close 19 = .ok (.ldc2_w 95, 3) := by decide +kernel
theorem dX0_close_22 : decode cX0_close 22 = .ok (.lreturn, 1) := by decide +kernel
theorem dX0_close_23 : decode cX0_close 23 = .ok (.iload_n 3, 1) := by decide +kernel
theorem dX0_close_24 : decode cX0_close 24 = .ok (.bipush 64, 2) := by decide +kernel
theorem dX0_close_26 : decode cX0_close 26 = .ok (.if_icmp .le 6, 3) := by decide +kernel
theorem dX0_close_29 : decode cX0_close 29 = .ok (.lload 4, 2) := by decide +kernel
theorem dX0_close_31 : decode cX0_close 31 = .ok (.lreturn, 1) := by decide +kernel
theorem dX0_close_32 : decode cX0_close 32 = .ok (.aload_n 0, 1) := by decide +kernel
theorem dX0_close_33 : decode cX0_close 33 = .ok (.lload 4, 2) := by decide +kernel
theorem dX0_close_35 : decode cX0_close 35 = .ok (.invokevirtual 97, 3) := by decide +kernel
theorem dX0_close_38 : decode cX0_close 38 = .ok (.istore 6, 2) := by decide +kernel
theorem dX0_close_40 : decode cX0_close 40 = .ok (.iload 6, 2) := by decide +kernel
theorem dX0_close_42 : decode cX0_close 42 = .ok (.ifCond .lt 31, 3) := by decide +kernel
theorem dX0_close_45 : decode cX0_close 45 = .ok (.iload 6, 2) := by decide +kernel
theorem dX0_close_47 : decode cX0_close 47 = .ok (.sipush 8192, 3) := by decide +kernel
theorem dX0_close_50 : decode cX0_close 50 = .ok (.if_icmp .ge 23, 3) := by decide +kernel
theorem dX0_close_53 : decode cX0_close 53 = .ok (.aload_n 0, 1) := by decide +kernel
theorem dX0_close_54 : decode cX0_close 54 = .ok (.getfield 22, 3) := by decide +kernel
theorem dX0_close_57 : decode cX0_close 57 = .ok (.iload 6, 2) := by decide +kernel
theorem dX0_close_59 : decode cX0_close 59 = .ok (.laload, 1) := by decide +kernel
theorem dX0_close_60 : decode cX0_close 60 = .ok (.lconst 0, 1) := by decide +kernel
theorem dX0_close_61 : decode cX0_close 61 = .ok (.lcmp, 1) := by decide +kernel
theorem dX0_close_62 : decode cX0_close 62 = .ok (.ifCond .eq 11, 3) := by decide +kernel
theorem dX0_close_65 : decode cX0_close 65 = .ok (.aload_n 0, 1) := by decide +kernel
theorem dX0_close_66 : decode cX0_close 66 = .ok (.getfield 25, 3) := by decide +kernel
theorem dX0_close_69 : decode cX0_close 69 = .ok (.iload 6, 2) := by decide +kernel
theorem dX0_close_71 : decode cX0_close 71 = .ok (.laload, 1) := by decide +kernel
theorem dX0_close_72 : decode cX0_close 72 = .ok (.lreturn, 1) := by decide +kernel
theorem dX0_close_73 : decode cX0_close 73 = .ok (.aload_n 0, 1) := by decide +kernel
theorem dX0_close_74 : decode cX0_close 74 = .ok (.lload 4, 2) := by decide +kernel
theorem dX0_close_76 : decode cX0_close 76 = .ok (.invokevirtual 101, 3) := by decide +kernel
theorem dX0_close_79 : decode cX0_close 79 = .ok (.istore 7, 2) := by decide +kernel
theorem dX0_close_81 : decode cX0_close 81 = .ok (.iload 7, 2) := by decide +kernel
theorem dX0_close_83 : decode cX0_close 83 = .ok (.ifCond .lt 52, 3) := by decide +kernel
theorem dX0_close_86 : decode cX0_close 86 = .ok (.iload 7, 2) := by decide +kernel
theorem dX0_close_88 : decode cX0_close 88 = .ok (.aload_n 0, 1) := by decide +kernel
theorem dX0_close_89 : decode cX0_close 89 = .ok (.getfield 79, 3) := by decide +kernel
theorem dX0_close_92 : decode cX0_close 92 = .ok (.if_icmp .ge 43, 3) := by decide +kernel
theorem dX0_close_95 : decode cX0_close 95 = .ok (.aload_n 0, 1) := by decide +kernel
theorem dX0_close_96 : decode cX0_close 96 = .ok (.lload 4, 2) := by decide +kernel
theorem dX0_close_98 : decode cX0_close 98 = .ok (.aload_n 0, 1) := by decide +kernel
theorem dX0_close_99 : decode cX0_close 99 = .ok (.getfield 15, 3) := by decide +kernel
theorem dX0_close_102 : decode cX0_close 102 = .ok (.iload 7, 2) := by decide +kernel
theorem dX0_close_104 : decode cX0_close 104 = .ok (.laload, 1) := by decide +kernel
theorem dX0_close_105 : decode cX0_close 105 = .ok (.lor, 1) := by decide +kernel
theorem dX0_close_106 : decode cX0_close 106 = .ok (.iload_n 3, 1) := by decide +kernel
theorem dX0_close_107 : decode cX0_close 107 = .ok (.iconst 1, 1) := by decide +kernel
theorem dX0_close_108 : decode cX0_close 108 = .ok (.iadd, 1) := by decide +kernel
theorem dX0_close_109 : decode cX0_close 109 = .ok (.invokevirtual 68, 3) := by decide +kernel
theorem dX0_close_112 : decode cX0_close 112 = .ok (.aload_n 0, 1) := by decide +kernel
theorem dX0_close_113 : decode cX0_close 113 = .ok (.lload 4, 2) := by decide +kernel
theorem dX0_close_115 : decode cX0_close 115 = .ok (.aload_n 0, 1) := by decide +kernel
theorem dX0_close_116 : decode cX0_close 116 = .ok (.getfield 19, 3) := by decide +kernel
theorem dX0_close_119 : decode cX0_close 119 = .ok (.iload 7, 2) := by decide +kernel
theorem dX0_close_121 : decode cX0_close 121 = .ok (.laload, 1) := by decide +kernel
theorem dX0_close_122 : decode cX0_close 122 = .ok (.lor, 1) := by decide +kernel
theorem dX0_close_123 : decode cX0_close 123 = .ok (.iload_n 3, 1) := by decide +kernel
theorem dX0_close_124 : decode cX0_close 124 = .ok (.iconst 1, 1) := by decide +kernel
theorem dX0_close_125 : decode cX0_close 125 = .ok (.iadd, 1) := by decide +kernel
theorem dX0_close_126 : decode cX0_close 126 = .ok (.invokevirtual 68, 3) := by decide +kernel
theorem dX0_close_129 : decode cX0_close 129 = .ok (.land, 1) := by decide +kernel
theorem dX0_close_130 : decode cX0_close 130 = .ok (.lstore 8, 2) := by decide +kernel
theorem dX0_close_132 : decode cX0_close 132 = .ok (.goto 12, 3) := by decide +kernel
theorem dX0_close_135 : decode cX0_close 135 = .ok (.aload_n 0, 1) := by decide +kernel
theorem dX0_close_136 : decode cX0_close 136 = .ok (.lload 4, 2) := by decide +kernel
theorem dX0_close_138 : decode cX0_close 138 = .ok (.iload_n 3, 1) := by decide +kernel
theorem dX0_close_139 : decode cX0_close 139 = .ok (.invokevirtual 104, 3) := by decide +kernel
theorem dX0_close_142 : decode cX0_close 142 = .ok (.lstore 8, 2) := by decide +kernel
theorem dX0_close_144 : decode cX0_close 144 = .ok (.aload_n 0, 1) := by decide +kernel
theorem dX0_close_145 : decode cX0_close 145 = .ok (.lload 4, 2) := by decide +kernel
theorem dX0_close_147 : decode cX0_close 147 = .ok (.lload 8, 2) := by decide +kernel
theorem dX0_close_149 : decode cX0_close 149 = .ok (.invokevirtual 107, 3) := by decide +kernel
theorem dX0_close_152 : decode cX0_close 152 = .ok (.lload 8, 2) := by decide +kernel
theorem dX0_close_154 : decode cX0_close 154 = .ok (.lreturn, 1) := by decide +kernel
theorem dX0_tryImps_0 : decode cX0_tryImps 0 = .ok (.lload_n 1, 1) := by decide +kernel
theorem dX0_tryImps_1 : decode cX0_tryImps 1 = .ok (.lstore 4, 2) := by decide +kernel
theorem dX0_tryImps_3 : decode cX0_tryImps 3 = .ok (.aload_n 0, 1) := by decide +kernel
theorem dX0_tryImps_4 : decode cX0_tryImps 4 = .ok (.lload 4, 2) := by decide +kernel
theorem dX0_tryImps_6 : decode cX0_tryImps 6 = .ok (.invokevirtual 111, 3) := by decide +kernel
theorem dX0_tryImps_9 : decode cX0_tryImps 9 = .ok (.lstore 6, 2) := by decide +kernel
theorem dX0_tryImps_11 : decode cX0_tryImps 11 = .ok (.iconst 0, 1) := by decide +kernel
theorem dX0_tryImps_12 : decode cX0_tryImps 12 = .ok (.istore 8, 2) := by decide +kernel
theorem dX0_tryImps_14 : decode cX0_tryImps 14 = .ok (.iconst 0, 1) := by decide +kernel
theorem dX0_tryImps_15 : decode cX0_tryImps 15 = .ok (.istore 9, 2) := by decide +kernel
theorem dX0_tryImps_17 : decode cX0_tryImps 17 = .ok (.iload 9, 2) := by decide +kernel
theorem dX0_tryImps_19 : decode cX0_tryImps 19 = .ok (.aload_n 0, 1) := by decide +kernel
theorem dX0_tryImps_20 : decode cX0_tryImps 20 = .ok (.getfield 79, 3) := by decide +kernel
theorem dX0_tryImps_23 : decode cX0_tryImps 23 = .ok (.aload_n 0, 1) := by decide +kernel
theorem dX0_tryImps_24 : decode cX0_tryImps 24 = .ok (.getfield 79, 3) := by decide +kernel
theorem dX0_tryImps_27 : decode cX0_tryImps 27 = .ok (.iconst 1, 1) := by decide +kernel
theorem dX0_tryImps_28 : decode cX0_tryImps 28 = .ok (.iadd, 1) := by decide +kernel
theorem dX0_tryImps_29 : decode cX0_tryImps 29 = .ok (.imul, 1) := by decide +kernel
theorem dX0_tryImps_30 : decode cX0_tryImps 30 = .ok (.if_icmp .ge 172, 3) := by decide +kernel
theorem dX0_tryImps_33 : decode cX0_tryImps 33 = .ok (.iload 8, 2) := by decide +kernel
theorem dX0_tryImps_35 : decode cX0_tryImps 35 = .ok (.aload_n 0, 1) := by decide +kernel
theorem dX0_tryImps_36 : decode cX0_tryImps 36 = .ok (.getfield 79, 3) := by decide +kernel
theorem dX0_tryImps_39 : decode cX0_tryImps 39 = .ok (.if_icmp .ge 163, 3) := by decide +kernel
theorem dX0_tryImps_42 : decode cX0_tryImps 42 = .ok (.iload 9, 2) := by decide +kernel
theorem dX0_tryImps_44 : decode cX0_tryImps 44 = .ok (.aload_n 0, 1) := by decide +kernel
theorem dX0_tryImps_45 : decode cX0_tryImps 45 = .ok (.getfield 79, 3) := by decide +kernel
theorem dX0_tryImps_48 : decode cX0_tryImps 48 = .ok (.irem, 1) := by decide +kernel
theorem dX0_tryImps_49 : decode cX0_tryImps 49 = .ok (.istore 10, 2) := by decide +kernel
theorem dX0_tryImps_51 : decode cX0_tryImps 51 = .ok (.iinc 8 1, 3) := by decide +kernel
theorem dX0_tryImps_54 : decode cX0_tryImps 54 = .ok (.aload_n 0, 1) := by decide +kernel
theorem dX0_tryImps_55 : decode cX0_tryImps 55 = .ok (.getfield 9, 3) := by decide +kernel
theorem dX0_tryImps_58 : decode cX0_tryImps 58 = .ok (.iload 10, 2) := by decide +kernel
theorem dX0_tryImps_60 : decode cX0_tryImps 60 = .ok (.iaload, 1) := by decide +kernel
theorem dX0_tryImps_61 : decode cX0_tryImps 61 = .ok (.bipush 9, 2) := by decide +kernel
theorem dX0_tryImps_63 : decode cX0_tryImps 63 = .ok (.if_icmp .ne 27, 3) := by decide +kernel
theorem dX0_tryImps_66 : decode cX0_tryImps 66 = .ok (.lload 4, 2) := by decide +kernel
theorem dX0_tryImps_68 : decode cX0_tryImps 68 = .ok (.aload_n 0, 1) := by decide +kernel
theorem dX0_tryImps_69 : decode cX0_tryImps 69 = .ok (.getfield 15, 3) := by decide +kernel
theorem dX0_tryImps_72 : decode cX0_tryImps 72 = .ok (.iload 10, 2) := by decide +kernel
theorem dX0_tryImps_74 : decode cX0_tryImps 74 = .ok (.laload, 1) := by decide +kernel
theorem dX0_tryImps_75 : decode cX0_tryImps 75 = .ok (.lconst 1, 1) := by decide +kernel
theorem dX0_tryImps_76 : decode cX0_tryImps 76 = .ok (.iload 10, 2) := by decide +kernel
theorem dX0_tryImps_78 : decode cX0_tryImps 78 = .ok (.lshl, 1) := by decide +kernel
theorem dX0_tryImps_79 : decode cX0_tryImps 79 = .ok (.lor, 1) := by decide +kernel
theorem dX0_tryImps_80 : decode cX0_tryImps 80 = .ok (.land, 1) := by decide +kernel
theorem dX0_tryImps_81 : decode cX0_tryImps 81 = .ok (.lconst 0, 1) := by decide +kernel
theorem dX0_tryImps_82 : decode cX0_tryImps 82 = .ok (.lcmp, 1) := by decide +kernel
theorem dX0_tryImps_83 : decode cX0_tryImps 83 = .ok (.ifCond .ne 7, 3) := by decide +kernel
theorem dX0_tryImps_86 : decode cX0_tryImps 86 = .ok (.iconst 1, 1) := by decide +kernel
theorem dX0_tryImps_87 : decode cX0_tryImps 87 = .ok (.goto 4, 3) := by decide +kernel
theorem dX0_tryImps_90 : decode cX0_tryImps 90 = .ok (.iconst 0, 1) := by decide +kernel
theorem dX0_tryImps_91 : decode cX0_tryImps 91 = .ok (.istore 11, 2) := by decide +kernel
theorem dX0_tryImps_93 : decode cX0_tryImps 93 = .ok (.iload 11, 2) := by decide +kernel
theorem dX0_tryImps_95 : decode cX0_tryImps 95 = .ok (.ifCond .eq 101, 3) := by decide +kernel
theorem dX0_tryImps_98 : decode cX0_tryImps 98 = .ok (.lload 6, 2) := by decide +kernel
theorem dX0_tryImps_100 : decode cX0_tryImps 100 = .ok (.iload 10, 2) := by decide +kernel
theorem dX0_tryImps_102 : decode cX0_tryImps 102 = .ok (.lushr, 1) := by decide +kernel
theorem dX0_tryImps_103 : decode cX0_tryImps 103 = .ok (.lconst 1, 1) := by decide +kernel
theorem dX0_tryImps_104 : decode cX0_tryImps 104 = .ok (.land, 1) := by decide +kernel
theorem dX0_tryImps_105 : decode cX0_tryImps 105 = .ok (.lconst 0, 1) := by decide +kernel
theorem dX0_tryImps_106 : decode cX0_tryImps 106 = .ok (.lcmp, 1) := by decide +kernel
theorem dX0_tryImps_107 : decode cX0_tryImps 107 = .ok (.ifCond .eq 89, 3) := by decide +kernel
theorem dX0_tryImps_110 : decode cX0_tryImps 110 = .ok (.aload_n 0, 1) := by decide +kernel
theorem dX0_tryImps_111 : decode cX0_tryImps 111 = .ok (.lload 4, 2) := by decide +kernel
theorem dX0_tryImps_113 : decode cX0_tryImps 113 = .ok (.aload_n 0, 1) := by decide +kernel
theorem dX0_tryImps_114 : decode cX0_tryImps 114 = .ok (.getfield 15, 3) := by decide +kernel
theorem dX0_tryImps_117 : decode cX0_tryImps 117 = .ok (.iload 10, 2) := by decide +kernel
theorem dX0_tryImps_119 : decode cX0_tryImps 119 = .ok (.laload, 1) := by decide +kernel
theorem dX0_tryImps_120 : decode cX0_tryImps 120 = .ok (.lor, 1) := by decide +kernel
theorem dX0_tryImps_121 : decode cX0_tryImps 121 = .ok (.iload_n 3, 1) := by decide +kernel
theorem dX0_tryImps_122 : decode cX0_tryImps 122 = .ok (.iconst 1, 1) := by decide +kernel
theorem dX0_tryImps_123 : decode cX0_tryImps 123 = .ok (.iadd, 1) := by decide +kernel
theorem dX0_tryImps_124 : decode cX0_tryImps 124 = .ok (.invokevirtual 68, 3) := by decide +kernel
theorem dX0_tryImps_127 : decode cX0_tryImps 127 = .ok (.aload_n 0, 1) := by decide +kernel
theorem dX0_tryImps_128 : decode cX0_tryImps 128 = .ok (.getfield 19, 3) := by decide +kernel
theorem dX0_tryImps_131 : decode cX0_tryImps 131 = .ok (.iload 10, 2) := by decide +kernel
theorem dX0_tryImps_133 : decode cX0_tryImps 133 = .ok (.laload, 1) := by decide +kernel
theorem dX0_tryImps_134 : decode cX0_tryImps 134 = .ok (.land, 1) := by decide +kernel
theorem dX0_tryImps_135 : decode cX0_tryImps 135 = .ok (.lconst 0, 1) := by decide +kernel
theorem dX0_tryImps_136 : decode cX0_tryImps 136 = .ok (.lcmp, 1) := by decide +kernel
theorem dX0_tryImps_137 : decode cX0_tryImps 137 = .ok (.ifCond .eq 59, 3) := by decide +kernel
theorem dX0_tryImps_140 : decode cX0_tryImps 140 = .ok (.aload_n 0, 1) := by decide +kernel
theorem dX0_tryImps_141 : decode cX0_tryImps 141 = .ok (.lload 4, 2) := by decide +kernel
theorem dX0_tryImps_143 : decode cX0_tryImps 143 = .ok (.lconst 1, 1) := by decide +kernel
theorem dX0_tryImps_144 : decode cX0_tryImps 144 = .ok (.iload 10, 2) := by decide +kernel
theorem dX0_tryImps_146 : decode cX0_tryImps 146 = .ok (.lshl, 1) := by decide +kernel
theorem dX0_tryImps_147 : decode cX0_tryImps 147 = .ok (.lor, 1) := by decide +kernel
theorem dX0_tryImps_148 : decode cX0_tryImps 148 = .ok (.invokevirtual 92, 3) := by decide +kernel
theorem dX0_tryImps_151 : decode cX0_tryImps 151 = .ok (.lstore 4, 2) := by decide +kernel
theorem dX0_tryImps_153 : decode cX0_tryImps 153 = .ok (.lload 4, 2) := by decide +kernel
theorem dX0_tryImps_155 : decode cX0_tryImps 155 = .ok (.aload_n 0, 1) := by decide +kernel
theorem dX0_tryImps_156 : decode cX0_tryImps 156 = .ok (.getfield 80, 3) := by decide +kernel
theorem dX0_tryImps_159 : decode cX0_tryImps 159 = .ok (.land, 1) := by decide +kernel
theorem dX0_tryImps_160 : decode cX0_tryImps 160 = .ok (.lconst 0, 1) := by decide +kernel
theorem dX0_tryImps_161 : decode cX0_tryImps 161 = .ok (.lcmp, 1) := by decide +kernel
theorem dX0_tryImps_162 : decode cX0_tryImps 162 = .ok (.ifCond .ne 13, 3) := by decide +kernel
theorem dX0_tryImps_165 : decode cX0_tryImps 165 = .ok (.aload_n 0, 1) := by decide +kernel
theorem dX0_tryImps_166 : decode cX0_tryImps 166 = .ok (.lload 4, 2) := by decide +kernel
theorem dX0_tryImps_168 : decode cX0_tryImps 168 = .ok (.invokevirtual 101, 3) := by decide +kernel
theorem dX0_tryImps_171 : decode cX0_tryImps 171 = .ok (.iconst (-1), 1) := by decide +kernel
theorem dX0_tryImps_172 : decode cX0_tryImps 172 = .ok (.if_icmp .eq 13, 3) := by decide +kernel
theorem dX0_tryImps_175 : decode cX0_tryImps 175 = .ok (.aload_n 0, 1) := by decide +kernel
theorem dX0_tryImps_176 : decode cX0_tryImps 176 = .ok (.lload 4, 2) := by decide +kernel
theorem dX0_tryImps_178 : decode cX0_tryImps 178 = .ok (.iload_n 3, 1) := by decide +kernel
theorem dX0_tryImps_179 : decode cX0_tryImps 179 = .ok (.iconst 1, 1) := by decide +kernel
theorem dX0_tryImps_180 : decode cX0_tryImps 180 = .ok (.iadd, 1) := by decide +kernel
theorem dX0_tryImps_181 : decode cX0_tryImps 181 = .ok (.invokevirtual 68, 3) := by decide +kernel
theorem dX0_tryImps_184 : decode cX0_tryImps 184 = .ok (.lreturn, 1) := by decide +kernel
theorem dX0_tryImps_185 : decode cX0_tryImps 185 = .ok (.aload_n 0, 1) := by decide +kernel
theorem dX0_tryImps_186 : decode cX0_tryImps 186 = .ok (.lload 4, 2) := by decide +kernel
theorem dX0_tryImps_188 : decode cX0_tryImps 188 = .ok (.invokevirtual 111, 3) := by decide +kernel
theorem dX0_tryImps_191 : decode cX0_tryImps 191 = .ok (.lstore 6, 2) := by decide +kernel
theorem dX0_tryImps_193 : decode cX0_tryImps 193 = .ok (.iconst 0, 1) := by decide +kernel
theorem dX0_tryImps_194 : decode cX0_tryImps 194 = .ok (.istore 8, 2) := by decide +kernel
theorem dX0_tryImps_196 : decode cX0_tryImps 196 = .ok (.iinc 9 1, 3) := by decide +kernel
theorem dX0_tryImps_199 : decode cX0_tryImps 199 = .ok (.goto (-182), 3) := by decide +kernel
theorem dX0_tryImps_202 : decode cX0_tryImps 202 = .ok (.lload 4, 2) := by decide +kernel
theorem dX0_tryImps_204 : decode cX0_tryImps 204 = .ok (.lreturn, 1) := by decide +kernel
theorem dX0_mattering_0 : decode cX0_mattering 0 = .ok (.aload_n 0, 1) := by decide +kernel
theorem dX0_mattering_1 : decode cX0_mattering 1 = .ok (.getfield 57, 3) := by decide +kernel
theorem dX0_mattering_4 : decode cX0_mattering 4 = .ok (.lstore_n 3, 1) := by decide +kernel
theorem dX0_mattering_5 : decode cX0_mattering 5 = .ok (.iconst 0, 1) := by decide +kernel
theorem dX0_mattering_6 : decode cX0_mattering 6 = .ok (.istore 5, 2) := by decide +kernel
theorem dX0_mattering_8 : decode cX0_mattering 8 = .ok (.iload 5, 2) := by decide +kernel
theorem dX0_mattering_10 : decode cX0_mattering 10 = .ok (.aload_n 0, 1) := by decide +kernel
theorem dX0_mattering_11 : decode cX0_mattering 11 = .ok (.getfield 79, 3) := by decide +kernel
theorem dX0_mattering_14 : decode cX0_mattering 14 = .ok (.if_icmp .ge 94, 3) := by decide +kernel
theorem dX0_mattering_17 : decode cX0_mattering 17 = .ok (.aload_n 0, 1) := by decide +kernel
theorem dX0_mattering_18 : decode cX0_mattering 18 = .ok (.getfield 9, 3) := by decide +kernel
theorem dX0_mattering_21 : decode cX0_mattering 21 = .ok (.iload 5, 2) := by decide +kernel
theorem dX0_mattering_23 : decode cX0_mattering 23 = .ok (.iaload, 1) := by decide +kernel
theorem dX0_mattering_24 : decode cX0_mattering 24 = .ok (.bipush 9, 2) := by decide +kernel
theorem dX0_mattering_26 : decode cX0_mattering 26 = .ok (.if_icmp .ne 76, 3) := by decide +kernel
theorem dX0_mattering_29 : decode cX0_mattering 29 = .ok (.aload_n 0, 1) := by decide +kernel
theorem dX0_mattering_30 : decode cX0_mattering 30 = .ok (.getfield 65, 3) := by decide +kernel
theorem dX0_mattering_33 : decode cX0_mattering 33 = .ok (.iload 5, 2) := by decide +kernel
theorem dX0_mattering_35 : decode cX0_mattering 35 = .ok (.lushr, 1) := by decide +kernel
theorem dX0_mattering_36 : decode cX0_mattering 36 = .ok (.lconst 1, 1) := by decide +kernel
theorem dX0_mattering_37 : decode cX0_mattering 37 = .ok (.land, 1) := by decide +kernel
theorem dX0_mattering_38 : decode cX0_mattering 38 = .ok (.lconst 0, 1) := by decide +kernel
theorem dX0_mattering_39 : decode cX0_mattering 39 = .ok (.lcmp, 1) := by decide +kernel
theorem dX0_mattering_40 : decode cX0_mattering 40 = .ok (.ifCond .eq 27, 3) := by decide +kernel
theorem dX0_mattering_43 : decode cX0_mattering 43 = .ok (.lload_n 1, 1) := by decide +kernel
theorem dX0_mattering_44 : decode cX0_mattering 44 = .ok (.aload_n 0, 1) := by decide +kernel
theorem dX0_mattering_45 : decode cX0_mattering 45 = .ok (.getfield 15, 3) := by decide +kernel
theorem dX0_mattering_48 : decode cX0_mattering 48 = .ok (.iload 5, 2) := by decide +kernel
theorem dX0_mattering_50 : decode cX0_mattering 50 = .ok (.laload, 1) := by decide +kernel
theorem dX0_mattering_51 : decode cX0_mattering 51 = .ok (.land, 1) := by decide +kernel
theorem dX0_mattering_52 : decode cX0_mattering 52 = .ok (.lconst 0, 1) := by decide +kernel
theorem dX0_mattering_53 : decode cX0_mattering 53 = .ok (.lcmp, 1) := by decide +kernel
theorem dX0_mattering_54 : decode cX0_mattering 54 = .ok (.ifCond .eq 13, 3) := by decide +kernel
theorem dX0_mattering_57 : decode cX0_mattering 57 = .ok (.lload_n 3, 1) := by decide +kernel
theorem dX0_mattering_58 : decode cX0_mattering 58 = .ok (.aload_n 0, 1) := by decide +kernel
theorem dX0_mattering_59 : decode cX0_mattering 59 = .ok (.getfield 19, 3) := by decide +kernel
theorem dX0_mattering_62 : decode cX0_mattering 62 = .ok (.iload 5, 2) := by decide +kernel
theorem dX0_mattering_64 : decode cX0_mattering 64 = .ok (.laload, 1) := by decide +kernel
theorem dX0_mattering_65 : decode cX0_mattering 65 = .ok (.lor, 1) := by decide +kernel
theorem dX0_mattering_66 : decode cX0_mattering 66 = .ok (.lstore_n 3, 1) := by decide +kernel
theorem dX0_mattering_67 : decode cX0_mattering 67 = .ok (.lload_n 1, 1) := by decide +kernel
theorem dX0_mattering_68 : decode cX0_mattering 68 = .ok (.iload 5, 2) := by decide +kernel
theorem dX0_mattering_70 : decode cX0_mattering 70 = .ok (.lushr, 1) := by decide +kernel
theorem dX0_mattering_71 : decode cX0_mattering 71 = .ok (.lconst 1, 1) := by decide +kernel
theorem dX0_mattering_72 : decode cX0_mattering 72 = .ok (.land, 1) := by decide +kernel
theorem dX0_mattering_73 : decode cX0_mattering 73 = .ok (.lconst 0, 1) := by decide +kernel
theorem dX0_mattering_74 : decode cX0_mattering 74 = .ok (.lcmp, 1) := by decide +kernel
theorem dX0_mattering_75 : decode cX0_mattering 75 = .ok (.ifCond .eq 27, 3) := by decide +kernel
theorem dX0_mattering_78 : decode cX0_mattering 78 = .ok (.lload_n 1, 1) := by decide +kernel
theorem dX0_mattering_79 : decode cX0_mattering 79 = .ok (.aload_n 0, 1) := by decide +kernel
theorem dX0_mattering_80 : decode cX0_mattering 80 = .ok (.getfield 19, 3) := by decide +kernel
theorem dX0_mattering_83 : decode cX0_mattering 83 = .ok (.iload 5, 2) := by decide +kernel
theorem dX0_mattering_85 : decode cX0_mattering 85 = .ok (.laload, 1) := by decide +kernel
theorem dX0_mattering_86 : decode cX0_mattering 86 = .ok (.land, 1) := by decide +kernel
theorem dX0_mattering_87 : decode cX0_mattering 87 = .ok (.lconst 0, 1) := by decide +kernel
theorem dX0_mattering_88 : decode cX0_mattering 88 = .ok (.lcmp, 1) := by decide +kernel
theorem dX0_mattering_89 : decode cX0_mattering 89 = .ok (.ifCond .ne 13, 3) := by decide +kernel
theorem dX0_mattering_92 : decode cX0_mattering 92 = .ok (.lload_n 3, 1) := by decide +kernel
theorem dX0_mattering_93 : decode cX0_mattering 93 = .ok (.aload_n 0, 1) := by decide +kernel
theorem dX0_mattering_94 : decode cX0_mattering 94 = .ok (.getfield 15, 3) := by decide +kernel
theorem dX0_mattering_97 : decode cX0_mattering 97 = .ok (.iload 5, 2) := by decide +kernel
theorem dX0_mattering_99 : decode cX0_mattering 99 = .ok (.laload, 1) := by decide +kernel
theorem dX0_mattering_100 : decode cX0_mattering 100 = .ok (.lor, 1) := by decide +kernel
theorem dX0_mattering_101 : decode cX0_mattering 101 = .ok (.lstore_n 3, 1) := by decide +kernel
theorem dX0_mattering_102 : decode cX0_mattering 102 = .ok (.iinc 5 1, 3) := by decide +kernel
theorem dX0_mattering_105 : decode cX0_mattering 105 = .ok (.goto (-97), 3) := by decide +kernel
theorem dX0_mattering_108 : decode cX0_mattering 108 = .ok (.aload_n 0, 1) := by decide +kernel
theorem dX0_mattering_109 : decode cX0_mattering 109 = .ok (.getfield 79, 3) := by decide +kernel
theorem dX0_mattering_112 : decode cX0_mattering 112 = .ok (.iconst 1, 1) := by decide +kernel
theorem dX0_mattering_113 : decode cX0_mattering 113 = .ok (.isub, 1) := by decide +kernel
theorem dX0_mattering_114 : decode cX0_mattering 114 = .ok (.istore 5, 2) := by decide +kernel
theorem dX0_mattering_116 : decode cX0_mattering 116 = .ok (.iload 5, 2) := by decide +kernel
theorem dX0_mattering_118 : decode cX0_mattering 118 = .ok (.ifCond .lt 50, 3) := by decide +kernel
theorem dX0_mattering_121 : decode cX0_mattering 121 = .ok (.aload_n 0, 1) := by decide +kernel
theorem dX0_mattering_122 : decode cX0_mattering 122 = .ok (.getfield 9, 3) := by decide +kernel
theorem dX0_mattering_125 : decode cX0_mattering 125 = .ok (.iload 5, 2) := by decide +kernel
theorem dX0_mattering_127 : decode cX0_mattering 127 = .ok (.iaload, 1) := by decide +kernel
theorem dX0_mattering_128 : decode cX0_mattering 128 = .ok (.bipush 9, 2) := by decide +kernel
theorem dX0_mattering_130 : decode cX0_mattering 130 = .ok (.if_icmp .le 32, 3) := by decide +kernel
theorem dX0_mattering_133 : decode cX0_mattering 133 = .ok (.lload_n 3, 1) := by decide +kernel
theorem dX0_mattering_134 : decode cX0_mattering 134 = .ok (.iload 5, 2) := by decide +kernel
theorem dX0_mattering_136 : decode cX0_mattering 136 = .ok (.lushr, 1) := by decide +kernel
theorem dX0_mattering_137 : decode cX0_mattering 137 = .ok (.lconst 1, 1) := by decide +kernel
theorem dX0_mattering_138 : decode cX0_mattering 138 = .ok (.land, 1) := by decide +kernel
theorem dX0_mattering_139 : decode cX0_mattering 139 = .ok (.lconst 0, 1) := by decide +kernel
theorem dX0_mattering_140 : decode cX0_mattering 140 = .ok (.lcmp, 1) := by decide +kernel
theorem dX0_mattering_141 : decode cX0_mattering 141 = .ok (.ifCond .eq 21, 3) := by decide +kernel
theorem dX0_mattering_144 : decode cX0_mattering 144 = .ok (.lload_n 3, 1) := by decide +kernel
theorem dX0_mattering_145 : decode cX0_mattering 145 = .ok (.aload_n 0, 1) := by decide +kernel
theorem dX0_mattering_146 : decode cX0_mattering 146 = .ok (.getfield 15, 3) := by decide +kernel
theorem dX0_mattering_149 : decode cX0_mattering 149 = .ok (.iload 5, 2) := by decide +kernel
theorem dX0_mattering_151 : decode cX0_mattering 151 = .ok (.laload, 1) := by decide +kernel
theorem dX0_mattering_152 : decode cX0_mattering 152 = .ok (.aload_n 0, 1) := by decide +kernel
theorem dX0_mattering_153 : decode cX0_mattering 153 = .ok (.getfield 19, 3) := by decide +kernel
theorem dX0_mattering_156 : decode cX0_mattering 156 = .ok (.iload 5, 2) := by decide +kernel
theorem dX0_mattering_158 : decode cX0_mattering 158 = .ok (.laload, 1) := by decide +kernel
theorem dX0_mattering_159 : decode cX0_mattering 159 = .ok (.lor, 1) := by decide +kernel
theorem dX0_mattering_160 : decode cX0_mattering 160 = .ok (.lor, 1) := by decide +kernel
theorem dX0_mattering_161 : decode cX0_mattering 161 = .ok (.lstore_n 3, 1) := by decide +kernel
theorem dX0_mattering_162 : decode cX0_mattering 162 = .ok (.iinc 5 (-1), 3) := by decide +kernel
theorem dX0_mattering_165 : decode cX0_mattering 165 = .ok (.goto (-49), 3) := by decide +kernel
theorem dX0_mattering_168 : decode cX0_mattering 168 = .ok (.lload_n 3, 1) := by decide +kernel
theorem dX0_mattering_169 : decode cX0_mattering 169 = .ok (.lreturn, 1) := by decide +kernel
theorem dX0_openOr_0 : decode cX0_openOr 0 = .ok (.iconst 0, 1) := by decide +kernel
theorem dX0_openOr_1 : decode cX0_openOr 1 = .ok (.istore_n 3, 1) := by decide +kernel
theorem dX0_openOr_2 : decode cX0_openOr 2 = .ok (.iload_n 3, 1) := by decide +kernel
theorem dX0_openOr_3 : decode cX0_openOr 3 = .ok (.aload_n 0, 1) := by decide +kernel
theorem dX0_openOr_4 : decode cX0_openOr 4 = .ok (.getfield 79, 3) := by decide +kernel
theorem dX0_openOr_7 : decode cX0_openOr 7 = .ok (.if_icmp .ge 52, 3) := by decide +kernel
theorem dX0_openOr_10 : decode cX0_openOr 10 = .ok (.aload_n 0, 1) := by decide +kernel
theorem dX0_openOr_11 : decode cX0_openOr 11 = .ok (.getfield 9, 3) := by decide +kernel
theorem dX0_openOr_14 : decode cX0_openOr 14 = .ok (.iload_n 3, 1) := by decide +kernel
theorem dX0_openOr_15 : decode cX0_openOr 15 = .ok (.iaload, 1) := by decide +kernel
theorem dX0_openOr_16 : decode cX0_openOr 16 = .ok (.bipush 11, 2) := by decide +kernel
theorem dX0_openOr_18 : decode cX0_openOr 18 = .ok (.if_icmp .ne 35, 3) := by decide +kernel
theorem dX0_openOr_21 : decode cX0_openOr 21 = .ok (.lload_n 1, 1) := by decide +kernel
theorem dX0_openOr_22 : decode cX0_openOr 22 = .ok (.iload_n 3, 1) := by decide +kernel
theorem dX0_openOr_23 : decode cX0_openOr 23 = .ok (.lushr, 1) := by decide +kernel
theorem dX0_openOr_24 : decode cX0_openOr 24 = .ok (.lconst 1, 1) := by decide +kernel
theorem dX0_openOr_25 : decode cX0_openOr 25 = .ok (.land, 1) := by decide +kernel
theorem dX0_openOr_26 : decode cX0_openOr 26 = .ok (.lconst 0, 1) := by decide +kernel
theorem dX0_openOr_27 : decode cX0_openOr 27 = .ok (.lcmp, 1) := by decide +kernel
theorem dX0_openOr_28 : decode cX0_openOr 28 = .ok (.ifCond .eq 25, 3) := by decide +kernel
theorem dX0_openOr_31 : decode cX0_openOr 31 = .ok (.lload_n 1, 1) := by decide +kernel
theorem dX0_openOr_32 : decode cX0_openOr 32 = .ok (.aload_n 0, 1) := by decide +kernel
theorem dX0_openOr_33 : decode cX0_openOr 33 = .ok (.getfield 15, 3) := by decide +kernel
theorem dX0_openOr_36 : decode cX0_openOr 36 = .ok (.iload_n 3, 1) := by decide +kernel
theorem dX0_openOr_37 : decode cX0_openOr 37 = .ok (.laload, 1) := by decide +kernel
theorem dX0_openOr_38 : decode cX0_openOr 38 = .ok (.aload_n 0, 1) := by decide +kernel
theorem dX0_openOr_39 : decode cX0_openOr 39 = .ok (.getfield 19, 3) := by decide +kernel
theorem dX0_openOr_42 : decode cX0_openOr 42 = .ok (.iload_n 3, 1) := by decide +kernel
theorem dX0_openOr_43 : decode cX0_openOr 43 = .ok (.laload, 1) := by decide +kernel
theorem dX0_openOr_44 : decode cX0_openOr 44 = .ok (.lor, 1) := by decide +kernel
theorem dX0_openOr_45 : decode cX0_openOr 45 = .ok (.land, 1) := by decide +kernel
theorem dX0_openOr_46 : decode cX0_openOr 46 = .ok (.lconst 0, 1) := by decide +kernel
theorem dX0_openOr_47 : decode cX0_openOr 47 = .ok (.lcmp, 1) := by decide +kernel
theorem dX0_openOr_48 : decode cX0_openOr 48 = .ok (.ifCond .ne 5, 3) := by decide +kernel
theorem dX0_openOr_51 : decode cX0_openOr 51 = .ok (.iload_n 3, 1) := by decide +kernel
theorem dX0_openOr_52 : decode cX0_openOr 52 = .ok (.ireturn, 1) := by decide +kernel
theorem dX0_openOr_53 : decode cX0_openOr 53 = .ok (.iinc 3 1, 3) := by decide +kernel
theorem dX0_openOr_56 : decode cX0_openOr 56 = .ok (.goto (-54), 3) := by decide +kernel
theorem dX0_openOr_59 : decode cX0_openOr 59 = .ok (.iconst (-1), 1) := by decide +kernel
theorem dX0_openOr_60 : decode cX0_openOr 60 = .ok (.ireturn, 1) := by decide +kernel
theorem dX0_saturate_0 : decode cX0_saturate 0 = .ok (.lload_n 1, 1) := by decide +kernel
theorem dX0_saturate_1 : decode cX0_saturate 1 = .ok (.lstore_n 3, 1) := by decide +kernel
theorem dX0_saturate_2 : decode cX0_saturate 2 = .ok (.iconst 0, 1) := by decide +kernel
theorem dX0_saturate_3 : decode cX0_saturate 3 = .ok (.istore 5, 2) := by decide +kernel
theorem dX0_saturate_5 : decode cX0_saturate 5 = .ok (.iload 5, 2) := by decide +kernel
theorem dX0_saturate_7 : decode cX0_saturate 7 = .ok (.bipush 40, 2) := by decide +kernel
theorem dX0_saturate_9 : decode cX0_saturate 9 = .ok (.if_icmp .gt 61, 3) := by decide +kernel
theorem dX0_saturate_12 : decode cX0_saturate 12 = .ok (.lload_n 3, 1) := by decide +kernel
theorem dX0_saturate_13 : decode cX0_saturate 13 = .ok (.lstore 6, 2) := by decide +kernel
theorem dX0_saturate_15 : decode cX0_saturate 15 = .ok (.iconst 0, 1) := by decide +kernel
theorem dX0_saturate_16 : decode cX0_saturate 16 = .ok (.istore 8, 2) := by decide +kernel
theorem dX0_saturate_18 : decode cX0_saturate 18 = .ok (.iload 8, 2) := by decide +kernel
theorem dX0_saturate_20 : decode cX0_saturate 20 = .ok (.aload_n 0, 1) := by decide +kernel
theorem dX0_saturate_21 : decode cX0_saturate 21 = .ok (.getfield 79, 3) := by decide +kernel
theorem dX0_saturate_24 : decode cX0_saturate 24 = .ok (.if_icmp .ge 31, 3) := by decide +kernel
theorem dX0_saturate_27 : decode cX0_saturate 27 = .ok (.aload_n 0, 1) := by decide +kernel
theorem dX0_saturate_28 : decode cX0_saturate 28 = .ok (.getfield 9, 3) := by decide +kernel
theorem dX0_saturate_31 : decode cX0_saturate 31 = .ok (.iload 8, 2) := by decide +kernel
theorem dX0_saturate_33 : decode cX0_saturate 33 = .ok (.iaload, 1) := by decide +kernel
theorem dX0_saturate_34 : decode cX0_saturate 34 = .ok (.bipush 9, 2) := by decide +kernel
theorem dX0_saturate_36 : decode cX0_saturate 36 = .ok (.if_icmp .lt 13, 3) := by decide +kernel
theorem dX0_saturate_39 : decode cX0_saturate 39 = .ok (.lload_n 3, 1) := by decide +kernel
theorem dX0_saturate_40 : decode cX0_saturate 40 = .ok (.aload_n 0, 1) := by decide +kernel
theorem dX0_saturate_41 : decode cX0_saturate 41 = .ok (.lload_n 3, 1) := by decide +kernel
theorem dX0_saturate_42 : decode cX0_saturate 42 = .ok (.iload 8, 2) := by decide +kernel
theorem dX0_saturate_44 : decode cX0_saturate 44 = .ok (.invokevirtual 114, 3) := by decide +kernel
theorem dX0_saturate_47 : decode cX0_saturate 47 = .ok (.lor, 1) := by decide +kernel
theorem dX0_saturate_48 : decode cX0_saturate 48 = .ok (.lstore_n 3, 1) := by decide +kernel
theorem dX0_saturate_49 : decode cX0_saturate 49 = .ok (.iinc 8 1, 3) := by decide +kernel
theorem dX0_saturate_52 : decode cX0_saturate 52 = .ok (.goto (-34), 3) := by decide +kernel
theorem dX0_saturate_55 : decode cX0_saturate 55 = .ok (.lload_n 3, 1) := by decide +kernel
theorem dX0_saturate_56 : decode cX0_saturate 56 = .ok (.lload 6, 2) := by decide +kernel
theorem dX0_saturate_58 : decode cX0_saturate 58 = .ok (.lcmp, 1) := by decide +kernel
theorem dX0_saturate_59 : decode cX0_saturate 59 = .ok (.ifCond .ne 5, 3) := by decide +kernel
theorem dX0_saturate_62 : decode cX0_saturate 62 = .ok (.lload_n 3, 1) := by decide +kernel
theorem dX0_saturate_63 : decode cX0_saturate 63 = .ok (.lreturn, 1) := by decide +kernel
theorem dX0_saturate_64 : decode cX0_saturate 64 = .ok (.iinc 5 1, 3) := by decide +kernel
theorem dX0_saturate_67 : decode cX0_saturate 67 = .ok (.goto (-62), 3) := by decide +kernel
theorem dX0_saturate_70 : decode cX0_saturate 70 = .ok (.lload_n 3, 1) := by decide +kernel
theorem dX0_saturate_71 : decode cX0_saturate 71 = .ok (.lreturn, 1) := by decide +kernel
theorem dX0_atOnce_0 : decode cX0_atOnce 0 = .ok (.iload_n 3, 1) := by decide +kernel
theorem dX0_atOnce_1 : decode cX0_atOnce 1 = .ok (.ifCond .lt 9, 3) := by decide +kernel
theorem dX0_atOnce_4 : decode cX0_atOnce 4 = .ok (.iload_n 3, 1) := by decide +kernel
theorem dX0_atOnce_5 : decode cX0_atOnce 5 = .ok (.bipush 40, 2) := by decide +kernel
theorem dX0_atOnce_7 : decode cX0_atOnce 7 = .ok (.if_icmp .lt 5, 3) := by decide +kernel
theorem dX0_atOnce_10 : decode cX0_atOnce 10 = .ok (.lconst 0, 1) := by decide +kernel
theorem dX0_atOnce_11 : decode cX0_atOnce 11 = .ok (.lreturn, 1) := by decide +kernel
theorem dX0_atOnce_12 : decode cX0_atOnce 12 = .ok (.lload_n 1, 1) := by decide +kernel
theorem dX0_atOnce_13 : decode cX0_atOnce 13 = .ok (.iload_n 3, 1) := by decide +kernel
theorem dX0_atOnce_14 : decode cX0_atOnce 14 = .ok (.lushr, 1) := by decide +kernel
theorem dX0_atOnce_15 : decode cX0_atOnce 15 = .ok (.lconst 1, 1) := by decide +kernel
theorem dX0_atOnce_16 : decode cX0_atOnce 16 = .ok (.land, 1) := by decide +kernel
theorem dX0_atOnce_17 : decode cX0_atOnce 17 = .ok (.lconst 0, 1) := by decide +kernel
theorem dX0_atOnce_18 : decode cX0_atOnce 18 = .ok (.lcmp, 1) := by decide +kernel
theorem dX0_atOnce_19 : decode cX0_atOnce 19 = .ok (.ifCond .eq 7, 3) := by decide +kernel
theorem dX0_atOnce_22 : decode cX0_atOnce 22 = .ok (.iconst 1, 1) := by decide +kernel
theorem dX0_atOnce_23 : decode cX0_atOnce 23 = .ok (.goto 4, 3) := by decide +kernel
theorem dX0_atOnce_26 : decode cX0_atOnce 26 = .ok (.iconst 0, 1) := by decide +kernel
theorem dX0_atOnce_27 : decode cX0_atOnce 27 = .ok (.istore 4, 2) := by decide +kernel
theorem dX0_atOnce_29 : decode cX0_atOnce 29 = .ok (.lload_n 1, 1) := by decide +kernel
theorem dX0_atOnce_30 : decode cX0_atOnce 30 = .ok (.aload_n 0, 1) := by decide +kernel
theorem dX0_atOnce_31 : decode cX0_atOnce 31 = .ok (.getfield 15, 3) := by decide +kernel
theorem dX0_atOnce_34 : decode cX0_atOnce 34 = .ok (.iload_n 3, 1) := by decide +kernel
theorem dX0_atOnce_35 : decode cX0_atOnce 35 = .ok (.laload, 1) := by decide +kernel
theorem dX0_atOnce_36 : decode cX0_atOnce 36 = .ok (.land, 1) := by decide +kernel
theorem dX0_atOnce_37 : decode cX0_atOnce 37 = .ok (.lconst 0, 1) := by decide +kernel
theorem dX0_atOnce_38 : decode cX0_atOnce 38 = .ok (.lcmp, 1) := by decide +kernel
theorem dX0_atOnce_39 : decode cX0_atOnce 39 = .ok (.ifCond .eq 7, 3) := by decide +kernel
theorem dX0_atOnce_42 : decode cX0_atOnce 42 = .ok (.iconst 1, 1) := by decide +kernel
theorem dX0_atOnce_43 : decode cX0_atOnce 43 = .ok (.goto 4, 3) := by decide +kernel
theorem dX0_atOnce_46 : decode cX0_atOnce 46 = .ok (.iconst 0, 1) := by decide +kernel
theorem dX0_atOnce_47 : decode cX0_atOnce 47 = .ok (.istore 5, 2) := by decide +kernel
theorem dX0_atOnce_49 : decode cX0_atOnce 49 = .ok (.lload_n 1, 1) := by decide +kernel
theorem dX0_atOnce_50 : decode cX0_atOnce 50 = .ok (.aload_n 0, 1) := by decide +kernel
theorem dX0_atOnce_51 : decode cX0_atOnce 51 = .ok (.getfield 19, 3) := by decide +kernel
theorem dX0_atOnce_54 : decode cX0_atOnce 54 = .ok (.iload_n 3, 1) := by decide +kernel
theorem dX0_atOnce_55 : decode cX0_atOnce 55 = .ok (.laload, 1) := by decide +kernel
theorem dX0_atOnce_56 : decode cX0_atOnce 56 = .ok (.land, 1) := by decide +kernel
theorem dX0_atOnce_57 : decode cX0_atOnce 57 = .ok (.lconst 0, 1) := by decide +kernel
theorem dX0_atOnce_58 : decode cX0_atOnce 58 = .ok (.lcmp, 1) := by decide +kernel
theorem dX0_atOnce_59 : decode cX0_atOnce 59 = .ok (.ifCond .eq 7, 3) := by decide +kernel
theorem dX0_atOnce_62 : decode cX0_atOnce 62 = .ok (.iconst 1, 1) := by decide +kernel
theorem dX0_atOnce_63 : decode cX0_atOnce 63 = .ok (.goto 4, 3) := by decide +kernel
theorem dX0_atOnce_66 : decode cX0_atOnce 66 = .ok (.iconst 0, 1) := by decide +kernel
theorem dX0_atOnce_67 : decode cX0_atOnce 67 = .ok (.istore 6, 2) := by decide +kernel
theorem dX0_atOnce_69 : decode cX0_atOnce 69 = .ok (.aload_n 0, 1) := by decide +kernel
theorem dX0_atOnce_70 : decode cX0_atOnce 70 = .ok (.getfield 9, 3) := by decide +kernel
theorem dX0_atOnce_73 : decode cX0_atOnce 73 = .ok (.iload_n 3, 1) := by decide +kernel
theorem dX0_atOnce_74 : decode cX0_atOnce 74 = .ok (.iaload, 1) := by decide +kernel
theorem dX0_atOnce_75 : decode cX0_atOnce 75 = .ok (.lookupswitch 96 #[(9, 25), (10, 57)], 25) := by decide +kernel
theorem dX0_atOnce_100 : decode cX0_atOnce 100 = .ok (.iload 6, 2) := by decide +kernel
theorem dX0_atOnce_102 : decode cX0_atOnce 102 = .ok (.ifCond .eq 9, 3) := by decide +kernel
theorem dX0_atOnce_105 : decode cX0_atOnce 105 = .ok (.lconst 1, 1) := by decide +kernel
theorem dX0_atOnce_106 : decode cX0_atOnce 106 = .ok (.iload_n 3, 1) := by decide +kernel
theorem dX0_atOnce_107 : decode cX0_atOnce 107 = .ok (.lshl, 1) := by decide +kernel
theorem dX0_atOnce_108 : decode cX0_atOnce 108 = .ok (.goto 23, 3) := by decide +kernel
theorem dX0_atOnce_111 : decode cX0_atOnce 111 = .ok (.iload 4, 2) := by decide +kernel
theorem dX0_atOnce_113 : decode cX0_atOnce 113 = .ok (.ifCond .eq 17, 3) := by decide +kernel
theorem dX0_atOnce_116 : decode cX0_atOnce 116 = .ok (.iload 5, 2) := by decide +kernel
theorem dX0_atOnce_118 : decode cX0_atOnce 118 = .ok (.ifCond .eq 12, 3) := by decide +kernel
theorem dX0_atOnce_121 : decode cX0_atOnce 121 = .ok (.aload_n 0, 1) := by decide +kernel
theorem dX0_atOnce_122 : decode cX0_atOnce 122 = .ok (.getfield 19, 3) := by decide +kernel
theorem dX0_atOnce_125 : decode cX0_atOnce 125 = .ok (.iload_n 3, 1) := by decide +kernel
theorem dX0_atOnce_126 : decode cX0_atOnce 126 = .ok (.laload, 1) := by decide +kernel
theorem dX0_atOnce_127 : decode cX0_atOnce 127 = .ok (.goto 4, 3) := by decide +kernel
theorem dX0_atOnce_130 : decode cX0_atOnce 130 = .ok (.lconst 0, 1) := by decide +kernel
theorem dX0_atOnce_131 : decode cX0_atOnce 131 = .ok (.lreturn, 1) := by decide +kernel
theorem dX0_atOnce_132 : decode cX0_atOnce 132 = .ok (.iload 4, 2) := by decide +kernel
theorem dX0_atOnce_134 : decode cX0_atOnce 134 = .ok (.ifCond .eq 19, 3) := by decide +kernel
theorem dX0_atOnce_137 : decode cX0_atOnce 137 = .ok (.aload_n 0, 1) := by decide +kernel
theorem dX0_atOnce_138 : decode cX0_atOnce 138 = .ok (.getfield 15, 3) := by decide +kernel
theorem dX0_atOnce_141 : decode cX0_atOnce 141 = .ok (.iload_n 3, 1) := by decide +kernel
theorem dX0_atOnce_142 : decode cX0_atOnce 142 = .ok (.laload, 1) := by decide +kernel
theorem dX0_atOnce_143 : decode cX0_atOnce 143 = .ok (.aload_n 0, 1) := by decide +kernel
theorem dX0_atOnce_144 : decode cX0_atOnce 144 = .ok (.getfield 19, 3) := by decide +kernel
theorem dX0_atOnce_147 : decode cX0_atOnce 147 = .ok (.iload_n 3, 1) := by decide +kernel
theorem dX0_atOnce_148 : decode cX0_atOnce 148 = .ok (.laload, 1) := by decide +kernel
theorem dX0_atOnce_149 : decode cX0_atOnce 149 = .ok (.lor, 1) := by decide +kernel
theorem dX0_atOnce_150 : decode cX0_atOnce 150 = .ok (.goto 20, 3) := by decide +kernel
theorem dX0_atOnce_153 : decode cX0_atOnce 153 = .ok (.iload 5, 2) := by decide +kernel
theorem dX0_atOnce_155 : decode cX0_atOnce 155 = .ok (.ifCond .eq 14, 3) := by decide +kernel
theorem dX0_atOnce_158 : decode cX0_atOnce 158 = .ok (.iload 6, 2) := by decide +kernel
theorem dX0_atOnce_160 : decode cX0_atOnce 160 = .ok (.ifCond .eq 9, 3) := by decide +kernel
theorem dX0_atOnce_163 : decode cX0_atOnce 163 = .ok (.lconst 1, 1) := by decide +kernel
theorem dX0_atOnce_164 : decode cX0_atOnce 164 = .ok (.iload_n 3, 1) := by decide +kernel
theorem dX0_atOnce_165 : decode cX0_atOnce 165 = .ok (.lshl, 1) := by decide +kernel
theorem dX0_atOnce_166 : decode cX0_atOnce 166 = .ok (.goto 4, 3) := by decide +kernel
theorem dX0_atOnce_169 : decode cX0_atOnce 169 = .ok (.lconst 0, 1) := by decide +kernel
theorem dX0_atOnce_170 : decode cX0_atOnce 170 = .ok (.lreturn, 1) := by decide +kernel
theorem dX0_atOnce_171 : decode cX0_atOnce 171 = .ok (.iload 5, 2) := by decide +kernel
theorem dX0_atOnce_173 : decode cX0_atOnce 173 = .ok (.ifCond .ne 8, 3) := by decide +kernel
theorem dX0_atOnce_176 : decode cX0_atOnce 176 = .ok (.iload 6, 2) := by decide +kernel
theorem dX0_atOnce_178 : decode cX0_atOnce 178 = .ok (.ifCond .eq 9, 3) := by decide +kernel
theorem dX0_atOnce_181 : decode cX0_atOnce 181 = .ok (.lconst 1, 1) := by decide +kernel
theorem dX0_atOnce_182 : decode cX0_atOnce 182 = .ok (.iload_n 3, 1) := by decide +kernel
theorem dX0_atOnce_183 : decode cX0_atOnce 183 = .ok (.lshl, 1) := by decide +kernel
theorem dX0_atOnce_184 : decode cX0_atOnce 184 = .ok (.goto 4, 3) := by decide +kernel
theorem dX0_atOnce_187 : decode cX0_atOnce 187 = .ok (.lconst 0, 1) := by decide +kernel
theorem dX0_atOnce_188 : decode cX0_atOnce 188 = .ok (.lreturn, 1) := by decide +kernel
theorem dX0_memoSpot_0 : decode cX0_memoSpot 0 = .ok (.lload_n 1, 1) := by decide +kernel
theorem dX0_memoSpot_1 : decode cX0_memoSpot 1 = .ok (.ldc2_w 117, 3) := by decide +kernel
theorem dX0_memoSpot_4 : decode cX0_memoSpot 4 = .ok (.lmul, 1) := by decide +kernel
theorem dX0_memoSpot_5 : decode cX0_memoSpot 5 = .ok (.lstore_n 3, 1) := by decide +kernel
theorem dX0_memoSpot_6 : decode cX0_memoSpot 6 = .ok (.lload_n 3, 1) := by decide +kernel
theorem dX0_memoSpot_7 : decode cX0_memoSpot 7 = .ok (.bipush 40, 2) := by decide +kernel
theorem dX0_memoSpot_9 : decode cX0_memoSpot 9 = .ok (.lushr, 1) := by decide +kernel
theorem dX0_memoSpot_10 : decode cX0_memoSpot 10 = .ok (.l2i, 1) := by decide +kernel
theorem dX0_memoSpot_11 : decode cX0_memoSpot 11 = .ok (.sipush 8191, 3) := by decide +kernel
theorem dX0_memoSpot_14 : decode cX0_memoSpot 14 = .ok (.iand, 1) := by decide +kernel
theorem dX0_memoSpot_15 : decode cX0_memoSpot 15 = .ok (.istore 5, 2) := by decide +kernel
theorem dX0_memoSpot_17 : decode cX0_memoSpot 17 = .ok (.iconst 0, 1) := by decide +kernel
theorem dX0_memoSpot_18 : decode cX0_memoSpot 18 = .ok (.istore 6, 2) := by decide +kernel
theorem dX0_memoSpot_20 : decode cX0_memoSpot 20 = .ok (.iload 6, 2) := by decide +kernel
theorem dX0_memoSpot_22 : decode cX0_memoSpot 22 = .ok (.sipush 8192, 3) := by decide +kernel
theorem dX0_memoSpot_25 : decode cX0_memoSpot 25 = .ok (.if_icmp .ge 48, 3) := by decide +kernel
theorem dX0_memoSpot_28 : decode cX0_memoSpot 28 = .ok (.aload_n 0, 1) := by decide +kernel
theorem dX0_memoSpot_29 : decode cX0_memoSpot 29 = .ok (.getfield 22, 3) := by decide +kernel
theorem dX0_memoSpot_32 : decode cX0_memoSpot 32 = .ok (.iload 5, 2) := by decide +kernel
theorem dX0_memoSpot_34 : decode cX0_memoSpot 34 = .ok (.laload, 1) := by decide +kernel
theorem dX0_memoSpot_35 : decode cX0_memoSpot 35 = .ok (.lconst 0, 1) := by decide +kernel
theorem dX0_memoSpot_36 : decode cX0_memoSpot 36 = .ok (.lcmp, 1) := by decide +kernel
theorem dX0_memoSpot_37 : decode cX0_memoSpot 37 = .ok (.ifCond .eq 17, 3) := by decide +kernel
theorem dX0_memoSpot_40 : decode cX0_memoSpot 40 = .ok (.aload_n 0, 1) := by decide +kernel
theorem dX0_memoSpot_41 : decode cX0_memoSpot 41 = .ok (.getfield 22, 3) := by decide +kernel
theorem dX0_memoSpot_44 : decode cX0_memoSpot 44 = .ok (.iload 5, 2) := by decide +kernel
theorem dX0_memoSpot_46 : decode cX0_memoSpot 46 = .ok (.laload, 1) := by decide +kernel
theorem dX0_memoSpot_47 : decode cX0_memoSpot 47 = .ok (.lload_n 1, 1) := by decide +kernel
theorem dX0_memoSpot_48 : decode cX0_memoSpot 48 = .ok (.lconst 1, 1) := by decide +kernel
theorem dX0_memoSpot_49 : decode cX0_memoSpot 49 = .ok (.ladd, 1) := by decide +kernel
theorem dX0_memoSpot_50 : decode cX0_memoSpot 50 = .ok (.lcmp, 1) := by decide +kernel
theorem dX0_memoSpot_51 : decode cX0_memoSpot 51 = .ok (.ifCond .ne 6, 3) := by decide +kernel
theorem dX0_memoSpot_54 : decode cX0_memoSpot 54 = .ok (.iload 5, 2) := by decide +kernel
theorem dX0_memoSpot_56 : decode cX0_memoSpot 56 = .ok (.ireturn, 1) := by decide +kernel
theorem dX0_memoSpot_57 : decode cX0_memoSpot 57 = .ok (.iload 5, 2) := by decide +kernel
theorem dX0_memoSpot_59 : decode cX0_memoSpot 59 = .ok (.iconst 1, 1) := by decide +kernel
theorem dX0_memoSpot_60 : decode cX0_memoSpot 60 = .ok (.iadd, 1) := by decide +kernel
theorem dX0_memoSpot_61 : decode cX0_memoSpot 61 = .ok (.sipush 8191, 3) := by decide +kernel
theorem dX0_memoSpot_64 : decode cX0_memoSpot 64 = .ok (.iand, 1) := by decide +kernel
theorem dX0_memoSpot_65 : decode cX0_memoSpot 65 = .ok (.istore 5, 2) := by decide +kernel
theorem dX0_memoSpot_67 : decode cX0_memoSpot 67 = .ok (.iinc 6 1, 3) := by decide +kernel
theorem dX0_memoSpot_70 : decode cX0_memoSpot 70 = .ok (.goto (-50), 3) := by decide +kernel
theorem dX0_memoSpot_73 : decode cX0_memoSpot 73 = .ok (.iconst (-1), 1) := by decide +kernel
theorem dX0_memoSpot_74 : decode cX0_memoSpot 74 = .ok (.ireturn, 1) := by decide +kernel
theorem dX0_remember_0 : decode cX0_remember 0 = .ok (.aload_n 0, 1) := by decide +kernel
theorem dX0_remember_1 : decode cX0_remember 1 = .ok (.lload_n 1, 1) := by decide +kernel
theorem dX0_remember_2 : decode cX0_remember 2 = .ok (.invokevirtual 97, 3) := by decide +kernel
theorem dX0_remember_5 : decode cX0_remember 5 = .ok (.istore 5, 2) := by decide +kernel
theorem dX0_remember_7 : decode cX0_remember 7 = .ok (.aload_n 0, 1) := by decide +kernel
theorem dX0_remember_8 : decode cX0_remember 8 = .ok (.getfield 35, 3) := by decide +kernel
theorem dX0_remember_11 : decode cX0_remember 11 = .ok (.sipush 6144, 3) := by decide +kernel
theorem dX0_remember_14 : decode cX0_remember 14 = .ok (.if_icmp .ge 44, 3) := by decide +kernel
theorem dX0_remember_17 : decode cX0_remember 17 = .ok (.iload 5, 2) := by decide +kernel
theorem dX0_remember_19 : decode cX0_remember 19 = .ok (.ifCond .lt 39, 3) := by decide +kernel
theorem dX0_remember_22 : decode cX0_remember 22 = .ok (.iload 5, 2) := by decide +kernel
theorem dX0_remember_24 : decode cX0_remember 24 = .ok (.sipush 8192, 3) := by decide +kernel
theorem dX0_remember_27 : decode cX0_remember 27 = .ok (.if_icmp .ge 31, 3) := by decide +kernel
theorem dX0_remember_30 : decode cX0_remember 30 = .ok (.aload_n 0, 1) := by decide +kernel
theorem dX0_remember_31 : decode cX0_remember 31 = .ok (.getfield 22, 3) := by decide +kernel
theorem dX0_remember_34 : decode cX0_remember 34 = .ok (.iload 5, 2) := by decide +kernel
theorem dX0_remember_36 : decode cX0_remember 36 = .ok (.lload_n 1, 1) := by decide +kernel
theorem dX0_remember_37 : decode cX0_remember 37 = .ok (.lconst 1, 1) := by decide +kernel
theorem dX0_remember_38 : decode cX0_remember 38 = .ok (.ladd, 1) := by decide +kernel
theorem dX0_remember_39 : decode cX0_remember 39 = .ok (.lastore, 1) := by decide +kernel
theorem dX0_remember_40 : decode cX0_remember 40 = .ok (.aload_n 0, 1) := by decide +kernel
theorem dX0_remember_41 : decode cX0_remember 41 = .ok (.getfield 25, 3) := by decide +kernel
theorem dX0_remember_44 : decode cX0_remember 44 = .ok (.iload 5, 2) := by decide +kernel
theorem dX0_remember_46 : decode cX0_remember 46 = .ok (.lload_n 3, 1) := by decide +kernel
theorem dX0_remember_47 : decode cX0_remember 47 = .ok (.lastore, 1) := by decide +kernel
theorem dX0_remember_48 : decode cX0_remember 48 = .ok (.aload_n 0, 1) := by decide +kernel
theorem dX0_remember_49 : decode cX0_remember 49 = .ok (.dup, 1) := by decide +kernel
theorem dX0_remember_50 : decode cX0_remember 50 = .ok (.getfield 35, 3) := by decide +kernel
theorem dX0_remember_53 : decode cX0_remember 53 = .ok (.iconst 1, 1) := by decide +kernel
theorem dX0_remember_54 : decode cX0_remember 54 = .ok (.iadd, 1) := by decide +kernel
theorem dX0_remember_55 : decode cX0_remember 55 = .ok (.putfield 35, 3) := by decide +kernel
theorem dX0_remember_58 : decode cX0_remember 58 = .ok (.return_, 1) := by decide +kernel
theorem dX1_init_0 : decode cX1_init 0 = .ok (.aload_n 0, 1) := by decide +kernel
theorem dX1_init_1 : decode cX1_init 1 = .ok (.invokespecial 3, 3) := by decide +kernel
theorem dX1_init_4 : decode cX1_init 4 = .ok (.aload_n 0, 1) := by decide +kernel
theorem dX1_init_5 : decode cX1_init 5 = .ok (.sipush 5200, 3) := by decide +kernel
theorem dX1_init_8 : decode cX1_init 8 = .ok (.newarray .int, 2) := by decide +kernel
theorem dX1_init_10 : decode cX1_init 10 = .ok (.putfield 11, 3) := by decide +kernel
theorem dX1_init_13 : decode cX1_init 13 = .ok (.aload_n 0, 1) := by decide +kernel
theorem dX1_init_14 : decode cX1_init 14 = .ok (.sipush 5200, 3) := by decide +kernel
theorem dX1_init_17 : decode cX1_init 17 = .ok (.newarray .int, 2) := by decide +kernel
theorem dX1_init_19 : decode cX1_init 19 = .ok (.putfield 15, 3) := by decide +kernel
theorem dX1_init_22 : decode cX1_init 22 = .ok (.aload_n 0, 1) := by decide +kernel
theorem dX1_init_23 : decode cX1_init 23 = .ok (.sipush 5200, 3) := by decide +kernel
theorem dX1_init_26 : decode cX1_init 26 = .ok (.newarray .int, 2) := by decide +kernel
theorem dX1_init_28 : decode cX1_init 28 = .ok (.putfield 18, 3) := by decide +kernel
theorem dX1_init_31 : decode cX1_init 31 = .ok (.aload_n 0, 1) := by decide +kernel
theorem dX1_init_32 : decode cX1_init 32 = .ok (.sipush 5200, 3) := by decide +kernel
theorem dX1_init_35 : decode cX1_init 35 = .ok (.newarray .long, 2) := by decide +kernel
theorem dX1_init_37 : decode cX1_init 37 = .ok (.putfield 21, 3) := by decide +kernel
theorem dX1_init_40 : decode cX1_init 40 = .ok (.aload_n 0, 1) := by decide +kernel
theorem dX1_init_41 : decode cX1_init 41 = .ok (.sipush 5200, 3) := by decide +kernel
theorem dX1_init_44 : decode cX1_init 44 = .ok (.newarray .int, 2) := by decide +kernel
theorem dX1_init_46 : decode cX1_init 46 = .ok (.putfield 25, 3) := by decide +kernel
theorem dX1_init_49 : decode cX1_init 49 = .ok (.aload_n 0, 1) := by decide +kernel
theorem dX1_init_50 : decode cX1_init 50 = .ok (.sipush 5200, 3) := by decide +kernel
theorem dX1_init_53 : decode cX1_init 53 = .ok (.newarray .int, 2) := by decide +kernel
theorem dX1_init_55 : decode cX1_init 55 = .ok (.putfield 28, 3) := by decide +kernel
theorem dX1_init_58 : decode cX1_init 58 = .ok (.aload_n 0, 1) := by decide +kernel
theorem dX1_init_59 : decode cX1_init 59 = .ok (.sipush 1024, 3) := by decide +kernel
theorem dX1_init_62 : decode cX1_init 62 = .ok (.newarray .int, 2) := by decide +kernel
theorem dX1_init_64 : decode cX1_init 64 = .ok (.putfield 31, 3) := by decide +kernel
theorem dX1_init_67 : decode cX1_init 67 = .ok (.iconst 0, 1) := by decide +kernel
theorem dX1_init_68 : decode cX1_init 68 = .ok (.istore_n 1, 1) := by decide +kernel
theorem dX1_init_69 : decode cX1_init 69 = .ok (.iload_n 1, 1) := by decide +kernel
theorem dX1_init_70 : decode cX1_init 70 = .ok (.sipush 1024, 3) := by decide +kernel
theorem dX1_init_73 : decode cX1_init 73 = .ok (.if_icmp .ge 16, 3) := by decide +kernel
theorem dX1_init_76 : decode cX1_init 76 = .ok (.aload_n 0, 1) := by decide +kernel
theorem dX1_init_77 : decode cX1_init 77 = .ok (.getfield 31, 3) := by decide +kernel
theorem dX1_init_80 : decode cX1_init 80 = .ok (.iload_n 1, 1) := by decide +kernel
theorem dX1_init_81 : decode cX1_init 81 = .ok (.iconst (-1), 1) := by decide +kernel
theorem dX1_init_82 : decode cX1_init 82 = .ok (.iastore, 1) := by decide +kernel
theorem dX1_init_83 : decode cX1_init 83 = .ok (.iinc 1 1, 3) := by decide +kernel
theorem dX1_init_86 : decode cX1_init 86 = .ok (.goto (-17), 3) := by decide +kernel
theorem dX1_init_89 : decode cX1_init 89 = .ok (.iconst 0, 1) := by decide +kernel
theorem dX1_init_90 : decode cX1_init 90 = .ok (.istore_n 1, 1) := by decide +kernel
theorem dX1_init_91 : decode cX1_init 91 = .ok (.iload_n 1, 1) := by decide +kernel
theorem dX1_init_92 : decode cX1_init 92 = .ok (.bipush 8, 2) := by decide +kernel
theorem dX1_init_94 : decode cX1_init 94 = .ok (.if_icmp .gt 41, 3) := by decide +kernel
theorem dX1_init_97 : decode cX1_init 97 = .ok (.aload_n 0, 1) := by decide +kernel
theorem dX1_init_98 : decode cX1_init 98 = .ok (.getfield 11, 3) := by decide +kernel
theorem dX1_init_101 : decode cX1_init 101 = .ok (.iload_n 1, 1) := by decide +kernel
theorem dX1_init_102 : decode cX1_init 102 = .ok (.iload_n 1, 1) := by decide +kernel
theorem dX1_init_103 : decode cX1_init 103 = .ok (.iastore, 1) := by decide +kernel
theorem dX1_init_104 : decode cX1_init 104 = .ok (.aload_n 0, 1) := by decide +kernel
theorem dX1_init_105 : decode cX1_init 105 = .ok (.getfield 15, 3) := by decide +kernel
theorem dX1_init_108 : decode cX1_init 108 = .ok (.iload_n 1, 1) := by decide +kernel
theorem dX1_init_109 : decode cX1_init 109 = .ok (.iconst (-1), 1) := by decide +kernel
theorem dX1_init_110 : decode cX1_init 110 = .ok (.iastore, 1) := by decide +kernel
theorem dX1_init_111 : decode cX1_init 111 = .ok (.aload_n 0, 1) := by decide +kernel
theorem dX1_init_112 : decode cX1_init 112 = .ok (.getfield 18, 3) := by decide +kernel
theorem dX1_init_115 : decode cX1_init 115 = .ok (.iload_n 1, 1) := by decide +kernel
theorem dX1_init_116 : decode cX1_init 116 = .ok (.iconst (-1), 1) := by decide +kernel
theorem dX1_init_117 : decode cX1_init 117 = .ok (.iastore, 1) := by decide +kernel
theorem dX1_init_118 : decode cX1_init 118 = .ok (.aload_n 0, 1) := by decide +kernel
theorem dX1_init_119 : decode cX1_init 119 = .ok (.getfield 21, 3) := by decide +kernel
theorem dX1_init_122 : decode cX1_init 122 = .ok (.iload_n 1, 1) := by decide +kernel
theorem dX1_init_123 : decode cX1_init 123 = .ok (.iload_n 1, 1) := by decide +kernel
theorem dX1_init_124 : decode cX1_init 124 = .ok (.invokestatic 34, 3) := by decide +kernel
theorem dX1_init_127 : decode cX1_init 127 = .ok (.i2l, 1) := by decide +kernel
theorem dX1_init_128 : decode cX1_init 128 = .ok (.lastore, 1) := by decide +kernel
theorem dX1_init_129 : decode cX1_init 129 = .ok (.iinc 1 1, 3) := by decide +kernel
theorem dX1_init_132 : decode cX1_init 132 = .ok (.goto (-41), 3) := by decide +kernel
theorem dX1_init_135 : decode cX1_init 135 = .ok (.aload_n 0, 1) := by decide +kernel
theorem dX1_init_136 : decode cX1_init 136 = .ok (.bipush 9, 2) := by decide +kernel
theorem dX1_init_138 : decode cX1_init 138 = .ok (.putfield 38, 3) := by decide +kernel
theorem dX1_init_141 : decode cX1_init 141 = .ok (.return_, 1) := by decide +kernel
theorem dX1_make_0 : decode cX1_make 0 = .ok (.iload_n 1, 1) := by decide +kernel
theorem dX1_make_1 : decode cX1_make 1 = .ok (.bipush 31, 2) := by decide +kernel
theorem dX1_make_3 : decode cX1_make 3 = .ok (.imul, 1) := by decide +kernel
theorem dX1_make_4 : decode cX1_make 4 = .ok (.iload_n 2, 1) := by decide +kernel
theorem dX1_make_5 : decode cX1_make 5 = .ok (.iadd, 1) := by decide +kernel
theorem dX1_make_6 : decode cX1_make 6 = .ok (.bipush 31, 2) := by decide +kernel
theorem dX1_make_8 : decode cX1_make 8 = .ok (.imul, 1) := by decide +kernel
theorem dX1_make_9 : decode cX1_make 9 = .ok (.iload_n 3, 1) := by decide +kernel
theorem dX1_make_10 : decode cX1_make 10 = .ok (.iadd, 1) := by decide +kernel
theorem dX1_make_11 : decode cX1_make 11 = .ok (.sipush 1023, 3) := by decide +kernel
theorem dX1_make_14 : decode cX1_make 14 = .ok (.iand, 1) := by decide +kernel
theorem dX1_make_15 : decode cX1_make 15 = .ok (.istore 4, 2) := by decide +kernel
theorem dX1_make_17 : decode cX1_make 17 = .ok (.aload_n 0, 1) := by decide +kernel
theorem dX1_make_18 : decode cX1_make 18 = .ok (.getfield 31, 3) := by decide +kernel
theorem dX1_make_21 : decode cX1_make 21 = .ok (.iload 4, 2) := by decide +kernel
theorem dX1_make_23 : decode cX1_make 23 = .ok (.iaload, 1) := by decide +kernel
theorem dX1_make_24 : decode cX1_make 24 = .ok (.istore 5, 2) := by decide +kernel
theorem dX1_make_26 : decode cX1_make 26 = .ok (.iconst 0, 1) := by decide +kernel
theorem dX1_make_27 : decode cX1_make 27 = .ok (.istore 6, 2) := by decide +kernel
theorem dX1_make_29 : decode cX1_make 29 = .ok (.iload 6, 2) := by decide +kernel
theorem dX1_make_31 : decode cX1_make 31 = .ok (.sipush 5200, 3) := by decide +kernel
theorem dX1_make_34 : decode cX1_make 34 = .ok (.if_icmp .ge 68, 3) := by decide +kernel
theorem dX1_make_37 : decode cX1_make 37 = .ok (.iload 5, 2) := by decide +kernel
theorem dX1_make_39 : decode cX1_make 39 = .ok (.ifCond .lt 63, 3) := by decide +kernel
theorem dX1_make_42 : decode cX1_make 42 = .ok (.iload 5, 2) := by decide +kernel
theorem dX1_make_44 : decode cX1_make 44 = .ok (.aload_n 0, 1) := by decide +kernel
theorem dX1_make_45 : decode cX1_make 45 = .ok (.getfield 38, 3) := by decide +kernel
theorem dX1_make_48 : decode cX1_make 48 = .ok (.if_icmp .ge 54, 3) := by decide +kernel
theorem dX1_make_51 : decode cX1_make 51 = .ok (.aload_n 0, 1) := by decide +kernel
theorem dX1_make_52 : decode cX1_make 52 = .ok (.getfield 11, 3) := by decide +kernel
theorem dX1_make_55 : decode cX1_make 55 = .ok (.iload 5, 2) := by decide +kernel
theorem dX1_make_57 : decode cX1_make 57 = .ok (.iaload, 1) := by decide +kernel
theorem dX1_make_58 : decode cX1_make 58 = .ok (.iload_n 1, 1) := by decide +kernel
theorem dX1_make_59 : decode cX1_make 59 = .ok (.if_icmp .ne 28, 3) := by decide +kernel
theorem dX1_make_62 : decode cX1_make 62 = .ok (.aload_n 0, 1) := by decide +kernel
theorem dX1_make_63 : decode cX1_make 63 = .ok (.getfield 15, 3) := by decide +kernel
theorem dX1_make_66 : decode cX1_make 66 = .ok (.iload 5, 2) := by decide +kernel
theorem dX1_make_68 : decode cX1_make 68 = .ok (.iaload, 1) := by decide +kernel
theorem dX1_make_69 : decode cX1_make 69 = .ok (.iload_n 2, 1) := by decide +kernel
theorem dX1_make_70 : decode cX1_make 70 = .ok (.if_icmp .ne 17, 3) := by decide +kernel
theorem dX1_make_73 : decode cX1_make 73 = .ok (.aload_n 0, 1) := by decide +kernel
theorem dX1_make_74 : decode cX1_make 74 = .ok (.getfield 18, 3) := by decide +kernel
theorem dX1_make_77 : decode cX1_make 77 = .ok (.iload 5, 2) := by decide +kernel
theorem dX1_make_79 : decode cX1_make 79 = .ok (.iaload, 1) := by decide +kernel
theorem dX1_make_80 : decode cX1_make 80 = .ok (.iload_n 3, 1) := by decide +kernel
theorem dX1_make_81 : decode cX1_make 81 = .ok (.if_icmp .ne 6, 3) := by decide +kernel
theorem dX1_make_84 : decode cX1_make 84 = .ok (.iload 5, 2) := by decide +kernel
theorem dX1_make_86 : decode cX1_make 86 = .ok (.ireturn, 1) := by decide +kernel
theorem dX1_make_87 : decode cX1_make 87 = .ok (.aload_n 0, 1) := by decide +kernel
theorem dX1_make_88 : decode cX1_make 88 = .ok (.getfield 25, 3) := by decide +kernel
theorem dX1_make_91 : decode cX1_make 91 = .ok (.iload 5, 2) := by decide +kernel
theorem dX1_make_93 : decode cX1_make 93 = .ok (.iaload, 1) := by decide +kernel
theorem dX1_make_94 : decode cX1_make 94 = .ok (.istore 5, 2) := by decide +kernel
theorem dX1_make_96 : decode cX1_make 96 = .ok (.iinc 6 1, 3) := by decide +kernel
theorem dX1_make_99 : decode cX1_make 99 = .ok (.goto (-70), 3) := by decide +kernel
theorem dX1_make_102 : decode cX1_make 102 = .ok (.aload_n 0, 1) := by decide +kernel
theorem dX1_make_103 : decode cX1_make 103 = .ok (.getfield 38, 3) := by decide +kernel
theorem dX1_make_106 : decode cX1_make 106 = .ok (.sipush 5200, 3) := by decide +kernel
theorem dX1_make_109 : decode cX1_make 109 = .ok (.if_icmp .lt 6, 3) := by decide +kernel
theorem dX1_make_112 : decode cX1_make 112 = .ok (.bipush 8, 2) := by decide +kernel
theorem dX1_make_114 : decode cX1_make 114 = .ok (.ireturn, 1) := by decide +kernel
theorem dX1_make_115 : decode cX1_make 115 = .ok (.aload_n 0, 1) := by decide +kernel
theorem dX1_make_116 : decode cX1_make 116 = .ok (.getfield 38, 3) := by decide +kernel
theorem dX1_make_119 : decode cX1_make 119 = .ok (.istore 6, 2) := by decide +kernel
theorem dX1_make_121 : decode cX1_make 121 = .ok (.aload_n 0, 1) := by decide +kernel
theorem dX1_make_122 : decode cX1_make 122 = .ok (.getfield 11, 3) := by decide +kernel
theorem dX1_make_125 : decode cX1_make 125 = .ok (.iload 6, 2) := by decide +kernel
theorem dX1_make_127 : decode cX1_make 127 = .ok (.iload_n 1, 1) := by decide +kernel
theorem dX1_make_128 : decode cX1_make 128 = .ok (.iastore, 1) := by decide +kernel
theorem dX1_make_129 : decode cX1_make 129 = .ok (.aload_n 0, 1) := by decide +kernel
theorem dX1_make_130 : decode cX1_make 130 = .ok (.getfield 15, 3) := by decide +kernel
theorem dX1_make_133 : decode cX1_make 133 = .ok (.iload 6, 2) := by decide +kernel
theorem dX1_make_135 : decode cX1_make 135 = .ok (.iload_n 2, 1) := by decide +kernel
theorem dX1_make_136 : decode cX1_make 136 = .ok (.iastore, 1) := by decide +kernel
theorem dX1_make_137 : decode cX1_make 137 = .ok (.aload_n 0, 1) := by decide +kernel
theorem dX1_make_138 : decode cX1_make 138 = .ok (.getfield 18, 3) := by decide +kernel
theorem dX1_make_141 : decode cX1_make 141 = .ok (.iload 6, 2) := by decide +kernel
theorem dX1_make_143 : decode cX1_make 143 = .ok (.iload_n 3, 1) := by decide +kernel
theorem dX1_make_144 : decode cX1_make 144 = .ok (.iastore, 1) := by decide +kernel
theorem dX1_make_145 : decode cX1_make 145 = .ok (.aload_n 0, 1) := by decide +kernel
theorem dX1_make_146 : decode cX1_make 146 = .ok (.getfield 21, 3) := by decide +kernel
theorem dX1_make_149 : decode cX1_make 149 = .ok (.iload 6, 2) := by decide +kernel
theorem dX1_make_151 : decode cX1_make 151 = .ok (.iload_n 1, 1) := by decide +kernel
theorem dX1_make_152 : decode cX1_make 152 = .ok (.invokestatic 34, 3) := by decide +kernel
theorem dX1_make_155 : decode cX1_make 155 = .ok (.iconst 2, 1) := by decide +kernel
theorem dX1_make_156 : decode cX1_make 156 = .ok (.iadd, 1) := by decide +kernel
theorem dX1_make_157 : decode cX1_make 157 = .ok (.i2l, 1) := by decide +kernel
theorem dX1_make_158 : decode cX1_make 158 = .ok (.aload_n 0, 1) := by decide +kernel
theorem dX1_make_159 : decode cX1_make 159 = .ok (.iload_n 2, 1) := by decide +kernel
theorem dX1_make_160 : decode cX1_make 160 = .ok (.invokevirtual 42, 3) := by decide +kernel
theorem dX1_make_163 : decode cX1_make 163 = .ok (.ladd, 1) := by decide +kernel
theorem dX1_make_164 : decode cX1_make 164 = .ok (.aload_n 0, 1) := by decide +kernel
theorem dX1_make_165 : decode cX1_make 165 = .ok (.iload_n 3, 1) := by decide +kernel
theorem dX1_make_166 : decode cX1_make 166 = .ok (.invokevirtual 42, 3) := by decide +kernel
theorem dX1_make_169 : decode cX1_make 169 = .ok (.ladd, 1) := by decide +kernel
theorem dX1_make_170 : decode cX1_make 170 = .ok (.lastore, 1) := by decide +kernel
theorem dX1_make_171 : decode cX1_make 171 = .ok (.aload_n 0, 1) := by decide +kernel
theorem dX1_make_172 : decode cX1_make 172 = .ok (.getfield 25, 3) := by decide +kernel
theorem dX1_make_175 : decode cX1_make 175 = .ok (.iload 6, 2) := by decide +kernel
theorem dX1_make_177 : decode cX1_make 177 = .ok (.aload_n 0, 1) := by decide +kernel
theorem dX1_make_178 : decode cX1_make 178 = .ok (.getfield 31, 3) := by decide +kernel
theorem dX1_make_181 : decode cX1_make 181 = .ok (.iload 4, 2) := by decide +kernel
theorem dX1_make_183 : decode cX1_make 183 = .ok (.iaload, 1) := by decide +kernel
theorem dX1_make_184 : decode cX1_make 184 = .ok (.iastore, 1) := by decide +kernel
theorem dX1_make_185 : decode cX1_make 185 = .ok (.aload_n 0, 1) := by decide +kernel
theorem dX1_make_186 : decode cX1_make 186 = .ok (.getfield 31, 3) := by decide +kernel
theorem dX1_make_189 : decode cX1_make 189 = .ok (.iload 4, 2) := by decide +kernel
theorem dX1_make_191 : decode cX1_make 191 = .ok (.iload 6, 2) := by decide +kernel
theorem dX1_make_193 : decode cX1_make 193 = .ok (.iastore, 1) := by decide +kernel
theorem dX1_make_194 : decode cX1_make 194 = .ok (.aload_n 0, 1) := by decide +kernel
theorem dX1_make_195 : decode cX1_make 195 = .ok (.dup, 1) := by decide +kernel
theorem dX1_make_196 : decode cX1_make 196 = .ok (.getfield 38, 3) := by decide +kernel
theorem dX1_make_199 : decode cX1_make 199 = .ok (.iconst 1, 1) := by decide +kernel
theorem dX1_make_200 : decode cX1_make 200 = .ok (.iadd, 1) := by decide +kernel
theorem dX1_make_201 : decode cX1_make 201 = .ok (.putfield 38, 3) := by decide +kernel
theorem dX1_make_204 : decode cX1_make 204 = .ok (.iload 6, 2) := by decide +kernel
theorem dX1_make_206 : decode cX1_make 206 = .ok (.ireturn, 1) := by decide +kernel
theorem dX1_kindOf_0 : decode cX1_kindOf 0 = .ok (.iload_n 1, 1) := by decide +kernel
theorem dX1_kindOf_1 : decode cX1_kindOf 1 = .ok (.ifCond .lt 20, 3) := by decide +kernel
theorem dX1_kindOf_4 : decode cX1_kindOf 4 = .ok (.iload_n 1, 1) := by decide +kernel
theorem dX1_kindOf_5 : decode cX1_kindOf 5 = .ok (.aload_n 0, 1) := by decide +kernel
theorem dX1_kindOf_6 : decode cX1_kindOf 6 = .ok (.getfield 38, 3) := by decide +kernel
theorem dX1_kindOf_9 : decode cX1_kindOf 9 = .ok (.if_icmp .ge 12, 3) := by decide +kernel
theorem dX1_kindOf_12 : decode cX1_kindOf 12 = .ok (.aload_n 0, 1) := by decide +kernel
theorem dX1_kindOf_13 : decode cX1_kindOf 13 = .ok (.getfield 11, 3) := by decide +kernel
theorem dX1_kindOf_16 : decode cX1_kindOf 16 = .ok (.iload_n 1, 1) := by decide +kernel
theorem dX1_kindOf_17 : decode cX1_kindOf 17 = .ok (.iaload, 1) := by decide +kernel
theorem dX1_kindOf_18 : decode cX1_kindOf 18 = .ok (.goto 4, 3) := by decide +kernel
theorem dX1_kindOf_21 : decode cX1_kindOf 21 = .ok (.iconst (-1), 1) := by decide +kernel
theorem dX1_kindOf_22 : decode cX1_kindOf 22 = .ok (.ireturn, 1) := by decide +kernel
theorem dX1_leftOf_0 : decode cX1_leftOf 0 = .ok (.iload_n 1, 1) := by decide +kernel
theorem dX1_leftOf_1 : decode cX1_leftOf 1 = .ok (.ifCond .lt 20, 3) := by decide +kernel
theorem dX1_leftOf_4 : decode cX1_leftOf 4 = .ok (.iload_n 1, 1) := by decide +kernel
theorem dX1_leftOf_5 : decode cX1_leftOf 5 = .ok (.aload_n 0, 1) := by decide +kernel
theorem dX1_leftOf_6 : decode cX1_leftOf 6 = .ok (.getfield 38, 3) := by decide +kernel
theorem dX1_leftOf_9 : decode cX1_leftOf 9 = .ok (.if_icmp .ge 12, 3) := by decide +kernel
theorem dX1_leftOf_12 : decode cX1_leftOf 12 = .ok (.aload_n 0, 1) := by decide +kernel
theorem dX1_leftOf_13 : decode cX1_leftOf 13 = .ok (.getfield 15, 3) := by decide +kernel
theorem dX1_leftOf_16 : decode cX1_leftOf 16 = .ok (.iload_n 1, 1) := by decide +kernel
theorem dX1_leftOf_17 : decode cX1_leftOf 17 = .ok (.iaload, 1) := by decide +kernel
theorem dX1_leftOf_18 : decode cX1_leftOf 18 = .ok (.goto 4, 3) := by decide +kernel
theorem dX1_leftOf_21 : decode cX1_leftOf 21 = .ok (.iconst (-1), 1) := by decide +kernel
theorem dX1_leftOf_22 : decode cX1_leftOf 22 = .ok (.ireturn, 1) := by decide +kernel
theorem dX1_rightOf_0 : decode cX1_rightOf 0 = .ok (.iload_n 1, 1) := by decide +kernel
theorem dX1_rightOf_1 : decode cX1_rightOf 1 = .ok (.ifCond .lt 20, 3) := by decide +kernel
theorem dX1_rightOf_4 : decode cX1_rightOf 4 = .ok (.iload_n 1, 1) := by decide +kernel
theorem dX1_rightOf_5 : decode cX1_rightOf 5 = .ok (.aload_n 0, 1) := by decide +kernel
theorem dX1_rightOf_6 : decode cX1_rightOf 6 = .ok (.getfield 38, 3) := by decide +kernel
theorem dX1_rightOf_9 : decode cX1_rightOf 9 = .ok (.if_icmp .ge 12, 3) := by decide +kernel
theorem dX1_rightOf_12 : decode cX1_rightOf 12 = .ok (.aload_n 0, 1) := by decide +kernel
theorem dX1_rightOf_13 : decode cX1_rightOf 13 = .ok (.getfield 18, 3) := by decide +kernel
theorem dX1_rightOf_16 : decode cX1_rightOf 16 = .ok (.iload_n 1, 1) := by decide +kernel
theorem dX1_rightOf_17 : decode cX1_rightOf 17 = .ok (.iaload, 1) := by decide +kernel
theorem dX1_rightOf_18 : decode cX1_rightOf 18 = .ok (.goto 4, 3) := by decide +kernel
theorem dX1_rightOf_21 : decode cX1_rightOf 21 = .ok (.iconst (-1), 1) := by decide +kernel
theorem dX1_rightOf_22 : decode cX1_rightOf 22 = .ok (.ireturn, 1) := by decide +kernel
theorem dX1_bytesOf_0 : decode cX1_bytesOf 0 = .ok (.iload_n 1, 1) := by decide +kernel
theorem dX1_bytesOf_1 : decode cX1_bytesOf 1 = .ok (.ifCond .lt 20, 3) := by decide +kernel
theorem dX1_bytesOf_4 : decode cX1_bytesOf 4 = .ok (.iload_n 1, 1) := by decide +kernel
theorem dX1_bytesOf_5 : decode cX1_bytesOf 5 = .ok (.aload_n 0, 1) := by decide +kernel
theorem dX1_bytesOf_6 : decode cX1_bytesOf 6 = .ok (.getfield 38, 3) := by decide +kernel
theorem dX1_bytesOf_9 : decode cX1_bytesOf 9 = .ok (.if_icmp .ge 12, 3) := by decide +kernel
theorem dX1_bytesOf_12 : decode cX1_bytesOf 12 = .ok (.aload_n 0, 1) := by decide +kernel
theorem dX1_bytesOf_13 : decode cX1_bytesOf 13 = .ok (.getfield 21, 3) := by decide +kernel
theorem dX1_bytesOf_16 : decode cX1_bytesOf 16 = .ok (.iload_n 1, 1) := by decide +kernel
theorem dX1_bytesOf_17 : decode cX1_bytesOf 17 = .ok (.laload, 1) := by decide +kernel
theorem dX1_bytesOf_18 : decode cX1_bytesOf 18 = .ok (.goto 4, 3) := by decide +kernel
theorem dX1_bytesOf_21 : decode cX1_bytesOf 21 = .ok (.lconst 0, 1) := by decide +kernel
theorem dX1_bytesOf_22 : decode cX1_bytesOf 22 = .ok (.lreturn, 1) := by decide +kernel
theorem dX1_byteAt_0 : decode cX1_byteAt 0 = .ok (.iload_n 1, 1) := by decide +kernel
theorem dX1_byteAt_1 : decode cX1_byteAt 1 = .ok (.istore 4, 2) := by decide +kernel
theorem dX1_byteAt_3 : decode cX1_byteAt 3 = .ok (.lload_n 2, 1) := by decide +kernel
theorem dX1_byteAt_4 : decode cX1_byteAt 4 = .ok (.lstore 5, 2) := by decide +kernel
theorem dX1_byteAt_6 : decode cX1_byteAt 6 = .ok (.lload 5, 2) := by decide +kernel
theorem dX1_byteAt_8 : decode cX1_byteAt 8 = .ok (.lconst 0, 1) := by decide +kernel
theorem dX1_byteAt_9 : decode cX1_byteAt 9 = .ok (.lcmp, 1) := by decide +kernel
theorem dX1_byteAt_10 : decode cX1_byteAt 10 = .ok (.ifCond .lt 15, 3) := by decide +kernel
theorem dX1_byteAt_13 : decode cX1_byteAt 13 = .ok (.lload 5, 2) := by decide +kernel
theorem dX1_byteAt_15 : decode cX1_byteAt 15 = .ok (.aload_n 0, 1) := by decide +kernel
theorem dX1_byteAt_16 : decode cX1_byteAt 16 = .ok (.iload 4, 2) := by decide +kernel
theorem dX1_byteAt_18 : decode cX1_byteAt 18 = .ok (.invokevirtual 42, 3) := by decide +kernel
theorem dX1_byteAt_21 : decode cX1_byteAt 21 = .ok (.lcmp, 1) := by decide +kernel
theorem dX1_byteAt_22 : decode cX1_byteAt 22 = .ok (.ifCond .lt 5, 3) := by decide +kernel
theorem dX1_byteAt_25 : decode cX1_byteAt 25 = .ok (.iconst (-1), 1) := by decide +kernel
theorem dX1_byteAt_26 : decode cX1_byteAt 26 = .ok (.ireturn, 1) := by decide +kernel
theorem dX1_byteAt_27 : decode cX1_byteAt 27 = .ok (.iconst 0, 1) := by decide +kernel
theorem dX1_byteAt_28 : decode cX1_byteAt 28 = .ok (.istore 7, 2) := by decide +kernel
theorem dX1_byteAt_30 : decode cX1_byteAt 30 = .ok (.iload 7, 2) := by decide +kernel
theorem dX1_byteAt_32 : decode cX1_byteAt 32 = .ok (.sipush 5200, 3) := by decide +kernel
theorem dX1_byteAt_35 : decode cX1_byteAt 35 = .ok (.if_icmp .ge 134, 3) := by decide +kernel
theorem dX1_byteAt_38 : decode cX1_byteAt 38 = .ok (.aload_n 0, 1) := by decide +kernel
theorem dX1_byteAt_39 : decode cX1_byteAt 39 = .ok (.iload 4, 2) := by decide +kernel
theorem dX1_byteAt_41 : decode cX1_byteAt 41 = .ok (.invokevirtual 46, 3) := by decide +kernel
theorem dX1_byteAt_44 : decode cX1_byteAt 44 = .ok (.istore 8, 2) := by decide +kernel
theorem dX1_byteAt_46 : decode cX1_byteAt 46 = .ok (.iload 8, 2) := by decide +kernel
theorem dX1_byteAt_48 : decode cX1_byteAt 48 = .ok (.invokestatic 34, 3) := by decide +kernel
theorem dX1_byteAt_51 : decode cX1_byteAt 51 = .ok (.istore 9, 2) := by decide +kernel
theorem dX1_byteAt_53 : decode cX1_byteAt 53 = .ok (.lload 5, 2) := by decide +kernel
theorem dX1_byteAt_55 : decode cX1_byteAt 55 = .ok (.iload 9, 2) := by decide +kernel
theorem dX1_byteAt_57 : decode cX1_byteAt 57 = .ok (.i2l, 1) := by decide +kernel
theorem dX1_byteAt_58 : decode cX1_byteAt 58 = .ok (.lcmp, 1) := by decide +kernel
theorem dX1_byteAt_59 : decode cX1_byteAt 59 = .ok (.ifCond .ge 12, 3) := by decide +kernel
theorem dX1_byteAt_62 : decode cX1_byteAt 62 = .ok (.iload 8, 2) := by decide +kernel
theorem dX1_byteAt_64 : decode cX1_byteAt 64 = .ok (.lload 5, 2) := by decide +kernel
theorem dX1_byteAt_66 : decode cX1_byteAt 66 = .ok (.l2i, 1) := by decide +kernel
theorem dX1_byteAt_67 : decode cX1_byteAt 67 = .ok (.invokestatic 49, 3) := by decide +kernel
theorem dX1_byteAt_70 : decode cX1_byteAt 70 = .ok (.ireturn, 1) := by decide +kernel
theorem dX1_byteAt_71 : decode cX1_byteAt 71 = .ok (.lload 5, 2) := by decide +kernel
theorem dX1_byteAt_73 : decode cX1_byteAt 73 = .ok (.iload 9, 2) := by decide +kernel
theorem dX1_byteAt_75 : decode cX1_byteAt 75 = .ok (.i2l, 1) := by decide +kernel
theorem dX1_byteAt_76 : decode cX1_byteAt 76 = .ok (.lsub, 1) := by decide +kernel
theorem dX1_byteAt_77 : decode cX1_byteAt 77 = .ok (.lconst 1, 1) := by decide +kernel
theorem dX1_byteAt_78 : decode cX1_byteAt 78 = .ok (.lsub, 1) := by decide +kernel
theorem dX1_byteAt_79 : decode cX1_byteAt 79 = .ok (.lstore 10, 2) := by decide +kernel
theorem dX1_byteAt_81 : decode cX1_byteAt 81 = .ok (.lload 10, 2) := by decide +kernel
theorem dX1_byteAt_83 : decode cX1_byteAt 83 = .ok (.lconst 0, 1) := by decide +kernel
theorem dX1_byteAt_84 : decode cX1_byteAt 84 = .ok (.lcmp, 1) := by decide +kernel
theorem dX1_byteAt_85 : decode cX1_byteAt 85 = .ok (.ifCond .lt 19, 3) := by decide +kernel
theorem dX1_byteAt_88 : decode cX1_byteAt 88 = .ok (.lload 10, 2) := by decide +kernel
theorem dX1_byteAt_90 : decode cX1_byteAt 90 = .ok (.aload_n 0, 1) := by decide +kernel
theorem dX1_byteAt_91 : decode cX1_byteAt 91 = .ok (.aload_n 0, 1) := by decide +kernel
theorem dX1_byteAt_92 : decode cX1_byteAt 92 = .ok (.iload 4, 2) := by decide +kernel
theorem dX1_byteAt_94 : decode cX1_byteAt 94 = .ok (.invokevirtual 53, 3) := by decide +kernel
theorem dX1_byteAt_97 : decode cX1_byteAt 97 = .ok (.invokevirtual 42, 3) := by decide +kernel
theorem dX1_byteAt_100 : decode cX1_byteAt 100 = .ok (.lcmp, 1) := by decide +kernel
theorem dX1_byteAt_101 : decode cX1_byteAt 101 = .ok (.ifCond .ne 6, 3) := by decide +kernel
theorem dX1_byteAt_104 : decode cX1_byteAt 104 = .ok (.bipush 32, 2) := by decide +kernel
theorem dX1_byteAt_106 : decode cX1_byteAt 106 = .ok (.ireturn, 1) := by decide +kernel
theorem dX1_byteAt_107 : decode cX1_byteAt 107 = .ok (.lload 10, 2) := by decide +kernel
theorem dX1_byteAt_109 : decode cX1_byteAt 109 = .ok (.aload_n 0, 1) := by decide +kernel
theorem dX1_byteAt_110 : decode cX1_byteAt 110 = .ok (.aload_n 0, 1) := by decide +kernel
theorem dX1_byteAt_111 : decode cX1_byteAt 111 = .ok (.iload 4, 2) := by decide +kernel
theorem dX1_byteAt_113 : decode cX1_byteAt 113 = .ok (.invokevirtual 53, 3) := by decide +kernel
theorem dX1_byteAt_116 : decode cX1_byteAt 116 = .ok (.invokevirtual 42, 3) := by decide +kernel
theorem dX1_byteAt_119 : decode cX1_byteAt 119 = .ok (.lcmp, 1) := by decide +kernel
theorem dX1_byteAt_120 : decode cX1_byteAt 120 = .ok (.ifCond .ge 18, 3) := by decide +kernel
theorem dX1_byteAt_123 : decode cX1_byteAt 123 = .ok (.aload_n 0, 1) := by decide +kernel
theorem dX1_byteAt_124 : decode cX1_byteAt 124 = .ok (.iload 4, 2) := by decide +kernel
theorem dX1_byteAt_126 : decode cX1_byteAt 126 = .ok (.invokevirtual 53, 3) := by decide +kernel
theorem dX1_byteAt_129 : decode cX1_byteAt 129 = .ok (.istore 4, 2) := by decide +kernel
theorem dX1_byteAt_131 : decode cX1_byteAt 131 = .ok (.lload 10, 2) := by decide +kernel
theorem dX1_byteAt_133 : decode cX1_byteAt 133 = .ok (.lstore 5, 2) := by decide +kernel
theorem dX1_byteAt_135 : decode cX1_byteAt 135 = .ok (.goto 28, 3) := by decide +kernel
theorem dX1_byteAt_138 : decode cX1_byteAt 138 = .ok (.lload 10, 2) := by decide +kernel
theorem dX1_byteAt_140 : decode cX1_byteAt 140 = .ok (.aload_n 0, 1) := by decide +kernel
theorem dX1_byteAt_141 : decode cX1_byteAt 141 = .ok (.aload_n 0, 1) := by decide +kernel
theorem dX1_byteAt_142 : decode cX1_byteAt 142 = .ok (.iload 4, 2) := by decide +kernel
theorem dX1_byteAt_144 : decode cX1_byteAt 144 = .ok (.invokevirtual 53, 3) := by decide +kernel
theorem dX1_byteAt_147 : decode cX1_byteAt 147 = .ok (.invokevirtual 42, 3) := by decide +kernel
theorem dX1_byteAt_150 : decode cX1_byteAt 150 = .ok (.lsub, 1) := by decide +kernel
theorem dX1_byteAt_151 : decode cX1_byteAt 151 = .ok (.lconst 1, 1) := by decide +kernel
theorem dX1_byteAt_152 : decode cX1_byteAt 152 = .ok (.lsub, 1) := by decide +kernel
theorem dX1_byteAt_153 : decode cX1_byteAt 153 = .ok (.lstore 5, 2) := by decide +kernel
theorem dX1_byteAt_155 : decode cX1_byteAt 155 = .ok (.aload_n 0, 1) := by decide +kernel
theorem dX1_byteAt_156 : decode cX1_byteAt 156 = .ok (.iload 4, 2) := by decide +kernel
theorem dX1_byteAt_158 : decode cX1_byteAt 158 = .ok (.invokevirtual 56, 3) := by decide +kernel
theorem dX1_byteAt_161 : decode cX1_byteAt 161 = .ok (.istore 4, 2) := by decide +kernel
theorem dX1_byteAt_163 : decode cX1_byteAt 163 = .ok (.iinc 7 1, 3) := by decide +kernel
theorem dX1_byteAt_166 : decode cX1_byteAt 166 = .ok (.goto (-136), 3) := by decide +kernel
theorem dX1_byteAt_169 : decode cX1_byteAt 169 = .ok (.iconst (-1), 1) := by decide +kernel
theorem dX1_byteAt_170 : decode cX1_byteAt 170 = .ok (.ireturn, 1) := by decide +kernel
theorem dX1_beginMarks_0 : decode cX1_beginMarks 0 = .ok (.aload_n 0, 1) := by decide +kernel
theorem dX1_beginMarks_1 : decode cX1_beginMarks 1 = .ok (.dup, 1) := by decide +kernel
theorem dX1_beginMarks_2 : decode cX1_beginMarks 2 = .ok (.getfield 59, 3) := by decide +kernel
theorem dX1_beginMarks_5 : decode cX1_beginMarks 5 = .ok (.iconst 1, 1) := by decide +kernel
theorem dX1_beginMarks_6 : decode cX1_beginMarks 6 = .ok (.iadd, 1) := by decide +kernel
theorem dX1_beginMarks_7 : decode cX1_beginMarks 7 = .ok (.putfield 59, 3) := by decide +kernel
theorem dX1_beginMarks_10 : decode cX1_beginMarks 10 = .ok (.return_, 1) := by decide +kernel
theorem dX1_mark_0 : decode cX1_mark 0 = .ok (.iload_n 1, 1) := by decide +kernel
theorem dX1_mark_1 : decode cX1_mark 1 = .ok (.ifCond .lt 24, 3) := by decide +kernel
theorem dX1_mark_4 : decode cX1_mark 4 = .ok (.iload_n 1, 1) := by decide +kernel
theorem dX1_mark_5 : decode cX1_mark 5 = .ok (.aload_n 0, 1) := by decide +kernel
theorem dX1_mark_6 : decode cX1_mark 6 = .ok (.getfield 38, 3) := by decide +kernel
theorem dX1_mark_9 : decode cX1_mark 9 = .ok (.if_icmp .ge 16, 3) := by decide +kernel
theorem dX1_mark_12 : decode cX1_mark 12 = .ok (.aload_n 0, 1) := by decide +kernel
theorem dX1_mark_13 : decode cX1_mark 13 = .ok (.getfield 28, 3) := by decide +kernel
theorem dX1_mark_16 : decode cX1_mark 16 = .ok (.iload_n 1, 1) := by decide +kernel
theorem dX1_mark_17 : decode cX1_mark 17 = .ok (.iaload, 1) := by decide +kernel
theorem dX1_mark_18 : decode cX1_mark 18 = .ok (.aload_n 0, 1) := by decide +kernel
theorem dX1_mark_19 : decode cX1_mark 19 = .ok (.getfield 59, 3) := by decide +kernel
theorem dX1_mark_22 : decode cX1_mark 22 = .ok (.if_icmp .ne 5, 3) := by decide +kernel
theorem dX1_mark_25 : decode cX1_mark 25 = .ok (.iconst 0, 1) := by decide +kernel
theorem dX1_mark_26 : decode cX1_mark 26 = .ok (.ireturn, 1) := by decide +kernel
theorem dX1_mark_27 : decode cX1_mark 27 = .ok (.aload_n 0, 1) := by decide +kernel
theorem dX1_mark_28 : decode cX1_mark 28 = .ok (.getfield 28, 3) := by decide +kernel
theorem dX1_mark_31 : decode cX1_mark 31 = .ok (.iload_n 1, 1) := by decide +kernel
theorem dX1_mark_32 : decode cX1_mark 32 = .ok (.aload_n 0, 1) := by decide +kernel
theorem dX1_mark_33 : decode cX1_mark 33 = .ok (.getfield 59, 3) := by decide +kernel
theorem dX1_mark_36 : decode cX1_mark 36 = .ok (.iastore, 1) := by decide +kernel
theorem dX1_mark_37 : decode cX1_mark 37 = .ok (.iconst 1, 1) := by decide +kernel
theorem dX1_mark_38 : decode cX1_mark 38 = .ok (.ireturn, 1) := by decide +kernel
theorem dX1_isMarked_0 : decode cX1_isMarked 0 = .ok (.iload_n 1, 1) := by decide +kernel
theorem dX1_isMarked_1 : decode cX1_isMarked 1 = .ok (.ifCond .lt 28, 3) := by decide +kernel
theorem dX1_isMarked_4 : decode cX1_isMarked 4 = .ok (.iload_n 1, 1) := by decide +kernel
theorem dX1_isMarked_5 : decode cX1_isMarked 5 = .ok (.aload_n 0, 1) := by decide +kernel
theorem dX1_isMarked_6 : decode cX1_isMarked 6 = .ok (.getfield 38, 3) := by decide +kernel
theorem dX1_isMarked_9 : decode cX1_isMarked 9 = .ok (.if_icmp .ge 20, 3) := by decide +kernel
theorem dX1_isMarked_12 : decode cX1_isMarked 12 = .ok (.aload_n 0, 1) := by decide +kernel
theorem dX1_isMarked_13 : decode cX1_isMarked 13 = .ok (.getfield 28, 3) := by decide +kernel
theorem dX1_isMarked_16 : decode cX1_isMarked 16 = .ok (.iload_n 1, 1) := by decide +kernel
theorem dX1_isMarked_17 : decode cX1_isMarked 17 = .ok (.iaload, 1) := by decide +kernel
theorem dX1_isMarked_18 : decode cX1_isMarked 18 = .ok (.aload_n 0, 1) := by decide +kernel
theorem dX1_isMarked_19 : decode cX1_isMarked 19 = .ok (.getfield 59, 3) := by decide +kernel
theorem dX1_isMarked_22 : decode cX1_isMarked 22 = .ok (.if_icmp .ne 7, 3) := by decide +kernel
theorem dX1_isMarked_25 : decode cX1_isMarked 25 = .ok (.iconst 1, 1) := by decide +kernel
theorem dX1_isMarked_26 : decode cX1_isMarked 26 = .ok (.goto 4, 3) := by decide +kernel
theorem dX1_isMarked_29 : decode cX1_isMarked 29 = .ok (.iconst 0, 1) := by decide +kernel
theorem dX1_isMarked_30 : decode cX1_isMarked 30 = .ok (.ireturn, 1) := by decide +kernel
theorem dX1_markParts_0 : decode cX1_markParts 0 = .ok (.iconst 0, 1) := by decide +kernel
theorem dX1_markParts_1 : decode cX1_markParts 1 = .ok (.istore_n 1, 1) := by decide +kernel
theorem dX1_markParts_2 : decode cX1_markParts 2 = .ok (.aload_n 0, 1) := by decide +kernel
theorem dX1_markParts_3 : decode cX1_markParts 3 = .ok (.getfield 38, 3) := by decide +kernel
theorem dX1_markParts_6 : decode cX1_markParts 6 = .ok (.iconst 1, 1) := by decide +kernel
theorem dX1_markParts_7 : decode cX1_markParts 7 = .ok (.isub, 1) := by decide +kernel
theorem dX1_markParts_8 : decode cX1_markParts 8 = .ok (.istore_n 2, 1) := by decide +kernel
theorem dX1_markParts_9 : decode cX1_markParts 9 = .ok (.iload_n 2, 1) := by decide +kernel
theorem dX1_markParts_10 : decode cX1_markParts 10 = .ok (.ifCond .lt 47, 3) := by decide +kernel
theorem dX1_markParts_13 : decode cX1_markParts 13 = .ok (.aload_n 0, 1) := by decide +kernel
theorem dX1_markParts_14 : decode cX1_markParts 14 = .ok (.getfield 28, 3) := by decide +kernel
theorem dX1_markParts_17 : decode cX1_markParts 17 = .ok (.iload_n 2, 1) := by decide +kernel
theorem dX1_markParts_18 : decode cX1_markParts 18 = .ok (.iaload, 1) := by decide +kernel
theorem dX1_markParts_19 : decode cX1_markParts 19 = .ok (.aload_n 0, 1) := by decide +kernel
theorem dX1_markParts_20 : decode cX1_markParts 20 = .ok (.getfield 59, 3) := by decide +kernel
theorem dX1_markParts_23 : decode cX1_markParts 23 = .ok (.if_icmp .ne 28, 3) := by decide +kernel
theorem dX1_markParts_26 : decode cX1_markParts 26 = .ok (.aload_n 0, 1) := by decide +kernel
theorem dX1_markParts_27 : decode cX1_markParts 27 = .ok (.aload_n 0, 1) := by decide +kernel
theorem dX1_markParts_28 : decode cX1_markParts 28 = .ok (.getfield 15, 3) := by decide +kernel
theorem dX1_markParts_31 : decode cX1_markParts 31 = .ok (.iload_n 2, 1) := by decide +kernel
theorem dX1_markParts_32 : decode cX1_markParts 32 = .ok (.iaload, 1) := by decide +kernel
theorem dX1_markParts_33 : decode cX1_markParts 33 = .ok (.invokevirtual 62, 3) := by decide +kernel
theorem dX1_markParts_36 : decode cX1_markParts 36 = .ok (.pop, 1) := by decide +kernel
theorem dX1_markParts_37 : decode cX1_markParts 37 = .ok (.aload_n 0, 1) := by decide +kernel
theorem dX1_markParts_38 : decode cX1_markParts 38 = .ok (.aload_n 0, 1) := by decide +kernel
theorem dX1_markParts_39 : decode cX1_markParts 39 = .ok (.getfield 18, 3) := by decide +kernel
theorem dX1_markParts_42 : decode cX1_markParts 42 = .ok (.iload_n 2, 1) := by decide +kernel
theorem dX1_markParts_43 : decode cX1_markParts 43 = .ok (.iaload, 1) := by decide +kernel
theorem dX1_markParts_44 : decode cX1_markParts 44 = .ok (.invokevirtual 62, 3) := by decide +kernel
theorem dX1_markParts_47 : decode cX1_markParts 47 = .ok (.pop, 1) := by decide +kernel
theorem dX1_markParts_48 : decode cX1_markParts 48 = .ok (.iinc 1 1, 3) := by decide +kernel
theorem dX1_markParts_51 : decode cX1_markParts 51 = .ok (.iinc 2 (-1), 3) := by decide +kernel
theorem dX1_markParts_54 : decode cX1_markParts 54 = .ok (.goto (-45), 3) := by decide +kernel
theorem dX1_markParts_57 : decode cX1_markParts 57 = .ok (.iload_n 1, 1) := by decide +kernel
theorem dX1_markParts_58 : decode cX1_markParts 58 = .ok (.ireturn, 1) := by decide +kernel
theorem dX2_init_0 : decode cX2_init 0 = .ok (.aload_n 0, 1) := by decide +kernel
theorem dX2_init_1 : decode cX2_init 1 = .ok (.invokespecial 3, 3) := by decide +kernel
theorem dX2_init_4 : decode cX2_init 4 = .ok (.aload_n 0, 1) := by decide +kernel
theorem dX2_init_5 : decode cX2_init 5 = .ok (.bipush 6, 2) := by decide +kernel
theorem dX2_init_7 : decode cX2_init 7 = .ok (.newarray .int, 2) := by decide +kernel
theorem dX2_init_9 : decode cX2_init 9 = .ok (.putfield 9, 3) := by decide +kernel
theorem dX2_init_12 : decode cX2_init 12 = .ok (.aload_n 0, 1) := by decide +kernel
theorem dX2_init_13 : decode cX2_init 13 = .ok (.bipush 6, 2) := by decide +kernel
theorem dX2_init_15 : decode cX2_init 15 = .ok (.newarray .int, 2) := by decide +kernel
theorem dX2_init_17 : decode cX2_init 17 = .ok (.putfield 15, 3) := by decide +kernel
theorem dX2_init_20 : decode cX2_init 20 = .ok (.aload_n 0, 1) := by decide +kernel
theorem dX2_init_21 : decode cX2_init 21 = .ok (.bipush 6, 2) := by decide +kernel
theorem dX2_init_23 : decode cX2_init 23 = .ok (.newarray .int, 2) := by decide +kernel
theorem dX2_init_25 : decode cX2_init 25 = .ok (.putfield 18, 3) := by decide +kernel
theorem dX2_init_28 : decode cX2_init 28 = .ok (.return_, 1) := by decide +kernel
theorem dX2_clear_0 : decode cX2_clear 0 = .ok (.aload_n 0, 1) := by decide +kernel
theorem dX2_clear_1 : decode cX2_clear 1 = .ok (.iconst 0, 1) := by decide +kernel
theorem dX2_clear_2 : decode cX2_clear 2 = .ok (.putfield 21, 3) := by decide +kernel
theorem dX2_clear_5 : decode cX2_clear 5 = .ok (.return_, 1) := by decide +kernel
theorem dX2_isFull_0 : decode cX2_isFull 0 = .ok (.aload_n 0, 1) := by decide +kernel
theorem dX2_isFull_1 : decode cX2_isFull 1 = .ok (.getfield 21, 3) := by decide +kernel
theorem dX2_isFull_4 : decode cX2_isFull 4 = .ok (.bipush 6, 2) := by decide +kernel
theorem dX2_isFull_6 : decode cX2_isFull 6 = .ok (.if_icmp .lt 7, 3) := by decide +kernel
theorem dX2_isFull_9 : decode cX2_isFull 9 = .ok (.iconst 1, 1) := by decide +kernel
theorem dX2_isFull_10 : decode cX2_isFull 10 = .ok (.goto 4, 3) := by decide +kernel
theorem dX2_isFull_13 : decode cX2_isFull 13 = .ok (.iconst 0, 1) := by decide +kernel
theorem dX2_isFull_14 : decode cX2_isFull 14 = .ok (.ireturn, 1) := by decide +kernel
theorem dX2_add_0 : decode cX2_add 0 = .ok (.aload_n 0, 1) := by decide +kernel
theorem dX2_add_1 : decode cX2_add 1 = .ok (.getfield 21, 3) := by decide +kernel
theorem dX2_add_4 : decode cX2_add 4 = .ok (.bipush 6, 2) := by decide +kernel
theorem dX2_add_6 : decode cX2_add 6 = .ok (.if_icmp .ge 43, 3) := by decide +kernel
theorem dX2_add_9 : decode cX2_add 9 = .ok (.aload_n 0, 1) := by decide +kernel
theorem dX2_add_10 : decode cX2_add 10 = .ok (.getfield 9, 3) := by decide +kernel
theorem dX2_add_13 : decode cX2_add 13 = .ok (.aload_n 0, 1) := by decide +kernel
theorem dX2_add_14 : decode cX2_add 14 = .ok (.getfield 21, 3) := by decide +kernel
theorem dX2_add_17 : decode cX2_add 17 = .ok (.iload_n 1, 1) := by decide +kernel
theorem dX2_add_18 : decode cX2_add 18 = .ok (.iastore, 1) := by decide +kernel
theorem dX2_add_19 : decode cX2_add 19 = .ok (.aload_n 0, 1) := by decide +kernel
theorem dX2_add_20 : decode cX2_add 20 = .ok (.getfield 15, 3) := by decide +kernel
theorem dX2_add_23 : decode cX2_add 23 = .ok (.aload_n 0, 1) := by decide +kernel
theorem dX2_add_24 : decode cX2_add 24 = .ok (.getfield 21, 3) := by decide +kernel
theorem dX2_add_27 : decode cX2_add 27 = .ok (.iload_n 2, 1) := by decide +kernel
theorem dX2_add_28 : decode cX2_add 28 = .ok (.iastore, 1) := by decide +kernel
theorem dX2_add_29 : decode cX2_add 29 = .ok (.aload_n 0, 1) := by decide +kernel
theorem dX2_add_30 : decode cX2_add 30 = .ok (.getfield 18, 3) := by decide +kernel
theorem dX2_add_33 : decode cX2_add 33 = .ok (.aload_n 0, 1) := by decide +kernel
theorem dX2_add_34 : decode cX2_add 34 = .ok (.getfield 21, 3) := by decide +kernel
theorem dX2_add_37 : decode cX2_add 37 = .ok (.iload_n 3, 1) := by decide +kernel
theorem dX2_add_38 : decode cX2_add 38 = .ok (.iastore, 1) := by decide +kernel
theorem dX2_add_39 : decode cX2_add 39 = .ok (.aload_n 0, 1) := by decide +kernel
theorem dX2_add_40 : decode cX2_add 40 = .ok (.dup, 1) := by decide +kernel
theorem dX2_add_41 : decode cX2_add 41 = .ok (.getfield 21, 3) := by decide +kernel
theorem dX2_add_44 : decode cX2_add 44 = .ok (.iconst 1, 1) := by decide +kernel
theorem dX2_add_45 : decode cX2_add 45 = .ok (.iadd, 1) := by decide +kernel
theorem dX2_add_46 : decode cX2_add 46 = .ok (.putfield 21, 3) := by decide +kernel
theorem dX2_add_49 : decode cX2_add 49 = .ok (.return_, 1) := by decide +kernel
theorem dX2_takeOver_0 : decode cX2_takeOver 0 = .ok (.aload_n 0, 1) := by decide +kernel
theorem dX2_takeOver_1 : decode cX2_takeOver 1 = .ok (.invokevirtual 25, 3) := by decide +kernel
theorem dX2_takeOver_4 : decode cX2_takeOver 4 = .ok (.iconst 0, 1) := by decide +kernel
theorem dX2_takeOver_5 : decode cX2_takeOver 5 = .ok (.istore_n 2, 1) := by decide +kernel
theorem dX2_takeOver_6 : decode cX2_takeOver 6 = .ok (.iload_n 2, 1) := by decide +kernel
theorem dX2_takeOver_7 : decode cX2_takeOver 7 = .ok (.aload_n 1, 1) := by decide +kernel
theorem dX2_takeOver_8 : decode cX2_takeOver 8 = .ok (.getfield 21, 3) := by decide +kernel
theorem dX2_takeOver_11 : decode cX2_takeOver 11 = .ok (.if_icmp .ge 37, 3) := by decide +kernel
theorem dX2_takeOver_14 : decode cX2_takeOver 14 = .ok (.iload_n 2, 1) := by decide +kernel
theorem dX2_takeOver_15 : decode cX2_takeOver 15 = .ok (.bipush 6, 2) := by decide +kernel
theorem dX2_takeOver_17 : decode cX2_takeOver 17 = .ok (.if_icmp .ge 31, 3) := by decide +kernel
theorem dX2_takeOver_20 : decode cX2_takeOver 20 = .ok (.aload_n 0, 1) := by decide +kernel
theorem dX2_takeOver_21 : decode cX2_takeOver 21 = .ok (.aload_n 1, 1) := by decide +kernel
theorem dX2_takeOver_22 : decode cX2_takeOver 22 = .ok (.getfield 9, 3) := by decide +kernel
theorem dX2_takeOver_25 : decode cX2_takeOver 25 = .ok (.iload_n 2, 1) := by decide +kernel
theorem dX2_takeOver_26 : decode cX2_takeOver 26 = .ok (.iaload, 1) := by decide +kernel
theorem dX2_takeOver_27 : decode cX2_takeOver 27 = .ok (.aload_n 1, 1) := by decide +kernel
theorem dX2_takeOver_28 : decode cX2_takeOver 28 = .ok (.getfield 15, 3) := by decide +kernel
theorem dX2_takeOver_31 : decode cX2_takeOver 31 = .ok (.iload_n 2, 1) := by decide +kernel
theorem dX2_takeOver_32 : decode cX2_takeOver 32 = .ok (.iaload, 1) := by decide +kernel
theorem dX2_takeOver_33 : decode cX2_takeOver 33 = .ok (.aload_n 1, 1) := by decide +kernel
theorem dX2_takeOver_34 : decode cX2_takeOver 34 = .ok (.getfield 18, 3) := by decide +kernel
theorem dX2_takeOver_37 : decode cX2_takeOver 37 = .ok (.iload_n 2, 1) := by decide +kernel
theorem dX2_takeOver_38 : decode cX2_takeOver 38 = .ok (.iaload, 1) := by decide +kernel
theorem dX2_takeOver_39 : decode cX2_takeOver 39 = .ok (.invokevirtual 28, 3) := by decide +kernel
theorem dX2_takeOver_42 : decode cX2_takeOver 42 = .ok (.iinc 2 1, 3) := by decide +kernel
theorem dX2_takeOver_45 : decode cX2_takeOver 45 = .ok (.goto (-39), 3) := by decide +kernel
theorem dX2_takeOver_48 : decode cX2_takeOver 48 = .ok (.return_, 1) := by decide +kernel
theorem dX2_find_0 : decode cX2_find 0 = .ok (.iconst 0, 1) := by decide +kernel
theorem dX2_find_1 : decode cX2_find 1 = .ok (.istore_n 2, 1) := by decide +kernel
theorem dX2_find_2 : decode cX2_find 2 = .ok (.iload_n 2, 1) := by decide +kernel
theorem dX2_find_3 : decode cX2_find 3 = .ok (.aload_n 0, 1) := by decide +kernel
theorem dX2_find_4 : decode cX2_find 4 = .ok (.getfield 21, 3) := by decide +kernel
theorem dX2_find_7 : decode cX2_find 7 = .ok (.if_icmp .ge 27, 3) := by decide +kernel
theorem dX2_find_10 : decode cX2_find 10 = .ok (.iload_n 2, 1) := by decide +kernel
theorem dX2_find_11 : decode cX2_find 11 = .ok (.bipush 6, 2) := by decide +kernel
theorem dX2_find_13 : decode cX2_find 13 = .ok (.if_icmp .ge 21, 3) := by decide +kernel
theorem dX2_find_16 : decode cX2_find 16 = .ok (.aload_n 0, 1) := by decide +kernel
theorem dX2_find_17 : decode cX2_find 17 = .ok (.getfield 9, 3) := by decide +kernel
theorem dX2_find_20 : decode cX2_find 20 = .ok (.iload_n 2, 1) := by decide +kernel
theorem dX2_find_21 : decode cX2_find 21 = .ok (.iaload, 1) := by decide +kernel
theorem dX2_find_22 : decode cX2_find 22 = .ok (.iload_n 1, 1) := by decide +kernel
theorem dX2_find_23 : decode cX2_find 23 = .ok (.if_icmp .ne 5, 3) := by decide +kernel
theorem dX2_find_26 : decode cX2_find 26 = .ok (.iload_n 2, 1) := by decide +kernel
theorem dX2_find_27 : decode cX2_find 27 = .ok (.ireturn, 1) := by decide +kernel
theorem dX2_find_28 : decode cX2_find 28 = .ok (.iinc 2 1, 3) := by decide +kernel
theorem dX2_find_31 : decode cX2_find 31 = .ok (.goto (-29), 3) := by decide +kernel
theorem dX2_find_34 : decode cX2_find 34 = .ok (.iconst (-1), 1) := by decide +kernel
theorem dX2_find_35 : decode cX2_find 35 = .ok (.ireturn, 1) := by decide +kernel
theorem dX2_nameOf_0 : decode cX2_nameOf 0 = .ok (.iload_n 1, 1) := by decide +kernel
theorem dX2_nameOf_1 : decode cX2_nameOf 1 = .ok (.ifCond .lt 26, 3) := by decide +kernel
theorem dX2_nameOf_4 : decode cX2_nameOf 4 = .ok (.iload_n 1, 1) := by decide +kernel
theorem dX2_nameOf_5 : decode cX2_nameOf 5 = .ok (.aload_n 0, 1) := by decide +kernel
theorem dX2_nameOf_6 : decode cX2_nameOf 6 = .ok (.getfield 21, 3) := by decide +kernel
theorem dX2_nameOf_9 : decode cX2_nameOf 9 = .ok (.if_icmp .ge 18, 3) := by decide +kernel
theorem dX2_nameOf_12 : decode cX2_nameOf 12 = .ok (.iload_n 1, 1) := by decide +kernel
theorem dX2_nameOf_13 : decode cX2_nameOf 13 = .ok (.bipush 6, 2) := by decide +kernel
theorem dX2_nameOf_15 : decode cX2_nameOf 15 = .ok (.if_icmp .ge 12, 3) := by decide +kernel
theorem dX2_nameOf_18 : decode cX2_nameOf 18 = .ok (.aload_n 0, 1) := by decide +kernel
theorem dX2_nameOf_19 : decode cX2_nameOf 19 = .ok (.getfield 9, 3) := by decide +kernel
theorem dX2_nameOf_22 : decode cX2_nameOf 22 = .ok (.iload_n 1, 1) := by decide +kernel
theorem dX2_nameOf_23 : decode cX2_nameOf 23 = .ok (.iaload, 1) := by decide +kernel
theorem dX2_nameOf_24 : decode cX2_nameOf 24 = .ok (.goto 4, 3) := by decide +kernel
theorem dX2_nameOf_27 : decode cX2_nameOf 27 = .ok (.iconst 0, 1) := by decide +kernel
theorem dX2_nameOf_28 : decode cX2_nameOf 28 = .ok (.ireturn, 1) := by decide +kernel
theorem dX2_formulaOf_0 : decode cX2_formulaOf 0 = .ok (.iload_n 1, 1) := by decide +kernel
theorem dX2_formulaOf_1 : decode cX2_formulaOf 1 = .ok (.ifCond .lt 26, 3) := by decide +kernel
theorem dX2_formulaOf_4 : decode cX2_formulaOf 4 = .ok (.iload_n 1, 1) := by decide +kernel
theorem dX2_formulaOf_5 : decode cX2_formulaOf 5 = .ok (.aload_n 0, 1) := by decide +kernel
theorem dX2_formulaOf_6 : decode cX2_formulaOf 6 = .ok (.getfield 21, 3) := by decide +kernel
theorem dX2_formulaOf_9 : decode cX2_formulaOf 9 = .ok (.if_icmp .ge 18, 3) := by decide +kernel
theorem dX2_formulaOf_12 : decode cX2_formulaOf 12 = .ok (.iload_n 1, 1) := by decide +kernel
theorem dX2_formulaOf_13 : decode cX2_formulaOf 13 = .ok (.bipush 6, 2) := by decide +kernel
theorem dX2_formulaOf_15 : decode cX2_formulaOf 15 = .ok (.if_icmp .ge 12, 3) := by decide +kernel
theorem dX2_formulaOf_18 : decode cX2_formulaOf 18 = .ok (.aload_n 0, 1) := by decide +kernel
theorem dX2_formulaOf_19 : decode cX2_formulaOf 19 = .ok (.getfield 15, 3) := by decide +kernel
theorem dX2_formulaOf_22 : decode cX2_formulaOf 22 = .ok (.iload_n 1, 1) := by decide +kernel
theorem dX2_formulaOf_23 : decode cX2_formulaOf 23 = .ok (.iaload, 1) := by decide +kernel
theorem dX2_formulaOf_24 : decode cX2_formulaOf 24 = .ok (.goto 4, 3) := by decide +kernel
theorem dX2_formulaOf_27 : decode cX2_formulaOf 27 = .ok (.iconst (-1), 1) := by decide +kernel
theorem dX2_formulaOf_28 : decode cX2_formulaOf 28 = .ok (.ireturn, 1) := by decide +kernel
theorem dX2_wordsInAll_0 : decode cX2_wordsInAll 0 = .ok (.iconst 0, 1) := by decide +kernel
theorem dX2_wordsInAll_1 : decode cX2_wordsInAll 1 = .ok (.istore_n 1, 1) := by decide +kernel
theorem dX2_wordsInAll_2 : decode cX2_wordsInAll 2 = .ok (.iconst 0, 1) := by decide +kernel
theorem dX2_wordsInAll_3 : decode cX2_wordsInAll 3 = .ok (.istore_n 2, 1) := by decide +kernel
theorem dX2_wordsInAll_4 : decode cX2_wordsInAll 4 = .ok (.iload_n 2, 1) := by decide +kernel
theorem dX2_wordsInAll_5 : decode cX2_wordsInAll 5 = .ok (.aload_n 0, 1) := by decide +kernel
theorem dX2_wordsInAll_6 : decode cX2_wordsInAll 6 = .ok (.getfield 21, 3) := by decide +kernel
theorem dX2_wordsInAll_9 : decode cX2_wordsInAll 9 = .ok (.if_icmp .ge 24, 3) := by decide +kernel
theorem dX2_wordsInAll_12 : decode cX2_wordsInAll 12 = .ok (.iload_n 2, 1) := by decide +kernel
theorem dX2_wordsInAll_13 : decode cX2_wordsInAll 13 = .ok (.bipush 6, 2) := by decide +kernel
theorem dX2_wordsInAll_15 : decode cX2_wordsInAll 15 = .ok (.if_icmp .ge 18, 3) := by decide +kernel
theorem dX2_wordsInAll_18 : decode cX2_wordsInAll 18 = .ok (.iload_n 1, 1) := by decide +kernel
theorem dX2_wordsInAll_19 : decode cX2_wordsInAll 19 = .ok (.aload_n 0, 1) := by decide +kernel
theorem dX2_wordsInAll_20 : decode cX2_wordsInAll 20 = .ok (.getfield 18, 3) := by decide +kernel
theorem dX2_wordsInAll_23 : decode cX2_wordsInAll 23 = .ok (.iload_n 2, 1) := by decide +kernel
theorem dX2_wordsInAll_24 : decode cX2_wordsInAll 24 = .ok (.iaload, 1) := by decide +kernel
theorem dX2_wordsInAll_25 : decode cX2_wordsInAll 25 = .ok (.iadd, 1) := by decide +kernel
theorem dX2_wordsInAll_26 : decode cX2_wordsInAll 26 = .ok (.istore_n 1, 1) := by decide +kernel
theorem dX2_wordsInAll_27 : decode cX2_wordsInAll 27 = .ok (.iinc 2 1, 3) := by decide +kernel
theorem dX2_wordsInAll_30 : decode cX2_wordsInAll 30 = .ok (.goto (-26), 3) := by decide +kernel
theorem dX2_wordsInAll_33 : decode cX2_wordsInAll 33 = .ok (.iload_n 1, 1) := by decide +kernel
theorem dX2_wordsInAll_34 : decode cX2_wordsInAll 34 = .ok (.ireturn, 1) := by decide +kernel
theorem dX2_markFormulas_0 : decode cX2_markFormulas 0 = .ok (.iconst 0, 1) := by decide +kernel
theorem dX2_markFormulas_1 : decode cX2_markFormulas 1 = .ok (.istore_n 2, 1) := by decide +kernel
theorem dX2_markFormulas_2 : decode cX2_markFormulas 2 = .ok (.iload_n 2, 1) := by decide +kernel
theorem dX2_markFormulas_3 : decode cX2_markFormulas 3 = .ok (.aload_n 0, 1) := by decide +kernel
theorem dX2_markFormulas_4 : decode cX2_markFormulas 4 = .ok (.getfield 21, 3) := by decide +kernel
theorem dX2_markFormulas_7 : decode cX2_markFormulas 7 = .ok (.if_icmp .ge 26, 3) := by decide +kernel
theorem dX2_markFormulas_10 : decode cX2_markFormulas 10 = .ok (.iload_n 2, 1) := by decide +kernel
theorem dX2_markFormulas_11 : decode cX2_markFormulas 11 = .ok (.bipush 6, 2) := by decide +kernel
theorem dX2_markFormulas_13 : decode cX2_markFormulas 13 = .ok (.if_icmp .ge 20, 3) := by decide +kernel
theorem dX2_markFormulas_16 : decode cX2_markFormulas 16 = .ok (.aload_n 1, 1) := by decide +kernel
theorem dX2_markFormulas_17 : decode cX2_markFormulas 17 = .ok (.aload_n 0, 1) := by decide +kernel
theorem dX2_markFormulas_18 : decode cX2_markFormulas 18 = .ok (.getfield 15, 3) := by decide +kernel
theorem dX2_markFormulas_21 : decode cX2_markFormulas 21 = .ok (.iload_n 2, 1) := by decide +kernel
theorem dX2_markFormulas_22 : decode cX2_markFormulas 22 = .ok (.iaload, 1) := by decide +kernel
theorem dX2_markFormulas_23 : decode cX2_markFormulas 23 = .ok (.invokevirtual 32, 3) := by decide +kernel
theorem dX2_markFormulas_26 : decode cX2_markFormulas 26 = .ok (.pop, 1) := by decide +kernel
theorem dX2_markFormulas_27 : decode cX2_markFormulas 27 = .ok (.iinc 2 1, 3) := by decide +kernel
theorem dX2_markFormulas_30 : decode cX2_markFormulas 30 = .ok (.goto (-28), 3) := by decide +kernel
theorem dX2_markFormulas_33 : decode cX2_markFormulas 33 = .ok (.return_, 1) := by decide +kernel
theorem dX5_init_0 : decode cX5_init 0 = .ok (.aload_n 0, 1) := by decide +kernel
theorem dX5_init_1 : decode cX5_init 1 = .ok (.invokespecial 3, 3) := by decide +kernel
theorem dX5_init_4 : decode cX5_init 4 = .ok (.aload_n 0, 1) := by decide +kernel
theorem dX5_init_5 : decode cX5_init 5 = .ok (.sipush 5200, 3) := by decide +kernel
theorem dX5_init_8 : decode cX5_init 8 = .ok (.newarray .int, 2) := by decide +kernel
theorem dX5_init_10 : decode cX5_init 10 = .ok (.putfield 11, 3) := by decide +kernel
theorem dX5_init_13 : decode cX5_init 13 = .ok (.aload_n 0, 1) := by decide +kernel
theorem dX5_init_14 : decode cX5_init 14 = .ok (.sipush 420, 3) := by decide +kernel
theorem dX5_init_17 : decode cX5_init 17 = .ok (.newarray .int, 2) := by decide +kernel
theorem dX5_init_19 : decode cX5_init 19 = .ok (.putfield 17, 3) := by decide +kernel
theorem dX5_init_22 : decode cX5_init 22 = .ok (.aload_n 0, 1) := by decide +kernel
theorem dX5_init_23 : decode cX5_init 23 = .ok (.sipush 420, 3) := by decide +kernel
theorem dX5_init_26 : decode cX5_init 26 = .ok (.newarray .int, 2) := by decide +kernel
theorem dX5_init_28 : decode cX5_init 28 = .ok (.putfield 20, 3) := by decide +kernel
theorem dX5_init_31 : decode cX5_init 31 = .ok (.aload_n 0, 1) := by decide +kernel
theorem dX5_init_32 : decode cX5_init 32 = .ok (.sipush 420, 3) := by decide +kernel
theorem dX5_init_35 : decode cX5_init 35 = .ok (.newarray .int, 2) := by decide +kernel
theorem dX5_init_37 : decode cX5_init 37 = .ok (.putfield 23, 3) := by decide +kernel
theorem dX5_init_40 : decode cX5_init 40 = .ok (.aload_n 0, 1) := by decide +kernel
theorem dX5_init_41 : decode cX5_init 41 = .ok (.sipush 420, 3) := by decide +kernel
theorem dX5_init_44 : decode cX5_init 44 = .ok (.newarray .long, 2) := by decide +kernel
theorem dX5_init_46 : decode cX5_init 46 = .ok (.putfield 26, 3) := by decide +kernel
theorem dX5_init_49 : decode cX5_init 49 = .ok (.aload_n 0, 1) := by decide +kernel
theorem dX5_init_50 : decode cX5_init 50 = .ok (.aload_n 1, 1) := by decide +kernel
theorem dX5_init_51 : decode cX5_init 51 = .ok (.putfield 30, 3) := by decide +kernel
theorem dX5_init_54 : decode cX5_init 54 = .ok (.return_, 1) := by decide +kernel
theorem dX5_collect_0 : decode cX5_collect 0 = .ok (.aload_n 0, 1) := by decide +kernel
theorem dX5_collect_1 : decode cX5_collect 1 = .ok (.getfield 30, 3) := by decide +kernel
theorem dX5_collect_4 : decode cX5_collect 4 = .ok (.invokevirtual 34, 3) := by decide +kernel
theorem dX5_collect_7 : decode cX5_collect 7 = .ok (.aload_n 1, 1) := by decide +kernel
theorem dX5_collect_8 : decode cX5_collect 8 = .ok (.aload_n 0, 1) := by decide +kernel
theorem dX5_collect_9 : decode cX5_collect 9 = .ok (.getfield 30, 3) := by decide +kernel
theorem dX5_collect_12 : decode cX5_collect 12 = .ok (.invokevirtual 37, 3) := by decide +kernel
theorem dX5_collect_15 : decode cX5_collect 15 = .ok (.aload_n 0, 1) := by decide +kernel
theorem dX5_collect_16 : decode cX5_collect 16 = .ok (.getfield 30, 3) := by decide +kernel
theorem dX5_collect_19 : decode cX5_collect 19 = .ok (.iload_n 2, 1) := by decide +kernel
theorem dX5_collect_20 : decode cX5_collect 20 = .ok (.invokevirtual 43, 3) := by decide +kernel
theorem dX5_collect_23 : decode cX5_collect 23 = .ok (.pop, 1) := by decide +kernel
theorem dX5_collect_24 : decode cX5_collect 24 = .ok (.aload_n 0, 1) := by decide +kernel
theorem dX5_collect_25 : decode cX5_collect 25 = .ok (.getfield 30, 3) := by decide +kernel
theorem dX5_collect_28 : decode cX5_collect 28 = .ok (.invokevirtual 47, 3) := by decide +kernel
theorem dX5_collect_31 : decode cX5_collect 31 = .ok (.istore_n 3, 1) := by decide +kernel
theorem dX5_collect_32 : decode cX5_collect 32 = .ok (.aload_n 0, 1) := by decide +kernel
theorem dX5_collect_33 : decode cX5_collect 33 = .ok (.iconst 0, 1) := by decide +kernel
theorem dX5_collect_34 : decode cX5_collect 34 = .ok (.putfield 51, 3) := by decide +kernel
theorem dX5_collect_37 : decode cX5_collect 37 = .ok (.iconst 0, 1) := by decide +kernel
theorem dX5_collect_38 : decode cX5_collect 38 = .ok (.istore 4, 2) := by decide +kernel
theorem dX5_collect_40 : decode cX5_collect 40 = .ok (.iload 4, 2) := by decide +kernel
theorem dX5_collect_42 : decode cX5_collect 42 = .ok (.sipush 5200, 3) := by decide +kernel
theorem dX5_collect_45 : decode cX5_collect 45 = .ok (.if_icmp .ge 121, 3) := by decide +kernel
theorem dX5_collect_48 : decode cX5_collect 48 = .ok (.iload_n 3, 1) := by decide +kernel
theorem dX5_collect_49 : decode cX5_collect 49 = .ok (.ifCond .le 117, 3) := by decide +kernel
theorem dX5_collect_52 : decode cX5_collect 52 = .ok (.aload_n 0, 1) := by decide +kernel
theorem dX5_collect_53 : decode cX5_collect 53 = .ok (.getfield 51, 3) := by decide +kernel
theorem dX5_collect_56 : decode cX5_collect 56 = .ok (.sipush 420, 3) := by decide +kernel
theorem dX5_collect_59 : decode cX5_collect 59 = .ok (.if_icmp .ge 107, 3) := by decide +kernel
theorem dX5_collect_62 : decode cX5_collect 62 = .ok (.aload_n 0, 1) := by decide +kernel
theorem dX5_collect_63 : decode cX5_collect 63 = .ok (.getfield 30, 3) := by decide +kernel
theorem dX5_collect_66 : decode cX5_collect 66 = .ok (.iload 4, 2) := by decide +kernel
theorem dX5_collect_68 : decode cX5_collect 68 = .ok (.invokevirtual 55, 3) := by decide +kernel
theorem dX5_collect_71 : decode cX5_collect 71 = .ok (.ifCond .eq 89, 3) := by decide +kernel
theorem dX5_collect_74 : decode cX5_collect 74 = .ok (.aload_n 0, 1) := by decide +kernel
theorem dX5_collect_75 : decode cX5_collect 75 = .ok (.getfield 11, 3) := by decide +kernel
theorem dX5_collect_78 : decode cX5_collect 78 = .ok (.iload 4, 2) := by decide +kernel
theorem dX5_collect_80 : decode cX5_collect 80 = .ok (.aload_n 0, 1) := by decide +kernel
theorem dX5_collect_81 : decode cX5_collect 81 = .ok (.getfield 51, 3) := by decide +kernel
theorem dX5_collect_84 : decode cX5_collect 84 = .ok (.iastore, 1) := by decide +kernel
theorem dX5_collect_85 : decode cX5_collect 85 = .ok (.aload_n 0, 1) := by decide +kernel
theorem dX5_collect_86 : decode cX5_collect 86 = .ok (.getfield 17, 3) := by decide +kernel
theorem dX5_collect_89 : decode cX5_collect 89 = .ok (.aload_n 0, 1) := by decide +kernel
theorem dX5_collect_90 : decode cX5_collect 90 = .ok (.getfield 51, 3) := by decide +kernel
theorem dX5_collect_93 : decode cX5_collect 93 = .ok (.aload_n 0, 1) := by decide +kernel
theorem dX5_collect_94 : decode cX5_collect 94 = .ok (.getfield 30, 3) := by decide +kernel
theorem dX5_collect_97 : decode cX5_collect 97 = .ok (.iload 4, 2) := by decide +kernel
theorem dX5_collect_99 : decode cX5_collect 99 = .ok (.invokevirtual 58, 3) := by decide +kernel
theorem dX5_collect_102 : decode cX5_collect 102 = .ok (.iastore, 1) := by decide +kernel
theorem dX5_collect_103 : decode cX5_collect 103 = .ok (.aload_n 0, 1) := by decide +kernel
theorem dX5_collect_104 : decode cX5_collect 104 = .ok (.getfield 20, 3) := by decide +kernel
theorem dX5_collect_107 : decode cX5_collect 107 = .ok (.aload_n 0, 1) := by decide +kernel
theorem dX5_collect_108 : decode cX5_collect 108 = .ok (.getfield 51, 3) := by decide +kernel
theorem dX5_collect_111 : decode cX5_collect 111 = .ok (.aload_n 0, 1) := by decide +kernel
theorem dX5_collect_112 : decode cX5_collect 112 = .ok (.aload_n 0, 1) := by decide +kernel
theorem dX5_collect_113 : decode cX5_collect 113 = .ok (.getfield 30, 3) := by decide +kernel
theorem dX5_collect_116 : decode cX5_collect 116 = .ok (.iload 4, 2) := by decide +kernel
theorem dX5_collect_118 : decode cX5_collect 118 = .ok (.invokevirtual 62, 3) := by decide +kernel
theorem dX5_collect_121 : decode cX5_collect 121 = .ok (.invokevirtual 65, 3) := by decide +kernel
theorem dX5_collect_124 : decode cX5_collect 124 = .ok (.iastore, 1) := by decide +kernel
theorem dX5_collect_125 : decode cX5_collect 125 = .ok (.aload_n 0, 1) := by decide +kernel
theorem dX5_collect_126 : decode cX5_collect 126 = .ok (.getfield 23, 3) := by decide +kernel
theorem dX5_collect_129 : decode cX5_collect 129 = .ok (.aload_n 0, 1) := by decide +kernel
theorem dX5_collect_130 : decode cX5_collect 130 = .ok (.getfield 51, 3) := by decide +kernel
theorem dX5_collect_133 : decode cX5_collect 133 = .ok (.aload_n 0, 1) := by decide +kernel
theorem dX5_collect_134 : decode cX5_collect 134 = .ok (.aload_n 0, 1) := by decide +kernel
theorem dX5_collect_135 : decode cX5_collect 135 = .ok (.getfield 30, 3) := by decide +kernel
theorem dX5_collect_138 : decode cX5_collect 138 = .ok (.iload 4, 2) := by decide +kernel
theorem dX5_collect_140 : decode cX5_collect 140 = .ok (.invokevirtual 68, 3) := by decide +kernel
theorem dX5_collect_143 : decode cX5_collect 143 = .ok (.invokevirtual 65, 3) := by decide +kernel
theorem dX5_collect_146 : decode cX5_collect 146 = .ok (.iastore, 1) := by decide +kernel
theorem dX5_collect_147 : decode cX5_collect 147 = .ok (.aload_n 0, 1) := by decide +kernel
theorem dX5_collect_148 : decode cX5_collect 148 = .ok (.dup, 1) := by decide +kernel
theorem dX5_collect_149 : decode cX5_collect 149 = .ok (.getfield 51, 3) := by decide +kernel
theorem dX5_collect_152 : decode cX5_collect 152 = .ok (.iconst 1, 1) := by decide +kernel
theorem dX5_collect_153 : decode cX5_collect 153 = .ok (.iadd, 1) := by decide +kernel
theorem dX5_collect_154 : decode cX5_collect 154 = .ok (.putfield 51, 3) := by decide +kernel
theorem dX5_collect_157 : decode cX5_collect 157 = .ok (.iinc 3 (-1), 3) := by decide +kernel
theorem dX5_collect_160 : decode cX5_collect 160 = .ok (.iinc 4 1, 3) := by decide +kernel
theorem dX5_collect_163 : decode cX5_collect 163 = .ok (.goto (-123), 3) := by decide +kernel
theorem dX5_collect_166 : decode cX5_collect 166 = .ok (.return_, 1) := by decide +kernel
theorem dX5_spotOf_0 : decode cX5_spotOf 0 = .ok (.aload_n 0, 1) := by decide +kernel
theorem dX5_spotOf_1 : decode cX5_spotOf 1 = .ok (.getfield 11, 3) := by decide +kernel
theorem dX5_spotOf_4 : decode cX5_spotOf 4 = .ok (.iload_n 1, 1) := by decide +kernel
theorem dX5_spotOf_5 : decode cX5_spotOf 5 = .ok (.invokestatic 71, 3) := by decide +kernel
theorem dX5_spotOf_8 : decode cX5_spotOf 8 = .ok (.ireturn, 1) := by decide +kernel
theorem dX5_kindAt_0 : decode cX5_kindAt 0 = .ok (.iload_n 1, 1) := by decide +kernel
theorem dX5_kindAt_1 : decode cX5_kindAt 1 = .ok (.ifCond .lt 27, 3) := by decide +kernel
theorem dX5_kindAt_4 : decode cX5_kindAt 4 = .ok (.iload_n 1, 1) := by decide +kernel
theorem dX5_kindAt_5 : decode cX5_kindAt 5 = .ok (.aload_n 0, 1) := by decide +kernel
theorem dX5_kindAt_6 : decode cX5_kindAt 6 = .ok (.getfield 51, 3) := by decide +kernel
theorem dX5_kindAt_9 : decode cX5_kindAt 9 = .ok (.if_icmp .ge 19, 3) := by decide +kernel
theorem dX5_kindAt_12 : decode cX5_kindAt 12 = .ok (.iload_n 1, 1) := by decide +kernel
theorem dX5_kindAt_13 : decode cX5_kindAt 13 = .ok (.sipush 420, 3) := by decide +kernel
theorem dX5_kindAt_16 : decode cX5_kindAt 16 = .ok (.if_icmp .ge 12, 3) := by decide +kernel
theorem dX5_kindAt_19 : decode cX5_kindAt 19 = .ok (.aload_n 0, 1) := by decide +kernel
theorem dX5_kindAt_20 : decode cX5_kindAt 20 = .ok (.getfield 17, 3) := by decide +kernel
theorem dX5_kindAt_23 : decode cX5_kindAt 23 = .ok (.iload_n 1, 1) := by decide +kernel
theorem dX5_kindAt_24 : decode cX5_kindAt 24 = .ok (.iaload, 1) := by decide +kernel
theorem dX5_kindAt_25 : decode cX5_kindAt 25 = .ok (.goto 4, 3) := by decide +kernel
theorem dX5_kindAt_28 : decode cX5_kindAt 28 = .ok (.iconst (-1), 1) := by decide +kernel
theorem dX5_kindAt_29 : decode cX5_kindAt 29 = .ok (.ireturn, 1) := by decide +kernel
theorem dX5_leftAt_0 : decode cX5_leftAt 0 = .ok (.iload_n 1, 1) := by decide +kernel
theorem dX5_leftAt_1 : decode cX5_leftAt 1 = .ok (.ifCond .lt 27, 3) := by decide +kernel
theorem dX5_leftAt_4 : decode cX5_leftAt 4 = .ok (.iload_n 1, 1) := by decide +kernel
theorem dX5_leftAt_5 : decode cX5_leftAt 5 = .ok (.aload_n 0, 1) := by decide +kernel
theorem dX5_leftAt_6 : decode cX5_leftAt 6 = .ok (.getfield 51, 3) := by decide +kernel
theorem dX5_leftAt_9 : decode cX5_leftAt 9 = .ok (.if_icmp .ge 19, 3) := by decide +kernel
theorem dX5_leftAt_12 : decode cX5_leftAt 12 = .ok (.iload_n 1, 1) := by decide +kernel
theorem dX5_leftAt_13 : decode cX5_leftAt 13 = .ok (.sipush 420, 3) := by decide +kernel
theorem dX5_leftAt_16 : decode cX5_leftAt 16 = .ok (.if_icmp .ge 12, 3) := by decide +kernel
theorem dX5_leftAt_19 : decode cX5_leftAt 19 = .ok (.aload_n 0, 1) := by decide +kernel
theorem dX5_leftAt_20 : decode cX5_leftAt 20 = .ok (.getfield 20, 3) := by decide +kernel
theorem dX5_leftAt_23 : decode cX5_leftAt 23 = .ok (.iload_n 1, 1) := by decide +kernel
theorem dX5_leftAt_24 : decode cX5_leftAt 24 = .ok (.iaload, 1) := by decide +kernel
theorem dX5_leftAt_25 : decode cX5_leftAt 25 = .ok (.goto 4, 3) := by decide +kernel
theorem dX5_leftAt_28 : decode cX5_leftAt 28 = .ok (.iconst 0, 1) := by decide +kernel
theorem dX5_leftAt_29 : decode cX5_leftAt 29 = .ok (.ireturn, 1) := by decide +kernel
theorem dX5_rightAt_0 : decode cX5_rightAt 0 = .ok (.iload_n 1, 1) := by decide +kernel
theorem dX5_rightAt_1 : decode cX5_rightAt 1 = .ok (.ifCond .lt 27, 3) := by decide +kernel
theorem dX5_rightAt_4 : decode cX5_rightAt 4 = .ok (.iload_n 1, 1) := by decide +kernel
theorem dX5_rightAt_5 : decode cX5_rightAt 5 = .ok (.aload_n 0, 1) := by decide +kernel
theorem dX5_rightAt_6 : decode cX5_rightAt 6 = .ok (.getfield 51, 3) := by decide +kernel
theorem dX5_rightAt_9 : decode cX5_rightAt 9 = .ok (.if_icmp .ge 19, 3) := by decide +kernel
theorem dX5_rightAt_12 : decode cX5_rightAt 12 = .ok (.iload_n 1, 1) := by decide +kernel
theorem dX5_rightAt_13 : decode cX5_rightAt 13 = .ok (.sipush 420, 3) := by decide +kernel
theorem dX5_rightAt_16 : decode cX5_rightAt 16 = .ok (.if_icmp .ge 12, 3) := by decide +kernel
theorem dX5_rightAt_19 : decode cX5_rightAt 19 = .ok (.aload_n 0, 1) := by decide +kernel
theorem dX5_rightAt_20 : decode cX5_rightAt 20 = .ok (.getfield 23, 3) := by decide +kernel
theorem dX5_rightAt_23 : decode cX5_rightAt 23 = .ok (.iload_n 1, 1) := by decide +kernel
theorem dX5_rightAt_24 : decode cX5_rightAt 24 = .ok (.iaload, 1) := by decide +kernel
theorem dX5_rightAt_25 : decode cX5_rightAt 25 = .ok (.goto 4, 3) := by decide +kernel
theorem dX5_rightAt_28 : decode cX5_rightAt 28 = .ok (.iconst 0, 1) := by decide +kernel
theorem dX5_rightAt_29 : decode cX5_rightAt 29 = .ok (.ireturn, 1) := by decide +kernel
theorem dX5_leastAgainst_0 : decode cX5_leastAgainst 0 = .ok (.iconst 0, 1) := by decide +kernel
theorem dX5_leastAgainst_1 : decode cX5_leastAgainst 1 = .ok (.istore_n 3, 1) := by decide +kernel
theorem dX5_leastAgainst_2 : decode cX5_leastAgainst 2 = .ok (.iload_n 3, 1) := by decide +kernel
theorem dX5_leastAgainst_3 : decode cX5_leastAgainst 3 = .ok (.iconst 4, 1) := by decide +kernel
theorem dX5_leastAgainst_4 : decode cX5_leastAgainst 4 = .ok (.if_icmp .ge 102, 3) := by decide +kernel
theorem dX5_leastAgainst_7 : decode cX5_leastAgainst 7 = .ok (.aload_n 0, 1) := by decide +kernel
theorem dX5_leastAgainst_8 : decode cX5_leastAgainst 8 = .ok (.iload_n 3, 1) := by decide +kernel
theorem dX5_leastAgainst_9 : decode cX5_leastAgainst 9 = .ok (.invokevirtual 75, 3) := by decide +kernel
theorem dX5_leastAgainst_12 : decode cX5_leastAgainst 12 = .ok (.aload_n 0, 1) := by decide +kernel
theorem dX5_leastAgainst_13 : decode cX5_leastAgainst 13 = .ok (.aload_n 0, 1) := by decide +kernel
theorem dX5_leastAgainst_14 : decode cX5_leastAgainst 14 = .ok (.iload_n 2, 1) := by decide +kernel
theorem dX5_leastAgainst_15 : decode cX5_leastAgainst 15 = .ok (.invokevirtual 65, 3) := by decide +kernel
theorem dX5_leastAgainst_18 : decode cX5_leastAgainst 18 = .ok (.invokevirtual 79, 3) := by decide +kernel
theorem dX5_leastAgainst_21 : decode cX5_leastAgainst 21 = .ok (.ldc2_w 83, 3) := by decide +kernel
theorem dX5_leastAgainst_24 : decode cX5_leastAgainst 24 = .ok (.lxor, 1) := by decide +kernel
theorem dX5_leastAgainst_25 : decode cX5_leastAgainst 25 = .ok (.lstore 4, 2) := by decide +kernel
theorem dX5_leastAgainst_27 : decode cX5_leastAgainst 27 = .ok (.iconst 0, 1) := by decide +kernel
theorem dX5_leastAgainst_28 : decode cX5_leastAgainst 28 = .ok (.istore 6, 2) := by decide +kernel
theorem dX5_leastAgainst_30 : decode cX5_leastAgainst 30 = .ok (.iload 6, 2) := by decide +kernel
theorem dX5_leastAgainst_32 : decode cX5_leastAgainst 32 = .ok (.aload_n 1, 1) := by decide +kernel
theorem dX5_leastAgainst_33 : decode cX5_leastAgainst 33 = .ok (.getfield 85, 3) := by decide +kernel
theorem dX5_leastAgainst_36 : decode cX5_leastAgainst 36 = .ok (.if_icmp .ge 28, 3) := by decide +kernel
theorem dX5_leastAgainst_39 : decode cX5_leastAgainst 39 = .ok (.lload 4, 2) := by decide +kernel
theorem dX5_leastAgainst_41 : decode cX5_leastAgainst 41 = .ok (.aload_n 0, 1) := by decide +kernel
theorem dX5_leastAgainst_42 : decode cX5_leastAgainst 42 = .ok (.aload_n 0, 1) := by decide +kernel
theorem dX5_leastAgainst_43 : decode cX5_leastAgainst 43 = .ok (.aload_n 1, 1) := by decide +kernel
theorem dX5_leastAgainst_44 : decode cX5_leastAgainst 44 = .ok (.iload 6, 2) := by decide +kernel
theorem dX5_leastAgainst_46 : decode cX5_leastAgainst 46 = .ok (.invokevirtual 86, 3) := by decide +kernel
theorem dX5_leastAgainst_49 : decode cX5_leastAgainst 49 = .ok (.invokevirtual 65, 3) := by decide +kernel
theorem dX5_leastAgainst_52 : decode cX5_leastAgainst 52 = .ok (.invokevirtual 79, 3) := by decide +kernel
theorem dX5_leastAgainst_55 : decode cX5_leastAgainst 55 = .ok (.land, 1) := by decide +kernel
theorem dX5_leastAgainst_56 : decode cX5_leastAgainst 56 = .ok (.lstore 4, 2) := by decide +kernel
theorem dX5_leastAgainst_58 : decode cX5_leastAgainst 58 = .ok (.iinc 6 1, 3) := by decide +kernel
theorem dX5_leastAgainst_61 : decode cX5_leastAgainst 61 = .ok (.goto (-31), 3) := by decide +kernel
theorem dX5_leastAgainst_64 : decode cX5_leastAgainst 64 = .ok (.iconst 0, 1) := by decide +kernel
theorem dX5_leastAgainst_65 : decode cX5_leastAgainst 65 = .ok (.istore 6, 2) := by decide +kernel
theorem dX5_leastAgainst_67 : decode cX5_leastAgainst 67 = .ok (.iload 6, 2) := by decide +kernel
theorem dX5_leastAgainst_69 : decode cX5_leastAgainst 69 = .ok (.bipush 64, 2) := by decide +kernel
theorem dX5_leastAgainst_71 : decode cX5_leastAgainst 71 = .ok (.if_icmp .ge 29, 3) := by decide +kernel
theorem dX5_leastAgainst_74 : decode cX5_leastAgainst 74 = .ok (.lload 4, 2) := by decide +kernel
theorem dX5_leastAgainst_76 : decode cX5_leastAgainst 76 = .ok (.iload 6, 2) := by decide +kernel
theorem dX5_leastAgainst_78 : decode cX5_leastAgainst 78 = .ok (.lushr, 1) := by decide +kernel
theorem dX5_leastAgainst_79 : decode cX5_leastAgainst 79 = .ok (.lconst 1, 1) := by decide +kernel
theorem dX5_leastAgainst_80 : decode cX5_leastAgainst 80 = .ok (.land, 1) := by decide +kernel
theorem dX5_leastAgainst_81 : decode cX5_leastAgainst 81 = .ok (.lconst 0, 1) := by decide +kernel
theorem dX5_leastAgainst_82 : decode cX5_leastAgainst 82 = .ok (.lcmp, 1) := by decide +kernel
theorem dX5_leastAgainst_83 : decode cX5_leastAgainst 83 = .ok (.ifCond .eq 11, 3) := by decide +kernel
theorem dX5_leastAgainst_86 : decode cX5_leastAgainst 86 = .ok (.iload_n 3, 1) := by decide +kernel
theorem dX5_leastAgainst_87 : decode cX5_leastAgainst 87 = .ok (.bipush 64, 2) := by decide +kernel
theorem dX5_leastAgainst_89 : decode cX5_leastAgainst 89 = .ok (.imul, 1) := by decide +kernel
theorem dX5_leastAgainst_90 : decode cX5_leastAgainst 90 = .ok (.iload 6, 2) := by decide +kernel
theorem dX5_leastAgainst_92 : decode cX5_leastAgainst 92 = .ok (.iadd, 1) := by decide +kernel
theorem dX5_leastAgainst_93 : decode cX5_leastAgainst 93 = .ok (.ireturn, 1) := by decide +kernel
theorem dX5_leastAgainst_94 : decode cX5_leastAgainst 94 = .ok (.iinc 6 1, 3) := by decide +kernel
theorem dX5_leastAgainst_97 : decode cX5_leastAgainst 97 = .ok (.goto (-30), 3) := by decide +kernel
theorem dX5_leastAgainst_100 : decode cX5_leastAgainst 100 = .ok (.iinc 3 1, 3) := by decide +kernel
theorem dX5_leastAgainst_103 : decode cX5_leastAgainst 103 = .ok (.goto (-101), 3) := by decide +kernel
theorem dX5_leastAgainst_106 : decode cX5_leastAgainst 106 = .ok (.iconst (-1), 1) := by decide +kernel
theorem dX5_leastAgainst_107 : decode cX5_leastAgainst 107 = .ok (.ireturn, 1) := by decide +kernel
theorem dX5_truthAt_0 : decode cX5_truthAt 0 = .ok (.iload_n 1, 1) := by decide +kernel
theorem dX5_truthAt_1 : decode cX5_truthAt 1 = .ok (.ifCond .lt 27, 3) := by decide +kernel
theorem dX5_truthAt_4 : decode cX5_truthAt 4 = .ok (.iload_n 1, 1) := by decide +kernel
theorem dX5_truthAt_5 : decode cX5_truthAt 5 = .ok (.aload_n 0, 1) := by decide +kernel
theorem dX5_truthAt_6 : decode cX5_truthAt 6 = .ok (.getfield 51, 3) := by decide +kernel
theorem dX5_truthAt_9 : decode cX5_truthAt 9 = .ok (.if_icmp .ge 19, 3) := by decide +kernel
theorem dX5_truthAt_12 : decode cX5_truthAt 12 = .ok (.iload_n 1, 1) := by decide +kernel
theorem dX5_truthAt_13 : decode cX5_truthAt 13 = .ok (.sipush 420, 3) := by decide +kernel
theorem dX5_truthAt_16 : decode cX5_truthAt 16 = .ok (.if_icmp .ge 12, 3) := by decide +kernel
theorem dX5_truthAt_19 : decode cX5_truthAt 19 = .ok (.aload_n 0, 1) := by decide +kernel
theorem dX5_truthAt_20 : decode cX5_truthAt 20 = .ok (.getfield 26, 3) := by decide +kernel
theorem dX5_truthAt_23 : decode cX5_truthAt 23 = .ok (.iload_n 1, 1) := by decide +kernel
theorem dX5_truthAt_24 : decode cX5_truthAt 24 = .ok (.laload, 1) := by decide +kernel
theorem dX5_truthAt_25 : decode cX5_truthAt 25 = .ok (.goto 4, 3) := by decide +kernel
theorem dX5_truthAt_28 : decode cX5_truthAt 28 = .ok (.lconst 0, 1) := by decide +kernel
theorem dX5_truthAt_29 : decode cX5_truthAt 29 = .ok (.lreturn, 1) := by decide +kernel
theorem dX5_fillTruths_0 : decode cX5_fillTruths 0 = .ok (.iconst 0, 1) := by decide +kernel
theorem dX5_fillTruths_1 : decode cX5_fillTruths 1 = .ok (.istore_n 2, 1) := by decide +kernel
theorem dX5_fillTruths_2 : decode cX5_fillTruths 2 = .ok (.iload_n 2, 1) := by decide +kernel
theorem dX5_fillTruths_3 : decode cX5_fillTruths 3 = .ok (.aload_n 0, 1) := by decide +kernel
theorem dX5_fillTruths_4 : decode cX5_fillTruths 4 = .ok (.getfield 51, 3) := by decide +kernel
theorem dX5_fillTruths_7 : decode cX5_fillTruths 7 = .ok (.if_icmp .ge 28, 3) := by decide +kernel
theorem dX5_fillTruths_10 : decode cX5_fillTruths 10 = .ok (.iload_n 2, 1) := by decide +kernel
theorem dX5_fillTruths_11 : decode cX5_fillTruths 11 = .ok (.sipush 420, 3) := by decide +kernel
theorem dX5_fillTruths_14 : decode cX5_fillTruths 14 = .ok (.if_icmp .ge 21, 3) := by decide +kernel
theorem dX5_fillTruths_17 : decode cX5_fillTruths 17 = .ok (.aload_n 0, 1) := by decide +kernel
theorem dX5_fillTruths_18 : decode cX5_fillTruths 18 = .ok (.getfield 26, 3) := by decide +kernel
theorem dX5_fillTruths_21 : decode cX5_fillTruths 21 = .ok (.iload_n 2, 1) := by decide +kernel
theorem dX5_fillTruths_22 : decode cX5_fillTruths 22 = .ok (.aload_n 0, 1) := by decide +kernel
theorem dX5_fillTruths_23 : decode cX5_fillTruths 23 = .ok (.iload_n 2, 1) := by decide +kernel
theorem dX5_fillTruths_24 : decode cX5_fillTruths 24 = .ok (.iload_n 1, 1) := by decide +kernel
theorem dX5_fillTruths_25 : decode cX5_fillTruths 25 = .ok (.invokevirtual 89, 3) := by decide +kernel
theorem dX5_fillTruths_28 : decode cX5_fillTruths 28 = .ok (.lastore, 1) := by decide +kernel
theorem dX5_fillTruths_29 : decode cX5_fillTruths 29 = .ok (.iinc 2 1, 3) := by decide +kernel
theorem dX5_fillTruths_32 : decode cX5_fillTruths 32 = .ok (.goto (-30), 3) := by decide +kernel
theorem dX5_fillTruths_35 : decode cX5_fillTruths 35 = .ok (.return_, 1) := by decide +kernel
theorem dX5_truthOf_0 : decode cX5_truthOf 0 = .ok (.aload_n 0, 1) := by decide +kernel
theorem dX5_truthOf_1 : decode cX5_truthOf 1 = .ok (.iload_n 1, 1) := by decide +kernel
theorem dX5_truthOf_2 : decode cX5_truthOf 2 = .ok (.invokevirtual 93, 3) := by decide +kernel
theorem dX5_truthOf_5 : decode cX5_truthOf 5 = .ok (.istore_n 3, 1) := by decide +kernel
theorem dX5_truthOf_6 : decode cX5_truthOf 6 = .ok (.iload_n 3, 1) := by decide +kernel
theorem dX5_truthOf_7 : decode cX5_truthOf 7 = .ok (.tableswitch 95 8 11 #[29, 31, 55, 75], 29) := by decide +kernel
theorem dX5_truthOf_36 : decode cX5_truthOf 36 = .ok (.lconst 0, 1) := by decide +kernel
theorem dX5_truthOf_37 : decode cX5_truthOf 37 = .ok (.lreturn, 1) := by decide +kernel
theorem dX5_truthOf_38 : decode cX5_truthOf 38 = .ok (.aload_n 0, 1) := by decide +kernel
theorem dX5_truthOf_39 : decode cX5_truthOf 39 = .ok (.aload_n 0, 1) := by decide +kernel
theorem dX5_truthOf_40 : decode cX5_truthOf 40 = .ok (.iload_n 1, 1) := by decide +kernel
theorem dX5_truthOf_41 : decode cX5_truthOf 41 = .ok (.invokevirtual 96, 3) := by decide +kernel
theorem dX5_truthOf_44 : decode cX5_truthOf 44 = .ok (.invokevirtual 79, 3) := by decide +kernel
theorem dX5_truthOf_47 : decode cX5_truthOf 47 = .ok (.ldc2_w 83, 3) := by decide +kernel
theorem dX5_truthOf_50 : decode cX5_truthOf 50 = .ok (.lxor, 1) := by decide +kernel
theorem dX5_truthOf_51 : decode cX5_truthOf 51 = .ok (.aload_n 0, 1) := by decide +kernel
theorem dX5_truthOf_52 : decode cX5_truthOf 52 = .ok (.aload_n 0, 1) := by decide +kernel
theorem dX5_truthOf_53 : decode cX5_truthOf 53 = .ok (.iload_n 1, 1) := by decide +kernel
theorem dX5_truthOf_54 : decode cX5_truthOf 54 = .ok (.invokevirtual 99, 3) := by decide +kernel
theorem dX5_truthOf_57 : decode cX5_truthOf 57 = .ok (.invokevirtual 79, 3) := by decide +kernel
theorem dX5_truthOf_60 : decode cX5_truthOf 60 = .ok (.lor, 1) := by decide +kernel
theorem dX5_truthOf_61 : decode cX5_truthOf 61 = .ok (.lreturn, 1) := by decide +kernel
theorem dX5_truthOf_62 : decode cX5_truthOf 62 = .ok (.aload_n 0, 1) := by decide +kernel
theorem dX5_truthOf_63 : decode cX5_truthOf 63 = .ok (.aload_n 0, 1) := by decide +kernel
theorem dX5_truthOf_64 : decode cX5_truthOf 64 = .ok (.iload_n 1, 1) := by decide +kernel
theorem dX5_truthOf_65 : decode cX5_truthOf 65 = .ok (.invokevirtual 96, 3) := by decide +kernel
theorem dX5_truthOf_68 : decode cX5_truthOf 68 = .ok (.invokevirtual 79, 3) := by decide +kernel
theorem dX5_truthOf_71 : decode cX5_truthOf 71 = .ok (.aload_n 0, 1) := by decide +kernel
theorem dX5_truthOf_72 : decode cX5_truthOf 72 = .ok (.aload_n 0, 1) := by decide +kernel
theorem dX5_truthOf_73 : decode cX5_truthOf 73 = .ok (.iload_n 1, 1) := by decide +kernel
theorem dX5_truthOf_74 : decode cX5_truthOf 74 = .ok (.invokevirtual 99, 3) := by decide +kernel
theorem dX5_truthOf_77 : decode cX5_truthOf 77 = .ok (.invokevirtual 79, 3) := by decide +kernel
theorem dX5_truthOf_80 : decode cX5_truthOf 80 = .ok (.land, 1) := by decide +kernel
theorem dX5_truthOf_81 : decode cX5_truthOf 81 = .ok (.lreturn, 1) := by decide +kernel
theorem dX5_truthOf_82 : decode cX5_truthOf 82 = .ok (.aload_n 0, 1) := by decide +kernel
theorem dX5_truthOf_83 : decode cX5_truthOf 83 = .ok (.aload_n 0, 1) := by decide +kernel
theorem dX5_truthOf_84 : decode cX5_truthOf 84 = .ok (.iload_n 1, 1) := by decide +kernel
theorem dX5_truthOf_85 : decode cX5_truthOf 85 = .ok (.invokevirtual 96, 3) := by decide +kernel
theorem dX5_truthOf_88 : decode cX5_truthOf 88 = .ok (.invokevirtual 79, 3) := by decide +kernel
theorem dX5_truthOf_91 : decode cX5_truthOf 91 = .ok (.aload_n 0, 1) := by decide +kernel
theorem dX5_truthOf_92 : decode cX5_truthOf 92 = .ok (.aload_n 0, 1) := by decide +kernel
theorem dX5_truthOf_93 : decode cX5_truthOf 93 = .ok (.iload_n 1, 1) := by decide +kernel
theorem dX5_truthOf_94 : decode cX5_truthOf 94 = .ok (.invokevirtual 99, 3) := by decide +kernel
theorem dX5_truthOf_97 : decode cX5_truthOf 97 = .ok (.invokevirtual 79, 3) := by decide +kernel
theorem dX5_truthOf_100 : decode cX5_truthOf 100 = .ok (.lor, 1) := by decide +kernel
theorem dX5_truthOf_101 : decode cX5_truthOf 101 = .ok (.lreturn, 1) := by decide +kernel
theorem dX5_truthOf_102 : decode cX5_truthOf 102 = .ok (.iload_n 3, 1) := by decide +kernel
theorem dX5_truthOf_103 : decode cX5_truthOf 103 = .ok (.ifCond .lt 15, 3) := by decide +kernel
theorem dX5_truthOf_106 : decode cX5_truthOf 106 = .ok (.iload_n 3, 1) := by decide +kernel
theorem dX5_truthOf_107 : decode cX5_truthOf 107 = .ok (.bipush 6, 2) := by decide +kernel
theorem dX5_truthOf_109 : decode cX5_truthOf 109 = .ok (.if_icmp .ge 9, 3) := by decide +kernel
theorem dX5_truthOf_112 : decode cX5_truthOf 112 = .ok (.getstatic 102, 3) := by decide +kernel
theorem dX5_truthOf_115 : decode cX5_truthOf 115 = .ok (.iload_n 3, 1) := by decide +kernel
theorem dX5_truthOf_116 : decode cX5_truthOf 116 = .ok (.laload, 1) := by decide +kernel
theorem dX5_truthOf_117 : decode cX5_truthOf 117 = .ok (.lreturn, 1) := by decide +kernel
theorem dX5_truthOf_118 : decode cX5_truthOf 118 = .ok (.iload_n 2, 1) := by decide +kernel
theorem dX5_truthOf_119 : decode cX5_truthOf 119 = .ok (.iload_n 3, 1) := by decide +kernel
theorem dX5_truthOf_120 : decode cX5_truthOf 120 = .ok (.bipush 6, 2) := by decide +kernel
theorem dX5_truthOf_122 : decode cX5_truthOf 122 = .ok (.isub, 1) := by decide +kernel
theorem dX5_truthOf_123 : decode cX5_truthOf 123 = .ok (.ishr, 1) := by decide +kernel
theorem dX5_truthOf_124 : decode cX5_truthOf 124 = .ok (.iconst 1, 1) := by decide +kernel
theorem dX5_truthOf_125 : decode cX5_truthOf 125 = .ok (.iand, 1) := by decide +kernel
theorem dX5_truthOf_126 : decode cX5_truthOf 126 = .ok (.ifCond .eq 9, 3) := by decide +kernel
theorem dX5_truthOf_129 : decode cX5_truthOf 129 = .ok (.ldc2_w 83, 3) := by decide +kernel
theorem dX5_truthOf_132 : decode cX5_truthOf 132 = .ok (.goto 4, 3) := by decide +kernel
theorem dX5_truthOf_135 : decode cX5_truthOf 135 = .ok (.lconst 0, 1) := by decide +kernel
theorem dX5_truthOf_136 : decode cX5_truthOf 136 = .ok (.lreturn, 1) := by decide +kernel
