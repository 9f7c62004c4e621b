theorem dX8_init_0 : decode cX8_init 0 = .ok (.aload_n 0, 1) := by decide +kernel
theorem dX8_init_1 : decode cX8_init 1 = .ok (.invokespecial 1, 3) := by decide +kernel
theorem dX8_init_4 : decode cX8_init 4 = .ok (.aload_n 0, 1) := by decide +kernel
theorem dX8_init_5 : decode cX8_init 5 = .ok (.ldc 7, 2) := by decide +kernel
theorem dX8_init_7 : decode cX8_init 7 = .ok (.newarray .int, 2) := by decide +kernel
theorem dX8_init_9 : decode cX8_init 9 = .ok (.putfield 8, 3) := by decide +kernel
theorem dX8_init_12 : decode cX8_init 12 = .ok (.aload_n 0, 1) := by decide +kernel
theorem dX8_init_13 : decode cX8_init 13 = .ok (.iconst 3, 1) := by decide +kernel
theorem dX8_init_14 : decode cX8_init 14 = .ok (.newarray .boolean, 2) := by decide +kernel
theorem dX8_init_16 : decode cX8_init 16 = .ok (.putfield 14, 3) := by decide +kernel
theorem dX8_init_19 : decode cX8_init 19 = .ok (.aload_n 0, 1) := by decide +kernel
theorem dX8_init_20 : decode cX8_init 20 = .ok (.sipush 610, 3) := by decide +kernel
theorem dX8_init_23 : decode cX8_init 23 = .ok (.newarray .int, 2) := by decide +kernel
theorem dX8_init_25 : decode cX8_init 25 = .ok (.putfield 18, 3) := by decide +kernel
theorem dX8_init_28 : decode cX8_init 28 = .ok (.aload_n 0, 1) := by decide +kernel
theorem dX8_init_29 : decode cX8_init 29 = .ok (.sipush 610, 3) := by decide +kernel
theorem dX8_init_32 : decode cX8_init 32 = .ok (.newarray .int, 2) := by decide +kernel
theorem dX8_init_34 : decode cX8_init 34 = .ok (.putfield 21, 3) := by decide +kernel
theorem dX8_init_37 : decode cX8_init 37 = .ok (.aload_n 0, 1) := by decide +kernel
theorem dX8_init_38 : decode cX8_init 38 = .ok (.bipush 61, 2) := by decide +kernel
theorem dX8_init_40 : decode cX8_init 40 = .ok (.newarray .boolean, 2) := by decide +kernel
theorem dX8_init_42 : decode cX8_init 42 = .ok (.putfield 24, 3) := by decide +kernel
theorem dX8_init_45 : decode cX8_init 45 = .ok (.aload_n 0, 1) := by decide +kernel
theorem dX8_init_46 : decode cX8_init 46 = .ok (.sipush 4096, 3) := by decide +kernel
theorem dX8_init_49 : decode cX8_init 49 = .ok (.newarray .int, 2) := by decide +kernel
theorem dX8_init_51 : decode cX8_init 51 = .ok (.putfield 27, 3) := by decide +kernel
theorem dX8_init_54 : decode cX8_init 54 = .ok (.aload_n 0, 1) := by decide +kernel
theorem dX8_init_55 : decode cX8_init 55 = .ok (.sipush 4096, 3) := by decide +kernel
theorem dX8_init_58 : decode cX8_init 58 = .ok (.newarray .long, 2) := by decide +kernel
theorem dX8_init_60 : decode cX8_init 60 = .ok (.putfield 30, 3) := by decide +kernel
theorem dX8_init_63 : decode cX8_init 63 = .ok (.aload_n 0, 1) := by decide +kernel
theorem dX8_init_64 : decode cX8_init 64 = .ok (.sipush 4096, 3) := by decide +kernel
theorem dX8_init_67 : decode cX8_init 67 = .ok (.newarray .long, 2) := by decide +kernel
theorem dX8_init_69 : decode cX8_init 69 = .ok (.putfield 34, 3) := by decide +kernel
theorem dX8_init_72 : decode cX8_init 72 = .ok (.aload_n 0, 1) := by decide +kernel
theorem dX8_init_73 : decode cX8_init 73 = .ok (.sipush 4096, 3) := by decide +kernel
theorem dX8_init_76 : decode cX8_init 76 = .ok (.newarray .int, 2) := by decide +kernel
theorem dX8_init_78 : decode cX8_init 78 = .ok (.putfield 37, 3) := by decide +kernel
theorem dX8_init_81 : decode cX8_init 81 = .ok (.aload_n 0, 1) := by decide +kernel
theorem dX8_init_82 : decode cX8_init 82 = .ok (.getfield 8, 3) := by decide +kernel
theorem dX8_init_85 : decode cX8_init 85 = .ok (.iconst 2, 1) := by decide +kernel
theorem dX8_init_86 : decode cX8_init 86 = .ok (.iconst 1, 1) := by decide +kernel
theorem dX8_init_87 : decode cX8_init 87 = .ok (.iastore, 1) := by decide +kernel
theorem dX8_init_88 : decode cX8_init 88 = .ok (.iconst 0, 1) := by decide +kernel
theorem dX8_init_89 : decode cX8_init 89 = .ok (.istore_n 1, 1) := by decide +kernel
theorem dX8_init_90 : decode cX8_init 90 = .ok (.iload_n 1, 1) := by decide +kernel
theorem dX8_init_91 : decode cX8_init 91 = .ok (.iconst 4, 1) := by decide +kernel
theorem dX8_init_92 : decode cX8_init 92 = .ok (.if_icmp .ge 34, 3) := by decide +kernel
theorem dX8_init_95 : decode cX8_init 95 = .ok (.aload_n 0, 1) := by decide +kernel
theorem dX8_init_96 : decode cX8_init 96 = .ok (.getfield 8, 3) := by decide +kernel
theorem dX8_init_99 : decode cX8_init 99 = .ok (.bipush 6, 2) := by decide +kernel
theorem dX8_init_101 : decode cX8_init 101 = .ok (.iload_n 1, 1) := by decide +kernel
theorem dX8_init_102 : decode cX8_init 102 = .ok (.iadd, 1) := by decide +kernel
theorem dX8_init_103 : decode cX8_init 103 = .ok (.iload_n 1, 1) := by decide +kernel
theorem dX8_init_104 : decode cX8_init 104 = .ok (.iastore, 1) := by decide +kernel
theorem dX8_init_105 : decode cX8_init 105 = .ok (.aload_n 0, 1) := by decide +kernel
theorem dX8_init_106 : decode cX8_init 106 = .ok (.getfield 8, 3) := by decide +kernel
theorem dX8_init_109 : decode cX8_init 109 = .ok (.sipush 1130, 3) := by decide +kernel
theorem dX8_init_112 : decode cX8_init 112 = .ok (.sipush 4096, 3) := by decide +kernel
theorem dX8_init_115 : decode cX8_init 115 = .ok (.iload_n 1, 1) := by decide +kernel
theorem dX8_init_116 : decode cX8_init 116 = .ok (.imul, 1) := by decide +kernel
theorem dX8_init_117 : decode cX8_init 117 = .ok (.iadd, 1) := by decide +kernel
theorem dX8_init_118 : decode cX8_init 118 = .ok (.iconst 1, 1) := by decide +kernel
theorem dX8_init_119 : decode cX8_init 119 = .ok (.iastore, 1) := by decide +kernel
theorem dX8_init_120 : decode cX8_init 120 = .ok (.iinc 1 1, 3) := by decide +kernel
theorem dX8_init_123 : decode cX8_init 123 = .ok (.goto (-33), 3) := by decide +kernel
theorem dX8_init_126 : decode cX8_init 126 = .ok (.return_, 1) := by decide +kernel
theorem dX8_isIn_0 : decode cX8_isIn 0 = .ok (.iload_n 0, 1) := by decide +kernel
theorem dX8_isIn_1 : decode cX8_isIn 1 = .ok (.iload_n 1, 1) := by decide +kernel
theorem dX8_isIn_2 : decode cX8_isIn 2 = .ok (.if_icmp .lt 12, 3) := by decide +kernel
theorem dX8_isIn_5 : decode cX8_isIn 5 = .ok (.iload_n 0, 1) := by decide +kernel
theorem dX8_isIn_6 : decode cX8_isIn 6 = .ok (.iload_n 2, 1) := by decide +kernel
theorem dX8_isIn_7 : decode cX8_isIn 7 = .ok (.if_icmp .gt 7, 3) := by decide +kernel
theorem dX8_isIn_10 : decode cX8_isIn 10 = .ok (.iconst 1, 1) := by decide +kernel
theorem dX8_isIn_11 : decode cX8_isIn 11 = .ok (.goto 4, 3) := by decide +kernel
theorem dX8_isIn_14 : decode cX8_isIn 14 = .ok (.iconst 0, 1) := by decide +kernel
theorem dX8_isIn_15 : decode cX8_isIn 15 = .ok (.ireturn, 1) := by decide +kernel
theorem dX8_isAsker_0 : decode cX8_isAsker 0 = .ok (.iload_n 0, 1) := by decide +kernel
theorem dX8_isAsker_1 : decode cX8_isAsker 1 = .ok (.iconst 0, 1) := by decide +kernel
theorem dX8_isAsker_2 : decode cX8_isAsker 2 = .ok (.iconst 3, 1) := by decide +kernel
theorem dX8_isAsker_3 : decode cX8_isAsker 3 = .ok (.invokestatic 40, 3) := by decide +kernel
theorem dX8_isAsker_6 : decode cX8_isAsker 6 = .ok (.ireturn, 1) := by decide +kernel
theorem dX8_isPerson_0 : decode cX8_isPerson 0 = .ok (.iload_n 1, 1) := by decide +kernel
theorem dX8_isPerson_1 : decode cX8_isPerson 1 = .ok (.iconst 0, 1) := by decide +kernel
theorem dX8_isPerson_2 : decode cX8_isPerson 2 = .ok (.aload_n 0, 1) := by decide +kernel
theorem dX8_isPerson_3 : decode cX8_isPerson 3 = .ok (.getfield 8, 3) := by decide +kernel
theorem dX8_isPerson_6 : decode cX8_isPerson 6 = .ok (.iconst 0, 1) := by decide +kernel
theorem dX8_isPerson_7 : decode cX8_isPerson 7 = .ok (.iaload, 1) := by decide +kernel
theorem dX8_isPerson_8 : decode cX8_isPerson 8 = .ok (.iconst 1, 1) := by decide +kernel
theorem dX8_isPerson_9 : decode cX8_isPerson 9 = .ok (.isub, 1) := by decide +kernel
theorem dX8_isPerson_10 : decode cX8_isPerson 10 = .ok (.invokestatic 40, 3) := by decide +kernel
theorem dX8_isPerson_13 : decode cX8_isPerson 13 = .ok (.ireturn, 1) := by decide +kernel
theorem dX8_isNumber_0 : decode cX8_isNumber 0 = .ok (.iload_n 1, 1) := by decide +kernel
theorem dX8_isNumber_1 : decode cX8_isNumber 1 = .ok (.iconst 0, 1) := by decide +kernel
theorem dX8_isNumber_2 : decode cX8_isNumber 2 = .ok (.aload_n 0, 1) := by decide +kernel
theorem dX8_isNumber_3 : decode cX8_isNumber 3 = .ok (.getfield 8, 3) := by decide +kernel
theorem dX8_isNumber_6 : decode cX8_isNumber 6 = .ok (.iconst 1, 1) := by decide +kernel
theorem dX8_isNumber_7 : decode cX8_isNumber 7 = .ok (.iaload, 1) := by decide +kernel
theorem dX8_isNumber_8 : decode cX8_isNumber 8 = .ok (.iconst 1, 1) := by decide +kernel
theorem dX8_isNumber_9 : decode cX8_isNumber 9 = .ok (.isub, 1) := by decide +kernel
theorem dX8_isNumber_10 : decode cX8_isNumber 10 = .ok (.invokestatic 40, 3) := by decide +kernel
theorem dX8_isNumber_13 : decode cX8_isNumber 13 = .ok (.ireturn, 1) := by decide +kernel
theorem dX8_of_0 : decode cX8_of 0 = .ok (.aload_n 0, 1) := by decide +kernel
theorem dX8_of_1 : decode cX8_of 1 = .ok (.getfield 8, 3) := by decide +kernel
theorem dX8_of_4 : decode cX8_of 4 = .ok (.bipush 20, 2) := by decide +kernel
theorem dX8_of_6 : decode cX8_of 6 = .ok (.bipush 8, 2) := by decide +kernel
theorem dX8_of_8 : decode cX8_of 8 = .ok (.iload_n 1, 1) := by decide +kernel
theorem dX8_of_9 : decode cX8_of 9 = .ok (.imul, 1) := by decide +kernel
theorem dX8_of_10 : decode cX8_of 10 = .ok (.iadd, 1) := by decide +kernel
theorem dX8_of_11 : decode cX8_of 11 = .ok (.iload_n 2, 1) := by decide +kernel
theorem dX8_of_12 : decode cX8_of 12 = .ok (.iadd, 1) := by decide +kernel
theorem dX8_of_13 : decode cX8_of 13 = .ok (.iaload, 1) := by decide +kernel
theorem dX8_of_14 : decode cX8_of 14 = .ok (.ireturn, 1) := by decide +kernel
theorem dX8_many_0 : decode cX8_many 0 = .ok (.aload_n 0, 1) := by decide +kernel
theorem dX8_many_1 : decode cX8_many 1 = .ok (.iload_n 1, 1) := by decide +kernel
theorem dX8_many_2 : decode cX8_many 2 = .ok (.iconst 2, 1) := by decide +kernel
theorem dX8_many_3 : decode cX8_many 3 = .ok (.invokevirtual 44, 3) := by decide +kernel
theorem dX8_many_6 : decode cX8_many 6 = .ok (.aload_n 0, 1) := by decide +kernel
theorem dX8_many_7 : decode cX8_many 7 = .ok (.iload_n 1, 1) := by decide +kernel
theorem dX8_many_8 : decode cX8_many 8 = .ok (.iconst 1, 1) := by decide +kernel
theorem dX8_many_9 : decode cX8_many 9 = .ok (.invokevirtual 44, 3) := by decide +kernel
theorem dX8_many_12 : decode cX8_many 12 = .ok (.isub, 1) := by decide +kernel
theorem dX8_many_13 : decode cX8_many 13 = .ok (.iconst 1, 1) := by decide +kernel
theorem dX8_many_14 : decode cX8_many 14 = .ok (.iadd, 1) := by decide +kernel
theorem dX8_many_15 : decode cX8_many 15 = .ok (.ireturn, 1) := by decide +kernel
theorem dX8_valueIn_0 : decode cX8_valueIn 0 = .ok (.aload_n 0, 1) := by decide +kernel
theorem dX8_valueIn_1 : decode cX8_valueIn 1 = .ok (.iload_n 2, 1) := by decide +kernel
theorem dX8_valueIn_2 : decode cX8_valueIn 2 = .ok (.iconst 1, 1) := by decide +kernel
theorem dX8_valueIn_3 : decode cX8_valueIn 3 = .ok (.invokevirtual 44, 3) := by decide +kernel
theorem dX8_valueIn_6 : decode cX8_valueIn 6 = .ok (.iload_n 1, 1) := by decide +kernel
theorem dX8_valueIn_7 : decode cX8_valueIn 7 = .ok (.aload_n 0, 1) := by decide +kernel
theorem dX8_valueIn_8 : decode cX8_valueIn 8 = .ok (.iload_n 2, 1) := by decide +kernel
theorem dX8_valueIn_9 : decode cX8_valueIn 9 = .ok (.iconst 5, 1) := by decide +kernel
theorem dX8_valueIn_10 : decode cX8_valueIn 10 = .ok (.invokevirtual 44, 3) := by decide +kernel
theorem dX8_valueIn_13 : decode cX8_valueIn 13 = .ok (.idiv, 1) := by decide +kernel
theorem dX8_valueIn_14 : decode cX8_valueIn 14 = .ok (.aload_n 0, 1) := by decide +kernel
theorem dX8_valueIn_15 : decode cX8_valueIn 15 = .ok (.iload_n 2, 1) := by decide +kernel
theorem dX8_valueIn_16 : decode cX8_valueIn 16 = .ok (.invokevirtual 48, 3) := by decide +kernel
theorem dX8_valueIn_19 : decode cX8_valueIn 19 = .ok (.irem, 1) := by decide +kernel
theorem dX8_valueIn_20 : decode cX8_valueIn 20 = .ok (.iadd, 1) := by decide +kernel
theorem dX8_valueIn_21 : decode cX8_valueIn 21 = .ok (.ireturn, 1) := by decide +kernel
theorem dX8_mayCome_0 : decode cX8_mayCome 0 = .ok (.iload_n 2, 1) := by decide +kernel
theorem dX8_mayCome_1 : decode cX8_mayCome 1 = .ok (.istore_n 3, 1) := by decide +kernel
theorem dX8_mayCome_2 : decode cX8_mayCome 2 = .ok (.iconst 0, 1) := by decide +kernel
theorem dX8_mayCome_3 : decode cX8_mayCome 3 = .ok (.istore 4, 2) := by decide +kernel
theorem dX8_mayCome_5 : decode cX8_mayCome 5 = .ok (.iload 4, 2) := by decide +kernel
theorem dX8_mayCome_7 : decode cX8_mayCome 7 = .ok (.aload_n 0, 1) := by decide +kernel
theorem dX8_mayCome_8 : decode cX8_mayCome 8 = .ok (.getfield 8, 3) := by decide +kernel
theorem dX8_mayCome_11 : decode cX8_mayCome 11 = .ok (.iconst 1, 1) := by decide +kernel
theorem dX8_mayCome_12 : decode cX8_mayCome 12 = .ok (.iaload, 1) := by decide +kernel
theorem dX8_mayCome_13 : decode cX8_mayCome 13 = .ok (.if_icmp .ge 19, 3) := by decide +kernel
theorem dX8_mayCome_16 : decode cX8_mayCome 16 = .ok (.iload_n 3, 1) := by decide +kernel
theorem dX8_mayCome_17 : decode cX8_mayCome 17 = .ok (.aload_n 0, 1) := by decide +kernel
theorem dX8_mayCome_18 : decode cX8_mayCome 18 = .ok (.iload 4, 2) := by decide +kernel
theorem dX8_mayCome_20 : decode cX8_mayCome 20 = .ok (.iconst 2, 1) := by decide +kernel
theorem dX8_mayCome_21 : decode cX8_mayCome 21 = .ok (.invokevirtual 44, 3) := by decide +kernel
theorem dX8_mayCome_24 : decode cX8_mayCome 24 = .ok (.iadd, 1) := by decide +kernel
theorem dX8_mayCome_25 : decode cX8_mayCome 25 = .ok (.istore_n 3, 1) := by decide +kernel
theorem dX8_mayCome_26 : decode cX8_mayCome 26 = .ok (.iinc 4 1, 3) := by decide +kernel
theorem dX8_mayCome_29 : decode cX8_mayCome 29 = .ok (.goto (-24), 3) := by decide +kernel
theorem dX8_mayCome_32 : decode cX8_mayCome 32 = .ok (.aload_n 0, 1) := by decide +kernel
theorem dX8_mayCome_33 : decode cX8_mayCome 33 = .ok (.getfield 8, 3) := by decide +kernel
theorem dX8_mayCome_36 : decode cX8_mayCome 36 = .ok (.iconst 1, 1) := by decide +kernel
theorem dX8_mayCome_37 : decode cX8_mayCome 37 = .ok (.iaload, 1) := by decide +kernel
theorem dX8_mayCome_38 : decode cX8_mayCome 38 = .ok (.bipush 10, 2) := by decide +kernel
theorem dX8_mayCome_40 : decode cX8_mayCome 40 = .ok (.if_icmp .ge 31, 3) := by decide +kernel
theorem dX8_mayCome_43 : decode cX8_mayCome 43 = .ok (.aload_n 0, 1) := by decide +kernel
theorem dX8_mayCome_44 : decode cX8_mayCome 44 = .ok (.getfield 8, 3) := by decide +kernel
theorem dX8_mayCome_47 : decode cX8_mayCome 47 = .ok (.iconst 2, 1) := by decide +kernel
theorem dX8_mayCome_48 : decode cX8_mayCome 48 = .ok (.iaload, 1) := by decide +kernel
theorem dX8_mayCome_49 : decode cX8_mayCome 49 = .ok (.iload_n 2, 1) := by decide +kernel
theorem dX8_mayCome_50 : decode cX8_mayCome 50 = .ok (.iload_n 1, 1) := by decide +kernel
theorem dX8_mayCome_51 : decode cX8_mayCome 51 = .ok (.isub, 1) := by decide +kernel
theorem dX8_mayCome_52 : decode cX8_mayCome 52 = .ok (.iconst 1, 1) := by decide +kernel
theorem dX8_mayCome_53 : decode cX8_mayCome 53 = .ok (.iadd, 1) := by decide +kernel
theorem dX8_mayCome_54 : decode cX8_mayCome 54 = .ok (.imul, 1) := by decide +kernel
theorem dX8_mayCome_55 : decode cX8_mayCome 55 = .ok (.sipush 4096, 3) := by decide +kernel
theorem dX8_mayCome_58 : decode cX8_mayCome 58 = .ok (.if_icmp .gt 13, 3) := by decide +kernel
theorem dX8_mayCome_61 : decode cX8_mayCome 61 = .ok (.iload_n 3, 1) := by decide +kernel
theorem dX8_mayCome_62 : decode cX8_mayCome 62 = .ok (.bipush 60, 2) := by decide +kernel
theorem dX8_mayCome_64 : decode cX8_mayCome 64 = .ok (.if_icmp .gt 7, 3) := by decide +kernel
theorem dX8_mayCome_67 : decode cX8_mayCome 67 = .ok (.iconst 1, 1) := by decide +kernel
theorem dX8_mayCome_68 : decode cX8_mayCome 68 = .ok (.goto 4, 3) := by decide +kernel
theorem dX8_mayCome_71 : decode cX8_mayCome 71 = .ok (.iconst 0, 1) := by decide +kernel
theorem dX8_mayCome_72 : decode cX8_mayCome 72 = .ok (.ireturn, 1) := by decide +kernel
theorem dX8_comes_0 : decode cX8_comes 0 = .ok (.aload_n 0, 1) := by decide +kernel
theorem dX8_comes_1 : decode cX8_comes 1 = .ok (.getfield 8, 3) := by decide +kernel
theorem dX8_comes_4 : decode cX8_comes 4 = .ok (.iconst 1, 1) := by decide +kernel
theorem dX8_comes_5 : decode cX8_comes 5 = .ok (.iaload, 1) := by decide +kernel
theorem dX8_comes_6 : decode cX8_comes 6 = .ok (.istore 6, 2) := by decide +kernel
theorem dX8_comes_8 : decode cX8_comes 8 = .ok (.bipush 20, 2) := by decide +kernel
theorem dX8_comes_10 : decode cX8_comes 10 = .ok (.bipush 8, 2) := by decide +kernel
theorem dX8_comes_12 : decode cX8_comes 12 = .ok (.iload 6, 2) := by decide +kernel
theorem dX8_comes_14 : decode cX8_comes 14 = .ok (.imul, 1) := by decide +kernel
theorem dX8_comes_15 : decode cX8_comes 15 = .ok (.iadd, 1) := by decide +kernel
theorem dX8_comes_16 : decode cX8_comes 16 = .ok (.istore 7, 2) := by decide +kernel
theorem dX8_comes_18 : decode cX8_comes 18 = .ok (.aload_n 0, 1) := by decide +kernel
theorem dX8_comes_19 : decode cX8_comes 19 = .ok (.getfield 8, 3) := by decide +kernel
theorem dX8_comes_22 : decode cX8_comes 22 = .ok (.iconst 2, 1) := by decide +kernel
theorem dX8_comes_23 : decode cX8_comes 23 = .ok (.iaload, 1) := by decide +kernel
theorem dX8_comes_24 : decode cX8_comes 24 = .ok (.istore 8, 2) := by decide +kernel
theorem dX8_comes_26 : decode cX8_comes 26 = .ok (.aload_n 0, 1) := by decide +kernel
theorem dX8_comes_27 : decode cX8_comes 27 = .ok (.getfield 8, 3) := by decide +kernel
theorem dX8_comes_30 : decode cX8_comes 30 = .ok (.iload 7, 2) := by decide +kernel
theorem dX8_comes_32 : decode cX8_comes 32 = .ok (.iload_n 1, 1) := by decide +kernel
theorem dX8_comes_33 : decode cX8_comes 33 = .ok (.iastore, 1) := by decide +kernel
theorem dX8_comes_34 : decode cX8_comes 34 = .ok (.aload_n 0, 1) := by decide +kernel
theorem dX8_comes_35 : decode cX8_comes 35 = .ok (.getfield 8, 3) := by decide +kernel
theorem dX8_comes_38 : decode cX8_comes 38 = .ok (.iload 7, 2) := by decide +kernel
theorem dX8_comes_40 : decode cX8_comes 40 = .ok (.iconst 1, 1) := by decide +kernel
theorem dX8_comes_41 : decode cX8_comes 41 = .ok (.iadd, 1) := by decide +kernel
theorem dX8_comes_42 : decode cX8_comes 42 = .ok (.iload_n 3, 1) := by decide +kernel
theorem dX8_comes_43 : decode cX8_comes 43 = .ok (.iastore, 1) := by decide +kernel
theorem dX8_comes_44 : decode cX8_comes 44 = .ok (.aload_n 0, 1) := by decide +kernel
theorem dX8_comes_45 : decode cX8_comes 45 = .ok (.getfield 8, 3) := by decide +kernel
theorem dX8_comes_48 : decode cX8_comes 48 = .ok (.iload 7, 2) := by decide +kernel
theorem dX8_comes_50 : decode cX8_comes 50 = .ok (.iconst 2, 1) := by decide +kernel
theorem dX8_comes_51 : decode cX8_comes 51 = .ok (.iadd, 1) := by decide +kernel
theorem dX8_comes_52 : decode cX8_comes 52 = .ok (.iload 4, 2) := by decide +kernel
theorem dX8_comes_54 : decode cX8_comes 54 = .ok (.iastore, 1) := by decide +kernel
theorem dX8_comes_55 : decode cX8_comes 55 = .ok (.aload_n 0, 1) := by decide +kernel
theorem dX8_comes_56 : decode cX8_comes 56 = .ok (.getfield 8, 3) := by decide +kernel
theorem dX8_comes_59 : decode cX8_comes 59 = .ok (.iload 7, 2) := by decide +kernel
theorem dX8_comes_61 : decode cX8_comes 61 = .ok (.iconst 3, 1) := by decide +kernel
theorem dX8_comes_62 : decode cX8_comes 62 = .ok (.iadd, 1) := by decide +kernel
theorem dX8_comes_63 : decode cX8_comes 63 = .ok (.iload 5, 2) := by decide +kernel
theorem dX8_comes_65 : decode cX8_comes 65 = .ok (.iastore, 1) := by decide +kernel
theorem dX8_comes_66 : decode cX8_comes 66 = .ok (.aload_n 0, 1) := by decide +kernel
theorem dX8_comes_67 : decode cX8_comes 67 = .ok (.getfield 8, 3) := by decide +kernel
theorem dX8_comes_70 : decode cX8_comes 70 = .ok (.iload 7, 2) := by decide +kernel
theorem dX8_comes_72 : decode cX8_comes 72 = .ok (.iconst 4, 1) := by decide +kernel
theorem dX8_comes_73 : decode cX8_comes 73 = .ok (.iadd, 1) := by decide +kernel
theorem dX8_comes_74 : decode cX8_comes 74 = .ok (.iload_n 2, 1) := by decide +kernel
theorem dX8_comes_75 : decode cX8_comes 75 = .ok (.iastore, 1) := by decide +kernel
theorem dX8_comes_76 : decode cX8_comes 76 = .ok (.aload_n 0, 1) := by decide +kernel
theorem dX8_comes_77 : decode cX8_comes 77 = .ok (.getfield 8, 3) := by decide +kernel
theorem dX8_comes_80 : decode cX8_comes 80 = .ok (.iload 7, 2) := by decide +kernel
theorem dX8_comes_82 : decode cX8_comes 82 = .ok (.iconst 5, 1) := by decide +kernel
theorem dX8_comes_83 : decode cX8_comes 83 = .ok (.iadd, 1) := by decide +kernel
theorem dX8_comes_84 : decode cX8_comes 84 = .ok (.iload 8, 2) := by decide +kernel
theorem dX8_comes_86 : decode cX8_comes 86 = .ok (.iastore, 1) := by decide +kernel
theorem dX8_comes_87 : decode cX8_comes 87 = .ok (.aload_n 0, 1) := by decide +kernel
theorem dX8_comes_88 : decode cX8_comes 88 = .ok (.getfield 8, 3) := by decide +kernel
theorem dX8_comes_91 : decode cX8_comes 91 = .ok (.iconst 1, 1) := by decide +kernel
theorem dX8_comes_92 : decode cX8_comes 92 = .ok (.dup2, 1) := by decide +kernel
theorem dX8_comes_93 : decode cX8_comes 93 = .ok (.iaload, 1) := by decide +kernel
theorem dX8_comes_94 : decode cX8_comes 94 = .ok (.iconst 1, 1) := by decide +kernel
theorem dX8_comes_95 : decode cX8_comes 95 = .ok (.iadd, 1) := by decide +kernel
theorem dX8_comes_96 : decode cX8_comes 96 = .ok (.iastore, 1) := by decide +kernel
theorem dX8_comes_97 : decode cX8_comes 97 = .ok (.aload_n 0, 1) := by decide +kernel
theorem dX8_comes_98 : decode cX8_comes 98 = .ok (.getfield 8, 3) := by decide +kernel
theorem dX8_comes_101 : decode cX8_comes 101 = .ok (.iconst 2, 1) := by decide +kernel
theorem dX8_comes_102 : decode cX8_comes 102 = .ok (.iload 8, 2) := by decide +kernel
theorem dX8_comes_104 : decode cX8_comes 104 = .ok (.iload 4, 2) := by decide +kernel
theorem dX8_comes_106 : decode cX8_comes 106 = .ok (.iload_n 3, 1) := by decide +kernel
theorem dX8_comes_107 : decode cX8_comes 107 = .ok (.isub, 1) := by decide +kernel
theorem dX8_comes_108 : decode cX8_comes 108 = .ok (.iconst 1, 1) := by decide +kernel
theorem dX8_comes_109 : decode cX8_comes 109 = .ok (.iadd, 1) := by decide +kernel
theorem dX8_comes_110 : decode cX8_comes 110 = .ok (.imul, 1) := by decide +kernel
theorem dX8_comes_111 : decode cX8_comes 111 = .ok (.iastore, 1) := by decide +kernel
theorem dX8_comes_112 : decode cX8_comes 112 = .ok (.iconst 0, 1) := by decide +kernel
theorem dX8_comes_113 : decode cX8_comes 113 = .ok (.istore 9, 2) := by decide +kernel
theorem dX8_comes_115 : decode cX8_comes 115 = .ok (.iload 9, 2) := by decide +kernel
theorem dX8_comes_117 : decode cX8_comes 117 = .ok (.iconst 4, 1) := by decide +kernel
theorem dX8_comes_118 : decode cX8_comes 118 = .ok (.if_icmp .ge 69, 3) := by decide +kernel
theorem dX8_comes_121 : decode cX8_comes 121 = .ok (.iload 8, 2) := by decide +kernel
theorem dX8_comes_123 : decode cX8_comes 123 = .ok (.istore 10, 2) := by decide +kernel
theorem dX8_comes_125 : decode cX8_comes 125 = .ok (.iload 10, 2) := by decide +kernel
theorem dX8_comes_127 : decode cX8_comes 127 = .ok (.aload_n 0, 1) := by decide +kernel
theorem dX8_comes_128 : decode cX8_comes 128 = .ok (.getfield 8, 3) := by decide +kernel
theorem dX8_comes_131 : decode cX8_comes 131 = .ok (.iconst 2, 1) := by decide +kernel
theorem dX8_comes_132 : decode cX8_comes 132 = .ok (.iaload, 1) := by decide +kernel
theorem dX8_comes_133 : decode cX8_comes 133 = .ok (.if_icmp .ge 48, 3) := by decide +kernel
theorem dX8_comes_136 : decode cX8_comes 136 = .ok (.aload_n 0, 1) := by decide +kernel
theorem dX8_comes_137 : decode cX8_comes 137 = .ok (.getfield 8, 3) := by decide +kernel
theorem dX8_comes_140 : decode cX8_comes 140 = .ok (.sipush 1130, 3) := by decide +kernel
theorem dX8_comes_143 : decode cX8_comes 143 = .ok (.sipush 4096, 3) := by decide +kernel
theorem dX8_comes_146 : decode cX8_comes 146 = .ok (.iload 9, 2) := by decide +kernel
theorem dX8_comes_148 : decode cX8_comes 148 = .ok (.imul, 1) := by decide +kernel
theorem dX8_comes_149 : decode cX8_comes 149 = .ok (.iadd, 1) := by decide +kernel
theorem dX8_comes_150 : decode cX8_comes 150 = .ok (.iload 10, 2) := by decide +kernel
theorem dX8_comes_152 : decode cX8_comes 152 = .ok (.iadd, 1) := by decide +kernel
theorem dX8_comes_153 : decode cX8_comes 153 = .ok (.aload_n 0, 1) := by decide +kernel
theorem dX8_comes_154 : decode cX8_comes 154 = .ok (.getfield 8, 3) := by decide +kernel
theorem dX8_comes_157 : decode cX8_comes 157 = .ok (.sipush 1130, 3) := by decide +kernel
theorem dX8_comes_160 : decode cX8_comes 160 = .ok (.sipush 4096, 3) := by decide +kernel
theorem dX8_comes_163 : decode cX8_comes 163 = .ok (.iload 9, 2) := by decide +kernel
theorem dX8_comes_165 : decode cX8_comes 165 = .ok (.imul, 1) := by decide +kernel
theorem dX8_comes_166 : decode cX8_comes 166 = .ok (.iadd, 1) := by decide +kernel
theorem dX8_comes_167 : decode cX8_comes 167 = .ok (.iload 10, 2) := by decide +kernel
theorem dX8_comes_169 : decode cX8_comes 169 = .ok (.iadd, 1) := by decide +kernel
theorem dX8_comes_170 : decode cX8_comes 170 = .ok (.iload 8, 2) := by decide +kernel
theorem dX8_comes_172 : decode cX8_comes 172 = .ok (.isub, 1) := by decide +kernel
theorem dX8_comes_173 : decode cX8_comes 173 = .ok (.iaload, 1) := by decide +kernel
theorem dX8_comes_174 : decode cX8_comes 174 = .ok (.iastore, 1) := by decide +kernel
theorem dX8_comes_175 : decode cX8_comes 175 = .ok (.iinc 10 1, 3) := by decide +kernel
theorem dX8_comes_178 : decode cX8_comes 178 = .ok (.goto (-53), 3) := by decide +kernel
theorem dX8_comes_181 : decode cX8_comes 181 = .ok (.iinc 9 1, 3) := by decide +kernel
theorem dX8_comes_184 : decode cX8_comes 184 = .ok (.goto (-69), 3) := by decide +kernel
theorem dX8_comes_187 : decode cX8_comes 187 = .ok (.aload_n 0, 1) := by decide +kernel
theorem dX8_comes_188 : decode cX8_comes 188 = .ok (.getfield 8, 3) := by decide +kernel
theorem dX8_comes_191 : decode cX8_comes 191 = .ok (.bipush 10, 2) := by decide +kernel
theorem dX8_comes_193 : decode cX8_comes 193 = .ok (.iload_n 1, 1) := by decide +kernel
theorem dX8_comes_194 : decode cX8_comes 194 = .ok (.iadd, 1) := by decide +kernel
theorem dX8_comes_195 : decode cX8_comes 195 = .ok (.iload 6, 2) := by decide +kernel
theorem dX8_comes_197 : decode cX8_comes 197 = .ok (.iastore, 1) := by decide +kernel
theorem dX8_comes_198 : decode cX8_comes 198 = .ok (.iload 6, 2) := by decide +kernel
theorem dX8_comes_200 : decode cX8_comes 200 = .ok (.ireturn, 1) := by decide +kernel
theorem dX8_person_0 : decode cX8_person 0 = .ok (.aload_n 0, 1) := by decide +kernel
theorem dX8_person_1 : decode cX8_person 1 = .ok (.getfield 8, 3) := by decide +kernel
theorem dX8_person_4 : decode cX8_person 4 = .ok (.iconst 0, 1) := by decide +kernel
theorem dX8_person_5 : decode cX8_person 5 = .ok (.iaload, 1) := by decide +kernel
theorem dX8_person_6 : decode cX8_person 6 = .ok (.bipush 8, 2) := by decide +kernel
theorem dX8_person_8 : decode cX8_person 8 = .ok (.if_icmp .eq 55, 3) := by decide +kernel
theorem dX8_person_11 : decode cX8_person 11 = .ok (.iload_n 2, 1) := by decide +kernel
theorem dX8_person_12 : decode cX8_person 12 = .ok (.iconst 0, 1) := by decide +kernel
theorem dX8_person_13 : decode cX8_person 13 = .ok (.bipush 20, 2) := by decide +kernel
theorem dX8_person_15 : decode cX8_person 15 = .ok (.invokestatic 40, 3) := by decide +kernel
theorem dX8_person_18 : decode cX8_person 18 = .ok (.ifCond .eq 45, 3) := by decide +kernel
theorem dX8_person_21 : decode cX8_person 21 = .ok (.iload_n 3, 1) := by decide +kernel
theorem dX8_person_22 : decode cX8_person 22 = .ok (.iload_n 2, 1) := by decide +kernel
theorem dX8_person_23 : decode cX8_person 23 = .ok (.bipush 20, 2) := by decide +kernel
theorem dX8_person_25 : decode cX8_person 25 = .ok (.invokestatic 40, 3) := by decide +kernel
theorem dX8_person_28 : decode cX8_person 28 = .ok (.ifCond .eq 35, 3) := by decide +kernel
theorem dX8_person_31 : decode cX8_person 31 = .ok (.iload_n 1, 1) := by decide +kernel
theorem dX8_person_32 : decode cX8_person 32 = .ok (.iload_n 2, 1) := by decide +kernel
theorem dX8_person_33 : decode cX8_person 33 = .ok (.iload_n 3, 1) := by decide +kernel
theorem dX8_person_34 : decode cX8_person 34 = .ok (.invokestatic 40, 3) := by decide +kernel
theorem dX8_person_37 : decode cX8_person 37 = .ok (.ifCond .eq 26, 3) := by decide +kernel
theorem dX8_person_40 : decode cX8_person 40 = .ok (.iload 4, 2) := by decide +kernel
theorem dX8_person_42 : decode cX8_person 42 = .ok (.iconst 1, 1) := by decide +kernel
theorem dX8_person_43 : decode cX8_person 43 = .ok (.iload_n 3, 1) := by decide +kernel
theorem dX8_person_44 : decode cX8_person 44 = .ok (.iload_n 2, 1) := by decide +kernel
theorem dX8_person_45 : decode cX8_person 45 = .ok (.isub, 1) := by decide +kernel
theorem dX8_person_46 : decode cX8_person 46 = .ok (.iconst 1, 1) := by decide +kernel
theorem dX8_person_47 : decode cX8_person 47 = .ok (.iadd, 1) := by decide +kernel
theorem dX8_person_48 : decode cX8_person 48 = .ok (.invokestatic 40, 3) := by decide +kernel
theorem dX8_person_51 : decode cX8_person 51 = .ok (.ifCond .eq 12, 3) := by decide +kernel
theorem dX8_person_54 : decode cX8_person 54 = .ok (.aload_n 0, 1) := by decide +kernel
theorem dX8_person_55 : decode cX8_person 55 = .ok (.iload_n 2, 1) := by decide +kernel
theorem dX8_person_56 : decode cX8_person 56 = .ok (.iload_n 3, 1) := by decide +kernel
theorem dX8_person_57 : decode cX8_person 57 = .ok (.invokevirtual 52, 3) := by decide +kernel
theorem dX8_person_60 : decode cX8_person 60 = .ok (.ifCond .ne 5, 3) := by decide +kernel
theorem dX8_person_63 : decode cX8_person 63 = .ok (.iconst (-1), 1) := by decide +kernel
theorem dX8_person_64 : decode cX8_person 64 = .ok (.ireturn, 1) := by decide +kernel
theorem dX8_person_65 : decode cX8_person 65 = .ok (.aload_n 0, 1) := by decide +kernel
theorem dX8_person_66 : decode cX8_person 66 = .ok (.getfield 8, 3) := by decide +kernel
theorem dX8_person_69 : decode cX8_person 69 = .ok (.iconst 0, 1) := by decide +kernel
theorem dX8_person_70 : decode cX8_person 70 = .ok (.iaload, 1) := by decide +kernel
theorem dX8_person_71 : decode cX8_person 71 = .ok (.istore 5, 2) := by decide +kernel
theorem dX8_person_73 : decode cX8_person 73 = .ok (.aload_n 0, 1) := by decide +kernel
theorem dX8_person_74 : decode cX8_person 74 = .ok (.getfield 8, 3) := by decide +kernel
theorem dX8_person_77 : decode cX8_person 77 = .ok (.iconst 0, 1) := by decide +kernel
theorem dX8_person_78 : decode cX8_person 78 = .ok (.dup2, 1) := by decide +kernel
theorem dX8_person_79 : decode cX8_person 79 = .ok (.iaload, 1) := by decide +kernel
theorem dX8_person_80 : decode cX8_person 80 = .ok (.iconst 1, 1) := by decide +kernel
theorem dX8_person_81 : decode cX8_person 81 = .ok (.iadd, 1) := by decide +kernel
theorem dX8_person_82 : decode cX8_person 82 = .ok (.iastore, 1) := by decide +kernel
theorem dX8_person_83 : decode cX8_person 83 = .ok (.aload_n 0, 1) := by decide +kernel
theorem dX8_person_84 : decode cX8_person 84 = .ok (.iload 5, 2) := by decide +kernel
theorem dX8_person_86 : decode cX8_person 86 = .ok (.iload_n 1, 1) := by decide +kernel
theorem dX8_person_87 : decode cX8_person 87 = .ok (.iload_n 2, 1) := by decide +kernel
theorem dX8_person_88 : decode cX8_person 88 = .ok (.iload_n 3, 1) := by decide +kernel
theorem dX8_person_89 : decode cX8_person 89 = .ok (.iload 4, 2) := by decide +kernel
theorem dX8_person_91 : decode cX8_person 91 = .ok (.invokevirtual 56, 3) := by decide +kernel
theorem dX8_person_94 : decode cX8_person 94 = .ok (.istore 6, 2) := by decide +kernel
theorem dX8_person_96 : decode cX8_person 96 = .ok (.iload 5, 2) := by decide +kernel
theorem dX8_person_98 : decode cX8_person 98 = .ok (.ireturn, 1) := by decide +kernel
theorem dX8_change_0 : decode cX8_change 0 = .ok (.aload_n 0, 1) := by decide +kernel
theorem dX8_change_1 : decode cX8_change 1 = .ok (.iload_n 1, 1) := by decide +kernel
theorem dX8_change_2 : decode cX8_change 2 = .ok (.invokevirtual 60, 3) := by decide +kernel
theorem dX8_change_5 : decode cX8_change 5 = .ok (.ifCond .ne 5, 3) := by decide +kernel
theorem dX8_change_8 : decode cX8_change 8 = .ok (.iconst (-1), 1) := by decide +kernel
theorem dX8_change_9 : decode cX8_change 9 = .ok (.ireturn, 1) := by decide +kernel
theorem dX8_change_10 : decode cX8_change 10 = .ok (.aload_n 0, 1) := by decide +kernel
theorem dX8_change_11 : decode cX8_change 11 = .ok (.getfield 8, 3) := by decide +kernel
theorem dX8_change_14 : decode cX8_change 14 = .ok (.bipush 10, 2) := by decide +kernel
theorem dX8_change_16 : decode cX8_change 16 = .ok (.iload_n 1, 1) := by decide +kernel
theorem dX8_change_17 : decode cX8_change 17 = .ok (.iadd, 1) := by decide +kernel
theorem dX8_change_18 : decode cX8_change 18 = .ok (.iaload, 1) := by decide +kernel
theorem dX8_change_19 : decode cX8_change 19 = .ok (.istore_n 3, 1) := by decide +kernel
theorem dX8_change_20 : decode cX8_change 20 = .ok (.iload_n 2, 1) := by decide +kernel
theorem dX8_change_21 : decode cX8_change 21 = .ok (.aload_n 0, 1) := by decide +kernel
theorem dX8_change_22 : decode cX8_change 22 = .ok (.iload_n 3, 1) := by decide +kernel
theorem dX8_change_23 : decode cX8_change 23 = .ok (.iconst 1, 1) := by decide +kernel
theorem dX8_change_24 : decode cX8_change 24 = .ok (.invokevirtual 44, 3) := by decide +kernel
theorem dX8_change_27 : decode cX8_change 27 = .ok (.aload_n 0, 1) := by decide +kernel
theorem dX8_change_28 : decode cX8_change 28 = .ok (.iload_n 3, 1) := by decide +kernel
theorem dX8_change_29 : decode cX8_change 29 = .ok (.iconst 2, 1) := by decide +kernel
theorem dX8_change_30 : decode cX8_change 30 = .ok (.invokevirtual 44, 3) := by decide +kernel
theorem dX8_change_33 : decode cX8_change 33 = .ok (.invokestatic 40, 3) := by decide +kernel
theorem dX8_change_36 : decode cX8_change 36 = .ok (.ifCond .eq 22, 3) := by decide +kernel
theorem dX8_change_39 : decode cX8_change 39 = .ok (.aload_n 0, 1) := by decide +kernel
theorem dX8_change_40 : decode cX8_change 40 = .ok (.aload_n 0, 1) := by decide +kernel
theorem dX8_change_41 : decode cX8_change 41 = .ok (.iload_n 3, 1) := by decide +kernel
theorem dX8_change_42 : decode cX8_change 42 = .ok (.iconst 1, 1) := by decide +kernel
theorem dX8_change_43 : decode cX8_change 43 = .ok (.invokevirtual 44, 3) := by decide +kernel
theorem dX8_change_46 : decode cX8_change 46 = .ok (.aload_n 0, 1) := by decide +kernel
theorem dX8_change_47 : decode cX8_change 47 = .ok (.iload_n 3, 1) := by decide +kernel
theorem dX8_change_48 : decode cX8_change 48 = .ok (.iconst 2, 1) := by decide +kernel
theorem dX8_change_49 : decode cX8_change 49 = .ok (.invokevirtual 44, 3) := by decide +kernel
theorem dX8_change_52 : decode cX8_change 52 = .ok (.invokevirtual 52, 3) := by decide +kernel
theorem dX8_change_55 : decode cX8_change 55 = .ok (.ifCond .ne 7, 3) := by decide +kernel
theorem dX8_change_58 : decode cX8_change 58 = .ok (.iconst (-1), 1) := by decide +kernel
theorem dX8_change_59 : decode cX8_change 59 = .ok (.goto 27, 3) := by decide +kernel
theorem dX8_change_62 : decode cX8_change 62 = .ok (.aload_n 0, 1) := by decide +kernel
theorem dX8_change_63 : decode cX8_change 63 = .ok (.iload_n 1, 1) := by decide +kernel
theorem dX8_change_64 : decode cX8_change 64 = .ok (.iload_n 2, 1) := by decide +kernel
theorem dX8_change_65 : decode cX8_change 65 = .ok (.aload_n 0, 1) := by decide +kernel
theorem dX8_change_66 : decode cX8_change 66 = .ok (.iload_n 3, 1) := by decide +kernel
theorem dX8_change_67 : decode cX8_change 67 = .ok (.iconst 1, 1) := by decide +kernel
theorem dX8_change_68 : decode cX8_change 68 = .ok (.invokevirtual 44, 3) := by decide +kernel
theorem dX8_change_71 : decode cX8_change 71 = .ok (.aload_n 0, 1) := by decide +kernel
theorem dX8_change_72 : decode cX8_change 72 = .ok (.iload_n 3, 1) := by decide +kernel
theorem dX8_change_73 : decode cX8_change 73 = .ok (.iconst 2, 1) := by decide +kernel
theorem dX8_change_74 : decode cX8_change 74 = .ok (.invokevirtual 44, 3) := by decide +kernel
theorem dX8_change_77 : decode cX8_change 77 = .ok (.aload_n 0, 1) := by decide +kernel
theorem dX8_change_78 : decode cX8_change 78 = .ok (.iload_n 3, 1) := by decide +kernel
theorem dX8_change_79 : decode cX8_change 79 = .ok (.iconst 3, 1) := by decide +kernel
theorem dX8_change_80 : decode cX8_change 80 = .ok (.invokevirtual 44, 3) := by decide +kernel
theorem dX8_change_83 : decode cX8_change 83 = .ok (.invokevirtual 56, 3) := by decide +kernel
theorem dX8_change_86 : decode cX8_change 86 = .ok (.ireturn, 1) := by decide +kernel
theorem dX8_numbersOf_0 : decode cX8_numbersOf 0 = .ok (.iconst 0, 1) := by decide +kernel
theorem dX8_numbersOf_1 : decode cX8_numbersOf 1 = .ok (.istore_n 2, 1) := by decide +kernel
theorem dX8_numbersOf_2 : decode cX8_numbersOf 2 = .ok (.iconst 0, 1) := by decide +kernel
theorem dX8_numbersOf_3 : decode cX8_numbersOf 3 = .ok (.istore_n 3, 1) := by decide +kernel
theorem dX8_numbersOf_4 : decode cX8_numbersOf 4 = .ok (.iload_n 3, 1) := by decide +kernel
theorem dX8_numbersOf_5 : decode cX8_numbersOf 5 = .ok (.aload_n 0, 1) := by decide +kernel
theorem dX8_numbersOf_6 : decode cX8_numbersOf 6 = .ok (.getfield 8, 3) := by decide +kernel
theorem dX8_numbersOf_9 : decode cX8_numbersOf 9 = .ok (.iconst 0, 1) := by decide +kernel
theorem dX8_numbersOf_10 : decode cX8_numbersOf 10 = .ok (.iaload, 1) := by decide +kernel
theorem dX8_numbersOf_11 : decode cX8_numbersOf 11 = .ok (.if_icmp .ge 32, 3) := by decide +kernel
theorem dX8_numbersOf_14 : decode cX8_numbersOf 14 = .ok (.iload_n 1, 1) := by decide +kernel
theorem dX8_numbersOf_15 : decode cX8_numbersOf 15 = .ok (.iload_n 3, 1) := by decide +kernel
theorem dX8_numbersOf_16 : decode cX8_numbersOf 16 = .ok (.ishr, 1) := by decide +kernel
theorem dX8_numbersOf_17 : decode cX8_numbersOf 17 = .ok (.iconst 1, 1) := by decide +kernel
theorem dX8_numbersOf_18 : decode cX8_numbersOf 18 = .ok (.iand, 1) := by decide +kernel
theorem dX8_numbersOf_19 : decode cX8_numbersOf 19 = .ok (.iconst 1, 1) := by decide +kernel
theorem dX8_numbersOf_20 : decode cX8_numbersOf 20 = .ok (.if_icmp .ne 17, 3) := by decide +kernel
theorem dX8_numbersOf_23 : decode cX8_numbersOf 23 = .ok (.iload_n 2, 1) := by decide +kernel
theorem dX8_numbersOf_24 : decode cX8_numbersOf 24 = .ok (.iconst 1, 1) := by decide +kernel
theorem dX8_numbersOf_25 : decode cX8_numbersOf 25 = .ok (.aload_n 0, 1) := by decide +kernel
theorem dX8_numbersOf_26 : decode cX8_numbersOf 26 = .ok (.getfield 8, 3) := by decide +kernel
theorem dX8_numbersOf_29 : decode cX8_numbersOf 29 = .ok (.bipush 10, 2) := by decide +kernel
theorem dX8_numbersOf_31 : decode cX8_numbersOf 31 = .ok (.iload_n 3, 1) := by decide +kernel
theorem dX8_numbersOf_32 : decode cX8_numbersOf 32 = .ok (.iadd, 1) := by decide +kernel
theorem dX8_numbersOf_33 : decode cX8_numbersOf 33 = .ok (.iaload, 1) := by decide +kernel
theorem dX8_numbersOf_34 : decode cX8_numbersOf 34 = .ok (.ishl, 1) := by decide +kernel
theorem dX8_numbersOf_35 : decode cX8_numbersOf 35 = .ok (.ior, 1) := by decide +kernel
theorem dX8_numbersOf_36 : decode cX8_numbersOf 36 = .ok (.istore_n 2, 1) := by decide +kernel
theorem dX8_numbersOf_37 : decode cX8_numbersOf 37 = .ok (.iinc 3 1, 3) := by decide +kernel
theorem dX8_numbersOf_40 : decode cX8_numbersOf 40 = .ok (.goto (-36), 3) := by decide +kernel
theorem dX8_numbersOf_43 : decode cX8_numbersOf 43 = .ok (.iload_n 2, 1) := by decide +kernel
theorem dX8_numbersOf_44 : decode cX8_numbersOf 44 = .ok (.ireturn, 1) := by decide +kernel
theorem dX8_begins_0 : decode cX8_begins 0 = .ok (.aload_n 0, 1) := by decide +kernel
theorem dX8_begins_1 : decode cX8_begins 1 = .ok (.iconst 0, 1) := by decide +kernel
theorem dX8_begins_2 : decode cX8_begins 2 = .ok (.putfield 64, 3) := by decide +kernel
theorem dX8_begins_5 : decode cX8_begins 5 = .ok (.aload_n 0, 1) := by decide +kernel
theorem dX8_begins_6 : decode cX8_begins 6 = .ok (.iconst 0, 1) := by decide +kernel
theorem dX8_begins_7 : decode cX8_begins 7 = .ok (.putfield 68, 3) := by decide +kernel
theorem dX8_begins_10 : decode cX8_begins 10 = .ok (.aload_n 0, 1) := by decide +kernel
theorem dX8_begins_11 : decode cX8_begins 11 = .ok (.iconst (-1), 1) := by decide +kernel
theorem dX8_begins_12 : decode cX8_begins 12 = .ok (.putfield 71, 3) := by decide +kernel
theorem dX8_begins_15 : decode cX8_begins 15 = .ok (.aload_n 0, 1) := by decide +kernel
theorem dX8_begins_16 : decode cX8_begins 16 = .ok (.iconst (-1), 1) := by decide +kernel
theorem dX8_begins_17 : decode cX8_begins 17 = .ok (.putfield 74, 3) := by decide +kernel
theorem dX8_begins_20 : decode cX8_begins 20 = .ok (.return_, 1) := by decide +kernel
theorem dX8_takes_0 : decode cX8_takes 0 = .ok (.aload_n 0, 1) := by decide +kernel
theorem dX8_takes_1 : decode cX8_takes 1 = .ok (.dup, 1) := by decide +kernel
theorem dX8_takes_2 : decode cX8_takes 2 = .ok (.getfield 64, 3) := by decide +kernel
theorem dX8_takes_5 : decode cX8_takes 5 = .ok (.iload_n 1, 1) := by decide +kernel
theorem dX8_takes_6 : decode cX8_takes 6 = .ok (.iadd, 1) := by decide +kernel
theorem dX8_takes_7 : decode cX8_takes 7 = .ok (.putfield 64, 3) := by decide +kernel
theorem dX8_takes_10 : decode cX8_takes 10 = .ok (.aload_n 0, 1) := by decide +kernel
theorem dX8_takes_11 : decode cX8_takes 11 = .ok (.dup, 1) := by decide +kernel
theorem dX8_takes_12 : decode cX8_takes 12 = .ok (.getfield 68, 3) := by decide +kernel
theorem dX8_takes_15 : decode cX8_takes 15 = .ok (.iload_n 1, 1) := by decide +kernel
theorem dX8_takes_16 : decode cX8_takes 16 = .ok (.iload_n 2, 1) := by decide +kernel
theorem dX8_takes_17 : decode cX8_takes 17 = .ok (.if_icmp .lt 7, 3) := by decide +kernel
theorem dX8_takes_20 : decode cX8_takes 20 = .ok (.iconst 1, 1) := by decide +kernel
theorem dX8_takes_21 : decode cX8_takes 21 = .ok (.goto 4, 3) := by decide +kernel
theorem dX8_takes_24 : decode cX8_takes 24 = .ok (.iconst 0, 1) := by decide +kernel
theorem dX8_takes_25 : decode cX8_takes 25 = .ok (.iadd, 1) := by decide +kernel
theorem dX8_takes_26 : decode cX8_takes 26 = .ok (.putfield 68, 3) := by decide +kernel
theorem dX8_takes_29 : decode cX8_takes 29 = .ok (.aload_n 0, 1) := by decide +kernel
theorem dX8_takes_30 : decode cX8_takes 30 = .ok (.iload_n 1, 1) := by decide +kernel
theorem dX8_takes_31 : decode cX8_takes 31 = .ok (.aload_n 0, 1) := by decide +kernel
theorem dX8_takes_32 : decode cX8_takes 32 = .ok (.getfield 71, 3) := by decide +kernel
theorem dX8_takes_35 : decode cX8_takes 35 = .ok (.if_icmp .le 7, 3) := by decide +kernel
theorem dX8_takes_38 : decode cX8_takes 38 = .ok (.iload_n 1, 1) := by decide +kernel
theorem dX8_takes_39 : decode cX8_takes 39 = .ok (.goto 7, 3) := by decide +kernel
theorem dX8_takes_42 : decode cX8_takes 42 = .ok (.aload_n 0, 1) := by decide +kernel
theorem dX8_takes_43 : decode cX8_takes 43 = .ok (.getfield 71, 3) := by decide +kernel
theorem dX8_takes_46 : decode cX8_takes 46 = .ok (.putfield 71, 3) := by decide +kernel
theorem dX8_takes_49 : decode cX8_takes 49 = .ok (.aload_n 0, 1) := by decide +kernel
theorem dX8_takes_50 : decode cX8_takes 50 = .ok (.aload_n 0, 1) := by decide +kernel
theorem dX8_takes_51 : decode cX8_takes 51 = .ok (.getfield 74, 3) := by decide +kernel
theorem dX8_takes_54 : decode cX8_takes 54 = .ok (.ifCond .lt 11, 3) := by decide +kernel
theorem dX8_takes_57 : decode cX8_takes 57 = .ok (.iload_n 1, 1) := by decide +kernel
theorem dX8_takes_58 : decode cX8_takes 58 = .ok (.aload_n 0, 1) := by decide +kernel
theorem dX8_takes_59 : decode cX8_takes 59 = .ok (.getfield 74, 3) := by decide +kernel
theorem dX8_takes_62 : decode cX8_takes 62 = .ok (.if_icmp .ge 7, 3) := by decide +kernel
theorem dX8_takes_65 : decode cX8_takes 65 = .ok (.iload_n 1, 1) := by decide +kernel
theorem dX8_takes_66 : decode cX8_takes 66 = .ok (.goto 7, 3) := by decide +kernel
theorem dX8_takes_69 : decode cX8_takes 69 = .ok (.aload_n 0, 1) := by decide +kernel
theorem dX8_takes_70 : decode cX8_takes 70 = .ok (.getfield 74, 3) := by decide +kernel
theorem dX8_takes_73 : decode cX8_takes 73 = .ok (.putfield 74, 3) := by decide +kernel
theorem dX8_takes_76 : decode cX8_takes 76 = .ok (.return_, 1) := by decide +kernel
theorem dX8_answer_0 : decode cX8_answer 0 = .ok (.iload_n 1, 1) := by decide +kernel
theorem dX8_answer_1 : decode cX8_answer 1 = .ok (.tableswitch 57 0 2 #[27, 36, 41], 27) := by decide +kernel
theorem dX8_answer_28 : decode cX8_answer 28 = .ok (.aload_n 0, 1) := by decide +kernel
theorem dX8_answer_29 : decode cX8_answer 29 = .ok (.getfield 64, 3) := by decide +kernel
theorem dX8_answer_32 : decode cX8_answer 32 = .ok (.iload_n 2, 1) := by decide +kernel
theorem dX8_answer_33 : decode cX8_answer 33 = .ok (.idiv, 1) := by decide +kernel
theorem dX8_answer_34 : decode cX8_answer 34 = .ok (.iload_n 2, 1) := by decide +kernel
theorem dX8_answer_35 : decode cX8_answer 35 = .ok (.imul, 1) := by decide +kernel
theorem dX8_answer_36 : decode cX8_answer 36 = .ok (.ireturn, 1) := by decide +kernel
theorem dX8_answer_37 : decode cX8_answer 37 = .ok (.aload_n 0, 1) := by decide +kernel
theorem dX8_answer_38 : decode cX8_answer 38 = .ok (.getfield 68, 3) := by decide +kernel
theorem dX8_answer_41 : decode cX8_answer 41 = .ok (.ireturn, 1) := by decide +kernel
theorem dX8_answer_42 : decode cX8_answer 42 = .ok (.aload_n 0, 1) := by decide +kernel
theorem dX8_answer_43 : decode cX8_answer 43 = .ok (.getfield 71, 3) := by decide +kernel
theorem dX8_answer_46 : decode cX8_answer 46 = .ok (.ifCond .ge 7, 3) := by decide +kernel
theorem dX8_answer_49 : decode cX8_answer 49 = .ok (.iconst 0, 1) := by decide +kernel
theorem dX8_answer_50 : decode cX8_answer 50 = .ok (.goto 7, 3) := by decide +kernel
theorem dX8_answer_53 : decode cX8_answer 53 = .ok (.aload_n 0, 1) := by decide +kernel
theorem dX8_answer_54 : decode cX8_answer 54 = .ok (.getfield 71, 3) := by decide +kernel
theorem dX8_answer_57 : decode cX8_answer 57 = .ok (.ireturn, 1) := by decide +kernel
theorem dX8_answer_58 : decode cX8_answer 58 = .ok (.aload_n 0, 1) := by decide +kernel
theorem dX8_answer_59 : decode cX8_answer 59 = .ok (.getfield 74, 3) := by decide +kernel
theorem dX8_answer_62 : decode cX8_answer 62 = .ok (.ifCond .ge 7, 3) := by decide +kernel
theorem dX8_answer_65 : decode cX8_answer 65 = .ok (.iconst 0, 1) := by decide +kernel
theorem dX8_answer_66 : decode cX8_answer 66 = .ok (.goto 7, 3) := by decide +kernel
theorem dX8_answer_69 : decode cX8_answer 69 = .ok (.aload_n 0, 1) := by decide +kernel
theorem dX8_answer_70 : decode cX8_answer 70 = .ok (.getfield 74, 3) := by decide +kernel
theorem dX8_answer_73 : decode cX8_answer 73 = .ok (.ireturn, 1) := by decide +kernel
theorem dX8_answerIn_0 : decode cX8_answerIn 0 = .ok (.aload_n 0, 1) := by decide +kernel
theorem dX8_answerIn_1 : decode cX8_answerIn 1 = .ok (.invokevirtual 77, 3) := by decide +kernel
theorem dX8_answerIn_4 : decode cX8_answerIn 4 = .ok (.iconst 0, 1) := by decide +kernel
theorem dX8_answerIn_5 : decode cX8_answerIn 5 = .ok (.istore 5, 2) := by decide +kernel
theorem dX8_answerIn_7 : decode cX8_answerIn 7 = .ok (.iload 5, 2) := by decide +kernel
theorem dX8_answerIn_9 : decode cX8_answerIn 9 = .ok (.aload_n 0, 1) := by decide +kernel
theorem dX8_answerIn_10 : decode cX8_answerIn 10 = .ok (.getfield 8, 3) := by decide +kernel
theorem dX8_answerIn_13 : decode cX8_answerIn 13 = .ok (.iconst 1, 1) := by decide +kernel
theorem dX8_answerIn_14 : decode cX8_answerIn 14 = .ok (.iaload, 1) := by decide +kernel
theorem dX8_answerIn_15 : decode cX8_answerIn 15 = .ok (.if_icmp .ge 32, 3) := by decide +kernel
theorem dX8_answerIn_18 : decode cX8_answerIn 18 = .ok (.iload_n 3, 1) := by decide +kernel
theorem dX8_answerIn_19 : decode cX8_answerIn 19 = .ok (.iload 5, 2) := by decide +kernel
theorem dX8_answerIn_21 : decode cX8_answerIn 21 = .ok (.ishr, 1) := by decide +kernel
theorem dX8_answerIn_22 : decode cX8_answerIn 22 = .ok (.iconst 1, 1) := by decide +kernel
theorem dX8_answerIn_23 : decode cX8_answerIn 23 = .ok (.iand, 1) := by decide +kernel
theorem dX8_answerIn_24 : decode cX8_answerIn 24 = .ok (.iconst 1, 1) := by decide +kernel
theorem dX8_answerIn_25 : decode cX8_answerIn 25 = .ok (.if_icmp .ne 16, 3) := by decide +kernel
theorem dX8_answerIn_28 : decode cX8_answerIn 28 = .ok (.aload_n 0, 1) := by decide +kernel
theorem dX8_answerIn_29 : decode cX8_answerIn 29 = .ok (.aload_n 0, 1) := by decide +kernel
theorem dX8_answerIn_30 : decode cX8_answerIn 30 = .ok (.iload_n 1, 1) := by decide +kernel
theorem dX8_answerIn_31 : decode cX8_answerIn 31 = .ok (.iload 5, 2) := by decide +kernel
theorem dX8_answerIn_33 : decode cX8_answerIn 33 = .ok (.invokevirtual 80, 3) := by decide +kernel
theorem dX8_answerIn_36 : decode cX8_answerIn 36 = .ok (.iload 4, 2) := by decide +kernel
theorem dX8_answerIn_38 : decode cX8_answerIn 38 = .ok (.invokevirtual 83, 3) := by decide +kernel
theorem dX8_answerIn_41 : decode cX8_answerIn 41 = .ok (.iinc 5 1, 3) := by decide +kernel
theorem dX8_answerIn_44 : decode cX8_answerIn 44 = .ok (.goto (-37), 3) := by decide +kernel
theorem dX8_answerIn_47 : decode cX8_answerIn 47 = .ok (.aload_n 0, 1) := by decide +kernel
theorem dX8_answerIn_48 : decode cX8_answerIn 48 = .ok (.iload_n 2, 1) := by decide +kernel
theorem dX8_answerIn_49 : decode cX8_answerIn 49 = .ok (.iload 4, 2) := by decide +kernel
theorem dX8_answerIn_51 : decode cX8_answerIn 51 = .ok (.invokevirtual 87, 3) := by decide +kernel
theorem dX8_answerIn_54 : decode cX8_answerIn 54 = .ok (.ireturn, 1) := by decide +kernel
theorem dX8_hiddenAnswer_0 : decode cX8_hiddenAnswer 0 = .ok (.aload_n 0, 1) := by decide +kernel
theorem dX8_hiddenAnswer_1 : decode cX8_hiddenAnswer 1 = .ok (.invokevirtual 77, 3) := by decide +kernel
theorem dX8_hiddenAnswer_4 : decode cX8_hiddenAnswer 4 = .ok (.iconst 0, 1) := by decide +kernel
theorem dX8_hiddenAnswer_5 : decode cX8_hiddenAnswer 5 = .ok (.istore 4, 2) := by decide +kernel
theorem dX8_hiddenAnswer_7 : decode cX8_hiddenAnswer 7 = .ok (.iload 4, 2) := by decide +kernel
theorem dX8_hiddenAnswer_9 : decode cX8_hiddenAnswer 9 = .ok (.aload_n 0, 1) := by decide +kernel
theorem dX8_hiddenAnswer_10 : decode cX8_hiddenAnswer 10 = .ok (.getfield 8, 3) := by decide +kernel
theorem dX8_hiddenAnswer_13 : decode cX8_hiddenAnswer 13 = .ok (.iconst 1, 1) := by decide +kernel
theorem dX8_hiddenAnswer_14 : decode cX8_hiddenAnswer 14 = .ok (.iaload, 1) := by decide +kernel
theorem dX8_hiddenAnswer_15 : decode cX8_hiddenAnswer 15 = .ok (.if_icmp .ge 31, 3) := by decide +kernel
theorem dX8_hiddenAnswer_18 : decode cX8_hiddenAnswer 18 = .ok (.iload_n 2, 1) := by decide +kernel
theorem dX8_hiddenAnswer_19 : decode cX8_hiddenAnswer 19 = .ok (.iload 4, 2) := by decide +kernel
theorem dX8_hiddenAnswer_21 : decode cX8_hiddenAnswer 21 = .ok (.ishr, 1) := by decide +kernel
theorem dX8_hiddenAnswer_22 : decode cX8_hiddenAnswer 22 = .ok (.iconst 1, 1) := by decide +kernel
theorem dX8_hiddenAnswer_23 : decode cX8_hiddenAnswer 23 = .ok (.iand, 1) := by decide +kernel
theorem dX8_hiddenAnswer_24 : decode cX8_hiddenAnswer 24 = .ok (.iconst 1, 1) := by decide +kernel
theorem dX8_hiddenAnswer_25 : decode cX8_hiddenAnswer 25 = .ok (.if_icmp .ne 15, 3) := by decide +kernel
theorem dX8_hiddenAnswer_28 : decode cX8_hiddenAnswer 28 = .ok (.aload_n 0, 1) := by decide +kernel
theorem dX8_hiddenAnswer_29 : decode cX8_hiddenAnswer 29 = .ok (.aload_n 0, 1) := by decide +kernel
theorem dX8_hiddenAnswer_30 : decode cX8_hiddenAnswer 30 = .ok (.iload 4, 2) := by decide +kernel
theorem dX8_hiddenAnswer_32 : decode cX8_hiddenAnswer 32 = .ok (.iconst 4, 1) := by decide +kernel
theorem dX8_hiddenAnswer_33 : decode cX8_hiddenAnswer 33 = .ok (.invokevirtual 44, 3) := by decide +kernel
theorem dX8_hiddenAnswer_36 : decode cX8_hiddenAnswer 36 = .ok (.iload_n 3, 1) := by decide +kernel
theorem dX8_hiddenAnswer_37 : decode cX8_hiddenAnswer 37 = .ok (.invokevirtual 83, 3) := by decide +kernel
theorem dX8_hiddenAnswer_40 : decode cX8_hiddenAnswer 40 = .ok (.iinc 4 1, 3) := by decide +kernel
theorem dX8_hiddenAnswer_43 : decode cX8_hiddenAnswer 43 = .ok (.goto (-36), 3) := by decide +kernel
theorem dX8_hiddenAnswer_46 : decode cX8_hiddenAnswer 46 = .ok (.aload_n 0, 1) := by decide +kernel
theorem dX8_hiddenAnswer_47 : decode cX8_hiddenAnswer 47 = .ok (.iload_n 1, 1) := by decide +kernel
theorem dX8_hiddenAnswer_48 : decode cX8_hiddenAnswer 48 = .ok (.iload_n 3, 1) := by decide +kernel
theorem dX8_hiddenAnswer_49 : decode cX8_hiddenAnswer 49 = .ok (.invokevirtual 87, 3) := by decide +kernel
theorem dX8_hiddenAnswer_52 : decode cX8_hiddenAnswer 52 = .ok (.ireturn, 1) := by decide +kernel
theorem dX8_isAsk_0 : decode cX8_isAsk 0 = .ok (.iload_n 0, 1) := by decide +kernel
theorem dX8_isAsk_1 : decode cX8_isAsk 1 = .ok (.ifCond .ne 13, 3) := by decide +kernel
theorem dX8_isAsk_4 : decode cX8_isAsk 4 = .ok (.iload_n 1, 1) := by decide +kernel
theorem dX8_isAsk_5 : decode cX8_isAsk 5 = .ok (.iconst 1, 1) := by decide +kernel
theorem dX8_isAsk_6 : decode cX8_isAsk 6 = .ok (.bipush 20, 2) := by decide +kernel
theorem dX8_isAsk_8 : decode cX8_isAsk 8 = .ok (.invokestatic 40, 3) := by decide +kernel
theorem dX8_isAsk_11 : decode cX8_isAsk 11 = .ok (.goto 33, 3) := by decide +kernel
theorem dX8_isAsk_14 : decode cX8_isAsk 14 = .ok (.iload_n 0, 1) := by decide +kernel
theorem dX8_isAsk_15 : decode cX8_isAsk 15 = .ok (.iconst 1, 1) := by decide +kernel
theorem dX8_isAsk_16 : decode cX8_isAsk 16 = .ok (.if_icmp .ne 13, 3) := by decide +kernel
theorem dX8_isAsk_19 : decode cX8_isAsk 19 = .ok (.iload_n 1, 1) := by decide +kernel
theorem dX8_isAsk_20 : decode cX8_isAsk 20 = .ok (.iconst 0, 1) := by decide +kernel
theorem dX8_isAsk_21 : decode cX8_isAsk 21 = .ok (.bipush 20, 2) := by decide +kernel
theorem dX8_isAsk_23 : decode cX8_isAsk 23 = .ok (.invokestatic 40, 3) := by decide +kernel
theorem dX8_isAsk_26 : decode cX8_isAsk 26 = .ok (.goto 18, 3) := by decide +kernel
theorem dX8_isAsk_29 : decode cX8_isAsk 29 = .ok (.iload_n 0, 1) := by decide +kernel
theorem dX8_isAsk_30 : decode cX8_isAsk 30 = .ok (.iconst 2, 1) := by decide +kernel
theorem dX8_isAsk_31 : decode cX8_isAsk 31 = .ok (.if_icmp .eq 8, 3) := by decide +kernel
theorem dX8_isAsk_34 : decode cX8_isAsk 34 = .ok (.iload_n 0, 1) := by decide +kernel
theorem dX8_isAsk_35 : decode cX8_isAsk 35 = .ok (.iconst 3, 1) := by decide +kernel
theorem dX8_isAsk_36 : decode cX8_isAsk 36 = .ok (.if_icmp .ne 7, 3) := by decide +kernel
theorem dX8_isAsk_39 : decode cX8_isAsk 39 = .ok (.iconst 1, 1) := by decide +kernel
theorem dX8_isAsk_40 : decode cX8_isAsk 40 = .ok (.goto 4, 3) := by decide +kernel
theorem dX8_isAsk_43 : decode cX8_isAsk 43 = .ok (.iconst 0, 1) := by decide +kernel
theorem dX8_isAsk_44 : decode cX8_isAsk 44 = .ok (.ireturn, 1) := by decide +kernel
theorem dX8_isLeft_0 : decode cX8_isLeft 0 = .ok (.aload_n 0, 1) := by decide +kernel
theorem dX8_isLeft_1 : decode cX8_isLeft 1 = .ok (.getfield 8, 3) := by decide +kernel
theorem dX8_isLeft_4 : decode cX8_isLeft 4 = .ok (.sipush 1130, 3) := by decide +kernel
theorem dX8_isLeft_7 : decode cX8_isLeft 7 = .ok (.sipush 4096, 3) := by decide +kernel
theorem dX8_isLeft_10 : decode cX8_isLeft 10 = .ok (.iload_n 1, 1) := by decide +kernel
theorem dX8_isLeft_11 : decode cX8_isLeft 11 = .ok (.imul, 1) := by decide +kernel
theorem dX8_isLeft_12 : decode cX8_isLeft 12 = .ok (.iadd, 1) := by decide +kernel
theorem dX8_isLeft_13 : decode cX8_isLeft 13 = .ok (.iload_n 2, 1) := by decide +kernel
theorem dX8_isLeft_14 : decode cX8_isLeft 14 = .ok (.iadd, 1) := by decide +kernel
theorem dX8_isLeft_15 : decode cX8_isLeft 15 = .ok (.iaload, 1) := by decide +kernel
theorem dX8_isLeft_16 : decode cX8_isLeft 16 = .ok (.iconst 1, 1) := by decide +kernel
theorem dX8_isLeft_17 : decode cX8_isLeft 17 = .ok (.if_icmp .ne 7, 3) := by decide +kernel
theorem dX8_isLeft_20 : decode cX8_isLeft 20 = .ok (.iconst 1, 1) := by decide +kernel
theorem dX8_isLeft_21 : decode cX8_isLeft 21 = .ok (.goto 4, 3) := by decide +kernel
theorem dX8_isLeft_24 : decode cX8_isLeft 24 = .ok (.iconst 0, 1) := by decide +kernel
theorem dX8_isLeft_25 : decode cX8_isLeft 25 = .ok (.ireturn, 1) := by decide +kernel
theorem dX8_meets_0 : decode cX8_meets 0 = .ok (.iconst 0, 1) := by decide +kernel
theorem dX8_meets_1 : decode cX8_meets 1 = .ok (.istore_n 3, 1) := by decide +kernel
theorem dX8_meets_2 : decode cX8_meets 2 = .ok (.iload_n 3, 1) := by decide +kernel
theorem dX8_meets_3 : decode cX8_meets 3 = .ok (.aload_n 0, 1) := by decide +kernel
theorem dX8_meets_4 : decode cX8_meets 4 = .ok (.getfield 8, 3) := by decide +kernel
theorem dX8_meets_7 : decode cX8_meets 7 = .ok (.iconst 1, 1) := by decide +kernel
theorem dX8_meets_8 : decode cX8_meets 8 = .ok (.iaload, 1) := by decide +kernel
theorem dX8_meets_9 : decode cX8_meets 9 = .ok (.if_icmp .ge 105, 3) := by decide +kernel
theorem dX8_meets_12 : decode cX8_meets 12 = .ok (.aload_n 0, 1) := by decide +kernel
theorem dX8_meets_13 : decode cX8_meets 13 = .ok (.iload_n 2, 1) := by decide +kernel
theorem dX8_meets_14 : decode cX8_meets 14 = .ok (.iload_n 3, 1) := by decide +kernel
theorem dX8_meets_15 : decode cX8_meets 15 = .ok (.invokevirtual 80, 3) := by decide +kernel
theorem dX8_meets_18 : decode cX8_meets 18 = .ok (.istore 4, 2) := by decide +kernel
theorem dX8_meets_20 : decode cX8_meets 20 = .ok (.bipush 10, 2) := by decide +kernel
theorem dX8_meets_22 : decode cX8_meets 22 = .ok (.iload_n 1, 1) := by decide +kernel
theorem dX8_meets_23 : decode cX8_meets 23 = .ok (.imul, 1) := by decide +kernel
theorem dX8_meets_24 : decode cX8_meets 24 = .ok (.iload_n 3, 1) := by decide +kernel
theorem dX8_meets_25 : decode cX8_meets 25 = .ok (.iadd, 1) := by decide +kernel
theorem dX8_meets_26 : decode cX8_meets 26 = .ok (.istore 5, 2) := by decide +kernel
theorem dX8_meets_28 : decode cX8_meets 28 = .ok (.aload_n 0, 1) := by decide +kernel
theorem dX8_meets_29 : decode cX8_meets 29 = .ok (.getfield 18, 3) := by decide +kernel
theorem dX8_meets_32 : decode cX8_meets 32 = .ok (.iload 5, 2) := by decide +kernel
theorem dX8_meets_34 : decode cX8_meets 34 = .ok (.aload_n 0, 1) := by decide +kernel
theorem dX8_meets_35 : decode cX8_meets 35 = .ok (.getfield 24, 3) := by decide +kernel
theorem dX8_meets_38 : decode cX8_meets 38 = .ok (.iload_n 1, 1) := by decide +kernel
theorem dX8_meets_39 : decode cX8_meets 39 = .ok (.baload, 1) := by decide +kernel
theorem dX8_meets_40 : decode cX8_meets 40 = .ok (.ifCond .eq 15, 3) := by decide +kernel
theorem dX8_meets_43 : decode cX8_meets 43 = .ok (.iload 4, 2) := by decide +kernel
theorem dX8_meets_45 : decode cX8_meets 45 = .ok (.aload_n 0, 1) := by decide +kernel
theorem dX8_meets_46 : decode cX8_meets 46 = .ok (.getfield 18, 3) := by decide +kernel
theorem dX8_meets_49 : decode cX8_meets 49 = .ok (.iload 5, 2) := by decide +kernel
theorem dX8_meets_51 : decode cX8_meets 51 = .ok (.iaload, 1) := by decide +kernel
theorem dX8_meets_52 : decode cX8_meets 52 = .ok (.if_icmp .ge 8, 3) := by decide +kernel
theorem dX8_meets_55 : decode cX8_meets 55 = .ok (.iload 4, 2) := by decide +kernel
theorem dX8_meets_57 : decode cX8_meets 57 = .ok (.goto 10, 3) := by decide +kernel
theorem dX8_meets_60 : decode cX8_meets 60 = .ok (.aload_n 0, 1) := by decide +kernel
theorem dX8_meets_61 : decode cX8_meets 61 = .ok (.getfield 18, 3) := by decide +kernel
theorem dX8_meets_64 : decode cX8_meets 64 = .ok (.iload 5, 2) := by decide +kernel
theorem dX8_meets_66 : decode cX8_meets 66 = .ok (.iaload, 1) := by decide +kernel
theorem dX8_meets_67 : decode cX8_meets 67 = .ok (.iastore, 1) := by decide +kernel
theorem dX8_meets_68 : decode cX8_meets 68 = .ok (.aload_n 0, 1) := by decide +kernel
theorem dX8_meets_69 : decode cX8_meets 69 = .ok (.getfield 21, 3) := by decide +kernel
theorem dX8_meets_72 : decode cX8_meets 72 = .ok (.iload 5, 2) := by decide +kernel
theorem dX8_meets_74 : decode cX8_meets 74 = .ok (.aload_n 0, 1) := by decide +kernel
theorem dX8_meets_75 : decode cX8_meets 75 = .ok (.getfield 24, 3) := by decide +kernel
theorem dX8_meets_78 : decode cX8_meets 78 = .ok (.iload_n 1, 1) := by decide +kernel
theorem dX8_meets_79 : decode cX8_meets 79 = .ok (.baload, 1) := by decide +kernel
theorem dX8_meets_80 : decode cX8_meets 80 = .ok (.ifCond .eq 15, 3) := by decide +kernel
theorem dX8_meets_83 : decode cX8_meets 83 = .ok (.iload 4, 2) := by decide +kernel
theorem dX8_meets_85 : decode cX8_meets 85 = .ok (.aload_n 0, 1) := by decide +kernel
theorem dX8_meets_86 : decode cX8_meets 86 = .ok (.getfield 21, 3) := by decide +kernel
theorem dX8_meets_89 : decode cX8_meets 89 = .ok (.iload 5, 2) := by decide +kernel
theorem dX8_meets_91 : decode cX8_meets 91 = .ok (.iaload, 1) := by decide +kernel
theorem dX8_meets_92 : decode cX8_meets 92 = .ok (.if_icmp .le 8, 3) := by decide +kernel
theorem dX8_meets_95 : decode cX8_meets 95 = .ok (.iload 4, 2) := by decide +kernel
theorem dX8_meets_97 : decode cX8_meets 97 = .ok (.goto 10, 3) := by decide +kernel
theorem dX8_meets_100 : decode cX8_meets 100 = .ok (.aload_n 0, 1) := by decide +kernel
theorem dX8_meets_101 : decode cX8_meets 101 = .ok (.getfield 21, 3) := by decide +kernel
theorem dX8_meets_104 : decode cX8_meets 104 = .ok (.iload 5, 2) := by decide +kernel
theorem dX8_meets_106 : decode cX8_meets 106 = .ok (.iaload, 1) := by decide +kernel
theorem dX8_meets_107 : decode cX8_meets 107 = .ok (.iastore, 1) := by decide +kernel
theorem dX8_meets_108 : decode cX8_meets 108 = .ok (.iinc 3 1, 3) := by decide +kernel
theorem dX8_meets_111 : decode cX8_meets 111 = .ok (.goto (-109), 3) := by decide +kernel
theorem dX8_meets_114 : decode cX8_meets 114 = .ok (.aload_n 0, 1) := by decide +kernel
theorem dX8_meets_115 : decode cX8_meets 115 = .ok (.getfield 24, 3) := by decide +kernel
theorem dX8_meets_118 : decode cX8_meets 118 = .ok (.iload_n 1, 1) := by decide +kernel
theorem dX8_meets_119 : decode cX8_meets 119 = .ok (.iconst 1, 1) := by decide +kernel
theorem dX8_meets_120 : decode cX8_meets 120 = .ok (.bastore, 1) := by decide +kernel
theorem dX8_meets_121 : decode cX8_meets 121 = .ok (.return_, 1) := by decide +kernel
theorem dX8_isClose_0 : decode cX8_isClose 0 = .ok (.iconst 0, 1) := by decide +kernel
theorem dX8_isClose_1 : decode cX8_isClose 1 = .ok (.istore_n 2, 1) := by decide +kernel
theorem dX8_isClose_2 : decode cX8_isClose 2 = .ok (.iconst 0, 1) := by decide +kernel
theorem dX8_isClose_3 : decode cX8_isClose 3 = .ok (.istore_n 3, 1) := by decide +kernel
theorem dX8_isClose_4 : decode cX8_isClose 4 = .ok (.iload_n 3, 1) := by decide +kernel
theorem dX8_isClose_5 : decode cX8_isClose 5 = .ok (.aload_n 0, 1) := by decide +kernel
theorem dX8_isClose_6 : decode cX8_isClose 6 = .ok (.getfield 8, 3) := by decide +kernel
theorem dX8_isClose_9 : decode cX8_isClose 9 = .ok (.iconst 1, 1) := by decide +kernel
theorem dX8_isClose_10 : decode cX8_isClose 10 = .ok (.iaload, 1) := by decide +kernel
theorem dX8_isClose_11 : decode cX8_isClose 11 = .ok (.if_icmp .ge 53, 3) := by decide +kernel
theorem dX8_isClose_14 : decode cX8_isClose 14 = .ok (.iload_n 2, 1) := by decide +kernel
theorem dX8_isClose_15 : decode cX8_isClose 15 = .ok (.ifCond .ne 37, 3) := by decide +kernel
theorem dX8_isClose_18 : decode cX8_isClose 18 = .ok (.aload_n 0, 1) := by decide +kernel
theorem dX8_isClose_19 : decode cX8_isClose 19 = .ok (.getfield 21, 3) := by decide +kernel
theorem dX8_isClose_22 : decode cX8_isClose 22 = .ok (.bipush 10, 2) := by decide +kernel
theorem dX8_isClose_24 : decode cX8_isClose 24 = .ok (.iload_n 1, 1) := by decide +kernel
theorem dX8_isClose_25 : decode cX8_isClose 25 = .ok (.imul, 1) := by decide +kernel
theorem dX8_isClose_26 : decode cX8_isClose 26 = .ok (.iload_n 3, 1) := by decide +kernel
theorem dX8_isClose_27 : decode cX8_isClose 27 = .ok (.iadd, 1) := by decide +kernel
theorem dX8_isClose_28 : decode cX8_isClose 28 = .ok (.iaload, 1) := by decide +kernel
theorem dX8_isClose_29 : decode cX8_isClose 29 = .ok (.aload_n 0, 1) := by decide +kernel
theorem dX8_isClose_30 : decode cX8_isClose 30 = .ok (.getfield 18, 3) := by decide +kernel
theorem dX8_isClose_33 : decode cX8_isClose 33 = .ok (.bipush 10, 2) := by decide +kernel
theorem dX8_isClose_35 : decode cX8_isClose 35 = .ok (.iload_n 1, 1) := by decide +kernel
theorem dX8_isClose_36 : decode cX8_isClose 36 = .ok (.imul, 1) := by decide +kernel
theorem dX8_isClose_37 : decode cX8_isClose 37 = .ok (.iload_n 3, 1) := by decide +kernel
theorem dX8_isClose_38 : decode cX8_isClose 38 = .ok (.iadd, 1) := by decide +kernel
theorem dX8_isClose_39 : decode cX8_isClose 39 = .ok (.iaload, 1) := by decide +kernel
theorem dX8_isClose_40 : decode cX8_isClose 40 = .ok (.isub, 1) := by decide +kernel
theorem dX8_isClose_41 : decode cX8_isClose 41 = .ok (.iconst 1, 1) := by decide +kernel
theorem dX8_isClose_42 : decode cX8_isClose 42 = .ok (.iadd, 1) := by decide +kernel
theorem dX8_isClose_43 : decode cX8_isClose 43 = .ok (.aload_n 0, 1) := by decide +kernel
theorem dX8_isClose_44 : decode cX8_isClose 44 = .ok (.iload_n 3, 1) := by decide +kernel
theorem dX8_isClose_45 : decode cX8_isClose 45 = .ok (.iconst 3, 1) := by decide +kernel
theorem dX8_isClose_46 : decode cX8_isClose 46 = .ok (.invokevirtual 44, 3) := by decide +kernel
theorem dX8_isClose_49 : decode cX8_isClose 49 = .ok (.if_icmp .ge 7, 3) := by decide +kernel
theorem dX8_isClose_52 : decode cX8_isClose 52 = .ok (.iconst 1, 1) := by decide +kernel
theorem dX8_isClose_53 : decode cX8_isClose 53 = .ok (.goto 4, 3) := by decide +kernel
theorem dX8_isClose_56 : decode cX8_isClose 56 = .ok (.iconst 0, 1) := by decide +kernel
theorem dX8_isClose_57 : decode cX8_isClose 57 = .ok (.istore_n 2, 1) := by decide +kernel
theorem dX8_isClose_58 : decode cX8_isClose 58 = .ok (.iinc 3 1, 3) := by decide +kernel
theorem dX8_isClose_61 : decode cX8_isClose 61 = .ok (.goto (-57), 3) := by decide +kernel
theorem dX8_isClose_64 : decode cX8_isClose 64 = .ok (.iload_n 2, 1) := by decide +kernel
theorem dX8_isClose_65 : decode cX8_isClose 65 = .ok (.ireturn, 1) := by decide +kernel
theorem dX8_clears_0 : decode cX8_clears 0 = .ok (.iconst 0, 1) := by decide +kernel
theorem dX8_clears_1 : decode cX8_clears 1 = .ok (.istore_n 1, 1) := by decide +kernel
theorem dX8_clears_2 : decode cX8_clears 2 = .ok (.iload_n 1, 1) := by decide +kernel
theorem dX8_clears_3 : decode cX8_clears 3 = .ok (.bipush 61, 2) := by decide +kernel
theorem dX8_clears_5 : decode cX8_clears 5 = .ok (.if_icmp .ge 16, 3) := by decide +kernel
theorem dX8_clears_8 : decode cX8_clears 8 = .ok (.aload_n 0, 1) := by decide +kernel
theorem dX8_clears_9 : decode cX8_clears 9 = .ok (.getfield 24, 3) := by decide +kernel
theorem dX8_clears_12 : decode cX8_clears 12 = .ok (.iload_n 1, 1) := by decide +kernel
theorem dX8_clears_13 : decode cX8_clears 13 = .ok (.iconst 0, 1) := by decide +kernel
theorem dX8_clears_14 : decode cX8_clears 14 = .ok (.bastore, 1) := by decide +kernel
theorem dX8_clears_15 : decode cX8_clears 15 = .ok (.iinc 1 1, 3) := by decide +kernel
theorem dX8_clears_18 : decode cX8_clears 18 = .ok (.goto (-16), 3) := by decide +kernel
theorem dX8_clears_21 : decode cX8_clears 21 = .ok (.return_, 1) := by decide +kernel
theorem dX8_judged_0 : decode cX8_judged 0 = .ok (.aload_n 0, 1) := by decide +kernel
theorem dX8_judged_1 : decode cX8_judged 1 = .ok (.invokevirtual 90, 3) := by decide +kernel
theorem dX8_judged_4 : decode cX8_judged 4 = .ok (.iconst 0, 1) := by decide +kernel
theorem dX8_judged_5 : decode cX8_judged 5 = .ok (.istore 5, 2) := by decide +kernel
theorem dX8_judged_7 : decode cX8_judged 7 = .ok (.iconst 0, 1) := by decide +kernel
theorem dX8_judged_8 : decode cX8_judged 8 = .ok (.istore 6, 2) := by decide +kernel
theorem dX8_judged_10 : decode cX8_judged 10 = .ok (.iload 6, 2) := by decide +kernel
theorem dX8_judged_12 : decode cX8_judged 12 = .ok (.aload_n 0, 1) := by decide +kernel
theorem dX8_judged_13 : decode cX8_judged 13 = .ok (.getfield 8, 3) := by decide +kernel
theorem dX8_judged_16 : decode cX8_judged 16 = .ok (.iconst 2, 1) := by decide +kernel
theorem dX8_judged_17 : decode cX8_judged 17 = .ok (.iaload, 1) := by decide +kernel
theorem dX8_judged_18 : decode cX8_judged 18 = .ok (.if_icmp .ge 62, 3) := by decide +kernel
theorem dX8_judged_21 : decode cX8_judged 21 = .ok (.aload_n 0, 1) := by decide +kernel
theorem dX8_judged_22 : decode cX8_judged 22 = .ok (.iload_n 1, 1) := by decide +kernel
theorem dX8_judged_23 : decode cX8_judged 23 = .ok (.iload 6, 2) := by decide +kernel
theorem dX8_judged_25 : decode cX8_judged 25 = .ok (.invokevirtual 93, 3) := by decide +kernel
theorem dX8_judged_28 : decode cX8_judged 28 = .ok (.ifCond .ne 6, 3) := by decide +kernel
theorem dX8_judged_31 : decode cX8_judged 31 = .ok (.goto 43, 3) := by decide +kernel
theorem dX8_judged_34 : decode cX8_judged 34 = .ok (.aload_n 0, 1) := by decide +kernel
theorem dX8_judged_35 : decode cX8_judged 35 = .ok (.iload 6, 2) := by decide +kernel
theorem dX8_judged_37 : decode cX8_judged 37 = .ok (.iload_n 2, 1) := by decide +kernel
theorem dX8_judged_38 : decode cX8_judged 38 = .ok (.iload_n 3, 1) := by decide +kernel
theorem dX8_judged_39 : decode cX8_judged 39 = .ok (.iload 4, 2) := by decide +kernel
theorem dX8_judged_41 : decode cX8_judged 41 = .ok (.invokevirtual 96, 3) := by decide +kernel
theorem dX8_judged_44 : decode cX8_judged 44 = .ok (.istore 7, 2) := by decide +kernel
theorem dX8_judged_46 : decode cX8_judged 46 = .ok (.iload 5, 2) := by decide +kernel
theorem dX8_judged_48 : decode cX8_judged 48 = .ok (.aload_n 0, 1) := by decide +kernel
theorem dX8_judged_49 : decode cX8_judged 49 = .ok (.getfield 24, 3) := by decide +kernel
theorem dX8_judged_52 : decode cX8_judged 52 = .ok (.iload 7, 2) := by decide +kernel
theorem dX8_judged_54 : decode cX8_judged 54 = .ok (.baload, 1) := by decide +kernel
theorem dX8_judged_55 : decode cX8_judged 55 = .ok (.ifCond .eq 7, 3) := by decide +kernel
theorem dX8_judged_58 : decode cX8_judged 58 = .ok (.iconst 0, 1) := by decide +kernel
theorem dX8_judged_59 : decode cX8_judged 59 = .ok (.goto 4, 3) := by decide +kernel
theorem dX8_judged_62 : decode cX8_judged 62 = .ok (.iconst 1, 1) := by decide +kernel
theorem dX8_judged_63 : decode cX8_judged 63 = .ok (.iadd, 1) := by decide +kernel
theorem dX8_judged_64 : decode cX8_judged 64 = .ok (.istore 5, 2) := by decide +kernel
theorem dX8_judged_66 : decode cX8_judged 66 = .ok (.aload_n 0, 1) := by decide +kernel
theorem dX8_judged_67 : decode cX8_judged 67 = .ok (.iload 7, 2) := by decide +kernel
theorem dX8_judged_69 : decode cX8_judged 69 = .ok (.iload 6, 2) := by decide +kernel
theorem dX8_judged_71 : decode cX8_judged 71 = .ok (.invokevirtual 100, 3) := by decide +kernel
theorem dX8_judged_74 : decode cX8_judged 74 = .ok (.iinc 6 1, 3) := by decide +kernel
theorem dX8_judged_77 : decode cX8_judged 77 = .ok (.goto (-67), 3) := by decide +kernel
theorem dX8_judged_80 : decode cX8_judged 80 = .ok (.iload 5, 2) := by decide +kernel
theorem dX8_judged_82 : decode cX8_judged 82 = .ok (.iconst 1, 1) := by decide +kernel
theorem dX8_judged_83 : decode cX8_judged 83 = .ok (.if_icmp .ne 5, 3) := by decide +kernel
theorem dX8_judged_86 : decode cX8_judged 86 = .ok (.iconst 2, 1) := by decide +kernel
theorem dX8_judged_87 : decode cX8_judged 87 = .ok (.ireturn, 1) := by decide +kernel
theorem dX8_judged_88 : decode cX8_judged 88 = .ok (.iconst 0, 1) := by decide +kernel
theorem dX8_judged_89 : decode cX8_judged 89 = .ok (.istore 6, 2) := by decide +kernel
theorem dX8_judged_91 : decode cX8_judged 91 = .ok (.iload 6, 2) := by decide +kernel
theorem dX8_judged_93 : decode cX8_judged 93 = .ok (.bipush 61, 2) := by decide +kernel
theorem dX8_judged_95 : decode cX8_judged 95 = .ok (.if_icmp .ge 30, 3) := by decide +kernel
theorem dX8_judged_98 : decode cX8_judged 98 = .ok (.aload_n 0, 1) := by decide +kernel
theorem dX8_judged_99 : decode cX8_judged 99 = .ok (.getfield 24, 3) := by decide +kernel
theorem dX8_judged_102 : decode cX8_judged 102 = .ok (.iload 6, 2) := by decide +kernel
theorem dX8_judged_104 : decode cX8_judged 104 = .ok (.baload, 1) := by decide +kernel
theorem dX8_judged_105 : decode cX8_judged 105 = .ok (.ifCond .eq 14, 3) := by decide +kernel
theorem dX8_judged_108 : decode cX8_judged 108 = .ok (.aload_n 0, 1) := by decide +kernel
theorem dX8_judged_109 : decode cX8_judged 109 = .ok (.iload 6, 2) := by decide +kernel
theorem dX8_judged_111 : decode cX8_judged 111 = .ok (.invokevirtual 103, 3) := by decide +kernel
theorem dX8_judged_114 : decode cX8_judged 114 = .ok (.ifCond .eq 5, 3) := by decide +kernel
theorem dX8_judged_117 : decode cX8_judged 117 = .ok (.iconst 0, 1) := by decide +kernel
theorem dX8_judged_118 : decode cX8_judged 118 = .ok (.ireturn, 1) := by decide +kernel
theorem dX8_judged_119 : decode cX8_judged 119 = .ok (.iinc 6 1, 3) := by decide +kernel
theorem dX8_judged_122 : decode cX8_judged 122 = .ok (.goto (-31), 3) := by decide +kernel
theorem dX8_judged_125 : decode cX8_judged 125 = .ok (.iconst 1, 1) := by decide +kernel
theorem dX8_judged_126 : decode cX8_judged 126 = .ok (.ireturn, 1) := by decide +kernel
theorem dX8_would_0 : decode cX8_would 0 = .ok (.iload_n 1, 1) := by decide +kernel
theorem dX8_would_1 : decode cX8_would 1 = .ok (.invokestatic 106, 3) := by decide +kernel
theorem dX8_would_4 : decode cX8_would 4 = .ok (.ifCond .eq 28, 3) := by decide +kernel
theorem dX8_would_7 : decode cX8_would 7 = .ok (.iload_n 2, 1) := by decide +kernel
theorem dX8_would_8 : decode cX8_would 8 = .ok (.iload 4, 2) := by decide +kernel
theorem dX8_would_10 : decode cX8_would 10 = .ok (.invokestatic 109, 3) := by decide +kernel
theorem dX8_would_13 : decode cX8_would 13 = .ok (.ifCond .eq 19, 3) := by decide +kernel
theorem dX8_would_16 : decode cX8_would 16 = .ok (.aload_n 0, 1) := by decide +kernel
theorem dX8_would_17 : decode cX8_would 17 = .ok (.iload_n 1, 1) := by decide +kernel
theorem dX8_would_18 : decode cX8_would 18 = .ok (.iload_n 2, 1) := by decide +kernel
theorem dX8_would_19 : decode cX8_would 19 = .ok (.aload_n 0, 1) := by decide +kernel
theorem dX8_would_20 : decode cX8_would 20 = .ok (.iload_n 3, 1) := by decide +kernel
theorem dX8_would_21 : decode cX8_would 21 = .ok (.invokevirtual 112, 3) := by decide +kernel
theorem dX8_would_24 : decode cX8_would 24 = .ok (.iload 4, 2) := by decide +kernel
theorem dX8_would_26 : decode cX8_would 26 = .ok (.invokevirtual 115, 3) := by decide +kernel
theorem dX8_would_29 : decode cX8_would 29 = .ok (.goto 4, 3) := by decide +kernel
theorem dX8_would_32 : decode cX8_would 32 = .ok (.iconst (-1), 1) := by decide +kernel
theorem dX8_would_33 : decode cX8_would 33 = .ok (.ireturn, 1) := by decide +kernel
theorem dX8_known_0 : decode cX8_known 0 = .ok (.iload_n 1, 1) := by decide +kernel
theorem dX8_known_1 : decode cX8_known 1 = .ok (.iconst 1, 1) := by decide +kernel
theorem dX8_known_2 : decode cX8_known 2 = .ok (.aload_n 0, 1) := by decide +kernel
theorem dX8_known_3 : decode cX8_known 3 = .ok (.getfield 8, 3) := by decide +kernel
theorem dX8_known_6 : decode cX8_known 6 = .ok (.iconst 0, 1) := by decide +kernel
theorem dX8_known_7 : decode cX8_known 7 = .ok (.iaload, 1) := by decide +kernel
theorem dX8_known_8 : decode cX8_known 8 = .ok (.ishl, 1) := by decide +kernel
theorem dX8_known_9 : decode cX8_known 9 = .ok (.iconst 1, 1) := by decide +kernel
theorem dX8_known_10 : decode cX8_known 10 = .ok (.isub, 1) := by decide +kernel
theorem dX8_known_11 : decode cX8_known 11 = .ok (.iand, 1) := by decide +kernel
theorem dX8_known_12 : decode cX8_known 12 = .ok (.ireturn, 1) := by decide +kernel
theorem dX8_ask_0 : decode cX8_ask 0 = .ok (.iload_n 1, 1) := by decide +kernel
theorem dX8_ask_1 : decode cX8_ask 1 = .ok (.invokestatic 106, 3) := by decide +kernel
theorem dX8_ask_4 : decode cX8_ask 4 = .ok (.ifCond .eq 24, 3) := by decide +kernel
theorem dX8_ask_7 : decode cX8_ask 7 = .ok (.iload_n 2, 1) := by decide +kernel
theorem dX8_ask_8 : decode cX8_ask 8 = .ok (.iload 4, 2) := by decide +kernel
theorem dX8_ask_10 : decode cX8_ask 10 = .ok (.invokestatic 109, 3) := by decide +kernel
theorem dX8_ask_13 : decode cX8_ask 13 = .ok (.ifCond .eq 15, 3) := by decide +kernel
theorem dX8_ask_16 : decode cX8_ask 16 = .ok (.aload_n 0, 1) := by decide +kernel
theorem dX8_ask_17 : decode cX8_ask 17 = .ok (.getfield 8, 3) := by decide +kernel
theorem dX8_ask_20 : decode cX8_ask 20 = .ok (.iconst 3, 1) := by decide +kernel
theorem dX8_ask_21 : decode cX8_ask 21 = .ok (.iaload, 1) := by decide +kernel
theorem dX8_ask_22 : decode cX8_ask 22 = .ok (.sipush 200, 3) := by decide +kernel
theorem dX8_ask_25 : decode cX8_ask 25 = .ok (.if_icmp .ne 5, 3) := by decide +kernel
theorem dX8_ask_28 : decode cX8_ask 28 = .ok (.iconst (-1), 1) := by decide +kernel
theorem dX8_ask_29 : decode cX8_ask 29 = .ok (.ireturn, 1) := by decide +kernel
theorem dX8_ask_30 : decode cX8_ask 30 = .ok (.aload_n 0, 1) := by decide +kernel
theorem dX8_ask_31 : decode cX8_ask 31 = .ok (.iload_n 3, 1) := by decide +kernel
theorem dX8_ask_32 : decode cX8_ask 32 = .ok (.invokevirtual 112, 3) := by decide +kernel
theorem dX8_ask_35 : decode cX8_ask 35 = .ok (.istore 5, 2) := by decide +kernel
theorem dX8_ask_37 : decode cX8_ask 37 = .ok (.aload_n 0, 1) := by decide +kernel
theorem dX8_ask_38 : decode cX8_ask 38 = .ok (.iload_n 1, 1) := by decide +kernel
theorem dX8_ask_39 : decode cX8_ask 39 = .ok (.iload_n 2, 1) := by decide +kernel
theorem dX8_ask_40 : decode cX8_ask 40 = .ok (.iload 5, 2) := by decide +kernel
theorem dX8_ask_42 : decode cX8_ask 42 = .ok (.iload 4, 2) := by decide +kernel
theorem dX8_ask_44 : decode cX8_ask 44 = .ok (.invokevirtual 115, 3) := by decide +kernel
theorem dX8_ask_47 : decode cX8_ask 47 = .ok (.ifCond .ne 8, 3) := by decide +kernel
theorem dX8_ask_50 : decode cX8_ask 50 = .ok (.bipush (-2), 2) := by decide +kernel
theorem dX8_ask_52 : decode cX8_ask 52 = .ok (.goto 12, 3) := by decide +kernel
theorem dX8_ask_55 : decode cX8_ask 55 = .ok (.aload_n 0, 1) := by decide +kernel
theorem dX8_ask_56 : decode cX8_ask 56 = .ok (.iload_n 2, 1) := by decide +kernel
theorem dX8_ask_57 : decode cX8_ask 57 = .ok (.iload 5, 2) := by decide +kernel
theorem dX8_ask_59 : decode cX8_ask 59 = .ok (.iload 4, 2) := by decide +kernel
theorem dX8_ask_61 : decode cX8_ask 61 = .ok (.invokevirtual 118, 3) := by decide +kernel
theorem dX8_ask_64 : decode cX8_ask 64 = .ok (.istore 6, 2) := by decide +kernel
theorem dX8_ask_66 : decode cX8_ask 66 = .ok (.bipush 100, 2) := by decide +kernel
theorem dX8_ask_68 : decode cX8_ask 68 = .ok (.iconst 5, 1) := by decide +kernel
theorem dX8_ask_69 : decode cX8_ask 69 = .ok (.aload_n 0, 1) := by decide +kernel
theorem dX8_ask_70 : decode cX8_ask 70 = .ok (.getfield 8, 3) := by decide +kernel
theorem dX8_ask_73 : decode cX8_ask 73 = .ok (.iconst 3, 1) := by decide +kernel
theorem dX8_ask_74 : decode cX8_ask 74 = .ok (.iaload, 1) := by decide +kernel
theorem dX8_ask_75 : decode cX8_ask 75 = .ok (.imul, 1) := by decide +kernel
theorem dX8_ask_76 : decode cX8_ask 76 = .ok (.iadd, 1) := by decide +kernel
theorem dX8_ask_77 : decode cX8_ask 77 = .ok (.istore 7, 2) := by decide +kernel
theorem dX8_ask_79 : decode cX8_ask 79 = .ok (.aload_n 0, 1) := by decide +kernel
theorem dX8_ask_80 : decode cX8_ask 80 = .ok (.getfield 8, 3) := by decide +kernel
theorem dX8_ask_83 : decode cX8_ask 83 = .ok (.iload 7, 2) := by decide +kernel
theorem dX8_ask_85 : decode cX8_ask 85 = .ok (.iload_n 1, 1) := by decide +kernel
theorem dX8_ask_86 : decode cX8_ask 86 = .ok (.iastore, 1) := by decide +kernel
theorem dX8_ask_87 : decode cX8_ask 87 = .ok (.aload_n 0, 1) := by decide +kernel
theorem dX8_ask_88 : decode cX8_ask 88 = .ok (.getfield 8, 3) := by decide +kernel
theorem dX8_ask_91 : decode cX8_ask 91 = .ok (.iload 7, 2) := by decide +kernel
theorem dX8_ask_93 : decode cX8_ask 93 = .ok (.iconst 1, 1) := by decide +kernel
theorem dX8_ask_94 : decode cX8_ask 94 = .ok (.iadd, 1) := by decide +kernel
theorem dX8_ask_95 : decode cX8_ask 95 = .ok (.iload_n 2, 1) := by decide +kernel
theorem dX8_ask_96 : decode cX8_ask 96 = .ok (.iastore, 1) := by decide +kernel
theorem dX8_ask_97 : decode cX8_ask 97 = .ok (.aload_n 0, 1) := by decide +kernel
theorem dX8_ask_98 : decode cX8_ask 98 = .ok (.getfield 8, 3) := by decide +kernel
theorem dX8_ask_101 : decode cX8_ask 101 = .ok (.iload 7, 2) := by decide +kernel
theorem dX8_ask_103 : decode cX8_ask 103 = .ok (.iconst 2, 1) := by decide +kernel
theorem dX8_ask_104 : decode cX8_ask 104 = .ok (.iadd, 1) := by decide +kernel
theorem dX8_ask_105 : decode cX8_ask 105 = .ok (.aload_n 0, 1) := by decide +kernel
theorem dX8_ask_106 : decode cX8_ask 106 = .ok (.iload_n 3, 1) := by decide +kernel
theorem dX8_ask_107 : decode cX8_ask 107 = .ok (.invokevirtual 122, 3) := by decide +kernel
theorem dX8_ask_110 : decode cX8_ask 110 = .ok (.iastore, 1) := by decide +kernel
theorem dX8_ask_111 : decode cX8_ask 111 = .ok (.aload_n 0, 1) := by decide +kernel
theorem dX8_ask_112 : decode cX8_ask 112 = .ok (.getfield 8, 3) := by decide +kernel
theorem dX8_ask_115 : decode cX8_ask 115 = .ok (.iload 7, 2) := by decide +kernel
theorem dX8_ask_117 : decode cX8_ask 117 = .ok (.iconst 3, 1) := by decide +kernel
theorem dX8_ask_118 : decode cX8_ask 118 = .ok (.iadd, 1) := by decide +kernel
theorem dX8_ask_119 : decode cX8_ask 119 = .ok (.iload 4, 2) := by decide +kernel
theorem dX8_ask_121 : decode cX8_ask 121 = .ok (.iastore, 1) := by decide +kernel
theorem dX8_ask_122 : decode cX8_ask 122 = .ok (.aload_n 0, 1) := by decide +kernel
theorem dX8_ask_123 : decode cX8_ask 123 = .ok (.getfield 8, 3) := by decide +kernel
theorem dX8_ask_126 : decode cX8_ask 126 = .ok (.iload 7, 2) := by decide +kernel
theorem dX8_ask_128 : decode cX8_ask 128 = .ok (.iconst 4, 1) := by decide +kernel
theorem dX8_ask_129 : decode cX8_ask 129 = .ok (.iadd, 1) := by decide +kernel
theorem dX8_ask_130 : decode cX8_ask 130 = .ok (.iload 6, 2) := by decide +kernel
theorem dX8_ask_132 : decode cX8_ask 132 = .ok (.iastore, 1) := by decide +kernel
theorem dX8_ask_133 : decode cX8_ask 133 = .ok (.aload_n 0, 1) := by decide +kernel
theorem dX8_ask_134 : decode cX8_ask 134 = .ok (.getfield 8, 3) := by decide +kernel
theorem dX8_ask_137 : decode cX8_ask 137 = .ok (.iconst 3, 1) := by decide +kernel
theorem dX8_ask_138 : decode cX8_ask 138 = .ok (.dup2, 1) := by decide +kernel
theorem dX8_ask_139 : decode cX8_ask 139 = .ok (.iaload, 1) := by decide +kernel
theorem dX8_ask_140 : decode cX8_ask 140 = .ok (.iconst 1, 1) := by decide +kernel
theorem dX8_ask_141 : decode cX8_ask 141 = .ok (.iadd, 1) := by decide +kernel
theorem dX8_ask_142 : decode cX8_ask 142 = .ok (.iastore, 1) := by decide +kernel
theorem dX8_ask_143 : decode cX8_ask 143 = .ok (.iload 6, 2) := by decide +kernel
theorem dX8_ask_145 : decode cX8_ask 145 = .ok (.bipush (-2), 2) := by decide +kernel
theorem dX8_ask_147 : decode cX8_ask 147 = .ok (.if_icmp .ne 16, 3) := by decide +kernel
theorem dX8_ask_150 : decode cX8_ask 150 = .ok (.aload_n 0, 1) := by decide +kernel
theorem dX8_ask_151 : decode cX8_ask 151 = .ok (.getfield 8, 3) := by decide +kernel
theorem dX8_ask_154 : decode cX8_ask 154 = .ok (.iconst 4, 1) := by decide +kernel
theorem dX8_ask_155 : decode cX8_ask 155 = .ok (.dup2, 1) := by decide +kernel
theorem dX8_ask_156 : decode cX8_ask 156 = .ok (.iaload, 1) := by decide +kernel
theorem dX8_ask_157 : decode cX8_ask 157 = .ok (.iconst 1, 1) := by decide +kernel
theorem dX8_ask_158 : decode cX8_ask 158 = .ok (.iadd, 1) := by decide +kernel
theorem dX8_ask_159 : decode cX8_ask 159 = .ok (.iastore, 1) := by decide +kernel
theorem dX8_ask_160 : decode cX8_ask 160 = .ok (.iload 6, 2) := by decide +kernel
theorem dX8_ask_162 : decode cX8_ask 162 = .ok (.ireturn, 1) := by decide +kernel
theorem dX8_ask_163 : decode cX8_ask 163 = .ok (.iconst 0, 1) := by decide +kernel
theorem dX8_ask_164 : decode cX8_ask 164 = .ok (.istore 8, 2) := by decide +kernel
theorem dX8_ask_166 : decode cX8_ask 166 = .ok (.iload 8, 2) := by decide +kernel
theorem dX8_ask_168 : decode cX8_ask 168 = .ok (.aload_n 0, 1) := by decide +kernel
theorem dX8_ask_169 : decode cX8_ask 169 = .ok (.getfield 8, 3) := by decide +kernel
theorem dX8_ask_172 : decode cX8_ask 172 = .ok (.iconst 2, 1) := by decide +kernel
theorem dX8_ask_173 : decode cX8_ask 173 = .ok (.iaload, 1) := by decide +kernel
theorem dX8_ask_174 : decode cX8_ask 174 = .ok (.if_icmp .ge 94, 3) := by decide +kernel
theorem dX8_ask_177 : decode cX8_ask 177 = .ok (.aload_n 0, 1) := by decide +kernel
theorem dX8_ask_178 : decode cX8_ask 178 = .ok (.iload_n 1, 1) := by decide +kernel
theorem dX8_ask_179 : decode cX8_ask 179 = .ok (.iload 8, 2) := by decide +kernel
theorem dX8_ask_181 : decode cX8_ask 181 = .ok (.invokevirtual 93, 3) := by decide +kernel
theorem dX8_ask_184 : decode cX8_ask 184 = .ok (.ifCond .eq 78, 3) := by decide +kernel
theorem dX8_ask_187 : decode cX8_ask 187 = .ok (.aload_n 0, 1) := by decide +kernel
theorem dX8_ask_188 : decode cX8_ask 188 = .ok (.iload 8, 2) := by decide +kernel
theorem dX8_ask_190 : decode cX8_ask 190 = .ok (.iload_n 2, 1) := by decide +kernel
theorem dX8_ask_191 : decode cX8_ask 191 = .ok (.iload 5, 2) := by decide +kernel
theorem dX8_ask_193 : decode cX8_ask 193 = .ok (.iload 4, 2) := by decide +kernel
theorem dX8_ask_195 : decode cX8_ask 195 = .ok (.invokevirtual 96, 3) := by decide +kernel
theorem dX8_ask_198 : decode cX8_ask 198 = .ok (.iload 6, 2) := by decide +kernel
theorem dX8_ask_200 : decode cX8_ask 200 = .ok (.if_icmp .ne 6, 3) := by decide +kernel
theorem dX8_ask_203 : decode cX8_ask 203 = .ok (.goto 59, 3) := by decide +kernel
theorem dX8_ask_206 : decode cX8_ask 206 = .ok (.iconst 0, 1) := by decide +kernel
theorem dX8_ask_207 : decode cX8_ask 207 = .ok (.istore 9, 2) := by decide +kernel
theorem dX8_ask_209 : decode cX8_ask 209 = .ok (.iload 9, 2) := by decide +kernel
theorem dX8_ask_211 : decode cX8_ask 211 = .ok (.iconst 4, 1) := by decide +kernel
theorem dX8_ask_212 : decode cX8_ask 212 = .ok (.if_icmp .ge 50, 3) := by decide +kernel
theorem dX8_ask_215 : decode cX8_ask 215 = .ok (.aload_n 0, 1) := by decide +kernel
theorem dX8_ask_216 : decode cX8_ask 216 = .ok (.getfield 8, 3) := by decide +kernel
theorem dX8_ask_219 : decode cX8_ask 219 = .ok (.bipush 6, 2) := by decide +kernel
theorem dX8_ask_221 : decode cX8_ask 221 = .ok (.iload 9, 2) := by decide +kernel
theorem dX8_ask_223 : decode cX8_ask 223 = .ok (.iadd, 1) := by decide +kernel
theorem dX8_ask_224 : decode cX8_ask 224 = .ok (.iaload, 1) := by decide +kernel
theorem dX8_ask_225 : decode cX8_ask 225 = .ok (.aload_n 0, 1) := by decide +kernel
theorem dX8_ask_226 : decode cX8_ask 226 = .ok (.getfield 8, 3) := by decide +kernel
theorem dX8_ask_229 : decode cX8_ask 229 = .ok (.bipush 6, 2) := by decide +kernel
theorem dX8_ask_231 : decode cX8_ask 231 = .ok (.iload_n 1, 1) := by decide +kernel
theorem dX8_ask_232 : decode cX8_ask 232 = .ok (.iadd, 1) := by decide +kernel
theorem dX8_ask_233 : decode cX8_ask 233 = .ok (.iaload, 1) := by decide +kernel
theorem dX8_ask_234 : decode cX8_ask 234 = .ok (.if_icmp .ne 22, 3) := by decide +kernel
theorem dX8_ask_237 : decode cX8_ask 237 = .ok (.aload_n 0, 1) := by decide +kernel
theorem dX8_ask_238 : decode cX8_ask 238 = .ok (.getfield 8, 3) := by decide +kernel
theorem dX8_ask_241 : decode cX8_ask 241 = .ok (.sipush 1130, 3) := by decide +kernel
theorem dX8_ask_244 : decode cX8_ask 244 = .ok (.sipush 4096, 3) := by decide +kernel
theorem dX8_ask_247 : decode cX8_ask 247 = .ok (.iload 9, 2) := by decide +kernel
theorem dX8_ask_249 : decode cX8_ask 249 = .ok (.imul, 1) := by decide +kernel
theorem dX8_ask_250 : decode cX8_ask 250 = .ok (.iadd, 1) := by decide +kernel
theorem dX8_ask_251 : decode cX8_ask 251 = .ok (.iload 8, 2) := by decide +kernel
theorem dX8_ask_253 : decode cX8_ask 253 = .ok (.iadd, 1) := by decide +kernel
theorem dX8_ask_254 : decode cX8_ask 254 = .ok (.iconst 0, 1) := by decide +kernel
theorem dX8_ask_255 : decode cX8_ask 255 = .ok (.iastore, 1) := by decide +kernel
theorem dX8_ask_256 : decode cX8_ask 256 = .ok (.iinc 9 1, 3) := by decide +kernel
theorem dX8_ask_259 : decode cX8_ask 259 = .ok (.goto (-50), 3) := by decide +kernel
theorem dX8_ask_262 : decode cX8_ask 262 = .ok (.iinc 8 1, 3) := by decide +kernel
theorem dX8_ask_265 : decode cX8_ask 265 = .ok (.goto (-99), 3) := by decide +kernel
theorem dX8_ask_268 : decode cX8_ask 268 = .ok (.iload 6, 2) := by decide +kernel
theorem dX8_ask_270 : decode cX8_ask 270 = .ok (.ireturn, 1) := by decide +kernel
theorem dX8_join_0 : decode cX8_join 0 = .ok (.iload_n 1, 1) := by decide +kernel
theorem dX8_join_1 : decode cX8_join 1 = .ok (.invokestatic 106, 3) := by decide +kernel
theorem dX8_join_4 : decode cX8_join 4 = .ok (.ifCond .eq 31, 3) := by decide +kernel
theorem dX8_join_7 : decode cX8_join 7 = .ok (.iload_n 2, 1) := by decide +kernel
theorem dX8_join_8 : decode cX8_join 8 = .ok (.invokestatic 106, 3) := by decide +kernel
theorem dX8_join_11 : decode cX8_join 11 = .ok (.ifCond .eq 24, 3) := by decide +kernel
theorem dX8_join_14 : decode cX8_join 14 = .ok (.aload_n 0, 1) := by decide +kernel
theorem dX8_join_15 : decode cX8_join 15 = .ok (.getfield 8, 3) := by decide +kernel
theorem dX8_join_18 : decode cX8_join 18 = .ok (.bipush 6, 2) := by decide +kernel
theorem dX8_join_20 : decode cX8_join 20 = .ok (.iload_n 1, 1) := by decide +kernel
theorem dX8_join_21 : decode cX8_join 21 = .ok (.iadd, 1) := by decide +kernel
theorem dX8_join_22 : decode cX8_join 22 = .ok (.iaload, 1) := by decide +kernel
theorem dX8_join_23 : decode cX8_join 23 = .ok (.aload_n 0, 1) := by decide +kernel
theorem dX8_join_24 : decode cX8_join 24 = .ok (.getfield 8, 3) := by decide +kernel
theorem dX8_join_27 : decode cX8_join 27 = .ok (.bipush 6, 2) := by decide +kernel
theorem dX8_join_29 : decode cX8_join 29 = .ok (.iload_n 2, 1) := by decide +kernel
theorem dX8_join_30 : decode cX8_join 30 = .ok (.iadd, 1) := by decide +kernel
theorem dX8_join_31 : decode cX8_join 31 = .ok (.iaload, 1) := by decide +kernel
theorem dX8_join_32 : decode cX8_join 32 = .ok (.if_icmp .ne 5, 3) := by decide +kernel
theorem dX8_join_35 : decode cX8_join 35 = .ok (.iconst 0, 1) := by decide +kernel
theorem dX8_join_36 : decode cX8_join 36 = .ok (.ireturn, 1) := by decide +kernel
theorem dX8_join_37 : decode cX8_join 37 = .ok (.aload_n 0, 1) := by decide +kernel
theorem dX8_join_38 : decode cX8_join 38 = .ok (.getfield 8, 3) := by decide +kernel
theorem dX8_join_41 : decode cX8_join 41 = .ok (.bipush 6, 2) := by decide +kernel
theorem dX8_join_43 : decode cX8_join 43 = .ok (.iload_n 1, 1) := by decide +kernel
theorem dX8_join_44 : decode cX8_join 44 = .ok (.iadd, 1) := by decide +kernel
theorem dX8_join_45 : decode cX8_join 45 = .ok (.iaload, 1) := by decide +kernel
theorem dX8_join_46 : decode cX8_join 46 = .ok (.istore_n 3, 1) := by decide +kernel
theorem dX8_join_47 : decode cX8_join 47 = .ok (.aload_n 0, 1) := by decide +kernel
theorem dX8_join_48 : decode cX8_join 48 = .ok (.getfield 8, 3) := by decide +kernel
theorem dX8_join_51 : decode cX8_join 51 = .ok (.bipush 6, 2) := by decide +kernel
theorem dX8_join_53 : decode cX8_join 53 = .ok (.iload_n 2, 1) := by decide +kernel
theorem dX8_join_54 : decode cX8_join 54 = .ok (.iadd, 1) := by decide +kernel
theorem dX8_join_55 : decode cX8_join 55 = .ok (.iaload, 1) := by decide +kernel
theorem dX8_join_56 : decode cX8_join 56 = .ok (.istore 4, 2) := by decide +kernel
theorem dX8_join_58 : decode cX8_join 58 = .ok (.iload_n 3, 1) := by decide +kernel
theorem dX8_join_59 : decode cX8_join 59 = .ok (.iload 4, 2) := by decide +kernel
theorem dX8_join_61 : decode cX8_join 61 = .ok (.if_icmp .ge 7, 3) := by decide +kernel
theorem dX8_join_64 : decode cX8_join 64 = .ok (.iload_n 3, 1) := by decide +kernel
theorem dX8_join_65 : decode cX8_join 65 = .ok (.goto 5, 3) := by decide +kernel
theorem dX8_join_68 : decode cX8_join 68 = .ok (.iload 4, 2) := by decide +kernel
theorem dX8_join_70 : decode cX8_join 70 = .ok (.istore 5, 2) := by decide +kernel
theorem dX8_join_72 : decode cX8_join 72 = .ok (.iconst 0, 1) := by decide +kernel
theorem dX8_join_73 : decode cX8_join 73 = .ok (.istore 6, 2) := by decide +kernel
theorem dX8_join_75 : decode cX8_join 75 = .ok (.iload 6, 2) := by decide +kernel
theorem dX8_join_77 : decode cX8_join 77 = .ok (.aload_n 0, 1) := by decide +kernel
theorem dX8_join_78 : decode cX8_join 78 = .ok (.getfield 8, 3) := by decide +kernel
theorem dX8_join_81 : decode cX8_join 81 = .ok (.iconst 2, 1) := by decide +kernel
theorem dX8_join_82 : decode cX8_join 82 = .ok (.iaload, 1) := by decide +kernel
theorem dX8_join_83 : decode cX8_join 83 = .ok (.if_icmp .ge 110, 3) := by decide +kernel
theorem dX8_join_86 : decode cX8_join 86 = .ok (.aload_n 0, 1) := by decide +kernel
theorem dX8_join_87 : decode cX8_join 87 = .ok (.getfield 8, 3) := by decide +kernel
theorem dX8_join_90 : decode cX8_join 90 = .ok (.sipush 1130, 3) := by decide +kernel
theorem dX8_join_93 : decode cX8_join 93 = .ok (.sipush 4096, 3) := by decide +kernel
theorem dX8_join_96 : decode cX8_join 96 = .ok (.iload_n 1, 1) := by decide +kernel
theorem dX8_join_97 : decode cX8_join 97 = .ok (.imul, 1) := by decide +kernel
theorem dX8_join_98 : decode cX8_join 98 = .ok (.iadd, 1) := by decide +kernel
theorem dX8_join_99 : decode cX8_join 99 = .ok (.iload 6, 2) := by decide +kernel
theorem dX8_join_101 : decode cX8_join 101 = .ok (.iadd, 1) := by decide +kernel
theorem dX8_join_102 : decode cX8_join 102 = .ok (.iaload, 1) := by decide +kernel
theorem dX8_join_103 : decode cX8_join 103 = .ok (.aload_n 0, 1) := by decide +kernel
theorem dX8_join_104 : decode cX8_join 104 = .ok (.getfield 8, 3) := by decide +kernel
theorem dX8_join_107 : decode cX8_join 107 = .ok (.sipush 1130, 3) := by decide +kernel
theorem dX8_join_110 : decode cX8_join 110 = .ok (.sipush 4096, 3) := by decide +kernel
theorem dX8_join_113 : decode cX8_join 113 = .ok (.iload_n 2, 1) := by decide +kernel
theorem dX8_join_114 : decode cX8_join 114 = .ok (.imul, 1) := by decide +kernel
theorem dX8_join_115 : decode cX8_join 115 = .ok (.iadd, 1) := by decide +kernel
theorem dX8_join_116 : decode cX8_join 116 = .ok (.iload 6, 2) := by decide +kernel
theorem dX8_join_118 : decode cX8_join 118 = .ok (.iadd, 1) := by decide +kernel
theorem dX8_join_119 : decode cX8_join 119 = .ok (.iaload, 1) := by decide +kernel
theorem dX8_join_120 : decode cX8_join 120 = .ok (.imul, 1) := by decide +kernel
theorem dX8_join_121 : decode cX8_join 121 = .ok (.istore 7, 2) := by decide +kernel
theorem dX8_join_123 : decode cX8_join 123 = .ok (.iconst 0, 1) := by decide +kernel
theorem dX8_join_124 : decode cX8_join 124 = .ok (.istore 8, 2) := by decide +kernel
theorem dX8_join_126 : decode cX8_join 126 = .ok (.iload 8, 2) := by decide +kernel
theorem dX8_join_128 : decode cX8_join 128 = .ok (.iconst 4, 1) := by decide +kernel
theorem dX8_join_129 : decode cX8_join 129 = .ok (.if_icmp .ge 58, 3) := by decide +kernel
theorem dX8_join_132 : decode cX8_join 132 = .ok (.aload_n 0, 1) := by decide +kernel
theorem dX8_join_133 : decode cX8_join 133 = .ok (.getfield 8, 3) := by decide +kernel
theorem dX8_join_136 : decode cX8_join 136 = .ok (.bipush 6, 2) := by decide +kernel
theorem dX8_join_138 : decode cX8_join 138 = .ok (.iload 8, 2) := by decide +kernel
theorem dX8_join_140 : decode cX8_join 140 = .ok (.iadd, 1) := by decide +kernel
theorem dX8_join_141 : decode cX8_join 141 = .ok (.iaload, 1) := by decide +kernel
theorem dX8_join_142 : decode cX8_join 142 = .ok (.iload_n 3, 1) := by decide +kernel
theorem dX8_join_143 : decode cX8_join 143 = .ok (.if_icmp .eq 18, 3) := by decide +kernel
theorem dX8_join_146 : decode cX8_join 146 = .ok (.aload_n 0, 1) := by decide +kernel
theorem dX8_join_147 : decode cX8_join 147 = .ok (.getfield 8, 3) := by decide +kernel
theorem dX8_join_150 : decode cX8_join 150 = .ok (.bipush 6, 2) := by decide +kernel
theorem dX8_join_152 : decode cX8_join 152 = .ok (.iload 8, 2) := by decide +kernel
theorem dX8_join_154 : decode cX8_join 154 = .ok (.iadd, 1) := by decide +kernel
theorem dX8_join_155 : decode cX8_join 155 = .ok (.iaload, 1) := by decide +kernel
theorem dX8_join_156 : decode cX8_join 156 = .ok (.iload 4, 2) := by decide +kernel
theorem dX8_join_158 : decode cX8_join 158 = .ok (.if_icmp .ne 23, 3) := by decide +kernel
theorem dX8_join_161 : decode cX8_join 161 = .ok (.aload_n 0, 1) := by decide +kernel
theorem dX8_join_162 : decode cX8_join 162 = .ok (.getfield 8, 3) := by decide +kernel
theorem dX8_join_165 : decode cX8_join 165 = .ok (.sipush 1130, 3) := by decide +kernel
theorem dX8_join_168 : decode cX8_join 168 = .ok (.sipush 4096, 3) := by decide +kernel
theorem dX8_join_171 : decode cX8_join 171 = .ok (.iload 8, 2) := by decide +kernel
theorem dX8_join_173 : decode cX8_join 173 = .ok (.imul, 1) := by decide +kernel
theorem dX8_join_174 : decode cX8_join 174 = .ok (.iadd, 1) := by decide +kernel
theorem dX8_join_175 : decode cX8_join 175 = .ok (.iload 6, 2) := by decide +kernel
theorem dX8_join_177 : decode cX8_join 177 = .ok (.iadd, 1) := by decide +kernel
theorem dX8_join_178 : decode cX8_join 178 = .ok (.iload 7, 2) := by decide +kernel
theorem dX8_join_180 : decode cX8_join 180 = .ok (.iastore, 1) := by decide +kernel
theorem dX8_join_181 : decode cX8_join 181 = .ok (.iinc 8 1, 3) := by decide +kernel
theorem dX8_join_184 : decode cX8_join 184 = .ok (.goto (-58), 3) := by decide +kernel
theorem dX8_join_187 : decode cX8_join 187 = .ok (.iinc 6 1, 3) := by decide +kernel
theorem dX8_join_190 : decode cX8_join 190 = .ok (.goto (-115), 3) := by decide +kernel
theorem dX8_join_193 : decode cX8_join 193 = .ok (.iconst 0, 1) := by decide +kernel
theorem dX8_join_194 : decode cX8_join 194 = .ok (.istore 6, 2) := by decide +kernel
theorem dX8_join_196 : decode cX8_join 196 = .ok (.iload 6, 2) := by decide +kernel
theorem dX8_join_198 : decode cX8_join 198 = .ok (.iconst 4, 1) := by decide +kernel
theorem dX8_join_199 : decode cX8_join 199 = .ok (.if_icmp .ge 50, 3) := by decide +kernel
theorem dX8_join_202 : decode cX8_join 202 = .ok (.aload_n 0, 1) := by decide +kernel
theorem dX8_join_203 : decode cX8_join 203 = .ok (.getfield 8, 3) := by decide +kernel
theorem dX8_join_206 : decode cX8_join 206 = .ok (.bipush 6, 2) := by decide +kernel
theorem dX8_join_208 : decode cX8_join 208 = .ok (.iload 6, 2) := by decide +kernel
theorem dX8_join_210 : decode cX8_join 210 = .ok (.iadd, 1) := by decide +kernel
theorem dX8_join_211 : decode cX8_join 211 = .ok (.iaload, 1) := by decide +kernel
theorem dX8_join_212 : decode cX8_join 212 = .ok (.iload_n 3, 1) := by decide +kernel
theorem dX8_join_213 : decode cX8_join 213 = .ok (.if_icmp .eq 18, 3) := by decide +kernel
theorem dX8_join_216 : decode cX8_join 216 = .ok (.aload_n 0, 1) := by decide +kernel
theorem dX8_join_217 : decode cX8_join 217 = .ok (.getfield 8, 3) := by decide +kernel
theorem dX8_join_220 : decode cX8_join 220 = .ok (.bipush 6, 2) := by decide +kernel
theorem dX8_join_222 : decode cX8_join 222 = .ok (.iload 6, 2) := by decide +kernel
theorem dX8_join_224 : decode cX8_join 224 = .ok (.iadd, 1) := by decide +kernel
theorem dX8_join_225 : decode cX8_join 225 = .ok (.iaload, 1) := by decide +kernel
theorem dX8_join_226 : decode cX8_join 226 = .ok (.iload 4, 2) := by decide +kernel
theorem dX8_join_228 : decode cX8_join 228 = .ok (.if_icmp .ne 15, 3) := by decide +kernel
theorem dX8_join_231 : decode cX8_join 231 = .ok (.aload_n 0, 1) := by decide +kernel
theorem dX8_join_232 : decode cX8_join 232 = .ok (.getfield 8, 3) := by decide +kernel
theorem dX8_join_235 : decode cX8_join 235 = .ok (.bipush 6, 2) := by decide +kernel
theorem dX8_join_237 : decode cX8_join 237 = .ok (.iload 6, 2) := by decide +kernel
theorem dX8_join_239 : decode cX8_join 239 = .ok (.iadd, 1) := by decide +kernel
theorem dX8_join_240 : decode cX8_join 240 = .ok (.iload 5, 2) := by decide +kernel
theorem dX8_join_242 : decode cX8_join 242 = .ok (.iastore, 1) := by decide +kernel
theorem dX8_join_243 : decode cX8_join 243 = .ok (.iinc 6 1, 3) := by decide +kernel
theorem dX8_join_246 : decode cX8_join 246 = .ok (.goto (-50), 3) := by decide +kernel
theorem dX8_join_249 : decode cX8_join 249 = .ok (.iconst 1, 1) := by decide +kernel
theorem dX8_join_250 : decode cX8_join 250 = .ok (.ireturn, 1) := by decide +kernel
theorem dX8_knows_0 : decode cX8_knows 0 = .ok (.iload_n 1, 1) := by decide +kernel
theorem dX8_knows_1 : decode cX8_knows 1 = .ok (.invokestatic 106, 3) := by decide +kernel
theorem dX8_knows_4 : decode cX8_knows 4 = .ok (.ifCond .eq 20, 3) := by decide +kernel
theorem dX8_knows_7 : decode cX8_knows 7 = .ok (.aload_n 0, 1) := by decide +kernel
theorem dX8_knows_8 : decode cX8_knows 8 = .ok (.iload_n 2, 1) := by decide +kernel
theorem dX8_knows_9 : decode cX8_knows 9 = .ok (.invokevirtual 125, 3) := by decide +kernel
theorem dX8_knows_12 : decode cX8_knows 12 = .ok (.ifCond .eq 12, 3) := by decide +kernel
theorem dX8_knows_15 : decode cX8_knows 15 = .ok (.iload_n 3, 1) := by decide +kernel
theorem dX8_knows_16 : decode cX8_knows 16 = .ok (.iconst 0, 1) := by decide +kernel
theorem dX8_knows_17 : decode cX8_knows 17 = .ok (.iconst 3, 1) := by decide +kernel
theorem dX8_knows_18 : decode cX8_knows 18 = .ok (.invokestatic 40, 3) := by decide +kernel
theorem dX8_knows_21 : decode cX8_knows 21 = .ok (.ifCond .ne 5, 3) := by decide +kernel
theorem dX8_knows_24 : decode cX8_knows 24 = .ok (.iconst (-1), 1) := by decide +kernel
theorem dX8_knows_25 : decode cX8_knows 25 = .ok (.ireturn, 1) := by decide +kernel
theorem dX8_knows_26 : decode cX8_knows 26 = .ok (.iconst 0, 1) := by decide +kernel
theorem dX8_knows_27 : decode cX8_knows 27 = .ok (.istore 4, 2) := by decide +kernel
theorem dX8_knows_29 : decode cX8_knows 29 = .ok (.iconst 0, 1) := by decide +kernel
theorem dX8_knows_30 : decode cX8_knows 30 = .ok (.istore 5, 2) := by decide +kernel
theorem dX8_knows_32 : decode cX8_knows 32 = .ok (.iload 5, 2) := by decide +kernel
theorem dX8_knows_34 : decode cX8_knows 34 = .ok (.aload_n 0, 1) := by decide +kernel
theorem dX8_knows_35 : decode cX8_knows 35 = .ok (.getfield 8, 3) := by decide +kernel
theorem dX8_knows_38 : decode cX8_knows 38 = .ok (.iconst 2, 1) := by decide +kernel
theorem dX8_knows_39 : decode cX8_knows 39 = .ok (.iaload, 1) := by decide +kernel
theorem dX8_knows_40 : decode cX8_knows 40 = .ok (.if_icmp .ge 33, 3) := by decide +kernel
theorem dX8_knows_43 : decode cX8_knows 43 = .ok (.aload_n 0, 1) := by decide +kernel
theorem dX8_knows_44 : decode cX8_knows 44 = .ok (.iload_n 1, 1) := by decide +kernel
theorem dX8_knows_45 : decode cX8_knows 45 = .ok (.iload 5, 2) := by decide +kernel
theorem dX8_knows_47 : decode cX8_knows 47 = .ok (.invokevirtual 93, 3) := by decide +kernel
theorem dX8_knows_50 : decode cX8_knows 50 = .ok (.ifCond .eq 17, 3) := by decide +kernel
theorem dX8_knows_53 : decode cX8_knows 53 = .ok (.iload 4, 2) := by decide +kernel
theorem dX8_knows_55 : decode cX8_knows 55 = .ok (.iconst 1, 1) := by decide +kernel
theorem dX8_knows_56 : decode cX8_knows 56 = .ok (.aload_n 0, 1) := by decide +kernel
theorem dX8_knows_57 : decode cX8_knows 57 = .ok (.iload 5, 2) := by decide +kernel
theorem dX8_knows_59 : decode cX8_knows 59 = .ok (.iload_n 2, 1) := by decide +kernel
theorem dX8_knows_60 : decode cX8_knows 60 = .ok (.invokevirtual 80, 3) := by decide +kernel
theorem dX8_knows_63 : decode cX8_knows 63 = .ok (.ishl, 1) := by decide +kernel
theorem dX8_knows_64 : decode cX8_knows 64 = .ok (.ior, 1) := by decide +kernel
theorem dX8_knows_65 : decode cX8_knows 65 = .ok (.istore 4, 2) := by decide +kernel
theorem dX8_knows_67 : decode cX8_knows 67 = .ok (.iinc 5 1, 3) := by decide +kernel
theorem dX8_knows_70 : decode cX8_knows 70 = .ok (.goto (-38), 3) := by decide +kernel
theorem dX8_knows_73 : decode cX8_knows 73 = .ok (.iconst (-1), 1) := by decide +kernel
theorem dX8_knows_74 : decode cX8_knows 74 = .ok (.istore 5, 2) := by decide +kernel
theorem dX8_knows_76 : decode cX8_knows 76 = .ok (.iconst (-1), 1) := by decide +kernel
theorem dX8_knows_77 : decode cX8_knows 77 = .ok (.istore 6, 2) := by decide +kernel
theorem dX8_knows_79 : decode cX8_knows 79 = .ok (.iconst 0, 1) := by decide +kernel
theorem dX8_knows_80 : decode cX8_knows 80 = .ok (.istore 7, 2) := by decide +kernel
theorem dX8_knows_82 : decode cX8_knows 82 = .ok (.iconst 0, 1) := by decide +kernel
theorem dX8_knows_83 : decode cX8_knows 83 = .ok (.istore 8, 2) := by decide +kernel
theorem dX8_knows_85 : decode cX8_knows 85 = .ok (.iload 8, 2) := by decide +kernel
theorem dX8_knows_87 : decode cX8_knows 87 = .ok (.bipush 21, 2) := by decide +kernel
theorem dX8_knows_89 : decode cX8_knows 89 = .ok (.if_icmp .ge 43, 3) := by decide +kernel
theorem dX8_knows_92 : decode cX8_knows 92 = .ok (.iload 4, 2) := by decide +kernel
theorem dX8_knows_94 : decode cX8_knows 94 = .ok (.iload 8, 2) := by decide +kernel
theorem dX8_knows_96 : decode cX8_knows 96 = .ok (.ishr, 1) := by decide +kernel
theorem dX8_knows_97 : decode cX8_knows 97 = .ok (.iconst 1, 1) := by decide +kernel
theorem dX8_knows_98 : decode cX8_knows 98 = .ok (.iand, 1) := by decide +kernel
theorem dX8_knows_99 : decode cX8_knows 99 = .ok (.ifCond .ne 6, 3) := by decide +kernel
theorem dX8_knows_102 : decode cX8_knows 102 = .ok (.goto 24, 3) := by decide +kernel
theorem dX8_knows_105 : decode cX8_knows 105 = .ok (.iload 5, 2) := by decide +kernel
theorem dX8_knows_107 : decode cX8_knows 107 = .ok (.ifCond .ge 8, 3) := by decide +kernel
theorem dX8_knows_110 : decode cX8_knows 110 = .ok (.iload 8, 2) := by decide +kernel
theorem dX8_knows_112 : decode cX8_knows 112 = .ok (.goto 5, 3) := by decide +kernel
theorem dX8_knows_115 : decode cX8_knows 115 = .ok (.iload 5, 2) := by decide +kernel
theorem dX8_knows_117 : decode cX8_knows 117 = .ok (.istore 5, 2) := by decide +kernel
theorem dX8_knows_119 : decode cX8_knows 119 = .ok (.iload 8, 2) := by decide +kernel
theorem dX8_knows_121 : decode cX8_knows 121 = .ok (.istore 6, 2) := by decide +kernel
theorem dX8_knows_123 : decode cX8_knows 123 = .ok (.iinc 7 1, 3) := by decide +kernel
theorem dX8_knows_126 : decode cX8_knows 126 = .ok (.iinc 8 1, 3) := by decide +kernel
theorem dX8_knows_129 : decode cX8_knows 129 = .ok (.goto (-44), 3) := by decide +kernel
theorem dX8_knows_132 : decode cX8_knows 132 = .ok (.iload_n 3, 1) := by decide +kernel
theorem dX8_knows_133 : decode cX8_knows 133 = .ok (.ifCond .ne 8, 3) := by decide +kernel
theorem dX8_knows_136 : decode cX8_knows 136 = .ok (.iload 5, 2) := by decide +kernel
theorem dX8_knows_138 : decode cX8_knows 138 = .ok (.goto 30, 3) := by decide +kernel
theorem dX8_knows_141 : decode cX8_knows 141 = .ok (.iload_n 3, 1) := by decide +kernel
theorem dX8_knows_142 : decode cX8_knows 142 = .ok (.iconst 1, 1) := by decide +kernel
theorem dX8_knows_143 : decode cX8_knows 143 = .ok (.if_icmp .ne 8, 3) := by decide +kernel
theorem dX8_knows_146 : decode cX8_knows 146 = .ok (.iload 6, 2) := by decide +kernel
theorem dX8_knows_148 : decode cX8_knows 148 = .ok (.goto 20, 3) := by decide +kernel
theorem dX8_knows_151 : decode cX8_knows 151 = .ok (.iload_n 3, 1) := by decide +kernel
theorem dX8_knows_152 : decode cX8_knows 152 = .ok (.iconst 2, 1) := by decide +kernel
theorem dX8_knows_153 : decode cX8_knows 153 = .ok (.if_icmp .ne 8, 3) := by decide +kernel
theorem dX8_knows_156 : decode cX8_knows 156 = .ok (.iload 7, 2) := by decide +kernel
theorem dX8_knows_158 : decode cX8_knows 158 = .ok (.goto 10, 3) := by decide +kernel
theorem dX8_knows_161 : decode cX8_knows 161 = .ok (.iload 6, 2) := by decide +kernel
theorem dX8_knows_163 : decode cX8_knows 163 = .ok (.iload 5, 2) := by decide +kernel
theorem dX8_knows_165 : decode cX8_knows 165 = .ok (.isub, 1) := by decide +kernel
theorem dX8_knows_166 : decode cX8_knows 166 = .ok (.iconst 1, 1) := by decide +kernel
theorem dX8_knows_167 : decode cX8_knows 167 = .ok (.iadd, 1) := by decide +kernel
theorem dX8_knows_168 : decode cX8_knows 168 = .ok (.ireturn, 1) := by decide +kernel
theorem dX8_tables_0 : decode cX8_tables 0 = .ok (.iload_n 1, 1) := by decide +kernel
theorem dX8_tables_1 : decode cX8_tables 1 = .ok (.invokestatic 106, 3) := by decide +kernel
theorem dX8_tables_4 : decode cX8_tables 4 = .ok (.ifCond .ne 5, 3) := by decide +kernel
theorem dX8_tables_7 : decode cX8_tables 7 = .ok (.iconst (-1), 1) := by decide +kernel
theorem dX8_tables_8 : decode cX8_tables 8 = .ok (.ireturn, 1) := by decide +kernel
theorem dX8_tables_9 : decode cX8_tables 9 = .ok (.iconst 0, 1) := by decide +kernel
theorem dX8_tables_10 : decode cX8_tables 10 = .ok (.istore_n 2, 1) := by decide +kernel
theorem dX8_tables_11 : decode cX8_tables 11 = .ok (.iconst 0, 1) := by decide +kernel
theorem dX8_tables_12 : decode cX8_tables 12 = .ok (.istore_n 3, 1) := by decide +kernel
theorem dX8_tables_13 : decode cX8_tables 13 = .ok (.iload_n 3, 1) := by decide +kernel
theorem dX8_tables_14 : decode cX8_tables 14 = .ok (.aload_n 0, 1) := by decide +kernel
theorem dX8_tables_15 : decode cX8_tables 15 = .ok (.getfield 8, 3) := by decide +kernel
theorem dX8_tables_18 : decode cX8_tables 18 = .ok (.iconst 2, 1) := by decide +kernel
theorem dX8_tables_19 : decode cX8_tables 19 = .ok (.iaload, 1) := by decide +kernel
theorem dX8_tables_20 : decode cX8_tables 20 = .ok (.if_icmp .ge 28, 3) := by decide +kernel
theorem dX8_tables_23 : decode cX8_tables 23 = .ok (.iload_n 2, 1) := by decide +kernel
theorem dX8_tables_24 : decode cX8_tables 24 = .ok (.aload_n 0, 1) := by decide +kernel
theorem dX8_tables_25 : decode cX8_tables 25 = .ok (.getfield 8, 3) := by decide +kernel
theorem dX8_tables_28 : decode cX8_tables 28 = .ok (.sipush 1130, 3) := by decide +kernel
theorem dX8_tables_31 : decode cX8_tables 31 = .ok (.sipush 4096, 3) := by decide +kernel
theorem dX8_tables_34 : decode cX8_tables 34 = .ok (.iload_n 1, 1) := by decide +kernel
theorem dX8_tables_35 : decode cX8_tables 35 = .ok (.imul, 1) := by decide +kernel
theorem dX8_tables_36 : decode cX8_tables 36 = .ok (.iadd, 1) := by decide +kernel
theorem dX8_tables_37 : decode cX8_tables 37 = .ok (.iload_n 3, 1) := by decide +kernel
theorem dX8_tables_38 : decode cX8_tables 38 = .ok (.iadd, 1) := by decide +kernel
theorem dX8_tables_39 : decode cX8_tables 39 = .ok (.iaload, 1) := by decide +kernel
theorem dX8_tables_40 : decode cX8_tables 40 = .ok (.iadd, 1) := by decide +kernel
theorem dX8_tables_41 : decode cX8_tables 41 = .ok (.istore_n 2, 1) := by decide +kernel
theorem dX8_tables_42 : decode cX8_tables 42 = .ok (.iinc 3 1, 3) := by decide +kernel
theorem dX8_tables_45 : decode cX8_tables 45 = .ok (.goto (-32), 3) := by decide +kernel
theorem dX8_tables_48 : decode cX8_tables 48 = .ok (.iload_n 2, 1) := by decide +kernel
theorem dX8_tables_49 : decode cX8_tables 49 = .ok (.ireturn, 1) := by decide +kernel
theorem dX8_broken_0 : decode cX8_broken 0 = .ok (.iload_n 1, 1) := by decide +kernel
theorem dX8_broken_1 : decode cX8_broken 1 = .ok (.invokestatic 106, 3) := by decide +kernel
theorem dX8_broken_4 : decode cX8_broken 4 = .ok (.ifCond .ne 5, 3) := by decide +kernel
theorem dX8_broken_7 : decode cX8_broken 7 = .ok (.iconst 0, 1) := by decide +kernel
theorem dX8_broken_8 : decode cX8_broken 8 = .ok (.ireturn, 1) := by decide +kernel
theorem dX8_broken_9 : decode cX8_broken 9 = .ok (.aload_n 0, 1) := by decide +kernel
theorem dX8_broken_10 : decode cX8_broken 10 = .ok (.invokevirtual 90, 3) := by decide +kernel
theorem dX8_broken_13 : decode cX8_broken 13 = .ok (.iconst 0, 1) := by decide +kernel
theorem dX8_broken_14 : decode cX8_broken 14 = .ok (.istore_n 2, 1) := by decide +kernel
theorem dX8_broken_15 : decode cX8_broken 15 = .ok (.iload_n 2, 1) := by decide +kernel
theorem dX8_broken_16 : decode cX8_broken 16 = .ok (.aload_n 0, 1) := by decide +kernel
theorem dX8_broken_17 : decode cX8_broken 17 = .ok (.getfield 8, 3) := by decide +kernel
theorem dX8_broken_20 : decode cX8_broken 20 = .ok (.iconst 2, 1) := by decide +kernel
theorem dX8_broken_21 : decode cX8_broken 21 = .ok (.iaload, 1) := by decide +kernel
theorem dX8_broken_22 : decode cX8_broken 22 = .ok (.if_icmp .ge 24, 3) := by decide +kernel
theorem dX8_broken_25 : decode cX8_broken 25 = .ok (.aload_n 0, 1) := by decide +kernel
theorem dX8_broken_26 : decode cX8_broken 26 = .ok (.iload_n 1, 1) := by decide +kernel
theorem dX8_broken_27 : decode cX8_broken 27 = .ok (.iload_n 2, 1) := by decide +kernel
theorem dX8_broken_28 : decode cX8_broken 28 = .ok (.invokevirtual 93, 3) := by decide +kernel
theorem dX8_broken_31 : decode cX8_broken 31 = .ok (.ifCond .eq 9, 3) := by decide +kernel
theorem dX8_broken_34 : decode cX8_broken 34 = .ok (.aload_n 0, 1) := by decide +kernel
theorem dX8_broken_35 : decode cX8_broken 35 = .ok (.iconst 0, 1) := by decide +kernel
theorem dX8_broken_36 : decode cX8_broken 36 = .ok (.iload_n 2, 1) := by decide +kernel
theorem dX8_broken_37 : decode cX8_broken 37 = .ok (.invokevirtual 100, 3) := by decide +kernel
theorem dX8_broken_40 : decode cX8_broken 40 = .ok (.iinc 2 1, 3) := by decide +kernel
theorem dX8_broken_43 : decode cX8_broken 43 = .ok (.goto (-28), 3) := by decide +kernel
theorem dX8_broken_46 : decode cX8_broken 46 = .ok (.aload_n 0, 1) := by decide +kernel
theorem dX8_broken_47 : decode cX8_broken 47 = .ok (.iconst 0, 1) := by decide +kernel
theorem dX8_broken_48 : decode cX8_broken 48 = .ok (.invokevirtual 103, 3) := by decide +kernel
theorem dX8_broken_51 : decode cX8_broken 51 = .ok (.ireturn, 1) := by decide +kernel
theorem dX8_tell_0 : decode cX8_tell 0 = .ok (.iload_n 2, 1) := by decide +kernel
theorem dX8_tell_1 : decode cX8_tell 1 = .ok (.ifCond .ne 25, 3) := by decide +kernel
theorem dX8_tell_4 : decode cX8_tell 4 = .ok (.aload_n 0, 1) := by decide +kernel
theorem dX8_tell_5 : decode cX8_tell 5 = .ok (.iload_n 1, 1) := by decide +kernel
theorem dX8_tell_6 : decode cX8_tell 6 = .ok (.invokevirtual 60, 3) := by decide +kernel
theorem dX8_tell_9 : decode cX8_tell 9 = .ok (.ifCond .eq 15, 3) := by decide +kernel
theorem dX8_tell_12 : decode cX8_tell 12 = .ok (.aload_n 0, 1) := by decide +kernel
theorem dX8_tell_13 : decode cX8_tell 13 = .ok (.getfield 8, 3) := by decide +kernel
theorem dX8_tell_16 : decode cX8_tell 16 = .ok (.bipush 10, 2) := by decide +kernel
theorem dX8_tell_18 : decode cX8_tell 18 = .ok (.iload_n 1, 1) := by decide +kernel
theorem dX8_tell_19 : decode cX8_tell 19 = .ok (.iadd, 1) := by decide +kernel
theorem dX8_tell_20 : decode cX8_tell 20 = .ok (.iaload, 1) := by decide +kernel
theorem dX8_tell_21 : decode cX8_tell 21 = .ok (.goto 4, 3) := by decide +kernel
theorem dX8_tell_24 : decode cX8_tell 24 = .ok (.iconst (-1), 1) := by decide +kernel
theorem dX8_tell_25 : decode cX8_tell 25 = .ok (.ireturn, 1) := by decide +kernel
theorem dX8_tell_26 : decode cX8_tell 26 = .ok (.aload_n 0, 1) := by decide +kernel
theorem dX8_tell_27 : decode cX8_tell 27 = .ok (.iload_n 1, 1) := by decide +kernel
theorem dX8_tell_28 : decode cX8_tell 28 = .ok (.invokevirtual 125, 3) := by decide +kernel
theorem dX8_tell_31 : decode cX8_tell 31 = .ok (.ifCond .ne 5, 3) := by decide +kernel
theorem dX8_tell_34 : decode cX8_tell 34 = .ok (.iconst (-1), 1) := by decide +kernel
theorem dX8_tell_35 : decode cX8_tell 35 = .ok (.ireturn, 1) := by decide +kernel
theorem dX8_tell_36 : decode cX8_tell 36 = .ok (.iload_n 2, 1) := by decide +kernel
theorem dX8_tell_37 : decode cX8_tell 37 = .ok (.tableswitch 98 1 6 #[39, 46, 53, 60, 67, 91], 39) := by decide +kernel
theorem dX8_tell_76 : decode cX8_tell 76 = .ok (.aload_n 0, 1) := by decide +kernel
theorem dX8_tell_77 : decode cX8_tell 77 = .ok (.iload_n 1, 1) := by decide +kernel
theorem dX8_tell_78 : decode cX8_tell 78 = .ok (.iconst 0, 1) := by decide +kernel
theorem dX8_tell_79 : decode cX8_tell 79 = .ok (.invokevirtual 44, 3) := by decide +kernel
theorem dX8_tell_82 : decode cX8_tell 82 = .ok (.ireturn, 1) := by decide +kernel
theorem dX8_tell_83 : decode cX8_tell 83 = .ok (.aload_n 0, 1) := by decide +kernel
theorem dX8_tell_84 : decode cX8_tell 84 = .ok (.iload_n 1, 1) := by decide +kernel
theorem dX8_tell_85 : decode cX8_tell 85 = .ok (.iconst 1, 1) := by decide +kernel
theorem dX8_tell_86 : decode cX8_tell 86 = .ok (.invokevirtual 44, 3) := by decide +kernel
theorem dX8_tell_89 : decode cX8_tell 89 = .ok (.ireturn, 1) := by decide +kernel
theorem dX8_tell_90 : decode cX8_tell 90 = .ok (.aload_n 0, 1) := by decide +kernel
theorem dX8_tell_91 : decode cX8_tell 91 = .ok (.iload_n 1, 1) := by decide +kernel
theorem dX8_tell_92 : decode cX8_tell 92 = .ok (.iconst 2, 1) := by decide +kernel
theorem dX8_tell_93 : decode cX8_tell 93 = .ok (.invokevirtual 44, 3) := by decide +kernel
theorem dX8_tell_96 : decode cX8_tell 96 = .ok (.ireturn, 1) := by decide +kernel
theorem dX8_tell_97 : decode cX8_tell 97 = .ok (.aload_n 0, 1) := by decide +kernel
theorem dX8_tell_98 : decode cX8_tell 98 = .ok (.iload_n 1, 1) := by decide +kernel
theorem dX8_tell_99 : decode cX8_tell 99 = .ok (.iconst 3, 1) := by decide +kernel
theorem dX8_tell_100 : decode cX8_tell 100 = .ok (.invokevirtual 44, 3) := by decide +kernel
theorem dX8_tell_103 : decode cX8_tell 103 = .ok (.ireturn, 1) := by decide +kernel
theorem dX8_tell_104 : decode cX8_tell 104 = .ok (.aload_n 0, 1) := by decide +kernel
theorem dX8_tell_105 : decode cX8_tell 105 = .ok (.getfield 8, 3) := by decide +kernel
theorem dX8_tell_108 : decode cX8_tell 108 = .ok (.bipush 10, 2) := by decide +kernel
theorem dX8_tell_110 : decode cX8_tell 110 = .ok (.aload_n 0, 1) := by decide +kernel
theorem dX8_tell_111 : decode cX8_tell 111 = .ok (.iload_n 1, 1) := by decide +kernel
theorem dX8_tell_112 : decode cX8_tell 112 = .ok (.iconst 0, 1) := by decide +kernel
theorem dX8_tell_113 : decode cX8_tell 113 = .ok (.invokevirtual 44, 3) := by decide +kernel
theorem dX8_tell_116 : decode cX8_tell 116 = .ok (.iadd, 1) := by decide +kernel
theorem dX8_tell_117 : decode cX8_tell 117 = .ok (.iaload, 1) := by decide +kernel
theorem dX8_tell_118 : decode cX8_tell 118 = .ok (.iload_n 1, 1) := by decide +kernel
theorem dX8_tell_119 : decode cX8_tell 119 = .ok (.if_icmp .ne 7, 3) := by decide +kernel
theorem dX8_tell_122 : decode cX8_tell 122 = .ok (.iconst 1, 1) := by decide +kernel
theorem dX8_tell_123 : decode cX8_tell 123 = .ok (.goto 4, 3) := by decide +kernel
theorem dX8_tell_126 : decode cX8_tell 126 = .ok (.iconst 0, 1) := by decide +kernel
theorem dX8_tell_127 : decode cX8_tell 127 = .ok (.ireturn, 1) := by decide +kernel
theorem dX8_tell_128 : decode cX8_tell 128 = .ok (.aload_n 0, 1) := by decide +kernel
theorem dX8_tell_129 : decode cX8_tell 129 = .ok (.iload_n 1, 1) := by decide +kernel
theorem dX8_tell_130 : decode cX8_tell 130 = .ok (.iconst 4, 1) := by decide +kernel
theorem dX8_tell_131 : decode cX8_tell 131 = .ok (.invokevirtual 44, 3) := by decide +kernel
theorem dX8_tell_134 : decode cX8_tell 134 = .ok (.ireturn, 1) := by decide +kernel
theorem dX8_tell_135 : decode cX8_tell 135 = .ok (.iconst (-1), 1) := by decide +kernel
theorem dX8_tell_136 : decode cX8_tell 136 = .ok (.ireturn, 1) := by decide +kernel
theorem dX8_asked_0 : decode cX8_asked 0 = .ok (.iload_n 1, 1) := by decide +kernel
theorem dX8_asked_1 : decode cX8_asked 1 = .ok (.iconst 0, 1) := by decide +kernel
theorem dX8_asked_2 : decode cX8_asked 2 = .ok (.aload_n 0, 1) := by decide +kernel
theorem dX8_asked_3 : decode cX8_asked 3 = .ok (.getfield 8, 3) := by decide +kernel
theorem dX8_asked_6 : decode cX8_asked 6 = .ok (.iconst 3, 1) := by decide +kernel
theorem dX8_asked_7 : decode cX8_asked 7 = .ok (.iaload, 1) := by decide +kernel
theorem dX8_asked_8 : decode cX8_asked 8 = .ok (.iconst 1, 1) := by decide +kernel
theorem dX8_asked_9 : decode cX8_asked 9 = .ok (.isub, 1) := by decide +kernel
theorem dX8_asked_10 : decode cX8_asked 10 = .ok (.invokestatic 40, 3) := by decide +kernel
theorem dX8_asked_13 : decode cX8_asked 13 = .ok (.ifCond .eq 28, 3) := by decide +kernel
theorem dX8_asked_16 : decode cX8_asked 16 = .ok (.iload_n 2, 1) := by decide +kernel
theorem dX8_asked_17 : decode cX8_asked 17 = .ok (.iconst 0, 1) := by decide +kernel
theorem dX8_asked_18 : decode cX8_asked 18 = .ok (.iconst 4, 1) := by decide +kernel
theorem dX8_asked_19 : decode cX8_asked 19 = .ok (.invokestatic 40, 3) := by decide +kernel
theorem dX8_asked_22 : decode cX8_asked 22 = .ok (.ifCond .eq 19, 3) := by decide +kernel
theorem dX8_asked_25 : decode cX8_asked 25 = .ok (.aload_n 0, 1) := by decide +kernel
theorem dX8_asked_26 : decode cX8_asked 26 = .ok (.getfield 8, 3) := by decide +kernel
theorem dX8_asked_29 : decode cX8_asked 29 = .ok (.bipush 100, 2) := by decide +kernel
theorem dX8_asked_31 : decode cX8_asked 31 = .ok (.iconst 5, 1) := by decide +kernel
theorem dX8_asked_32 : decode cX8_asked 32 = .ok (.iload_n 1, 1) := by decide +kernel
theorem dX8_asked_33 : decode cX8_asked 33 = .ok (.imul, 1) := by decide +kernel
theorem dX8_asked_34 : decode cX8_asked 34 = .ok (.iadd, 1) := by decide +kernel
theorem dX8_asked_35 : decode cX8_asked 35 = .ok (.iload_n 2, 1) := by decide +kernel
theorem dX8_asked_36 : decode cX8_asked 36 = .ok (.iadd, 1) := by decide +kernel
theorem dX8_asked_37 : decode cX8_asked 37 = .ok (.iaload, 1) := by decide +kernel
theorem dX8_asked_38 : decode cX8_asked 38 = .ok (.goto 4, 3) := by decide +kernel
theorem dX8_asked_41 : decode cX8_asked 41 = .ok (.iconst (-1), 1) := by decide +kernel
theorem dX8_asked_42 : decode cX8_asked 42 = .ok (.ireturn, 1) := by decide +kernel
theorem dX8_wish_0 : decode cX8_wish 0 = .ok (.aload_n 0, 1) := by decide +kernel
theorem dX8_wish_1 : decode cX8_wish 1 = .ok (.getfield 8, 3) := by decide +kernel
theorem dX8_wish_4 : decode cX8_wish 4 = .ok (.iconst 5, 1) := by decide +kernel
theorem dX8_wish_5 : decode cX8_wish 5 = .ok (.iaload, 1) := by decide +kernel
theorem dX8_wish_6 : decode cX8_wish 6 = .ok (.bipush 8, 2) := by decide +kernel
theorem dX8_wish_8 : decode cX8_wish 8 = .ok (.if_icmp .eq 11, 3) := by decide +kernel
theorem dX8_wish_11 : decode cX8_wish 11 = .ok (.iload_n 1, 1) := by decide +kernel
theorem dX8_wish_12 : decode cX8_wish 12 = .ok (.iload_n 3, 1) := by decide +kernel
theorem dX8_wish_13 : decode cX8_wish 13 = .ok (.invokestatic 109, 3) := by decide +kernel
theorem dX8_wish_16 : decode cX8_wish 16 = .ok (.ifCond .ne 5, 3) := by decide +kernel
theorem dX8_wish_19 : decode cX8_wish 19 = .ok (.iconst (-1), 1) := by decide +kernel
theorem dX8_wish_20 : decode cX8_wish 20 = .ok (.ireturn, 1) := by decide +kernel
theorem dX8_wish_21 : decode cX8_wish 21 = .ok (.sipush 1100, 3) := by decide +kernel
theorem dX8_wish_24 : decode cX8_wish 24 = .ok (.iconst 3, 1) := by decide +kernel
theorem dX8_wish_25 : decode cX8_wish 25 = .ok (.aload_n 0, 1) := by decide +kernel
theorem dX8_wish_26 : decode cX8_wish 26 = .ok (.getfield 8, 3) := by decide +kernel
theorem dX8_wish_29 : decode cX8_wish 29 = .ok (.iconst 5, 1) := by decide +kernel
theorem dX8_wish_30 : decode cX8_wish 30 = .ok (.iaload, 1) := by decide +kernel
theorem dX8_wish_31 : decode cX8_wish 31 = .ok (.imul, 1) := by decide +kernel
theorem dX8_wish_32 : decode cX8_wish 32 = .ok (.iadd, 1) := by decide +kernel
theorem dX8_wish_33 : decode cX8_wish 33 = .ok (.istore 4, 2) := by decide +kernel
theorem dX8_wish_35 : decode cX8_wish 35 = .ok (.aload_n 0, 1) := by decide +kernel
theorem dX8_wish_36 : decode cX8_wish 36 = .ok (.getfield 8, 3) := by decide +kernel
theorem dX8_wish_39 : decode cX8_wish 39 = .ok (.iload 4, 2) := by decide +kernel
theorem dX8_wish_41 : decode cX8_wish 41 = .ok (.iload_n 1, 1) := by decide +kernel
theorem dX8_wish_42 : decode cX8_wish 42 = .ok (.iastore, 1) := by decide +kernel
theorem dX8_wish_43 : decode cX8_wish 43 = .ok (.aload_n 0, 1) := by decide +kernel
theorem dX8_wish_44 : decode cX8_wish 44 = .ok (.getfield 8, 3) := by decide +kernel
theorem dX8_wish_47 : decode cX8_wish 47 = .ok (.iload 4, 2) := by decide +kernel
theorem dX8_wish_49 : decode cX8_wish 49 = .ok (.iconst 1, 1) := by decide +kernel
theorem dX8_wish_50 : decode cX8_wish 50 = .ok (.iadd, 1) := by decide +kernel
theorem dX8_wish_51 : decode cX8_wish 51 = .ok (.aload_n 0, 1) := by decide +kernel
theorem dX8_wish_52 : decode cX8_wish 52 = .ok (.iload_n 2, 1) := by decide +kernel
theorem dX8_wish_53 : decode cX8_wish 53 = .ok (.invokevirtual 122, 3) := by decide +kernel
theorem dX8_wish_56 : decode cX8_wish 56 = .ok (.iastore, 1) := by decide +kernel
theorem dX8_wish_57 : decode cX8_wish 57 = .ok (.aload_n 0, 1) := by decide +kernel
theorem dX8_wish_58 : decode cX8_wish 58 = .ok (.getfield 8, 3) := by decide +kernel
theorem dX8_wish_61 : decode cX8_wish 61 = .ok (.iload 4, 2) := by decide +kernel
theorem dX8_wish_63 : decode cX8_wish 63 = .ok (.iconst 2, 1) := by decide +kernel
theorem dX8_wish_64 : decode cX8_wish 64 = .ok (.iadd, 1) := by decide +kernel
theorem dX8_wish_65 : decode cX8_wish 65 = .ok (.iload_n 3, 1) := by decide +kernel
theorem dX8_wish_66 : decode cX8_wish 66 = .ok (.iastore, 1) := by decide +kernel
theorem dX8_wish_67 : decode cX8_wish 67 = .ok (.aload_n 0, 1) := by decide +kernel
theorem dX8_wish_68 : decode cX8_wish 68 = .ok (.getfield 8, 3) := by decide +kernel
theorem dX8_wish_71 : decode cX8_wish 71 = .ok (.iconst 5, 1) := by decide +kernel
theorem dX8_wish_72 : decode cX8_wish 72 = .ok (.dup2, 1) := by decide +kernel
theorem dX8_wish_73 : decode cX8_wish 73 = .ok (.iaload, 1) := by decide +kernel
theorem dX8_wish_74 : decode cX8_wish 74 = .ok (.iconst 1, 1) := by decide +kernel
theorem dX8_wish_75 : decode cX8_wish 75 = .ok (.iadd, 1) := by decide +kernel
theorem dX8_wish_76 : decode cX8_wish 76 = .ok (.iastore, 1) := by decide +kernel
theorem dX8_wish_77 : decode cX8_wish 77 = .ok (.aload_n 0, 1) := by decide +kernel
theorem dX8_wish_78 : decode cX8_wish 78 = .ok (.getfield 8, 3) := by decide +kernel
theorem dX8_wish_81 : decode cX8_wish 81 = .ok (.iconst 5, 1) := by decide +kernel
theorem dX8_wish_82 : decode cX8_wish 82 = .ok (.iaload, 1) := by decide +kernel
theorem dX8_wish_83 : decode cX8_wish 83 = .ok (.iconst 1, 1) := by decide +kernel
theorem dX8_wish_84 : decode cX8_wish 84 = .ok (.isub, 1) := by decide +kernel
theorem dX8_wish_85 : decode cX8_wish 85 = .ok (.ireturn, 1) := by decide +kernel
theorem dX8_clear_0 : decode cX8_clear 0 = .ok (.aload_n 0, 1) := by decide +kernel
theorem dX8_clear_1 : decode cX8_clear 1 = .ok (.getfield 8, 3) := by decide +kernel
theorem dX8_clear_4 : decode cX8_clear 4 = .ok (.iconst 5, 1) := by decide +kernel
theorem dX8_clear_5 : decode cX8_clear 5 = .ok (.iconst 0, 1) := by decide +kernel
theorem dX8_clear_6 : decode cX8_clear 6 = .ok (.iastore, 1) := by decide +kernel
theorem dX8_clear_7 : decode cX8_clear 7 = .ok (.return_, 1) := by decide +kernel
theorem dX8_reckons_0 : decode cX8_reckons 0 = .ok (.aload_n 0, 1) := by decide +kernel
theorem dX8_reckons_1 : decode cX8_reckons 1 = .ok (.iconst 0, 1) := by decide +kernel
theorem dX8_reckons_2 : decode cX8_reckons 2 = .ok (.putfield 128, 3) := by decide +kernel
theorem dX8_reckons_5 : decode cX8_reckons 5 = .ok (.iconst 0, 1) := by decide +kernel
theorem dX8_reckons_6 : decode cX8_reckons 6 = .ok (.istore_n 2, 1) := by decide +kernel
theorem dX8_reckons_7 : decode cX8_reckons 7 = .ok (.iload_n 2, 1) := by decide +kernel
theorem dX8_reckons_8 : decode cX8_reckons 8 = .ok (.aload_n 0, 1) := by decide +kernel
theorem dX8_reckons_9 : decode cX8_reckons 9 = .ok (.getfield 8, 3) := by decide +kernel
theorem dX8_reckons_12 : decode cX8_reckons 12 = .ok (.iconst 2, 1) := by decide +kernel
theorem dX8_reckons_13 : decode cX8_reckons 13 = .ok (.iaload, 1) := by decide +kernel
theorem dX8_reckons_14 : decode cX8_reckons 14 = .ok (.if_icmp .ge 127, 3) := by decide +kernel
theorem dX8_reckons_17 : decode cX8_reckons 17 = .ok (.aload_n 0, 1) := by decide +kernel
theorem dX8_reckons_18 : decode cX8_reckons 18 = .ok (.iload_n 1, 1) := by decide +kernel
theorem dX8_reckons_19 : decode cX8_reckons 19 = .ok (.iload_n 2, 1) := by decide +kernel
theorem dX8_reckons_20 : decode cX8_reckons 20 = .ok (.invokevirtual 93, 3) := by decide +kernel
theorem dX8_reckons_23 : decode cX8_reckons 23 = .ok (.ifCond .ne 6, 3) := by decide +kernel
theorem dX8_reckons_26 : decode cX8_reckons 26 = .ok (.goto 109, 3) := by decide +kernel
theorem dX8_reckons_29 : decode cX8_reckons 29 = .ok (.lconst 0, 1) := by decide +kernel
theorem dX8_reckons_30 : decode cX8_reckons 30 = .ok (.lstore_n 3, 1) := by decide +kernel
theorem dX8_reckons_31 : decode cX8_reckons 31 = .ok (.iconst 0, 1) := by decide +kernel
theorem dX8_reckons_32 : decode cX8_reckons 32 = .ok (.istore 5, 2) := by decide +kernel
theorem dX8_reckons_34 : decode cX8_reckons 34 = .ok (.iload 5, 2) := by decide +kernel
theorem dX8_reckons_36 : decode cX8_reckons 36 = .ok (.aload_n 0, 1) := by decide +kernel
theorem dX8_reckons_37 : decode cX8_reckons 37 = .ok (.getfield 8, 3) := by decide +kernel
theorem dX8_reckons_40 : decode cX8_reckons 40 = .ok (.iconst 5, 1) := by decide +kernel
theorem dX8_reckons_41 : decode cX8_reckons 41 = .ok (.iaload, 1) := by decide +kernel
theorem dX8_reckons_42 : decode cX8_reckons 42 = .ok (.if_icmp .ge 63, 3) := by decide +kernel
theorem dX8_reckons_45 : decode cX8_reckons 45 = .ok (.sipush 1100, 3) := by decide +kernel
theorem dX8_reckons_48 : decode cX8_reckons 48 = .ok (.iconst 3, 1) := by decide +kernel
theorem dX8_reckons_49 : decode cX8_reckons 49 = .ok (.iload 5, 2) := by decide +kernel
theorem dX8_reckons_51 : decode cX8_reckons 51 = .ok (.imul, 1) := by decide +kernel
theorem dX8_reckons_52 : decode cX8_reckons 52 = .ok (.iadd, 1) := by decide +kernel
theorem dX8_reckons_53 : decode cX8_reckons 53 = .ok (.istore 6, 2) := by decide +kernel
theorem dX8_reckons_55 : decode cX8_reckons 55 = .ok (.lload_n 3, 1) := by decide +kernel
theorem dX8_reckons_56 : decode cX8_reckons 56 = .ok (.aload_n 0, 1) := by decide +kernel
theorem dX8_reckons_57 : decode cX8_reckons 57 = .ok (.iload_n 2, 1) := by decide +kernel
theorem dX8_reckons_58 : decode cX8_reckons 58 = .ok (.aload_n 0, 1) := by decide +kernel
theorem dX8_reckons_59 : decode cX8_reckons 59 = .ok (.getfield 8, 3) := by decide +kernel
theorem dX8_reckons_62 : decode cX8_reckons 62 = .ok (.iload 6, 2) := by decide +kernel
theorem dX8_reckons_64 : decode cX8_reckons 64 = .ok (.iaload, 1) := by decide +kernel
theorem dX8_reckons_65 : decode cX8_reckons 65 = .ok (.aload_n 0, 1) := by decide +kernel
theorem dX8_reckons_66 : decode cX8_reckons 66 = .ok (.aload_n 0, 1) := by decide +kernel
theorem dX8_reckons_67 : decode cX8_reckons 67 = .ok (.getfield 8, 3) := by decide +kernel
theorem dX8_reckons_70 : decode cX8_reckons 70 = .ok (.iload 6, 2) := by decide +kernel
theorem dX8_reckons_72 : decode cX8_reckons 72 = .ok (.iconst 1, 1) := by decide +kernel
theorem dX8_reckons_73 : decode cX8_reckons 73 = .ok (.iadd, 1) := by decide +kernel
theorem dX8_reckons_74 : decode cX8_reckons 74 = .ok (.iaload, 1) := by decide +kernel
theorem dX8_reckons_75 : decode cX8_reckons 75 = .ok (.invokevirtual 112, 3) := by decide +kernel
theorem dX8_reckons_78 : decode cX8_reckons 78 = .ok (.aload_n 0, 1) := by decide +kernel
theorem dX8_reckons_79 : decode cX8_reckons 79 = .ok (.getfield 8, 3) := by decide +kernel
theorem dX8_reckons_82 : decode cX8_reckons 82 = .ok (.iload 6, 2) := by decide +kernel
theorem dX8_reckons_84 : decode cX8_reckons 84 = .ok (.iconst 2, 1) := by decide +kernel
theorem dX8_reckons_85 : decode cX8_reckons 85 = .ok (.iadd, 1) := by decide +kernel
theorem dX8_reckons_86 : decode cX8_reckons 86 = .ok (.iaload, 1) := by decide +kernel
theorem dX8_reckons_87 : decode cX8_reckons 87 = .ok (.invokevirtual 96, 3) := by decide +kernel
theorem dX8_reckons_90 : decode cX8_reckons 90 = .ok (.i2l, 1) := by decide +kernel
theorem dX8_reckons_91 : decode cX8_reckons 91 = .ok (.bipush 6, 2) := by decide +kernel
theorem dX8_reckons_93 : decode cX8_reckons 93 = .ok (.iload 5, 2) := by decide +kernel
theorem dX8_reckons_95 : decode cX8_reckons 95 = .ok (.imul, 1) := by decide +kernel
theorem dX8_reckons_96 : decode cX8_reckons 96 = .ok (.lshl, 1) := by decide +kernel
theorem dX8_reckons_97 : decode cX8_reckons 97 = .ok (.lor, 1) := by decide +kernel
theorem dX8_reckons_98 : decode cX8_reckons 98 = .ok (.lstore_n 3, 1) := by decide +kernel
theorem dX8_reckons_99 : decode cX8_reckons 99 = .ok (.iinc 5 1, 3) := by decide +kernel
theorem dX8_reckons_102 : decode cX8_reckons 102 = .ok (.goto (-68), 3) := by decide +kernel
theorem dX8_reckons_105 : decode cX8_reckons 105 = .ok (.aload_n 0, 1) := by decide +kernel
theorem dX8_reckons_106 : decode cX8_reckons 106 = .ok (.getfield 27, 3) := by decide +kernel
theorem dX8_reckons_109 : decode cX8_reckons 109 = .ok (.aload_n 0, 1) := by decide +kernel
theorem dX8_reckons_110 : decode cX8_reckons 110 = .ok (.getfield 128, 3) := by decide +kernel
theorem dX8_reckons_113 : decode cX8_reckons 113 = .ok (.iload_n 2, 1) := by decide +kernel
theorem dX8_reckons_114 : decode cX8_reckons 114 = .ok (.iastore, 1) := by decide +kernel
theorem dX8_reckons_115 : decode cX8_reckons 115 = .ok (.aload_n 0, 1) := by decide +kernel
theorem dX8_reckons_116 : decode cX8_reckons 116 = .ok (.getfield 30, 3) := by decide +kernel
theorem dX8_reckons_119 : decode cX8_reckons 119 = .ok (.aload_n 0, 1) := by decide +kernel
theorem dX8_reckons_120 : decode cX8_reckons 120 = .ok (.getfield 128, 3) := by decide +kernel
theorem dX8_reckons_123 : decode cX8_reckons 123 = .ok (.lload_n 3, 1) := by decide +kernel
theorem dX8_reckons_124 : decode cX8_reckons 124 = .ok (.lastore, 1) := by decide +kernel
theorem dX8_reckons_125 : decode cX8_reckons 125 = .ok (.aload_n 0, 1) := by decide +kernel
theorem dX8_reckons_126 : decode cX8_reckons 126 = .ok (.dup, 1) := by decide +kernel
theorem dX8_reckons_127 : decode cX8_reckons 127 = .ok (.getfield 128, 3) := by decide +kernel
theorem dX8_reckons_130 : decode cX8_reckons 130 = .ok (.iconst 1, 1) := by decide +kernel
theorem dX8_reckons_131 : decode cX8_reckons 131 = .ok (.iadd, 1) := by decide +kernel
theorem dX8_reckons_132 : decode cX8_reckons 132 = .ok (.putfield 128, 3) := by decide +kernel
theorem dX8_reckons_135 : decode cX8_reckons 135 = .ok (.iinc 2 1, 3) := by decide +kernel
theorem dX8_reckons_138 : decode cX8_reckons 138 = .ok (.goto (-131), 3) := by decide +kernel
theorem dX8_reckons_141 : decode cX8_reckons 141 = .ok (.return_, 1) := by decide +kernel
theorem dX8_sorts_0 : decode cX8_sorts 0 = .ok (.lconst 0, 1) := by decide +kernel
theorem dX8_sorts_1 : decode cX8_sorts 1 = .ok (.lstore_n 2, 1) := by decide +kernel
theorem dX8_sorts_2 : decode cX8_sorts 2 = .ok (.iconst 0, 1) := by decide +kernel
theorem dX8_sorts_3 : decode cX8_sorts 3 = .ok (.istore 4, 2) := by decide +kernel
theorem dX8_sorts_5 : decode cX8_sorts 5 = .ok (.iload 4, 2) := by decide +kernel
theorem dX8_sorts_7 : decode cX8_sorts 7 = .ok (.bipush 8, 2) := by decide +kernel
theorem dX8_sorts_9 : decode cX8_sorts 9 = .ok (.if_icmp .ge 31, 3) := by decide +kernel
theorem dX8_sorts_12 : decode cX8_sorts 12 = .ok (.iload_n 1, 1) := by decide +kernel
theorem dX8_sorts_13 : decode cX8_sorts 13 = .ok (.iload 4, 2) := by decide +kernel
theorem dX8_sorts_15 : decode cX8_sorts 15 = .ok (.ishr, 1) := by decide +kernel
theorem dX8_sorts_16 : decode cX8_sorts 16 = .ok (.iconst 1, 1) := by decide +kernel
theorem dX8_sorts_17 : decode cX8_sorts 17 = .ok (.iand, 1) := by decide +kernel
theorem dX8_sorts_18 : decode cX8_sorts 18 = .ok (.iconst 1, 1) := by decide +kernel
theorem dX8_sorts_19 : decode cX8_sorts 19 = .ok (.if_icmp .ne 15, 3) := by decide +kernel
theorem dX8_sorts_22 : decode cX8_sorts 22 = .ok (.lload_n 2, 1) := by decide +kernel
theorem dX8_sorts_23 : decode cX8_sorts 23 = .ok (.ldc2_w 131, 3) := by decide +kernel
theorem dX8_sorts_26 : decode cX8_sorts 26 = .ok (.bipush 6, 2) := by decide +kernel
theorem dX8_sorts_28 : decode cX8_sorts 28 = .ok (.iload 4, 2) := by decide +kernel
theorem dX8_sorts_30 : decode cX8_sorts 30 = .ok (.imul, 1) := by decide +kernel
theorem dX8_sorts_31 : decode cX8_sorts 31 = .ok (.lshl, 1) := by decide +kernel
theorem dX8_sorts_32 : decode cX8_sorts 32 = .ok (.lor, 1) := by decide +kernel
theorem dX8_sorts_33 : decode cX8_sorts 33 = .ok (.lstore_n 2, 1) := by decide +kernel
theorem dX8_sorts_34 : decode cX8_sorts 34 = .ok (.iinc 4 1, 3) := by decide +kernel
theorem dX8_sorts_37 : decode cX8_sorts 37 = .ok (.goto (-32), 3) := by decide +kernel
theorem dX8_sorts_40 : decode cX8_sorts 40 = .ok (.iconst 0, 1) := by decide +kernel
theorem dX8_sorts_41 : decode cX8_sorts 41 = .ok (.istore 4, 2) := by decide +kernel
theorem dX8_sorts_43 : decode cX8_sorts 43 = .ok (.iload 4, 2) := by decide +kernel
theorem dX8_sorts_45 : decode cX8_sorts 45 = .ok (.aload_n 0, 1) := by decide +kernel
theorem dX8_sorts_46 : decode cX8_sorts 46 = .ok (.getfield 128, 3) := by decide +kernel
theorem dX8_sorts_49 : decode cX8_sorts 49 = .ok (.if_icmp .ge 34, 3) := by decide +kernel
theorem dX8_sorts_52 : decode cX8_sorts 52 = .ok (.aload_n 0, 1) := by decide +kernel
theorem dX8_sorts_53 : decode cX8_sorts 53 = .ok (.getfield 34, 3) := by decide +kernel
theorem dX8_sorts_56 : decode cX8_sorts 56 = .ok (.iload 4, 2) := by decide +kernel
theorem dX8_sorts_58 : decode cX8_sorts 58 = .ok (.aload_n 0, 1) := by decide +kernel
theorem dX8_sorts_59 : decode cX8_sorts 59 = .ok (.getfield 30, 3) := by decide +kernel
theorem dX8_sorts_62 : decode cX8_sorts 62 = .ok (.iload 4, 2) := by decide +kernel
theorem dX8_sorts_64 : decode cX8_sorts 64 = .ok (.laload, 1) := by decide +kernel
theorem dX8_sorts_65 : decode cX8_sorts 65 = .ok (.lload_n 2, 1) := by decide +kernel
theorem dX8_sorts_66 : decode cX8_sorts 66 = .ok (.land, 1) := by decide +kernel
theorem dX8_sorts_67 : decode cX8_sorts 67 = .ok (.lastore, 1) := by decide +kernel
theorem dX8_sorts_68 : decode cX8_sorts 68 = .ok (.aload_n 0, 1) := by decide +kernel
theorem dX8_sorts_69 : decode cX8_sorts 69 = .ok (.getfield 37, 3) := by decide +kernel
theorem dX8_sorts_72 : decode cX8_sorts 72 = .ok (.iload 4, 2) := by decide +kernel
theorem dX8_sorts_74 : decode cX8_sorts 74 = .ok (.iload 4, 2) := by decide +kernel
theorem dX8_sorts_76 : decode cX8_sorts 76 = .ok (.iastore, 1) := by decide +kernel
theorem dX8_sorts_77 : decode cX8_sorts 77 = .ok (.iinc 4 1, 3) := by decide +kernel
theorem dX8_sorts_80 : decode cX8_sorts 80 = .ok (.goto (-37), 3) := by decide +kernel
theorem dX8_sorts_83 : decode cX8_sorts 83 = .ok (.sipush 2048, 3) := by decide +kernel
theorem dX8_sorts_86 : decode cX8_sorts 86 = .ok (.istore 4, 2) := by decide +kernel
theorem dX8_sorts_88 : decode cX8_sorts 88 = .ok (.iload 4, 2) := by decide +kernel
theorem dX8_sorts_90 : decode cX8_sorts 90 = .ok (.ifCond .le 113, 3) := by decide +kernel
theorem dX8_sorts_93 : decode cX8_sorts 93 = .ok (.iload 4, 2) := by decide +kernel
theorem dX8_sorts_95 : decode cX8_sorts 95 = .ok (.istore 5, 2) := by decide +kernel
theorem dX8_sorts_97 : decode cX8_sorts 97 = .ok (.iload 5, 2) := by decide +kernel
theorem dX8_sorts_99 : decode cX8_sorts 99 = .ok (.aload_n 0, 1) := by decide +kernel
theorem dX8_sorts_100 : decode cX8_sorts 100 = .ok (.getfield 128, 3) := by decide +kernel
theorem dX8_sorts_103 : decode cX8_sorts 103 = .ok (.if_icmp .ge 91, 3) := by decide +kernel
theorem dX8_sorts_106 : decode cX8_sorts 106 = .ok (.aload_n 0, 1) := by decide +kernel
theorem dX8_sorts_107 : decode cX8_sorts 107 = .ok (.getfield 37, 3) := by decide +kernel
theorem dX8_sorts_110 : decode cX8_sorts 110 = .ok (.iload 5, 2) := by decide +kernel
theorem dX8_sorts_112 : decode cX8_sorts 112 = .ok (.iaload, 1) := by decide +kernel
theorem dX8_sorts_113 : decode cX8_sorts 113 = .ok (.istore 6, 2) := by decide +kernel
theorem dX8_sorts_115 : decode cX8_sorts 115 = .ok (.iload 5, 2) := by decide +kernel
theorem dX8_sorts_117 : decode cX8_sorts 117 = .ok (.istore 7, 2) := by decide +kernel
theorem dX8_sorts_119 : decode cX8_sorts 119 = .ok (.iload 7, 2) := by decide +kernel
theorem dX8_sorts_121 : decode cX8_sorts 121 = .ok (.iload 4, 2) := by decide +kernel
theorem dX8_sorts_123 : decode cX8_sorts 123 = .ok (.if_icmp .lt 56, 3) := by decide +kernel
theorem dX8_sorts_126 : decode cX8_sorts 126 = .ok (.aload_n 0, 1) := by decide +kernel
theorem dX8_sorts_127 : decode cX8_sorts 127 = .ok (.getfield 34, 3) := by decide +kernel
theorem dX8_sorts_130 : decode cX8_sorts 130 = .ok (.aload_n 0, 1) := by decide +kernel
theorem dX8_sorts_131 : decode cX8_sorts 131 = .ok (.getfield 37, 3) := by decide +kernel
theorem dX8_sorts_134 : decode cX8_sorts 134 = .ok (.iload 7, 2) := by decide +kernel
theorem dX8_sorts_136 : decode cX8_sorts 136 = .ok (.iload 4, 2) := by decide +kernel
theorem dX8_sorts_138 : decode cX8_sorts 138 = .ok (.isub, 1) := by decide +kernel
theorem dX8_sorts_139 : decode cX8_sorts 139 = .ok (.iaload, 1) := by decide +kernel
theorem dX8_sorts_140 : decode cX8_sorts 140 = .ok (.laload, 1) := by decide +kernel
theorem dX8_sorts_141 : decode cX8_sorts 141 = .ok (.aload_n 0, 1) := by decide +kernel
theorem dX8_sorts_142 : decode cX8_sorts 142 = .ok (.getfield 34, 3) := by decide +kernel
theorem dX8_sorts_145 : decode cX8_sorts 145 = .ok (.iload 6, 2) := by decide +kernel
theorem dX8_sorts_147 : decode cX8_sorts 147 = .ok (.laload, 1) := by decide +kernel
theorem dX8_sorts_148 : decode cX8_sorts 148 = .ok (.lcmp, 1) := by decide +kernel
theorem dX8_sorts_149 : decode cX8_sorts 149 = .ok (.ifCond .le 30, 3) := by decide +kernel
theorem dX8_sorts_152 : decode cX8_sorts 152 = .ok (.aload_n 0, 1) := by decide +kernel
theorem dX8_sorts_153 : decode cX8_sorts 153 = .ok (.getfield 37, 3) := by decide +kernel
theorem dX8_sorts_156 : decode cX8_sorts 156 = .ok (.iload 7, 2) := by decide +kernel
theorem dX8_sorts_158 : decode cX8_sorts 158 = .ok (.aload_n 0, 1) := by decide +kernel
theorem dX8_sorts_159 : decode cX8_sorts 159 = .ok (.getfield 37, 3) := by decide +kernel
theorem dX8_sorts_162 : decode cX8_sorts 162 = .ok (.iload 7, 2) := by decide +kernel
theorem dX8_sorts_164 : decode cX8_sorts 164 = .ok (.iload 4, 2) := by decide +kernel
theorem dX8_sorts_166 : decode cX8_sorts 166 = .ok (.isub, 1) := by decide +kernel
theorem dX8_sorts_167 : decode cX8_sorts 167 = .ok (.iaload, 1) := by decide +kernel
theorem dX8_sorts_168 : decode cX8_sorts 168 = .ok (.iastore, 1) := by decide +kernel
theorem dX8_sorts_169 : decode cX8_sorts 169 = .ok (.iload 7, 2) := by decide +kernel
theorem dX8_sorts_171 : decode cX8_sorts 171 = .ok (.iload 4, 2) := by decide +kernel
theorem dX8_sorts_173 : decode cX8_sorts 173 = .ok (.isub, 1) := by decide +kernel
theorem dX8_sorts_174 : decode cX8_sorts 174 = .ok (.istore 7, 2) := by decide +kernel
theorem dX8_sorts_176 : decode cX8_sorts 176 = .ok (.goto (-57), 3) := by decide +kernel
theorem dX8_sorts_179 : decode cX8_sorts 179 = .ok (.aload_n 0, 1) := by decide +kernel
theorem dX8_sorts_180 : decode cX8_sorts 180 = .ok (.getfield 37, 3) := by decide +kernel
theorem dX8_sorts_183 : decode cX8_sorts 183 = .ok (.iload 7, 2) := by decide +kernel
theorem dX8_sorts_185 : decode cX8_sorts 185 = .ok (.iload 6, 2) := by decide +kernel
theorem dX8_sorts_187 : decode cX8_sorts 187 = .ok (.iastore, 1) := by decide +kernel
theorem dX8_sorts_188 : decode cX8_sorts 188 = .ok (.iinc 5 1, 3) := by decide +kernel
theorem dX8_sorts_191 : decode cX8_sorts 191 = .ok (.goto (-94), 3) := by decide +kernel
theorem dX8_sorts_194 : decode cX8_sorts 194 = .ok (.iload 4, 2) := by decide +kernel
theorem dX8_sorts_196 : decode cX8_sorts 196 = .ok (.iconst 2, 1) := by decide +kernel
theorem dX8_sorts_197 : decode cX8_sorts 197 = .ok (.idiv, 1) := by decide +kernel
theorem dX8_sorts_198 : decode cX8_sorts 198 = .ok (.istore 4, 2) := by decide +kernel
theorem dX8_sorts_200 : decode cX8_sorts 200 = .ok (.goto (-112), 3) := by decide +kernel
theorem dX8_sorts_203 : decode cX8_sorts 203 = .ok (.return_, 1) := by decide +kernel
theorem dX8_mayBe_0 : decode cX8_mayBe 0 = .ok (.iload_n 1, 1) := by decide +kernel
theorem dX8_mayBe_1 : decode cX8_mayBe 1 = .ok (.ifCond .ne 5, 3) := by decide +kernel
theorem dX8_mayBe_4 : decode cX8_mayBe 4 = .ok (.iconst 1, 1) := by decide +kernel
theorem dX8_mayBe_5 : decode cX8_mayBe 5 = .ok (.ireturn, 1) := by decide +kernel
theorem dX8_mayBe_6 : decode cX8_mayBe 6 = .ok (.aload_n 0, 1) := by decide +kernel
theorem dX8_mayBe_7 : decode cX8_mayBe 7 = .ok (.iload_n 1, 1) := by decide +kernel
theorem dX8_mayBe_8 : decode cX8_mayBe 8 = .ok (.invokevirtual 133, 3) := by decide +kernel
theorem dX8_mayBe_11 : decode cX8_mayBe 11 = .ok (.iconst 0, 1) := by decide +kernel
theorem dX8_mayBe_12 : decode cX8_mayBe 12 = .ok (.istore_n 2, 1) := by decide +kernel
theorem dX8_mayBe_13 : decode cX8_mayBe 13 = .ok (.iload_n 2, 1) := by decide +kernel
theorem dX8_mayBe_14 : decode cX8_mayBe 14 = .ok (.aload_n 0, 1) := by decide +kernel
theorem dX8_mayBe_15 : decode cX8_mayBe 15 = .ok (.getfield 128, 3) := by decide +kernel
theorem dX8_mayBe_18 : decode cX8_mayBe 18 = .ok (.if_icmp .ge 75, 3) := by decide +kernel
theorem dX8_mayBe_21 : decode cX8_mayBe 21 = .ok (.iload_n 2, 1) := by decide +kernel
theorem dX8_mayBe_22 : decode cX8_mayBe 22 = .ok (.ifCond .eq 31, 3) := by decide +kernel
theorem dX8_mayBe_25 : decode cX8_mayBe 25 = .ok (.aload_n 0, 1) := by decide +kernel
theorem dX8_mayBe_26 : decode cX8_mayBe 26 = .ok (.getfield 34, 3) := by decide +kernel
theorem dX8_mayBe_29 : decode cX8_mayBe 29 = .ok (.aload_n 0, 1) := by decide +kernel
theorem dX8_mayBe_30 : decode cX8_mayBe 30 = .ok (.getfield 37, 3) := by decide +kernel
theorem dX8_mayBe_33 : decode cX8_mayBe 33 = .ok (.iload_n 2, 1) := by decide +kernel
theorem dX8_mayBe_34 : decode cX8_mayBe 34 = .ok (.iaload, 1) := by decide +kernel
theorem dX8_mayBe_35 : decode cX8_mayBe 35 = .ok (.laload, 1) := by decide +kernel
theorem dX8_mayBe_36 : decode cX8_mayBe 36 = .ok (.aload_n 0, 1) := by decide +kernel
theorem dX8_mayBe_37 : decode cX8_mayBe 37 = .ok (.getfield 34, 3) := by decide +kernel
theorem dX8_mayBe_40 : decode cX8_mayBe 40 = .ok (.aload_n 0, 1) := by decide +kernel
theorem dX8_mayBe_41 : decode cX8_mayBe 41 = .ok (.getfield 37, 3) := by decide +kernel
theorem dX8_mayBe_44 : decode cX8_mayBe 44 = .ok (.iload_n 2, 1) := by decide +kernel
theorem dX8_mayBe_45 : decode cX8_mayBe 45 = .ok (.iconst 1, 1) := by decide +kernel
theorem dX8_mayBe_46 : decode cX8_mayBe 46 = .ok (.isub, 1) := by decide +kernel
theorem dX8_mayBe_47 : decode cX8_mayBe 47 = .ok (.iaload, 1) := by decide +kernel
theorem dX8_mayBe_48 : decode cX8_mayBe 48 = .ok (.laload, 1) := by decide +kernel
theorem dX8_mayBe_49 : decode cX8_mayBe 49 = .ok (.lcmp, 1) := by decide +kernel
theorem dX8_mayBe_50 : decode cX8_mayBe 50 = .ok (.ifCond .eq 21, 3) := by decide +kernel
theorem dX8_mayBe_53 : decode cX8_mayBe 53 = .ok (.iload_n 2, 1) := by decide +kernel
theorem dX8_mayBe_54 : decode cX8_mayBe 54 = .ok (.ifCond .le 13, 3) := by decide +kernel
theorem dX8_mayBe_57 : decode cX8_mayBe 57 = .ok (.aload_n 0, 1) := by decide +kernel
theorem dX8_mayBe_58 : decode cX8_mayBe 58 = .ok (.iconst 0, 1) := by decide +kernel
theorem dX8_mayBe_59 : decode cX8_mayBe 59 = .ok (.invokevirtual 103, 3) := by decide +kernel
theorem dX8_mayBe_62 : decode cX8_mayBe 62 = .ok (.ifCond .eq 5, 3) := by decide +kernel
theorem dX8_mayBe_65 : decode cX8_mayBe 65 = .ok (.iconst 0, 1) := by decide +kernel
theorem dX8_mayBe_66 : decode cX8_mayBe 66 = .ok (.ireturn, 1) := by decide +kernel
theorem dX8_mayBe_67 : decode cX8_mayBe 67 = .ok (.aload_n 0, 1) := by decide +kernel
theorem dX8_mayBe_68 : decode cX8_mayBe 68 = .ok (.invokevirtual 90, 3) := by decide +kernel
theorem dX8_mayBe_71 : decode cX8_mayBe 71 = .ok (.aload_n 0, 1) := by decide +kernel
theorem dX8_mayBe_72 : decode cX8_mayBe 72 = .ok (.iconst 0, 1) := by decide +kernel
theorem dX8_mayBe_73 : decode cX8_mayBe 73 = .ok (.aload_n 0, 1) := by decide +kernel
theorem dX8_mayBe_74 : decode cX8_mayBe 74 = .ok (.getfield 27, 3) := by decide +kernel
theorem dX8_mayBe_77 : decode cX8_mayBe 77 = .ok (.aload_n 0, 1) := by decide +kernel
theorem dX8_mayBe_78 : decode cX8_mayBe 78 = .ok (.getfield 37, 3) := by decide +kernel
theorem dX8_mayBe_81 : decode cX8_mayBe 81 = .ok (.iload_n 2, 1) := by decide +kernel
theorem dX8_mayBe_82 : decode cX8_mayBe 82 = .ok (.iaload, 1) := by decide +kernel
theorem dX8_mayBe_83 : decode cX8_mayBe 83 = .ok (.iaload, 1) := by decide +kernel
theorem dX8_mayBe_84 : decode cX8_mayBe 84 = .ok (.invokevirtual 100, 3) := by decide +kernel
theorem dX8_mayBe_87 : decode cX8_mayBe 87 = .ok (.iinc 2 1, 3) := by decide +kernel
theorem dX8_mayBe_90 : decode cX8_mayBe 90 = .ok (.goto (-77), 3) := by decide +kernel
theorem dX8_mayBe_93 : decode cX8_mayBe 93 = .ok (.aload_n 0, 1) := by decide +kernel
theorem dX8_mayBe_94 : decode cX8_mayBe 94 = .ok (.iconst 0, 1) := by decide +kernel
theorem dX8_mayBe_95 : decode cX8_mayBe 95 = .ok (.invokevirtual 103, 3) := by decide +kernel
theorem dX8_mayBe_98 : decode cX8_mayBe 98 = .ok (.ifCond .ne 7, 3) := by decide +kernel
theorem dX8_mayBe_101 : decode cX8_mayBe 101 = .ok (.iconst 1, 1) := by decide +kernel
theorem dX8_mayBe_102 : decode cX8_mayBe 102 = .ok (.goto 4, 3) := by decide +kernel
theorem dX8_mayBe_105 : decode cX8_mayBe 105 = .ok (.iconst 0, 1) := by decide +kernel
theorem dX8_mayBe_106 : decode cX8_mayBe 106 = .ok (.ireturn, 1) := by decide +kernel
theorem dX8_together_0 : decode cX8_together 0 = .ok (.iload_n 1, 1) := by decide +kernel
theorem dX8_together_1 : decode cX8_together 1 = .ok (.invokestatic 106, 3) := by decide +kernel
theorem dX8_together_4 : decode cX8_together 4 = .ok (.ifCond .eq 19, 3) := by decide +kernel
theorem dX8_together_7 : decode cX8_together 7 = .ok (.iload_n 2, 1) := by decide +kernel
theorem dX8_together_8 : decode cX8_together 8 = .ok (.ifCond .lt 15, 3) := by decide +kernel
theorem dX8_together_11 : decode cX8_together 11 = .ok (.iload_n 2, 1) := by decide +kernel
theorem dX8_together_12 : decode cX8_together 12 = .ok (.iconst 1, 1) := by decide +kernel
theorem dX8_together_13 : decode cX8_together 13 = .ok (.aload_n 0, 1) := by decide +kernel
theorem dX8_together_14 : decode cX8_together 14 = .ok (.getfield 8, 3) := by decide +kernel
theorem dX8_together_17 : decode cX8_together 17 = .ok (.iconst 5, 1) := by decide +kernel
theorem dX8_together_18 : decode cX8_together 18 = .ok (.iaload, 1) := by decide +kernel
theorem dX8_together_19 : decode cX8_together 19 = .ok (.ishl, 1) := by decide +kernel
theorem dX8_together_20 : decode cX8_together 20 = .ok (.if_icmp .lt 5, 3) := by decide +kernel
theorem dX8_together_23 : decode cX8_together 23 = .ok (.iconst 0, 1) := by decide +kernel
theorem dX8_together_24 : decode cX8_together 24 = .ok (.ireturn, 1) := by decide +kernel
theorem dX8_together_25 : decode cX8_together 25 = .ok (.aload_n 0, 1) := by decide +kernel
theorem dX8_together_26 : decode cX8_together 26 = .ok (.iload_n 1, 1) := by decide +kernel
theorem dX8_together_27 : decode cX8_together 27 = .ok (.invokevirtual 137, 3) := by decide +kernel
theorem dX8_together_30 : decode cX8_together 30 = .ok (.aload_n 0, 1) := by decide +kernel
theorem dX8_together_31 : decode cX8_together 31 = .ok (.iload_n 2, 1) := by decide +kernel
theorem dX8_together_32 : decode cX8_together 32 = .ok (.invokevirtual 140, 3) := by decide +kernel
theorem dX8_together_35 : decode cX8_together 35 = .ok (.ireturn, 1) := by decide +kernel
theorem dX8_bitsOf_0 : decode cX8_bitsOf 0 = .ok (.iconst 0, 1) := by decide +kernel
theorem dX8_bitsOf_1 : decode cX8_bitsOf 1 = .ok (.istore_n 1, 1) := by decide +kernel
theorem dX8_bitsOf_2 : decode cX8_bitsOf 2 = .ok (.iconst 0, 1) := by decide +kernel
theorem dX8_bitsOf_3 : decode cX8_bitsOf 3 = .ok (.istore_n 2, 1) := by decide +kernel
theorem dX8_bitsOf_4 : decode cX8_bitsOf 4 = .ok (.iload_n 2, 1) := by decide +kernel
theorem dX8_bitsOf_5 : decode cX8_bitsOf 5 = .ok (.bipush 8, 2) := by decide +kernel
theorem dX8_bitsOf_7 : decode cX8_bitsOf 7 = .ok (.if_icmp .ge 17, 3) := by decide +kernel
theorem dX8_bitsOf_10 : decode cX8_bitsOf 10 = .ok (.iload_n 1, 1) := by decide +kernel
theorem dX8_bitsOf_11 : decode cX8_bitsOf 11 = .ok (.iload_n 0, 1) := by decide +kernel
theorem dX8_bitsOf_12 : decode cX8_bitsOf 12 = .ok (.iload_n 2, 1) := by decide +kernel
theorem dX8_bitsOf_13 : decode cX8_bitsOf 13 = .ok (.ishr, 1) := by decide +kernel
theorem dX8_bitsOf_14 : decode cX8_bitsOf 14 = .ok (.iconst 1, 1) := by decide +kernel
theorem dX8_bitsOf_15 : decode cX8_bitsOf 15 = .ok (.iand, 1) := by decide +kernel
theorem dX8_bitsOf_16 : decode cX8_bitsOf 16 = .ok (.iadd, 1) := by decide +kernel
theorem dX8_bitsOf_17 : decode cX8_bitsOf 17 = .ok (.istore_n 1, 1) := by decide +kernel
theorem dX8_bitsOf_18 : decode cX8_bitsOf 18 = .ok (.iinc 2 1, 3) := by decide +kernel
theorem dX8_bitsOf_21 : decode cX8_bitsOf 21 = .ok (.goto (-17), 3) := by decide +kernel
theorem dX8_bitsOf_24 : decode cX8_bitsOf 24 = .ok (.iload_n 1, 1) := by decide +kernel
theorem dX8_bitsOf_25 : decode cX8_bitsOf 25 = .ok (.ireturn, 1) := by decide +kernel
theorem dX8_most_0 : decode cX8_most 0 = .ok (.iload_n 1, 1) := by decide +kernel
theorem dX8_most_1 : decode cX8_most 1 = .ok (.invokestatic 106, 3) := by decide +kernel
theorem dX8_most_4 : decode cX8_most 4 = .ok (.ifCond .ne 5, 3) := by decide +kernel
theorem dX8_most_7 : decode cX8_most 7 = .ok (.iconst (-1), 1) := by decide +kernel
theorem dX8_most_8 : decode cX8_most 8 = .ok (.ireturn, 1) := by decide +kernel
theorem dX8_most_9 : decode cX8_most 9 = .ok (.aload_n 0, 1) := by decide +kernel
theorem dX8_most_10 : decode cX8_most 10 = .ok (.iload_n 1, 1) := by decide +kernel
theorem dX8_most_11 : decode cX8_most 11 = .ok (.invokevirtual 137, 3) := by decide +kernel
theorem dX8_most_14 : decode cX8_most 14 = .ok (.iconst 0, 1) := by decide +kernel
theorem dX8_most_15 : decode cX8_most 15 = .ok (.istore_n 2, 1) := by decide +kernel
theorem dX8_most_16 : decode cX8_most 16 = .ok (.iconst 1, 1) := by decide +kernel
theorem dX8_most_17 : decode cX8_most 17 = .ok (.istore_n 3, 1) := by decide +kernel
theorem dX8_most_18 : decode cX8_most 18 = .ok (.iload_n 3, 1) := by decide +kernel
theorem dX8_most_19 : decode cX8_most 19 = .ok (.iconst 1, 1) := by decide +kernel
theorem dX8_most_20 : decode cX8_most 20 = .ok (.aload_n 0, 1) := by decide +kernel
theorem dX8_most_21 : decode cX8_most 21 = .ok (.getfield 8, 3) := by decide +kernel
theorem dX8_most_24 : decode cX8_most 24 = .ok (.iconst 5, 1) := by decide +kernel
theorem dX8_most_25 : decode cX8_most 25 = .ok (.iaload, 1) := by decide +kernel
theorem dX8_most_26 : decode cX8_most 26 = .ok (.ishl, 1) := by decide +kernel
theorem dX8_most_27 : decode cX8_most 27 = .ok (.if_icmp .ge 30, 3) := by decide +kernel
theorem dX8_most_30 : decode cX8_most 30 = .ok (.iload_n 3, 1) := by decide +kernel
theorem dX8_most_31 : decode cX8_most 31 = .ok (.invokestatic 143, 3) := by decide +kernel
theorem dX8_most_34 : decode cX8_most 34 = .ok (.iload_n 2, 1) := by decide +kernel
theorem dX8_most_35 : decode cX8_most 35 = .ok (.invokestatic 143, 3) := by decide +kernel
theorem dX8_most_38 : decode cX8_most 38 = .ok (.if_icmp .le 13, 3) := by decide +kernel
theorem dX8_most_41 : decode cX8_most 41 = .ok (.aload_n 0, 1) := by decide +kernel
theorem dX8_most_42 : decode cX8_most 42 = .ok (.iload_n 3, 1) := by decide +kernel
theorem dX8_most_43 : decode cX8_most 43 = .ok (.invokevirtual 140, 3) := by decide +kernel
theorem dX8_most_46 : decode cX8_most 46 = .ok (.ifCond .eq 5, 3) := by decide +kernel
theorem dX8_most_49 : decode cX8_most 49 = .ok (.iload_n 3, 1) := by decide +kernel
theorem dX8_most_50 : decode cX8_most 50 = .ok (.istore_n 2, 1) := by decide +kernel
theorem dX8_most_51 : decode cX8_most 51 = .ok (.iinc 3 1, 3) := by decide +kernel
theorem dX8_most_54 : decode cX8_most 54 = .ok (.goto (-36), 3) := by decide +kernel
theorem dX8_most_57 : decode cX8_most 57 = .ok (.iload_n 2, 1) := by decide +kernel
theorem dX8_most_58 : decode cX8_most 58 = .ok (.ireturn, 1) := by decide +kernel
theorem dX8_count_0 : decode cX8_count 0 = .ok (.iconst 0, 1) := by decide +kernel
theorem dX8_count_1 : decode cX8_count 1 = .ok (.istore_n 2, 1) := by decide +kernel
theorem dX8_count_2 : decode cX8_count 2 = .ok (.iconst 0, 1) := by decide +kernel
theorem dX8_count_3 : decode cX8_count 3 = .ok (.istore_n 3, 1) := by decide +kernel
theorem dX8_count_4 : decode cX8_count 4 = .ok (.iload_n 3, 1) := by decide +kernel
theorem dX8_count_5 : decode cX8_count 5 = .ok (.iconst 4, 1) := by decide +kernel
theorem dX8_count_6 : decode cX8_count 6 = .ok (.if_icmp .ge 30, 3) := by decide +kernel
theorem dX8_count_9 : decode cX8_count 9 = .ok (.iload_n 2, 1) := by decide +kernel
theorem dX8_count_10 : decode cX8_count 10 = .ok (.aload_n 0, 1) := by decide +kernel
theorem dX8_count_11 : decode cX8_count 11 = .ok (.getfield 8, 3) := by decide +kernel
theorem dX8_count_14 : decode cX8_count 14 = .ok (.bipush 6, 2) := by decide +kernel
theorem dX8_count_16 : decode cX8_count 16 = .ok (.iload_n 3, 1) := by decide +kernel
theorem dX8_count_17 : decode cX8_count 17 = .ok (.iadd, 1) := by decide +kernel
theorem dX8_count_18 : decode cX8_count 18 = .ok (.iaload, 1) := by decide +kernel
theorem dX8_count_19 : decode cX8_count 19 = .ok (.iload_n 3, 1) := by decide +kernel
theorem dX8_count_20 : decode cX8_count 20 = .ok (.if_icmp .ne 7, 3) := by decide +kernel
theorem dX8_count_23 : decode cX8_count 23 = .ok (.iconst 1, 1) := by decide +kernel
theorem dX8_count_24 : decode cX8_count 24 = .ok (.goto 4, 3) := by decide +kernel
theorem dX8_count_27 : decode cX8_count 27 = .ok (.iconst 0, 1) := by decide +kernel
theorem dX8_count_28 : decode cX8_count 28 = .ok (.iadd, 1) := by decide +kernel
theorem dX8_count_29 : decode cX8_count 29 = .ok (.istore_n 2, 1) := by decide +kernel
theorem dX8_count_30 : decode cX8_count 30 = .ok (.iinc 3 1, 3) := by decide +kernel
theorem dX8_count_33 : decode cX8_count 33 = .ok (.goto (-29), 3) := by decide +kernel
theorem dX8_count_36 : decode cX8_count 36 = .ok (.iload_n 1, 1) := by decide +kernel
theorem dX8_count_37 : decode cX8_count 37 = .ok (.tableswitch 87 0 6 #[43, 50, 57, 64, 71, 78, 85], 43) := by decide +kernel
theorem dX8_count_80 : decode cX8_count 80 = .ok (.aload_n 0, 1) := by decide +kernel
theorem dX8_count_81 : decode cX8_count 81 = .ok (.getfield 8, 3) := by decide +kernel
theorem dX8_count_84 : decode cX8_count 84 = .ok (.iconst 0, 1) := by decide +kernel
theorem dX8_count_85 : decode cX8_count 85 = .ok (.iaload, 1) := by decide +kernel
theorem dX8_count_86 : decode cX8_count 86 = .ok (.ireturn, 1) := by decide +kernel
theorem dX8_count_87 : decode cX8_count 87 = .ok (.aload_n 0, 1) := by decide +kernel
theorem dX8_count_88 : decode cX8_count 88 = .ok (.getfield 8, 3) := by decide +kernel
theorem dX8_count_91 : decode cX8_count 91 = .ok (.iconst 1, 1) := by decide +kernel
theorem dX8_count_92 : decode cX8_count 92 = .ok (.iaload, 1) := by decide +kernel
theorem dX8_count_93 : decode cX8_count 93 = .ok (.ireturn, 1) := by decide +kernel
theorem dX8_count_94 : decode cX8_count 94 = .ok (.aload_n 0, 1) := by decide +kernel
theorem dX8_count_95 : decode cX8_count 95 = .ok (.getfield 8, 3) := by decide +kernel
theorem dX8_count_98 : decode cX8_count 98 = .ok (.iconst 2, 1) := by decide +kernel
theorem dX8_count_99 : decode cX8_count 99 = .ok (.iaload, 1) := by decide +kernel
theorem dX8_count_100 : decode cX8_count 100 = .ok (.ireturn, 1) := by decide +kernel
theorem dX8_count_101 : decode cX8_count 101 = .ok (.aload_n 0, 1) := by decide +kernel
theorem dX8_count_102 : decode cX8_count 102 = .ok (.getfield 8, 3) := by decide +kernel
theorem dX8_count_105 : decode cX8_count 105 = .ok (.iconst 3, 1) := by decide +kernel
theorem dX8_count_106 : decode cX8_count 106 = .ok (.iaload, 1) := by decide +kernel
theorem dX8_count_107 : decode cX8_count 107 = .ok (.ireturn, 1) := by decide +kernel
theorem dX8_count_108 : decode cX8_count 108 = .ok (.aload_n 0, 1) := by decide +kernel
theorem dX8_count_109 : decode cX8_count 109 = .ok (.getfield 8, 3) := by decide +kernel
theorem dX8_count_112 : decode cX8_count 112 = .ok (.iconst 4, 1) := by decide +kernel
theorem dX8_count_113 : decode cX8_count 113 = .ok (.iaload, 1) := by decide +kernel
theorem dX8_count_114 : decode cX8_count 114 = .ok (.ireturn, 1) := by decide +kernel
theorem dX8_count_115 : decode cX8_count 115 = .ok (.aload_n 0, 1) := by decide +kernel
theorem dX8_count_116 : decode cX8_count 116 = .ok (.getfield 8, 3) := by decide +kernel
theorem dX8_count_119 : decode cX8_count 119 = .ok (.iconst 5, 1) := by decide +kernel
theorem dX8_count_120 : decode cX8_count 120 = .ok (.iaload, 1) := by decide +kernel
theorem dX8_count_121 : decode cX8_count 121 = .ok (.ireturn, 1) := by decide +kernel
theorem dX8_count_122 : decode cX8_count 122 = .ok (.iload_n 2, 1) := by decide +kernel
theorem dX8_count_123 : decode cX8_count 123 = .ok (.ireturn, 1) := by decide +kernel
theorem dX8_count_124 : decode cX8_count 124 = .ok (.iconst (-1), 1) := by decide +kernel
theorem dX8_count_125 : decode cX8_count 125 = .ok (.ireturn, 1) := by decide +kernel
theorem dX8_image_0 : decode cX8_image 0 = .ok (.iload_n 1, 1) := by decide +kernel
theorem dX8_image_1 : decode cX8_image 1 = .ok (.iconst 0, 1) := by decide +kernel
theorem dX8_image_2 : decode cX8_image 2 = .ok (.iconst 2, 1) := by decide +kernel
theorem dX8_image_3 : decode cX8_image 3 = .ok (.invokestatic 40, 3) := by decide +kernel
theorem dX8_image_6 : decode cX8_image 6 = .ok (.ifCond .ne 5, 3) := by decide +kernel
theorem dX8_image_9 : decode cX8_image 9 = .ok (.iconst 0, 1) := by decide +kernel
theorem dX8_image_10 : decode cX8_image 10 = .ok (.ireturn, 1) := by decide +kernel
theorem dX8_image_11 : decode cX8_image 11 = .ok (.aload_n 0, 1) := by decide +kernel
theorem dX8_image_12 : decode cX8_image 12 = .ok (.getfield 14, 3) := by decide +kernel
theorem dX8_image_15 : decode cX8_image 15 = .ok (.iload_n 1, 1) := by decide +kernel
theorem dX8_image_16 : decode cX8_image 16 = .ok (.iconst 1, 1) := by decide +kernel
theorem dX8_image_17 : decode cX8_image 17 = .ok (.bastore, 1) := by decide +kernel
theorem dX8_image_18 : decode cX8_image 18 = .ok (.iconst 0, 1) := by decide +kernel
theorem dX8_image_19 : decode cX8_image 19 = .ok (.istore_n 2, 1) := by decide +kernel
theorem dX8_image_20 : decode cX8_image 20 = .ok (.iload_n 2, 1) := by decide +kernel
theorem dX8_image_21 : decode cX8_image 21 = .ok (.sipush 17514, 3) := by decide +kernel
theorem dX8_image_24 : decode cX8_image 24 = .ok (.if_icmp .ge 29, 3) := by decide +kernel
theorem dX8_image_27 : decode cX8_image 27 = .ok (.aload_n 0, 1) := by decide +kernel
theorem dX8_image_28 : decode cX8_image 28 = .ok (.getfield 8, 3) := by decide +kernel
theorem dX8_image_31 : decode cX8_image 31 = .ok (.sipush 17514, 3) := by decide +kernel
theorem dX8_image_34 : decode cX8_image 34 = .ok (.iload_n 1, 1) := by decide +kernel
theorem dX8_image_35 : decode cX8_image 35 = .ok (.iconst 1, 1) := by decide +kernel
theorem dX8_image_36 : decode cX8_image 36 = .ok (.iadd, 1) := by decide +kernel
theorem dX8_image_37 : decode cX8_image 37 = .ok (.imul, 1) := by decide +kernel
theorem dX8_image_38 : decode cX8_image 38 = .ok (.iload_n 2, 1) := by decide +kernel
theorem dX8_image_39 : decode cX8_image 39 = .ok (.iadd, 1) := by decide +kernel
theorem dX8_image_40 : decode cX8_image 40 = .ok (.aload_n 0, 1) := by decide +kernel
theorem dX8_image_41 : decode cX8_image 41 = .ok (.getfield 8, 3) := by decide +kernel
theorem dX8_image_44 : decode cX8_image 44 = .ok (.iload_n 2, 1) := by decide +kernel
theorem dX8_image_45 : decode cX8_image 45 = .ok (.iaload, 1) := by decide +kernel
theorem dX8_image_46 : decode cX8_image 46 = .ok (.iastore, 1) := by decide +kernel
theorem dX8_image_47 : decode cX8_image 47 = .ok (.iinc 2 1, 3) := by decide +kernel
theorem dX8_image_50 : decode cX8_image 50 = .ok (.goto (-30), 3) := by decide +kernel
theorem dX8_image_53 : decode cX8_image 53 = .ok (.iconst 1, 1) := by decide +kernel
theorem dX8_image_54 : decode cX8_image 54 = .ok (.ireturn, 1) := by decide +kernel
theorem dX8_again_0 : decode cX8_again 0 = .ok (.iload_n 1, 1) := by decide +kernel
theorem dX8_again_1 : decode cX8_again 1 = .ok (.iconst 0, 1) := by decide +kernel
theorem dX8_again_2 : decode cX8_again 2 = .ok (.iconst 2, 1) := by decide +kernel
theorem dX8_again_3 : decode cX8_again 3 = .ok (.invokestatic 40, 3) := by decide +kernel
theorem dX8_again_6 : decode cX8_again 6 = .ok (.ifCond .eq 12, 3) := by decide +kernel
theorem dX8_again_9 : decode cX8_again 9 = .ok (.aload_n 0, 1) := by decide +kernel
theorem dX8_again_10 : decode cX8_again 10 = .ok (.getfield 14, 3) := by decide +kernel
theorem dX8_again_13 : decode cX8_again 13 = .ok (.iload_n 1, 1) := by decide +kernel
theorem dX8_again_14 : decode cX8_again 14 = .ok (.baload, 1) := by decide +kernel
theorem dX8_again_15 : decode cX8_again 15 = .ok (.ifCond .ne 5, 3) := by decide +kernel
theorem dX8_again_18 : decode cX8_again 18 = .ok (.iconst 0, 1) := by decide +kernel
theorem dX8_again_19 : decode cX8_again 19 = .ok (.ireturn, 1) := by decide +kernel
theorem dX8_again_20 : decode cX8_again 20 = .ok (.iconst 0, 1) := by decide +kernel
theorem dX8_again_21 : decode cX8_again 21 = .ok (.istore_n 2, 1) := by decide +kernel
theorem dX8_again_22 : decode cX8_again 22 = .ok (.iload_n 2, 1) := by decide +kernel
theorem dX8_again_23 : decode cX8_again 23 = .ok (.sipush 17514, 3) := by decide +kernel
theorem dX8_again_26 : decode cX8_again 26 = .ok (.if_icmp .ge 29, 3) := by decide +kernel
theorem dX8_again_29 : decode cX8_again 29 = .ok (.aload_n 0, 1) := by decide +kernel
theorem dX8_again_30 : decode cX8_again 30 = .ok (.getfield 8, 3) := by decide +kernel
theorem dX8_again_33 : decode cX8_again 33 = .ok (.iload_n 2, 1) := by decide +kernel
theorem dX8_again_34 : decode cX8_again 34 = .ok (.aload_n 0, 1) := by decide +kernel
theorem dX8_again_35 : decode cX8_again 35 = .ok (.getfield 8, 3) := by decide +kernel
theorem dX8_again_38 : decode cX8_again 38 = .ok (.sipush 17514, 3) := by decide +kernel
theorem dX8_again_41 : decode cX8_again 41 = .ok (.iload_n 1, 1) := by decide +kernel
theorem dX8_again_42 : decode cX8_again 42 = .ok (.iconst 1, 1) := by decide +kernel
theorem dX8_again_43 : decode cX8_again 43 = .ok (.iadd, 1) := by decide +kernel
theorem dX8_again_44 : decode cX8_again 44 = .ok (.imul, 1) := by decide +kernel
theorem dX8_again_45 : decode cX8_again 45 = .ok (.iload_n 2, 1) := by decide +kernel
theorem dX8_again_46 : decode cX8_again 46 = .ok (.iadd, 1) := by decide +kernel
theorem dX8_again_47 : decode cX8_again 47 = .ok (.iaload, 1) := by decide +kernel
theorem dX8_again_48 : decode cX8_again 48 = .ok (.iastore, 1) := by decide +kernel
theorem dX8_again_49 : decode cX8_again 49 = .ok (.iinc 2 1, 3) := by decide +kernel
theorem dX8_again_52 : decode cX8_again 52 = .ok (.goto (-30), 3) := by decide +kernel
theorem dX8_again_55 : decode cX8_again 55 = .ok (.iconst 1, 1) := by decide +kernel
theorem dX8_again_56 : decode cX8_again 56 = .ok (.ireturn, 1) := by decide +kernel
