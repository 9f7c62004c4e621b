theorem dX0_init_0 : decode cX0_init 0 = .ok (.aload_n 0, 1) := by decide +kernel
theorem dX0_init_1 : decode cX0_init 1 = .ok (.invokespecial 3, 3) := by decide +kernel
theorem dX0_init_4 : decode cX0_init 4 = .ok (.aload_n 0, 1) := by decide +kernel
theorem dX0_init_5 : decode cX0_init 5 = .ok (.iconst 5, 1) := by decide +kernel
theorem dX0_init_6 : decode cX0_init 6 = .ok (.sipush 200, 3) := by decide +kernel
theorem dX0_init_9 : decode cX0_init 9 = .ok (.multianewarray 9 2, 4) := by decide +kernel
theorem dX0_init_13 : decode cX0_init 13 = .ok (.putfield 11, 3) := by decide +kernel
theorem dX0_init_16 : decode cX0_init 16 = .ok (.aload_n 0, 1) := by decide +kernel
theorem dX0_init_17 : decode cX0_init 17 = .ok (.iconst 0, 1) := by decide +kernel
theorem dX0_init_18 : decode cX0_init 18 = .ok (.putfield 16, 3) := by decide +kernel
theorem dX0_init_21 : decode cX0_init 21 = .ok (.aload_n 0, 1) := by decide +kernel
theorem dX0_init_22 : decode cX0_init 22 = .ok (.iconst 0, 1) := by decide +kernel
theorem dX0_init_23 : decode cX0_init 23 = .ok (.putfield 20, 3) := by decide +kernel
theorem dX0_init_26 : decode cX0_init 26 = .ok (.return_, 1) := by decide +kernel
theorem dX0_add_0 : decode cX0_add 0 = .ok (.aload_n 0, 1) := by decide +kernel
theorem dX0_add_1 : decode cX0_add 1 = .ok (.getfield 11, 3) := by decide +kernel
theorem dX0_add_4 : decode cX0_add 4 = .ok (.iconst 0, 1) := by decide +kernel
theorem dX0_add_5 : decode cX0_add 5 = .ok (.aaload, 1) := by decide +kernel
theorem dX0_add_6 : decode cX0_add 6 = .ok (.aload_n 0, 1) := by decide +kernel
theorem dX0_add_7 : decode cX0_add 7 = .ok (.getfield 16, 3) := by decide +kernel
theorem dX0_add_10 : decode cX0_add 10 = .ok (.iload_n 1, 1) := by decide +kernel
theorem dX0_add_11 : decode cX0_add 11 = .ok (.iastore, 1) := by decide +kernel
theorem dX0_add_12 : decode cX0_add 12 = .ok (.aload_n 0, 1) := by decide +kernel
theorem dX0_add_13 : decode cX0_add 13 = .ok (.getfield 11, 3) := by decide +kernel
theorem dX0_add_16 : decode cX0_add 16 = .ok (.iconst 1, 1) := by decide +kernel
theorem dX0_add_17 : decode cX0_add 17 = .ok (.aaload, 1) := by decide +kernel
theorem dX0_add_18 : decode cX0_add 18 = .ok (.aload_n 0, 1) := by decide +kernel
theorem dX0_add_19 : decode cX0_add 19 = .ok (.getfield 16, 3) := by decide +kernel
theorem dX0_add_22 : decode cX0_add 22 = .ok (.iload_n 2, 1) := by decide +kernel
theorem dX0_add_23 : decode cX0_add 23 = .ok (.iastore, 1) := by decide +kernel
theorem dX0_add_24 : decode cX0_add 24 = .ok (.aload_n 0, 1) := by decide +kernel
theorem dX0_add_25 : decode cX0_add 25 = .ok (.getfield 11, 3) := by decide +kernel
theorem dX0_add_28 : decode cX0_add 28 = .ok (.iconst 2, 1) := by decide +kernel
theorem dX0_add_29 : decode cX0_add 29 = .ok (.aaload, 1) := by decide +kernel
theorem dX0_add_30 : decode cX0_add 30 = .ok (.aload_n 0, 1) := by decide +kernel
theorem dX0_add_31 : decode cX0_add 31 = .ok (.getfield 16, 3) := by decide +kernel
theorem dX0_add_34 : decode cX0_add 34 = .ok (.iload_n 3, 1) := by decide +kernel
theorem dX0_add_35 : decode cX0_add 35 = .ok (.iastore, 1) := by decide +kernel
theorem dX0_add_36 : decode cX0_add 36 = .ok (.aload_n 0, 1) := by decide +kernel
theorem dX0_add_37 : decode cX0_add 37 = .ok (.getfield 11, 3) := by decide +kernel
theorem dX0_add_40 : decode cX0_add 40 = .ok (.iconst 3, 1) := by decide +kernel
theorem dX0_add_41 : decode cX0_add 41 = .ok (.aaload, 1) := by decide +kernel
theorem dX0_add_42 : decode cX0_add 42 = .ok (.aload_n 0, 1) := by decide +kernel
theorem dX0_add_43 : decode cX0_add 43 = .ok (.getfield 16, 3) := by decide +kernel
theorem dX0_add_46 : decode cX0_add 46 = .ok (.iload 4, 2) := by decide +kernel
theorem dX0_add_48 : decode cX0_add 48 = .ok (.iastore, 1) := by decide +kernel
theorem dX0_add_49 : decode cX0_add 49 = .ok (.aload_n 0, 1) := by decide +kernel
theorem dX0_add_50 : decode cX0_add 50 = .ok (.getfield 11, 3) := by decide +kernel
theorem dX0_add_53 : decode cX0_add 53 = .ok (.iconst 4, 1) := by decide +kernel
theorem dX0_add_54 : decode cX0_add 54 = .ok (.aaload, 1) := by decide +kernel
theorem dX0_add_55 : decode cX0_add 55 = .ok (.aload_n 0, 1) := by decide +kernel
theorem dX0_add_56 : decode cX0_add 56 = .ok (.getfield 16, 3) := by decide +kernel
theorem dX0_add_59 : decode cX0_add 59 = .ok (.iload 5, 2) := by decide +kernel
theorem dX0_add_61 : decode cX0_add 61 = .ok (.iastore, 1) := by decide +kernel
theorem dX0_add_62 : decode cX0_add 62 = .ok (.aload_n 0, 1) := by decide +kernel
theorem dX0_add_63 : decode cX0_add 63 = .ok (.dup, 1) := by decide +kernel
theorem dX0_add_64 : decode cX0_add 64 = .ok (.getfield 16, 3) := by decide +kernel
theorem dX0_add_67 : decode cX0_add 67 = .ok (.iconst 1, 1) := by decide +kernel
theorem dX0_add_68 : decode cX0_add 68 = .ok (.iadd, 1) := by decide +kernel
theorem dX0_add_69 : decode cX0_add 69 = .ok (.putfield 16, 3) := by decide +kernel
theorem dX0_add_72 : decode cX0_add 72 = .ok (.iload 5, 2) := by decide +kernel
theorem dX0_add_74 : decode cX0_add 74 = .ok (.bipush (-2), 2) := by decide +kernel
theorem dX0_add_76 : decode cX0_add 76 = .ok (.if_icmp .ne 13, 3) := by decide +kernel
theorem dX0_add_79 : decode cX0_add 79 = .ok (.aload_n 0, 1) := by decide +kernel
theorem dX0_add_80 : decode cX0_add 80 = .ok (.dup, 1) := by decide +kernel
theorem dX0_add_81 : decode cX0_add 81 = .ok (.getfield 20, 3) := by decide +kernel
theorem dX0_add_84 : decode cX0_add 84 = .ok (.iconst 1, 1) := by decide +kernel
theorem dX0_add_85 : decode cX0_add 85 = .ok (.iadd, 1) := by decide +kernel
theorem dX0_add_86 : decode cX0_add 86 = .ok (.putfield 20, 3) := by decide +kernel
theorem dX0_add_89 : decode cX0_add 89 = .ok (.return_, 1) := by decide +kernel
theorem dX0_copyFrom_0 : decode cX0_copyFrom 0 = .ok (.iconst 0, 1) := by decide +kernel
theorem dX0_copyFrom_1 : decode cX0_copyFrom 1 = .ok (.istore_n 2, 1) := by decide +kernel
theorem dX0_copyFrom_2 : decode cX0_copyFrom 2 = .ok (.iload_n 2, 1) := by decide +kernel
theorem dX0_copyFrom_3 : decode cX0_copyFrom 3 = .ok (.iconst 5, 1) := by decide +kernel
theorem dX0_copyFrom_4 : decode cX0_copyFrom 4 = .ok (.if_icmp .ge 29, 3) := by decide +kernel
theorem dX0_copyFrom_7 : decode cX0_copyFrom 7 = .ok (.aload_n 1, 1) := by decide +kernel
theorem dX0_copyFrom_8 : decode cX0_copyFrom 8 = .ok (.getfield 11, 3) := by decide +kernel
theorem dX0_copyFrom_11 : decode cX0_copyFrom 11 = .ok (.iload_n 2, 1) := by decide +kernel
theorem dX0_copyFrom_12 : decode cX0_copyFrom 12 = .ok (.aaload, 1) := by decide +kernel
theorem dX0_copyFrom_13 : decode cX0_copyFrom 13 = .ok (.iconst 0, 1) := by decide +kernel
theorem dX0_copyFrom_14 : decode cX0_copyFrom 14 = .ok (.aload_n 0, 1) := by decide +kernel
theorem dX0_copyFrom_15 : decode cX0_copyFrom 15 = .ok (.getfield 11, 3) := by decide +kernel
theorem dX0_copyFrom_18 : decode cX0_copyFrom 18 = .ok (.iload_n 2, 1) := by decide +kernel
theorem dX0_copyFrom_19 : decode cX0_copyFrom 19 = .ok (.aaload, 1) := by decide +kernel
theorem dX0_copyFrom_20 : decode cX0_copyFrom 20 = .ok (.iconst 0, 1) := by decide +kernel
theorem dX0_copyFrom_21 : decode cX0_copyFrom 21 = .ok (.sipush 200, 3) := by decide +kernel
theorem dX0_copyFrom_24 : decode cX0_copyFrom 24 = .ok (.invokestatic 23, 3) := by decide +kernel
theorem dX0_copyFrom_27 : decode cX0_copyFrom 27 = .ok (.iinc 2 1, 3) := by decide +kernel
theorem dX0_copyFrom_30 : decode cX0_copyFrom 30 = .ok (.goto (-28), 3) := by decide +kernel
theorem dX0_copyFrom_33 : decode cX0_copyFrom 33 = .ok (.aload_n 0, 1) := by decide +kernel
theorem dX0_copyFrom_34 : decode cX0_copyFrom 34 = .ok (.aload_n 1, 1) := by decide +kernel
theorem dX0_copyFrom_35 : decode cX0_copyFrom 35 = .ok (.getfield 16, 3) := by decide +kernel
theorem dX0_copyFrom_38 : decode cX0_copyFrom 38 = .ok (.putfield 16, 3) := by decide +kernel
theorem dX0_copyFrom_41 : decode cX0_copyFrom 41 = .ok (.aload_n 0, 1) := by decide +kernel
theorem dX0_copyFrom_42 : decode cX0_copyFrom 42 = .ok (.aload_n 1, 1) := by decide +kernel
theorem dX0_copyFrom_43 : decode cX0_copyFrom 43 = .ok (.getfield 20, 3) := by decide +kernel
theorem dX0_copyFrom_46 : decode cX0_copyFrom 46 = .ok (.putfield 20, 3) := by decide +kernel
theorem dX0_copyFrom_49 : decode cX0_copyFrom 49 = .ok (.return_, 1) := by decide +kernel
theorem dX1_init_0 : decode cX1_init 0 = .ok (.aload_n 0, 1) := by decide +kernel
theorem dX1_init_1 : decode cX1_init 1 = .ok (.invokespecial 3, 3) := by decide +kernel
theorem dX1_init_4 : decode cX1_init 4 = .ok (.aload_n 0, 1) := by decide +kernel
theorem dX1_init_5 : decode cX1_init 5 = .ok (.iconst 4, 1) := by decide +kernel
theorem dX1_init_6 : decode cX1_init 6 = .ok (.newarray .int, 2) := by decide +kernel
theorem dX1_init_8 : decode cX1_init 8 = .ok (.putfield 9, 3) := by decide +kernel
theorem dX1_init_11 : decode cX1_init 11 = .ok (.aload_n 0, 1) := by decide +kernel
theorem dX1_init_12 : decode cX1_init 12 = .ok (.iconst 4, 1) := by decide +kernel
theorem dX1_init_13 : decode cX1_init 13 = .ok (.bipush 64, 2) := by decide +kernel
theorem dX1_init_15 : decode cX1_init 15 = .ok (.multianewarray 15 2, 4) := by decide +kernel
theorem dX1_init_19 : decode cX1_init 19 = .ok (.putfield 17, 3) := by decide +kernel
theorem dX1_init_22 : decode cX1_init 22 = .ok (.iconst 0, 1) := by decide +kernel
theorem dX1_init_23 : decode cX1_init 23 = .ok (.istore_n 1, 1) := by decide +kernel
theorem dX1_init_24 : decode cX1_init 24 = .ok (.iload_n 1, 1) := by decide +kernel
theorem dX1_init_25 : decode cX1_init 25 = .ok (.iconst 4, 1) := by decide +kernel
theorem dX1_init_26 : decode cX1_init 26 = .ok (.if_icmp .ge 25, 3) := by decide +kernel
theorem dX1_init_29 : decode cX1_init 29 = .ok (.aload_n 0, 1) := by decide +kernel
theorem dX1_init_30 : decode cX1_init 30 = .ok (.getfield 9, 3) := by decide +kernel
theorem dX1_init_33 : decode cX1_init 33 = .ok (.iload_n 1, 1) := by decide +kernel
theorem dX1_init_34 : decode cX1_init 34 = .ok (.iload_n 1, 1) := by decide +kernel
theorem dX1_init_35 : decode cX1_init 35 = .ok (.iastore, 1) := by decide +kernel
theorem dX1_init_36 : decode cX1_init 36 = .ok (.aload_n 0, 1) := by decide +kernel
theorem dX1_init_37 : decode cX1_init 37 = .ok (.getfield 17, 3) := by decide +kernel
theorem dX1_init_40 : decode cX1_init 40 = .ok (.iload_n 1, 1) := by decide +kernel
theorem dX1_init_41 : decode cX1_init 41 = .ok (.aaload, 1) := by decide +kernel
theorem dX1_init_42 : decode cX1_init 42 = .ok (.iconst 0, 1) := by decide +kernel
theorem dX1_init_43 : decode cX1_init 43 = .ok (.lconst 1, 1) := by decide +kernel
theorem dX1_init_44 : decode cX1_init 44 = .ok (.lastore, 1) := by decide +kernel
theorem dX1_init_45 : decode cX1_init 45 = .ok (.iinc 1 1, 3) := by decide +kernel
theorem dX1_init_48 : decode cX1_init 48 = .ok (.goto (-24), 3) := by decide +kernel
theorem dX1_init_51 : decode cX1_init 51 = .ok (.return_, 1) := by decide +kernel
theorem dX1_holds_0 : decode cX1_holds 0 = .ok (.aload_n 0, 1) := by decide +kernel
theorem dX1_holds_1 : decode cX1_holds 1 = .ok (.iload_n 1, 1) := by decide +kernel
theorem dX1_holds_2 : decode cX1_holds 2 = .ok (.bipush 64, 2) := by decide +kernel
theorem dX1_holds_4 : decode cX1_holds 4 = .ok (.idiv, 1) := by decide +kernel
theorem dX1_holds_5 : decode cX1_holds 5 = .ok (.laload, 1) := by decide +kernel
theorem dX1_holds_6 : decode cX1_holds 6 = .ok (.iload_n 1, 1) := by decide +kernel
theorem dX1_holds_7 : decode cX1_holds 7 = .ok (.bipush 64, 2) := by decide +kernel
theorem dX1_holds_9 : decode cX1_holds 9 = .ok (.irem, 1) := by decide +kernel
theorem dX1_holds_10 : decode cX1_holds 10 = .ok (.lushr, 1) := by decide +kernel
theorem dX1_holds_11 : decode cX1_holds 11 = .ok (.lconst 1, 1) := by decide +kernel
theorem dX1_holds_12 : decode cX1_holds 12 = .ok (.land, 1) := by decide +kernel
theorem dX1_holds_13 : decode cX1_holds 13 = .ok (.lconst 0, 1) := by decide +kernel
theorem dX1_holds_14 : decode cX1_holds 14 = .ok (.lcmp, 1) := by decide +kernel
theorem dX1_holds_15 : decode cX1_holds 15 = .ok (.ifCond .eq 7, 3) := by decide +kernel
theorem dX1_holds_18 : decode cX1_holds 18 = .ok (.iconst 1, 1) := by decide +kernel
theorem dX1_holds_19 : decode cX1_holds 19 = .ok (.goto 4, 3) := by decide +kernel
theorem dX1_holds_22 : decode cX1_holds 22 = .ok (.iconst 0, 1) := by decide +kernel
theorem dX1_holds_23 : decode cX1_holds 23 = .ok (.ireturn, 1) := by decide +kernel
theorem dX1_leftOf_0 : decode cX1_leftOf 0 = .ok (.aload_n 0, 1) := by decide +kernel
theorem dX1_leftOf_1 : decode cX1_leftOf 1 = .ok (.getfield 17, 3) := by decide +kernel
theorem dX1_leftOf_4 : decode cX1_leftOf 4 = .ok (.aload_n 0, 1) := by decide +kernel
theorem dX1_leftOf_5 : decode cX1_leftOf 5 = .ok (.getfield 9, 3) := by decide +kernel
theorem dX1_leftOf_8 : decode cX1_leftOf 8 = .ok (.iload_n 1, 1) := by decide +kernel
theorem dX1_leftOf_9 : decode cX1_leftOf 9 = .ok (.iaload, 1) := by decide +kernel
theorem dX1_leftOf_10 : decode cX1_leftOf 10 = .ok (.aaload, 1) := by decide +kernel
theorem dX1_leftOf_11 : decode cX1_leftOf 11 = .ok (.areturn, 1) := by decide +kernel
theorem dX1_tablesLeft_0 : decode cX1_tablesLeft 0 = .ok (.aload_n 0, 1) := by decide +kernel
theorem dX1_tablesLeft_1 : decode cX1_tablesLeft 1 = .ok (.iload_n 1, 1) := by decide +kernel
theorem dX1_tablesLeft_2 : decode cX1_tablesLeft 2 = .ok (.invokevirtual 20, 3) := by decide +kernel
theorem dX1_tablesLeft_5 : decode cX1_tablesLeft 5 = .ok (.astore_n 2, 1) := by decide +kernel
theorem dX1_tablesLeft_6 : decode cX1_tablesLeft 6 = .ok (.iconst 0, 1) := by decide +kernel
theorem dX1_tablesLeft_7 : decode cX1_tablesLeft 7 = .ok (.istore_n 3, 1) := by decide +kernel
theorem dX1_tablesLeft_8 : decode cX1_tablesLeft 8 = .ok (.iconst 0, 1) := by decide +kernel
theorem dX1_tablesLeft_9 : decode cX1_tablesLeft 9 = .ok (.istore 4, 2) := by decide +kernel
theorem dX1_tablesLeft_11 : decode cX1_tablesLeft 11 = .ok (.iload 4, 2) := by decide +kernel
theorem dX1_tablesLeft_13 : decode cX1_tablesLeft 13 = .ok (.bipush 64, 2) := by decide +kernel
theorem dX1_tablesLeft_15 : decode cX1_tablesLeft 15 = .ok (.if_icmp .ge 19, 3) := by decide +kernel
theorem dX1_tablesLeft_18 : decode cX1_tablesLeft 18 = .ok (.iload_n 3, 1) := by decide +kernel
theorem dX1_tablesLeft_19 : decode cX1_tablesLeft 19 = .ok (.aload_n 2, 1) := by decide +kernel
theorem dX1_tablesLeft_20 : decode cX1_tablesLeft 20 = .ok (.iload 4, 2) := by decide +kernel
theorem dX1_tablesLeft_22 : decode cX1_tablesLeft 22 = .ok (.laload, 1) := by decide +kernel
theorem dX1_tablesLeft_23 : decode cX1_tablesLeft 23 = .ok (.invokestatic 24, 3) := by decide +kernel
theorem dX1_tablesLeft_26 : decode cX1_tablesLeft 26 = .ok (.iadd, 1) := by decide +kernel
theorem dX1_tablesLeft_27 : decode cX1_tablesLeft 27 = .ok (.istore_n 3, 1) := by decide +kernel
theorem dX1_tablesLeft_28 : decode cX1_tablesLeft 28 = .ok (.iinc 4 1, 3) := by decide +kernel
theorem dX1_tablesLeft_31 : decode cX1_tablesLeft 31 = .ok (.goto (-20), 3) := by decide +kernel
theorem dX1_tablesLeft_34 : decode cX1_tablesLeft 34 = .ok (.iload_n 3, 1) := by decide +kernel
theorem dX1_tablesLeft_35 : decode cX1_tablesLeft 35 = .ok (.ireturn, 1) := by decide +kernel
theorem dX1_circles_0 : decode cX1_circles 0 = .ok (.iconst 0, 1) := by decide +kernel
theorem dX1_circles_1 : decode cX1_circles 1 = .ok (.istore_n 1, 1) := by decide +kernel
theorem dX1_circles_2 : decode cX1_circles 2 = .ok (.iconst 0, 1) := by decide +kernel
theorem dX1_circles_3 : decode cX1_circles 3 = .ok (.istore_n 2, 1) := by decide +kernel
theorem dX1_circles_4 : decode cX1_circles 4 = .ok (.iload_n 2, 1) := by decide +kernel
theorem dX1_circles_5 : decode cX1_circles 5 = .ok (.iconst 4, 1) := by decide +kernel
theorem dX1_circles_6 : decode cX1_circles 6 = .ok (.if_icmp .ge 22, 3) := by decide +kernel
theorem dX1_circles_9 : decode cX1_circles 9 = .ok (.aload_n 0, 1) := by decide +kernel
theorem dX1_circles_10 : decode cX1_circles 10 = .ok (.getfield 9, 3) := by decide +kernel
theorem dX1_circles_13 : decode cX1_circles 13 = .ok (.iload_n 2, 1) := by decide +kernel
theorem dX1_circles_14 : decode cX1_circles 14 = .ok (.iaload, 1) := by decide +kernel
theorem dX1_circles_15 : decode cX1_circles 15 = .ok (.iload_n 2, 1) := by decide +kernel
theorem dX1_circles_16 : decode cX1_circles 16 = .ok (.if_icmp .ne 6, 3) := by decide +kernel
theorem dX1_circles_19 : decode cX1_circles 19 = .ok (.iinc 1 1, 3) := by decide +kernel
theorem dX1_circles_22 : decode cX1_circles 22 = .ok (.iinc 2 1, 3) := by decide +kernel
theorem dX1_circles_25 : decode cX1_circles 25 = .ok (.goto (-21), 3) := by decide +kernel
theorem dX1_circles_28 : decode cX1_circles 28 = .ok (.iload_n 1, 1) := by decide +kernel
theorem dX1_circles_29 : decode cX1_circles 29 = .ok (.ireturn, 1) := by decide +kernel
theorem dX1_widen_0 : decode cX1_widen 0 = .ok (.iconst 0, 1) := by decide +kernel
theorem dX1_widen_1 : decode cX1_widen 1 = .ok (.istore_n 3, 1) := by decide +kernel
theorem dX1_widen_2 : decode cX1_widen 2 = .ok (.iload_n 3, 1) := by decide +kernel
theorem dX1_widen_3 : decode cX1_widen 3 = .ok (.iconst 4, 1) := by decide +kernel
theorem dX1_widen_4 : decode cX1_widen 4 = .ok (.if_icmp .ge 30, 3) := by decide +kernel
theorem dX1_widen_7 : decode cX1_widen 7 = .ok (.aload_n 0, 1) := by decide +kernel
theorem dX1_widen_8 : decode cX1_widen 8 = .ok (.getfield 9, 3) := by decide +kernel
theorem dX1_widen_11 : decode cX1_widen 11 = .ok (.iload_n 3, 1) := by decide +kernel
theorem dX1_widen_12 : decode cX1_widen 12 = .ok (.iaload, 1) := by decide +kernel
theorem dX1_widen_13 : decode cX1_widen 13 = .ok (.iload_n 3, 1) := by decide +kernel
theorem dX1_widen_14 : decode cX1_widen 14 = .ok (.if_icmp .ne 14, 3) := by decide +kernel
theorem dX1_widen_17 : decode cX1_widen 17 = .ok (.aload_n 0, 1) := by decide +kernel
theorem dX1_widen_18 : decode cX1_widen 18 = .ok (.getfield 17, 3) := by decide +kernel
theorem dX1_widen_21 : decode cX1_widen 21 = .ok (.iload_n 3, 1) := by decide +kernel
theorem dX1_widen_22 : decode cX1_widen 22 = .ok (.aaload, 1) := by decide +kernel
theorem dX1_widen_23 : decode cX1_widen 23 = .ok (.iload_n 1, 1) := by decide +kernel
theorem dX1_widen_24 : decode cX1_widen 24 = .ok (.iload_n 2, 1) := by decide +kernel
theorem dX1_widen_25 : decode cX1_widen 25 = .ok (.invokestatic 30, 3) := by decide +kernel
theorem dX1_widen_28 : decode cX1_widen 28 = .ok (.iinc 3 1, 3) := by decide +kernel
theorem dX1_widen_31 : decode cX1_widen 31 = .ok (.goto (-29), 3) := by decide +kernel
theorem dX1_widen_34 : decode cX1_widen 34 = .ok (.return_, 1) := by decide +kernel
theorem dX1_repeat_0 : decode cX1_repeat 0 = .ok (.iconst 0, 1) := by decide +kernel
theorem dX1_repeat_1 : decode cX1_repeat 1 = .ok (.istore_n 3, 1) := by decide +kernel
theorem dX1_repeat_2 : decode cX1_repeat 2 = .ok (.iload_n 3, 1) := by decide +kernel
theorem dX1_repeat_3 : decode cX1_repeat 3 = .ok (.iload_n 1, 1) := by decide +kernel
theorem dX1_repeat_4 : decode cX1_repeat 4 = .ok (.if_icmp .ge 57, 3) := by decide +kernel
theorem dX1_repeat_7 : decode cX1_repeat 7 = .ok (.aload_n 0, 1) := by decide +kernel
theorem dX1_repeat_8 : decode cX1_repeat 8 = .ok (.iload_n 3, 1) := by decide +kernel
theorem dX1_repeat_9 : decode cX1_repeat 9 = .ok (.invokestatic 34, 3) := by decide +kernel
theorem dX1_repeat_12 : decode cX1_repeat 12 = .ok (.ifCond .eq 43, 3) := by decide +kernel
theorem dX1_repeat_15 : decode cX1_repeat 15 = .ok (.iconst 1, 1) := by decide +kernel
theorem dX1_repeat_16 : decode cX1_repeat 16 = .ok (.istore 4, 2) := by decide +kernel
theorem dX1_repeat_18 : decode cX1_repeat 18 = .ok (.iload 4, 2) := by decide +kernel
theorem dX1_repeat_20 : decode cX1_repeat 20 = .ok (.iload_n 2, 1) := by decide +kernel
theorem dX1_repeat_21 : decode cX1_repeat 21 = .ok (.if_icmp .ge 34, 3) := by decide +kernel
theorem dX1_repeat_24 : decode cX1_repeat 24 = .ok (.iload 4, 2) := by decide +kernel
theorem dX1_repeat_26 : decode cX1_repeat 26 = .ok (.iload_n 1, 1) := by decide +kernel
theorem dX1_repeat_27 : decode cX1_repeat 27 = .ok (.imul, 1) := by decide +kernel
theorem dX1_repeat_28 : decode cX1_repeat 28 = .ok (.iload_n 3, 1) := by decide +kernel
theorem dX1_repeat_29 : decode cX1_repeat 29 = .ok (.iadd, 1) := by decide +kernel
theorem dX1_repeat_30 : decode cX1_repeat 30 = .ok (.istore 5, 2) := by decide +kernel
theorem dX1_repeat_32 : decode cX1_repeat 32 = .ok (.aload_n 0, 1) := by decide +kernel
theorem dX1_repeat_33 : decode cX1_repeat 33 = .ok (.iload 5, 2) := by decide +kernel
theorem dX1_repeat_35 : decode cX1_repeat 35 = .ok (.bipush 64, 2) := by decide +kernel
theorem dX1_repeat_37 : decode cX1_repeat 37 = .ok (.idiv, 1) := by decide +kernel
theorem dX1_repeat_38 : decode cX1_repeat 38 = .ok (.dup2, 1) := by decide +kernel
theorem dX1_repeat_39 : decode cX1_repeat 39 = .ok (.laload, 1) := by decide +kernel
theorem dX1_repeat_40 : decode cX1_repeat 40 = .ok (.lconst 1, 1) := by decide +kernel
theorem dX1_repeat_41 : decode cX1_repeat 41 = .ok (.iload 5, 2) := by decide +kernel
theorem dX1_repeat_43 : decode cX1_repeat 43 = .ok (.bipush 64, 2) := by decide +kernel
theorem dX1_repeat_45 : decode cX1_repeat 45 = .ok (.irem, 1) := by decide +kernel
theorem dX1_repeat_46 : decode cX1_repeat 46 = .ok (.lshl, 1) := by decide +kernel
theorem dX1_repeat_47 : decode cX1_repeat 47 = .ok (.lor, 1) := by decide +kernel
theorem dX1_repeat_48 : decode cX1_repeat 48 = .ok (.lastore, 1) := by decide +kernel
theorem dX1_repeat_49 : decode cX1_repeat 49 = .ok (.iinc 4 1, 3) := by decide +kernel
theorem dX1_repeat_52 : decode cX1_repeat 52 = .ok (.goto (-34), 3) := by decide +kernel
theorem dX1_repeat_55 : decode cX1_repeat 55 = .ok (.iinc 3 1, 3) := by decide +kernel
theorem dX1_repeat_58 : decode cX1_repeat 58 = .ok (.goto (-56), 3) := by decide +kernel
theorem dX1_repeat_61 : decode cX1_repeat 61 = .ok (.return_, 1) := by decide +kernel
theorem dX1_keepOnly_0 : decode cX1_keepOnly 0 = .ok (.aload_n 0, 1) := by decide +kernel
theorem dX1_keepOnly_1 : decode cX1_keepOnly 1 = .ok (.iload_n 1, 1) := by decide +kernel
theorem dX1_keepOnly_2 : decode cX1_keepOnly 2 = .ok (.invokevirtual 20, 3) := by decide +kernel
theorem dX1_keepOnly_5 : decode cX1_keepOnly 5 = .ok (.astore 5, 2) := by decide +kernel
theorem dX1_keepOnly_7 : decode cX1_keepOnly 7 = .ok (.iconst 0, 1) := by decide +kernel
theorem dX1_keepOnly_8 : decode cX1_keepOnly 8 = .ok (.istore 6, 2) := by decide +kernel
theorem dX1_keepOnly_10 : decode cX1_keepOnly 10 = .ok (.iload 6, 2) := by decide +kernel
theorem dX1_keepOnly_12 : decode cX1_keepOnly 12 = .ok (.iload_n 2, 1) := by decide +kernel
theorem dX1_keepOnly_13 : decode cX1_keepOnly 13 = .ok (.if_icmp .ge 40, 3) := by decide +kernel
theorem dX1_keepOnly_16 : decode cX1_keepOnly 16 = .ok (.aload_n 3, 1) := by decide +kernel
theorem dX1_keepOnly_17 : decode cX1_keepOnly 17 = .ok (.iload 6, 2) := by decide +kernel
theorem dX1_keepOnly_19 : decode cX1_keepOnly 19 = .ok (.iaload, 1) := by decide +kernel
theorem dX1_keepOnly_20 : decode cX1_keepOnly 20 = .ok (.iload 4, 2) := by decide +kernel
theorem dX1_keepOnly_22 : decode cX1_keepOnly 22 = .ok (.if_icmp .eq 25, 3) := by decide +kernel
theorem dX1_keepOnly_25 : decode cX1_keepOnly 25 = .ok (.aload 5, 2) := by decide +kernel
theorem dX1_keepOnly_27 : decode cX1_keepOnly 27 = .ok (.iload 6, 2) := by decide +kernel
theorem dX1_keepOnly_29 : decode cX1_keepOnly 29 = .ok (.bipush 64, 2) := by decide +kernel
theorem dX1_keepOnly_31 : decode cX1_keepOnly 31 = .ok (.idiv, 1) := by decide +kernel
theorem dX1_keepOnly_32 : decode cX1_keepOnly 32 = .ok (.dup2, 1) := by decide +kernel
theorem dX1_keepOnly_33 : decode cX1_keepOnly 33 = .ok (.laload, 1) := by decide +kernel
theorem dX1_keepOnly_34 : decode cX1_keepOnly 34 = .ok (.lconst 1, 1) := by decide +kernel
theorem dX1_keepOnly_35 : decode cX1_keepOnly 35 = .ok (.iload 6, 2) := by decide +kernel
theorem dX1_keepOnly_37 : decode cX1_keepOnly 37 = .ok (.bipush 64, 2) := by decide +kernel
theorem dX1_keepOnly_39 : decode cX1_keepOnly 39 = .ok (.irem, 1) := by decide +kernel
theorem dX1_keepOnly_40 : decode cX1_keepOnly 40 = .ok (.lshl, 1) := by decide +kernel
theorem dX1_keepOnly_41 : decode cX1_keepOnly 41 = .ok (.ldc2_w 38, 3) := by decide +kernel
theorem dX1_keepOnly_44 : decode cX1_keepOnly 44 = .ok (.lxor, 1) := by decide +kernel
theorem dX1_keepOnly_45 : decode cX1_keepOnly 45 = .ok (.land, 1) := by decide +kernel
theorem dX1_keepOnly_46 : decode cX1_keepOnly 46 = .ok (.lastore, 1) := by decide +kernel
theorem dX1_keepOnly_47 : decode cX1_keepOnly 47 = .ok (.iinc 6 1, 3) := by decide +kernel
theorem dX1_keepOnly_50 : decode cX1_keepOnly 50 = .ok (.goto (-40), 3) := by decide +kernel
theorem dX1_keepOnly_53 : decode cX1_keepOnly 53 = .ok (.return_, 1) := by decide +kernel
theorem dX1_unite_0 : decode cX1_unite 0 = .ok (.aload_n 0, 1) := by decide +kernel
theorem dX1_unite_1 : decode cX1_unite 1 = .ok (.getfield 9, 3) := by decide +kernel
theorem dX1_unite_4 : decode cX1_unite 4 = .ok (.iload_n 1, 1) := by decide +kernel
theorem dX1_unite_5 : decode cX1_unite 5 = .ok (.iaload, 1) := by decide +kernel
theorem dX1_unite_6 : decode cX1_unite 6 = .ok (.istore_n 3, 1) := by decide +kernel
theorem dX1_unite_7 : decode cX1_unite 7 = .ok (.aload_n 0, 1) := by decide +kernel
theorem dX1_unite_8 : decode cX1_unite 8 = .ok (.getfield 9, 3) := by decide +kernel
theorem dX1_unite_11 : decode cX1_unite 11 = .ok (.iload_n 2, 1) := by decide +kernel
theorem dX1_unite_12 : decode cX1_unite 12 = .ok (.iaload, 1) := by decide +kernel
theorem dX1_unite_13 : decode cX1_unite 13 = .ok (.istore 4, 2) := by decide +kernel
theorem dX1_unite_15 : decode cX1_unite 15 = .ok (.iload_n 3, 1) := by decide +kernel
theorem dX1_unite_16 : decode cX1_unite 16 = .ok (.iload 4, 2) := by decide +kernel
theorem dX1_unite_18 : decode cX1_unite 18 = .ok (.if_icmp .ne 5, 3) := by decide +kernel
theorem dX1_unite_21 : decode cX1_unite 21 = .ok (.iconst 0, 1) := by decide +kernel
theorem dX1_unite_22 : decode cX1_unite 22 = .ok (.ireturn, 1) := by decide +kernel
theorem dX1_unite_23 : decode cX1_unite 23 = .ok (.iconst 0, 1) := by decide +kernel
theorem dX1_unite_24 : decode cX1_unite 24 = .ok (.istore 5, 2) := by decide +kernel
theorem dX1_unite_26 : decode cX1_unite 26 = .ok (.iload 5, 2) := by decide +kernel
theorem dX1_unite_28 : decode cX1_unite 28 = .ok (.bipush 64, 2) := by decide +kernel
theorem dX1_unite_30 : decode cX1_unite 30 = .ok (.if_icmp .ge 31, 3) := by decide +kernel
theorem dX1_unite_33 : decode cX1_unite 33 = .ok (.aload_n 0, 1) := by decide +kernel
theorem dX1_unite_34 : decode cX1_unite 34 = .ok (.getfield 17, 3) := by decide +kernel
theorem dX1_unite_37 : decode cX1_unite 37 = .ok (.iload_n 3, 1) := by decide +kernel
theorem dX1_unite_38 : decode cX1_unite 38 = .ok (.aaload, 1) := by decide +kernel
theorem dX1_unite_39 : decode cX1_unite 39 = .ok (.iload 5, 2) := by decide +kernel
theorem dX1_unite_41 : decode cX1_unite 41 = .ok (.dup2, 1) := by decide +kernel
theorem dX1_unite_42 : decode cX1_unite 42 = .ok (.laload, 1) := by decide +kernel
theorem dX1_unite_43 : decode cX1_unite 43 = .ok (.aload_n 0, 1) := by decide +kernel
theorem dX1_unite_44 : decode cX1_unite 44 = .ok (.getfield 17, 3) := by decide +kernel
theorem dX1_unite_47 : decode cX1_unite 47 = .ok (.iload 4, 2) := by decide +kernel
theorem dX1_unite_49 : decode cX1_unite 49 = .ok (.aaload, 1) := by decide +kernel
theorem dX1_unite_50 : decode cX1_unite 50 = .ok (.iload 5, 2) := by decide +kernel
theorem dX1_unite_52 : decode cX1_unite 52 = .ok (.laload, 1) := by decide +kernel
theorem dX1_unite_53 : decode cX1_unite 53 = .ok (.land, 1) := by decide +kernel
theorem dX1_unite_54 : decode cX1_unite 54 = .ok (.lastore, 1) := by decide +kernel
theorem dX1_unite_55 : decode cX1_unite 55 = .ok (.iinc 5 1, 3) := by decide +kernel
theorem dX1_unite_58 : decode cX1_unite 58 = .ok (.goto (-32), 3) := by decide +kernel
theorem dX1_unite_61 : decode cX1_unite 61 = .ok (.iconst 0, 1) := by decide +kernel
theorem dX1_unite_62 : decode cX1_unite 62 = .ok (.istore 5, 2) := by decide +kernel
theorem dX1_unite_64 : decode cX1_unite 64 = .ok (.iload 5, 2) := by decide +kernel
theorem dX1_unite_66 : decode cX1_unite 66 = .ok (.iconst 4, 1) := by decide +kernel
theorem dX1_unite_67 : decode cX1_unite 67 = .ok (.if_icmp .ge 29, 3) := by decide +kernel
theorem dX1_unite_70 : decode cX1_unite 70 = .ok (.aload_n 0, 1) := by decide +kernel
theorem dX1_unite_71 : decode cX1_unite 71 = .ok (.getfield 9, 3) := by decide +kernel
theorem dX1_unite_74 : decode cX1_unite 74 = .ok (.iload 5, 2) := by decide +kernel
theorem dX1_unite_76 : decode cX1_unite 76 = .ok (.iaload, 1) := by decide +kernel
theorem dX1_unite_77 : decode cX1_unite 77 = .ok (.iload 4, 2) := by decide +kernel
theorem dX1_unite_79 : decode cX1_unite 79 = .ok (.if_icmp .ne 11, 3) := by decide +kernel
theorem dX1_unite_82 : decode cX1_unite 82 = .ok (.aload_n 0, 1) := by decide +kernel
theorem dX1_unite_83 : decode cX1_unite 83 = .ok (.getfield 9, 3) := by decide +kernel
theorem dX1_unite_86 : decode cX1_unite 86 = .ok (.iload 5, 2) := by decide +kernel
theorem dX1_unite_88 : decode cX1_unite 88 = .ok (.iload_n 3, 1) := by decide +kernel
theorem dX1_unite_89 : decode cX1_unite 89 = .ok (.iastore, 1) := by decide +kernel
theorem dX1_unite_90 : decode cX1_unite 90 = .ok (.iinc 5 1, 3) := by decide +kernel
theorem dX1_unite_93 : decode cX1_unite 93 = .ok (.goto (-29), 3) := by decide +kernel
theorem dX1_unite_96 : decode cX1_unite 96 = .ok (.iconst 1, 1) := by decide +kernel
theorem dX1_unite_97 : decode cX1_unite 97 = .ok (.ireturn, 1) := by decide +kernel
theorem dX1_copyFrom_0 : decode cX1_copyFrom 0 = .ok (.aload_n 1, 1) := by decide +kernel
theorem dX1_copyFrom_1 : decode cX1_copyFrom 1 = .ok (.getfield 9, 3) := by decide +kernel
theorem dX1_copyFrom_4 : decode cX1_copyFrom 4 = .ok (.iconst 0, 1) := by decide +kernel
theorem dX1_copyFrom_5 : decode cX1_copyFrom 5 = .ok (.aload_n 0, 1) := by decide +kernel
theorem dX1_copyFrom_6 : decode cX1_copyFrom 6 = .ok (.getfield 9, 3) := by decide +kernel
theorem dX1_copyFrom_9 : decode cX1_copyFrom 9 = .ok (.iconst 0, 1) := by decide +kernel
theorem dX1_copyFrom_10 : decode cX1_copyFrom 10 = .ok (.iconst 4, 1) := by decide +kernel
theorem dX1_copyFrom_11 : decode cX1_copyFrom 11 = .ok (.invokestatic 40, 3) := by decide +kernel
theorem dX1_copyFrom_14 : decode cX1_copyFrom 14 = .ok (.iconst 0, 1) := by decide +kernel
theorem dX1_copyFrom_15 : decode cX1_copyFrom 15 = .ok (.istore_n 2, 1) := by decide +kernel
theorem dX1_copyFrom_16 : decode cX1_copyFrom 16 = .ok (.iload_n 2, 1) := by decide +kernel
theorem dX1_copyFrom_17 : decode cX1_copyFrom 17 = .ok (.iconst 4, 1) := by decide +kernel
theorem dX1_copyFrom_18 : decode cX1_copyFrom 18 = .ok (.if_icmp .ge 28, 3) := by decide +kernel
theorem dX1_copyFrom_21 : decode cX1_copyFrom 21 = .ok (.aload_n 1, 1) := by decide +kernel
theorem dX1_copyFrom_22 : decode cX1_copyFrom 22 = .ok (.getfield 17, 3) := by decide +kernel
theorem dX1_copyFrom_25 : decode cX1_copyFrom 25 = .ok (.iload_n 2, 1) := by decide +kernel
theorem dX1_copyFrom_26 : decode cX1_copyFrom 26 = .ok (.aaload, 1) := by decide +kernel
theorem dX1_copyFrom_27 : decode cX1_copyFrom 27 = .ok (.iconst 0, 1) := by decide +kernel
theorem dX1_copyFrom_28 : decode cX1_copyFrom 28 = .ok (.aload_n 0, 1) := by decide +kernel
theorem dX1_copyFrom_29 : decode cX1_copyFrom 29 = .ok (.getfield 17, 3) := by decide +kernel
theorem dX1_copyFrom_32 : decode cX1_copyFrom 32 = .ok (.iload_n 2, 1) := by decide +kernel
theorem dX1_copyFrom_33 : decode cX1_copyFrom 33 = .ok (.aaload, 1) := by decide +kernel
theorem dX1_copyFrom_34 : decode cX1_copyFrom 34 = .ok (.iconst 0, 1) := by decide +kernel
theorem dX1_copyFrom_35 : decode cX1_copyFrom 35 = .ok (.bipush 64, 2) := by decide +kernel
theorem dX1_copyFrom_37 : decode cX1_copyFrom 37 = .ok (.invokestatic 40, 3) := by decide +kernel
theorem dX1_copyFrom_40 : decode cX1_copyFrom 40 = .ok (.iinc 2 1, 3) := by decide +kernel
theorem dX1_copyFrom_43 : decode cX1_copyFrom 43 = .ok (.goto (-27), 3) := by decide +kernel
theorem dX1_copyFrom_46 : decode cX1_copyFrom 46 = .ok (.return_, 1) := by decide +kernel
theorem dX2_init_0 : decode cX2_init 0 = .ok (.aload_n 0, 1) := by decide +kernel
theorem dX2_init_1 : decode cX2_init 1 = .ok (.invokespecial 3, 3) := by decide +kernel
theorem dX2_init_4 : decode cX2_init 4 = .ok (.aload_n 0, 1) := by decide +kernel
theorem dX2_init_5 : decode cX2_init 5 = .ok (.bipush 8, 2) := by decide +kernel
theorem dX2_init_7 : decode cX2_init 7 = .ok (.newarray .int, 2) := by decide +kernel
theorem dX2_init_9 : decode cX2_init 9 = .ok (.putfield 9, 3) := by decide +kernel
theorem dX2_init_12 : decode cX2_init 12 = .ok (.aload_n 0, 1) := by decide +kernel
theorem dX2_init_13 : decode cX2_init 13 = .ok (.bipush 10, 2) := by decide +kernel
theorem dX2_init_15 : decode cX2_init 15 = .ok (.newarray .int, 2) := by decide +kernel
theorem dX2_init_17 : decode cX2_init 17 = .ok (.putfield 15, 3) := by decide +kernel
theorem dX2_init_20 : decode cX2_init 20 = .ok (.aload_n 0, 1) := by decide +kernel
theorem dX2_init_21 : decode cX2_init 21 = .ok (.bipush 10, 2) := by decide +kernel
theorem dX2_init_23 : decode cX2_init 23 = .ok (.newarray .int, 2) := by decide +kernel
theorem dX2_init_25 : decode cX2_init 25 = .ok (.putfield 18, 3) := by decide +kernel
theorem dX2_init_28 : decode cX2_init 28 = .ok (.aload_n 0, 1) := by decide +kernel
theorem dX2_init_29 : decode cX2_init 29 = .ok (.bipush 10, 2) := by decide +kernel
theorem dX2_init_31 : decode cX2_init 31 = .ok (.newarray .int, 2) := by decide +kernel
theorem dX2_init_33 : decode cX2_init 33 = .ok (.putfield 21, 3) := by decide +kernel
theorem dX2_init_36 : decode cX2_init 36 = .ok (.aload_n 0, 1) := by decide +kernel
theorem dX2_init_37 : decode cX2_init 37 = .ok (.bipush 10, 2) := by decide +kernel
theorem dX2_init_39 : decode cX2_init 39 = .ok (.newarray .int, 2) := by decide +kernel
theorem dX2_init_41 : decode cX2_init 41 = .ok (.putfield 24, 3) := by decide +kernel
theorem dX2_init_44 : decode cX2_init 44 = .ok (.aload_n 0, 1) := by decide +kernel
theorem dX2_init_45 : decode cX2_init 45 = .ok (.bipush 10, 2) := by decide +kernel
theorem dX2_init_47 : decode cX2_init 47 = .ok (.newarray .int, 2) := by decide +kernel
theorem dX2_init_49 : decode cX2_init 49 = .ok (.putfield 27, 3) := by decide +kernel
theorem dX2_init_52 : decode cX2_init 52 = .ok (.aload_n 0, 1) := by decide +kernel
theorem dX2_init_53 : decode cX2_init 53 = .ok (.bipush 10, 2) := by decide +kernel
theorem dX2_init_55 : decode cX2_init 55 = .ok (.newarray .int, 2) := by decide +kernel
theorem dX2_init_57 : decode cX2_init 57 = .ok (.putfield 30, 3) := by decide +kernel
theorem dX2_init_60 : decode cX2_init 60 = .ok (.aload_n 0, 1) := by decide +kernel
theorem dX2_init_61 : decode cX2_init 61 = .ok (.iconst 0, 1) := by decide +kernel
theorem dX2_init_62 : decode cX2_init 62 = .ok (.putfield 33, 3) := by decide +kernel
theorem dX2_init_65 : decode cX2_init 65 = .ok (.aload_n 0, 1) := by decide +kernel
theorem dX2_init_66 : decode cX2_init 66 = .ok (.iconst 0, 1) := by decide +kernel
theorem dX2_init_67 : decode cX2_init 67 = .ok (.putfield 37, 3) := by decide +kernel
theorem dX2_init_70 : decode cX2_init 70 = .ok (.aload_n 0, 1) := by decide +kernel
theorem dX2_init_71 : decode cX2_init 71 = .ok (.iconst 1, 1) := by decide +kernel
theorem dX2_init_72 : decode cX2_init 72 = .ok (.putfield 40, 3) := by decide +kernel
theorem dX2_init_75 : decode cX2_init 75 = .ok (.aload_n 0, 1) := by decide +kernel
theorem dX2_init_76 : decode cX2_init 76 = .ok (.iconst 0, 1) := by decide +kernel
theorem dX2_init_77 : decode cX2_init 77 = .ok (.putfield 43, 3) := by decide +kernel
theorem dX2_init_80 : decode cX2_init 80 = .ok (.aload_n 0, 1) := by decide +kernel
theorem dX2_init_81 : decode cX2_init 81 = .ok (.iconst 1, 1) := by decide +kernel
theorem dX2_init_82 : decode cX2_init 82 = .ok (.putfield 46, 3) := by decide +kernel
theorem dX2_init_85 : decode cX2_init 85 = .ok (.return_, 1) := by decide +kernel
theorem dX2_hasRoomFor_0 : decode cX2_hasRoomFor 0 = .ok (.aload_n 0, 1) := by decide +kernel
theorem dX2_hasRoomFor_1 : decode cX2_hasRoomFor 1 = .ok (.getfield 37, 3) := by decide +kernel
theorem dX2_hasRoomFor_4 : decode cX2_hasRoomFor 4 = .ok (.bipush 10, 2) := by decide +kernel
theorem dX2_hasRoomFor_6 : decode cX2_hasRoomFor 6 = .ok (.if_icmp .ge 44, 3) := by decide +kernel
theorem dX2_hasRoomFor_9 : decode cX2_hasRoomFor 9 = .ok (.iload_n 1, 1) := by decide +kernel
theorem dX2_hasRoomFor_10 : decode cX2_hasRoomFor 10 = .ok (.iload_n 2, 1) := by decide +kernel
theorem dX2_hasRoomFor_11 : decode cX2_hasRoomFor 11 = .ok (.if_icmp .lt 39, 3) := by decide +kernel
theorem dX2_hasRoomFor_14 : decode cX2_hasRoomFor 14 = .ok (.iload_n 1, 1) := by decide +kernel
theorem dX2_hasRoomFor_15 : decode cX2_hasRoomFor 15 = .ok (.iload_n 3, 1) := by decide +kernel
theorem dX2_hasRoomFor_16 : decode cX2_hasRoomFor 16 = .ok (.if_icmp .gt 34, 3) := by decide +kernel
theorem dX2_hasRoomFor_19 : decode cX2_hasRoomFor 19 = .ok (.aload_n 0, 1) := by decide +kernel
theorem dX2_hasRoomFor_20 : decode cX2_hasRoomFor 20 = .ok (.getfield 40, 3) := by decide +kernel
theorem dX2_hasRoomFor_23 : decode cX2_hasRoomFor 23 = .ok (.iload_n 3, 1) := by decide +kernel
theorem dX2_hasRoomFor_24 : decode cX2_hasRoomFor 24 = .ok (.iload_n 2, 1) := by decide +kernel
theorem dX2_hasRoomFor_25 : decode cX2_hasRoomFor 25 = .ok (.isub, 1) := by decide +kernel
theorem dX2_hasRoomFor_26 : decode cX2_hasRoomFor 26 = .ok (.iconst 1, 1) := by decide +kernel
theorem dX2_hasRoomFor_27 : decode cX2_hasRoomFor 27 = .ok (.iadd, 1) := by decide +kernel
theorem dX2_hasRoomFor_28 : decode cX2_hasRoomFor 28 = .ok (.imul, 1) := by decide +kernel
theorem dX2_hasRoomFor_29 : decode cX2_hasRoomFor 29 = .ok (.sipush 4096, 3) := by decide +kernel
theorem dX2_hasRoomFor_32 : decode cX2_hasRoomFor 32 = .ok (.if_icmp .gt 18, 3) := by decide +kernel
theorem dX2_hasRoomFor_35 : decode cX2_hasRoomFor 35 = .ok (.aload_n 0, 1) := by decide +kernel
theorem dX2_hasRoomFor_36 : decode cX2_hasRoomFor 36 = .ok (.getfield 43, 3) := by decide +kernel
theorem dX2_hasRoomFor_39 : decode cX2_hasRoomFor 39 = .ok (.iload_n 3, 1) := by decide +kernel
theorem dX2_hasRoomFor_40 : decode cX2_hasRoomFor 40 = .ok (.iadd, 1) := by decide +kernel
theorem dX2_hasRoomFor_41 : decode cX2_hasRoomFor 41 = .ok (.bipush 60, 2) := by decide +kernel
theorem dX2_hasRoomFor_43 : decode cX2_hasRoomFor 43 = .ok (.if_icmp .gt 7, 3) := by decide +kernel
theorem dX2_hasRoomFor_46 : decode cX2_hasRoomFor 46 = .ok (.iconst 1, 1) := by decide +kernel
theorem dX2_hasRoomFor_47 : decode cX2_hasRoomFor 47 = .ok (.goto 4, 3) := by decide +kernel
theorem dX2_hasRoomFor_50 : decode cX2_hasRoomFor 50 = .ok (.iconst 0, 1) := by decide +kernel
theorem dX2_hasRoomFor_51 : decode cX2_hasRoomFor 51 = .ok (.ireturn, 1) := by decide +kernel
theorem dX2_add_0 : decode cX2_add 0 = .ok (.aload_n 0, 1) := by decide +kernel
theorem dX2_add_1 : decode cX2_add 1 = .ok (.getfield 15, 3) := by decide +kernel
theorem dX2_add_4 : decode cX2_add 4 = .ok (.aload_n 0, 1) := by decide +kernel
theorem dX2_add_5 : decode cX2_add 5 = .ok (.getfield 37, 3) := by decide +kernel
theorem dX2_add_8 : decode cX2_add 8 = .ok (.iload_n 1, 1) := by decide +kernel
theorem dX2_add_9 : decode cX2_add 9 = .ok (.iastore, 1) := by decide +kernel
theorem dX2_add_10 : decode cX2_add 10 = .ok (.aload_n 0, 1) := by decide +kernel
theorem dX2_add_11 : decode cX2_add 11 = .ok (.getfield 18, 3) := by decide +kernel
theorem dX2_add_14 : decode cX2_add 14 = .ok (.aload_n 0, 1) := by decide +kernel
theorem dX2_add_15 : decode cX2_add 15 = .ok (.getfield 37, 3) := by decide +kernel
theorem dX2_add_18 : decode cX2_add 18 = .ok (.iload_n 3, 1) := by decide +kernel
theorem dX2_add_19 : decode cX2_add 19 = .ok (.iastore, 1) := by decide +kernel
theorem dX2_add_20 : decode cX2_add 20 = .ok (.aload_n 0, 1) := by decide +kernel
theorem dX2_add_21 : decode cX2_add 21 = .ok (.getfield 21, 3) := by decide +kernel
theorem dX2_add_24 : decode cX2_add 24 = .ok (.aload_n 0, 1) := by decide +kernel
theorem dX2_add_25 : decode cX2_add 25 = .ok (.getfield 37, 3) := by decide +kernel
theorem dX2_add_28 : decode cX2_add 28 = .ok (.iload 4, 2) := by decide +kernel
theorem dX2_add_30 : decode cX2_add 30 = .ok (.iastore, 1) := by decide +kernel
theorem dX2_add_31 : decode cX2_add 31 = .ok (.aload_n 0, 1) := by decide +kernel
theorem dX2_add_32 : decode cX2_add 32 = .ok (.getfield 24, 3) := by decide +kernel
theorem dX2_add_35 : decode cX2_add 35 = .ok (.aload_n 0, 1) := by decide +kernel
theorem dX2_add_36 : decode cX2_add 36 = .ok (.getfield 37, 3) := by decide +kernel
theorem dX2_add_39 : decode cX2_add 39 = .ok (.iload 5, 2) := by decide +kernel
theorem dX2_add_41 : decode cX2_add 41 = .ok (.iastore, 1) := by decide +kernel
theorem dX2_add_42 : decode cX2_add 42 = .ok (.aload_n 0, 1) := by decide +kernel
theorem dX2_add_43 : decode cX2_add 43 = .ok (.getfield 27, 3) := by decide +kernel
theorem dX2_add_46 : decode cX2_add 46 = .ok (.aload_n 0, 1) := by decide +kernel
theorem dX2_add_47 : decode cX2_add 47 = .ok (.getfield 37, 3) := by decide +kernel
theorem dX2_add_50 : decode cX2_add 50 = .ok (.iload_n 2, 1) := by decide +kernel
theorem dX2_add_51 : decode cX2_add 51 = .ok (.iastore, 1) := by decide +kernel
theorem dX2_add_52 : decode cX2_add 52 = .ok (.aload_n 0, 1) := by decide +kernel
theorem dX2_add_53 : decode cX2_add 53 = .ok (.getfield 30, 3) := by decide +kernel
theorem dX2_add_56 : decode cX2_add 56 = .ok (.aload_n 0, 1) := by decide +kernel
theorem dX2_add_57 : decode cX2_add 57 = .ok (.getfield 37, 3) := by decide +kernel
theorem dX2_add_60 : decode cX2_add 60 = .ok (.aload_n 0, 1) := by decide +kernel
theorem dX2_add_61 : decode cX2_add 61 = .ok (.getfield 46, 3) := by decide +kernel
theorem dX2_add_64 : decode cX2_add 64 = .ok (.iastore, 1) := by decide +kernel
theorem dX2_add_65 : decode cX2_add 65 = .ok (.aload_n 0, 1) := by decide +kernel
theorem dX2_add_66 : decode cX2_add 66 = .ok (.getfield 9, 3) := by decide +kernel
theorem dX2_add_69 : decode cX2_add 69 = .ok (.iload_n 1, 1) := by decide +kernel
theorem dX2_add_70 : decode cX2_add 70 = .ok (.aload_n 0, 1) := by decide +kernel
theorem dX2_add_71 : decode cX2_add 71 = .ok (.getfield 37, 3) := by decide +kernel
theorem dX2_add_74 : decode cX2_add 74 = .ok (.iastore, 1) := by decide +kernel
theorem dX2_add_75 : decode cX2_add 75 = .ok (.aload_n 0, 1) := by decide +kernel
theorem dX2_add_76 : decode cX2_add 76 = .ok (.dup, 1) := by decide +kernel
theorem dX2_add_77 : decode cX2_add 77 = .ok (.getfield 46, 3) := by decide +kernel
theorem dX2_add_80 : decode cX2_add 80 = .ok (.aload_n 0, 1) := by decide +kernel
theorem dX2_add_81 : decode cX2_add 81 = .ok (.aload_n 0, 1) := by decide +kernel
theorem dX2_add_82 : decode cX2_add 82 = .ok (.getfield 37, 3) := by decide +kernel
theorem dX2_add_85 : decode cX2_add 85 = .ok (.invokevirtual 49, 3) := by decide +kernel
theorem dX2_add_88 : decode cX2_add 88 = .ok (.iadd, 1) := by decide +kernel
theorem dX2_add_89 : decode cX2_add 89 = .ok (.putfield 46, 3) := by decide +kernel
theorem dX2_add_92 : decode cX2_add 92 = .ok (.aload_n 0, 1) := by decide +kernel
theorem dX2_add_93 : decode cX2_add 93 = .ok (.dup, 1) := by decide +kernel
theorem dX2_add_94 : decode cX2_add 94 = .ok (.getfield 40, 3) := by decide +kernel
theorem dX2_add_97 : decode cX2_add 97 = .ok (.aload_n 0, 1) := by decide +kernel
theorem dX2_add_98 : decode cX2_add 98 = .ok (.aload_n 0, 1) := by decide +kernel
theorem dX2_add_99 : decode cX2_add 99 = .ok (.getfield 37, 3) := by decide +kernel
theorem dX2_add_102 : decode cX2_add 102 = .ok (.invokevirtual 49, 3) := by decide +kernel
theorem dX2_add_105 : decode cX2_add 105 = .ok (.imul, 1) := by decide +kernel
theorem dX2_add_106 : decode cX2_add 106 = .ok (.putfield 40, 3) := by decide +kernel
theorem dX2_add_109 : decode cX2_add 109 = .ok (.aload_n 0, 1) := by decide +kernel
theorem dX2_add_110 : decode cX2_add 110 = .ok (.dup, 1) := by decide +kernel
theorem dX2_add_111 : decode cX2_add 111 = .ok (.getfield 43, 3) := by decide +kernel
theorem dX2_add_114 : decode cX2_add 114 = .ok (.iload 4, 2) := by decide +kernel
theorem dX2_add_116 : decode cX2_add 116 = .ok (.iadd, 1) := by decide +kernel
theorem dX2_add_117 : decode cX2_add 117 = .ok (.putfield 43, 3) := by decide +kernel
theorem dX2_add_120 : decode cX2_add 120 = .ok (.aload_n 0, 1) := by decide +kernel
theorem dX2_add_121 : decode cX2_add 121 = .ok (.dup, 1) := by decide +kernel
theorem dX2_add_122 : decode cX2_add 122 = .ok (.getfield 37, 3) := by decide +kernel
theorem dX2_add_125 : decode cX2_add 125 = .ok (.iconst 1, 1) := by decide +kernel
theorem dX2_add_126 : decode cX2_add 126 = .ok (.iadd, 1) := by decide +kernel
theorem dX2_add_127 : decode cX2_add 127 = .ok (.putfield 37, 3) := by decide +kernel
theorem dX2_add_130 : decode cX2_add 130 = .ok (.return_, 1) := by decide +kernel
theorem dX2_valueCount_0 : decode cX2_valueCount 0 = .ok (.aload_n 0, 1) := by decide +kernel
theorem dX2_valueCount_1 : decode cX2_valueCount 1 = .ok (.getfield 21, 3) := by decide +kernel
theorem dX2_valueCount_4 : decode cX2_valueCount 4 = .ok (.iload_n 1, 1) := by decide +kernel
theorem dX2_valueCount_5 : decode cX2_valueCount 5 = .ok (.iaload, 1) := by decide +kernel
theorem dX2_valueCount_6 : decode cX2_valueCount 6 = .ok (.aload_n 0, 1) := by decide +kernel
theorem dX2_valueCount_7 : decode cX2_valueCount 7 = .ok (.getfield 18, 3) := by decide +kernel
theorem dX2_valueCount_10 : decode cX2_valueCount 10 = .ok (.iload_n 1, 1) := by decide +kernel
theorem dX2_valueCount_11 : decode cX2_valueCount 11 = .ok (.iaload, 1) := by decide +kernel
theorem dX2_valueCount_12 : decode cX2_valueCount 12 = .ok (.isub, 1) := by decide +kernel
theorem dX2_valueCount_13 : decode cX2_valueCount 13 = .ok (.iconst 1, 1) := by decide +kernel
theorem dX2_valueCount_14 : decode cX2_valueCount 14 = .ok (.iadd, 1) := by decide +kernel
theorem dX2_valueCount_15 : decode cX2_valueCount 15 = .ok (.ireturn, 1) := by decide +kernel
theorem dX2_isCurrent_0 : decode cX2_isCurrent 0 = .ok (.aload_n 0, 1) := by decide +kernel
theorem dX2_isCurrent_1 : decode cX2_isCurrent 1 = .ok (.getfield 9, 3) := by decide +kernel
theorem dX2_isCurrent_4 : decode cX2_isCurrent 4 = .ok (.aload_n 0, 1) := by decide +kernel
theorem dX2_isCurrent_5 : decode cX2_isCurrent 5 = .ok (.getfield 15, 3) := by decide +kernel
theorem dX2_isCurrent_8 : decode cX2_isCurrent 8 = .ok (.iload_n 1, 1) := by decide +kernel
theorem dX2_isCurrent_9 : decode cX2_isCurrent 9 = .ok (.iaload, 1) := by decide +kernel
theorem dX2_isCurrent_10 : decode cX2_isCurrent 10 = .ok (.iaload, 1) := by decide +kernel
theorem dX2_isCurrent_11 : decode cX2_isCurrent 11 = .ok (.iload_n 1, 1) := by decide +kernel
theorem dX2_isCurrent_12 : decode cX2_isCurrent 12 = .ok (.if_icmp .ne 7, 3) := by decide +kernel
theorem dX2_isCurrent_15 : decode cX2_isCurrent 15 = .ok (.iconst 1, 1) := by decide +kernel
theorem dX2_isCurrent_16 : decode cX2_isCurrent 16 = .ok (.goto 4, 3) := by decide +kernel
theorem dX2_isCurrent_19 : decode cX2_isCurrent 19 = .ok (.iconst 0, 1) := by decide +kernel
theorem dX2_isCurrent_20 : decode cX2_isCurrent 20 = .ok (.ireturn, 1) := by decide +kernel
theorem dX2_isAskedOf_0 : decode cX2_isAskedOf 0 = .ok (.aload_n 0, 1) := by decide +kernel
theorem dX2_isAskedOf_1 : decode cX2_isAskedOf 1 = .ok (.iload_n 1, 1) := by decide +kernel
theorem dX2_isAskedOf_2 : decode cX2_isAskedOf 2 = .ok (.invokevirtual 53, 3) := by decide +kernel
theorem dX2_isAskedOf_5 : decode cX2_isAskedOf 5 = .ok (.ifCond .eq 20, 3) := by decide +kernel
theorem dX2_isAskedOf_8 : decode cX2_isAskedOf 8 = .ok (.iload_n 2, 1) := by decide +kernel
theorem dX2_isAskedOf_9 : decode cX2_isAskedOf 9 = .ok (.aload_n 0, 1) := by decide +kernel
theorem dX2_isAskedOf_10 : decode cX2_isAskedOf 10 = .ok (.getfield 15, 3) := by decide +kernel
theorem dX2_isAskedOf_13 : decode cX2_isAskedOf 13 = .ok (.iload_n 1, 1) := by decide +kernel
theorem dX2_isAskedOf_14 : decode cX2_isAskedOf 14 = .ok (.iaload, 1) := by decide +kernel
theorem dX2_isAskedOf_15 : decode cX2_isAskedOf 15 = .ok (.invokestatic 57, 3) := by decide +kernel
theorem dX2_isAskedOf_18 : decode cX2_isAskedOf 18 = .ok (.ifCond .eq 7, 3) := by decide +kernel
theorem dX2_isAskedOf_21 : decode cX2_isAskedOf 21 = .ok (.iconst 1, 1) := by decide +kernel
theorem dX2_isAskedOf_22 : decode cX2_isAskedOf 22 = .ok (.goto 4, 3) := by decide +kernel
theorem dX2_isAskedOf_25 : decode cX2_isAskedOf 25 = .ok (.iconst 0, 1) := by decide +kernel
theorem dX2_isAskedOf_26 : decode cX2_isAskedOf 26 = .ok (.ireturn, 1) := by decide +kernel
theorem dX2_onlyPeople_0 : decode cX2_onlyPeople 0 = .ok (.iload_n 1, 1) := by decide +kernel
theorem dX2_onlyPeople_1 : decode cX2_onlyPeople 1 = .ok (.iconst 1, 1) := by decide +kernel
theorem dX2_onlyPeople_2 : decode cX2_onlyPeople 2 = .ok (.aload_n 0, 1) := by decide +kernel
theorem dX2_onlyPeople_3 : decode cX2_onlyPeople 3 = .ok (.getfield 33, 3) := by decide +kernel
theorem dX2_onlyPeople_6 : decode cX2_onlyPeople 6 = .ok (.ishl, 1) := by decide +kernel
theorem dX2_onlyPeople_7 : decode cX2_onlyPeople 7 = .ok (.iconst 1, 1) := by decide +kernel
theorem dX2_onlyPeople_8 : decode cX2_onlyPeople 8 = .ok (.isub, 1) := by decide +kernel
theorem dX2_onlyPeople_9 : decode cX2_onlyPeople 9 = .ok (.iand, 1) := by decide +kernel
theorem dX2_onlyPeople_10 : decode cX2_onlyPeople 10 = .ok (.ireturn, 1) := by decide +kernel
theorem dX2_hiddenTable_0 : decode cX2_hiddenTable 0 = .ok (.iconst 0, 1) := by decide +kernel
theorem dX2_hiddenTable_1 : decode cX2_hiddenTable 1 = .ok (.istore_n 1, 1) := by decide +kernel
theorem dX2_hiddenTable_2 : decode cX2_hiddenTable 2 = .ok (.iconst 1, 1) := by decide +kernel
theorem dX2_hiddenTable_3 : decode cX2_hiddenTable 3 = .ok (.istore_n 2, 1) := by decide +kernel
theorem dX2_hiddenTable_4 : decode cX2_hiddenTable 4 = .ok (.iconst 0, 1) := by decide +kernel
theorem dX2_hiddenTable_5 : decode cX2_hiddenTable 5 = .ok (.istore_n 3, 1) := by decide +kernel
theorem dX2_hiddenTable_6 : decode cX2_hiddenTable 6 = .ok (.iload_n 3, 1) := by decide +kernel
theorem dX2_hiddenTable_7 : decode cX2_hiddenTable 7 = .ok (.aload_n 0, 1) := by decide +kernel
theorem dX2_hiddenTable_8 : decode cX2_hiddenTable 8 = .ok (.getfield 37, 3) := by decide +kernel
theorem dX2_hiddenTable_11 : decode cX2_hiddenTable 11 = .ok (.if_icmp .ge 35, 3) := by decide +kernel
theorem dX2_hiddenTable_14 : decode cX2_hiddenTable 14 = .ok (.iload_n 1, 1) := by decide +kernel
theorem dX2_hiddenTable_15 : decode cX2_hiddenTable 15 = .ok (.aload_n 0, 1) := by decide +kernel
theorem dX2_hiddenTable_16 : decode cX2_hiddenTable 16 = .ok (.getfield 27, 3) := by decide +kernel
theorem dX2_hiddenTable_19 : decode cX2_hiddenTable 19 = .ok (.iload_n 3, 1) := by decide +kernel
theorem dX2_hiddenTable_20 : decode cX2_hiddenTable 20 = .ok (.iaload, 1) := by decide +kernel
theorem dX2_hiddenTable_21 : decode cX2_hiddenTable 21 = .ok (.aload_n 0, 1) := by decide +kernel
theorem dX2_hiddenTable_22 : decode cX2_hiddenTable 22 = .ok (.getfield 18, 3) := by decide +kernel
theorem dX2_hiddenTable_25 : decode cX2_hiddenTable 25 = .ok (.iload_n 3, 1) := by decide +kernel
theorem dX2_hiddenTable_26 : decode cX2_hiddenTable 26 = .ok (.iaload, 1) := by decide +kernel
theorem dX2_hiddenTable_27 : decode cX2_hiddenTable 27 = .ok (.isub, 1) := by decide +kernel
theorem dX2_hiddenTable_28 : decode cX2_hiddenTable 28 = .ok (.iload_n 2, 1) := by decide +kernel
theorem dX2_hiddenTable_29 : decode cX2_hiddenTable 29 = .ok (.imul, 1) := by decide +kernel
theorem dX2_hiddenTable_30 : decode cX2_hiddenTable 30 = .ok (.iadd, 1) := by decide +kernel
theorem dX2_hiddenTable_31 : decode cX2_hiddenTable 31 = .ok (.istore_n 1, 1) := by decide +kernel
theorem dX2_hiddenTable_32 : decode cX2_hiddenTable 32 = .ok (.iload_n 2, 1) := by decide +kernel
theorem dX2_hiddenTable_33 : decode cX2_hiddenTable 33 = .ok (.aload_n 0, 1) := by decide +kernel
theorem dX2_hiddenTable_34 : decode cX2_hiddenTable 34 = .ok (.iload_n 3, 1) := by decide +kernel
theorem dX2_hiddenTable_35 : decode cX2_hiddenTable 35 = .ok (.invokevirtual 49, 3) := by decide +kernel
theorem dX2_hiddenTable_38 : decode cX2_hiddenTable 38 = .ok (.imul, 1) := by decide +kernel
theorem dX2_hiddenTable_39 : decode cX2_hiddenTable 39 = .ok (.istore_n 2, 1) := by decide +kernel
theorem dX2_hiddenTable_40 : decode cX2_hiddenTable 40 = .ok (.iinc 3 1, 3) := by decide +kernel
theorem dX2_hiddenTable_43 : decode cX2_hiddenTable 43 = .ok (.goto (-37), 3) := by decide +kernel
theorem dX2_hiddenTable_46 : decode cX2_hiddenTable 46 = .ok (.iload_n 1, 1) := by decide +kernel
theorem dX2_hiddenTable_47 : decode cX2_hiddenTable 47 = .ok (.ireturn, 1) := by decide +kernel
theorem dX2_valuesIn_0 : decode cX2_valuesIn 0 = .ok (.lload_n 2, 1) := by decide +kernel
theorem dX2_valuesIn_1 : decode cX2_valuesIn 1 = .ok (.aload_n 0, 1) := by decide +kernel
theorem dX2_valuesIn_2 : decode cX2_valuesIn 2 = .ok (.getfield 30, 3) := by decide +kernel
theorem dX2_valuesIn_5 : decode cX2_valuesIn 5 = .ok (.iload_n 1, 1) := by decide +kernel
theorem dX2_valuesIn_6 : decode cX2_valuesIn 6 = .ok (.iaload, 1) := by decide +kernel
theorem dX2_valuesIn_7 : decode cX2_valuesIn 7 = .ok (.lushr, 1) := by decide +kernel
theorem dX2_valuesIn_8 : decode cX2_valuesIn 8 = .ok (.l2i, 1) := by decide +kernel
theorem dX2_valuesIn_9 : decode cX2_valuesIn 9 = .ok (.iconst 1, 1) := by decide +kernel
theorem dX2_valuesIn_10 : decode cX2_valuesIn 10 = .ok (.aload_n 0, 1) := by decide +kernel
theorem dX2_valuesIn_11 : decode cX2_valuesIn 11 = .ok (.iload_n 1, 1) := by decide +kernel
theorem dX2_valuesIn_12 : decode cX2_valuesIn 12 = .ok (.invokevirtual 49, 3) := by decide +kernel
theorem dX2_valuesIn_15 : decode cX2_valuesIn 15 = .ok (.ishl, 1) := by decide +kernel
theorem dX2_valuesIn_16 : decode cX2_valuesIn 16 = .ok (.iconst 1, 1) := by decide +kernel
theorem dX2_valuesIn_17 : decode cX2_valuesIn 17 = .ok (.isub, 1) := by decide +kernel
theorem dX2_valuesIn_18 : decode cX2_valuesIn 18 = .ok (.iand, 1) := by decide +kernel
theorem dX2_valuesIn_19 : decode cX2_valuesIn 19 = .ok (.ireturn, 1) := by decide +kernel
theorem dX2_areSafe_0 : decode cX2_areSafe 0 = .ok (.iconst 0, 1) := by decide +kernel
theorem dX2_areSafe_1 : decode cX2_areSafe 1 = .ok (.istore_n 3, 1) := by decide +kernel
theorem dX2_areSafe_2 : decode cX2_areSafe 2 = .ok (.iload_n 3, 1) := by decide +kernel
theorem dX2_areSafe_3 : decode cX2_areSafe 3 = .ok (.aload_n 0, 1) := by decide +kernel
theorem dX2_areSafe_4 : decode cX2_areSafe 4 = .ok (.getfield 37, 3) := by decide +kernel
theorem dX2_areSafe_7 : decode cX2_areSafe 7 = .ok (.if_icmp .ge 45, 3) := by decide +kernel
theorem dX2_areSafe_10 : decode cX2_areSafe 10 = .ok (.aload_n 0, 1) := by decide +kernel
theorem dX2_areSafe_11 : decode cX2_areSafe 11 = .ok (.iload_n 3, 1) := by decide +kernel
theorem dX2_areSafe_12 : decode cX2_areSafe 12 = .ok (.lload_n 1, 1) := by decide +kernel
theorem dX2_areSafe_13 : decode cX2_areSafe 13 = .ok (.invokevirtual 61, 3) := by decide +kernel
theorem dX2_areSafe_16 : decode cX2_areSafe 16 = .ok (.i2l, 1) := by decide +kernel
theorem dX2_areSafe_17 : decode cX2_areSafe 17 = .ok (.lstore 4, 2) := by decide +kernel
theorem dX2_areSafe_19 : decode cX2_areSafe 19 = .ok (.lload 4, 2) := by decide +kernel
theorem dX2_areSafe_21 : decode cX2_areSafe 21 = .ok (.lload 4, 2) := by decide +kernel
theorem dX2_areSafe_23 : decode cX2_areSafe 23 = .ok (.lneg, 1) := by decide +kernel
theorem dX2_areSafe_24 : decode cX2_areSafe 24 = .ok (.land, 1) := by decide +kernel
theorem dX2_areSafe_25 : decode cX2_areSafe 25 = .ok (.lstore 6, 2) := by decide +kernel
theorem dX2_areSafe_27 : decode cX2_areSafe 27 = .ok (.lload 4, 2) := by decide +kernel
theorem dX2_areSafe_29 : decode cX2_areSafe 29 = .ok (.lload 6, 2) := by decide +kernel
theorem dX2_areSafe_31 : decode cX2_areSafe 31 = .ok (.aload_n 0, 1) := by decide +kernel
theorem dX2_areSafe_32 : decode cX2_areSafe 32 = .ok (.getfield 24, 3) := by decide +kernel
theorem dX2_areSafe_35 : decode cX2_areSafe 35 = .ok (.iload_n 3, 1) := by decide +kernel
theorem dX2_areSafe_36 : decode cX2_areSafe 36 = .ok (.iaload, 1) := by decide +kernel
theorem dX2_areSafe_37 : decode cX2_areSafe 37 = .ok (.iconst 1, 1) := by decide +kernel
theorem dX2_areSafe_38 : decode cX2_areSafe 38 = .ok (.isub, 1) := by decide +kernel
theorem dX2_areSafe_39 : decode cX2_areSafe 39 = .ok (.lshl, 1) := by decide +kernel
theorem dX2_areSafe_40 : decode cX2_areSafe 40 = .ok (.lcmp, 1) := by decide +kernel
theorem dX2_areSafe_41 : decode cX2_areSafe 41 = .ok (.ifCond .ge 5, 3) := by decide +kernel
theorem dX2_areSafe_44 : decode cX2_areSafe 44 = .ok (.iconst 0, 1) := by decide +kernel
theorem dX2_areSafe_45 : decode cX2_areSafe 45 = .ok (.ireturn, 1) := by decide +kernel
theorem dX2_areSafe_46 : decode cX2_areSafe 46 = .ok (.iinc 3 1, 3) := by decide +kernel
theorem dX2_areSafe_49 : decode cX2_areSafe 49 = .ok (.goto (-47), 3) := by decide +kernel
theorem dX2_areSafe_52 : decode cX2_areSafe 52 = .ok (.iconst 1, 1) := by decide +kernel
theorem dX2_areSafe_53 : decode cX2_areSafe 53 = .ok (.ireturn, 1) := by decide +kernel
theorem dX2_copyFrom_0 : decode cX2_copyFrom 0 = .ok (.aload_n 1, 1) := by decide +kernel
theorem dX2_copyFrom_1 : decode cX2_copyFrom 1 = .ok (.getfield 9, 3) := by decide +kernel
theorem dX2_copyFrom_4 : decode cX2_copyFrom 4 = .ok (.iconst 0, 1) := by decide +kernel
theorem dX2_copyFrom_5 : decode cX2_copyFrom 5 = .ok (.aload_n 0, 1) := by decide +kernel
theorem dX2_copyFrom_6 : decode cX2_copyFrom 6 = .ok (.getfield 9, 3) := by decide +kernel
theorem dX2_copyFrom_9 : decode cX2_copyFrom 9 = .ok (.iconst 0, 1) := by decide +kernel
theorem dX2_copyFrom_10 : decode cX2_copyFrom 10 = .ok (.bipush 8, 2) := by decide +kernel
theorem dX2_copyFrom_12 : decode cX2_copyFrom 12 = .ok (.invokestatic 65, 3) := by decide +kernel
theorem dX2_copyFrom_15 : decode cX2_copyFrom 15 = .ok (.aload_n 1, 1) := by decide +kernel
theorem dX2_copyFrom_16 : decode cX2_copyFrom 16 = .ok (.getfield 15, 3) := by decide +kernel
theorem dX2_copyFrom_19 : decode cX2_copyFrom 19 = .ok (.iconst 0, 1) := by decide +kernel
theorem dX2_copyFrom_20 : decode cX2_copyFrom 20 = .ok (.aload_n 0, 1) := by decide +kernel
theorem dX2_copyFrom_21 : decode cX2_copyFrom 21 = .ok (.getfield 15, 3) := by decide +kernel
theorem dX2_copyFrom_24 : decode cX2_copyFrom 24 = .ok (.iconst 0, 1) := by decide +kernel
theorem dX2_copyFrom_25 : decode cX2_copyFrom 25 = .ok (.bipush 10, 2) := by decide +kernel
theorem dX2_copyFrom_27 : decode cX2_copyFrom 27 = .ok (.invokestatic 65, 3) := by decide +kernel
theorem dX2_copyFrom_30 : decode cX2_copyFrom 30 = .ok (.aload_n 1, 1) := by decide +kernel
theorem dX2_copyFrom_31 : decode cX2_copyFrom 31 = .ok (.getfield 18, 3) := by decide +kernel
theorem dX2_copyFrom_34 : decode cX2_copyFrom 34 = .ok (.iconst 0, 1) := by decide +kernel
theorem dX2_copyFrom_35 : decode cX2_copyFrom 35 = .ok (.aload_n 0, 1) := by decide +kernel
theorem dX2_copyFrom_36 : decode cX2_copyFrom 36 = .ok (.getfield 18, 3) := by decide +kernel
theorem dX2_copyFrom_39 : decode cX2_copyFrom 39 = .ok (.iconst 0, 1) := by decide +kernel
theorem dX2_copyFrom_40 : decode cX2_copyFrom 40 = .ok (.bipush 10, 2) := by decide +kernel
theorem dX2_copyFrom_42 : decode cX2_copyFrom 42 = .ok (.invokestatic 65, 3) := by decide +kernel
theorem dX2_copyFrom_45 : decode cX2_copyFrom 45 = .ok (.aload_n 1, 1) := by decide +kernel
theorem dX2_copyFrom_46 : decode cX2_copyFrom 46 = .ok (.getfield 21, 3) := by decide +kernel
theorem dX2_copyFrom_49 : decode cX2_copyFrom 49 = .ok (.iconst 0, 1) := by decide +kernel
theorem dX2_copyFrom_50 : decode cX2_copyFrom 50 = .ok (.aload_n 0, 1) := by decide +kernel
theorem dX2_copyFrom_51 : decode cX2_copyFrom 51 = .ok (.getfield 21, 3) := by decide +kernel
theorem dX2_copyFrom_54 : decode cX2_copyFrom 54 = .ok (.iconst 0, 1) := by decide +kernel
theorem dX2_copyFrom_55 : decode cX2_copyFrom 55 = .ok (.bipush 10, 2) := by decide +kernel
theorem dX2_copyFrom_57 : decode cX2_copyFrom 57 = .ok (.invokestatic 65, 3) := by decide +kernel
theorem dX2_copyFrom_60 : decode cX2_copyFrom 60 = .ok (.aload_n 1, 1) := by decide +kernel
theorem dX2_copyFrom_61 : decode cX2_copyFrom 61 = .ok (.getfield 24, 3) := by decide +kernel
theorem dX2_copyFrom_64 : decode cX2_copyFrom 64 = .ok (.iconst 0, 1) := by decide +kernel
theorem dX2_copyFrom_65 : decode cX2_copyFrom 65 = .ok (.aload_n 0, 1) := by decide +kernel
theorem dX2_copyFrom_66 : decode cX2_copyFrom 66 = .ok (.getfield 24, 3) := by decide +kernel
theorem dX2_copyFrom_69 : decode cX2_copyFrom 69 = .ok (.iconst 0, 1) := by decide +kernel
theorem dX2_copyFrom_70 : decode cX2_copyFrom 70 = .ok (.bipush 10, 2) := by decide +kernel
theorem dX2_copyFrom_72 : decode cX2_copyFrom 72 = .ok (.invokestatic 65, 3) := by decide +kernel
theorem dX2_copyFrom_75 : decode cX2_copyFrom 75 = .ok (.aload_n 1, 1) := by decide +kernel
theorem dX2_copyFrom_76 : decode cX2_copyFrom 76 = .ok (.getfield 27, 3) := by decide +kernel
theorem dX2_copyFrom_79 : decode cX2_copyFrom 79 = .ok (.iconst 0, 1) := by decide +kernel
theorem dX2_copyFrom_80 : decode cX2_copyFrom 80 = .ok (.aload_n 0, 1) := by decide +kernel
theorem dX2_copyFrom_81 : decode cX2_copyFrom 81 = .ok (.getfield 27, 3) := by decide +kernel
theorem dX2_copyFrom_84 : decode cX2_copyFrom 84 = .ok (.iconst 0, 1) := by decide +kernel
theorem dX2_copyFrom_85 : decode cX2_copyFrom 85 = .ok (.bipush 10, 2) := by decide +kernel
theorem dX2_copyFrom_87 : decode cX2_copyFrom 87 = .ok (.invokestatic 65, 3) := by decide +kernel
theorem dX2_copyFrom_90 : decode cX2_copyFrom 90 = .ok (.aload_n 1, 1) := by decide +kernel
theorem dX2_copyFrom_91 : decode cX2_copyFrom 91 = .ok (.getfield 30, 3) := by decide +kernel
theorem dX2_copyFrom_94 : decode cX2_copyFrom 94 = .ok (.iconst 0, 1) := by decide +kernel
theorem dX2_copyFrom_95 : decode cX2_copyFrom 95 = .ok (.aload_n 0, 1) := by decide +kernel
theorem dX2_copyFrom_96 : decode cX2_copyFrom 96 = .ok (.getfield 30, 3) := by decide +kernel
theorem dX2_copyFrom_99 : decode cX2_copyFrom 99 = .ok (.iconst 0, 1) := by decide +kernel
theorem dX2_copyFrom_100 : decode cX2_copyFrom 100 = .ok (.bipush 10, 2) := by decide +kernel
theorem dX2_copyFrom_102 : decode cX2_copyFrom 102 = .ok (.invokestatic 65, 3) := by decide +kernel
theorem dX2_copyFrom_105 : decode cX2_copyFrom 105 = .ok (.aload_n 0, 1) := by decide +kernel
theorem dX2_copyFrom_106 : decode cX2_copyFrom 106 = .ok (.aload_n 1, 1) := by decide +kernel
theorem dX2_copyFrom_107 : decode cX2_copyFrom 107 = .ok (.getfield 33, 3) := by decide +kernel
theorem dX2_copyFrom_110 : decode cX2_copyFrom 110 = .ok (.putfield 33, 3) := by decide +kernel
theorem dX2_copyFrom_113 : decode cX2_copyFrom 113 = .ok (.aload_n 0, 1) := by decide +kernel
theorem dX2_copyFrom_114 : decode cX2_copyFrom 114 = .ok (.aload_n 1, 1) := by decide +kernel
theorem dX2_copyFrom_115 : decode cX2_copyFrom 115 = .ok (.getfield 37, 3) := by decide +kernel
theorem dX2_copyFrom_118 : decode cX2_copyFrom 118 = .ok (.putfield 37, 3) := by decide +kernel
theorem dX2_copyFrom_121 : decode cX2_copyFrom 121 = .ok (.aload_n 0, 1) := by decide +kernel
theorem dX2_copyFrom_122 : decode cX2_copyFrom 122 = .ok (.aload_n 1, 1) := by decide +kernel
theorem dX2_copyFrom_123 : decode cX2_copyFrom 123 = .ok (.getfield 40, 3) := by decide +kernel
theorem dX2_copyFrom_126 : decode cX2_copyFrom 126 = .ok (.putfield 40, 3) := by decide +kernel
theorem dX2_copyFrom_129 : decode cX2_copyFrom 129 = .ok (.aload_n 0, 1) := by decide +kernel
theorem dX2_copyFrom_130 : decode cX2_copyFrom 130 = .ok (.aload_n 1, 1) := by decide +kernel
theorem dX2_copyFrom_131 : decode cX2_copyFrom 131 = .ok (.getfield 43, 3) := by decide +kernel
theorem dX2_copyFrom_134 : decode cX2_copyFrom 134 = .ok (.putfield 43, 3) := by decide +kernel
theorem dX2_copyFrom_137 : decode cX2_copyFrom 137 = .ok (.aload_n 0, 1) := by decide +kernel
theorem dX2_copyFrom_138 : decode cX2_copyFrom 138 = .ok (.aload_n 1, 1) := by decide +kernel
theorem dX2_copyFrom_139 : decode cX2_copyFrom 139 = .ok (.getfield 46, 3) := by decide +kernel
theorem dX2_copyFrom_142 : decode cX2_copyFrom 142 = .ok (.putfield 46, 3) := by decide +kernel
theorem dX2_copyFrom_145 : decode cX2_copyFrom 145 = .ok (.return_, 1) := by decide +kernel
theorem dX3_init_0 : decode cX3_init 0 = .ok (.aload_n 0, 1) := by decide +kernel
theorem dX3_init_1 : decode cX3_init 1 = .ok (.invokespecial 3, 3) := by decide +kernel
theorem dX3_init_4 : decode cX3_init 4 = .ok (.aload_n 0, 1) := by decide +kernel
theorem dX3_init_5 : decode cX3_init 5 = .ok (.sipush 4096, 3) := by decide +kernel
theorem dX3_init_8 : decode cX3_init 8 = .ok (.newarray .long, 2) := by decide +kernel
theorem dX3_init_10 : decode cX3_init 10 = .ok (.putfield 9, 3) := by decide +kernel
theorem dX3_init_13 : decode cX3_init 13 = .ok (.aload_n 0, 1) := by decide +kernel
theorem dX3_init_14 : decode cX3_init 14 = .ok (.sipush 4096, 3) := by decide +kernel
theorem dX3_init_17 : decode cX3_init 17 = .ok (.newarray .int, 2) := by decide +kernel
theorem dX3_init_19 : decode cX3_init 19 = .ok (.putfield 15, 3) := by decide +kernel
theorem dX3_init_22 : decode cX3_init 22 = .ok (.aload_n 0, 1) := by decide +kernel
theorem dX3_init_23 : decode cX3_init 23 = .ok (.bipush 64, 2) := by decide +kernel
theorem dX3_init_25 : decode cX3_init 25 = .ok (.newarray .long, 2) := by decide +kernel
theorem dX3_init_27 : decode cX3_init 27 = .ok (.putfield 19, 3) := by decide +kernel
theorem dX3_init_30 : decode cX3_init 30 = .ok (.return_, 1) := by decide +kernel
theorem dX3_markTables_0 : decode cX3_markTables 0 = .ok (.aload_n 0, 1) := by decide +kernel
theorem dX3_markTables_1 : decode cX3_markTables 1 = .ok (.getfield 9, 3) := by decide +kernel
theorem dX3_markTables_4 : decode cX3_markTables 4 = .ok (.iconst 0, 1) := by decide +kernel
theorem dX3_markTables_5 : decode cX3_markTables 5 = .ok (.lconst 1, 1) := by decide +kernel
theorem dX3_markTables_6 : decode cX3_markTables 6 = .ok (.lastore, 1) := by decide +kernel
theorem dX3_markTables_7 : decode cX3_markTables 7 = .ok (.iconst 1, 1) := by decide +kernel
theorem dX3_markTables_8 : decode cX3_markTables 8 = .ok (.istore_n 2, 1) := by decide +kernel
theorem dX3_markTables_9 : decode cX3_markTables 9 = .ok (.iconst 0, 1) := by decide +kernel
theorem dX3_markTables_10 : decode cX3_markTables 10 = .ok (.istore_n 3, 1) := by decide +kernel
theorem dX3_markTables_11 : decode cX3_markTables 11 = .ok (.iload_n 3, 1) := by decide +kernel
theorem dX3_markTables_12 : decode cX3_markTables 12 = .ok (.aload_n 1, 1) := by decide +kernel
theorem dX3_markTables_13 : decode cX3_markTables 13 = .ok (.getfield 22, 3) := by decide +kernel
theorem dX3_markTables_16 : decode cX3_markTables 16 = .ok (.if_icmp .ge 88, 3) := by decide +kernel
theorem dX3_markTables_19 : decode cX3_markTables 19 = .ok (.aload_n 1, 1) := by decide +kernel
theorem dX3_markTables_20 : decode cX3_markTables 20 = .ok (.iload_n 3, 1) := by decide +kernel
theorem dX3_markTables_21 : decode cX3_markTables 21 = .ok (.invokevirtual 28, 3) := by decide +kernel
theorem dX3_markTables_24 : decode cX3_markTables 24 = .ok (.istore 4, 2) := by decide +kernel
theorem dX3_markTables_26 : decode cX3_markTables 26 = .ok (.iload 4, 2) := by decide +kernel
theorem dX3_markTables_28 : decode cX3_markTables 28 = .ok (.iconst 1, 1) := by decide +kernel
theorem dX3_markTables_29 : decode cX3_markTables 29 = .ok (.isub, 1) := by decide +kernel
theorem dX3_markTables_30 : decode cX3_markTables 30 = .ok (.istore 5, 2) := by decide +kernel
theorem dX3_markTables_32 : decode cX3_markTables 32 = .ok (.iload 5, 2) := by decide +kernel
theorem dX3_markTables_34 : decode cX3_markTables 34 = .ok (.ifCond .lt 59, 3) := by decide +kernel
theorem dX3_markTables_37 : decode cX3_markTables 37 = .ok (.lconst 1, 1) := by decide +kernel
theorem dX3_markTables_38 : decode cX3_markTables 38 = .ok (.aload_n 1, 1) := by decide +kernel
theorem dX3_markTables_39 : decode cX3_markTables 39 = .ok (.getfield 32, 3) := by decide +kernel
theorem dX3_markTables_42 : decode cX3_markTables 42 = .ok (.iload_n 3, 1) := by decide +kernel
theorem dX3_markTables_43 : decode cX3_markTables 43 = .ok (.iaload, 1) := by decide +kernel
theorem dX3_markTables_44 : decode cX3_markTables 44 = .ok (.iload 5, 2) := by decide +kernel
theorem dX3_markTables_46 : decode cX3_markTables 46 = .ok (.iadd, 1) := by decide +kernel
theorem dX3_markTables_47 : decode cX3_markTables 47 = .ok (.lshl, 1) := by decide +kernel
theorem dX3_markTables_48 : decode cX3_markTables 48 = .ok (.lstore 6, 2) := by decide +kernel
theorem dX3_markTables_50 : decode cX3_markTables 50 = .ok (.iconst 0, 1) := by decide +kernel
theorem dX3_markTables_51 : decode cX3_markTables 51 = .ok (.istore 8, 2) := by decide +kernel
theorem dX3_markTables_53 : decode cX3_markTables 53 = .ok (.iload 8, 2) := by decide +kernel
theorem dX3_markTables_55 : decode cX3_markTables 55 = .ok (.iload_n 2, 1) := by decide +kernel
theorem dX3_markTables_56 : decode cX3_markTables 56 = .ok (.if_icmp .ge 31, 3) := by decide +kernel
theorem dX3_markTables_59 : decode cX3_markTables 59 = .ok (.aload_n 0, 1) := by decide +kernel
theorem dX3_markTables_60 : decode cX3_markTables 60 = .ok (.getfield 9, 3) := by decide +kernel
theorem dX3_markTables_63 : decode cX3_markTables 63 = .ok (.iload 5, 2) := by decide +kernel
theorem dX3_markTables_65 : decode cX3_markTables 65 = .ok (.iload_n 2, 1) := by decide +kernel
theorem dX3_markTables_66 : decode cX3_markTables 66 = .ok (.imul, 1) := by decide +kernel
theorem dX3_markTables_67 : decode cX3_markTables 67 = .ok (.iload 8, 2) := by decide +kernel
theorem dX3_markTables_69 : decode cX3_markTables 69 = .ok (.iadd, 1) := by decide +kernel
theorem dX3_markTables_70 : decode cX3_markTables 70 = .ok (.aload_n 0, 1) := by decide +kernel
theorem dX3_markTables_71 : decode cX3_markTables 71 = .ok (.getfield 9, 3) := by decide +kernel
theorem dX3_markTables_74 : decode cX3_markTables 74 = .ok (.iload 8, 2) := by decide +kernel
theorem dX3_markTables_76 : decode cX3_markTables 76 = .ok (.laload, 1) := by decide +kernel
theorem dX3_markTables_77 : decode cX3_markTables 77 = .ok (.lload 6, 2) := by decide +kernel
theorem dX3_markTables_79 : decode cX3_markTables 79 = .ok (.lor, 1) := by decide +kernel
theorem dX3_markTables_80 : decode cX3_markTables 80 = .ok (.lastore, 1) := by decide +kernel
theorem dX3_markTables_81 : decode cX3_markTables 81 = .ok (.iinc 8 1, 3) := by decide +kernel
theorem dX3_markTables_84 : decode cX3_markTables 84 = .ok (.goto (-31), 3) := by decide +kernel
theorem dX3_markTables_87 : decode cX3_markTables 87 = .ok (.iinc 5 (-1), 3) := by decide +kernel
theorem dX3_markTables_90 : decode cX3_markTables 90 = .ok (.goto (-58), 3) := by decide +kernel
theorem dX3_markTables_93 : decode cX3_markTables 93 = .ok (.iload_n 2, 1) := by decide +kernel
theorem dX3_markTables_94 : decode cX3_markTables 94 = .ok (.iload 4, 2) := by decide +kernel
theorem dX3_markTables_96 : decode cX3_markTables 96 = .ok (.imul, 1) := by decide +kernel
theorem dX3_markTables_97 : decode cX3_markTables 97 = .ok (.istore_n 2, 1) := by decide +kernel
theorem dX3_markTables_98 : decode cX3_markTables 98 = .ok (.iinc 3 1, 3) := by decide +kernel
theorem dX3_markTables_101 : decode cX3_markTables 101 = .ok (.goto (-90), 3) := by decide +kernel
theorem dX3_markTables_104 : decode cX3_markTables 104 = .ok (.return_, 1) := by decide +kernel
theorem dX3_answerTables_0 : decode cX3_answerTables 0 = .ok (.aload_n 0, 1) := by decide +kernel
theorem dX3_answerTables_1 : decode cX3_answerTables 1 = .ok (.getfield 15, 3) := by decide +kernel
theorem dX3_answerTables_4 : decode cX3_answerTables 4 = .ok (.iconst 0, 1) := by decide +kernel
theorem dX3_answerTables_5 : decode cX3_answerTables 5 = .ok (.iload_n 2, 1) := by decide +kernel
theorem dX3_answerTables_6 : decode cX3_answerTables 6 = .ok (.iconst 3, 1) := by decide +kernel
theorem dX3_answerTables_7 : decode cX3_answerTables 7 = .ok (.if_icmp .ne 12, 3) := by decide +kernel
theorem dX3_answerTables_10 : decode cX3_answerTables 10 = .ok (.iload_n 3, 1) := by decide +kernel
theorem dX3_answerTables_11 : decode cX3_answerTables 11 = .ok (.ifCond .eq 8, 3) := by decide +kernel
theorem dX3_answerTables_14 : decode cX3_answerTables 14 = .ok (.bipush 21, 2) := by decide +kernel
theorem dX3_answerTables_16 : decode cX3_answerTables 16 = .ok (.goto 4, 3) := by decide +kernel
theorem dX3_answerTables_19 : decode cX3_answerTables 19 = .ok (.iconst 0, 1) := by decide +kernel
theorem dX3_answerTables_20 : decode cX3_answerTables 20 = .ok (.iastore, 1) := by decide +kernel
theorem dX3_answerTables_21 : decode cX3_answerTables 21 = .ok (.iconst 1, 1) := by decide +kernel
theorem dX3_answerTables_22 : decode cX3_answerTables 22 = .ok (.istore 5, 2) := by decide +kernel
theorem dX3_answerTables_24 : decode cX3_answerTables 24 = .ok (.iconst 0, 1) := by decide +kernel
theorem dX3_answerTables_25 : decode cX3_answerTables 25 = .ok (.istore 6, 2) := by decide +kernel
theorem dX3_answerTables_27 : decode cX3_answerTables 27 = .ok (.iload 6, 2) := by decide +kernel
theorem dX3_answerTables_29 : decode cX3_answerTables 29 = .ok (.aload_n 1, 1) := by decide +kernel
theorem dX3_answerTables_30 : decode cX3_answerTables 30 = .ok (.getfield 22, 3) := by decide +kernel
theorem dX3_answerTables_33 : decode cX3_answerTables 33 = .ok (.if_icmp .ge 120, 3) := by decide +kernel
theorem dX3_answerTables_36 : decode cX3_answerTables 36 = .ok (.aload_n 1, 1) := by decide +kernel
theorem dX3_answerTables_37 : decode cX3_answerTables 37 = .ok (.iload 6, 2) := by decide +kernel
theorem dX3_answerTables_39 : decode cX3_answerTables 39 = .ok (.invokevirtual 28, 3) := by decide +kernel
theorem dX3_answerTables_42 : decode cX3_answerTables 42 = .ok (.istore 7, 2) := by decide +kernel
theorem dX3_answerTables_44 : decode cX3_answerTables 44 = .ok (.aload_n 1, 1) := by decide +kernel
theorem dX3_answerTables_45 : decode cX3_answerTables 45 = .ok (.iload 6, 2) := by decide +kernel
theorem dX3_answerTables_47 : decode cX3_answerTables 47 = .ok (.iload_n 3, 1) := by decide +kernel
theorem dX3_answerTables_48 : decode cX3_answerTables 48 = .ok (.invokevirtual 35, 3) := by decide +kernel
theorem dX3_answerTables_51 : decode cX3_answerTables 51 = .ok (.istore 8, 2) := by decide +kernel
theorem dX3_answerTables_53 : decode cX3_answerTables 53 = .ok (.iload 7, 2) := by decide +kernel
theorem dX3_answerTables_55 : decode cX3_answerTables 55 = .ok (.iconst 1, 1) := by decide +kernel
theorem dX3_answerTables_56 : decode cX3_answerTables 56 = .ok (.isub, 1) := by decide +kernel
theorem dX3_answerTables_57 : decode cX3_answerTables 57 = .ok (.istore 9, 2) := by decide +kernel
theorem dX3_answerTables_59 : decode cX3_answerTables 59 = .ok (.iload 9, 2) := by decide +kernel
theorem dX3_answerTables_61 : decode cX3_answerTables 61 = .ok (.ifCond .lt 79, 3) := by decide +kernel
theorem dX3_answerTables_64 : decode cX3_answerTables 64 = .ok (.aload_n 1, 1) := by decide +kernel
theorem dX3_answerTables_65 : decode cX3_answerTables 65 = .ok (.getfield 39, 3) := by decide +kernel
theorem dX3_answerTables_68 : decode cX3_answerTables 68 = .ok (.iload 6, 2) := by decide +kernel
theorem dX3_answerTables_70 : decode cX3_answerTables 70 = .ok (.iaload, 1) := by decide +kernel
theorem dX3_answerTables_71 : decode cX3_answerTables 71 = .ok (.iload 9, 2) := by decide +kernel
theorem dX3_answerTables_73 : decode cX3_answerTables 73 = .ok (.iadd, 1) := by decide +kernel
theorem dX3_answerTables_74 : decode cX3_answerTables 74 = .ok (.istore 10, 2) := by decide +kernel
theorem dX3_answerTables_76 : decode cX3_answerTables 76 = .ok (.iconst 0, 1) := by decide +kernel
theorem dX3_answerTables_77 : decode cX3_answerTables 77 = .ok (.istore 11, 2) := by decide +kernel
theorem dX3_answerTables_79 : decode cX3_answerTables 79 = .ok (.iload 11, 2) := by decide +kernel
theorem dX3_answerTables_81 : decode cX3_answerTables 81 = .ok (.iload 5, 2) := by decide +kernel
theorem dX3_answerTables_83 : decode cX3_answerTables 83 = .ok (.if_icmp .ge 51, 3) := by decide +kernel
theorem dX3_answerTables_86 : decode cX3_answerTables 86 = .ok (.aload_n 0, 1) := by decide +kernel
theorem dX3_answerTables_87 : decode cX3_answerTables 87 = .ok (.getfield 15, 3) := by decide +kernel
theorem dX3_answerTables_90 : decode cX3_answerTables 90 = .ok (.iload 11, 2) := by decide +kernel
theorem dX3_answerTables_92 : decode cX3_answerTables 92 = .ok (.iaload, 1) := by decide +kernel
theorem dX3_answerTables_93 : decode cX3_answerTables 93 = .ok (.istore 12, 2) := by decide +kernel
theorem dX3_answerTables_95 : decode cX3_answerTables 95 = .ok (.aload_n 0, 1) := by decide +kernel
theorem dX3_answerTables_96 : decode cX3_answerTables 96 = .ok (.getfield 15, 3) := by decide +kernel
theorem dX3_answerTables_99 : decode cX3_answerTables 99 = .ok (.iload 9, 2) := by decide +kernel
theorem dX3_answerTables_101 : decode cX3_answerTables 101 = .ok (.iload 5, 2) := by decide +kernel
theorem dX3_answerTables_103 : decode cX3_answerTables 103 = .ok (.imul, 1) := by decide +kernel
theorem dX3_answerTables_104 : decode cX3_answerTables 104 = .ok (.iload 11, 2) := by decide +kernel
theorem dX3_answerTables_106 : decode cX3_answerTables 106 = .ok (.iadd, 1) := by decide +kernel
theorem dX3_answerTables_107 : decode cX3_answerTables 107 = .ok (.iload 8, 2) := by decide +kernel
theorem dX3_answerTables_109 : decode cX3_answerTables 109 = .ok (.ifCond .eq 16, 3) := by decide +kernel
theorem dX3_answerTables_112 : decode cX3_answerTables 112 = .ok (.iload 12, 2) := by decide +kernel
theorem dX3_answerTables_114 : decode cX3_answerTables 114 = .ok (.iload 10, 2) := by decide +kernel
theorem dX3_answerTables_116 : decode cX3_answerTables 116 = .ok (.iload_n 2, 1) := by decide +kernel
theorem dX3_answerTables_117 : decode cX3_answerTables 117 = .ok (.iload 4, 2) := by decide +kernel
theorem dX3_answerTables_119 : decode cX3_answerTables 119 = .ok (.invokestatic 42, 3) := by decide +kernel
theorem dX3_answerTables_122 : decode cX3_answerTables 122 = .ok (.goto 5, 3) := by decide +kernel
theorem dX3_answerTables_125 : decode cX3_answerTables 125 = .ok (.iload 12, 2) := by decide +kernel
theorem dX3_answerTables_127 : decode cX3_answerTables 127 = .ok (.iastore, 1) := by decide +kernel
theorem dX3_answerTables_128 : decode cX3_answerTables 128 = .ok (.iinc 11 1, 3) := by decide +kernel
theorem dX3_answerTables_131 : decode cX3_answerTables 131 = .ok (.goto (-52), 3) := by decide +kernel
theorem dX3_answerTables_134 : decode cX3_answerTables 134 = .ok (.iinc 9 (-1), 3) := by decide +kernel
theorem dX3_answerTables_137 : decode cX3_answerTables 137 = .ok (.goto (-78), 3) := by decide +kernel
theorem dX3_answerTables_140 : decode cX3_answerTables 140 = .ok (.iload 5, 2) := by decide +kernel
theorem dX3_answerTables_142 : decode cX3_answerTables 142 = .ok (.iload 7, 2) := by decide +kernel
theorem dX3_answerTables_144 : decode cX3_answerTables 144 = .ok (.imul, 1) := by decide +kernel
theorem dX3_answerTables_145 : decode cX3_answerTables 145 = .ok (.istore 5, 2) := by decide +kernel
theorem dX3_answerTables_147 : decode cX3_answerTables 147 = .ok (.iinc 6 1, 3) := by decide +kernel
theorem dX3_answerTables_150 : decode cX3_answerTables 150 = .ok (.goto (-123), 3) := by decide +kernel
theorem dX3_answerTables_153 : decode cX3_answerTables 153 = .ok (.iload_n 2, 1) := by decide +kernel
theorem dX3_answerTables_154 : decode cX3_answerTables 154 = .ok (.ifCond .ne 17, 3) := by decide +kernel
theorem dX3_answerTables_157 : decode cX3_answerTables 157 = .ok (.iload 4, 2) := by decide +kernel
theorem dX3_answerTables_159 : decode cX3_answerTables 159 = .ok (.iconst 1, 1) := by decide +kernel
theorem dX3_answerTables_160 : decode cX3_answerTables 160 = .ok (.if_icmp .le 11, 3) := by decide +kernel
theorem dX3_answerTables_163 : decode cX3_answerTables 163 = .ok (.aload_n 0, 1) := by decide +kernel
theorem dX3_answerTables_164 : decode cX3_answerTables 164 = .ok (.iload 5, 2) := by decide +kernel
theorem dX3_answerTables_166 : decode cX3_answerTables 166 = .ok (.iload 4, 2) := by decide +kernel
theorem dX3_answerTables_168 : decode cX3_answerTables 168 = .ok (.invokevirtual 46, 3) := by decide +kernel
theorem dX3_answerTables_171 : decode cX3_answerTables 171 = .ok (.return_, 1) := by decide +kernel
theorem dX3_withValue_0 : decode cX3_withValue 0 = .ok (.iload_n 2, 1) := by decide +kernel
theorem dX3_withValue_1 : decode cX3_withValue 1 = .ok (.tableswitch 50 0 2 #[27, 31, 44], 27) := by decide +kernel
theorem dX3_withValue_28 : decode cX3_withValue 28 = .ok (.iload_n 0, 1) := by decide +kernel
theorem dX3_withValue_29 : decode cX3_withValue 29 = .ok (.iload_n 1, 1) := by decide +kernel
theorem dX3_withValue_30 : decode cX3_withValue 30 = .ok (.iadd, 1) := by decide +kernel
theorem dX3_withValue_31 : decode cX3_withValue 31 = .ok (.ireturn, 1) := by decide +kernel
theorem dX3_withValue_32 : decode cX3_withValue 32 = .ok (.iload_n 1, 1) := by decide +kernel
theorem dX3_withValue_33 : decode cX3_withValue 33 = .ok (.iload_n 3, 1) := by decide +kernel
theorem dX3_withValue_34 : decode cX3_withValue 34 = .ok (.if_icmp .lt 9, 3) := by decide +kernel
theorem dX3_withValue_37 : decode cX3_withValue 37 = .ok (.iload_n 0, 1) := by decide +kernel
theorem dX3_withValue_38 : decode cX3_withValue 38 = .ok (.iconst 1, 1) := by decide +kernel
theorem dX3_withValue_39 : decode cX3_withValue 39 = .ok (.iadd, 1) := by decide +kernel
theorem dX3_withValue_40 : decode cX3_withValue 40 = .ok (.goto 4, 3) := by decide +kernel
theorem dX3_withValue_43 : decode cX3_withValue 43 = .ok (.iload_n 0, 1) := by decide +kernel
theorem dX3_withValue_44 : decode cX3_withValue 44 = .ok (.ireturn, 1) := by decide +kernel
theorem dX3_withValue_45 : decode cX3_withValue 45 = .ok (.iload_n 0, 1) := by decide +kernel
theorem dX3_withValue_46 : decode cX3_withValue 46 = .ok (.iload_n 1, 1) := by decide +kernel
theorem dX3_withValue_47 : decode cX3_withValue 47 = .ok (.invokestatic 50, 3) := by decide +kernel
theorem dX3_withValue_50 : decode cX3_withValue 50 = .ok (.ireturn, 1) := by decide +kernel
theorem dX3_withValue_51 : decode cX3_withValue 51 = .ok (.iload_n 0, 1) := by decide +kernel
theorem dX3_withValue_52 : decode cX3_withValue 52 = .ok (.iload_n 1, 1) := by decide +kernel
theorem dX3_withValue_53 : decode cX3_withValue 53 = .ok (.invokestatic 56, 3) := by decide +kernel
theorem dX3_withValue_56 : decode cX3_withValue 56 = .ok (.ireturn, 1) := by decide +kernel
theorem dX3_cutAnswers_0 : decode cX3_cutAnswers 0 = .ok (.iload_n 2, 1) := by decide +kernel
theorem dX3_cutAnswers_1 : decode cX3_cutAnswers 1 = .ok (.iconst 1, 1) := by decide +kernel
theorem dX3_cutAnswers_2 : decode cX3_cutAnswers 2 = .ok (.if_icmp .ge 4, 3) := by decide +kernel
theorem dX3_cutAnswers_5 : decode cX3_cutAnswers 5 = .ok (.return_, 1) := by decide +kernel
theorem dX3_cutAnswers_6 : decode cX3_cutAnswers 6 = .ok (.iconst 0, 1) := by decide +kernel
theorem dX3_cutAnswers_7 : decode cX3_cutAnswers 7 = .ok (.istore_n 3, 1) := by decide +kernel
theorem dX3_cutAnswers_8 : decode cX3_cutAnswers 8 = .ok (.iload_n 3, 1) := by decide +kernel
theorem dX3_cutAnswers_9 : decode cX3_cutAnswers 9 = .ok (.iload_n 1, 1) := by decide +kernel
theorem dX3_cutAnswers_10 : decode cX3_cutAnswers 10 = .ok (.if_icmp .ge 26, 3) := by decide +kernel
theorem dX3_cutAnswers_13 : decode cX3_cutAnswers 13 = .ok (.aload_n 0, 1) := by decide +kernel
theorem dX3_cutAnswers_14 : decode cX3_cutAnswers 14 = .ok (.getfield 15, 3) := by decide +kernel
theorem dX3_cutAnswers_17 : decode cX3_cutAnswers 17 = .ok (.iload_n 3, 1) := by decide +kernel
theorem dX3_cutAnswers_18 : decode cX3_cutAnswers 18 = .ok (.dup2, 1) := by decide +kernel
theorem dX3_cutAnswers_19 : decode cX3_cutAnswers 19 = .ok (.iaload, 1) := by decide +kernel
theorem dX3_cutAnswers_20 : decode cX3_cutAnswers 20 = .ok (.aload_n 0, 1) := by decide +kernel
theorem dX3_cutAnswers_21 : decode cX3_cutAnswers 21 = .ok (.getfield 15, 3) := by decide +kernel
theorem dX3_cutAnswers_24 : decode cX3_cutAnswers 24 = .ok (.iload_n 3, 1) := by decide +kernel
theorem dX3_cutAnswers_25 : decode cX3_cutAnswers 25 = .ok (.iaload, 1) := by decide +kernel
theorem dX3_cutAnswers_26 : decode cX3_cutAnswers 26 = .ok (.iload_n 2, 1) := by decide +kernel
theorem dX3_cutAnswers_27 : decode cX3_cutAnswers 27 = .ok (.irem, 1) := by decide +kernel
theorem dX3_cutAnswers_28 : decode cX3_cutAnswers 28 = .ok (.isub, 1) := by decide +kernel
theorem dX3_cutAnswers_29 : decode cX3_cutAnswers 29 = .ok (.iastore, 1) := by decide +kernel
theorem dX3_cutAnswers_30 : decode cX3_cutAnswers 30 = .ok (.iinc 3 1, 3) := by decide +kernel
theorem dX3_cutAnswers_33 : decode cX3_cutAnswers 33 = .ok (.goto (-25), 3) := by decide +kernel
theorem dX3_cutAnswers_36 : decode cX3_cutAnswers 36 = .ok (.return_, 1) := by decide +kernel
theorem dX3_seenIn_0 : decode cX3_seenIn 0 = .ok (.lconst 0, 1) := by decide +kernel
theorem dX3_seenIn_1 : decode cX3_seenIn 1 = .ok (.lstore_n 3, 1) := by decide +kernel
theorem dX3_seenIn_2 : decode cX3_seenIn 2 = .ok (.iconst 0, 1) := by decide +kernel
theorem dX3_seenIn_3 : decode cX3_seenIn 3 = .ok (.istore 5, 2) := by decide +kernel
theorem dX3_seenIn_5 : decode cX3_seenIn 5 = .ok (.iload 5, 2) := by decide +kernel
theorem dX3_seenIn_7 : decode cX3_seenIn 7 = .ok (.iload_n 2, 1) := by decide +kernel
theorem dX3_seenIn_8 : decode cX3_seenIn 8 = .ok (.if_icmp .ge 28, 3) := by decide +kernel
theorem dX3_seenIn_11 : decode cX3_seenIn 11 = .ok (.aload_n 1, 1) := by decide +kernel
theorem dX3_seenIn_12 : decode cX3_seenIn 12 = .ok (.iload 5, 2) := by decide +kernel
theorem dX3_seenIn_14 : decode cX3_seenIn 14 = .ok (.invokestatic 59, 3) := by decide +kernel
theorem dX3_seenIn_17 : decode cX3_seenIn 17 = .ok (.ifCond .eq 13, 3) := by decide +kernel
theorem dX3_seenIn_20 : decode cX3_seenIn 20 = .ok (.lload_n 3, 1) := by decide +kernel
theorem dX3_seenIn_21 : decode cX3_seenIn 21 = .ok (.aload_n 0, 1) := by decide +kernel
theorem dX3_seenIn_22 : decode cX3_seenIn 22 = .ok (.getfield 9, 3) := by decide +kernel
theorem dX3_seenIn_25 : decode cX3_seenIn 25 = .ok (.iload 5, 2) := by decide +kernel
theorem dX3_seenIn_27 : decode cX3_seenIn 27 = .ok (.laload, 1) := by decide +kernel
theorem dX3_seenIn_28 : decode cX3_seenIn 28 = .ok (.lor, 1) := by decide +kernel
theorem dX3_seenIn_29 : decode cX3_seenIn 29 = .ok (.lstore_n 3, 1) := by decide +kernel
theorem dX3_seenIn_30 : decode cX3_seenIn 30 = .ok (.iinc 5 1, 3) := by decide +kernel
theorem dX3_seenIn_33 : decode cX3_seenIn 33 = .ok (.goto (-28), 3) := by decide +kernel
theorem dX3_seenIn_36 : decode cX3_seenIn 36 = .ok (.lload_n 3, 1) := by decide +kernel
theorem dX3_seenIn_37 : decode cX3_seenIn 37 = .ok (.lreturn, 1) := by decide +kernel
theorem dX3_gatherCells_0 : decode cX3_gatherCells 0 = .ok (.aload_n 0, 1) := by decide +kernel
theorem dX3_gatherCells_1 : decode cX3_gatherCells 1 = .ok (.getfield 19, 3) := by decide +kernel
theorem dX3_gatherCells_4 : decode cX3_gatherCells 4 = .ok (.lconst 0, 1) := by decide +kernel
theorem dX3_gatherCells_5 : decode cX3_gatherCells 5 = .ok (.invokestatic 65, 3) := by decide +kernel
theorem dX3_gatherCells_8 : decode cX3_gatherCells 8 = .ok (.iconst 0, 1) := by decide +kernel
theorem dX3_gatherCells_9 : decode cX3_gatherCells 9 = .ok (.istore_n 3, 1) := by decide +kernel
theorem dX3_gatherCells_10 : decode cX3_gatherCells 10 = .ok (.iload_n 3, 1) := by decide +kernel
theorem dX3_gatherCells_11 : decode cX3_gatherCells 11 = .ok (.iload_n 2, 1) := by decide +kernel
theorem dX3_gatherCells_12 : decode cX3_gatherCells 12 = .ok (.if_icmp .ge 37, 3) := by decide +kernel
theorem dX3_gatherCells_15 : decode cX3_gatherCells 15 = .ok (.aload_n 1, 1) := by decide +kernel
theorem dX3_gatherCells_16 : decode cX3_gatherCells 16 = .ok (.iload_n 3, 1) := by decide +kernel
theorem dX3_gatherCells_17 : decode cX3_gatherCells 17 = .ok (.invokestatic 59, 3) := by decide +kernel
theorem dX3_gatherCells_20 : decode cX3_gatherCells 20 = .ok (.ifCond .eq 23, 3) := by decide +kernel
theorem dX3_gatherCells_23 : decode cX3_gatherCells 23 = .ok (.aload_n 0, 1) := by decide +kernel
theorem dX3_gatherCells_24 : decode cX3_gatherCells 24 = .ok (.getfield 19, 3) := by decide +kernel
theorem dX3_gatherCells_27 : decode cX3_gatherCells 27 = .ok (.aload_n 0, 1) := by decide +kernel
theorem dX3_gatherCells_28 : decode cX3_gatherCells 28 = .ok (.getfield 15, 3) := by decide +kernel
theorem dX3_gatherCells_31 : decode cX3_gatherCells 31 = .ok (.iload_n 3, 1) := by decide +kernel
theorem dX3_gatherCells_32 : decode cX3_gatherCells 32 = .ok (.iaload, 1) := by decide +kernel
theorem dX3_gatherCells_33 : decode cX3_gatherCells 33 = .ok (.dup2, 1) := by decide +kernel
theorem dX3_gatherCells_34 : decode cX3_gatherCells 34 = .ok (.laload, 1) := by decide +kernel
theorem dX3_gatherCells_35 : decode cX3_gatherCells 35 = .ok (.aload_n 0, 1) := by decide +kernel
theorem dX3_gatherCells_36 : decode cX3_gatherCells 36 = .ok (.getfield 9, 3) := by decide +kernel
theorem dX3_gatherCells_39 : decode cX3_gatherCells 39 = .ok (.iload_n 3, 1) := by decide +kernel
theorem dX3_gatherCells_40 : decode cX3_gatherCells 40 = .ok (.laload, 1) := by decide +kernel
theorem dX3_gatherCells_41 : decode cX3_gatherCells 41 = .ok (.lor, 1) := by decide +kernel
theorem dX3_gatherCells_42 : decode cX3_gatherCells 42 = .ok (.lastore, 1) := by decide +kernel
theorem dX3_gatherCells_43 : decode cX3_gatherCells 43 = .ok (.iinc 3 1, 3) := by decide +kernel
theorem dX3_gatherCells_46 : decode cX3_gatherCells 46 = .ok (.goto (-36), 3) := by decide +kernel
theorem dX3_gatherCells_49 : decode cX3_gatherCells 49 = .ok (.return_, 1) := by decide +kernel
theorem dX3_cellsUsed_0 : decode cX3_cellsUsed 0 = .ok (.iconst 0, 1) := by decide +kernel
theorem dX3_cellsUsed_1 : decode cX3_cellsUsed 1 = .ok (.istore_n 1, 1) := by decide +kernel
theorem dX3_cellsUsed_2 : decode cX3_cellsUsed 2 = .ok (.iconst 0, 1) := by decide +kernel
theorem dX3_cellsUsed_3 : decode cX3_cellsUsed 3 = .ok (.istore_n 2, 1) := by decide +kernel
theorem dX3_cellsUsed_4 : decode cX3_cellsUsed 4 = .ok (.iload_n 2, 1) := by decide +kernel
theorem dX3_cellsUsed_5 : decode cX3_cellsUsed 5 = .ok (.bipush 64, 2) := by decide +kernel
theorem dX3_cellsUsed_7 : decode cX3_cellsUsed 7 = .ok (.if_icmp .ge 23, 3) := by decide +kernel
theorem dX3_cellsUsed_10 : decode cX3_cellsUsed 10 = .ok (.aload_n 0, 1) := by decide +kernel
theorem dX3_cellsUsed_11 : decode cX3_cellsUsed 11 = .ok (.getfield 19, 3) := by decide +kernel
theorem dX3_cellsUsed_14 : decode cX3_cellsUsed 14 = .ok (.iload_n 2, 1) := by decide +kernel
theorem dX3_cellsUsed_15 : decode cX3_cellsUsed 15 = .ok (.laload, 1) := by decide +kernel
theorem dX3_cellsUsed_16 : decode cX3_cellsUsed 16 = .ok (.lconst 0, 1) := by decide +kernel
theorem dX3_cellsUsed_17 : decode cX3_cellsUsed 17 = .ok (.lcmp, 1) := by decide +kernel
theorem dX3_cellsUsed_18 : decode cX3_cellsUsed 18 = .ok (.ifCond .eq 6, 3) := by decide +kernel
theorem dX3_cellsUsed_21 : decode cX3_cellsUsed 21 = .ok (.iinc 1 1, 3) := by decide +kernel
theorem dX3_cellsUsed_24 : decode cX3_cellsUsed 24 = .ok (.iinc 2 1, 3) := by decide +kernel
theorem dX3_cellsUsed_27 : decode cX3_cellsUsed 27 = .ok (.goto (-23), 3) := by decide +kernel
theorem dX3_cellsUsed_30 : decode cX3_cellsUsed 30 = .ok (.iload_n 1, 1) := by decide +kernel
theorem dX3_cellsUsed_31 : decode cX3_cellsUsed 31 = .ok (.ireturn, 1) := by decide +kernel
theorem dX3_areCellsSafe_0 : decode cX3_areCellsSafe 0 = .ok (.iconst 0, 1) := by decide +kernel
theorem dX3_areCellsSafe_1 : decode cX3_areCellsSafe 1 = .ok (.istore_n 2, 1) := by decide +kernel
theorem dX3_areCellsSafe_2 : decode cX3_areCellsSafe 2 = .ok (.iload_n 2, 1) := by decide +kernel
theorem dX3_areCellsSafe_3 : decode cX3_areCellsSafe 3 = .ok (.bipush 64, 2) := by decide +kernel
theorem dX3_areCellsSafe_5 : decode cX3_areCellsSafe 5 = .ok (.if_icmp .ge 35, 3) := by decide +kernel
theorem dX3_areCellsSafe_8 : decode cX3_areCellsSafe 8 = .ok (.aload_n 0, 1) := by decide +kernel
theorem dX3_areCellsSafe_9 : decode cX3_areCellsSafe 9 = .ok (.getfield 19, 3) := by decide +kernel
theorem dX3_areCellsSafe_12 : decode cX3_areCellsSafe 12 = .ok (.iload_n 2, 1) := by decide +kernel
theorem dX3_areCellsSafe_13 : decode cX3_areCellsSafe 13 = .ok (.laload, 1) := by decide +kernel
theorem dX3_areCellsSafe_14 : decode cX3_areCellsSafe 14 = .ok (.lconst 0, 1) := by decide +kernel
theorem dX3_areCellsSafe_15 : decode cX3_areCellsSafe 15 = .ok (.lcmp, 1) := by decide +kernel
theorem dX3_areCellsSafe_16 : decode cX3_areCellsSafe 16 = .ok (.ifCond .eq 18, 3) := by decide +kernel
theorem dX3_areCellsSafe_19 : decode cX3_areCellsSafe 19 = .ok (.aload_n 1, 1) := by decide +kernel
theorem dX3_areCellsSafe_20 : decode cX3_areCellsSafe 20 = .ok (.aload_n 0, 1) := by decide +kernel
theorem dX3_areCellsSafe_21 : decode cX3_areCellsSafe 21 = .ok (.getfield 19, 3) := by decide +kernel
theorem dX3_areCellsSafe_24 : decode cX3_areCellsSafe 24 = .ok (.iload_n 2, 1) := by decide +kernel
theorem dX3_areCellsSafe_25 : decode cX3_areCellsSafe 25 = .ok (.laload, 1) := by decide +kernel
theorem dX3_areCellsSafe_26 : decode cX3_areCellsSafe 26 = .ok (.invokevirtual 71, 3) := by decide +kernel
theorem dX3_areCellsSafe_29 : decode cX3_areCellsSafe 29 = .ok (.ifCond .ne 5, 3) := by decide +kernel
theorem dX3_areCellsSafe_32 : decode cX3_areCellsSafe 32 = .ok (.iconst 0, 1) := by decide +kernel
theorem dX3_areCellsSafe_33 : decode cX3_areCellsSafe 33 = .ok (.ireturn, 1) := by decide +kernel
theorem dX3_areCellsSafe_34 : decode cX3_areCellsSafe 34 = .ok (.iinc 2 1, 3) := by decide +kernel
theorem dX3_areCellsSafe_37 : decode cX3_areCellsSafe 37 = .ok (.goto (-35), 3) := by decide +kernel
theorem dX3_areCellsSafe_40 : decode cX3_areCellsSafe 40 = .ok (.iconst 1, 1) := by decide +kernel
theorem dX3_areCellsSafe_41 : decode cX3_areCellsSafe 41 = .ok (.ireturn, 1) := by decide +kernel
theorem dX4_init_0 : decode cX4_init 0 = .ok (.aload_n 0, 1) := by decide +kernel
theorem dX4_init_1 : decode cX4_init 1 = .ok (.invokespecial 3, 3) := by decide +kernel
theorem dX4_init_4 : decode cX4_init 4 = .ok (.aload_n 0, 1) := by decide +kernel
theorem dX4_init_5 : decode cX4_init 5 = .ok (.sipush 4096, 3) := by decide +kernel
theorem dX4_init_8 : decode cX4_init 8 = .ok (.newarray .long, 2) := by decide +kernel
theorem dX4_init_10 : decode cX4_init 10 = .ok (.putfield 9, 3) := by decide +kernel
theorem dX4_init_13 : decode cX4_init 13 = .ok (.aload_n 0, 1) := by decide +kernel
theorem dX4_init_14 : decode cX4_init 14 = .ok (.sipush 4096, 3) := by decide +kernel
theorem dX4_init_17 : decode cX4_init 17 = .ok (.newarray .int, 2) := by decide +kernel
theorem dX4_init_19 : decode cX4_init 19 = .ok (.putfield 15, 3) := by decide +kernel
theorem dX4_init_22 : decode cX4_init 22 = .ok (.aload_n 0, 1) := by decide +kernel
theorem dX4_init_23 : decode cX4_init 23 = .ok (.sipush 4096, 3) := by decide +kernel
theorem dX4_init_26 : decode cX4_init 26 = .ok (.newarray .int, 2) := by decide +kernel
theorem dX4_init_28 : decode cX4_init 28 = .ok (.putfield 19, 3) := by decide +kernel
theorem dX4_init_31 : decode cX4_init 31 = .ok (.aload_n 0, 1) := by decide +kernel
theorem dX4_init_32 : decode cX4_init 32 = .ok (.bipush 65, 2) := by decide +kernel
theorem dX4_init_34 : decode cX4_init 34 = .ok (.newarray .int, 2) := by decide +kernel
theorem dX4_init_36 : decode cX4_init 36 = .ok (.putfield 22, 3) := by decide +kernel
theorem dX4_init_39 : decode cX4_init 39 = .ok (.aload_n 0, 1) := by decide +kernel
theorem dX4_init_40 : decode cX4_init 40 = .ok (.aconst_null, 1) := by decide +kernel
theorem dX4_init_41 : decode cX4_init 41 = .ok (.putfield 25, 3) := by decide +kernel
theorem dX4_init_44 : decode cX4_init 44 = .ok (.aload_n 0, 1) := by decide +kernel
theorem dX4_init_45 : decode cX4_init 45 = .ok (.aconst_null, 1) := by decide +kernel
theorem dX4_init_46 : decode cX4_init 46 = .ok (.putfield 29, 3) := by decide +kernel
theorem dX4_init_49 : decode cX4_init 49 = .ok (.aload_n 0, 1) := by decide +kernel
theorem dX4_init_50 : decode cX4_init 50 = .ok (.iconst 0, 1) := by decide +kernel
theorem dX4_init_51 : decode cX4_init 51 = .ok (.putfield 32, 3) := by decide +kernel
theorem dX4_init_54 : decode cX4_init 54 = .ok (.return_, 1) := by decide +kernel
theorem dX4_begin_0 : decode cX4_begin 0 = .ok (.aload_n 0, 1) := by decide +kernel
theorem dX4_begin_1 : decode cX4_begin 1 = .ok (.aload_n 1, 1) := by decide +kernel
theorem dX4_begin_2 : decode cX4_begin 2 = .ok (.putfield 25, 3) := by decide +kernel
theorem dX4_begin_5 : decode cX4_begin 5 = .ok (.aload_n 0, 1) := by decide +kernel
theorem dX4_begin_6 : decode cX4_begin 6 = .ok (.aload_n 2, 1) := by decide +kernel
theorem dX4_begin_7 : decode cX4_begin 7 = .ok (.putfield 29, 3) := by decide +kernel
theorem dX4_begin_10 : decode cX4_begin 10 = .ok (.aload_n 0, 1) := by decide +kernel
theorem dX4_begin_11 : decode cX4_begin 11 = .ok (.iconst 0, 1) := by decide +kernel
theorem dX4_begin_12 : decode cX4_begin 12 = .ok (.putfield 32, 3) := by decide +kernel
theorem dX4_begin_15 : decode cX4_begin 15 = .ok (.iconst 0, 1) := by decide +kernel
theorem dX4_begin_16 : decode cX4_begin 16 = .ok (.istore 4, 2) := by decide +kernel
theorem dX4_begin_18 : decode cX4_begin 18 = .ok (.iload 4, 2) := by decide +kernel
theorem dX4_begin_20 : decode cX4_begin 20 = .ok (.aload_n 1, 1) := by decide +kernel
theorem dX4_begin_21 : decode cX4_begin 21 = .ok (.getfield 36, 3) := by decide +kernel
theorem dX4_begin_24 : decode cX4_begin 24 = .ok (.if_icmp .ge 47, 3) := by decide +kernel
theorem dX4_begin_27 : decode cX4_begin 27 = .ok (.aload_n 3, 1) := by decide +kernel
theorem dX4_begin_28 : decode cX4_begin 28 = .ok (.iload 4, 2) := by decide +kernel
theorem dX4_begin_30 : decode cX4_begin 30 = .ok (.invokestatic 41, 3) := by decide +kernel
theorem dX4_begin_33 : decode cX4_begin 33 = .ok (.ifCond .eq 32, 3) := by decide +kernel
theorem dX4_begin_36 : decode cX4_begin 36 = .ok (.aload_n 0, 1) := by decide +kernel
theorem dX4_begin_37 : decode cX4_begin 37 = .ok (.getfield 9, 3) := by decide +kernel
theorem dX4_begin_40 : decode cX4_begin 40 = .ok (.iload 4, 2) := by decide +kernel
theorem dX4_begin_42 : decode cX4_begin 42 = .ok (.lconst 0, 1) := by decide +kernel
theorem dX4_begin_43 : decode cX4_begin 43 = .ok (.lastore, 1) := by decide +kernel
theorem dX4_begin_44 : decode cX4_begin 44 = .ok (.aload_n 0, 1) := by decide +kernel
theorem dX4_begin_45 : decode cX4_begin 45 = .ok (.getfield 15, 3) := by decide +kernel
theorem dX4_begin_48 : decode cX4_begin 48 = .ok (.aload_n 0, 1) := by decide +kernel
theorem dX4_begin_49 : decode cX4_begin 49 = .ok (.getfield 32, 3) := by decide +kernel
theorem dX4_begin_52 : decode cX4_begin 52 = .ok (.iload 4, 2) := by decide +kernel
theorem dX4_begin_54 : decode cX4_begin 54 = .ok (.iastore, 1) := by decide +kernel
theorem dX4_begin_55 : decode cX4_begin 55 = .ok (.aload_n 0, 1) := by decide +kernel
theorem dX4_begin_56 : decode cX4_begin 56 = .ok (.dup, 1) := by decide +kernel
theorem dX4_begin_57 : decode cX4_begin 57 = .ok (.getfield 32, 3) := by decide +kernel
theorem dX4_begin_60 : decode cX4_begin 60 = .ok (.iconst 1, 1) := by decide +kernel
theorem dX4_begin_61 : decode cX4_begin 61 = .ok (.iadd, 1) := by decide +kernel
theorem dX4_begin_62 : decode cX4_begin 62 = .ok (.putfield 32, 3) := by decide +kernel
theorem dX4_begin_65 : decode cX4_begin 65 = .ok (.iinc 4 1, 3) := by decide +kernel
theorem dX4_begin_68 : decode cX4_begin 68 = .ok (.goto (-50), 3) := by decide +kernel
theorem dX4_begin_71 : decode cX4_begin 71 = .ok (.return_, 1) := by decide +kernel
theorem dX4_addAnswers_0 : decode cX4_addAnswers 0 = .ok (.iconst 0, 1) := by decide +kernel
theorem dX4_addAnswers_1 : decode cX4_addAnswers 1 = .ok (.istore_n 3, 1) := by decide +kernel
theorem dX4_addAnswers_2 : decode cX4_addAnswers 2 = .ok (.iload_n 3, 1) := by decide +kernel
theorem dX4_addAnswers_3 : decode cX4_addAnswers 3 = .ok (.aload_n 0, 1) := by decide +kernel
theorem dX4_addAnswers_4 : decode cX4_addAnswers 4 = .ok (.getfield 32, 3) := by decide +kernel
theorem dX4_addAnswers_7 : decode cX4_addAnswers 7 = .ok (.if_icmp .ge 37, 3) := by decide +kernel
theorem dX4_addAnswers_10 : decode cX4_addAnswers 10 = .ok (.aload_n 0, 1) := by decide +kernel
theorem dX4_addAnswers_11 : decode cX4_addAnswers 11 = .ok (.getfield 15, 3) := by decide +kernel
theorem dX4_addAnswers_14 : decode cX4_addAnswers 14 = .ok (.iload_n 3, 1) := by decide +kernel
theorem dX4_addAnswers_15 : decode cX4_addAnswers 15 = .ok (.iaload, 1) := by decide +kernel
theorem dX4_addAnswers_16 : decode cX4_addAnswers 16 = .ok (.istore 4, 2) := by decide +kernel
theorem dX4_addAnswers_18 : decode cX4_addAnswers 18 = .ok (.aload_n 0, 1) := by decide +kernel
theorem dX4_addAnswers_19 : decode cX4_addAnswers 19 = .ok (.getfield 9, 3) := by decide +kernel
theorem dX4_addAnswers_22 : decode cX4_addAnswers 22 = .ok (.iload 4, 2) := by decide +kernel
theorem dX4_addAnswers_24 : decode cX4_addAnswers 24 = .ok (.dup2, 1) := by decide +kernel
theorem dX4_addAnswers_25 : decode cX4_addAnswers 25 = .ok (.laload, 1) := by decide +kernel
theorem dX4_addAnswers_26 : decode cX4_addAnswers 26 = .ok (.aload_n 2, 1) := by decide +kernel
theorem dX4_addAnswers_27 : decode cX4_addAnswers 27 = .ok (.iload 4, 2) := by decide +kernel
theorem dX4_addAnswers_29 : decode cX4_addAnswers 29 = .ok (.iaload, 1) := by decide +kernel
theorem dX4_addAnswers_30 : decode cX4_addAnswers 30 = .ok (.i2l, 1) := by decide +kernel
theorem dX4_addAnswers_31 : decode cX4_addAnswers 31 = .ok (.iload_n 1, 1) := by decide +kernel
theorem dX4_addAnswers_32 : decode cX4_addAnswers 32 = .ok (.bipush 6, 2) := by decide +kernel
theorem dX4_addAnswers_34 : decode cX4_addAnswers 34 = .ok (.imul, 1) := by decide +kernel
theorem dX4_addAnswers_35 : decode cX4_addAnswers 35 = .ok (.lshl, 1) := by decide +kernel
theorem dX4_addAnswers_36 : decode cX4_addAnswers 36 = .ok (.lor, 1) := by decide +kernel
theorem dX4_addAnswers_37 : decode cX4_addAnswers 37 = .ok (.lastore, 1) := by decide +kernel
theorem dX4_addAnswers_38 : decode cX4_addAnswers 38 = .ok (.iinc 3 1, 3) := by decide +kernel
theorem dX4_addAnswers_41 : decode cX4_addAnswers 41 = .ok (.goto (-39), 3) := by decide +kernel
theorem dX4_addAnswers_44 : decode cX4_addAnswers 44 = .ok (.return_, 1) := by decide +kernel
theorem dX4_answerTo_0 : decode cX4_answerTo 0 = .ok (.aload_n 0, 1) := by decide +kernel
theorem dX4_answerTo_1 : decode cX4_answerTo 1 = .ok (.getfield 9, 3) := by decide +kernel
theorem dX4_answerTo_4 : decode cX4_answerTo 4 = .ok (.iload_n 2, 1) := by decide +kernel
theorem dX4_answerTo_5 : decode cX4_answerTo 5 = .ok (.laload, 1) := by decide +kernel
theorem dX4_answerTo_6 : decode cX4_answerTo 6 = .ok (.iload_n 1, 1) := by decide +kernel
theorem dX4_answerTo_7 : decode cX4_answerTo 7 = .ok (.bipush 6, 2) := by decide +kernel
theorem dX4_answerTo_9 : decode cX4_answerTo 9 = .ok (.imul, 1) := by decide +kernel
theorem dX4_answerTo_10 : decode cX4_answerTo 10 = .ok (.lushr, 1) := by decide +kernel
theorem dX4_answerTo_11 : decode cX4_answerTo 11 = .ok (.l2i, 1) := by decide +kernel
theorem dX4_answerTo_12 : decode cX4_answerTo 12 = .ok (.bipush 63, 2) := by decide +kernel
theorem dX4_answerTo_14 : decode cX4_answerTo 14 = .ok (.iand, 1) := by decide +kernel
theorem dX4_answerTo_15 : decode cX4_answerTo 15 = .ok (.ireturn, 1) := by decide +kernel
theorem dX4_isGranted_0 : decode cX4_isGranted 0 = .ok (.iconst 0, 1) := by decide +kernel
theorem dX4_isGranted_1 : decode cX4_isGranted 1 = .ok (.istore_n 2, 1) := by decide +kernel
theorem dX4_isGranted_2 : decode cX4_isGranted 2 = .ok (.iload_n 2, 1) := by decide +kernel
theorem dX4_isGranted_3 : decode cX4_isGranted 3 = .ok (.bipush 8, 2) := by decide +kernel
theorem dX4_isGranted_5 : decode cX4_isGranted 5 = .ok (.if_icmp .ge 22, 3) := by decide +kernel
theorem dX4_isGranted_8 : decode cX4_isGranted 8 = .ok (.iload_n 1, 1) := by decide +kernel
theorem dX4_isGranted_9 : decode cX4_isGranted 9 = .ok (.iload_n 2, 1) := by decide +kernel
theorem dX4_isGranted_10 : decode cX4_isGranted 10 = .ok (.invokestatic 47, 3) := by decide +kernel
theorem dX4_isGranted_13 : decode cX4_isGranted 13 = .ok (.ifCond .eq 8, 3) := by decide +kernel
theorem dX4_isGranted_16 : decode cX4_isGranted 16 = .ok (.aload_n 0, 1) := by decide +kernel
theorem dX4_isGranted_17 : decode cX4_isGranted 17 = .ok (.iload_n 2, 1) := by decide +kernel
theorem dX4_isGranted_18 : decode cX4_isGranted 18 = .ok (.invokevirtual 51, 3) := by decide +kernel
theorem dX4_isGranted_21 : decode cX4_isGranted 21 = .ok (.iinc 2 1, 3) := by decide +kernel
theorem dX4_isGranted_24 : decode cX4_isGranted 24 = .ok (.goto (-22), 3) := by decide +kernel
theorem dX4_isGranted_27 : decode cX4_isGranted 27 = .ok (.aload_n 0, 1) := by decide +kernel
theorem dX4_isGranted_28 : decode cX4_isGranted 28 = .ok (.iload_n 1, 1) := by decide +kernel
theorem dX4_isGranted_29 : decode cX4_isGranted 29 = .ok (.invokestatic 55, 3) := by decide +kernel
theorem dX4_isGranted_32 : decode cX4_isGranted 32 = .ok (.invokevirtual 59, 3) := by decide +kernel
theorem dX4_isGranted_35 : decode cX4_isGranted 35 = .ok (.ireturn, 1) := by decide +kernel
theorem dX4_sortBy_0 : decode cX4_sortBy 0 = .ok (.aload_n 0, 1) := by decide +kernel
theorem dX4_sortBy_1 : decode cX4_sortBy 1 = .ok (.getfield 22, 3) := by decide +kernel
theorem dX4_sortBy_4 : decode cX4_sortBy 4 = .ok (.iconst 0, 1) := by decide +kernel
theorem dX4_sortBy_5 : decode cX4_sortBy 5 = .ok (.invokestatic 63, 3) := by decide +kernel
theorem dX4_sortBy_8 : decode cX4_sortBy 8 = .ok (.iconst 0, 1) := by decide +kernel
theorem dX4_sortBy_9 : decode cX4_sortBy 9 = .ok (.istore_n 2, 1) := by decide +kernel
theorem dX4_sortBy_10 : decode cX4_sortBy 10 = .ok (.iload_n 2, 1) := by decide +kernel
theorem dX4_sortBy_11 : decode cX4_sortBy 11 = .ok (.aload_n 0, 1) := by decide +kernel
theorem dX4_sortBy_12 : decode cX4_sortBy 12 = .ok (.getfield 32, 3) := by decide +kernel
theorem dX4_sortBy_15 : decode cX4_sortBy 15 = .ok (.if_icmp .ge 31, 3) := by decide +kernel
theorem dX4_sortBy_18 : decode cX4_sortBy 18 = .ok (.aload_n 0, 1) := by decide +kernel
theorem dX4_sortBy_19 : decode cX4_sortBy 19 = .ok (.getfield 22, 3) := by decide +kernel
theorem dX4_sortBy_22 : decode cX4_sortBy 22 = .ok (.aload_n 0, 1) := by decide +kernel
theorem dX4_sortBy_23 : decode cX4_sortBy 23 = .ok (.iload_n 1, 1) := by decide +kernel
theorem dX4_sortBy_24 : decode cX4_sortBy 24 = .ok (.aload_n 0, 1) := by decide +kernel
theorem dX4_sortBy_25 : decode cX4_sortBy 25 = .ok (.getfield 15, 3) := by decide +kernel
theorem dX4_sortBy_28 : decode cX4_sortBy 28 = .ok (.iload_n 2, 1) := by decide +kernel
theorem dX4_sortBy_29 : decode cX4_sortBy 29 = .ok (.iaload, 1) := by decide +kernel
theorem dX4_sortBy_30 : decode cX4_sortBy 30 = .ok (.invokevirtual 69, 3) := by decide +kernel
theorem dX4_sortBy_33 : decode cX4_sortBy 33 = .ok (.iconst 1, 1) := by decide +kernel
theorem dX4_sortBy_34 : decode cX4_sortBy 34 = .ok (.iadd, 1) := by decide +kernel
theorem dX4_sortBy_35 : decode cX4_sortBy 35 = .ok (.dup2, 1) := by decide +kernel
theorem dX4_sortBy_36 : decode cX4_sortBy 36 = .ok (.iaload, 1) := by decide +kernel
theorem dX4_sortBy_37 : decode cX4_sortBy 37 = .ok (.iconst 1, 1) := by decide +kernel
theorem dX4_sortBy_38 : decode cX4_sortBy 38 = .ok (.iadd, 1) := by decide +kernel
theorem dX4_sortBy_39 : decode cX4_sortBy 39 = .ok (.iastore, 1) := by decide +kernel
theorem dX4_sortBy_40 : decode cX4_sortBy 40 = .ok (.iinc 2 1, 3) := by decide +kernel
theorem dX4_sortBy_43 : decode cX4_sortBy 43 = .ok (.goto (-33), 3) := by decide +kernel
theorem dX4_sortBy_46 : decode cX4_sortBy 46 = .ok (.iconst 1, 1) := by decide +kernel
theorem dX4_sortBy_47 : decode cX4_sortBy 47 = .ok (.istore_n 2, 1) := by decide +kernel
theorem dX4_sortBy_48 : decode cX4_sortBy 48 = .ok (.iload_n 2, 1) := by decide +kernel
theorem dX4_sortBy_49 : decode cX4_sortBy 49 = .ok (.bipush 64, 2) := by decide +kernel
theorem dX4_sortBy_51 : decode cX4_sortBy 51 = .ok (.if_icmp .gt 26, 3) := by decide +kernel
theorem dX4_sortBy_54 : decode cX4_sortBy 54 = .ok (.aload_n 0, 1) := by decide +kernel
theorem dX4_sortBy_55 : decode cX4_sortBy 55 = .ok (.getfield 22, 3) := by decide +kernel
theorem dX4_sortBy_58 : decode cX4_sortBy 58 = .ok (.iload_n 2, 1) := by decide +kernel
theorem dX4_sortBy_59 : decode cX4_sortBy 59 = .ok (.dup2, 1) := by decide +kernel
theorem dX4_sortBy_60 : decode cX4_sortBy 60 = .ok (.iaload, 1) := by decide +kernel
theorem dX4_sortBy_61 : decode cX4_sortBy 61 = .ok (.aload_n 0, 1) := by decide +kernel
theorem dX4_sortBy_62 : decode cX4_sortBy 62 = .ok (.getfield 22, 3) := by decide +kernel
theorem dX4_sortBy_65 : decode cX4_sortBy 65 = .ok (.iload_n 2, 1) := by decide +kernel
theorem dX4_sortBy_66 : decode cX4_sortBy 66 = .ok (.iconst 1, 1) := by decide +kernel
theorem dX4_sortBy_67 : decode cX4_sortBy 67 = .ok (.isub, 1) := by decide +kernel
theorem dX4_sortBy_68 : decode cX4_sortBy 68 = .ok (.iaload, 1) := by decide +kernel
theorem dX4_sortBy_69 : decode cX4_sortBy 69 = .ok (.iadd, 1) := by decide +kernel
theorem dX4_sortBy_70 : decode cX4_sortBy 70 = .ok (.iastore, 1) := by decide +kernel
theorem dX4_sortBy_71 : decode cX4_sortBy 71 = .ok (.iinc 2 1, 3) := by decide +kernel
theorem dX4_sortBy_74 : decode cX4_sortBy 74 = .ok (.goto (-26), 3) := by decide +kernel
theorem dX4_sortBy_77 : decode cX4_sortBy 77 = .ok (.iconst 0, 1) := by decide +kernel
theorem dX4_sortBy_78 : decode cX4_sortBy 78 = .ok (.istore_n 2, 1) := by decide +kernel
theorem dX4_sortBy_79 : decode cX4_sortBy 79 = .ok (.iload_n 2, 1) := by decide +kernel
theorem dX4_sortBy_80 : decode cX4_sortBy 80 = .ok (.aload_n 0, 1) := by decide +kernel
theorem dX4_sortBy_81 : decode cX4_sortBy 81 = .ok (.getfield 32, 3) := by decide +kernel
theorem dX4_sortBy_84 : decode cX4_sortBy 84 = .ok (.if_icmp .ge 48, 3) := by decide +kernel
theorem dX4_sortBy_87 : decode cX4_sortBy 87 = .ok (.aload_n 0, 1) := by decide +kernel
theorem dX4_sortBy_88 : decode cX4_sortBy 88 = .ok (.iload_n 1, 1) := by decide +kernel
theorem dX4_sortBy_89 : decode cX4_sortBy 89 = .ok (.aload_n 0, 1) := by decide +kernel
theorem dX4_sortBy_90 : decode cX4_sortBy 90 = .ok (.getfield 15, 3) := by decide +kernel
theorem dX4_sortBy_93 : decode cX4_sortBy 93 = .ok (.iload_n 2, 1) := by decide +kernel
theorem dX4_sortBy_94 : decode cX4_sortBy 94 = .ok (.iaload, 1) := by decide +kernel
theorem dX4_sortBy_95 : decode cX4_sortBy 95 = .ok (.invokevirtual 69, 3) := by decide +kernel
theorem dX4_sortBy_98 : decode cX4_sortBy 98 = .ok (.istore_n 3, 1) := by decide +kernel
theorem dX4_sortBy_99 : decode cX4_sortBy 99 = .ok (.aload_n 0, 1) := by decide +kernel
theorem dX4_sortBy_100 : decode cX4_sortBy 100 = .ok (.getfield 19, 3) := by decide +kernel
theorem dX4_sortBy_103 : decode cX4_sortBy 103 = .ok (.aload_n 0, 1) := by decide +kernel
theorem dX4_sortBy_104 : decode cX4_sortBy 104 = .ok (.getfield 22, 3) := by decide +kernel
theorem dX4_sortBy_107 : decode cX4_sortBy 107 = .ok (.iload_n 3, 1) := by decide +kernel
theorem dX4_sortBy_108 : decode cX4_sortBy 108 = .ok (.iaload, 1) := by decide +kernel
theorem dX4_sortBy_109 : decode cX4_sortBy 109 = .ok (.aload_n 0, 1) := by decide +kernel
theorem dX4_sortBy_110 : decode cX4_sortBy 110 = .ok (.getfield 15, 3) := by decide +kernel
theorem dX4_sortBy_113 : decode cX4_sortBy 113 = .ok (.iload_n 2, 1) := by decide +kernel
theorem dX4_sortBy_114 : decode cX4_sortBy 114 = .ok (.iaload, 1) := by decide +kernel
theorem dX4_sortBy_115 : decode cX4_sortBy 115 = .ok (.iastore, 1) := by decide +kernel
theorem dX4_sortBy_116 : decode cX4_sortBy 116 = .ok (.aload_n 0, 1) := by decide +kernel
theorem dX4_sortBy_117 : decode cX4_sortBy 117 = .ok (.getfield 22, 3) := by decide +kernel
theorem dX4_sortBy_120 : decode cX4_sortBy 120 = .ok (.iload_n 3, 1) := by decide +kernel
theorem dX4_sortBy_121 : decode cX4_sortBy 121 = .ok (.dup2, 1) := by decide +kernel
theorem dX4_sortBy_122 : decode cX4_sortBy 122 = .ok (.iaload, 1) := by decide +kernel
theorem dX4_sortBy_123 : decode cX4_sortBy 123 = .ok (.iconst 1, 1) := by decide +kernel
theorem dX4_sortBy_124 : decode cX4_sortBy 124 = .ok (.iadd, 1) := by decide +kernel
theorem dX4_sortBy_125 : decode cX4_sortBy 125 = .ok (.iastore, 1) := by decide +kernel
theorem dX4_sortBy_126 : decode cX4_sortBy 126 = .ok (.iinc 2 1, 3) := by decide +kernel
theorem dX4_sortBy_129 : decode cX4_sortBy 129 = .ok (.goto (-50), 3) := by decide +kernel
theorem dX4_sortBy_132 : decode cX4_sortBy 132 = .ok (.aload_n 0, 1) := by decide +kernel
theorem dX4_sortBy_133 : decode cX4_sortBy 133 = .ok (.getfield 19, 3) := by decide +kernel
theorem dX4_sortBy_136 : decode cX4_sortBy 136 = .ok (.astore_n 2, 1) := by decide +kernel
theorem dX4_sortBy_137 : decode cX4_sortBy 137 = .ok (.aload_n 0, 1) := by decide +kernel
theorem dX4_sortBy_138 : decode cX4_sortBy 138 = .ok (.aload_n 0, 1) := by decide +kernel
theorem dX4_sortBy_139 : decode cX4_sortBy 139 = .ok (.getfield 15, 3) := by decide +kernel
theorem dX4_sortBy_142 : decode cX4_sortBy 142 = .ok (.putfield 19, 3) := by decide +kernel
theorem dX4_sortBy_145 : decode cX4_sortBy 145 = .ok (.aload_n 0, 1) := by decide +kernel
theorem dX4_sortBy_146 : decode cX4_sortBy 146 = .ok (.aload_n 2, 1) := by decide +kernel
theorem dX4_sortBy_147 : decode cX4_sortBy 147 = .ok (.putfield 15, 3) := by decide +kernel
theorem dX4_sortBy_150 : decode cX4_sortBy 150 = .ok (.return_, 1) := by decide +kernel
theorem dX4_areCellsSafe_0 : decode cX4_areCellsSafe 0 = .ok (.aload_n 0, 1) := by decide +kernel
theorem dX4_areCellsSafe_1 : decode cX4_areCellsSafe 1 = .ok (.getfield 25, 3) := by decide +kernel
theorem dX4_areCellsSafe_4 : decode cX4_areCellsSafe 4 = .ok (.ifnull 10, 3) := by decide +kernel
theorem dX4_areCellsSafe_7 : decode cX4_areCellsSafe 7 = .ok (.aload_n 0, 1) := by decide +kernel
theorem dX4_areCellsSafe_8 : decode cX4_areCellsSafe 8 = .ok (.getfield 29, 3) := by decide +kernel
theorem dX4_areCellsSafe_11 : decode cX4_areCellsSafe 11 = .ok (.ifnonnull 5, 3) := by decide +kernel
theorem dX4_areCellsSafe_14 : decode cX4_areCellsSafe 14 = .ok (.iconst 0, 1) := by decide +kernel
theorem dX4_areCellsSafe_15 : decode cX4_areCellsSafe 15 = .ok (.ireturn, 1) := by decide +kernel
theorem dX4_areCellsSafe_16 : decode cX4_areCellsSafe 16 = .ok (.lconst 0, 1) := by decide +kernel
theorem dX4_areCellsSafe_17 : decode cX4_areCellsSafe 17 = .ok (.lstore_n 3, 1) := by decide +kernel
theorem dX4_areCellsSafe_18 : decode cX4_areCellsSafe 18 = .ok (.iconst 0, 1) := by decide +kernel
theorem dX4_areCellsSafe_19 : decode cX4_areCellsSafe 19 = .ok (.istore 5, 2) := by decide +kernel
theorem dX4_areCellsSafe_21 : decode cX4_areCellsSafe 21 = .ok (.iload 5, 2) := by decide +kernel
theorem dX4_areCellsSafe_23 : decode cX4_areCellsSafe 23 = .ok (.aload_n 0, 1) := by decide +kernel
theorem dX4_areCellsSafe_24 : decode cX4_areCellsSafe 24 = .ok (.getfield 32, 3) := by decide +kernel
theorem dX4_areCellsSafe_27 : decode cX4_areCellsSafe 27 = .ok (.if_icmp .ge 100, 3) := by decide +kernel
theorem dX4_areCellsSafe_30 : decode cX4_areCellsSafe 30 = .ok (.aload_n 0, 1) := by decide +kernel
theorem dX4_areCellsSafe_31 : decode cX4_areCellsSafe 31 = .ok (.getfield 15, 3) := by decide +kernel
theorem dX4_areCellsSafe_34 : decode cX4_areCellsSafe 34 = .ok (.iload 5, 2) := by decide +kernel
theorem dX4_areCellsSafe_36 : decode cX4_areCellsSafe 36 = .ok (.iaload, 1) := by decide +kernel
theorem dX4_areCellsSafe_37 : decode cX4_areCellsSafe 37 = .ok (.istore 6, 2) := by decide +kernel
theorem dX4_areCellsSafe_39 : decode cX4_areCellsSafe 39 = .ok (.lload_n 3, 1) := by decide +kernel
theorem dX4_areCellsSafe_40 : decode cX4_areCellsSafe 40 = .ok (.aload_n 0, 1) := by decide +kernel
theorem dX4_areCellsSafe_41 : decode cX4_areCellsSafe 41 = .ok (.getfield 29, 3) := by decide +kernel
theorem dX4_areCellsSafe_44 : decode cX4_areCellsSafe 44 = .ok (.iload 6, 2) := by decide +kernel
theorem dX4_areCellsSafe_46 : decode cX4_areCellsSafe 46 = .ok (.laload, 1) := by decide +kernel
theorem dX4_areCellsSafe_47 : decode cX4_areCellsSafe 47 = .ok (.lor, 1) := by decide +kernel
theorem dX4_areCellsSafe_48 : decode cX4_areCellsSafe 48 = .ok (.lstore_n 3, 1) := by decide +kernel
theorem dX4_areCellsSafe_49 : decode cX4_areCellsSafe 49 = .ok (.iload 5, 2) := by decide +kernel
theorem dX4_areCellsSafe_51 : decode cX4_areCellsSafe 51 = .ok (.iconst 1, 1) := by decide +kernel
theorem dX4_areCellsSafe_52 : decode cX4_areCellsSafe 52 = .ok (.iadd, 1) := by decide +kernel
theorem dX4_areCellsSafe_53 : decode cX4_areCellsSafe 53 = .ok (.aload_n 0, 1) := by decide +kernel
theorem dX4_areCellsSafe_54 : decode cX4_areCellsSafe 54 = .ok (.getfield 32, 3) := by decide +kernel
theorem dX4_areCellsSafe_57 : decode cX4_areCellsSafe 57 = .ok (.if_icmp .eq 32, 3) := by decide +kernel
theorem dX4_areCellsSafe_60 : decode cX4_areCellsSafe 60 = .ok (.aload_n 0, 1) := by decide +kernel
theorem dX4_areCellsSafe_61 : decode cX4_areCellsSafe 61 = .ok (.getfield 9, 3) := by decide +kernel
theorem dX4_areCellsSafe_64 : decode cX4_areCellsSafe 64 = .ok (.iload 6, 2) := by decide +kernel
theorem dX4_areCellsSafe_66 : decode cX4_areCellsSafe 66 = .ok (.laload, 1) := by decide +kernel
theorem dX4_areCellsSafe_67 : decode cX4_areCellsSafe 67 = .ok (.aload_n 0, 1) := by decide +kernel
theorem dX4_areCellsSafe_68 : decode cX4_areCellsSafe 68 = .ok (.getfield 9, 3) := by decide +kernel
theorem dX4_areCellsSafe_71 : decode cX4_areCellsSafe 71 = .ok (.aload_n 0, 1) := by decide +kernel
theorem dX4_areCellsSafe_72 : decode cX4_areCellsSafe 72 = .ok (.getfield 15, 3) := by decide +kernel
theorem dX4_areCellsSafe_75 : decode cX4_areCellsSafe 75 = .ok (.iload 5, 2) := by decide +kernel
theorem dX4_areCellsSafe_77 : decode cX4_areCellsSafe 77 = .ok (.iconst 1, 1) := by decide +kernel
theorem dX4_areCellsSafe_78 : decode cX4_areCellsSafe 78 = .ok (.iadd, 1) := by decide +kernel
theorem dX4_areCellsSafe_79 : decode cX4_areCellsSafe 79 = .ok (.iaload, 1) := by decide +kernel
theorem dX4_areCellsSafe_80 : decode cX4_areCellsSafe 80 = .ok (.laload, 1) := by decide +kernel
theorem dX4_areCellsSafe_81 : decode cX4_areCellsSafe 81 = .ok (.lxor, 1) := by decide +kernel
theorem dX4_areCellsSafe_82 : decode cX4_areCellsSafe 82 = .ok (.lload_n 1, 1) := by decide +kernel
theorem dX4_areCellsSafe_83 : decode cX4_areCellsSafe 83 = .ok (.land, 1) := by decide +kernel
theorem dX4_areCellsSafe_84 : decode cX4_areCellsSafe 84 = .ok (.lconst 0, 1) := by decide +kernel
theorem dX4_areCellsSafe_85 : decode cX4_areCellsSafe 85 = .ok (.lcmp, 1) := by decide +kernel
theorem dX4_areCellsSafe_86 : decode cX4_areCellsSafe 86 = .ok (.ifCond .eq 7, 3) := by decide +kernel
theorem dX4_areCellsSafe_89 : decode cX4_areCellsSafe 89 = .ok (.iconst 1, 1) := by decide +kernel
theorem dX4_areCellsSafe_90 : decode cX4_areCellsSafe 90 = .ok (.goto 4, 3) := by decide +kernel
theorem dX4_areCellsSafe_93 : decode cX4_areCellsSafe 93 = .ok (.iconst 0, 1) := by decide +kernel
theorem dX4_areCellsSafe_94 : decode cX4_areCellsSafe 94 = .ok (.istore 7, 2) := by decide +kernel
theorem dX4_areCellsSafe_96 : decode cX4_areCellsSafe 96 = .ok (.iload 7, 2) := by decide +kernel
theorem dX4_areCellsSafe_98 : decode cX4_areCellsSafe 98 = .ok (.ifCond .eq 16, 3) := by decide +kernel
theorem dX4_areCellsSafe_101 : decode cX4_areCellsSafe 101 = .ok (.aload_n 0, 1) := by decide +kernel
theorem dX4_areCellsSafe_102 : decode cX4_areCellsSafe 102 = .ok (.getfield 25, 3) := by decide +kernel
theorem dX4_areCellsSafe_105 : decode cX4_areCellsSafe 105 = .ok (.lload_n 3, 1) := by decide +kernel
theorem dX4_areCellsSafe_106 : decode cX4_areCellsSafe 106 = .ok (.invokevirtual 73, 3) := by decide +kernel
theorem dX4_areCellsSafe_109 : decode cX4_areCellsSafe 109 = .ok (.ifCond .ne 5, 3) := by decide +kernel
theorem dX4_areCellsSafe_112 : decode cX4_areCellsSafe 112 = .ok (.iconst 0, 1) := by decide +kernel
theorem dX4_areCellsSafe_113 : decode cX4_areCellsSafe 113 = .ok (.ireturn, 1) := by decide +kernel
theorem dX4_areCellsSafe_114 : decode cX4_areCellsSafe 114 = .ok (.iload 7, 2) := by decide +kernel
theorem dX4_areCellsSafe_116 : decode cX4_areCellsSafe 116 = .ok (.ifCond .eq 5, 3) := by decide +kernel
theorem dX4_areCellsSafe_119 : decode cX4_areCellsSafe 119 = .ok (.lconst 0, 1) := by decide +kernel
theorem dX4_areCellsSafe_120 : decode cX4_areCellsSafe 120 = .ok (.lstore_n 3, 1) := by decide +kernel
theorem dX4_areCellsSafe_121 : decode cX4_areCellsSafe 121 = .ok (.iinc 5 1, 3) := by decide +kernel
theorem dX4_areCellsSafe_124 : decode cX4_areCellsSafe 124 = .ok (.goto (-103), 3) := by decide +kernel
theorem dX4_areCellsSafe_127 : decode cX4_areCellsSafe 127 = .ok (.iconst 1, 1) := by decide +kernel
theorem dX4_areCellsSafe_128 : decode cX4_areCellsSafe 128 = .ok (.ireturn, 1) := by decide +kernel
theorem dX4_answerBitsOf_0 : decode cX4_answerBitsOf 0 = .ok (.lconst 0, 1) := by decide +kernel
theorem dX4_answerBitsOf_1 : decode cX4_answerBitsOf 1 = .ok (.lstore_n 1, 1) := by decide +kernel
theorem dX4_answerBitsOf_2 : decode cX4_answerBitsOf 2 = .ok (.iconst 0, 1) := by decide +kernel
theorem dX4_answerBitsOf_3 : decode cX4_answerBitsOf 3 = .ok (.istore_n 3, 1) := by decide +kernel
theorem dX4_answerBitsOf_4 : decode cX4_answerBitsOf 4 = .ok (.iload_n 3, 1) := by decide +kernel
theorem dX4_answerBitsOf_5 : decode cX4_answerBitsOf 5 = .ok (.bipush 8, 2) := by decide +kernel
theorem dX4_answerBitsOf_7 : decode cX4_answerBitsOf 7 = .ok (.if_icmp .ge 28, 3) := by decide +kernel
theorem dX4_answerBitsOf_10 : decode cX4_answerBitsOf 10 = .ok (.iload_n 0, 1) := by decide +kernel
theorem dX4_answerBitsOf_11 : decode cX4_answerBitsOf 11 = .ok (.iload_n 3, 1) := by decide +kernel
theorem dX4_answerBitsOf_12 : decode cX4_answerBitsOf 12 = .ok (.invokestatic 47, 3) := by decide +kernel
theorem dX4_answerBitsOf_15 : decode cX4_answerBitsOf 15 = .ok (.ifCond .eq 14, 3) := by decide +kernel
theorem dX4_answerBitsOf_18 : decode cX4_answerBitsOf 18 = .ok (.lload_n 1, 1) := by decide +kernel
theorem dX4_answerBitsOf_19 : decode cX4_answerBitsOf 19 = .ok (.ldc2_w 76, 3) := by decide +kernel
theorem dX4_answerBitsOf_22 : decode cX4_answerBitsOf 22 = .ok (.iload_n 3, 1) := by decide +kernel
theorem dX4_answerBitsOf_23 : decode cX4_answerBitsOf 23 = .ok (.bipush 6, 2) := by decide +kernel
theorem dX4_answerBitsOf_25 : decode cX4_answerBitsOf 25 = .ok (.imul, 1) := by decide +kernel
theorem dX4_answerBitsOf_26 : decode cX4_answerBitsOf 26 = .ok (.lshl, 1) := by decide +kernel
theorem dX4_answerBitsOf_27 : decode cX4_answerBitsOf 27 = .ok (.lor, 1) := by decide +kernel
theorem dX4_answerBitsOf_28 : decode cX4_answerBitsOf 28 = .ok (.lstore_n 1, 1) := by decide +kernel
theorem dX4_answerBitsOf_29 : decode cX4_answerBitsOf 29 = .ok (.iinc 3 1, 3) := by decide +kernel
theorem dX4_answerBitsOf_32 : decode cX4_answerBitsOf 32 = .ok (.goto (-28), 3) := by decide +kernel
theorem dX4_answerBitsOf_35 : decode cX4_answerBitsOf 35 = .ok (.lload_n 1, 1) := by decide +kernel
theorem dX4_answerBitsOf_36 : decode cX4_answerBitsOf 36 = .ok (.lreturn, 1) := by decide +kernel
theorem dX5_init_0 : decode cX5_init 0 = .ok (.aload_n 0, 1) := by decide +kernel
theorem dX5_init_1 : decode cX5_init 1 = .ok (.invokespecial 1, 3) := by decide +kernel
theorem dX5_init_4 : decode cX5_init 4 = .ok (.aload_n 0, 1) := by decide +kernel
theorem dX5_init_5 : decode cX5_init 5 = .ok (.new 7, 3) := by decide +kernel
theorem dX5_init_8 : decode cX5_init 8 = .ok (.dup, 1) := by decide +kernel
theorem dX5_init_9 : decode cX5_init 9 = .ok (.invokespecial 9, 3) := by decide +kernel
theorem dX5_init_12 : decode cX5_init 12 = .ok (.putfield 10, 3) := by decide +kernel
theorem dX5_init_15 : decode cX5_init 15 = .ok (.aload_n 0, 1) := by decide +kernel
theorem dX5_init_16 : decode cX5_init 16 = .ok (.new 16, 3) := by decide +kernel
theorem dX5_init_19 : decode cX5_init 19 = .ok (.dup, 1) := by decide +kernel
theorem dX5_init_20 : decode cX5_init 20 = .ok (.invokespecial 18, 3) := by decide +kernel
theorem dX5_init_23 : decode cX5_init 23 = .ok (.putfield 19, 3) := by decide +kernel
theorem dX5_init_26 : decode cX5_init 26 = .ok (.aload_n 0, 1) := by decide +kernel
theorem dX5_init_27 : decode cX5_init 27 = .ok (.new 23, 3) := by decide +kernel
theorem dX5_init_30 : decode cX5_init 30 = .ok (.dup, 1) := by decide +kernel
theorem dX5_init_31 : decode cX5_init 31 = .ok (.invokespecial 25, 3) := by decide +kernel
theorem dX5_init_34 : decode cX5_init 34 = .ok (.putfield 26, 3) := by decide +kernel
theorem dX5_init_37 : decode cX5_init 37 = .ok (.aload_n 0, 1) := by decide +kernel
theorem dX5_init_38 : decode cX5_init 38 = .ok (.new 30, 3) := by decide +kernel
theorem dX5_init_41 : decode cX5_init 41 = .ok (.dup, 1) := by decide +kernel
theorem dX5_init_42 : decode cX5_init 42 = .ok (.invokespecial 32, 3) := by decide +kernel
theorem dX5_init_45 : decode cX5_init 45 = .ok (.putfield 33, 3) := by decide +kernel
theorem dX5_init_48 : decode cX5_init 48 = .ok (.return_, 1) := by decide +kernel
theorem dX5_addNumber_0 : decode cX5_addNumber 0 = .ok (.aload_n 0, 1) := by decide +kernel
theorem dX5_addNumber_1 : decode cX5_addNumber 1 = .ok (.getfield 19, 3) := by decide +kernel
theorem dX5_addNumber_4 : decode cX5_addNumber 4 = .ok (.aload_n 0, 1) := by decide +kernel
theorem dX5_addNumber_5 : decode cX5_addNumber 5 = .ok (.getfield 10, 3) := by decide +kernel
theorem dX5_addNumber_8 : decode cX5_addNumber 8 = .ok (.getfield 37, 3) := by decide +kernel
theorem dX5_addNumber_11 : decode cX5_addNumber 11 = .ok (.iload 4, 2) := by decide +kernel
theorem dX5_addNumber_13 : decode cX5_addNumber 13 = .ok (.iload_n 3, 1) := by decide +kernel
theorem dX5_addNumber_14 : decode cX5_addNumber 14 = .ok (.isub, 1) := by decide +kernel
theorem dX5_addNumber_15 : decode cX5_addNumber 15 = .ok (.iconst 1, 1) := by decide +kernel
theorem dX5_addNumber_16 : decode cX5_addNumber 16 = .ok (.iadd, 1) := by decide +kernel
theorem dX5_addNumber_17 : decode cX5_addNumber 17 = .ok (.invokevirtual 41, 3) := by decide +kernel
theorem dX5_addNumber_20 : decode cX5_addNumber 20 = .ok (.aload_n 0, 1) := by decide +kernel
theorem dX5_addNumber_21 : decode cX5_addNumber 21 = .ok (.getfield 10, 3) := by decide +kernel
theorem dX5_addNumber_24 : decode cX5_addNumber 24 = .ok (.iload_n 1, 1) := by decide +kernel
theorem dX5_addNumber_25 : decode cX5_addNumber 25 = .ok (.iload_n 2, 1) := by decide +kernel
theorem dX5_addNumber_26 : decode cX5_addNumber 26 = .ok (.iload_n 3, 1) := by decide +kernel
theorem dX5_addNumber_27 : decode cX5_addNumber 27 = .ok (.iload 4, 2) := by decide +kernel
theorem dX5_addNumber_29 : decode cX5_addNumber 29 = .ok (.iload 5, 2) := by decide +kernel
theorem dX5_addNumber_31 : decode cX5_addNumber 31 = .ok (.invokevirtual 45, 3) := by decide +kernel
theorem dX5_addNumber_34 : decode cX5_addNumber 34 = .ok (.return_, 1) := by decide +kernel
theorem dX5_copyFrom_0 : decode cX5_copyFrom 0 = .ok (.aload_n 0, 1) := by decide +kernel
theorem dX5_copyFrom_1 : decode cX5_copyFrom 1 = .ok (.getfield 10, 3) := by decide +kernel
theorem dX5_copyFrom_4 : decode cX5_copyFrom 4 = .ok (.aload_n 1, 1) := by decide +kernel
theorem dX5_copyFrom_5 : decode cX5_copyFrom 5 = .ok (.getfield 10, 3) := by decide +kernel
theorem dX5_copyFrom_8 : decode cX5_copyFrom 8 = .ok (.invokevirtual 49, 3) := by decide +kernel
theorem dX5_copyFrom_11 : decode cX5_copyFrom 11 = .ok (.aload_n 0, 1) := by decide +kernel
theorem dX5_copyFrom_12 : decode cX5_copyFrom 12 = .ok (.getfield 19, 3) := by decide +kernel
theorem dX5_copyFrom_15 : decode cX5_copyFrom 15 = .ok (.aload_n 1, 1) := by decide +kernel
theorem dX5_copyFrom_16 : decode cX5_copyFrom 16 = .ok (.getfield 19, 3) := by decide +kernel
theorem dX5_copyFrom_19 : decode cX5_copyFrom 19 = .ok (.invokevirtual 53, 3) := by decide +kernel
theorem dX5_copyFrom_22 : decode cX5_copyFrom 22 = .ok (.aload_n 0, 1) := by decide +kernel
theorem dX5_copyFrom_23 : decode cX5_copyFrom 23 = .ok (.getfield 26, 3) := by decide +kernel
theorem dX5_copyFrom_26 : decode cX5_copyFrom 26 = .ok (.aload_n 1, 1) := by decide +kernel
theorem dX5_copyFrom_27 : decode cX5_copyFrom 27 = .ok (.getfield 26, 3) := by decide +kernel
theorem dX5_copyFrom_30 : decode cX5_copyFrom 30 = .ok (.invokevirtual 56, 3) := by decide +kernel
theorem dX5_copyFrom_33 : decode cX5_copyFrom 33 = .ok (.aload_n 0, 1) := by decide +kernel
theorem dX5_copyFrom_34 : decode cX5_copyFrom 34 = .ok (.getfield 33, 3) := by decide +kernel
theorem dX5_copyFrom_37 : decode cX5_copyFrom 37 = .ok (.aload_n 1, 1) := by decide +kernel
theorem dX5_copyFrom_38 : decode cX5_copyFrom 38 = .ok (.getfield 33, 3) := by decide +kernel
theorem dX5_copyFrom_41 : decode cX5_copyFrom 41 = .ok (.invokevirtual 59, 3) := by decide +kernel
theorem dX5_copyFrom_44 : decode cX5_copyFrom 44 = .ok (.return_, 1) := by decide +kernel
theorem dX6_init_0 : decode cX6_init 0 = .ok (.aload_n 0, 1) := by decide +kernel
theorem dX6_init_1 : decode cX6_init 1 = .ok (.invokespecial 3, 3) := by decide +kernel
theorem dX6_init_4 : decode cX6_init 4 = .ok (.aload_n 0, 1) := by decide +kernel
theorem dX6_init_5 : decode cX6_init 5 = .ok (.bipush 8, 2) := by decide +kernel
theorem dX6_init_7 : decode cX6_init 7 = .ok (.newarray .int, 2) := by decide +kernel
theorem dX6_init_9 : decode cX6_init 9 = .ok (.putfield 9, 3) := by decide +kernel
theorem dX6_init_12 : decode cX6_init 12 = .ok (.aload_n 0, 1) := by decide +kernel
theorem dX6_init_13 : decode cX6_init 13 = .ok (.bipush 8, 2) := by decide +kernel
theorem dX6_init_15 : decode cX6_init 15 = .ok (.newarray .int, 2) := by decide +kernel
theorem dX6_init_17 : decode cX6_init 17 = .ok (.putfield 15, 3) := by decide +kernel
theorem dX6_init_20 : decode cX6_init 20 = .ok (.aload_n 0, 1) := by decide +kernel
theorem dX6_init_21 : decode cX6_init 21 = .ok (.bipush 8, 2) := by decide +kernel
theorem dX6_init_23 : decode cX6_init 23 = .ok (.newarray .int, 2) := by decide +kernel
theorem dX6_init_25 : decode cX6_init 25 = .ok (.putfield 18, 3) := by decide +kernel
theorem dX6_init_28 : decode cX6_init 28 = .ok (.aload_n 0, 1) := by decide +kernel
theorem dX6_init_29 : decode cX6_init 29 = .ok (.iconst 0, 1) := by decide +kernel
theorem dX6_init_30 : decode cX6_init 30 = .ok (.putfield 21, 3) := by decide +kernel
theorem dX6_init_33 : decode cX6_init 33 = .ok (.return_, 1) := by decide +kernel
theorem dX6_add_0 : decode cX6_add 0 = .ok (.aload_n 0, 1) := by decide +kernel
theorem dX6_add_1 : decode cX6_add 1 = .ok (.getfield 9, 3) := by decide +kernel
theorem dX6_add_4 : decode cX6_add 4 = .ok (.aload_n 0, 1) := by decide +kernel
theorem dX6_add_5 : decode cX6_add 5 = .ok (.getfield 21, 3) := by decide +kernel
theorem dX6_add_8 : decode cX6_add 8 = .ok (.iload_n 1, 1) := by decide +kernel
theorem dX6_add_9 : decode cX6_add 9 = .ok (.iastore, 1) := by decide +kernel
theorem dX6_add_10 : decode cX6_add 10 = .ok (.aload_n 0, 1) := by decide +kernel
theorem dX6_add_11 : decode cX6_add 11 = .ok (.getfield 15, 3) := by decide +kernel
theorem dX6_add_14 : decode cX6_add 14 = .ok (.aload_n 0, 1) := by decide +kernel
theorem dX6_add_15 : decode cX6_add 15 = .ok (.getfield 21, 3) := by decide +kernel
theorem dX6_add_18 : decode cX6_add 18 = .ok (.iload_n 2, 1) := by decide +kernel
theorem dX6_add_19 : decode cX6_add 19 = .ok (.iastore, 1) := by decide +kernel
theorem dX6_add_20 : decode cX6_add 20 = .ok (.aload_n 0, 1) := by decide +kernel
theorem dX6_add_21 : decode cX6_add 21 = .ok (.getfield 18, 3) := by decide +kernel
theorem dX6_add_24 : decode cX6_add 24 = .ok (.aload_n 0, 1) := by decide +kernel
theorem dX6_add_25 : decode cX6_add 25 = .ok (.getfield 21, 3) := by decide +kernel
theorem dX6_add_28 : decode cX6_add 28 = .ok (.iload_n 3, 1) := by decide +kernel
theorem dX6_add_29 : decode cX6_add 29 = .ok (.iastore, 1) := by decide +kernel
theorem dX6_add_30 : decode cX6_add 30 = .ok (.aload_n 0, 1) := by decide +kernel
theorem dX6_add_31 : decode cX6_add 31 = .ok (.dup, 1) := by decide +kernel
theorem dX6_add_32 : decode cX6_add 32 = .ok (.getfield 21, 3) := by decide +kernel
theorem dX6_add_35 : decode cX6_add 35 = .ok (.iconst 1, 1) := by decide +kernel
theorem dX6_add_36 : decode cX6_add 36 = .ok (.iadd, 1) := by decide +kernel
theorem dX6_add_37 : decode cX6_add 37 = .ok (.putfield 21, 3) := by decide +kernel
theorem dX6_add_40 : decode cX6_add 40 = .ok (.aload_n 0, 1) := by decide +kernel
theorem dX6_add_41 : decode cX6_add 41 = .ok (.getfield 21, 3) := by decide +kernel
theorem dX6_add_44 : decode cX6_add 44 = .ok (.iconst 1, 1) := by decide +kernel
theorem dX6_add_45 : decode cX6_add 45 = .ok (.isub, 1) := by decide +kernel
theorem dX6_add_46 : decode cX6_add 46 = .ok (.ireturn, 1) := by decide +kernel
theorem dX6_copyFrom_0 : decode cX6_copyFrom 0 = .ok (.aload_n 1, 1) := by decide +kernel
theorem dX6_copyFrom_1 : decode cX6_copyFrom 1 = .ok (.getfield 9, 3) := by decide +kernel
theorem dX6_copyFrom_4 : decode cX6_copyFrom 4 = .ok (.iconst 0, 1) := by decide +kernel
theorem dX6_copyFrom_5 : decode cX6_copyFrom 5 = .ok (.aload_n 0, 1) := by decide +kernel
theorem dX6_copyFrom_6 : decode cX6_copyFrom 6 = .ok (.getfield 9, 3) := by decide +kernel
theorem dX6_copyFrom_9 : decode cX6_copyFrom 9 = .ok (.iconst 0, 1) := by decide +kernel
theorem dX6_copyFrom_10 : decode cX6_copyFrom 10 = .ok (.bipush 8, 2) := by decide +kernel
theorem dX6_copyFrom_12 : decode cX6_copyFrom 12 = .ok (.invokestatic 25, 3) := by decide +kernel
theorem dX6_copyFrom_15 : decode cX6_copyFrom 15 = .ok (.aload_n 1, 1) := by decide +kernel
theorem dX6_copyFrom_16 : decode cX6_copyFrom 16 = .ok (.getfield 15, 3) := by decide +kernel
theorem dX6_copyFrom_19 : decode cX6_copyFrom 19 = .ok (.iconst 0, 1) := by decide +kernel
theorem dX6_copyFrom_20 : decode cX6_copyFrom 20 = .ok (.aload_n 0, 1) := by decide +kernel
theorem dX6_copyFrom_21 : decode cX6_copyFrom 21 = .ok (.getfield 15, 3) := by decide +kernel
theorem dX6_copyFrom_24 : decode cX6_copyFrom 24 = .ok (.iconst 0, 1) := by decide +kernel
theorem dX6_copyFrom_25 : decode cX6_copyFrom 25 = .ok (.bipush 8, 2) := by decide +kernel
theorem dX6_copyFrom_27 : decode cX6_copyFrom 27 = .ok (.invokestatic 25, 3) := by decide +kernel
theorem dX6_copyFrom_30 : decode cX6_copyFrom 30 = .ok (.aload_n 1, 1) := by decide +kernel
theorem dX6_copyFrom_31 : decode cX6_copyFrom 31 = .ok (.getfield 18, 3) := by decide +kernel
theorem dX6_copyFrom_34 : decode cX6_copyFrom 34 = .ok (.iconst 0, 1) := by decide +kernel
theorem dX6_copyFrom_35 : decode cX6_copyFrom 35 = .ok (.aload_n 0, 1) := by decide +kernel
theorem dX6_copyFrom_36 : decode cX6_copyFrom 36 = .ok (.getfield 18, 3) := by decide +kernel
theorem dX6_copyFrom_39 : decode cX6_copyFrom 39 = .ok (.iconst 0, 1) := by decide +kernel
theorem dX6_copyFrom_40 : decode cX6_copyFrom 40 = .ok (.bipush 8, 2) := by decide +kernel
theorem dX6_copyFrom_42 : decode cX6_copyFrom 42 = .ok (.invokestatic 25, 3) := by decide +kernel
theorem dX6_copyFrom_45 : decode cX6_copyFrom 45 = .ok (.aload_n 0, 1) := by decide +kernel
theorem dX6_copyFrom_46 : decode cX6_copyFrom 46 = .ok (.aload_n 1, 1) := by decide +kernel
theorem dX6_copyFrom_47 : decode cX6_copyFrom 47 = .ok (.getfield 21, 3) := by decide +kernel
theorem dX6_copyFrom_50 : decode cX6_copyFrom 50 = .ok (.putfield 21, 3) := by decide +kernel
theorem dX6_copyFrom_53 : decode cX6_copyFrom 53 = .ok (.return_, 1) := by decide +kernel
theorem dX7_init_0 : decode cX7_init 0 = .ok (.aload_n 0, 1) := by decide +kernel
theorem dX7_init_1 : decode cX7_init 1 = .ok (.invokespecial 3, 3) := by decide +kernel
theorem dX7_init_4 : decode cX7_init 4 = .ok (.aload_n 0, 1) := by decide +kernel
theorem dX7_init_5 : decode cX7_init 5 = .ok (.new 9, 3) := by decide +kernel
theorem dX7_init_8 : decode cX7_init 8 = .ok (.dup, 1) := by decide +kernel
theorem dX7_init_9 : decode cX7_init 9 = .ok (.invokespecial 11, 3) := by decide +kernel
theorem dX7_init_12 : decode cX7_init 12 = .ok (.putfield 12, 3) := by decide +kernel
theorem dX7_init_15 : decode cX7_init 15 = .ok (.aload_n 0, 1) := by decide +kernel
theorem dX7_init_16 : decode cX7_init 16 = .ok (.iconst 3, 1) := by decide +kernel
theorem dX7_init_17 : decode cX7_init 17 = .ok (.anewarray 9, 3) := by decide +kernel
theorem dX7_init_20 : decode cX7_init 20 = .ok (.putfield 16, 3) := by decide +kernel
theorem dX7_init_23 : decode cX7_init 23 = .ok (.aload_n 0, 1) := by decide +kernel
theorem dX7_init_24 : decode cX7_init 24 = .ok (.iconst 3, 1) := by decide +kernel
theorem dX7_init_25 : decode cX7_init 25 = .ok (.newarray .boolean, 2) := by decide +kernel
theorem dX7_init_27 : decode cX7_init 27 = .ok (.putfield 20, 3) := by decide +kernel
theorem dX7_init_30 : decode cX7_init 30 = .ok (.aload_n 0, 1) := by decide +kernel
theorem dX7_init_31 : decode cX7_init 31 = .ok (.new 24, 3) := by decide +kernel
theorem dX7_init_34 : decode cX7_init 34 = .ok (.dup, 1) := by decide +kernel
theorem dX7_init_35 : decode cX7_init 35 = .ok (.invokespecial 26, 3) := by decide +kernel
theorem dX7_init_38 : decode cX7_init 38 = .ok (.putfield 27, 3) := by decide +kernel
theorem dX7_init_41 : decode cX7_init 41 = .ok (.aload_n 0, 1) := by decide +kernel
theorem dX7_init_42 : decode cX7_init 42 = .ok (.new 31, 3) := by decide +kernel
theorem dX7_init_45 : decode cX7_init 45 = .ok (.dup, 1) := by decide +kernel
theorem dX7_init_46 : decode cX7_init 46 = .ok (.invokespecial 33, 3) := by decide +kernel
theorem dX7_init_49 : decode cX7_init 49 = .ok (.putfield 34, 3) := by decide +kernel
theorem dX7_init_52 : decode cX7_init 52 = .ok (.iconst 0, 1) := by decide +kernel
theorem dX7_init_53 : decode cX7_init 53 = .ok (.istore_n 1, 1) := by decide +kernel
theorem dX7_init_54 : decode cX7_init 54 = .ok (.iload_n 1, 1) := by decide +kernel
theorem dX7_init_55 : decode cX7_init 55 = .ok (.iconst 3, 1) := by decide +kernel
theorem dX7_init_56 : decode cX7_init 56 = .ok (.if_icmp .ge 22, 3) := by decide +kernel
theorem dX7_init_59 : decode cX7_init 59 = .ok (.aload_n 0, 1) := by decide +kernel
theorem dX7_init_60 : decode cX7_init 60 = .ok (.getfield 16, 3) := by decide +kernel
theorem dX7_init_63 : decode cX7_init 63 = .ok (.iload_n 1, 1) := by decide +kernel
theorem dX7_init_64 : decode cX7_init 64 = .ok (.new 9, 3) := by decide +kernel
theorem dX7_init_67 : decode cX7_init 67 = .ok (.dup, 1) := by decide +kernel
theorem dX7_init_68 : decode cX7_init 68 = .ok (.invokespecial 11, 3) := by decide +kernel
theorem dX7_init_71 : decode cX7_init 71 = .ok (.aastore, 1) := by decide +kernel
theorem dX7_init_72 : decode cX7_init 72 = .ok (.iinc 1 1, 3) := by decide +kernel
theorem dX7_init_75 : decode cX7_init 75 = .ok (.goto (-21), 3) := by decide +kernel
theorem dX7_init_78 : decode cX7_init 78 = .ok (.return_, 1) := by decide +kernel
theorem dX7_person_0 : decode cX7_person 0 = .ok (.aload_n 0, 1) := by decide +kernel
theorem dX7_person_1 : decode cX7_person 1 = .ok (.getfield 12, 3) := by decide +kernel
theorem dX7_person_4 : decode cX7_person 4 = .ok (.getfield 38, 3) := by decide +kernel
theorem dX7_person_7 : decode cX7_person 7 = .ok (.astore 5, 2) := by decide +kernel
theorem dX7_person_9 : decode cX7_person 9 = .ok (.aload 5, 2) := by decide +kernel
theorem dX7_person_11 : decode cX7_person 11 = .ok (.getfield 42, 3) := by decide +kernel
theorem dX7_person_14 : decode cX7_person 14 = .ok (.bipush 8, 2) := by decide +kernel
theorem dX7_person_16 : decode cX7_person 16 = .ok (.if_icmp .ge 18, 3) := by decide +kernel
theorem dX7_person_19 : decode cX7_person 19 = .ok (.iload_n 2, 1) := by decide +kernel
theorem dX7_person_20 : decode cX7_person 20 = .ok (.ifCond .lt 14, 3) := by decide +kernel
theorem dX7_person_23 : decode cX7_person 23 = .ok (.iload_n 2, 1) := by decide +kernel
theorem dX7_person_24 : decode cX7_person 24 = .ok (.iload_n 3, 1) := by decide +kernel
theorem dX7_person_25 : decode cX7_person 25 = .ok (.if_icmp .gt 9, 3) := by decide +kernel
theorem dX7_person_28 : decode cX7_person 28 = .ok (.iload_n 3, 1) := by decide +kernel
theorem dX7_person_29 : decode cX7_person 29 = .ok (.bipush 20, 2) := by decide +kernel
theorem dX7_person_31 : decode cX7_person 31 = .ok (.if_icmp .le 5, 3) := by decide +kernel
theorem dX7_person_34 : decode cX7_person 34 = .ok (.iconst (-1), 1) := by decide +kernel
theorem dX7_person_35 : decode cX7_person 35 = .ok (.ireturn, 1) := by decide +kernel
theorem dX7_person_36 : decode cX7_person 36 = .ok (.iload 4, 2) := by decide +kernel
theorem dX7_person_38 : decode cX7_person 38 = .ok (.iconst 1, 1) := by decide +kernel
theorem dX7_person_39 : decode cX7_person 39 = .ok (.if_icmp .lt 24, 3) := by decide +kernel
theorem dX7_person_42 : decode cX7_person 42 = .ok (.iload 4, 2) := by decide +kernel
theorem dX7_person_44 : decode cX7_person 44 = .ok (.iload_n 3, 1) := by decide +kernel
theorem dX7_person_45 : decode cX7_person 45 = .ok (.iload_n 2, 1) := by decide +kernel
theorem dX7_person_46 : decode cX7_person 46 = .ok (.isub, 1) := by decide +kernel
theorem dX7_person_47 : decode cX7_person 47 = .ok (.iconst 1, 1) := by decide +kernel
theorem dX7_person_48 : decode cX7_person 48 = .ok (.iadd, 1) := by decide +kernel
theorem dX7_person_49 : decode cX7_person 49 = .ok (.if_icmp .gt 14, 3) := by decide +kernel
theorem dX7_person_52 : decode cX7_person 52 = .ok (.aload 5, 2) := by decide +kernel
theorem dX7_person_54 : decode cX7_person 54 = .ok (.iload_n 1, 1) := by decide +kernel
theorem dX7_person_55 : decode cX7_person 55 = .ok (.iload_n 2, 1) := by decide +kernel
theorem dX7_person_56 : decode cX7_person 56 = .ok (.iload_n 3, 1) := by decide +kernel
theorem dX7_person_57 : decode cX7_person 57 = .ok (.invokevirtual 48, 3) := by decide +kernel
theorem dX7_person_60 : decode cX7_person 60 = .ok (.ifCond .ne 5, 3) := by decide +kernel
theorem dX7_person_63 : decode cX7_person 63 = .ok (.iconst (-1), 1) := by decide +kernel
theorem dX7_person_64 : decode cX7_person 64 = .ok (.ireturn, 1) := by decide +kernel
theorem dX7_person_65 : decode cX7_person 65 = .ok (.aload 5, 2) := by decide +kernel
theorem dX7_person_67 : decode cX7_person 67 = .ok (.getfield 42, 3) := by decide +kernel
theorem dX7_person_70 : decode cX7_person 70 = .ok (.istore 6, 2) := by decide +kernel
theorem dX7_person_72 : decode cX7_person 72 = .ok (.aload 5, 2) := by decide +kernel
theorem dX7_person_74 : decode cX7_person 74 = .ok (.dup, 1) := by decide +kernel
theorem dX7_person_75 : decode cX7_person 75 = .ok (.getfield 42, 3) := by decide +kernel
theorem dX7_person_78 : decode cX7_person 78 = .ok (.iconst 1, 1) := by decide +kernel
theorem dX7_person_79 : decode cX7_person 79 = .ok (.iadd, 1) := by decide +kernel
theorem dX7_person_80 : decode cX7_person 80 = .ok (.putfield 42, 3) := by decide +kernel
theorem dX7_person_83 : decode cX7_person 83 = .ok (.aload_n 0, 1) := by decide +kernel
theorem dX7_person_84 : decode cX7_person 84 = .ok (.getfield 12, 3) := by decide +kernel
theorem dX7_person_87 : decode cX7_person 87 = .ok (.iload 6, 2) := by decide +kernel
theorem dX7_person_89 : decode cX7_person 89 = .ok (.iload_n 1, 1) := by decide +kernel
theorem dX7_person_90 : decode cX7_person 90 = .ok (.iload_n 2, 1) := by decide +kernel
theorem dX7_person_91 : decode cX7_person 91 = .ok (.iload_n 3, 1) := by decide +kernel
theorem dX7_person_92 : decode cX7_person 92 = .ok (.iload 4, 2) := by decide +kernel
theorem dX7_person_94 : decode cX7_person 94 = .ok (.invokevirtual 52, 3) := by decide +kernel
theorem dX7_person_97 : decode cX7_person 97 = .ok (.iload 6, 2) := by decide +kernel
theorem dX7_person_99 : decode cX7_person 99 = .ok (.ireturn, 1) := by decide +kernel
theorem dX7_change_0 : decode cX7_change 0 = .ok (.aload_n 0, 1) := by decide +kernel
theorem dX7_change_1 : decode cX7_change 1 = .ok (.getfield 12, 3) := by decide +kernel
theorem dX7_change_4 : decode cX7_change 4 = .ok (.getfield 38, 3) := by decide +kernel
theorem dX7_change_7 : decode cX7_change 7 = .ok (.astore_n 3, 1) := by decide +kernel
theorem dX7_change_8 : decode cX7_change 8 = .ok (.iload_n 1, 1) := by decide +kernel
theorem dX7_change_9 : decode cX7_change 9 = .ok (.ifCond .lt 11, 3) := by decide +kernel
theorem dX7_change_12 : decode cX7_change 12 = .ok (.iload_n 1, 1) := by decide +kernel
theorem dX7_change_13 : decode cX7_change 13 = .ok (.aload_n 3, 1) := by decide +kernel
theorem dX7_change_14 : decode cX7_change 14 = .ok (.getfield 42, 3) := by decide +kernel
theorem dX7_change_17 : decode cX7_change 17 = .ok (.if_icmp .lt 5, 3) := by decide +kernel
theorem dX7_change_20 : decode cX7_change 20 = .ok (.iconst (-1), 1) := by decide +kernel
theorem dX7_change_21 : decode cX7_change 21 = .ok (.ireturn, 1) := by decide +kernel
theorem dX7_change_22 : decode cX7_change 22 = .ok (.aload_n 3, 1) := by decide +kernel
theorem dX7_change_23 : decode cX7_change 23 = .ok (.getfield 56, 3) := by decide +kernel
theorem dX7_change_26 : decode cX7_change 26 = .ok (.iload_n 1, 1) := by decide +kernel
theorem dX7_change_27 : decode cX7_change 27 = .ok (.iaload, 1) := by decide +kernel
theorem dX7_change_28 : decode cX7_change 28 = .ok (.istore 4, 2) := by decide +kernel
theorem dX7_change_30 : decode cX7_change 30 = .ok (.aload_n 3, 1) := by decide +kernel
theorem dX7_change_31 : decode cX7_change 31 = .ok (.getfield 60, 3) := by decide +kernel
theorem dX7_change_34 : decode cX7_change 34 = .ok (.iload 4, 2) := by decide +kernel
theorem dX7_change_36 : decode cX7_change 36 = .ok (.iaload, 1) := by decide +kernel
theorem dX7_change_37 : decode cX7_change 37 = .ok (.istore 5, 2) := by decide +kernel
theorem dX7_change_39 : decode cX7_change 39 = .ok (.aload_n 3, 1) := by decide +kernel
theorem dX7_change_40 : decode cX7_change 40 = .ok (.getfield 63, 3) := by decide +kernel
theorem dX7_change_43 : decode cX7_change 43 = .ok (.iload 4, 2) := by decide +kernel
theorem dX7_change_45 : decode cX7_change 45 = .ok (.iaload, 1) := by decide +kernel
theorem dX7_change_46 : decode cX7_change 46 = .ok (.istore 6, 2) := by decide +kernel
theorem dX7_change_48 : decode cX7_change 48 = .ok (.aload_n 3, 1) := by decide +kernel
theorem dX7_change_49 : decode cX7_change 49 = .ok (.iload_n 2, 1) := by decide +kernel
theorem dX7_change_50 : decode cX7_change 50 = .ok (.iload 5, 2) := by decide +kernel
theorem dX7_change_52 : decode cX7_change 52 = .ok (.iload 6, 2) := by decide +kernel
theorem dX7_change_54 : decode cX7_change 54 = .ok (.invokevirtual 48, 3) := by decide +kernel
theorem dX7_change_57 : decode cX7_change 57 = .ok (.ifCond .ne 5, 3) := by decide +kernel
theorem dX7_change_60 : decode cX7_change 60 = .ok (.iconst (-1), 1) := by decide +kernel
theorem dX7_change_61 : decode cX7_change 61 = .ok (.ireturn, 1) := by decide +kernel
theorem dX7_change_62 : decode cX7_change 62 = .ok (.aload_n 0, 1) := by decide +kernel
theorem dX7_change_63 : decode cX7_change 63 = .ok (.getfield 12, 3) := by decide +kernel
theorem dX7_change_66 : decode cX7_change 66 = .ok (.iload_n 1, 1) := by decide +kernel
theorem dX7_change_67 : decode cX7_change 67 = .ok (.iload_n 2, 1) := by decide +kernel
theorem dX7_change_68 : decode cX7_change 68 = .ok (.iload 5, 2) := by decide +kernel
theorem dX7_change_70 : decode cX7_change 70 = .ok (.iload 6, 2) := by decide +kernel
theorem dX7_change_72 : decode cX7_change 72 = .ok (.aload_n 3, 1) := by decide +kernel
theorem dX7_change_73 : decode cX7_change 73 = .ok (.getfield 66, 3) := by decide +kernel
theorem dX7_change_76 : decode cX7_change 76 = .ok (.iload 4, 2) := by decide +kernel
theorem dX7_change_78 : decode cX7_change 78 = .ok (.iaload, 1) := by decide +kernel
theorem dX7_change_79 : decode cX7_change 79 = .ok (.invokevirtual 52, 3) := by decide +kernel
theorem dX7_change_82 : decode cX7_change 82 = .ok (.aload_n 3, 1) := by decide +kernel
theorem dX7_change_83 : decode cX7_change 83 = .ok (.getfield 56, 3) := by decide +kernel
theorem dX7_change_86 : decode cX7_change 86 = .ok (.iload_n 1, 1) := by decide +kernel
theorem dX7_change_87 : decode cX7_change 87 = .ok (.iaload, 1) := by decide +kernel
theorem dX7_change_88 : decode cX7_change 88 = .ok (.ireturn, 1) := by decide +kernel
theorem dX7_ask_0 : decode cX7_ask 0 = .ok (.iload_n 1, 1) := by decide +kernel
theorem dX7_ask_1 : decode cX7_ask 1 = .ok (.invokestatic 69, 3) := by decide +kernel
theorem dX7_ask_4 : decode cX7_ask 4 = .ok (.ifCond .eq 28, 3) := by decide +kernel
theorem dX7_ask_7 : decode cX7_ask 7 = .ok (.iload_n 2, 1) := by decide +kernel
theorem dX7_ask_8 : decode cX7_ask 8 = .ok (.iload 4, 2) := by decide +kernel
theorem dX7_ask_10 : decode cX7_ask 10 = .ok (.invokestatic 73, 3) := by decide +kernel
theorem dX7_ask_13 : decode cX7_ask 13 = .ok (.ifCond .eq 19, 3) := by decide +kernel
theorem dX7_ask_16 : decode cX7_ask 16 = .ok (.aload_n 0, 1) := by decide +kernel
theorem dX7_ask_17 : decode cX7_ask 17 = .ok (.getfield 12, 3) := by decide +kernel
theorem dX7_ask_20 : decode cX7_ask 20 = .ok (.getfield 77, 3) := by decide +kernel
theorem dX7_ask_23 : decode cX7_ask 23 = .ok (.getfield 81, 3) := by decide +kernel
theorem dX7_ask_26 : decode cX7_ask 26 = .ok (.sipush 200, 3) := by decide +kernel
theorem dX7_ask_29 : decode cX7_ask 29 = .ok (.if_icmp .lt 5, 3) := by decide +kernel
theorem dX7_ask_32 : decode cX7_ask 32 = .ok (.iconst (-1), 1) := by decide +kernel
theorem dX7_ask_33 : decode cX7_ask 33 = .ok (.ireturn, 1) := by decide +kernel
theorem dX7_ask_34 : decode cX7_ask 34 = .ok (.aload_n 0, 1) := by decide +kernel
theorem dX7_ask_35 : decode cX7_ask 35 = .ok (.getfield 12, 3) := by decide +kernel
theorem dX7_ask_38 : decode cX7_ask 38 = .ok (.getfield 38, 3) := by decide +kernel
theorem dX7_ask_41 : decode cX7_ask 41 = .ok (.iload_n 3, 1) := by decide +kernel
theorem dX7_ask_42 : decode cX7_ask 42 = .ok (.invokevirtual 86, 3) := by decide +kernel
theorem dX7_ask_45 : decode cX7_ask 45 = .ok (.istore 5, 2) := by decide +kernel
theorem dX7_ask_47 : decode cX7_ask 47 = .ok (.bipush (-2), 2) := by decide +kernel
theorem dX7_ask_49 : decode cX7_ask 49 = .ok (.istore 6, 2) := by decide +kernel
theorem dX7_ask_51 : decode cX7_ask 51 = .ok (.aload_n 0, 1) := by decide +kernel
theorem dX7_ask_52 : decode cX7_ask 52 = .ok (.iload_n 1, 1) := by decide +kernel
theorem dX7_ask_53 : decode cX7_ask 53 = .ok (.iload_n 2, 1) := by decide +kernel
theorem dX7_ask_54 : decode cX7_ask 54 = .ok (.iload 5, 2) := by decide +kernel
theorem dX7_ask_56 : decode cX7_ask 56 = .ok (.iload 4, 2) := by decide +kernel
theorem dX7_ask_58 : decode cX7_ask 58 = .ok (.invokevirtual 90, 3) := by decide +kernel
theorem dX7_ask_61 : decode cX7_ask 61 = .ok (.ifCond .eq 53, 3) := by decide +kernel
theorem dX7_ask_64 : decode cX7_ask 64 = .ok (.aload_n 0, 1) := by decide +kernel
theorem dX7_ask_65 : decode cX7_ask 65 = .ok (.getfield 27, 3) := by decide +kernel
theorem dX7_ask_68 : decode cX7_ask 68 = .ok (.getfield 94, 3) := by decide +kernel
theorem dX7_ask_71 : decode cX7_ask 71 = .ok (.aload_n 0, 1) := by decide +kernel
theorem dX7_ask_72 : decode cX7_ask 72 = .ok (.getfield 12, 3) := by decide +kernel
theorem dX7_ask_75 : decode cX7_ask 75 = .ok (.getfield 38, 3) := by decide +kernel
theorem dX7_ask_78 : decode cX7_ask 78 = .ok (.invokevirtual 97, 3) := by decide +kernel
theorem dX7_ask_81 : decode cX7_ask 81 = .ok (.iaload, 1) := by decide +kernel
theorem dX7_ask_82 : decode cX7_ask 82 = .ok (.istore 6, 2) := by decide +kernel
theorem dX7_ask_84 : decode cX7_ask 84 = .ok (.aload_n 0, 1) := by decide +kernel
theorem dX7_ask_85 : decode cX7_ask 85 = .ok (.getfield 12, 3) := by decide +kernel
theorem dX7_ask_88 : decode cX7_ask 88 = .ok (.getfield 101, 3) := by decide +kernel
theorem dX7_ask_91 : decode cX7_ask 91 = .ok (.iload_n 1, 1) := by decide +kernel
theorem dX7_ask_92 : decode cX7_ask 92 = .ok (.aload_n 0, 1) := by decide +kernel
theorem dX7_ask_93 : decode cX7_ask 93 = .ok (.getfield 12, 3) := by decide +kernel
theorem dX7_ask_96 : decode cX7_ask 96 = .ok (.getfield 38, 3) := by decide +kernel
theorem dX7_ask_99 : decode cX7_ask 99 = .ok (.getfield 105, 3) := by decide +kernel
theorem dX7_ask_102 : decode cX7_ask 102 = .ok (.aload_n 0, 1) := by decide +kernel
theorem dX7_ask_103 : decode cX7_ask 103 = .ok (.getfield 27, 3) := by decide +kernel
theorem dX7_ask_106 : decode cX7_ask 106 = .ok (.getfield 94, 3) := by decide +kernel
theorem dX7_ask_109 : decode cX7_ask 109 = .ok (.iload 6, 2) := by decide +kernel
theorem dX7_ask_111 : decode cX7_ask 111 = .ok (.invokevirtual 108, 3) := by decide +kernel
theorem dX7_ask_114 : decode cX7_ask 114 = .ok (.aload_n 0, 1) := by decide +kernel
theorem dX7_ask_115 : decode cX7_ask 115 = .ok (.getfield 12, 3) := by decide +kernel
theorem dX7_ask_118 : decode cX7_ask 118 = .ok (.getfield 77, 3) := by decide +kernel
theorem dX7_ask_121 : decode cX7_ask 121 = .ok (.iload_n 1, 1) := by decide +kernel
theorem dX7_ask_122 : decode cX7_ask 122 = .ok (.iload_n 2, 1) := by decide +kernel
theorem dX7_ask_123 : decode cX7_ask 123 = .ok (.iload 5, 2) := by decide +kernel
theorem dX7_ask_125 : decode cX7_ask 125 = .ok (.iload 4, 2) := by decide +kernel
theorem dX7_ask_127 : decode cX7_ask 127 = .ok (.iload 6, 2) := by decide +kernel
theorem dX7_ask_129 : decode cX7_ask 129 = .ok (.invokevirtual 114, 3) := by decide +kernel
theorem dX7_ask_132 : decode cX7_ask 132 = .ok (.iload 6, 2) := by decide +kernel
theorem dX7_ask_134 : decode cX7_ask 134 = .ok (.ireturn, 1) := by decide +kernel
theorem dX7_would_0 : decode cX7_would 0 = .ok (.iload_n 1, 1) := by decide +kernel
theorem dX7_would_1 : decode cX7_would 1 = .ok (.invokestatic 69, 3) := by decide +kernel
theorem dX7_would_4 : decode cX7_would 4 = .ok (.ifCond .eq 12, 3) := by decide +kernel
theorem dX7_would_7 : decode cX7_would 7 = .ok (.iload_n 2, 1) := by decide +kernel
theorem dX7_would_8 : decode cX7_would 8 = .ok (.iload 4, 2) := by decide +kernel
theorem dX7_would_10 : decode cX7_would 10 = .ok (.invokestatic 73, 3) := by decide +kernel
theorem dX7_would_13 : decode cX7_would 13 = .ok (.ifCond .ne 5, 3) := by decide +kernel
theorem dX7_would_16 : decode cX7_would 16 = .ok (.iconst (-1), 1) := by decide +kernel
theorem dX7_would_17 : decode cX7_would 17 = .ok (.ireturn, 1) := by decide +kernel
theorem dX7_would_18 : decode cX7_would 18 = .ok (.aload_n 0, 1) := by decide +kernel
theorem dX7_would_19 : decode cX7_would 19 = .ok (.iload_n 1, 1) := by decide +kernel
theorem dX7_would_20 : decode cX7_would 20 = .ok (.iload_n 2, 1) := by decide +kernel
theorem dX7_would_21 : decode cX7_would 21 = .ok (.aload_n 0, 1) := by decide +kernel
theorem dX7_would_22 : decode cX7_would 22 = .ok (.getfield 12, 3) := by decide +kernel
theorem dX7_would_25 : decode cX7_would 25 = .ok (.getfield 38, 3) := by decide +kernel
theorem dX7_would_28 : decode cX7_would 28 = .ok (.iload_n 3, 1) := by decide +kernel
theorem dX7_would_29 : decode cX7_would 29 = .ok (.invokevirtual 86, 3) := by decide +kernel
theorem dX7_would_32 : decode cX7_would 32 = .ok (.iload 4, 2) := by decide +kernel
theorem dX7_would_34 : decode cX7_would 34 = .ok (.invokevirtual 90, 3) := by decide +kernel
theorem dX7_would_37 : decode cX7_would 37 = .ok (.ireturn, 1) := by decide +kernel
theorem dX7_join_0 : decode cX7_join 0 = .ok (.iload_n 1, 1) := by decide +kernel
theorem dX7_join_1 : decode cX7_join 1 = .ok (.invokestatic 69, 3) := by decide +kernel
theorem dX7_join_4 : decode cX7_join 4 = .ok (.ifCond .eq 10, 3) := by decide +kernel
theorem dX7_join_7 : decode cX7_join 7 = .ok (.iload_n 2, 1) := by decide +kernel
theorem dX7_join_8 : decode cX7_join 8 = .ok (.invokestatic 69, 3) := by decide +kernel
theorem dX7_join_11 : decode cX7_join 11 = .ok (.ifCond .ne 5, 3) := by decide +kernel
theorem dX7_join_14 : decode cX7_join 14 = .ok (.iconst 0, 1) := by decide +kernel
theorem dX7_join_15 : decode cX7_join 15 = .ok (.ireturn, 1) := by decide +kernel
theorem dX7_join_16 : decode cX7_join 16 = .ok (.aload_n 0, 1) := by decide +kernel
theorem dX7_join_17 : decode cX7_join 17 = .ok (.getfield 12, 3) := by decide +kernel
theorem dX7_join_20 : decode cX7_join 20 = .ok (.getfield 101, 3) := by decide +kernel
theorem dX7_join_23 : decode cX7_join 23 = .ok (.iload_n 1, 1) := by decide +kernel
theorem dX7_join_24 : decode cX7_join 24 = .ok (.iload_n 2, 1) := by decide +kernel
theorem dX7_join_25 : decode cX7_join 25 = .ok (.invokevirtual 117, 3) := by decide +kernel
theorem dX7_join_28 : decode cX7_join 28 = .ok (.ireturn, 1) := by decide +kernel
theorem dX7_knows_0 : decode cX7_knows 0 = .ok (.iload_n 1, 1) := by decide +kernel
theorem dX7_knows_1 : decode cX7_knows 1 = .ok (.invokestatic 69, 3) := by decide +kernel
theorem dX7_knows_4 : decode cX7_knows 4 = .ok (.ifCond .eq 21, 3) := by decide +kernel
theorem dX7_knows_7 : decode cX7_knows 7 = .ok (.iload_n 2, 1) := by decide +kernel
theorem dX7_knows_8 : decode cX7_knows 8 = .ok (.ifCond .lt 17, 3) := by decide +kernel
theorem dX7_knows_11 : decode cX7_knows 11 = .ok (.iload_n 2, 1) := by decide +kernel
theorem dX7_knows_12 : decode cX7_knows 12 = .ok (.aload_n 0, 1) := by decide +kernel
theorem dX7_knows_13 : decode cX7_knows 13 = .ok (.getfield 12, 3) := by decide +kernel
theorem dX7_knows_16 : decode cX7_knows 16 = .ok (.getfield 38, 3) := by decide +kernel
theorem dX7_knows_19 : decode cX7_knows 19 = .ok (.getfield 120, 3) := by decide +kernel
theorem dX7_knows_22 : decode cX7_knows 22 = .ok (.if_icmp .lt 5, 3) := by decide +kernel
theorem dX7_knows_25 : decode cX7_knows 25 = .ok (.iconst (-1), 1) := by decide +kernel
theorem dX7_knows_26 : decode cX7_knows 26 = .ok (.ireturn, 1) := by decide +kernel
theorem dX7_knows_27 : decode cX7_knows 27 = .ok (.aload_n 0, 1) := by decide +kernel
theorem dX7_knows_28 : decode cX7_knows 28 = .ok (.getfield 12, 3) := by decide +kernel
theorem dX7_knows_31 : decode cX7_knows 31 = .ok (.getfield 38, 3) := by decide +kernel
theorem dX7_knows_34 : decode cX7_knows 34 = .ok (.iload_n 2, 1) := by decide +kernel
theorem dX7_knows_35 : decode cX7_knows 35 = .ok (.aload_n 0, 1) := by decide +kernel
theorem dX7_knows_36 : decode cX7_knows 36 = .ok (.iload_n 1, 1) := by decide +kernel
theorem dX7_knows_37 : decode cX7_knows 37 = .ok (.invokevirtual 121, 3) := by decide +kernel
theorem dX7_knows_40 : decode cX7_knows 40 = .ok (.invokevirtual 125, 3) := by decide +kernel
theorem dX7_knows_43 : decode cX7_knows 43 = .ok (.istore 4, 2) := by decide +kernel
theorem dX7_knows_45 : decode cX7_knows 45 = .ok (.aload_n 0, 1) := by decide +kernel
theorem dX7_knows_46 : decode cX7_knows 46 = .ok (.getfield 12, 3) := by decide +kernel
theorem dX7_knows_49 : decode cX7_knows 49 = .ok (.getfield 38, 3) := by decide +kernel
theorem dX7_knows_52 : decode cX7_knows 52 = .ok (.getfield 60, 3) := by decide +kernel
theorem dX7_knows_55 : decode cX7_knows 55 = .ok (.iload_n 2, 1) := by decide +kernel
theorem dX7_knows_56 : decode cX7_knows 56 = .ok (.iaload, 1) := by decide +kernel
theorem dX7_knows_57 : decode cX7_knows 57 = .ok (.istore 5, 2) := by decide +kernel
theorem dX7_knows_59 : decode cX7_knows 59 = .ok (.iload_n 3, 1) := by decide +kernel
theorem dX7_knows_60 : decode cX7_knows 60 = .ok (.tableswitch 70 0 3 #[32, 41, 50, 56], 32) := by decide +kernel
theorem dX7_knows_92 : decode cX7_knows 92 = .ok (.iload 5, 2) := by decide +kernel
theorem dX7_knows_94 : decode cX7_knows 94 = .ok (.iload 4, 2) := by decide +kernel
theorem dX7_knows_96 : decode cX7_knows 96 = .ok (.invokestatic 129, 3) := by decide +kernel
theorem dX7_knows_99 : decode cX7_knows 99 = .ok (.iadd, 1) := by decide +kernel
theorem dX7_knows_100 : decode cX7_knows 100 = .ok (.ireturn, 1) := by decide +kernel
theorem dX7_knows_101 : decode cX7_knows 101 = .ok (.iload 5, 2) := by decide +kernel
theorem dX7_knows_103 : decode cX7_knows 103 = .ok (.iload 4, 2) := by decide +kernel
theorem dX7_knows_105 : decode cX7_knows 105 = .ok (.invokestatic 132, 3) := by decide +kernel
theorem dX7_knows_108 : decode cX7_knows 108 = .ok (.iadd, 1) := by decide +kernel
theorem dX7_knows_109 : decode cX7_knows 109 = .ok (.ireturn, 1) := by decide +kernel
theorem dX7_knows_110 : decode cX7_knows 110 = .ok (.iload 4, 2) := by decide +kernel
theorem dX7_knows_112 : decode cX7_knows 112 = .ok (.invokestatic 135, 3) := by decide +kernel
theorem dX7_knows_115 : decode cX7_knows 115 = .ok (.ireturn, 1) := by decide +kernel
theorem dX7_knows_116 : decode cX7_knows 116 = .ok (.iload 4, 2) := by decide +kernel
theorem dX7_knows_118 : decode cX7_knows 118 = .ok (.invokestatic 132, 3) := by decide +kernel
theorem dX7_knows_121 : decode cX7_knows 121 = .ok (.iload 4, 2) := by decide +kernel
theorem dX7_knows_123 : decode cX7_knows 123 = .ok (.invokestatic 129, 3) := by decide +kernel
theorem dX7_knows_126 : decode cX7_knows 126 = .ok (.isub, 1) := by decide +kernel
theorem dX7_knows_127 : decode cX7_knows 127 = .ok (.iconst 1, 1) := by decide +kernel
theorem dX7_knows_128 : decode cX7_knows 128 = .ok (.iadd, 1) := by decide +kernel
theorem dX7_knows_129 : decode cX7_knows 129 = .ok (.ireturn, 1) := by decide +kernel
theorem dX7_knows_130 : decode cX7_knows 130 = .ok (.iconst (-1), 1) := by decide +kernel
theorem dX7_knows_131 : decode cX7_knows 131 = .ok (.ireturn, 1) := by decide +kernel
theorem dX7_tables_0 : decode cX7_tables 0 = .ok (.iload_n 1, 1) := by decide +kernel
theorem dX7_tables_1 : decode cX7_tables 1 = .ok (.invokestatic 69, 3) := by decide +kernel
theorem dX7_tables_4 : decode cX7_tables 4 = .ok (.ifCond .eq 17, 3) := by decide +kernel
theorem dX7_tables_7 : decode cX7_tables 7 = .ok (.aload_n 0, 1) := by decide +kernel
theorem dX7_tables_8 : decode cX7_tables 8 = .ok (.getfield 12, 3) := by decide +kernel
theorem dX7_tables_11 : decode cX7_tables 11 = .ok (.getfield 101, 3) := by decide +kernel
theorem dX7_tables_14 : decode cX7_tables 14 = .ok (.iload_n 1, 1) := by decide +kernel
theorem dX7_tables_15 : decode cX7_tables 15 = .ok (.invokevirtual 140, 3) := by decide +kernel
theorem dX7_tables_18 : decode cX7_tables 18 = .ok (.goto 4, 3) := by decide +kernel
theorem dX7_tables_21 : decode cX7_tables 21 = .ok (.iconst (-1), 1) := by decide +kernel
theorem dX7_tables_22 : decode cX7_tables 22 = .ok (.ireturn, 1) := by decide +kernel
theorem dX7_broken_0 : decode cX7_broken 0 = .ok (.iload_n 1, 1) := by decide +kernel
theorem dX7_broken_1 : decode cX7_broken 1 = .ok (.invokestatic 69, 3) := by decide +kernel
theorem dX7_broken_4 : decode cX7_broken 4 = .ok (.ifCond .eq 25, 3) := by decide +kernel
theorem dX7_broken_7 : decode cX7_broken 7 = .ok (.aload_n 0, 1) := by decide +kernel
theorem dX7_broken_8 : decode cX7_broken 8 = .ok (.getfield 12, 3) := by decide +kernel
theorem dX7_broken_11 : decode cX7_broken 11 = .ok (.getfield 38, 3) := by decide +kernel
theorem dX7_broken_14 : decode cX7_broken 14 = .ok (.aload_n 0, 1) := by decide +kernel
theorem dX7_broken_15 : decode cX7_broken 15 = .ok (.iload_n 1, 1) := by decide +kernel
theorem dX7_broken_16 : decode cX7_broken 16 = .ok (.invokevirtual 121, 3) := by decide +kernel
theorem dX7_broken_19 : decode cX7_broken 19 = .ok (.invokevirtual 143, 3) := by decide +kernel
theorem dX7_broken_22 : decode cX7_broken 22 = .ok (.ifCond .ne 7, 3) := by decide +kernel
theorem dX7_broken_25 : decode cX7_broken 25 = .ok (.iconst 1, 1) := by decide +kernel
theorem dX7_broken_26 : decode cX7_broken 26 = .ok (.goto 4, 3) := by decide +kernel
theorem dX7_broken_29 : decode cX7_broken 29 = .ok (.iconst 0, 1) := by decide +kernel
theorem dX7_broken_30 : decode cX7_broken 30 = .ok (.ireturn, 1) := by decide +kernel
theorem dX7_tell_0 : decode cX7_tell 0 = .ok (.aload_n 0, 1) := by decide +kernel
theorem dX7_tell_1 : decode cX7_tell 1 = .ok (.getfield 12, 3) := by decide +kernel
theorem dX7_tell_4 : decode cX7_tell 4 = .ok (.getfield 38, 3) := by decide +kernel
theorem dX7_tell_7 : decode cX7_tell 7 = .ok (.astore_n 3, 1) := by decide +kernel
theorem dX7_tell_8 : decode cX7_tell 8 = .ok (.iload_n 2, 1) := by decide +kernel
theorem dX7_tell_9 : decode cX7_tell 9 = .ok (.ifCond .ne 10, 3) := by decide +kernel
theorem dX7_tell_12 : decode cX7_tell 12 = .ok (.aload_n 3, 1) := by decide +kernel
theorem dX7_tell_13 : decode cX7_tell 13 = .ok (.getfield 42, 3) := by decide +kernel
theorem dX7_tell_16 : decode cX7_tell 16 = .ok (.goto 7, 3) := by decide +kernel
theorem dX7_tell_19 : decode cX7_tell 19 = .ok (.aload_n 3, 1) := by decide +kernel
theorem dX7_tell_20 : decode cX7_tell 20 = .ok (.getfield 120, 3) := by decide +kernel
theorem dX7_tell_23 : decode cX7_tell 23 = .ok (.istore 4, 2) := by decide +kernel
theorem dX7_tell_25 : decode cX7_tell 25 = .ok (.iload_n 1, 1) := by decide +kernel
theorem dX7_tell_26 : decode cX7_tell 26 = .ok (.ifCond .lt 9, 3) := by decide +kernel
theorem dX7_tell_29 : decode cX7_tell 29 = .ok (.iload_n 1, 1) := by decide +kernel
theorem dX7_tell_30 : decode cX7_tell 30 = .ok (.iload 4, 2) := by decide +kernel
theorem dX7_tell_32 : decode cX7_tell 32 = .ok (.if_icmp .lt 5, 3) := by decide +kernel
theorem dX7_tell_35 : decode cX7_tell 35 = .ok (.iconst (-1), 1) := by decide +kernel
theorem dX7_tell_36 : decode cX7_tell 36 = .ok (.ireturn, 1) := by decide +kernel
theorem dX7_tell_37 : decode cX7_tell 37 = .ok (.iload_n 2, 1) := by decide +kernel
theorem dX7_tell_38 : decode cX7_tell 38 = .ok (.tableswitch 98 0 6 #[42, 49, 56, 63, 70, 77, 91], 42) := by decide +kernel
theorem dX7_tell_80 : decode cX7_tell 80 = .ok (.aload_n 3, 1) := by decide +kernel
theorem dX7_tell_81 : decode cX7_tell 81 = .ok (.getfield 56, 3) := by decide +kernel
theorem dX7_tell_84 : decode cX7_tell 84 = .ok (.iload_n 1, 1) := by decide +kernel
theorem dX7_tell_85 : decode cX7_tell 85 = .ok (.iaload, 1) := by decide +kernel
theorem dX7_tell_86 : decode cX7_tell 86 = .ok (.ireturn, 1) := by decide +kernel
theorem dX7_tell_87 : decode cX7_tell 87 = .ok (.aload_n 3, 1) := by decide +kernel
theorem dX7_tell_88 : decode cX7_tell 88 = .ok (.getfield 147, 3) := by decide +kernel
theorem dX7_tell_91 : decode cX7_tell 91 = .ok (.iload_n 1, 1) := by decide +kernel
theorem dX7_tell_92 : decode cX7_tell 92 = .ok (.iaload, 1) := by decide +kernel
theorem dX7_tell_93 : decode cX7_tell 93 = .ok (.ireturn, 1) := by decide +kernel
theorem dX7_tell_94 : decode cX7_tell 94 = .ok (.aload_n 3, 1) := by decide +kernel
theorem dX7_tell_95 : decode cX7_tell 95 = .ok (.getfield 60, 3) := by decide +kernel
theorem dX7_tell_98 : decode cX7_tell 98 = .ok (.iload_n 1, 1) := by decide +kernel
theorem dX7_tell_99 : decode cX7_tell 99 = .ok (.iaload, 1) := by decide +kernel
theorem dX7_tell_100 : decode cX7_tell 100 = .ok (.ireturn, 1) := by decide +kernel
theorem dX7_tell_101 : decode cX7_tell 101 = .ok (.aload_n 3, 1) := by decide +kernel
theorem dX7_tell_102 : decode cX7_tell 102 = .ok (.getfield 63, 3) := by decide +kernel
theorem dX7_tell_105 : decode cX7_tell 105 = .ok (.iload_n 1, 1) := by decide +kernel
theorem dX7_tell_106 : decode cX7_tell 106 = .ok (.iaload, 1) := by decide +kernel
theorem dX7_tell_107 : decode cX7_tell 107 = .ok (.ireturn, 1) := by decide +kernel
theorem dX7_tell_108 : decode cX7_tell 108 = .ok (.aload_n 3, 1) := by decide +kernel
theorem dX7_tell_109 : decode cX7_tell 109 = .ok (.getfield 66, 3) := by decide +kernel
theorem dX7_tell_112 : decode cX7_tell 112 = .ok (.iload_n 1, 1) := by decide +kernel
theorem dX7_tell_113 : decode cX7_tell 113 = .ok (.iaload, 1) := by decide +kernel
theorem dX7_tell_114 : decode cX7_tell 114 = .ok (.ireturn, 1) := by decide +kernel
theorem dX7_tell_115 : decode cX7_tell 115 = .ok (.aload_n 3, 1) := by decide +kernel
theorem dX7_tell_116 : decode cX7_tell 116 = .ok (.iload_n 1, 1) := by decide +kernel
theorem dX7_tell_117 : decode cX7_tell 117 = .ok (.invokevirtual 150, 3) := by decide +kernel
theorem dX7_tell_120 : decode cX7_tell 120 = .ok (.ifCond .eq 7, 3) := by decide +kernel
theorem dX7_tell_123 : decode cX7_tell 123 = .ok (.iconst 1, 1) := by decide +kernel
theorem dX7_tell_124 : decode cX7_tell 124 = .ok (.goto 4, 3) := by decide +kernel
theorem dX7_tell_127 : decode cX7_tell 127 = .ok (.iconst 0, 1) := by decide +kernel
theorem dX7_tell_128 : decode cX7_tell 128 = .ok (.ireturn, 1) := by decide +kernel
theorem dX7_tell_129 : decode cX7_tell 129 = .ok (.aload_n 3, 1) := by decide +kernel
theorem dX7_tell_130 : decode cX7_tell 130 = .ok (.getfield 153, 3) := by decide +kernel
theorem dX7_tell_133 : decode cX7_tell 133 = .ok (.iload_n 1, 1) := by decide +kernel
theorem dX7_tell_134 : decode cX7_tell 134 = .ok (.iaload, 1) := by decide +kernel
theorem dX7_tell_135 : decode cX7_tell 135 = .ok (.ireturn, 1) := by decide +kernel
theorem dX7_tell_136 : decode cX7_tell 136 = .ok (.iconst (-1), 1) := by decide +kernel
theorem dX7_tell_137 : decode cX7_tell 137 = .ok (.ireturn, 1) := by decide +kernel
theorem dX7_asked_0 : decode cX7_asked 0 = .ok (.iload_n 1, 1) := by decide +kernel
theorem dX7_asked_1 : decode cX7_asked 1 = .ok (.ifCond .lt 26, 3) := by decide +kernel
theorem dX7_asked_4 : decode cX7_asked 4 = .ok (.iload_n 1, 1) := by decide +kernel
theorem dX7_asked_5 : decode cX7_asked 5 = .ok (.aload_n 0, 1) := by decide +kernel
theorem dX7_asked_6 : decode cX7_asked 6 = .ok (.getfield 12, 3) := by decide +kernel
theorem dX7_asked_9 : decode cX7_asked 9 = .ok (.getfield 77, 3) := by decide +kernel
theorem dX7_asked_12 : decode cX7_asked 12 = .ok (.getfield 81, 3) := by decide +kernel
theorem dX7_asked_15 : decode cX7_asked 15 = .ok (.if_icmp .ge 12, 3) := by decide +kernel
theorem dX7_asked_18 : decode cX7_asked 18 = .ok (.iload_n 2, 1) := by decide +kernel
theorem dX7_asked_19 : decode cX7_asked 19 = .ok (.ifCond .lt 8, 3) := by decide +kernel
theorem dX7_asked_22 : decode cX7_asked 22 = .ok (.iload_n 2, 1) := by decide +kernel
theorem dX7_asked_23 : decode cX7_asked 23 = .ok (.iconst 5, 1) := by decide +kernel
theorem dX7_asked_24 : decode cX7_asked 24 = .ok (.if_icmp .lt 5, 3) := by decide +kernel
theorem dX7_asked_27 : decode cX7_asked 27 = .ok (.iconst (-1), 1) := by decide +kernel
theorem dX7_asked_28 : decode cX7_asked 28 = .ok (.ireturn, 1) := by decide +kernel
theorem dX7_asked_29 : decode cX7_asked 29 = .ok (.aload_n 0, 1) := by decide +kernel
theorem dX7_asked_30 : decode cX7_asked 30 = .ok (.getfield 12, 3) := by decide +kernel
theorem dX7_asked_33 : decode cX7_asked 33 = .ok (.getfield 77, 3) := by decide +kernel
theorem dX7_asked_36 : decode cX7_asked 36 = .ok (.getfield 156, 3) := by decide +kernel
theorem dX7_asked_39 : decode cX7_asked 39 = .ok (.iload_n 2, 1) := by decide +kernel
theorem dX7_asked_40 : decode cX7_asked 40 = .ok (.aaload, 1) := by decide +kernel
theorem dX7_asked_41 : decode cX7_asked 41 = .ok (.iload_n 1, 1) := by decide +kernel
theorem dX7_asked_42 : decode cX7_asked 42 = .ok (.iaload, 1) := by decide +kernel
theorem dX7_asked_43 : decode cX7_asked 43 = .ok (.ireturn, 1) := by decide +kernel
theorem dX7_wish_0 : decode cX7_wish 0 = .ok (.iload_n 1, 1) := by decide +kernel
theorem dX7_wish_1 : decode cX7_wish 1 = .ok (.iload_n 3, 1) := by decide +kernel
theorem dX7_wish_2 : decode cX7_wish 2 = .ok (.invokestatic 73, 3) := by decide +kernel
theorem dX7_wish_5 : decode cX7_wish 5 = .ok (.ifCond .eq 18, 3) := by decide +kernel
theorem dX7_wish_8 : decode cX7_wish 8 = .ok (.aload_n 0, 1) := by decide +kernel
theorem dX7_wish_9 : decode cX7_wish 9 = .ok (.getfield 12, 3) := by decide +kernel
theorem dX7_wish_12 : decode cX7_wish 12 = .ok (.getfield 160, 3) := by decide +kernel
theorem dX7_wish_15 : decode cX7_wish 15 = .ok (.getfield 164, 3) := by decide +kernel
theorem dX7_wish_18 : decode cX7_wish 18 = .ok (.bipush 8, 2) := by decide +kernel
theorem dX7_wish_20 : decode cX7_wish 20 = .ok (.if_icmp .lt 5, 3) := by decide +kernel
theorem dX7_wish_23 : decode cX7_wish 23 = .ok (.iconst (-1), 1) := by decide +kernel
theorem dX7_wish_24 : decode cX7_wish 24 = .ok (.ireturn, 1) := by decide +kernel
theorem dX7_wish_25 : decode cX7_wish 25 = .ok (.aload_n 0, 1) := by decide +kernel
theorem dX7_wish_26 : decode cX7_wish 26 = .ok (.getfield 12, 3) := by decide +kernel
theorem dX7_wish_29 : decode cX7_wish 29 = .ok (.getfield 160, 3) := by decide +kernel
theorem dX7_wish_32 : decode cX7_wish 32 = .ok (.iload_n 1, 1) := by decide +kernel
theorem dX7_wish_33 : decode cX7_wish 33 = .ok (.aload_n 0, 1) := by decide +kernel
theorem dX7_wish_34 : decode cX7_wish 34 = .ok (.getfield 12, 3) := by decide +kernel
theorem dX7_wish_37 : decode cX7_wish 37 = .ok (.getfield 38, 3) := by decide +kernel
theorem dX7_wish_40 : decode cX7_wish 40 = .ok (.iload_n 2, 1) := by decide +kernel
theorem dX7_wish_41 : decode cX7_wish 41 = .ok (.invokevirtual 86, 3) := by decide +kernel
theorem dX7_wish_44 : decode cX7_wish 44 = .ok (.iload_n 3, 1) := by decide +kernel
theorem dX7_wish_45 : decode cX7_wish 45 = .ok (.invokevirtual 167, 3) := by decide +kernel
theorem dX7_wish_48 : decode cX7_wish 48 = .ok (.ireturn, 1) := by decide +kernel
theorem dX7_clear_0 : decode cX7_clear 0 = .ok (.aload_n 0, 1) := by decide +kernel
theorem dX7_clear_1 : decode cX7_clear 1 = .ok (.getfield 12, 3) := by decide +kernel
theorem dX7_clear_4 : decode cX7_clear 4 = .ok (.getfield 160, 3) := by decide +kernel
theorem dX7_clear_7 : decode cX7_clear 7 = .ok (.iconst 0, 1) := by decide +kernel
theorem dX7_clear_8 : decode cX7_clear 8 = .ok (.putfield 164, 3) := by decide +kernel
theorem dX7_clear_11 : decode cX7_clear 11 = .ok (.return_, 1) := by decide +kernel
theorem dX7_most_0 : decode cX7_most 0 = .ok (.iload_n 1, 1) := by decide +kernel
theorem dX7_most_1 : decode cX7_most 1 = .ok (.invokestatic 69, 3) := by decide +kernel
theorem dX7_most_4 : decode cX7_most 4 = .ok (.ifCond .ne 5, 3) := by decide +kernel
theorem dX7_most_7 : decode cX7_most 7 = .ok (.iconst (-1), 1) := by decide +kernel
theorem dX7_most_8 : decode cX7_most 8 = .ok (.ireturn, 1) := by decide +kernel
theorem dX7_most_9 : decode cX7_most 9 = .ok (.aload_n 0, 1) := by decide +kernel
theorem dX7_most_10 : decode cX7_most 10 = .ok (.iload_n 1, 1) := by decide +kernel
theorem dX7_most_11 : decode cX7_most 11 = .ok (.invokevirtual 170, 3) := by decide +kernel
theorem dX7_most_14 : decode cX7_most 14 = .ok (.aload_n 0, 1) := by decide +kernel
theorem dX7_most_15 : decode cX7_most 15 = .ok (.getfield 34, 3) := by decide +kernel
theorem dX7_most_18 : decode cX7_most 18 = .ok (.iconst 0, 1) := by decide +kernel
theorem dX7_most_19 : decode cX7_most 19 = .ok (.iconst 0, 1) := by decide +kernel
theorem dX7_most_20 : decode cX7_most 20 = .ok (.aload_n 0, 1) := by decide +kernel
theorem dX7_most_21 : decode cX7_most 21 = .ok (.getfield 12, 3) := by decide +kernel
theorem dX7_most_24 : decode cX7_most 24 = .ok (.getfield 160, 3) := by decide +kernel
theorem dX7_most_27 : decode cX7_most 27 = .ok (.getfield 164, 3) := by decide +kernel
theorem dX7_most_30 : decode cX7_most 30 = .ok (.iconst 0, 1) := by decide +kernel
theorem dX7_most_31 : decode cX7_most 31 = .ok (.invokestatic 174, 3) := by decide +kernel
theorem dX7_most_34 : decode cX7_most 34 = .ok (.ireturn, 1) := by decide +kernel
theorem dX7_together_0 : decode cX7_together 0 = .ok (.iload_n 1, 1) := by decide +kernel
theorem dX7_together_1 : decode cX7_together 1 = .ok (.invokestatic 69, 3) := by decide +kernel
theorem dX7_together_4 : decode cX7_together 4 = .ok (.ifCond .eq 23, 3) := by decide +kernel
theorem dX7_together_7 : decode cX7_together 7 = .ok (.iload_n 2, 1) := by decide +kernel
theorem dX7_together_8 : decode cX7_together 8 = .ok (.ifCond .lt 19, 3) := by decide +kernel
theorem dX7_together_11 : decode cX7_together 11 = .ok (.iload_n 2, 1) := by decide +kernel
theorem dX7_together_12 : decode cX7_together 12 = .ok (.iconst 1, 1) := by decide +kernel
theorem dX7_together_13 : decode cX7_together 13 = .ok (.aload_n 0, 1) := by decide +kernel
theorem dX7_together_14 : decode cX7_together 14 = .ok (.getfield 12, 3) := by decide +kernel
theorem dX7_together_17 : decode cX7_together 17 = .ok (.getfield 160, 3) := by decide +kernel
theorem dX7_together_20 : decode cX7_together 20 = .ok (.getfield 164, 3) := by decide +kernel
theorem dX7_together_23 : decode cX7_together 23 = .ok (.ishl, 1) := by decide +kernel
theorem dX7_together_24 : decode cX7_together 24 = .ok (.if_icmp .lt 5, 3) := by decide +kernel
theorem dX7_together_27 : decode cX7_together 27 = .ok (.iconst 0, 1) := by decide +kernel
theorem dX7_together_28 : decode cX7_together 28 = .ok (.ireturn, 1) := by decide +kernel
theorem dX7_together_29 : decode cX7_together 29 = .ok (.iload_n 2, 1) := by decide +kernel
theorem dX7_together_30 : decode cX7_together 30 = .ok (.ifCond .ne 5, 3) := by decide +kernel
theorem dX7_together_33 : decode cX7_together 33 = .ok (.iconst 1, 1) := by decide +kernel
theorem dX7_together_34 : decode cX7_together 34 = .ok (.ireturn, 1) := by decide +kernel
theorem dX7_together_35 : decode cX7_together 35 = .ok (.aload_n 0, 1) := by decide +kernel
theorem dX7_together_36 : decode cX7_together 36 = .ok (.iload_n 1, 1) := by decide +kernel
theorem dX7_together_37 : decode cX7_together 37 = .ok (.invokevirtual 170, 3) := by decide +kernel
theorem dX7_together_40 : decode cX7_together 40 = .ok (.aload_n 0, 1) := by decide +kernel
theorem dX7_together_41 : decode cX7_together 41 = .ok (.getfield 34, 3) := by decide +kernel
theorem dX7_together_44 : decode cX7_together 44 = .ok (.iload_n 2, 1) := by decide +kernel
theorem dX7_together_45 : decode cX7_together 45 = .ok (.invokevirtual 178, 3) := by decide +kernel
theorem dX7_together_48 : decode cX7_together 48 = .ok (.ireturn, 1) := by decide +kernel
theorem dX7_count_0 : decode cX7_count 0 = .ok (.iload_n 1, 1) := by decide +kernel
theorem dX7_count_1 : decode cX7_count 1 = .ok (.tableswitch 120 0 6 #[43, 54, 65, 76, 87, 98, 109], 43) := by decide +kernel
theorem dX7_count_44 : decode cX7_count 44 = .ok (.aload_n 0, 1) := by decide +kernel
theorem dX7_count_45 : decode cX7_count 45 = .ok (.getfield 12, 3) := by decide +kernel
theorem dX7_count_48 : decode cX7_count 48 = .ok (.getfield 38, 3) := by decide +kernel
theorem dX7_count_51 : decode cX7_count 51 = .ok (.getfield 42, 3) := by decide +kernel
theorem dX7_count_54 : decode cX7_count 54 = .ok (.ireturn, 1) := by decide +kernel
theorem dX7_count_55 : decode cX7_count 55 = .ok (.aload_n 0, 1) := by decide +kernel
theorem dX7_count_56 : decode cX7_count 56 = .ok (.getfield 12, 3) := by decide +kernel
theorem dX7_count_59 : decode cX7_count 59 = .ok (.getfield 38, 3) := by decide +kernel
theorem dX7_count_62 : decode cX7_count 62 = .ok (.getfield 120, 3) := by decide +kernel
theorem dX7_count_65 : decode cX7_count 65 = .ok (.ireturn, 1) := by decide +kernel
theorem dX7_count_66 : decode cX7_count 66 = .ok (.aload_n 0, 1) := by decide +kernel
theorem dX7_count_67 : decode cX7_count 67 = .ok (.getfield 12, 3) := by decide +kernel
theorem dX7_count_70 : decode cX7_count 70 = .ok (.getfield 38, 3) := by decide +kernel
theorem dX7_count_73 : decode cX7_count 73 = .ok (.getfield 105, 3) := by decide +kernel
theorem dX7_count_76 : decode cX7_count 76 = .ok (.ireturn, 1) := by decide +kernel
theorem dX7_count_77 : decode cX7_count 77 = .ok (.aload_n 0, 1) := by decide +kernel
theorem dX7_count_78 : decode cX7_count 78 = .ok (.getfield 12, 3) := by decide +kernel
theorem dX7_count_81 : decode cX7_count 81 = .ok (.getfield 77, 3) := by decide +kernel
theorem dX7_count_84 : decode cX7_count 84 = .ok (.getfield 81, 3) := by decide +kernel
theorem dX7_count_87 : decode cX7_count 87 = .ok (.ireturn, 1) := by decide +kernel
theorem dX7_count_88 : decode cX7_count 88 = .ok (.aload_n 0, 1) := by decide +kernel
theorem dX7_count_89 : decode cX7_count 89 = .ok (.getfield 12, 3) := by decide +kernel
theorem dX7_count_92 : decode cX7_count 92 = .ok (.getfield 77, 3) := by decide +kernel
theorem dX7_count_95 : decode cX7_count 95 = .ok (.getfield 181, 3) := by decide +kernel
theorem dX7_count_98 : decode cX7_count 98 = .ok (.ireturn, 1) := by decide +kernel
theorem dX7_count_99 : decode cX7_count 99 = .ok (.aload_n 0, 1) := by decide +kernel
theorem dX7_count_100 : decode cX7_count 100 = .ok (.getfield 12, 3) := by decide +kernel
theorem dX7_count_103 : decode cX7_count 103 = .ok (.getfield 160, 3) := by decide +kernel
theorem dX7_count_106 : decode cX7_count 106 = .ok (.getfield 164, 3) := by decide +kernel
theorem dX7_count_109 : decode cX7_count 109 = .ok (.ireturn, 1) := by decide +kernel
theorem dX7_count_110 : decode cX7_count 110 = .ok (.aload_n 0, 1) := by decide +kernel
theorem dX7_count_111 : decode cX7_count 111 = .ok (.getfield 12, 3) := by decide +kernel
theorem dX7_count_114 : decode cX7_count 114 = .ok (.getfield 101, 3) := by decide +kernel
theorem dX7_count_117 : decode cX7_count 117 = .ok (.invokevirtual 184, 3) := by decide +kernel
theorem dX7_count_120 : decode cX7_count 120 = .ok (.ireturn, 1) := by decide +kernel
theorem dX7_count_121 : decode cX7_count 121 = .ok (.iconst (-1), 1) := by decide +kernel
theorem dX7_count_122 : decode cX7_count 122 = .ok (.ireturn, 1) := by decide +kernel
theorem dX7_image_0 : decode cX7_image 0 = .ok (.iload_n 1, 1) := by decide +kernel
theorem dX7_image_1 : decode cX7_image 1 = .ok (.ifCond .lt 8, 3) := by decide +kernel
theorem dX7_image_4 : decode cX7_image 4 = .ok (.iload_n 1, 1) := by decide +kernel
theorem dX7_image_5 : decode cX7_image 5 = .ok (.iconst 3, 1) := by decide +kernel
theorem dX7_image_6 : decode cX7_image 6 = .ok (.if_icmp .lt 5, 3) := by decide +kernel
theorem dX7_image_9 : decode cX7_image 9 = .ok (.iconst 0, 1) := by decide +kernel
theorem dX7_image_10 : decode cX7_image 10 = .ok (.ireturn, 1) := by decide +kernel
theorem dX7_image_11 : decode cX7_image 11 = .ok (.aload_n 0, 1) := by decide +kernel
theorem dX7_image_12 : decode cX7_image 12 = .ok (.getfield 16, 3) := by decide +kernel
theorem dX7_image_15 : decode cX7_image 15 = .ok (.iload_n 1, 1) := by decide +kernel
theorem dX7_image_16 : decode cX7_image 16 = .ok (.aaload, 1) := by decide +kernel
theorem dX7_image_17 : decode cX7_image 17 = .ok (.aload_n 0, 1) := by decide +kernel
theorem dX7_image_18 : decode cX7_image 18 = .ok (.getfield 12, 3) := by decide +kernel
theorem dX7_image_21 : decode cX7_image 21 = .ok (.invokevirtual 187, 3) := by decide +kernel
theorem dX7_image_24 : decode cX7_image 24 = .ok (.aload_n 0, 1) := by decide +kernel
theorem dX7_image_25 : decode cX7_image 25 = .ok (.getfield 20, 3) := by decide +kernel
theorem dX7_image_28 : decode cX7_image 28 = .ok (.iload_n 1, 1) := by decide +kernel
theorem dX7_image_29 : decode cX7_image 29 = .ok (.iconst 1, 1) := by decide +kernel
theorem dX7_image_30 : decode cX7_image 30 = .ok (.bastore, 1) := by decide +kernel
theorem dX7_image_31 : decode cX7_image 31 = .ok (.iconst 1, 1) := by decide +kernel
theorem dX7_image_32 : decode cX7_image 32 = .ok (.ireturn, 1) := by decide +kernel
theorem dX7_again_0 : decode cX7_again 0 = .ok (.iload_n 1, 1) := by decide +kernel
theorem dX7_again_1 : decode cX7_again 1 = .ok (.ifCond .lt 17, 3) := by decide +kernel
theorem dX7_again_4 : decode cX7_again 4 = .ok (.iload_n 1, 1) := by decide +kernel
theorem dX7_again_5 : decode cX7_again 5 = .ok (.iconst 3, 1) := by decide +kernel
theorem dX7_again_6 : decode cX7_again 6 = .ok (.if_icmp .ge 12, 3) := by decide +kernel
theorem dX7_again_9 : decode cX7_again 9 = .ok (.aload_n 0, 1) := by decide +kernel
theorem dX7_again_10 : decode cX7_again 10 = .ok (.getfield 20, 3) := by decide +kernel
theorem dX7_again_13 : decode cX7_again 13 = .ok (.iload_n 1, 1) := by decide +kernel
theorem dX7_again_14 : decode cX7_again 14 = .ok (.baload, 1) := by decide +kernel
theorem dX7_again_15 : decode cX7_again 15 = .ok (.ifCond .ne 5, 3) := by decide +kernel
theorem dX7_again_18 : decode cX7_again 18 = .ok (.iconst 0, 1) := by decide +kernel
theorem dX7_again_19 : decode cX7_again 19 = .ok (.ireturn, 1) := by decide +kernel
theorem dX7_again_20 : decode cX7_again 20 = .ok (.aload_n 0, 1) := by decide +kernel
theorem dX7_again_21 : decode cX7_again 21 = .ok (.getfield 12, 3) := by decide +kernel
theorem dX7_again_24 : decode cX7_again 24 = .ok (.aload_n 0, 1) := by decide +kernel
theorem dX7_again_25 : decode cX7_again 25 = .ok (.getfield 16, 3) := by decide +kernel
theorem dX7_again_28 : decode cX7_again 28 = .ok (.iload_n 1, 1) := by decide +kernel
theorem dX7_again_29 : decode cX7_again 29 = .ok (.aaload, 1) := by decide +kernel
theorem dX7_again_30 : decode cX7_again 30 = .ok (.invokevirtual 187, 3) := by decide +kernel
theorem dX7_again_33 : decode cX7_again 33 = .ok (.iconst 1, 1) := by decide +kernel
theorem dX7_again_34 : decode cX7_again 34 = .ok (.ireturn, 1) := by decide +kernel
theorem dX7_isAsker_0 : decode cX7_isAsker 0 = .ok (.iload_n 0, 1) := by decide +kernel
theorem dX7_isAsker_1 : decode cX7_isAsker 1 = .ok (.ifCond .lt 12, 3) := by decide +kernel
theorem dX7_isAsker_4 : decode cX7_isAsker 4 = .ok (.iload_n 0, 1) := by decide +kernel
theorem dX7_isAsker_5 : decode cX7_isAsker 5 = .ok (.iconst 4, 1) := by decide +kernel
theorem dX7_isAsker_6 : decode cX7_isAsker 6 = .ok (.if_icmp .ge 7, 3) := by decide +kernel
theorem dX7_isAsker_9 : decode cX7_isAsker 9 = .ok (.iconst 1, 1) := by decide +kernel
theorem dX7_isAsker_10 : decode cX7_isAsker 10 = .ok (.goto 4, 3) := by decide +kernel
theorem dX7_isAsker_13 : decode cX7_isAsker 13 = .ok (.iconst 0, 1) := by decide +kernel
theorem dX7_isAsker_14 : decode cX7_isAsker 14 = .ok (.ireturn, 1) := by decide +kernel
theorem dX7_isQuestion_0 : decode cX7_isQuestion 0 = .ok (.iload_n 0, 1) := by decide +kernel
theorem dX7_isQuestion_1 : decode cX7_isQuestion 1 = .ok (.tableswitch 66 0 3 #[31, 48, 64, 64], 31) := by decide +kernel
theorem dX7_isQuestion_32 : decode cX7_isQuestion 32 = .ok (.iload_n 1, 1) := by decide +kernel
theorem dX7_isQuestion_33 : decode cX7_isQuestion 33 = .ok (.iconst 1, 1) := by decide +kernel
theorem dX7_isQuestion_34 : decode cX7_isQuestion 34 = .ok (.if_icmp .lt 13, 3) := by decide +kernel
theorem dX7_isQuestion_37 : decode cX7_isQuestion 37 = .ok (.iload_n 1, 1) := by decide +kernel
theorem dX7_isQuestion_38 : decode cX7_isQuestion 38 = .ok (.bipush 20, 2) := by decide +kernel
theorem dX7_isQuestion_40 : decode cX7_isQuestion 40 = .ok (.if_icmp .gt 7, 3) := by decide +kernel
theorem dX7_isQuestion_43 : decode cX7_isQuestion 43 = .ok (.iconst 1, 1) := by decide +kernel
theorem dX7_isQuestion_44 : decode cX7_isQuestion 44 = .ok (.goto 4, 3) := by decide +kernel
theorem dX7_isQuestion_47 : decode cX7_isQuestion 47 = .ok (.iconst 0, 1) := by decide +kernel
theorem dX7_isQuestion_48 : decode cX7_isQuestion 48 = .ok (.ireturn, 1) := by decide +kernel
theorem dX7_isQuestion_49 : decode cX7_isQuestion 49 = .ok (.iload_n 1, 1) := by decide +kernel
theorem dX7_isQuestion_50 : decode cX7_isQuestion 50 = .ok (.ifCond .lt 13, 3) := by decide +kernel
theorem dX7_isQuestion_53 : decode cX7_isQuestion 53 = .ok (.iload_n 1, 1) := by decide +kernel
theorem dX7_isQuestion_54 : decode cX7_isQuestion 54 = .ok (.bipush 20, 2) := by decide +kernel
theorem dX7_isQuestion_56 : decode cX7_isQuestion 56 = .ok (.if_icmp .gt 7, 3) := by decide +kernel
theorem dX7_isQuestion_59 : decode cX7_isQuestion 59 = .ok (.iconst 1, 1) := by decide +kernel
theorem dX7_isQuestion_60 : decode cX7_isQuestion 60 = .ok (.goto 4, 3) := by decide +kernel
theorem dX7_isQuestion_63 : decode cX7_isQuestion 63 = .ok (.iconst 0, 1) := by decide +kernel
theorem dX7_isQuestion_64 : decode cX7_isQuestion 64 = .ok (.ireturn, 1) := by decide +kernel
theorem dX7_isQuestion_65 : decode cX7_isQuestion 65 = .ok (.iconst 1, 1) := by decide +kernel
theorem dX7_isQuestion_66 : decode cX7_isQuestion 66 = .ok (.ireturn, 1) := by decide +kernel
theorem dX7_isQuestion_67 : decode cX7_isQuestion 67 = .ok (.iconst 0, 1) := by decide +kernel
theorem dX7_isQuestion_68 : decode cX7_isQuestion 68 = .ok (.ireturn, 1) := by decide +kernel
theorem dX7_holdsBit_0 : decode cX7_holdsBit 0 = .ok (.iload_n 0, 1) := by decide +kernel
theorem dX7_holdsBit_1 : decode cX7_holdsBit 1 = .ok (.iload_n 1, 1) := by decide +kernel
theorem dX7_holdsBit_2 : decode cX7_holdsBit 2 = .ok (.ishr, 1) := by decide +kernel
theorem dX7_holdsBit_3 : decode cX7_holdsBit 3 = .ok (.iconst 1, 1) := by decide +kernel
theorem dX7_holdsBit_4 : decode cX7_holdsBit 4 = .ok (.iand, 1) := by decide +kernel
theorem dX7_holdsBit_5 : decode cX7_holdsBit 5 = .ok (.ifCond .eq 7, 3) := by decide +kernel
theorem dX7_holdsBit_8 : decode cX7_holdsBit 8 = .ok (.iconst 1, 1) := by decide +kernel
theorem dX7_holdsBit_9 : decode cX7_holdsBit 9 = .ok (.goto 4, 3) := by decide +kernel
theorem dX7_holdsBit_12 : decode cX7_holdsBit 12 = .ok (.iconst 0, 1) := by decide +kernel
theorem dX7_holdsBit_13 : decode cX7_holdsBit 13 = .ok (.ireturn, 1) := by decide +kernel
theorem dX7_lowestBit_0 : decode cX7_lowestBit 0 = .ok (.iconst 0, 1) := by decide +kernel
theorem dX7_lowestBit_1 : decode cX7_lowestBit 1 = .ok (.istore_n 1, 1) := by decide +kernel
theorem dX7_lowestBit_2 : decode cX7_lowestBit 2 = .ok (.iload_n 1, 1) := by decide +kernel
theorem dX7_lowestBit_3 : decode cX7_lowestBit 3 = .ok (.bipush 20, 2) := by decide +kernel
theorem dX7_lowestBit_5 : decode cX7_lowestBit 5 = .ok (.if_icmp .ge 17, 3) := by decide +kernel
theorem dX7_lowestBit_8 : decode cX7_lowestBit 8 = .ok (.iload_n 0, 1) := by decide +kernel
theorem dX7_lowestBit_9 : decode cX7_lowestBit 9 = .ok (.iload_n 1, 1) := by decide +kernel
theorem dX7_lowestBit_10 : decode cX7_lowestBit 10 = .ok (.invokestatic 191, 3) := by decide +kernel
theorem dX7_lowestBit_13 : decode cX7_lowestBit 13 = .ok (.ifCond .ne 9, 3) := by decide +kernel
theorem dX7_lowestBit_16 : decode cX7_lowestBit 16 = .ok (.iinc 1 1, 3) := by decide +kernel
theorem dX7_lowestBit_19 : decode cX7_lowestBit 19 = .ok (.goto (-17), 3) := by decide +kernel
theorem dX7_lowestBit_22 : decode cX7_lowestBit 22 = .ok (.iload_n 1, 1) := by decide +kernel
theorem dX7_lowestBit_23 : decode cX7_lowestBit 23 = .ok (.ireturn, 1) := by decide +kernel
theorem dX7_highestBit_0 : decode cX7_highestBit 0 = .ok (.bipush 20, 2) := by decide +kernel
theorem dX7_highestBit_2 : decode cX7_highestBit 2 = .ok (.istore_n 1, 1) := by decide +kernel
theorem dX7_highestBit_3 : decode cX7_highestBit 3 = .ok (.iload_n 1, 1) := by decide +kernel
theorem dX7_highestBit_4 : decode cX7_highestBit 4 = .ok (.ifCond .le 17, 3) := by decide +kernel
theorem dX7_highestBit_7 : decode cX7_highestBit 7 = .ok (.iload_n 0, 1) := by decide +kernel
theorem dX7_highestBit_8 : decode cX7_highestBit 8 = .ok (.iload_n 1, 1) := by decide +kernel
theorem dX7_highestBit_9 : decode cX7_highestBit 9 = .ok (.invokestatic 191, 3) := by decide +kernel
theorem dX7_highestBit_12 : decode cX7_highestBit 12 = .ok (.ifCond .ne 9, 3) := by decide +kernel
theorem dX7_highestBit_15 : decode cX7_highestBit 15 = .ok (.iinc 1 (-1), 3) := by decide +kernel
theorem dX7_highestBit_18 : decode cX7_highestBit 18 = .ok (.goto (-15), 3) := by decide +kernel
theorem dX7_highestBit_21 : decode cX7_highestBit 21 = .ok (.iload_n 1, 1) := by decide +kernel
theorem dX7_highestBit_22 : decode cX7_highestBit 22 = .ok (.ireturn, 1) := by decide +kernel
theorem dX7_judge_0 : decode cX7_judge 0 = .ok (.aload_n 0, 1) := by decide +kernel
theorem dX7_judge_1 : decode cX7_judge 1 = .ok (.getfield 27, 3) := by decide +kernel
theorem dX7_judge_4 : decode cX7_judge 4 = .ok (.aload_n 0, 1) := by decide +kernel
theorem dX7_judge_5 : decode cX7_judge 5 = .ok (.getfield 12, 3) := by decide +kernel
theorem dX7_judge_8 : decode cX7_judge 8 = .ok (.getfield 38, 3) := by decide +kernel
theorem dX7_judge_11 : decode cX7_judge 11 = .ok (.invokevirtual 194, 3) := by decide +kernel
theorem dX7_judge_14 : decode cX7_judge 14 = .ok (.aload_n 0, 1) := by decide +kernel
theorem dX7_judge_15 : decode cX7_judge 15 = .ok (.getfield 27, 3) := by decide +kernel
theorem dX7_judge_18 : decode cX7_judge 18 = .ok (.aload_n 0, 1) := by decide +kernel
theorem dX7_judge_19 : decode cX7_judge 19 = .ok (.getfield 12, 3) := by decide +kernel
theorem dX7_judge_22 : decode cX7_judge 22 = .ok (.getfield 38, 3) := by decide +kernel
theorem dX7_judge_25 : decode cX7_judge 25 = .ok (.iload_n 2, 1) := by decide +kernel
theorem dX7_judge_26 : decode cX7_judge 26 = .ok (.iload_n 3, 1) := by decide +kernel
theorem dX7_judge_27 : decode cX7_judge 27 = .ok (.iload 4, 2) := by decide +kernel
theorem dX7_judge_29 : decode cX7_judge 29 = .ok (.invokevirtual 198, 3) := by decide +kernel
theorem dX7_judge_32 : decode cX7_judge 32 = .ok (.aload_n 0, 1) := by decide +kernel
theorem dX7_judge_33 : decode cX7_judge 33 = .ok (.getfield 27, 3) := by decide +kernel
theorem dX7_judge_36 : decode cX7_judge 36 = .ok (.aload_n 0, 1) := by decide +kernel
theorem dX7_judge_37 : decode cX7_judge 37 = .ok (.getfield 12, 3) := by decide +kernel
theorem dX7_judge_40 : decode cX7_judge 40 = .ok (.getfield 101, 3) := by decide +kernel
theorem dX7_judge_43 : decode cX7_judge 43 = .ok (.iload_n 1, 1) := by decide +kernel
theorem dX7_judge_44 : decode cX7_judge 44 = .ok (.invokevirtual 202, 3) := by decide +kernel
theorem dX7_judge_47 : decode cX7_judge 47 = .ok (.aload_n 0, 1) := by decide +kernel
theorem dX7_judge_48 : decode cX7_judge 48 = .ok (.getfield 12, 3) := by decide +kernel
theorem dX7_judge_51 : decode cX7_judge 51 = .ok (.getfield 38, 3) := by decide +kernel
theorem dX7_judge_54 : decode cX7_judge 54 = .ok (.getfield 105, 3) := by decide +kernel
theorem dX7_judge_57 : decode cX7_judge 57 = .ok (.invokevirtual 206, 3) := by decide +kernel
theorem dX7_judge_60 : decode cX7_judge 60 = .ok (.aload_n 0, 1) := by decide +kernel
theorem dX7_judge_61 : decode cX7_judge 61 = .ok (.getfield 27, 3) := by decide +kernel
theorem dX7_judge_64 : decode cX7_judge 64 = .ok (.invokevirtual 210, 3) := by decide +kernel
theorem dX7_judge_67 : decode cX7_judge 67 = .ok (.iconst 1, 1) := by decide +kernel
theorem dX7_judge_68 : decode cX7_judge 68 = .ok (.if_icmp .ne 5, 3) := by decide +kernel
theorem dX7_judge_71 : decode cX7_judge 71 = .ok (.iconst 2, 1) := by decide +kernel
theorem dX7_judge_72 : decode cX7_judge 72 = .ok (.ireturn, 1) := by decide +kernel
theorem dX7_judge_73 : decode cX7_judge 73 = .ok (.aload_n 0, 1) := by decide +kernel
theorem dX7_judge_74 : decode cX7_judge 74 = .ok (.getfield 27, 3) := by decide +kernel
theorem dX7_judge_77 : decode cX7_judge 77 = .ok (.aload_n 0, 1) := by decide +kernel
theorem dX7_judge_78 : decode cX7_judge 78 = .ok (.getfield 12, 3) := by decide +kernel
theorem dX7_judge_81 : decode cX7_judge 81 = .ok (.getfield 38, 3) := by decide +kernel
theorem dX7_judge_84 : decode cX7_judge 84 = .ok (.invokevirtual 213, 3) := by decide +kernel
theorem dX7_judge_87 : decode cX7_judge 87 = .ok (.ifCond .eq 7, 3) := by decide +kernel
theorem dX7_judge_90 : decode cX7_judge 90 = .ok (.iconst 1, 1) := by decide +kernel
theorem dX7_judge_91 : decode cX7_judge 91 = .ok (.goto 4, 3) := by decide +kernel
theorem dX7_judge_94 : decode cX7_judge 94 = .ok (.iconst 0, 1) := by decide +kernel
theorem dX7_judge_95 : decode cX7_judge 95 = .ok (.ireturn, 1) := by decide +kernel
theorem dX7_seenBy_0 : decode cX7_seenBy 0 = .ok (.aload_n 0, 1) := by decide +kernel
theorem dX7_seenBy_1 : decode cX7_seenBy 1 = .ok (.getfield 27, 3) := by decide +kernel
theorem dX7_seenBy_4 : decode cX7_seenBy 4 = .ok (.aload_n 0, 1) := by decide +kernel
theorem dX7_seenBy_5 : decode cX7_seenBy 5 = .ok (.getfield 12, 3) := by decide +kernel
theorem dX7_seenBy_8 : decode cX7_seenBy 8 = .ok (.getfield 38, 3) := by decide +kernel
theorem dX7_seenBy_11 : decode cX7_seenBy 11 = .ok (.invokevirtual 194, 3) := by decide +kernel
theorem dX7_seenBy_14 : decode cX7_seenBy 14 = .ok (.aload_n 0, 1) := by decide +kernel
theorem dX7_seenBy_15 : decode cX7_seenBy 15 = .ok (.getfield 27, 3) := by decide +kernel
theorem dX7_seenBy_18 : decode cX7_seenBy 18 = .ok (.aload_n 0, 1) := by decide +kernel
theorem dX7_seenBy_19 : decode cX7_seenBy 19 = .ok (.getfield 12, 3) := by decide +kernel
theorem dX7_seenBy_22 : decode cX7_seenBy 22 = .ok (.getfield 101, 3) := by decide +kernel
theorem dX7_seenBy_25 : decode cX7_seenBy 25 = .ok (.iload_n 1, 1) := by decide +kernel
theorem dX7_seenBy_26 : decode cX7_seenBy 26 = .ok (.invokevirtual 202, 3) := by decide +kernel
theorem dX7_seenBy_29 : decode cX7_seenBy 29 = .ok (.aload_n 0, 1) := by decide +kernel
theorem dX7_seenBy_30 : decode cX7_seenBy 30 = .ok (.getfield 12, 3) := by decide +kernel
theorem dX7_seenBy_33 : decode cX7_seenBy 33 = .ok (.getfield 38, 3) := by decide +kernel
theorem dX7_seenBy_36 : decode cX7_seenBy 36 = .ok (.getfield 105, 3) := by decide +kernel
theorem dX7_seenBy_39 : decode cX7_seenBy 39 = .ok (.invokevirtual 217, 3) := by decide +kernel
theorem dX7_seenBy_42 : decode cX7_seenBy 42 = .ok (.lreturn, 1) := by decide +kernel
theorem dX7_answerWishes_0 : decode cX7_answerWishes 0 = .ok (.aload_n 0, 1) := by decide +kernel
theorem dX7_answerWishes_1 : decode cX7_answerWishes 1 = .ok (.getfield 12, 3) := by decide +kernel
theorem dX7_answerWishes_4 : decode cX7_answerWishes 4 = .ok (.getfield 160, 3) := by decide +kernel
theorem dX7_answerWishes_7 : decode cX7_answerWishes 7 = .ok (.astore_n 2, 1) := by decide +kernel
theorem dX7_answerWishes_8 : decode cX7_answerWishes 8 = .ok (.aload_n 0, 1) := by decide +kernel
theorem dX7_answerWishes_9 : decode cX7_answerWishes 9 = .ok (.getfield 27, 3) := by decide +kernel
theorem dX7_answerWishes_12 : decode cX7_answerWishes 12 = .ok (.aload_n 0, 1) := by decide +kernel
theorem dX7_answerWishes_13 : decode cX7_answerWishes 13 = .ok (.getfield 12, 3) := by decide +kernel
theorem dX7_answerWishes_16 : decode cX7_answerWishes 16 = .ok (.getfield 38, 3) := by decide +kernel
theorem dX7_answerWishes_19 : decode cX7_answerWishes 19 = .ok (.invokevirtual 194, 3) := by decide +kernel
theorem dX7_answerWishes_22 : decode cX7_answerWishes 22 = .ok (.aload_n 0, 1) := by decide +kernel
theorem dX7_answerWishes_23 : decode cX7_answerWishes 23 = .ok (.getfield 34, 3) := by decide +kernel
theorem dX7_answerWishes_26 : decode cX7_answerWishes 26 = .ok (.aload_n 0, 1) := by decide +kernel
theorem dX7_answerWishes_27 : decode cX7_answerWishes 27 = .ok (.getfield 12, 3) := by decide +kernel
theorem dX7_answerWishes_30 : decode cX7_answerWishes 30 = .ok (.getfield 38, 3) := by decide +kernel
theorem dX7_answerWishes_33 : decode cX7_answerWishes 33 = .ok (.aload_n 0, 1) := by decide +kernel
theorem dX7_answerWishes_34 : decode cX7_answerWishes 34 = .ok (.getfield 27, 3) := by decide +kernel
theorem dX7_answerWishes_37 : decode cX7_answerWishes 37 = .ok (.getfield 221, 3) := by decide +kernel
theorem dX7_answerWishes_40 : decode cX7_answerWishes 40 = .ok (.aload_n 0, 1) := by decide +kernel
theorem dX7_answerWishes_41 : decode cX7_answerWishes 41 = .ok (.getfield 12, 3) := by decide +kernel
theorem dX7_answerWishes_44 : decode cX7_answerWishes 44 = .ok (.getfield 101, 3) := by decide +kernel
theorem dX7_answerWishes_47 : decode cX7_answerWishes 47 = .ok (.iload_n 1, 1) := by decide +kernel
theorem dX7_answerWishes_48 : decode cX7_answerWishes 48 = .ok (.invokevirtual 202, 3) := by decide +kernel
theorem dX7_answerWishes_51 : decode cX7_answerWishes 51 = .ok (.invokevirtual 225, 3) := by decide +kernel
theorem dX7_answerWishes_54 : decode cX7_answerWishes 54 = .ok (.iconst 0, 1) := by decide +kernel
theorem dX7_answerWishes_55 : decode cX7_answerWishes 55 = .ok (.istore_n 3, 1) := by decide +kernel
theorem dX7_answerWishes_56 : decode cX7_answerWishes 56 = .ok (.iload_n 3, 1) := by decide +kernel
theorem dX7_answerWishes_57 : decode cX7_answerWishes 57 = .ok (.aload_n 2, 1) := by decide +kernel
theorem dX7_answerWishes_58 : decode cX7_answerWishes 58 = .ok (.getfield 164, 3) := by decide +kernel
theorem dX7_answerWishes_61 : decode cX7_answerWishes 61 = .ok (.if_icmp .ge 56, 3) := by decide +kernel
theorem dX7_answerWishes_64 : decode cX7_answerWishes 64 = .ok (.aload_n 0, 1) := by decide +kernel
theorem dX7_answerWishes_65 : decode cX7_answerWishes 65 = .ok (.getfield 27, 3) := by decide +kernel
theorem dX7_answerWishes_68 : decode cX7_answerWishes 68 = .ok (.aload_n 0, 1) := by decide +kernel
theorem dX7_answerWishes_69 : decode cX7_answerWishes 69 = .ok (.getfield 12, 3) := by decide +kernel
theorem dX7_answerWishes_72 : decode cX7_answerWishes 72 = .ok (.getfield 38, 3) := by decide +kernel
theorem dX7_answerWishes_75 : decode cX7_answerWishes 75 = .ok (.aload_n 2, 1) := by decide +kernel
theorem dX7_answerWishes_76 : decode cX7_answerWishes 76 = .ok (.getfield 229, 3) := by decide +kernel
theorem dX7_answerWishes_79 : decode cX7_answerWishes 79 = .ok (.iload_n 3, 1) := by decide +kernel
theorem dX7_answerWishes_80 : decode cX7_answerWishes 80 = .ok (.iaload, 1) := by decide +kernel
theorem dX7_answerWishes_81 : decode cX7_answerWishes 81 = .ok (.aload_n 2, 1) := by decide +kernel
theorem dX7_answerWishes_82 : decode cX7_answerWishes 82 = .ok (.getfield 232, 3) := by decide +kernel
theorem dX7_answerWishes_85 : decode cX7_answerWishes 85 = .ok (.iload_n 3, 1) := by decide +kernel
theorem dX7_answerWishes_86 : decode cX7_answerWishes 86 = .ok (.iaload, 1) := by decide +kernel
theorem dX7_answerWishes_87 : decode cX7_answerWishes 87 = .ok (.aload_n 2, 1) := by decide +kernel
theorem dX7_answerWishes_88 : decode cX7_answerWishes 88 = .ok (.getfield 235, 3) := by decide +kernel
theorem dX7_answerWishes_91 : decode cX7_answerWishes 91 = .ok (.iload_n 3, 1) := by decide +kernel
theorem dX7_answerWishes_92 : decode cX7_answerWishes 92 = .ok (.iaload, 1) := by decide +kernel
theorem dX7_answerWishes_93 : decode cX7_answerWishes 93 = .ok (.invokevirtual 198, 3) := by decide +kernel
theorem dX7_answerWishes_96 : decode cX7_answerWishes 96 = .ok (.aload_n 0, 1) := by decide +kernel
theorem dX7_answerWishes_97 : decode cX7_answerWishes 97 = .ok (.getfield 34, 3) := by decide +kernel
theorem dX7_answerWishes_100 : decode cX7_answerWishes 100 = .ok (.iload_n 3, 1) := by decide +kernel
theorem dX7_answerWishes_101 : decode cX7_answerWishes 101 = .ok (.aload_n 0, 1) := by decide +kernel
theorem dX7_answerWishes_102 : decode cX7_answerWishes 102 = .ok (.getfield 27, 3) := by decide +kernel
theorem dX7_answerWishes_105 : decode cX7_answerWishes 105 = .ok (.getfield 94, 3) := by decide +kernel
theorem dX7_answerWishes_108 : decode cX7_answerWishes 108 = .ok (.invokevirtual 238, 3) := by decide +kernel
theorem dX7_answerWishes_111 : decode cX7_answerWishes 111 = .ok (.iinc 3 1, 3) := by decide +kernel
theorem dX7_answerWishes_114 : decode cX7_answerWishes 114 = .ok (.goto (-58), 3) := by decide +kernel
theorem dX7_answerWishes_117 : decode cX7_answerWishes 117 = .ok (.return_, 1) := by decide +kernel
theorem dX7_largestGranted_0 : decode cX7_largestGranted 0 = .ok (.iload_n 1, 1) := by decide +kernel
theorem dX7_largestGranted_1 : decode cX7_largestGranted 1 = .ok (.bipush 8, 2) := by decide +kernel
theorem dX7_largestGranted_3 : decode cX7_largestGranted 3 = .ok (.if_icmp .lt 6, 3) := by decide +kernel
theorem dX7_largestGranted_6 : decode cX7_largestGranted 6 = .ok (.iload 4, 2) := by decide +kernel
theorem dX7_largestGranted_8 : decode cX7_largestGranted 8 = .ok (.ireturn, 1) := by decide +kernel
theorem dX7_largestGranted_9 : decode cX7_largestGranted 9 = .ok (.iload 4, 2) := by decide +kernel
theorem dX7_largestGranted_11 : decode cX7_largestGranted 11 = .ok (.istore 5, 2) := by decide +kernel
theorem dX7_largestGranted_13 : decode cX7_largestGranted 13 = .ok (.iload_n 3, 1) := by decide +kernel
theorem dX7_largestGranted_14 : decode cX7_largestGranted 14 = .ok (.iconst 1, 1) := by decide +kernel
theorem dX7_largestGranted_15 : decode cX7_largestGranted 15 = .ok (.isub, 1) := by decide +kernel
theorem dX7_largestGranted_16 : decode cX7_largestGranted 16 = .ok (.istore 6, 2) := by decide +kernel
theorem dX7_largestGranted_18 : decode cX7_largestGranted 18 = .ok (.iload 6, 2) := by decide +kernel
theorem dX7_largestGranted_20 : decode cX7_largestGranted 20 = .ok (.ifCond .lt 60, 3) := by decide +kernel
theorem dX7_largestGranted_23 : decode cX7_largestGranted 23 = .ok (.iload_n 1, 1) := by decide +kernel
theorem dX7_largestGranted_24 : decode cX7_largestGranted 24 = .ok (.iconst 1, 1) := by decide +kernel
theorem dX7_largestGranted_25 : decode cX7_largestGranted 25 = .ok (.iadd, 1) := by decide +kernel
theorem dX7_largestGranted_26 : decode cX7_largestGranted 26 = .ok (.iload 6, 2) := by decide +kernel
theorem dX7_largestGranted_28 : decode cX7_largestGranted 28 = .ok (.iadd, 1) := by decide +kernel
theorem dX7_largestGranted_29 : decode cX7_largestGranted 29 = .ok (.iload 5, 2) := by decide +kernel
theorem dX7_largestGranted_31 : decode cX7_largestGranted 31 = .ok (.invokestatic 135, 3) := by decide +kernel
theorem dX7_largestGranted_34 : decode cX7_largestGranted 34 = .ok (.if_icmp .lt 46, 3) := by decide +kernel
theorem dX7_largestGranted_37 : decode cX7_largestGranted 37 = .ok (.iload_n 2, 1) := by decide +kernel
theorem dX7_largestGranted_38 : decode cX7_largestGranted 38 = .ok (.iconst 1, 1) := by decide +kernel
theorem dX7_largestGranted_39 : decode cX7_largestGranted 39 = .ok (.iload 6, 2) := by decide +kernel
theorem dX7_largestGranted_41 : decode cX7_largestGranted 41 = .ok (.ishl, 1) := by decide +kernel
theorem dX7_largestGranted_42 : decode cX7_largestGranted 42 = .ok (.ior, 1) := by decide +kernel
theorem dX7_largestGranted_43 : decode cX7_largestGranted 43 = .ok (.istore 7, 2) := by decide +kernel
theorem dX7_largestGranted_45 : decode cX7_largestGranted 45 = .ok (.aload_n 0, 1) := by decide +kernel
theorem dX7_largestGranted_46 : decode cX7_largestGranted 46 = .ok (.iload 7, 2) := by decide +kernel
theorem dX7_largestGranted_48 : decode cX7_largestGranted 48 = .ok (.invokevirtual 178, 3) := by decide +kernel
theorem dX7_largestGranted_51 : decode cX7_largestGranted 51 = .ok (.ifCond .eq 23, 3) := by decide +kernel
theorem dX7_largestGranted_54 : decode cX7_largestGranted 54 = .ok (.aload_n 0, 1) := by decide +kernel
theorem dX7_largestGranted_55 : decode cX7_largestGranted 55 = .ok (.iload_n 1, 1) := by decide +kernel
theorem dX7_largestGranted_56 : decode cX7_largestGranted 56 = .ok (.iconst 1, 1) := by decide +kernel
theorem dX7_largestGranted_57 : decode cX7_largestGranted 57 = .ok (.iadd, 1) := by decide +kernel
theorem dX7_largestGranted_58 : decode cX7_largestGranted 58 = .ok (.iload 7, 2) := by decide +kernel
theorem dX7_largestGranted_60 : decode cX7_largestGranted 60 = .ok (.iload 6, 2) := by decide +kernel
theorem dX7_largestGranted_62 : decode cX7_largestGranted 62 = .ok (.iload 5, 2) := by decide +kernel
theorem dX7_largestGranted_64 : decode cX7_largestGranted 64 = .ok (.iload 7, 2) := by decide +kernel
theorem dX7_largestGranted_66 : decode cX7_largestGranted 66 = .ok (.invokestatic 242, 3) := by decide +kernel
theorem dX7_largestGranted_69 : decode cX7_largestGranted 69 = .ok (.invokestatic 174, 3) := by decide +kernel
theorem dX7_largestGranted_72 : decode cX7_largestGranted 72 = .ok (.istore 5, 2) := by decide +kernel
theorem dX7_largestGranted_74 : decode cX7_largestGranted 74 = .ok (.iinc 6 (-1), 3) := by decide +kernel
theorem dX7_largestGranted_77 : decode cX7_largestGranted 77 = .ok (.goto (-59), 3) := by decide +kernel
theorem dX7_largestGranted_80 : decode cX7_largestGranted 80 = .ok (.iload 5, 2) := by decide +kernel
theorem dX7_largestGranted_82 : decode cX7_largestGranted 82 = .ok (.ireturn, 1) := by decide +kernel
theorem dX7_betterOf_0 : decode cX7_betterOf 0 = .ok (.iload_n 1, 1) := by decide +kernel
theorem dX7_betterOf_1 : decode cX7_betterOf 1 = .ok (.invokestatic 135, 3) := by decide +kernel
theorem dX7_betterOf_4 : decode cX7_betterOf 4 = .ok (.iload_n 0, 1) := by decide +kernel
theorem dX7_betterOf_5 : decode cX7_betterOf 5 = .ok (.invokestatic 135, 3) := by decide +kernel
theorem dX7_betterOf_8 : decode cX7_betterOf 8 = .ok (.isub, 1) := by decide +kernel
theorem dX7_betterOf_9 : decode cX7_betterOf 9 = .ok (.istore_n 2, 1) := by decide +kernel
theorem dX7_betterOf_10 : decode cX7_betterOf 10 = .ok (.iload_n 2, 1) := by decide +kernel
theorem dX7_betterOf_11 : decode cX7_betterOf 11 = .ok (.ifCond .ne 9, 3) := by decide +kernel
theorem dX7_betterOf_14 : decode cX7_betterOf 14 = .ok (.iload_n 0, 1) := by decide +kernel
theorem dX7_betterOf_15 : decode cX7_betterOf 15 = .ok (.iload_n 1, 1) := by decide +kernel
theorem dX7_betterOf_16 : decode cX7_betterOf 16 = .ok (.invokestatic 246, 3) := by decide +kernel
theorem dX7_betterOf_19 : decode cX7_betterOf 19 = .ok (.ireturn, 1) := by decide +kernel
theorem dX7_betterOf_20 : decode cX7_betterOf 20 = .ok (.iload_n 2, 1) := by decide +kernel
theorem dX7_betterOf_21 : decode cX7_betterOf 21 = .ok (.ifCond .le 7, 3) := by decide +kernel
theorem dX7_betterOf_24 : decode cX7_betterOf 24 = .ok (.iload_n 1, 1) := by decide +kernel
theorem dX7_betterOf_25 : decode cX7_betterOf 25 = .ok (.goto 4, 3) := by decide +kernel
theorem dX7_betterOf_28 : decode cX7_betterOf 28 = .ok (.iload_n 0, 1) := by decide +kernel
theorem dX7_betterOf_29 : decode cX7_betterOf 29 = .ok (.ireturn, 1) := by decide +kernel
theorem dJ6_bitCount_0f7a4_0 : decode cJ6_bitCount_0f7a4 0 = .ok (.iload_n 0, 1) := by decide +kernel
theorem dJ6_bitCount_0f7a4_1 : decode cJ6_bitCount_0f7a4 1 = .ok (.iload_n 0, 1) := by decide +kernel
theorem dJ6_bitCount_0f7a4_2 : decode cJ6_bitCount_0f7a4 2 = .ok (.iconst 1, 1) := by decide +kernel
theorem dJ6_bitCount_0f7a4_3 : decode cJ6_bitCount_0f7a4 3 = .ok (.iushr, 1) := by decide +kernel
theorem dJ6_bitCount_0f7a4_4 : decode cJ6_bitCount_0f7a4 4 = .ok (.ldc_w 265, 3) := by decide +kernel
theorem dJ6_bitCount_0f7a4_7 : decode cJ6_bitCount_0f7a4 7 = .ok (.iand, 1) := by decide +kernel
theorem dJ6_bitCount_0f7a4_8 : decode cJ6_bitCount_0f7a4 8 = .ok (.isub, 1) := by decide +kernel
theorem dJ6_bitCount_0f7a4_9 : decode cJ6_bitCount_0f7a4 9 = .ok (.istore_n 0, 1) := by decide +kernel
theorem dJ6_bitCount_0f7a4_10 : decode cJ6_bitCount_0f7a4 10 = .ok (.iload_n 0, 1) := by decide +kernel
theorem dJ6_bitCount_0f7a4_11 : decode cJ6_bitCount_0f7a4 11 = .ok (.ldc_w 266, 3) := by decide +kernel
theorem dJ6_bitCount_0f7a4_14 : decode cJ6_bitCount_0f7a4 14 = .ok (.iand, 1) := by decide +kernel
theorem dJ6_bitCount_0f7a4_15 : decode cJ6_bitCount_0f7a4 15 = .ok (.iload_n 0, 1) := by decide +kernel
theorem dJ6_bitCount_0f7a4_16 : decode cJ6_bitCount_0f7a4 16 = .ok (.iconst 2, 1) := by decide +kernel
theorem dJ6_bitCount_0f7a4_17 : decode cJ6_bitCount_0f7a4 17 = .ok (.iushr, 1) := by decide +kernel
theorem dJ6_bitCount_0f7a4_18 : decode cJ6_bitCount_0f7a4 18 = .ok (.ldc_w 266, 3) := by decide +kernel
theorem dJ6_bitCount_0f7a4_21 : decode cJ6_bitCount_0f7a4 21 = .ok (.iand, 1) := by decide +kernel
theorem dJ6_bitCount_0f7a4_22 : decode cJ6_bitCount_0f7a4 22 = .ok (.iadd, 1) := by decide +kernel
theorem dJ6_bitCount_0f7a4_23 : decode cJ6_bitCount_0f7a4 23 = .ok (.istore_n 0, 1) := by decide +kernel
theorem dJ6_bitCount_0f7a4_24 : decode cJ6_bitCount_0f7a4 24 = .ok (.iload_n 0, 1) := by decide +kernel
theorem dJ6_bitCount_0f7a4_25 : decode cJ6_bitCount_0f7a4 25 = .ok (.iload_n 0, 1) := by decide +kernel
theorem dJ6_bitCount_0f7a4_26 : decode cJ6_bitCount_0f7a4 26 = .ok (.iconst 4, 1) := by decide +kernel
theorem dJ6_bitCount_0f7a4_27 : decode cJ6_bitCount_0f7a4 27 = .ok (.iushr, 1) := by decide +kernel
theorem dJ6_bitCount_0f7a4_28 : decode cJ6_bitCount_0f7a4 28 = .ok (.iadd, 1) := by decide +kernel
theorem dJ6_bitCount_0f7a4_29 : decode cJ6_bitCount_0f7a4 29 = .ok (.ldc_w 267, 3) := by decide +kernel
theorem dJ6_bitCount_0f7a4_32 : decode cJ6_bitCount_0f7a4 32 = .ok (.iand, 1) := by decide +kernel
theorem dJ6_bitCount_0f7a4_33 : decode cJ6_bitCount_0f7a4 33 = .ok (.istore_n 0, 1) := by decide +kernel
theorem dJ6_bitCount_0f7a4_34 : decode cJ6_bitCount_0f7a4 34 = .ok (.iload_n 0, 1) := by decide +kernel
theorem dJ6_bitCount_0f7a4_35 : decode cJ6_bitCount_0f7a4 35 = .ok (.iload_n 0, 1) := by decide +kernel
theorem dJ6_bitCount_0f7a4_36 : decode cJ6_bitCount_0f7a4 36 = .ok (.bipush 8, 2) := by decide +kernel
theorem dJ6_bitCount_0f7a4_38 : decode cJ6_bitCount_0f7a4 38 = .ok (.iushr, 1) := by decide +kernel
theorem dJ6_bitCount_0f7a4_39 : decode cJ6_bitCount_0f7a4 39 = .ok (.iadd, 1) := by decide +kernel
theorem dJ6_bitCount_0f7a4_40 : decode cJ6_bitCount_0f7a4 40 = .ok (.istore_n 0, 1) := by decide +kernel
theorem dJ6_bitCount_0f7a4_41 : decode cJ6_bitCount_0f7a4 41 = .ok (.iload_n 0, 1) := by decide +kernel
theorem dJ6_bitCount_0f7a4_42 : decode cJ6_bitCount_0f7a4 42 = .ok (.iload_n 0, 1) := by decide +kernel
theorem dJ6_bitCount_0f7a4_43 : decode cJ6_bitCount_0f7a4 43 = .ok (.bipush 16, 2) := by decide +kernel
theorem dJ6_bitCount_0f7a4_45 : decode cJ6_bitCount_0f7a4 45 = .ok (.iushr, 1) := by decide +kernel
theorem dJ6_bitCount_0f7a4_46 : decode cJ6_bitCount_0f7a4 46 = .ok (.iadd, 1) := by decide +kernel
theorem dJ6_bitCount_0f7a4_47 : decode cJ6_bitCount_0f7a4 47 = .ok (.istore_n 0, 1) := by decide +kernel
theorem dJ6_bitCount_0f7a4_48 : decode cJ6_bitCount_0f7a4 48 = .ok (.iload_n 0, 1) := by decide +kernel
theorem dJ6_bitCount_0f7a4_49 : decode cJ6_bitCount_0f7a4 49 = .ok (.bipush 63, 2) := by decide +kernel
theorem dJ6_bitCount_0f7a4_51 : decode cJ6_bitCount_0f7a4 51 = .ok (.iand, 1) := by decide +kernel
theorem dJ6_bitCount_0f7a4_52 : decode cJ6_bitCount_0f7a4 52 = .ok (.ireturn, 1) := by decide +kernel
theorem dJ13_bitCount_95d88_0 : decode cJ13_bitCount_95d88 0 = .ok (.lload_n 0, 1) := by decide +kernel
theorem dJ13_bitCount_95d88_1 : decode cJ13_bitCount_95d88 1 = .ok (.lload_n 0, 1) := by decide +kernel
theorem dJ13_bitCount_95d88_2 : decode cJ13_bitCount_95d88 2 = .ok (.iconst 1, 1) := by decide +kernel
theorem dJ13_bitCount_95d88_3 : decode cJ13_bitCount_95d88 3 = .ok (.lushr, 1) := by decide +kernel
theorem dJ13_bitCount_95d88_4 : decode cJ13_bitCount_95d88 4 = .ok (.ldc2_w 314, 3) := by decide +kernel
theorem dJ13_bitCount_95d88_7 : decode cJ13_bitCount_95d88 7 = .ok (.land, 1) := by decide +kernel
theorem dJ13_bitCount_95d88_8 : decode cJ13_bitCount_95d88 8 = .ok (.lsub, 1) := by decide +kernel
theorem dJ13_bitCount_95d88_9 : decode cJ13_bitCount_95d88 9 = .ok (.lstore_n 0, 1) := by decide +kernel
theorem dJ13_bitCount_95d88_10 : decode cJ13_bitCount_95d88 10 = .ok (.lload_n 0, 1) := by decide +kernel
theorem dJ13_bitCount_95d88_11 : decode cJ13_bitCount_95d88 11 = .ok (.ldc2_w 316, 3) := by decide +kernel
theorem dJ13_bitCount_95d88_14 : decode cJ13_bitCount_95d88 14 = .ok (.land, 1) := by decide +kernel
theorem dJ13_bitCount_95d88_15 : decode cJ13_bitCount_95d88 15 = .ok (.lload_n 0, 1) := by decide +kernel
theorem dJ13_bitCount_95d88_16 : decode cJ13_bitCount_95d88 16 = .ok (.iconst 2, 1) := by decide +kernel
theorem dJ13_bitCount_95d88_17 : decode cJ13_bitCount_95d88 17 = .ok (.lushr, 1) := by decide +kernel
theorem dJ13_bitCount_95d88_18 : decode cJ13_bitCount_95d88 18 = .ok (.ldc2_w 316, 3) := by decide +kernel
theorem dJ13_bitCount_95d88_21 : decode cJ13_bitCount_95d88 21 = .ok (.land, 1) := by decide +kernel
theorem dJ13_bitCount_95d88_22 : decode cJ13_bitCount_95d88 22 = .ok (.ladd, 1) := by decide +kernel
theorem dJ13_bitCount_95d88_23 : decode cJ13_bitCount_95d88 23 = .ok (.lstore_n 0, 1) := by decide +kernel
theorem dJ13_bitCount_95d88_24 : decode cJ13_bitCount_95d88 24 = .ok (.lload_n 0, 1) := by decide +kernel
theorem dJ13_bitCount_95d88_25 : decode cJ13_bitCount_95d88 25 = .ok (.lload_n 0, 1) := by decide +kernel
theorem dJ13_bitCount_95d88_26 : decode cJ13_bitCount_95d88 26 = .ok (.iconst 4, 1) := by decide +kernel
theorem dJ13_bitCount_95d88_27 : decode cJ13_bitCount_95d88 27 = .ok (.lushr, 1) := by decide +kernel
theorem dJ13_bitCount_95d88_28 : decode cJ13_bitCount_95d88 28 = .ok (.ladd, 1) := by decide +kernel
theorem dJ13_bitCount_95d88_29 : decode cJ13_bitCount_95d88 29 = .ok (.ldc2_w 318, 3) := by decide +kernel
theorem dJ13_bitCount_95d88_32 : decode cJ13_bitCount_95d88 32 = .ok (.land, 1) := by decide +kernel
theorem dJ13_bitCount_95d88_33 : decode cJ13_bitCount_95d88 33 = .ok (.lstore_n 0, 1) := by decide +kernel
theorem dJ13_bitCount_95d88_34 : decode cJ13_bitCount_95d88 34 = .ok (.lload_n 0, 1) := by decide +kernel
theorem dJ13_bitCount_95d88_35 : decode cJ13_bitCount_95d88 35 = .ok (.lload_n 0, 1) := by decide +kernel
theorem dJ13_bitCount_95d88_36 : decode cJ13_bitCount_95d88 36 = .ok (.bipush 8, 2) := by decide +kernel
theorem dJ13_bitCount_95d88_38 : decode cJ13_bitCount_95d88 38 = .ok (.lushr, 1) := by decide +kernel
theorem dJ13_bitCount_95d88_39 : decode cJ13_bitCount_95d88 39 = .ok (.ladd, 1) := by decide +kernel
theorem dJ13_bitCount_95d88_40 : decode cJ13_bitCount_95d88 40 = .ok (.lstore_n 0, 1) := by decide +kernel
theorem dJ13_bitCount_95d88_41 : decode cJ13_bitCount_95d88 41 = .ok (.lload_n 0, 1) := by decide +kernel
theorem dJ13_bitCount_95d88_42 : decode cJ13_bitCount_95d88 42 = .ok (.lload_n 0, 1) := by decide +kernel
theorem dJ13_bitCount_95d88_43 : decode cJ13_bitCount_95d88 43 = .ok (.bipush 16, 2) := by decide +kernel
theorem dJ13_bitCount_95d88_45 : decode cJ13_bitCount_95d88 45 = .ok (.lushr, 1) := by decide +kernel
theorem dJ13_bitCount_95d88_46 : decode cJ13_bitCount_95d88 46 = .ok (.ladd, 1) := by decide +kernel
theorem dJ13_bitCount_95d88_47 : decode cJ13_bitCount_95d88 47 = .ok (.lstore_n 0, 1) := by decide +kernel
theorem dJ13_bitCount_95d88_48 : decode cJ13_bitCount_95d88 48 = .ok (.lload_n 0, 1) := by decide +kernel
theorem dJ13_bitCount_95d88_49 : decode cJ13_bitCount_95d88 49 = .ok (.lload_n 0, 1) := by decide +kernel
theorem dJ13_bitCount_95d88_50 : decode cJ13_bitCount_95d88 50 = .ok (.bipush 32, 2) := by decide +kernel
theorem dJ13_bitCount_95d88_52 : decode cJ13_bitCount_95d88 52 = .ok (.lushr, 1) := by decide +kernel
theorem dJ13_bitCount_95d88_53 : decode cJ13_bitCount_95d88 53 = .ok (.ladd, 1) := by decide +kernel
theorem dJ13_bitCount_95d88_54 : decode cJ13_bitCount_95d88 54 = .ok (.lstore_n 0, 1) := by decide +kernel
theorem dJ13_bitCount_95d88_55 : decode cJ13_bitCount_95d88 55 = .ok (.lload_n 0, 1) := by decide +kernel
theorem dJ13_bitCount_95d88_56 : decode cJ13_bitCount_95d88 56 = .ok (.l2i, 1) := by decide +kernel
theorem dJ13_bitCount_95d88_57 : decode cJ13_bitCount_95d88 57 = .ok (.bipush 127, 2) := by decide +kernel
theorem dJ13_bitCount_95d88_59 : decode cJ13_bitCount_95d88 59 = .ok (.iand, 1) := by decide +kernel
theorem dJ13_bitCount_95d88_60 : decode cJ13_bitCount_95d88 60 = .ok (.ireturn, 1) := by decide +kernel
theorem dJ9_max_7cf53_0 : decode cJ9_max_7cf53 0 = .ok (.iload_n 0, 1) := by decide +kernel
theorem dJ9_max_7cf53_1 : decode cJ9_max_7cf53 1 = .ok (.iload_n 1, 1) := by decide +kernel
theorem dJ9_max_7cf53_2 : decode cJ9_max_7cf53 2 = .ok (.if_icmp .lt 7, 3) := by decide +kernel
theorem dJ9_max_7cf53_5 : decode cJ9_max_7cf53 5 = .ok (.iload_n 0, 1) := by decide +kernel
theorem dJ9_max_7cf53_6 : decode cJ9_max_7cf53 6 = .ok (.goto 4, 3) := by decide +kernel
theorem dJ9_max_7cf53_9 : decode cJ9_max_7cf53 9 = .ok (.iload_n 1, 1) := by decide +kernel
theorem dJ9_max_7cf53_10 : decode cJ9_max_7cf53 10 = .ok (.ireturn, 1) := by decide +kernel
theorem dJ9_min_7cf53_0 : decode cJ9_min_7cf53 0 = .ok (.iload_n 0, 1) := by decide +kernel
theorem dJ9_min_7cf53_1 : decode cJ9_min_7cf53 1 = .ok (.iload_n 1, 1) := by decide +kernel
theorem dJ9_min_7cf53_2 : decode cJ9_min_7cf53 2 = .ok (.if_icmp .gt 7, 3) := by decide +kernel
theorem dJ9_min_7cf53_5 : decode cJ9_min_7cf53 5 = .ok (.iload_n 0, 1) := by decide +kernel
theorem dJ9_min_7cf53_6 : decode cJ9_min_7cf53 6 = .ok (.goto 4, 3) := by decide +kernel
theorem dJ9_min_7cf53_9 : decode cJ9_min_7cf53 9 = .ok (.iload_n 1, 1) := by decide +kernel
theorem dJ9_min_7cf53_10 : decode cJ9_min_7cf53 10 = .ok (.ireturn, 1) := by decide +kernel
theorem dJ7_fill_d0a16_0 : decode cJ7_fill_d0a16 0 = .ok (.iconst 0, 1) := by decide +kernel
theorem dJ7_fill_d0a16_1 : decode cJ7_fill_d0a16 1 = .ok (.istore_n 3, 1) := by decide +kernel
theorem dJ7_fill_d0a16_2 : decode cJ7_fill_d0a16 2 = .ok (.aload_n 0, 1) := by decide +kernel
theorem dJ7_fill_d0a16_3 : decode cJ7_fill_d0a16 3 = .ok (.arraylength, 1) := by decide +kernel
theorem dJ7_fill_d0a16_4 : decode cJ7_fill_d0a16 4 = .ok (.istore 4, 2) := by decide +kernel
theorem dJ7_fill_d0a16_6 : decode cJ7_fill_d0a16 6 = .ok (.iload_n 3, 1) := by decide +kernel
theorem dJ7_fill_d0a16_7 : decode cJ7_fill_d0a16 7 = .ok (.iload 4, 2) := by decide +kernel
theorem dJ7_fill_d0a16_9 : decode cJ7_fill_d0a16 9 = .ok (.if_icmp .ge 13, 3) := by decide +kernel
theorem dJ7_fill_d0a16_12 : decode cJ7_fill_d0a16 12 = .ok (.aload_n 0, 1) := by decide +kernel
theorem dJ7_fill_d0a16_13 : decode cJ7_fill_d0a16 13 = .ok (.iload_n 3, 1) := by decide +kernel
theorem dJ7_fill_d0a16_14 : decode cJ7_fill_d0a16 14 = .ok (.lload_n 1, 1) := by decide +kernel
theorem dJ7_fill_d0a16_15 : decode cJ7_fill_d0a16 15 = .ok (.lastore, 1) := by decide +kernel
theorem dJ7_fill_d0a16_16 : decode cJ7_fill_d0a16 16 = .ok (.iinc 3 1, 3) := by decide +kernel
theorem dJ7_fill_d0a16_19 : decode cJ7_fill_d0a16 19 = .ok (.goto (-13), 3) := by decide +kernel
theorem dJ7_fill_d0a16_22 : decode cJ7_fill_d0a16 22 = .ok (.return_, 1) := by decide +kernel
theorem dJ7_fill_53178_0 : decode cJ7_fill_53178 0 = .ok (.iconst 0, 1) := by decide +kernel
theorem dJ7_fill_53178_1 : decode cJ7_fill_53178 1 = .ok (.istore_n 2, 1) := by decide +kernel
theorem dJ7_fill_53178_2 : decode cJ7_fill_53178 2 = .ok (.aload_n 0, 1) := by decide +kernel
theorem dJ7_fill_53178_3 : decode cJ7_fill_53178 3 = .ok (.arraylength, 1) := by decide +kernel
theorem dJ7_fill_53178_4 : decode cJ7_fill_53178 4 = .ok (.istore_n 3, 1) := by decide +kernel
theorem dJ7_fill_53178_5 : decode cJ7_fill_53178 5 = .ok (.iload_n 2, 1) := by decide +kernel
theorem dJ7_fill_53178_6 : decode cJ7_fill_53178 6 = .ok (.iload_n 3, 1) := by decide +kernel
theorem dJ7_fill_53178_7 : decode cJ7_fill_53178 7 = .ok (.if_icmp .ge 13, 3) := by decide +kernel
theorem dJ7_fill_53178_10 : decode cJ7_fill_53178 10 = .ok (.aload_n 0, 1) := by decide +kernel
theorem dJ7_fill_53178_11 : decode cJ7_fill_53178 11 = .ok (.iload_n 2, 1) := by decide +kernel
theorem dJ7_fill_53178_12 : decode cJ7_fill_53178 12 = .ok (.iload_n 1, 1) := by decide +kernel
theorem dJ7_fill_53178_13 : decode cJ7_fill_53178 13 = .ok (.iastore, 1) := by decide +kernel
theorem dJ7_fill_53178_14 : decode cJ7_fill_53178 14 = .ok (.iinc 2 1, 3) := by decide +kernel
theorem dJ7_fill_53178_17 : decode cJ7_fill_53178 17 = .ok (.goto (-12), 3) := by decide +kernel
theorem dJ7_fill_53178_20 : decode cJ7_fill_53178 20 = .ok (.return_, 1) := by decide +kernel
