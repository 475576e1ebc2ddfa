theorem dX0_whyNot_0 : decode cX0_whyNot 0 = .ok (.iload_n 1, 1) := by decide +kernel
theorem dX0_whyNot_1 : decode cX0_whyNot 1 = .ok (.tableswitch 66 0 6 #[43, 43, 43, 66, 66, 66, 51], 43) := by decide +kernel
theorem dX0_whyNot_44 : decode cX0_whyNot 44 = .ok (.aload_n 0, 1) := by decide +kernel
theorem dX0_whyNot_45 : decode cX0_whyNot 45 = .ok (.iload_n 1, 1) := by decide +kernel
theorem dX0_whyNot_46 : decode cX0_whyNot 46 = .ok (.iload_n 2, 1) := by decide +kernel
theorem dX0_whyNot_47 : decode cX0_whyNot 47 = .ok (.iload_n 3, 1) := by decide +kernel
theorem dX0_whyNot_48 : decode cX0_whyNot 48 = .ok (.invokestatic 9, 3) := by decide +kernel
theorem dX0_whyNot_51 : decode cX0_whyNot 51 = .ok (.ireturn, 1) := by decide +kernel
theorem dX0_whyNot_52 : decode cX0_whyNot 52 = .ok (.aload_n 0, 1) := by decide +kernel
theorem dX0_whyNot_53 : decode cX0_whyNot 53 = .ok (.getfield 15, 3) := by decide +kernel
theorem dX0_whyNot_56 : decode cX0_whyNot 56 = .ok (.bipush 99, 2) := by decide +kernel
theorem dX0_whyNot_58 : decode cX0_whyNot 58 = .ok (.if_icmp .lt 7, 3) := by decide +kernel
theorem dX0_whyNot_61 : decode cX0_whyNot 61 = .ok (.iconst 5, 1) := by decide +kernel
theorem dX0_whyNot_62 : decode cX0_whyNot 62 = .ok (.goto 4, 3) := by decide +kernel
theorem dX0_whyNot_65 : decode cX0_whyNot 65 = .ok (.iconst 0, 1) := by decide +kernel
theorem dX0_whyNot_66 : decode cX0_whyNot 66 = .ok (.ireturn, 1) := by decide +kernel
theorem dX0_whyNot_67 : decode cX0_whyNot 67 = .ok (.iconst 0, 1) := by decide +kernel
theorem dX0_whyNot_68 : decode cX0_whyNot 68 = .ok (.ireturn, 1) := by decide +kernel
theorem dX0_whyNotOfFamily_0 : decode cX0_whyNotOfFamily 0 = .ok (.aload_n 0, 1) := by decide +kernel
theorem dX0_whyNotOfFamily_1 : decode cX0_whyNotOfFamily 1 = .ok (.iload_n 2, 1) := by decide +kernel
theorem dX0_whyNotOfFamily_2 : decode cX0_whyNotOfFamily 2 = .ok (.invokevirtual 21, 3) := by decide +kernel
theorem dX0_whyNotOfFamily_5 : decode cX0_whyNotOfFamily 5 = .ok (.ifCond .ne 5, 3) := by decide +kernel
theorem dX0_whyNotOfFamily_8 : decode cX0_whyNotOfFamily 8 = .ok (.iconst 1, 1) := by decide +kernel
theorem dX0_whyNotOfFamily_9 : decode cX0_whyNotOfFamily 9 = .ok (.ireturn, 1) := by decide +kernel
theorem dX0_whyNotOfFamily_10 : decode cX0_whyNotOfFamily 10 = .ok (.iload_n 1, 1) := by decide +kernel
theorem dX0_whyNotOfFamily_11 : decode cX0_whyNotOfFamily 11 = .ok (.iconst 2, 1) := by decide +kernel
theorem dX0_whyNotOfFamily_12 : decode cX0_whyNotOfFamily 12 = .ok (.if_icmp .ne 25, 3) := by decide +kernel
theorem dX0_whyNotOfFamily_15 : decode cX0_whyNotOfFamily 15 = .ok (.aload_n 0, 1) := by decide +kernel
theorem dX0_whyNotOfFamily_16 : decode cX0_whyNotOfFamily 16 = .ok (.getfield 25, 3) := by decide +kernel
theorem dX0_whyNotOfFamily_19 : decode cX0_whyNotOfFamily 19 = .ok (.aload_n 0, 1) := by decide +kernel
theorem dX0_whyNotOfFamily_20 : decode cX0_whyNotOfFamily 20 = .ok (.getfield 29, 3) := by decide +kernel
theorem dX0_whyNotOfFamily_23 : decode cX0_whyNotOfFamily 23 = .ok (.iload_n 2, 1) := by decide +kernel
theorem dX0_whyNotOfFamily_24 : decode cX0_whyNotOfFamily 24 = .ok (.iaload, 1) := by decide +kernel
theorem dX0_whyNotOfFamily_25 : decode cX0_whyNotOfFamily 25 = .ok (.invokestatic 32, 3) := by decide +kernel
theorem dX0_whyNotOfFamily_28 : decode cX0_whyNotOfFamily 28 = .ok (.ifCond .ne 7, 3) := by decide +kernel
theorem dX0_whyNotOfFamily_31 : decode cX0_whyNotOfFamily 31 = .ok (.iconst 3, 1) := by decide +kernel
theorem dX0_whyNotOfFamily_32 : decode cX0_whyNotOfFamily 32 = .ok (.goto 4, 3) := by decide +kernel
theorem dX0_whyNotOfFamily_35 : decode cX0_whyNotOfFamily 35 = .ok (.iconst 0, 1) := by decide +kernel
theorem dX0_whyNotOfFamily_36 : decode cX0_whyNotOfFamily 36 = .ok (.ireturn, 1) := by decide +kernel
theorem dX0_whyNotOfFamily_37 : decode cX0_whyNotOfFamily 37 = .ok (.aload_n 0, 1) := by decide +kernel
theorem dX0_whyNotOfFamily_38 : decode cX0_whyNotOfFamily 38 = .ok (.getfield 36, 3) := by decide +kernel
theorem dX0_whyNotOfFamily_41 : decode cX0_whyNotOfFamily 41 = .ok (.iconst 1, 1) := by decide +kernel
theorem dX0_whyNotOfFamily_42 : decode cX0_whyNotOfFamily 42 = .ok (.if_icmp .ne 5, 3) := by decide +kernel
theorem dX0_whyNotOfFamily_45 : decode cX0_whyNotOfFamily 45 = .ok (.iconst 2, 1) := by decide +kernel
theorem dX0_whyNotOfFamily_46 : decode cX0_whyNotOfFamily 46 = .ok (.ireturn, 1) := by decide +kernel
theorem dX0_whyNotOfFamily_47 : decode cX0_whyNotOfFamily 47 = .ok (.iload_n 1, 1) := by decide +kernel
theorem dX0_whyNotOfFamily_48 : decode cX0_whyNotOfFamily 48 = .ok (.ifCond .ne 7, 3) := by decide +kernel
theorem dX0_whyNotOfFamily_51 : decode cX0_whyNotOfFamily 51 = .ok (.iload_n 3, 1) := by decide +kernel
theorem dX0_whyNotOfFamily_52 : decode cX0_whyNotOfFamily 52 = .ok (.goto 4, 3) := by decide +kernel
theorem dX0_whyNotOfFamily_55 : decode cX0_whyNotOfFamily 55 = .ok (.iconst 1, 1) := by decide +kernel
theorem dX0_whyNotOfFamily_56 : decode cX0_whyNotOfFamily 56 = .ok (.istore 4, 2) := by decide +kernel
theorem dX0_whyNotOfFamily_58 : decode cX0_whyNotOfFamily 58 = .ok (.aload_n 0, 1) := by decide +kernel
theorem dX0_whyNotOfFamily_59 : decode cX0_whyNotOfFamily 59 = .ok (.getfield 39, 3) := by decide +kernel
theorem dX0_whyNotOfFamily_62 : decode cX0_whyNotOfFamily 62 = .ok (.iload_n 2, 1) := by decide +kernel
theorem dX0_whyNotOfFamily_63 : decode cX0_whyNotOfFamily 63 = .ok (.iaload, 1) := by decide +kernel
theorem dX0_whyNotOfFamily_64 : decode cX0_whyNotOfFamily 64 = .ok (.iload 4, 2) := by decide +kernel
theorem dX0_whyNotOfFamily_66 : decode cX0_whyNotOfFamily 66 = .ok (.if_icmp .ge 5, 3) := by decide +kernel
theorem dX0_whyNotOfFamily_69 : decode cX0_whyNotOfFamily 69 = .ok (.iconst 3, 1) := by decide +kernel
theorem dX0_whyNotOfFamily_70 : decode cX0_whyNotOfFamily 70 = .ok (.ireturn, 1) := by decide +kernel
theorem dX0_whyNotOfFamily_71 : decode cX0_whyNotOfFamily 71 = .ok (.iload_n 1, 1) := by decide +kernel
theorem dX0_whyNotOfFamily_72 : decode cX0_whyNotOfFamily 72 = .ok (.ifCond .ne 24, 3) := by decide +kernel
theorem dX0_whyNotOfFamily_75 : decode cX0_whyNotOfFamily 75 = .ok (.aload_n 0, 1) := by decide +kernel
theorem dX0_whyNotOfFamily_76 : decode cX0_whyNotOfFamily 76 = .ok (.getfield 42, 3) := by decide +kernel
theorem dX0_whyNotOfFamily_79 : decode cX0_whyNotOfFamily 79 = .ok (.iload_n 2, 1) := by decide +kernel
theorem dX0_whyNotOfFamily_80 : decode cX0_whyNotOfFamily 80 = .ok (.iaload, 1) := by decide +kernel
theorem dX0_whyNotOfFamily_81 : decode cX0_whyNotOfFamily 81 = .ok (.iload_n 3, 1) := by decide +kernel
theorem dX0_whyNotOfFamily_82 : decode cX0_whyNotOfFamily 82 = .ok (.iadd, 1) := by decide +kernel
theorem dX0_whyNotOfFamily_83 : decode cX0_whyNotOfFamily 83 = .ok (.aload_n 0, 1) := by decide +kernel
theorem dX0_whyNotOfFamily_84 : decode cX0_whyNotOfFamily 84 = .ok (.getfield 45, 3) := by decide +kernel
theorem dX0_whyNotOfFamily_87 : decode cX0_whyNotOfFamily 87 = .ok (.iload_n 2, 1) := by decide +kernel
theorem dX0_whyNotOfFamily_88 : decode cX0_whyNotOfFamily 88 = .ok (.iaload, 1) := by decide +kernel
theorem dX0_whyNotOfFamily_89 : decode cX0_whyNotOfFamily 89 = .ok (.if_icmp .le 7, 3) := by decide +kernel
theorem dX0_whyNotOfFamily_92 : decode cX0_whyNotOfFamily 92 = .ok (.iconst 1, 1) := by decide +kernel
theorem dX0_whyNotOfFamily_93 : decode cX0_whyNotOfFamily 93 = .ok (.goto 4, 3) := by decide +kernel
theorem dX0_whyNotOfFamily_96 : decode cX0_whyNotOfFamily 96 = .ok (.iconst 0, 1) := by decide +kernel
theorem dX0_whyNotOfFamily_97 : decode cX0_whyNotOfFamily 97 = .ok (.istore 5, 2) := by decide +kernel
theorem dX0_whyNotOfFamily_99 : decode cX0_whyNotOfFamily 99 = .ok (.iload 5, 2) := by decide +kernel
theorem dX0_whyNotOfFamily_101 : decode cX0_whyNotOfFamily 101 = .ok (.ifCond .eq 7, 3) := by decide +kernel
theorem dX0_whyNotOfFamily_104 : decode cX0_whyNotOfFamily 104 = .ok (.iconst 4, 1) := by decide +kernel
theorem dX0_whyNotOfFamily_105 : decode cX0_whyNotOfFamily 105 = .ok (.goto 4, 3) := by decide +kernel
theorem dX0_whyNotOfFamily_108 : decode cX0_whyNotOfFamily 108 = .ok (.iconst 0, 1) := by decide +kernel
theorem dX0_whyNotOfFamily_109 : decode cX0_whyNotOfFamily 109 = .ok (.ireturn, 1) := by decide +kernel
theorem dX0_blownBy_0 : decode cX0_blownBy 0 = .ok (.iload_n 1, 1) := by decide +kernel
theorem dX0_blownBy_1 : decode cX0_blownBy 1 = .ok (.lookupswitch 38 #[(0, 27), (1, 29)], 27) := by decide +kernel
theorem dX0_blownBy_28 : decode cX0_blownBy 28 = .ok (.iload_n 3, 1) := by decide +kernel
theorem dX0_blownBy_29 : decode cX0_blownBy 29 = .ok (.ireturn, 1) := by decide +kernel
theorem dX0_blownBy_30 : decode cX0_blownBy 30 = .ok (.aload_n 0, 1) := by decide +kernel
theorem dX0_blownBy_31 : decode cX0_blownBy 31 = .ok (.getfield 39, 3) := by decide +kernel
theorem dX0_blownBy_34 : decode cX0_blownBy 34 = .ok (.iload_n 2, 1) := by decide +kernel
theorem dX0_blownBy_35 : decode cX0_blownBy 35 = .ok (.invokestatic 32, 3) := by decide +kernel
theorem dX0_blownBy_38 : decode cX0_blownBy 38 = .ok (.ireturn, 1) := by decide +kernel
theorem dX0_blownBy_39 : decode cX0_blownBy 39 = .ok (.iconst 0, 1) := by decide +kernel
theorem dX0_blownBy_40 : decode cX0_blownBy 40 = .ok (.ireturn, 1) := by decide +kernel
theorem dX0_carryOut_0 : decode cX0_carryOut 0 = .ok (.iload_n 1, 1) := by decide +kernel
theorem dX0_carryOut_1 : decode cX0_carryOut 1 = .ok (.tableswitch 97 0 5 #[39, 48, 56, 64, 77, 90], 39) := by decide +kernel
theorem dX0_carryOut_40 : decode cX0_carryOut 40 = .ok (.aload_n 0, 1) := by decide +kernel
theorem dX0_carryOut_41 : decode cX0_carryOut 41 = .ok (.iload_n 2, 1) := by decide +kernel
theorem dX0_carryOut_42 : decode cX0_carryOut 42 = .ok (.iload_n 3, 1) := by decide +kernel
theorem dX0_carryOut_43 : decode cX0_carryOut 43 = .ok (.invokevirtual 48, 3) := by decide +kernel
theorem dX0_carryOut_46 : decode cX0_carryOut 46 = .ok (.goto 56, 3) := by decide +kernel
theorem dX0_carryOut_49 : decode cX0_carryOut 49 = .ok (.aload_n 0, 1) := by decide +kernel
theorem dX0_carryOut_50 : decode cX0_carryOut 50 = .ok (.iload_n 2, 1) := by decide +kernel
theorem dX0_carryOut_51 : decode cX0_carryOut 51 = .ok (.invokevirtual 52, 3) := by decide +kernel
theorem dX0_carryOut_54 : decode cX0_carryOut 54 = .ok (.goto 48, 3) := by decide +kernel
theorem dX0_carryOut_57 : decode cX0_carryOut 57 = .ok (.aload_n 0, 1) := by decide +kernel
theorem dX0_carryOut_58 : decode cX0_carryOut 58 = .ok (.iload_n 2, 1) := by decide +kernel
theorem dX0_carryOut_59 : decode cX0_carryOut 59 = .ok (.invokevirtual 56, 3) := by decide +kernel
theorem dX0_carryOut_62 : decode cX0_carryOut 62 = .ok (.goto 40, 3) := by decide +kernel
theorem dX0_carryOut_65 : decode cX0_carryOut 65 = .ok (.aload_n 0, 1) := by decide +kernel
theorem dX0_carryOut_66 : decode cX0_carryOut 66 = .ok (.iload_n 2, 1) := by decide +kernel
theorem dX0_carryOut_67 : decode cX0_carryOut 67 = .ok (.putfield 59, 3) := by decide +kernel
theorem dX0_carryOut_70 : decode cX0_carryOut 70 = .ok (.aload_n 0, 1) := by decide +kernel
theorem dX0_carryOut_71 : decode cX0_carryOut 71 = .ok (.iload_n 3, 1) := by decide +kernel
theorem dX0_carryOut_72 : decode cX0_carryOut 72 = .ok (.putfield 62, 3) := by decide +kernel
theorem dX0_carryOut_75 : decode cX0_carryOut 75 = .ok (.goto 27, 3) := by decide +kernel
theorem dX0_carryOut_78 : decode cX0_carryOut 78 = .ok (.aload_n 0, 1) := by decide +kernel
theorem dX0_carryOut_79 : decode cX0_carryOut 79 = .ok (.iconst 1, 1) := by decide +kernel
theorem dX0_carryOut_80 : decode cX0_carryOut 80 = .ok (.aload_n 0, 1) := by decide +kernel
theorem dX0_carryOut_81 : decode cX0_carryOut 81 = .ok (.getfield 36, 3) := by decide +kernel
theorem dX0_carryOut_84 : decode cX0_carryOut 84 = .ok (.isub, 1) := by decide +kernel
theorem dX0_carryOut_85 : decode cX0_carryOut 85 = .ok (.putfield 36, 3) := by decide +kernel
theorem dX0_carryOut_88 : decode cX0_carryOut 88 = .ok (.goto 14, 3) := by decide +kernel
theorem dX0_carryOut_91 : decode cX0_carryOut 91 = .ok (.aload_n 0, 1) := by decide +kernel
theorem dX0_carryOut_92 : decode cX0_carryOut 92 = .ok (.invokevirtual 65, 3) := by decide +kernel
theorem dX0_carryOut_95 : decode cX0_carryOut 95 = .ok (.goto 7, 3) := by decide +kernel
theorem dX0_carryOut_98 : decode cX0_carryOut 98 = .ok (.aload_n 0, 1) := by decide +kernel
theorem dX0_carryOut_99 : decode cX0_carryOut 99 = .ok (.invokevirtual 68, 3) := by decide +kernel
theorem dX0_carryOut_102 : decode cX0_carryOut 102 = .ok (.return_, 1) := by decide +kernel
theorem dX1_init_0 : decode cX1_init 0 = .ok (.aload_n 0, 1) := by decide +kernel
theorem dX1_init_1 : decode cX1_init 1 = .ok (.invokespecial 3, 3) := by decide +kernel
theorem dX1_init_4 : decode cX1_init 4 = .ok (.aload_n 0, 1) := by decide +kernel
theorem dX1_init_5 : decode cX1_init 5 = .ok (.new 9, 3) := by decide +kernel
theorem dX1_init_8 : decode cX1_init 8 = .ok (.dup, 1) := by decide +kernel
theorem dX1_init_9 : decode cX1_init 9 = .ok (.invokespecial 11, 3) := by decide +kernel
theorem dX1_init_12 : decode cX1_init 12 = .ok (.putfield 12, 3) := by decide +kernel
theorem dX1_init_15 : decode cX1_init 15 = .ok (.aload_n 0, 1) := by decide +kernel
theorem dX1_init_16 : decode cX1_init 16 = .ok (.bipush 6, 2) := by decide +kernel
theorem dX1_init_18 : decode cX1_init 18 = .ok (.putfield 20, 3) := by decide +kernel
theorem dX1_init_21 : decode cX1_init 21 = .ok (.aload_n 0, 1) := by decide +kernel
theorem dX1_init_22 : decode cX1_init 22 = .ok (.iconst 0, 1) := by decide +kernel
theorem dX1_init_23 : decode cX1_init 23 = .ok (.putfield 24, 3) := by decide +kernel
theorem dX1_init_26 : decode cX1_init 26 = .ok (.aload_n 0, 1) := by decide +kernel
theorem dX1_init_27 : decode cX1_init 27 = .ok (.iconst 0, 1) := by decide +kernel
theorem dX1_init_28 : decode cX1_init 28 = .ok (.putfield 27, 3) := by decide +kernel
theorem dX1_init_31 : decode cX1_init 31 = .ok (.return_, 1) := by decide +kernel
theorem dX1_run_0 : decode cX1_run 0 = .ok (.aload_n 0, 1) := by decide +kernel
theorem dX1_run_1 : decode cX1_run 1 = .ok (.getfield 12, 3) := by decide +kernel
theorem dX1_run_4 : decode cX1_run 4 = .ok (.aload_n 1, 1) := by decide +kernel
theorem dX1_run_5 : decode cX1_run 5 = .ok (.invokevirtual 30, 3) := by decide +kernel
theorem dX1_run_8 : decode cX1_run 8 = .ok (.iload_n 2, 1) := by decide +kernel
theorem dX1_run_9 : decode cX1_run 9 = .ok (.istore 4, 2) := by decide +kernel
theorem dX1_run_11 : decode cX1_run 11 = .ok (.iconst 0, 1) := by decide +kernel
theorem dX1_run_12 : decode cX1_run 12 = .ok (.istore 5, 2) := by decide +kernel
theorem dX1_run_14 : decode cX1_run 14 = .ok (.iload 5, 2) := by decide +kernel
theorem dX1_run_16 : decode cX1_run 16 = .ok (.iload_n 3, 1) := by decide +kernel
theorem dX1_run_17 : decode cX1_run 17 = .ok (.if_icmp .ge 69, 3) := by decide +kernel
theorem dX1_run_20 : decode cX1_run 20 = .ok (.bipush 75, 2) := by decide +kernel
theorem dX1_run_22 : decode cX1_run 22 = .ok (.iload 4, 2) := by decide +kernel
theorem dX1_run_24 : decode cX1_run 24 = .ok (.imul, 1) := by decide +kernel
theorem dX1_run_25 : decode cX1_run 25 = .ok (.bipush 74, 2) := by decide +kernel
theorem dX1_run_27 : decode cX1_run 27 = .ok (.iadd, 1) := by decide +kernel
theorem dX1_run_28 : decode cX1_run 28 = .ok (.ldc 34, 2) := by decide +kernel
theorem dX1_run_30 : decode cX1_run 30 = .ok (.irem, 1) := by decide +kernel
theorem dX1_run_31 : decode cX1_run 31 = .ok (.istore 4, 2) := by decide +kernel
theorem dX1_run_33 : decode cX1_run 33 = .ok (.aload_n 0, 1) := by decide +kernel
theorem dX1_run_34 : decode cX1_run 34 = .ok (.iload 4, 2) := by decide +kernel
theorem dX1_run_36 : decode cX1_run 36 = .ok (.invokevirtual 35, 3) := by decide +kernel
theorem dX1_run_39 : decode cX1_run 39 = .ok (.aload_n 0, 1) := by decide +kernel
theorem dX1_run_40 : decode cX1_run 40 = .ok (.getfield 12, 3) := by decide +kernel
theorem dX1_run_43 : decode cX1_run 43 = .ok (.aload_n 0, 1) := by decide +kernel
theorem dX1_run_44 : decode cX1_run 44 = .ok (.getfield 20, 3) := by decide +kernel
theorem dX1_run_47 : decode cX1_run 47 = .ok (.aload_n 0, 1) := by decide +kernel
theorem dX1_run_48 : decode cX1_run 48 = .ok (.getfield 24, 3) := by decide +kernel
theorem dX1_run_51 : decode cX1_run 51 = .ok (.aload_n 0, 1) := by decide +kernel
theorem dX1_run_52 : decode cX1_run 52 = .ok (.getfield 27, 3) := by decide +kernel
theorem dX1_run_55 : decode cX1_run 55 = .ok (.invokestatic 39, 3) := by decide +kernel
theorem dX1_run_58 : decode cX1_run 58 = .ok (.ifCond .ne 22, 3) := by decide +kernel
theorem dX1_run_61 : decode cX1_run 61 = .ok (.aload_n 0, 1) := by decide +kernel
theorem dX1_run_62 : decode cX1_run 62 = .ok (.getfield 12, 3) := by decide +kernel
theorem dX1_run_65 : decode cX1_run 65 = .ok (.aload_n 0, 1) := by decide +kernel
theorem dX1_run_66 : decode cX1_run 66 = .ok (.getfield 20, 3) := by decide +kernel
theorem dX1_run_69 : decode cX1_run 69 = .ok (.aload_n 0, 1) := by decide +kernel
theorem dX1_run_70 : decode cX1_run 70 = .ok (.getfield 24, 3) := by decide +kernel
theorem dX1_run_73 : decode cX1_run 73 = .ok (.aload_n 0, 1) := by decide +kernel
theorem dX1_run_74 : decode cX1_run 74 = .ok (.getfield 27, 3) := by decide +kernel
theorem dX1_run_77 : decode cX1_run 77 = .ok (.invokestatic 43, 3) := by decide +kernel
theorem dX1_run_80 : decode cX1_run 80 = .ok (.iinc 5 1, 3) := by decide +kernel
theorem dX1_run_83 : decode cX1_run 83 = .ok (.goto (-69), 3) := by decide +kernel
theorem dX1_run_86 : decode cX1_run 86 = .ok (.return_, 1) := by decide +kernel
theorem dX1_drawAct_0 : decode cX1_drawAct 0 = .ok (.aload_n 0, 1) := by decide +kernel
theorem dX1_drawAct_1 : decode cX1_drawAct 1 = .ok (.iload_n 1, 1) := by decide +kernel
theorem dX1_drawAct_2 : decode cX1_drawAct 2 = .ok (.bipush 6, 2) := by decide +kernel
theorem dX1_drawAct_4 : decode cX1_drawAct 4 = .ok (.irem, 1) := by decide +kernel
theorem dX1_drawAct_5 : decode cX1_drawAct 5 = .ok (.putfield 24, 3) := by decide +kernel
theorem dX1_drawAct_8 : decode cX1_drawAct 8 = .ok (.aload_n 0, 1) := by decide +kernel
theorem dX1_drawAct_9 : decode cX1_drawAct 9 = .ok (.iconst 0, 1) := by decide +kernel
theorem dX1_drawAct_10 : decode cX1_drawAct 10 = .ok (.putfield 27, 3) := by decide +kernel
theorem dX1_drawAct_13 : decode cX1_drawAct 13 = .ok (.iload_n 1, 1) := by decide +kernel
theorem dX1_drawAct_14 : decode cX1_drawAct 14 = .ok (.bipush 6, 2) := by decide +kernel
theorem dX1_drawAct_16 : decode cX1_drawAct 16 = .ok (.idiv, 1) := by decide +kernel
theorem dX1_drawAct_17 : decode cX1_drawAct 17 = .ok (.bipush 8, 2) := by decide +kernel
theorem dX1_drawAct_19 : decode cX1_drawAct 19 = .ok (.irem, 1) := by decide +kernel
theorem dX1_drawAct_20 : decode cX1_drawAct 20 = .ok (.tableswitch 99 3 7 #[36, 44, 52, 82, 90], 36) := by decide +kernel
theorem dX1_drawAct_56 : decode cX1_drawAct 56 = .ok (.aload_n 0, 1) := by decide +kernel
theorem dX1_drawAct_57 : decode cX1_drawAct 57 = .ok (.iconst 2, 1) := by decide +kernel
theorem dX1_drawAct_58 : decode cX1_drawAct 58 = .ok (.putfield 20, 3) := by decide +kernel
theorem dX1_drawAct_61 : decode cX1_drawAct 61 = .ok (.goto 76, 3) := by decide +kernel
theorem dX1_drawAct_64 : decode cX1_drawAct 64 = .ok (.aload_n 0, 1) := by decide +kernel
theorem dX1_drawAct_65 : decode cX1_drawAct 65 = .ok (.iconst 1, 1) := by decide +kernel
theorem dX1_drawAct_66 : decode cX1_drawAct 66 = .ok (.putfield 20, 3) := by decide +kernel
theorem dX1_drawAct_69 : decode cX1_drawAct 69 = .ok (.goto 68, 3) := by decide +kernel
theorem dX1_drawAct_72 : decode cX1_drawAct 72 = .ok (.aload_n 0, 1) := by decide +kernel
theorem dX1_drawAct_73 : decode cX1_drawAct 73 = .ok (.iconst 3, 1) := by decide +kernel
theorem dX1_drawAct_74 : decode cX1_drawAct 74 = .ok (.putfield 20, 3) := by decide +kernel
theorem dX1_drawAct_77 : decode cX1_drawAct 77 = .ok (.aload_n 0, 1) := by decide +kernel
theorem dX1_drawAct_78 : decode cX1_drawAct 78 = .ok (.iload_n 1, 1) := by decide +kernel
theorem dX1_drawAct_79 : decode cX1_drawAct 79 = .ok (.bipush 48, 2) := by decide +kernel
theorem dX1_drawAct_81 : decode cX1_drawAct 81 = .ok (.idiv, 1) := by decide +kernel
theorem dX1_drawAct_82 : decode cX1_drawAct 82 = .ok (.iconst 4, 1) := by decide +kernel
theorem dX1_drawAct_83 : decode cX1_drawAct 83 = .ok (.irem, 1) := by decide +kernel
theorem dX1_drawAct_84 : decode cX1_drawAct 84 = .ok (.putfield 24, 3) := by decide +kernel
theorem dX1_drawAct_87 : decode cX1_drawAct 87 = .ok (.aload_n 0, 1) := by decide +kernel
theorem dX1_drawAct_88 : decode cX1_drawAct 88 = .ok (.iload_n 1, 1) := by decide +kernel
theorem dX1_drawAct_89 : decode cX1_drawAct 89 = .ok (.sipush 192, 3) := by decide +kernel
theorem dX1_drawAct_92 : decode cX1_drawAct 92 = .ok (.idiv, 1) := by decide +kernel
theorem dX1_drawAct_93 : decode cX1_drawAct 93 = .ok (.bipush 6, 2) := by decide +kernel
theorem dX1_drawAct_95 : decode cX1_drawAct 95 = .ok (.irem, 1) := by decide +kernel
theorem dX1_drawAct_96 : decode cX1_drawAct 96 = .ok (.putfield 27, 3) := by decide +kernel
theorem dX1_drawAct_99 : decode cX1_drawAct 99 = .ok (.goto 38, 3) := by decide +kernel
theorem dX1_drawAct_102 : decode cX1_drawAct 102 = .ok (.aload_n 0, 1) := by decide +kernel
theorem dX1_drawAct_103 : decode cX1_drawAct 103 = .ok (.iconst 5, 1) := by decide +kernel
theorem dX1_drawAct_104 : decode cX1_drawAct 104 = .ok (.putfield 20, 3) := by decide +kernel
theorem dX1_drawAct_107 : decode cX1_drawAct 107 = .ok (.goto 30, 3) := by decide +kernel
theorem dX1_drawAct_110 : decode cX1_drawAct 110 = .ok (.aload_n 0, 1) := by decide +kernel
theorem dX1_drawAct_111 : decode cX1_drawAct 111 = .ok (.bipush 6, 2) := by decide +kernel
theorem dX1_drawAct_113 : decode cX1_drawAct 113 = .ok (.putfield 20, 3) := by decide +kernel
theorem dX1_drawAct_116 : decode cX1_drawAct 116 = .ok (.goto 21, 3) := by decide +kernel
theorem dX1_drawAct_119 : decode cX1_drawAct 119 = .ok (.aload_n 0, 1) := by decide +kernel
theorem dX1_drawAct_120 : decode cX1_drawAct 120 = .ok (.iconst 0, 1) := by decide +kernel
theorem dX1_drawAct_121 : decode cX1_drawAct 121 = .ok (.putfield 20, 3) := by decide +kernel
theorem dX1_drawAct_124 : decode cX1_drawAct 124 = .ok (.aload_n 0, 1) := by decide +kernel
theorem dX1_drawAct_125 : decode cX1_drawAct 125 = .ok (.iconst 1, 1) := by decide +kernel
theorem dX1_drawAct_126 : decode cX1_drawAct 126 = .ok (.iload_n 1, 1) := by decide +kernel
theorem dX1_drawAct_127 : decode cX1_drawAct 127 = .ok (.bipush 48, 2) := by decide +kernel
theorem dX1_drawAct_129 : decode cX1_drawAct 129 = .ok (.idiv, 1) := by decide +kernel
theorem dX1_drawAct_130 : decode cX1_drawAct 130 = .ok (.bipush 9, 2) := by decide +kernel
theorem dX1_drawAct_132 : decode cX1_drawAct 132 = .ok (.irem, 1) := by decide +kernel
theorem dX1_drawAct_133 : decode cX1_drawAct 133 = .ok (.iadd, 1) := by decide +kernel
theorem dX1_drawAct_134 : decode cX1_drawAct 134 = .ok (.putfield 27, 3) := by decide +kernel
theorem dX1_drawAct_137 : decode cX1_drawAct 137 = .ok (.return_, 1) := by decide +kernel
theorem dX2_init_0 : decode cX2_init 0 = .ok (.aload_n 0, 1) := by decide +kernel
theorem dX2_init_1 : decode cX2_init 1 = .ok (.invokespecial 3, 3) := by decide +kernel
theorem dX2_init_4 : decode cX2_init 4 = .ok (.aload_n 0, 1) := by decide +kernel
theorem dX2_init_5 : decode cX2_init 5 = .ok (.sipush 360, 3) := by decide +kernel
theorem dX2_init_8 : decode cX2_init 8 = .ok (.newarray .int, 2) := by decide +kernel
theorem dX2_init_10 : decode cX2_init 10 = .ok (.putfield 9, 3) := by decide +kernel
theorem dX2_init_13 : decode cX2_init 13 = .ok (.aload_n 0, 1) := by decide +kernel
theorem dX2_init_14 : decode cX2_init 14 = .ok (.iconst 0, 1) := by decide +kernel
theorem dX2_init_15 : decode cX2_init 15 = .ok (.putfield 15, 3) := by decide +kernel
theorem dX2_init_18 : decode cX2_init 18 = .ok (.aload_n 0, 1) := by decide +kernel
theorem dX2_init_19 : decode cX2_init 19 = .ok (.bipush 41, 2) := by decide +kernel
theorem dX2_init_21 : decode cX2_init 21 = .ok (.newarray .int, 2) := by decide +kernel
theorem dX2_init_23 : decode cX2_init 23 = .ok (.putfield 19, 3) := by decide +kernel
theorem dX2_init_26 : decode cX2_init 26 = .ok (.aload_n 0, 1) := by decide +kernel
theorem dX2_init_27 : decode cX2_init 27 = .ok (.bipush 36, 2) := by decide +kernel
theorem dX2_init_29 : decode cX2_init 29 = .ok (.newarray .int, 2) := by decide +kernel
theorem dX2_init_31 : decode cX2_init 31 = .ok (.putfield 22, 3) := by decide +kernel
theorem dX2_init_34 : decode cX2_init 34 = .ok (.aload_n 0, 1) := by decide +kernel
theorem dX2_init_35 : decode cX2_init 35 = .ok (.bipush 36, 2) := by decide +kernel
theorem dX2_init_37 : decode cX2_init 37 = .ok (.newarray .int, 2) := by decide +kernel
theorem dX2_init_39 : decode cX2_init 39 = .ok (.putfield 25, 3) := by decide +kernel
theorem dX2_init_42 : decode cX2_init 42 = .ok (.return_, 1) := by decide +kernel
theorem dX2_gather_0 : decode cX2_gather 0 = .ok (.aload_n 0, 1) := by decide +kernel
theorem dX2_gather_1 : decode cX2_gather 1 = .ok (.iconst 0, 1) := by decide +kernel
theorem dX2_gather_2 : decode cX2_gather 2 = .ok (.putfield 15, 3) := by decide +kernel
theorem dX2_gather_5 : decode cX2_gather 5 = .ok (.iconst 1, 1) := by decide +kernel
theorem dX2_gather_6 : decode cX2_gather 6 = .ok (.istore_n 2, 1) := by decide +kernel
theorem dX2_gather_7 : decode cX2_gather 7 = .ok (.iload_n 2, 1) := by decide +kernel
theorem dX2_gather_8 : decode cX2_gather 8 = .ok (.bipush 9, 2) := by decide +kernel
theorem dX2_gather_10 : decode cX2_gather 10 = .ok (.if_icmp .gt 69, 3) := by decide +kernel
theorem dX2_gather_13 : decode cX2_gather 13 = .ok (.iconst 1, 1) := by decide +kernel
theorem dX2_gather_14 : decode cX2_gather 14 = .ok (.istore_n 3, 1) := by decide +kernel
theorem dX2_gather_15 : decode cX2_gather 15 = .ok (.iload_n 3, 1) := by decide +kernel
theorem dX2_gather_16 : decode cX2_gather 16 = .ok (.bipush 40, 2) := by decide +kernel
theorem dX2_gather_18 : decode cX2_gather 18 = .ok (.if_icmp .gt 55, 3) := by decide +kernel
theorem dX2_gather_21 : decode cX2_gather 21 = .ok (.aload_n 0, 1) := by decide +kernel
theorem dX2_gather_22 : decode cX2_gather 22 = .ok (.getfield 15, 3) := by decide +kernel
theorem dX2_gather_25 : decode cX2_gather 25 = .ok (.aload_n 0, 1) := by decide +kernel
theorem dX2_gather_26 : decode cX2_gather 26 = .ok (.getfield 9, 3) := by decide +kernel
theorem dX2_gather_29 : decode cX2_gather 29 = .ok (.arraylength, 1) := by decide +kernel
theorem dX2_gather_30 : decode cX2_gather 30 = .ok (.if_icmp .ge 37, 3) := by decide +kernel
theorem dX2_gather_33 : decode cX2_gather 33 = .ok (.aload_n 1, 1) := by decide +kernel
theorem dX2_gather_34 : decode cX2_gather 34 = .ok (.iload_n 2, 1) := by decide +kernel
theorem dX2_gather_35 : decode cX2_gather 35 = .ok (.iload_n 3, 1) := by decide +kernel
theorem dX2_gather_36 : decode cX2_gather 36 = .ok (.invokevirtual 28, 3) := by decide +kernel
theorem dX2_gather_39 : decode cX2_gather 39 = .ok (.ifCond .eq 28, 3) := by decide +kernel
theorem dX2_gather_42 : decode cX2_gather 42 = .ok (.aload_n 0, 1) := by decide +kernel
theorem dX2_gather_43 : decode cX2_gather 43 = .ok (.getfield 9, 3) := by decide +kernel
theorem dX2_gather_46 : decode cX2_gather 46 = .ok (.aload_n 0, 1) := by decide +kernel
theorem dX2_gather_47 : decode cX2_gather 47 = .ok (.getfield 15, 3) := by decide +kernel
theorem dX2_gather_50 : decode cX2_gather 50 = .ok (.bipush 100, 2) := by decide +kernel
theorem dX2_gather_52 : decode cX2_gather 52 = .ok (.iload_n 2, 1) := by decide +kernel
theorem dX2_gather_53 : decode cX2_gather 53 = .ok (.imul, 1) := by decide +kernel
theorem dX2_gather_54 : decode cX2_gather 54 = .ok (.iload_n 3, 1) := by decide +kernel
theorem dX2_gather_55 : decode cX2_gather 55 = .ok (.iadd, 1) := by decide +kernel
theorem dX2_gather_56 : decode cX2_gather 56 = .ok (.iastore, 1) := by decide +kernel
theorem dX2_gather_57 : decode cX2_gather 57 = .ok (.aload_n 0, 1) := by decide +kernel
theorem dX2_gather_58 : decode cX2_gather 58 = .ok (.dup, 1) := by decide +kernel
theorem dX2_gather_59 : decode cX2_gather 59 = .ok (.getfield 15, 3) := by decide +kernel
theorem dX2_gather_62 : decode cX2_gather 62 = .ok (.iconst 1, 1) := by decide +kernel
theorem dX2_gather_63 : decode cX2_gather 63 = .ok (.iadd, 1) := by decide +kernel
theorem dX2_gather_64 : decode cX2_gather 64 = .ok (.putfield 15, 3) := by decide +kernel
theorem dX2_gather_67 : decode cX2_gather 67 = .ok (.iinc 3 1, 3) := by decide +kernel
theorem dX2_gather_70 : decode cX2_gather 70 = .ok (.goto (-55), 3) := by decide +kernel
theorem dX2_gather_73 : decode cX2_gather 73 = .ok (.iinc 2 1, 3) := by decide +kernel
theorem dX2_gather_76 : decode cX2_gather 76 = .ok (.goto (-69), 3) := by decide +kernel
theorem dX2_gather_79 : decode cX2_gather 79 = .ok (.return_, 1) := by decide +kernel
theorem dX2_bestBreath_0 : decode cX2_bestBreath 0 = .ok (.iconst 1, 1) := by decide +kernel
theorem dX2_bestBreath_1 : decode cX2_bestBreath 1 = .ok (.istore_n 1, 1) := by decide +kernel
theorem dX2_bestBreath_2 : decode cX2_bestBreath 2 = .ok (.aload_n 0, 1) := by decide +kernel
theorem dX2_bestBreath_3 : decode cX2_bestBreath 3 = .ok (.iconst 1, 1) := by decide +kernel
theorem dX2_bestBreath_4 : decode cX2_bestBreath 4 = .ok (.invokevirtual 34, 3) := by decide +kernel
theorem dX2_bestBreath_7 : decode cX2_bestBreath 7 = .ok (.istore_n 2, 1) := by decide +kernel
theorem dX2_bestBreath_8 : decode cX2_bestBreath 8 = .ok (.iconst 2, 1) := by decide +kernel
theorem dX2_bestBreath_9 : decode cX2_bestBreath 9 = .ok (.istore_n 3, 1) := by decide +kernel
theorem dX2_bestBreath_10 : decode cX2_bestBreath 10 = .ok (.iload_n 3, 1) := by decide +kernel
theorem dX2_bestBreath_11 : decode cX2_bestBreath 11 = .ok (.bipush 9, 2) := by decide +kernel
theorem dX2_bestBreath_13 : decode cX2_bestBreath 13 = .ok (.if_icmp .gt 27, 3) := by decide +kernel
theorem dX2_bestBreath_16 : decode cX2_bestBreath 16 = .ok (.aload_n 0, 1) := by decide +kernel
theorem dX2_bestBreath_17 : decode cX2_bestBreath 17 = .ok (.iload_n 3, 1) := by decide +kernel
theorem dX2_bestBreath_18 : decode cX2_bestBreath 18 = .ok (.invokevirtual 34, 3) := by decide +kernel
theorem dX2_bestBreath_21 : decode cX2_bestBreath 21 = .ok (.istore 4, 2) := by decide +kernel
theorem dX2_bestBreath_23 : decode cX2_bestBreath 23 = .ok (.iload 4, 2) := by decide +kernel
theorem dX2_bestBreath_25 : decode cX2_bestBreath 25 = .ok (.iload_n 2, 1) := by decide +kernel
theorem dX2_bestBreath_26 : decode cX2_bestBreath 26 = .ok (.if_icmp .ge 8, 3) := by decide +kernel
theorem dX2_bestBreath_29 : decode cX2_bestBreath 29 = .ok (.iload_n 3, 1) := by decide +kernel
theorem dX2_bestBreath_30 : decode cX2_bestBreath 30 = .ok (.istore_n 1, 1) := by decide +kernel
theorem dX2_bestBreath_31 : decode cX2_bestBreath 31 = .ok (.iload 4, 2) := by decide +kernel
theorem dX2_bestBreath_33 : decode cX2_bestBreath 33 = .ok (.istore_n 2, 1) := by decide +kernel
theorem dX2_bestBreath_34 : decode cX2_bestBreath 34 = .ok (.iinc 3 1, 3) := by decide +kernel
theorem dX2_bestBreath_37 : decode cX2_bestBreath 37 = .ok (.goto (-27), 3) := by decide +kernel
theorem dX2_bestBreath_40 : decode cX2_bestBreath 40 = .ok (.iload_n 1, 1) := by decide +kernel
theorem dX2_bestBreath_41 : decode cX2_bestBreath 41 = .ok (.ireturn, 1) := by decide +kernel
theorem dX2_mostLeft_0 : decode cX2_mostLeft 0 = .ok (.aload_n 0, 1) := by decide +kernel
theorem dX2_mostLeft_1 : decode cX2_mostLeft 1 = .ok (.getfield 19, 3) := by decide +kernel
theorem dX2_mostLeft_4 : decode cX2_mostLeft 4 = .ok (.invokestatic 38, 3) := by decide +kernel
theorem dX2_mostLeft_7 : decode cX2_mostLeft 7 = .ok (.iconst 0, 1) := by decide +kernel
theorem dX2_mostLeft_8 : decode cX2_mostLeft 8 = .ok (.istore_n 2, 1) := by decide +kernel
theorem dX2_mostLeft_9 : decode cX2_mostLeft 9 = .ok (.iconst 0, 1) := by decide +kernel
theorem dX2_mostLeft_10 : decode cX2_mostLeft 10 = .ok (.istore_n 3, 1) := by decide +kernel
theorem dX2_mostLeft_11 : decode cX2_mostLeft 11 = .ok (.iload_n 3, 1) := by decide +kernel
theorem dX2_mostLeft_12 : decode cX2_mostLeft 12 = .ok (.aload_n 0, 1) := by decide +kernel
theorem dX2_mostLeft_13 : decode cX2_mostLeft 13 = .ok (.getfield 15, 3) := by decide +kernel
theorem dX2_mostLeft_16 : decode cX2_mostLeft 16 = .ok (.if_icmp .ge 77, 3) := by decide +kernel
theorem dX2_mostLeft_19 : decode cX2_mostLeft 19 = .ok (.iload_n 3, 1) := by decide +kernel
theorem dX2_mostLeft_20 : decode cX2_mostLeft 20 = .ok (.aload_n 0, 1) := by decide +kernel
theorem dX2_mostLeft_21 : decode cX2_mostLeft 21 = .ok (.getfield 9, 3) := by decide +kernel
theorem dX2_mostLeft_24 : decode cX2_mostLeft 24 = .ok (.arraylength, 1) := by decide +kernel
theorem dX2_mostLeft_25 : decode cX2_mostLeft 25 = .ok (.if_icmp .ge 68, 3) := by decide +kernel
theorem dX2_mostLeft_28 : decode cX2_mostLeft 28 = .ok (.iload_n 1, 1) := by decide +kernel
theorem dX2_mostLeft_29 : decode cX2_mostLeft 29 = .ok (.aload_n 0, 1) := by decide +kernel
theorem dX2_mostLeft_30 : decode cX2_mostLeft 30 = .ok (.getfield 9, 3) := by decide +kernel
theorem dX2_mostLeft_33 : decode cX2_mostLeft 33 = .ok (.iload_n 3, 1) := by decide +kernel
theorem dX2_mostLeft_34 : decode cX2_mostLeft 34 = .ok (.iaload, 1) := by decide +kernel
theorem dX2_mostLeft_35 : decode cX2_mostLeft 35 = .ok (.bipush 100, 2) := by decide +kernel
theorem dX2_mostLeft_37 : decode cX2_mostLeft 37 = .ok (.idiv, 1) := by decide +kernel
theorem dX2_mostLeft_38 : decode cX2_mostLeft 38 = .ok (.imul, 1) := by decide +kernel
theorem dX2_mostLeft_39 : decode cX2_mostLeft 39 = .ok (.aload_n 0, 1) := by decide +kernel
theorem dX2_mostLeft_40 : decode cX2_mostLeft 40 = .ok (.getfield 9, 3) := by decide +kernel
theorem dX2_mostLeft_43 : decode cX2_mostLeft 43 = .ok (.iload_n 3, 1) := by decide +kernel
theorem dX2_mostLeft_44 : decode cX2_mostLeft 44 = .ok (.iaload, 1) := by decide +kernel
theorem dX2_mostLeft_45 : decode cX2_mostLeft 45 = .ok (.bipush 100, 2) := by decide +kernel
theorem dX2_mostLeft_47 : decode cX2_mostLeft 47 = .ok (.irem, 1) := by decide +kernel
theorem dX2_mostLeft_48 : decode cX2_mostLeft 48 = .ok (.invokestatic 42, 3) := by decide +kernel
theorem dX2_mostLeft_51 : decode cX2_mostLeft 51 = .ok (.istore 4, 2) := by decide +kernel
theorem dX2_mostLeft_53 : decode cX2_mostLeft 53 = .ok (.iload 4, 2) := by decide +kernel
theorem dX2_mostLeft_55 : decode cX2_mostLeft 55 = .ok (.iconst 0, 1) := by decide +kernel
theorem dX2_mostLeft_56 : decode cX2_mostLeft 56 = .ok (.bipush 40, 2) := by decide +kernel
theorem dX2_mostLeft_58 : decode cX2_mostLeft 58 = .ok (.invokestatic 48, 3) := by decide +kernel
theorem dX2_mostLeft_61 : decode cX2_mostLeft 61 = .ok (.ifCond .eq 26, 3) := by decide +kernel
theorem dX2_mostLeft_64 : decode cX2_mostLeft 64 = .ok (.aload_n 0, 1) := by decide +kernel
theorem dX2_mostLeft_65 : decode cX2_mostLeft 65 = .ok (.getfield 19, 3) := by decide +kernel
theorem dX2_mostLeft_68 : decode cX2_mostLeft 68 = .ok (.iload 4, 2) := by decide +kernel
theorem dX2_mostLeft_70 : decode cX2_mostLeft 70 = .ok (.dup2, 1) := by decide +kernel
theorem dX2_mostLeft_71 : decode cX2_mostLeft 71 = .ok (.iaload, 1) := by decide +kernel
theorem dX2_mostLeft_72 : decode cX2_mostLeft 72 = .ok (.iconst 1, 1) := by decide +kernel
theorem dX2_mostLeft_73 : decode cX2_mostLeft 73 = .ok (.iadd, 1) := by decide +kernel
theorem dX2_mostLeft_74 : decode cX2_mostLeft 74 = .ok (.iastore, 1) := by decide +kernel
theorem dX2_mostLeft_75 : decode cX2_mostLeft 75 = .ok (.iload_n 2, 1) := by decide +kernel
theorem dX2_mostLeft_76 : decode cX2_mostLeft 76 = .ok (.aload_n 0, 1) := by decide +kernel
theorem dX2_mostLeft_77 : decode cX2_mostLeft 77 = .ok (.getfield 19, 3) := by decide +kernel
theorem dX2_mostLeft_80 : decode cX2_mostLeft 80 = .ok (.iload 4, 2) := by decide +kernel
theorem dX2_mostLeft_82 : decode cX2_mostLeft 82 = .ok (.iaload, 1) := by decide +kernel
theorem dX2_mostLeft_83 : decode cX2_mostLeft 83 = .ok (.invokestatic 52, 3) := by decide +kernel
theorem dX2_mostLeft_86 : decode cX2_mostLeft 86 = .ok (.istore_n 2, 1) := by decide +kernel
theorem dX2_mostLeft_87 : decode cX2_mostLeft 87 = .ok (.iinc 3 1, 3) := by decide +kernel
theorem dX2_mostLeft_90 : decode cX2_mostLeft 90 = .ok (.goto (-79), 3) := by decide +kernel
theorem dX2_mostLeft_93 : decode cX2_mostLeft 93 = .ok (.iload_n 2, 1) := by decide +kernel
theorem dX2_mostLeft_94 : decode cX2_mostLeft 94 = .ok (.ireturn, 1) := by decide +kernel
theorem dX2_chance_0 : decode cX2_chance 0 = .ok (.aload_n 0, 1) := by decide +kernel
theorem dX2_chance_1 : decode cX2_chance 1 = .ok (.iload_n 1, 1) := by decide +kernel
theorem dX2_chance_2 : decode cX2_chance 2 = .ok (.iload_n 3, 1) := by decide +kernel
theorem dX2_chance_3 : decode cX2_chance 3 = .ok (.invokevirtual 55, 3) := by decide +kernel
theorem dX2_chance_6 : decode cX2_chance 6 = .ok (.iconst 1, 1) := by decide +kernel
theorem dX2_chance_7 : decode cX2_chance 7 = .ok (.iconst 2, 1) := by decide +kernel
theorem dX2_chance_8 : decode cX2_chance 8 = .ok (.iload_n 3, 1) := by decide +kernel
theorem dX2_chance_9 : decode cX2_chance 9 = .ok (.imul, 1) := by decide +kernel
theorem dX2_chance_10 : decode cX2_chance 10 = .ok (.ishl, 1) := by decide +kernel
theorem dX2_chance_11 : decode cX2_chance 11 = .ok (.istore 5, 2) := by decide +kernel
theorem dX2_chance_13 : decode cX2_chance 13 = .ok (.iload_n 2, 1) := by decide +kernel
theorem dX2_chance_14 : decode cX2_chance 14 = .ok (.iconst (-1), 1) := by decide +kernel
theorem dX2_chance_15 : decode cX2_chance 15 = .ok (.if_icmp .ne 16, 3) := by decide +kernel
theorem dX2_chance_18 : decode cX2_chance 18 = .ok (.iload 5, 2) := by decide +kernel
theorem dX2_chance_20 : decode cX2_chance 20 = .ok (.aload_n 0, 1) := by decide +kernel
theorem dX2_chance_21 : decode cX2_chance 21 = .ok (.getfield 22, 3) := by decide +kernel
theorem dX2_chance_24 : decode cX2_chance 24 = .ok (.invokestatic 59, 3) := by decide +kernel
theorem dX2_chance_27 : decode cX2_chance 27 = .ok (.isub, 1) := by decide +kernel
theorem dX2_chance_28 : decode cX2_chance 28 = .ok (.goto 11, 3) := by decide +kernel
theorem dX2_chance_31 : decode cX2_chance 31 = .ok (.aload_n 0, 1) := by decide +kernel
theorem dX2_chance_32 : decode cX2_chance 32 = .ok (.getfield 22, 3) := by decide +kernel
theorem dX2_chance_35 : decode cX2_chance 35 = .ok (.iload_n 2, 1) := by decide +kernel
theorem dX2_chance_36 : decode cX2_chance 36 = .ok (.invokestatic 63, 3) := by decide +kernel
theorem dX2_chance_39 : decode cX2_chance 39 = .ok (.istore 6, 2) := by decide +kernel
theorem dX2_chance_41 : decode cX2_chance 41 = .ok (.iconst 0, 1) := by decide +kernel
theorem dX2_chance_42 : decode cX2_chance 42 = .ok (.istore 7, 2) := by decide +kernel
theorem dX2_chance_44 : decode cX2_chance 44 = .ok (.iload 7, 2) := by decide +kernel
theorem dX2_chance_46 : decode cX2_chance 46 = .ok (.iconst 2, 1) := by decide +kernel
theorem dX2_chance_47 : decode cX2_chance 47 = .ok (.iload_n 3, 1) := by decide +kernel
theorem dX2_chance_48 : decode cX2_chance 48 = .ok (.imul, 1) := by decide +kernel
theorem dX2_chance_49 : decode cX2_chance 49 = .ok (.if_icmp .ge 28, 3) := by decide +kernel
theorem dX2_chance_52 : decode cX2_chance 52 = .ok (.iload 6, 2) := by decide +kernel
theorem dX2_chance_54 : decode cX2_chance 54 = .ok (.iconst 2, 1) := by decide +kernel
theorem dX2_chance_55 : decode cX2_chance 55 = .ok (.irem, 1) := by decide +kernel
theorem dX2_chance_56 : decode cX2_chance 56 = .ok (.ifCond .ne 21, 3) := by decide +kernel
theorem dX2_chance_59 : decode cX2_chance 59 = .ok (.iload 6, 2) := by decide +kernel
theorem dX2_chance_61 : decode cX2_chance 61 = .ok (.iconst 2, 1) := by decide +kernel
theorem dX2_chance_62 : decode cX2_chance 62 = .ok (.idiv, 1) := by decide +kernel
theorem dX2_chance_63 : decode cX2_chance 63 = .ok (.istore 6, 2) := by decide +kernel
theorem dX2_chance_65 : decode cX2_chance 65 = .ok (.iload 5, 2) := by decide +kernel
theorem dX2_chance_67 : decode cX2_chance 67 = .ok (.iconst 2, 1) := by decide +kernel
theorem dX2_chance_68 : decode cX2_chance 68 = .ok (.idiv, 1) := by decide +kernel
theorem dX2_chance_69 : decode cX2_chance 69 = .ok (.istore 5, 2) := by decide +kernel
theorem dX2_chance_71 : decode cX2_chance 71 = .ok (.iinc 7 1, 3) := by decide +kernel
theorem dX2_chance_74 : decode cX2_chance 74 = .ok (.goto (-30), 3) := by decide +kernel
theorem dX2_chance_77 : decode cX2_chance 77 = .ok (.iload 4, 2) := by decide +kernel
theorem dX2_chance_79 : decode cX2_chance 79 = .ok (.ifCond .ne 9, 3) := by decide +kernel
theorem dX2_chance_82 : decode cX2_chance 82 = .ok (.iload 6, 2) := by decide +kernel
theorem dX2_chance_84 : decode cX2_chance 84 = .ok (.i2l, 1) := by decide +kernel
theorem dX2_chance_85 : decode cX2_chance 85 = .ok (.goto 6, 3) := by decide +kernel
theorem dX2_chance_88 : decode cX2_chance 88 = .ok (.iload 5, 2) := by decide +kernel
theorem dX2_chance_90 : decode cX2_chance 90 = .ok (.i2l, 1) := by decide +kernel
theorem dX2_chance_91 : decode cX2_chance 91 = .ok (.lreturn, 1) := by decide +kernel
theorem dX2_countWays_0 : decode cX2_countWays 0 = .ok (.aload_n 0, 1) := by decide +kernel
theorem dX2_countWays_1 : decode cX2_countWays 1 = .ok (.getfield 22, 3) := by decide +kernel
theorem dX2_countWays_4 : decode cX2_countWays 4 = .ok (.invokestatic 38, 3) := by decide +kernel
theorem dX2_countWays_7 : decode cX2_countWays 7 = .ok (.iload_n 1, 1) := by decide +kernel
theorem dX2_countWays_8 : decode cX2_countWays 8 = .ok (.invokestatic 67, 3) := by decide +kernel
theorem dX2_countWays_11 : decode cX2_countWays 11 = .ok (.ifCond .eq 10, 3) := by decide +kernel
theorem dX2_countWays_14 : decode cX2_countWays 14 = .ok (.aload_n 0, 1) := by decide +kernel
theorem dX2_countWays_15 : decode cX2_countWays 15 = .ok (.getfield 22, 3) := by decide +kernel
theorem dX2_countWays_18 : decode cX2_countWays 18 = .ok (.iload_n 1, 1) := by decide +kernel
theorem dX2_countWays_19 : decode cX2_countWays 19 = .ok (.iconst 1, 1) := by decide +kernel
theorem dX2_countWays_20 : decode cX2_countWays 20 = .ok (.iastore, 1) := by decide +kernel
theorem dX2_countWays_21 : decode cX2_countWays 21 = .ok (.iconst 0, 1) := by decide +kernel
theorem dX2_countWays_22 : decode cX2_countWays 22 = .ok (.istore_n 3, 1) := by decide +kernel
theorem dX2_countWays_23 : decode cX2_countWays 23 = .ok (.iload_n 3, 1) := by decide +kernel
theorem dX2_countWays_24 : decode cX2_countWays 24 = .ok (.iload_n 2, 1) := by decide +kernel
theorem dX2_countWays_25 : decode cX2_countWays 25 = .ok (.if_icmp .ge 53, 3) := by decide +kernel
theorem dX2_countWays_28 : decode cX2_countWays 28 = .ok (.aload_n 0, 1) := by decide +kernel
theorem dX2_countWays_29 : decode cX2_countWays 29 = .ok (.getfield 25, 3) := by decide +kernel
theorem dX2_countWays_32 : decode cX2_countWays 32 = .ok (.invokestatic 38, 3) := by decide +kernel
theorem dX2_countWays_35 : decode cX2_countWays 35 = .ok (.iconst 0, 1) := by decide +kernel
theorem dX2_countWays_36 : decode cX2_countWays 36 = .ok (.istore 4, 2) := by decide +kernel
theorem dX2_countWays_38 : decode cX2_countWays 38 = .ok (.iload 4, 2) := by decide +kernel
theorem dX2_countWays_40 : decode cX2_countWays 40 = .ok (.bipush 36, 2) := by decide +kernel
theorem dX2_countWays_42 : decode cX2_countWays 42 = .ok (.if_icmp .ge 15, 3) := by decide +kernel
theorem dX2_countWays_45 : decode cX2_countWays 45 = .ok (.aload_n 0, 1) := by decide +kernel
theorem dX2_countWays_46 : decode cX2_countWays 46 = .ok (.iload 4, 2) := by decide +kernel
theorem dX2_countWays_48 : decode cX2_countWays 48 = .ok (.invokevirtual 71, 3) := by decide +kernel
theorem dX2_countWays_51 : decode cX2_countWays 51 = .ok (.iinc 4 1, 3) := by decide +kernel
theorem dX2_countWays_54 : decode cX2_countWays 54 = .ok (.goto (-16), 3) := by decide +kernel
theorem dX2_countWays_57 : decode cX2_countWays 57 = .ok (.aload_n 0, 1) := by decide +kernel
theorem dX2_countWays_58 : decode cX2_countWays 58 = .ok (.getfield 25, 3) := by decide +kernel
theorem dX2_countWays_61 : decode cX2_countWays 61 = .ok (.iconst 0, 1) := by decide +kernel
theorem dX2_countWays_62 : decode cX2_countWays 62 = .ok (.aload_n 0, 1) := by decide +kernel
theorem dX2_countWays_63 : decode cX2_countWays 63 = .ok (.getfield 22, 3) := by decide +kernel
theorem dX2_countWays_66 : decode cX2_countWays 66 = .ok (.iconst 0, 1) := by decide +kernel
theorem dX2_countWays_67 : decode cX2_countWays 67 = .ok (.bipush 36, 2) := by decide +kernel
theorem dX2_countWays_69 : decode cX2_countWays 69 = .ok (.invokestatic 75, 3) := by decide +kernel
theorem dX2_countWays_72 : decode cX2_countWays 72 = .ok (.iinc 3 1, 3) := by decide +kernel
theorem dX2_countWays_75 : decode cX2_countWays 75 = .ok (.goto (-52), 3) := by decide +kernel
theorem dX2_countWays_78 : decode cX2_countWays 78 = .ok (.return_, 1) := by decide +kernel
theorem dX2_spread_0 : decode cX2_spread 0 = .ok (.iconst 0, 1) := by decide +kernel
theorem dX2_spread_1 : decode cX2_spread 1 = .ok (.istore_n 2, 1) := by decide +kernel
theorem dX2_spread_2 : decode cX2_spread 2 = .ok (.iload_n 2, 1) := by decide +kernel
theorem dX2_spread_3 : decode cX2_spread 3 = .ok (.iconst 4, 1) := by decide +kernel
theorem dX2_spread_4 : decode cX2_spread 4 = .ok (.if_icmp .ge 40, 3) := by decide +kernel
theorem dX2_spread_7 : decode cX2_spread 7 = .ok (.iload_n 1, 1) := by decide +kernel
theorem dX2_spread_8 : decode cX2_spread 8 = .ok (.iload_n 2, 1) := by decide +kernel
theorem dX2_spread_9 : decode cX2_spread 9 = .ok (.iconst 1, 1) := by decide +kernel
theorem dX2_spread_10 : decode cX2_spread 10 = .ok (.invokestatic 81, 3) := by decide +kernel
theorem dX2_spread_13 : decode cX2_spread 13 = .ok (.istore_n 3, 1) := by decide +kernel
theorem dX2_spread_14 : decode cX2_spread 14 = .ok (.iload_n 3, 1) := by decide +kernel
theorem dX2_spread_15 : decode cX2_spread 15 = .ok (.invokestatic 67, 3) := by decide +kernel
theorem dX2_spread_18 : decode cX2_spread 18 = .ok (.ifCond .eq 20, 3) := by decide +kernel
theorem dX2_spread_21 : decode cX2_spread 21 = .ok (.aload_n 0, 1) := by decide +kernel
theorem dX2_spread_22 : decode cX2_spread 22 = .ok (.getfield 25, 3) := by decide +kernel
theorem dX2_spread_25 : decode cX2_spread 25 = .ok (.iload_n 3, 1) := by decide +kernel
theorem dX2_spread_26 : decode cX2_spread 26 = .ok (.dup2, 1) := by decide +kernel
theorem dX2_spread_27 : decode cX2_spread 27 = .ok (.iaload, 1) := by decide +kernel
theorem dX2_spread_28 : decode cX2_spread 28 = .ok (.aload_n 0, 1) := by decide +kernel
theorem dX2_spread_29 : decode cX2_spread 29 = .ok (.getfield 22, 3) := by decide +kernel
theorem dX2_spread_32 : decode cX2_spread 32 = .ok (.iload_n 1, 1) := by decide +kernel
theorem dX2_spread_33 : decode cX2_spread 33 = .ok (.invokestatic 63, 3) := by decide +kernel
theorem dX2_spread_36 : decode cX2_spread 36 = .ok (.iadd, 1) := by decide +kernel
theorem dX2_spread_37 : decode cX2_spread 37 = .ok (.iastore, 1) := by decide +kernel
theorem dX2_spread_38 : decode cX2_spread 38 = .ok (.iinc 2 1, 3) := by decide +kernel
theorem dX2_spread_41 : decode cX2_spread 41 = .ok (.goto (-39), 3) := by decide +kernel
theorem dX2_spread_44 : decode cX2_spread 44 = .ok (.return_, 1) := by decide +kernel
theorem dX3_init_0 : decode cX3_init 0 = .ok (.aload_n 0, 1) := by decide +kernel
theorem dX3_init_1 : decode cX3_init 1 = .ok (.invokespecial 3, 3) := by decide +kernel
theorem dX3_init_4 : decode cX3_init 4 = .ok (.aload_n 0, 1) := by decide +kernel
theorem dX3_init_5 : decode cX3_init 5 = .ok (.bipush 36, 2) := by decide +kernel
theorem dX3_init_7 : decode cX3_init 7 = .ok (.newarray .int, 2) := by decide +kernel
theorem dX3_init_9 : decode cX3_init 9 = .ok (.putfield 9, 3) := by decide +kernel
theorem dX3_init_12 : decode cX3_init 12 = .ok (.aload_n 0, 1) := by decide +kernel
theorem dX3_init_13 : decode cX3_init 13 = .ok (.bipush 36, 2) := by decide +kernel
theorem dX3_init_15 : decode cX3_init 15 = .ok (.newarray .int, 2) := by decide +kernel
theorem dX3_init_17 : decode cX3_init 17 = .ok (.putfield 15, 3) := by decide +kernel
theorem dX3_init_20 : decode cX3_init 20 = .ok (.return_, 1) := by decide +kernel
theorem dX3_run_0 : decode cX3_run 0 = .ok (.aload_n 1, 1) := by decide +kernel
theorem dX3_run_1 : decode cX3_run 1 = .ok (.getfield 18, 3) := by decide +kernel
theorem dX3_run_4 : decode cX3_run 4 = .ok (.iconst 0, 1) := by decide +kernel
theorem dX3_run_5 : decode cX3_run 5 = .ok (.aload_n 0, 1) := by decide +kernel
theorem dX3_run_6 : decode cX3_run 6 = .ok (.getfield 9, 3) := by decide +kernel
theorem dX3_run_9 : decode cX3_run 9 = .ok (.iconst 0, 1) := by decide +kernel
theorem dX3_run_10 : decode cX3_run 10 = .ok (.bipush 36, 2) := by decide +kernel
theorem dX3_run_12 : decode cX3_run 12 = .ok (.invokestatic 23, 3) := by decide +kernel
theorem dX3_run_15 : decode cX3_run 15 = .ok (.iconst 0, 1) := by decide +kernel
theorem dX3_run_16 : decode cX3_run 16 = .ok (.istore_n 3, 1) := by decide +kernel
theorem dX3_run_17 : decode cX3_run 17 = .ok (.iload_n 3, 1) := by decide +kernel
theorem dX3_run_18 : decode cX3_run 18 = .ok (.iload_n 2, 1) := by decide +kernel
theorem dX3_run_19 : decode cX3_run 19 = .ok (.if_icmp .ge 21, 3) := by decide +kernel
theorem dX3_run_22 : decode cX3_run 22 = .ok (.aload_n 0, 1) := by decide +kernel
theorem dX3_run_23 : decode cX3_run 23 = .ok (.aload_n 1, 1) := by decide +kernel
theorem dX3_run_24 : decode cX3_run 24 = .ok (.getfield 29, 3) := by decide +kernel
theorem dX3_run_27 : decode cX3_run 27 = .ok (.aload_n 1, 1) := by decide +kernel
theorem dX3_run_28 : decode cX3_run 28 = .ok (.getfield 33, 3) := by decide +kernel
theorem dX3_run_31 : decode cX3_run 31 = .ok (.invokevirtual 36, 3) := by decide +kernel
theorem dX3_run_34 : decode cX3_run 34 = .ok (.iinc 3 1, 3) := by decide +kernel
theorem dX3_run_37 : decode cX3_run 37 = .ok (.goto (-20), 3) := by decide +kernel
theorem dX3_run_40 : decode cX3_run 40 = .ok (.return_, 1) := by decide +kernel
theorem dX3_runYear_0 : decode cX3_runYear 0 = .ok (.aload_n 0, 1) := by decide +kernel
theorem dX3_runYear_1 : decode cX3_runYear 1 = .ok (.getfield 15, 3) := by decide +kernel
theorem dX3_runYear_4 : decode cX3_runYear 4 = .ok (.invokestatic 40, 3) := by decide +kernel
theorem dX3_runYear_7 : decode cX3_runYear 7 = .ok (.iconst 0, 1) := by decide +kernel
theorem dX3_runYear_8 : decode cX3_runYear 8 = .ok (.istore_n 3, 1) := by decide +kernel
theorem dX3_runYear_9 : decode cX3_runYear 9 = .ok (.iload_n 3, 1) := by decide +kernel
theorem dX3_runYear_10 : decode cX3_runYear 10 = .ok (.bipush 36, 2) := by decide +kernel
theorem dX3_runYear_12 : decode cX3_runYear 12 = .ok (.if_icmp .ge 64, 3) := by decide +kernel
theorem dX3_runYear_15 : decode cX3_runYear 15 = .ok (.sipush 999, 3) := by decide +kernel
theorem dX3_runYear_18 : decode cX3_runYear 18 = .ok (.iconst 2, 1) := by decide +kernel
theorem dX3_runYear_19 : decode cX3_runYear 19 = .ok (.aload_n 0, 1) := by decide +kernel
theorem dX3_runYear_20 : decode cX3_runYear 20 = .ok (.getfield 9, 3) := by decide +kernel
theorem dX3_runYear_23 : decode cX3_runYear 23 = .ok (.iload_n 3, 1) := by decide +kernel
theorem dX3_runYear_24 : decode cX3_runYear 24 = .ok (.iaload, 1) := by decide +kernel
theorem dX3_runYear_25 : decode cX3_runYear 25 = .ok (.imul, 1) := by decide +kernel
theorem dX3_runYear_26 : decode cX3_runYear 26 = .ok (.invokestatic 44, 3) := by decide +kernel
theorem dX3_runYear_29 : decode cX3_runYear 29 = .ok (.istore 4, 2) := by decide +kernel
theorem dX3_runYear_31 : decode cX3_runYear 31 = .ok (.iload_n 3, 1) := by decide +kernel
theorem dX3_runYear_32 : decode cX3_runYear 32 = .ok (.iload_n 1, 1) := by decide +kernel
theorem dX3_runYear_33 : decode cX3_runYear 33 = .ok (.iload_n 2, 1) := by decide +kernel
theorem dX3_runYear_34 : decode cX3_runYear 34 = .ok (.invokestatic 50, 3) := by decide +kernel
theorem dX3_runYear_37 : decode cX3_runYear 37 = .ok (.istore 5, 2) := by decide +kernel
theorem dX3_runYear_39 : decode cX3_runYear 39 = .ok (.iload 5, 2) := by decide +kernel
theorem dX3_runYear_41 : decode cX3_runYear 41 = .ok (.invokestatic 54, 3) := by decide +kernel
theorem dX3_runYear_44 : decode cX3_runYear 44 = .ok (.ifCond .eq 26, 3) := by decide +kernel
theorem dX3_runYear_47 : decode cX3_runYear 47 = .ok (.aload_n 0, 1) := by decide +kernel
theorem dX3_runYear_48 : decode cX3_runYear 48 = .ok (.getfield 15, 3) := by decide +kernel
theorem dX3_runYear_51 : decode cX3_runYear 51 = .ok (.iload 5, 2) := by decide +kernel
theorem dX3_runYear_53 : decode cX3_runYear 53 = .ok (.sipush 999, 3) := by decide +kernel
theorem dX3_runYear_56 : decode cX3_runYear 56 = .ok (.aload_n 0, 1) := by decide +kernel
theorem dX3_runYear_57 : decode cX3_runYear 57 = .ok (.getfield 15, 3) := by decide +kernel
theorem dX3_runYear_60 : decode cX3_runYear 60 = .ok (.iload 5, 2) := by decide +kernel
theorem dX3_runYear_62 : decode cX3_runYear 62 = .ok (.iaload, 1) := by decide +kernel
theorem dX3_runYear_63 : decode cX3_runYear 63 = .ok (.iload 4, 2) := by decide +kernel
theorem dX3_runYear_65 : decode cX3_runYear 65 = .ok (.iadd, 1) := by decide +kernel
theorem dX3_runYear_66 : decode cX3_runYear 66 = .ok (.invokestatic 44, 3) := by decide +kernel
theorem dX3_runYear_69 : decode cX3_runYear 69 = .ok (.iastore, 1) := by decide +kernel
theorem dX3_runYear_70 : decode cX3_runYear 70 = .ok (.iinc 3 1, 3) := by decide +kernel
theorem dX3_runYear_73 : decode cX3_runYear 73 = .ok (.goto (-64), 3) := by decide +kernel
theorem dX3_runYear_76 : decode cX3_runYear 76 = .ok (.aload_n 0, 1) := by decide +kernel
theorem dX3_runYear_77 : decode cX3_runYear 77 = .ok (.getfield 15, 3) := by decide +kernel
theorem dX3_runYear_80 : decode cX3_runYear 80 = .ok (.iconst 0, 1) := by decide +kernel
theorem dX3_runYear_81 : decode cX3_runYear 81 = .ok (.aload_n 0, 1) := by decide +kernel
theorem dX3_runYear_82 : decode cX3_runYear 82 = .ok (.getfield 9, 3) := by decide +kernel
theorem dX3_runYear_85 : decode cX3_runYear 85 = .ok (.iconst 0, 1) := by decide +kernel
theorem dX3_runYear_86 : decode cX3_runYear 86 = .ok (.bipush 36, 2) := by decide +kernel
theorem dX3_runYear_88 : decode cX3_runYear 88 = .ok (.invokestatic 23, 3) := by decide +kernel
theorem dX3_runYear_91 : decode cX3_runYear 91 = .ok (.return_, 1) := by decide +kernel
theorem dX3_sum_0 : decode cX3_sum 0 = .ok (.aload_n 0, 1) := by decide +kernel
theorem dX3_sum_1 : decode cX3_sum 1 = .ok (.getfield 9, 3) := by decide +kernel
theorem dX3_sum_4 : decode cX3_sum 4 = .ok (.invokestatic 58, 3) := by decide +kernel
theorem dX3_sum_7 : decode cX3_sum 7 = .ok (.ireturn, 1) := by decide +kernel
theorem dX3_fullestField_0 : decode cX3_fullestField 0 = .ok (.iconst 0, 1) := by decide +kernel
theorem dX3_fullestField_1 : decode cX3_fullestField 1 = .ok (.istore_n 1, 1) := by decide +kernel
theorem dX3_fullestField_2 : decode cX3_fullestField 2 = .ok (.iconst 1, 1) := by decide +kernel
theorem dX3_fullestField_3 : decode cX3_fullestField 3 = .ok (.istore_n 2, 1) := by decide +kernel
theorem dX3_fullestField_4 : decode cX3_fullestField 4 = .ok (.iload_n 2, 1) := by decide +kernel
theorem dX3_fullestField_5 : decode cX3_fullestField 5 = .ok (.bipush 36, 2) := by decide +kernel
theorem dX3_fullestField_7 : decode cX3_fullestField 7 = .ok (.if_icmp .ge 26, 3) := by decide +kernel
theorem dX3_fullestField_10 : decode cX3_fullestField 10 = .ok (.aload_n 0, 1) := by decide +kernel
theorem dX3_fullestField_11 : decode cX3_fullestField 11 = .ok (.getfield 9, 3) := by decide +kernel
theorem dX3_fullestField_14 : decode cX3_fullestField 14 = .ok (.iload_n 2, 1) := by decide +kernel
theorem dX3_fullestField_15 : decode cX3_fullestField 15 = .ok (.iaload, 1) := by decide +kernel
theorem dX3_fullestField_16 : decode cX3_fullestField 16 = .ok (.aload_n 0, 1) := by decide +kernel
theorem dX3_fullestField_17 : decode cX3_fullestField 17 = .ok (.getfield 9, 3) := by decide +kernel
theorem dX3_fullestField_20 : decode cX3_fullestField 20 = .ok (.iload_n 1, 1) := by decide +kernel
theorem dX3_fullestField_21 : decode cX3_fullestField 21 = .ok (.iaload, 1) := by decide +kernel
theorem dX3_fullestField_22 : decode cX3_fullestField 22 = .ok (.if_icmp .le 5, 3) := by decide +kernel
theorem dX3_fullestField_25 : decode cX3_fullestField 25 = .ok (.iload_n 2, 1) := by decide +kernel
theorem dX3_fullestField_26 : decode cX3_fullestField 26 = .ok (.istore_n 1, 1) := by decide +kernel
theorem dX3_fullestField_27 : decode cX3_fullestField 27 = .ok (.iinc 2 1, 3) := by decide +kernel
theorem dX3_fullestField_30 : decode cX3_fullestField 30 = .ok (.goto (-26), 3) := by decide +kernel
theorem dX3_fullestField_33 : decode cX3_fullestField 33 = .ok (.iload_n 1, 1) := by decide +kernel
theorem dX3_fullestField_34 : decode cX3_fullestField 34 = .ok (.ireturn, 1) := by decide +kernel
theorem dX4_init_0 : decode cX4_init 0 = .ok (.aload_n 0, 1) := by decide +kernel
theorem dX4_init_1 : decode cX4_init 1 = .ok (.invokespecial 1, 3) := by decide +kernel
theorem dX4_init_4 : decode cX4_init 4 = .ok (.aload_n 0, 1) := by decide +kernel
theorem dX4_init_5 : decode cX4_init 5 = .ok (.new 7, 3) := by decide +kernel
theorem dX4_init_8 : decode cX4_init 8 = .ok (.dup, 1) := by decide +kernel
theorem dX4_init_9 : decode cX4_init 9 = .ok (.invokespecial 9, 3) := by decide +kernel
theorem dX4_init_12 : decode cX4_init 12 = .ok (.putfield 10, 3) := by decide +kernel
theorem dX4_init_15 : decode cX4_init 15 = .ok (.aload_n 0, 1) := by decide +kernel
theorem dX4_init_16 : decode cX4_init 16 = .ok (.new 16, 3) := by decide +kernel
theorem dX4_init_19 : decode cX4_init 19 = .ok (.dup, 1) := by decide +kernel
theorem dX4_init_20 : decode cX4_init 20 = .ok (.invokespecial 18, 3) := by decide +kernel
theorem dX4_init_23 : decode cX4_init 23 = .ok (.putfield 19, 3) := by decide +kernel
theorem dX4_init_26 : decode cX4_init 26 = .ok (.return_, 1) := by decide +kernel
theorem dX4_copyFrom_0 : decode cX4_copyFrom 0 = .ok (.aload_n 0, 1) := by decide +kernel
theorem dX4_copyFrom_1 : decode cX4_copyFrom 1 = .ok (.getfield 10, 3) := by decide +kernel
theorem dX4_copyFrom_4 : decode cX4_copyFrom 4 = .ok (.aload_n 1, 1) := by decide +kernel
theorem dX4_copyFrom_5 : decode cX4_copyFrom 5 = .ok (.getfield 10, 3) := by decide +kernel
theorem dX4_copyFrom_8 : decode cX4_copyFrom 8 = .ok (.invokevirtual 23, 3) := by decide +kernel
theorem dX4_copyFrom_11 : decode cX4_copyFrom 11 = .ok (.aload_n 0, 1) := by decide +kernel
theorem dX4_copyFrom_12 : decode cX4_copyFrom 12 = .ok (.getfield 19, 3) := by decide +kernel
theorem dX4_copyFrom_15 : decode cX4_copyFrom 15 = .ok (.aload_n 1, 1) := by decide +kernel
theorem dX4_copyFrom_16 : decode cX4_copyFrom 16 = .ok (.getfield 19, 3) := by decide +kernel
theorem dX4_copyFrom_19 : decode cX4_copyFrom 19 = .ok (.invokevirtual 27, 3) := by decide +kernel
theorem dX4_copyFrom_22 : decode cX4_copyFrom 22 = .ok (.return_, 1) := by decide +kernel
theorem dX5_init_0 : decode cX5_init 0 = .ok (.aload_n 0, 1) := by decide +kernel
theorem dX5_init_1 : decode cX5_init 1 = .ok (.invokespecial 3, 3) := by decide +kernel
theorem dX5_init_4 : decode cX5_init 4 = .ok (.aload_n 0, 1) := by decide +kernel
theorem dX5_init_5 : decode cX5_init 5 = .ok (.new 9, 3) := by decide +kernel
theorem dX5_init_8 : decode cX5_init 8 = .ok (.dup, 1) := by decide +kernel
theorem dX5_init_9 : decode cX5_init 9 = .ok (.invokespecial 11, 3) := by decide +kernel
theorem dX5_init_12 : decode cX5_init 12 = .ok (.putfield 12, 3) := by decide +kernel
theorem dX5_init_15 : decode cX5_init 15 = .ok (.aload_n 0, 1) := by decide +kernel
theorem dX5_init_16 : decode cX5_init 16 = .ok (.bipush (-6), 2) := by decide +kernel
theorem dX5_init_18 : decode cX5_init 18 = .ok (.putfield 18, 3) := by decide +kernel
theorem dX5_init_21 : decode cX5_init 21 = .ok (.aload_n 0, 1) := by decide +kernel
theorem dX5_init_22 : decode cX5_init 22 = .ok (.bipush (-6), 2) := by decide +kernel
theorem dX5_init_24 : decode cX5_init 24 = .ok (.putfield 22, 3) := by decide +kernel
theorem dX5_init_27 : decode cX5_init 27 = .ok (.aload_n 0, 1) := by decide +kernel
theorem dX5_init_28 : decode cX5_init 28 = .ok (.iconst 0, 1) := by decide +kernel
theorem dX5_init_29 : decode cX5_init 29 = .ok (.putfield 25, 3) := by decide +kernel
theorem dX5_init_32 : decode cX5_init 32 = .ok (.aload_n 0, 1) := by decide +kernel
theorem dX5_init_33 : decode cX5_init 33 = .ok (.bipush (-6), 2) := by decide +kernel
theorem dX5_init_35 : decode cX5_init 35 = .ok (.putfield 28, 3) := by decide +kernel
theorem dX5_init_38 : decode cX5_init 38 = .ok (.aload_n 0, 1) := by decide +kernel
theorem dX5_init_39 : decode cX5_init 39 = .ok (.bipush (-6), 2) := by decide +kernel
theorem dX5_init_41 : decode cX5_init 41 = .ok (.putfield 31, 3) := by decide +kernel
theorem dX5_init_44 : decode cX5_init 44 = .ok (.return_, 1) := by decide +kernel
theorem dX5_run_0 : decode cX5_run 0 = .ok (.aload_n 2, 1) := by decide +kernel
theorem dX5_run_1 : decode cX5_run 1 = .ok (.invokevirtual 34, 3) := by decide +kernel
theorem dX5_run_4 : decode cX5_run 4 = .ok (.bipush (-6), 2) := by decide +kernel
theorem dX5_run_6 : decode cX5_run 6 = .ok (.if_icmp .eq 6, 3) := by decide +kernel
theorem dX5_run_9 : decode cX5_run 9 = .ok (.bipush (-5), 2) := by decide +kernel
theorem dX5_run_11 : decode cX5_run 11 = .ok (.ireturn, 1) := by decide +kernel
theorem dX5_run_12 : decode cX5_run 12 = .ok (.aload_n 0, 1) := by decide +kernel
theorem dX5_run_13 : decode cX5_run 13 = .ok (.getfield 12, 3) := by decide +kernel
theorem dX5_run_16 : decode cX5_run 16 = .ok (.aload_n 1, 1) := by decide +kernel
theorem dX5_run_17 : decode cX5_run 17 = .ok (.invokevirtual 40, 3) := by decide +kernel
theorem dX5_run_20 : decode cX5_run 20 = .ok (.aload_n 0, 1) := by decide +kernel
theorem dX5_run_21 : decode cX5_run 21 = .ok (.bipush (-6), 2) := by decide +kernel
theorem dX5_run_23 : decode cX5_run 23 = .ok (.putfield 18, 3) := by decide +kernel
theorem dX5_run_26 : decode cX5_run 26 = .ok (.aload_n 0, 1) := by decide +kernel
theorem dX5_run_27 : decode cX5_run 27 = .ok (.bipush (-6), 2) := by decide +kernel
theorem dX5_run_29 : decode cX5_run 29 = .ok (.putfield 22, 3) := by decide +kernel
theorem dX5_run_32 : decode cX5_run 32 = .ok (.aload_n 0, 1) := by decide +kernel
theorem dX5_run_33 : decode cX5_run 33 = .ok (.iconst 0, 1) := by decide +kernel
theorem dX5_run_34 : decode cX5_run 34 = .ok (.putfield 25, 3) := by decide +kernel
theorem dX5_run_37 : decode cX5_run 37 = .ok (.aload_n 0, 1) := by decide +kernel
theorem dX5_run_38 : decode cX5_run 38 = .ok (.bipush (-6), 2) := by decide +kernel
theorem dX5_run_40 : decode cX5_run 40 = .ok (.putfield 28, 3) := by decide +kernel
theorem dX5_run_43 : decode cX5_run 43 = .ok (.aload_n 0, 1) := by decide +kernel
theorem dX5_run_44 : decode cX5_run 44 = .ok (.bipush (-6), 2) := by decide +kernel
theorem dX5_run_46 : decode cX5_run 46 = .ok (.putfield 31, 3) := by decide +kernel
theorem dX5_run_49 : decode cX5_run 49 = .ok (.iconst 0, 1) := by decide +kernel
theorem dX5_run_50 : decode cX5_run 50 = .ok (.istore_n 3, 1) := by decide +kernel
theorem dX5_run_51 : decode cX5_run 51 = .ok (.iload_n 3, 1) := by decide +kernel
theorem dX5_run_52 : decode cX5_run 52 = .ok (.aload_n 2, 1) := by decide +kernel
theorem dX5_run_53 : decode cX5_run 53 = .ok (.getfield 44, 3) := by decide +kernel
theorem dX5_run_56 : decode cX5_run 56 = .ok (.if_icmp .ge 47, 3) := by decide +kernel
theorem dX5_run_59 : decode cX5_run 59 = .ok (.aload_n 0, 1) := by decide +kernel
theorem dX5_run_60 : decode cX5_run 60 = .ok (.getfield 18, 3) := by decide +kernel
theorem dX5_run_63 : decode cX5_run 63 = .ok (.bipush (-6), 2) := by decide +kernel
theorem dX5_run_65 : decode cX5_run 65 = .ok (.if_icmp .ne 38, 3) := by decide +kernel
theorem dX5_run_68 : decode cX5_run 68 = .ok (.aload_n 0, 1) := by decide +kernel
theorem dX5_run_69 : decode cX5_run 69 = .ok (.iload_n 3, 1) := by decide +kernel
theorem dX5_run_70 : decode cX5_run 70 = .ok (.aload_n 2, 1) := by decide +kernel
theorem dX5_run_71 : decode cX5_run 71 = .ok (.getfield 47, 3) := by decide +kernel
theorem dX5_run_74 : decode cX5_run 74 = .ok (.iload_n 3, 1) := by decide +kernel
theorem dX5_run_75 : decode cX5_run 75 = .ok (.invokestatic 51, 3) := by decide +kernel
theorem dX5_run_78 : decode cX5_run 78 = .ok (.aload_n 2, 1) := by decide +kernel
theorem dX5_run_79 : decode cX5_run 79 = .ok (.getfield 55, 3) := by decide +kernel
theorem dX5_run_82 : decode cX5_run 82 = .ok (.iload_n 3, 1) := by decide +kernel
theorem dX5_run_83 : decode cX5_run 83 = .ok (.invokestatic 51, 3) := by decide +kernel
theorem dX5_run_86 : decode cX5_run 86 = .ok (.aload_n 2, 1) := by decide +kernel
theorem dX5_run_87 : decode cX5_run 87 = .ok (.getfield 58, 3) := by decide +kernel
theorem dX5_run_90 : decode cX5_run 90 = .ok (.iload_n 3, 1) := by decide +kernel
theorem dX5_run_91 : decode cX5_run 91 = .ok (.invokestatic 51, 3) := by decide +kernel
theorem dX5_run_94 : decode cX5_run 94 = .ok (.invokevirtual 61, 3) := by decide +kernel
theorem dX5_run_97 : decode cX5_run 97 = .ok (.iinc 3 1, 3) := by decide +kernel
theorem dX5_run_100 : decode cX5_run 100 = .ok (.goto (-49), 3) := by decide +kernel
theorem dX5_run_103 : decode cX5_run 103 = .ok (.aload_n 0, 1) := by decide +kernel
theorem dX5_run_104 : decode cX5_run 104 = .ok (.getfield 18, 3) := by decide +kernel
theorem dX5_run_107 : decode cX5_run 107 = .ok (.bipush (-6), 2) := by decide +kernel
theorem dX5_run_109 : decode cX5_run 109 = .ok (.if_icmp .ne 7, 3) := by decide +kernel
theorem dX5_run_112 : decode cX5_run 112 = .ok (.iconst 0, 1) := by decide +kernel
theorem dX5_run_113 : decode cX5_run 113 = .ok (.goto 5, 3) := by decide +kernel
theorem dX5_run_116 : decode cX5_run 116 = .ok (.bipush (-3), 2) := by decide +kernel
theorem dX5_run_118 : decode cX5_run 118 = .ok (.ireturn, 1) := by decide +kernel
theorem dX5_runAct_0 : decode cX5_runAct 0 = .ok (.aload_n 0, 1) := by decide +kernel
theorem dX5_runAct_1 : decode cX5_runAct 1 = .ok (.getfield 12, 3) := by decide +kernel
theorem dX5_runAct_4 : decode cX5_runAct 4 = .ok (.iload_n 2, 1) := by decide +kernel
theorem dX5_runAct_5 : decode cX5_runAct 5 = .ok (.iload_n 3, 1) := by decide +kernel
theorem dX5_runAct_6 : decode cX5_runAct 6 = .ok (.iload 4, 2) := by decide +kernel
theorem dX5_runAct_8 : decode cX5_runAct 8 = .ok (.invokestatic 65, 3) := by decide +kernel
theorem dX5_runAct_11 : decode cX5_runAct 11 = .ok (.istore 5, 2) := by decide +kernel
theorem dX5_runAct_13 : decode cX5_runAct 13 = .ok (.iload 5, 2) := by decide +kernel
theorem dX5_runAct_15 : decode cX5_runAct 15 = .ok (.ifCond .eq 15, 3) := by decide +kernel
theorem dX5_runAct_18 : decode cX5_runAct 18 = .ok (.aload_n 0, 1) := by decide +kernel
theorem dX5_runAct_19 : decode cX5_runAct 19 = .ok (.iload_n 1, 1) := by decide +kernel
theorem dX5_runAct_20 : decode cX5_runAct 20 = .ok (.putfield 18, 3) := by decide +kernel
theorem dX5_runAct_23 : decode cX5_runAct 23 = .ok (.aload_n 0, 1) := by decide +kernel
theorem dX5_runAct_24 : decode cX5_runAct 24 = .ok (.iload 5, 2) := by decide +kernel
theorem dX5_runAct_26 : decode cX5_runAct 26 = .ok (.putfield 22, 3) := by decide +kernel
theorem dX5_runAct_29 : decode cX5_runAct 29 = .ok (.return_, 1) := by decide +kernel
theorem dX5_runAct_30 : decode cX5_runAct 30 = .ok (.aload_n 0, 1) := by decide +kernel
theorem dX5_runAct_31 : decode cX5_runAct 31 = .ok (.getfield 12, 3) := by decide +kernel
theorem dX5_runAct_34 : decode cX5_runAct 34 = .ok (.invokevirtual 71, 3) := by decide +kernel
theorem dX5_runAct_37 : decode cX5_runAct 37 = .ok (.istore 6, 2) := by decide +kernel
theorem dX5_runAct_39 : decode cX5_runAct 39 = .ok (.aload_n 0, 1) := by decide +kernel
theorem dX5_runAct_40 : decode cX5_runAct 40 = .ok (.dup, 1) := by decide +kernel
theorem dX5_runAct_41 : decode cX5_runAct 41 = .ok (.getfield 25, 3) := by decide +kernel
theorem dX5_runAct_44 : decode cX5_runAct 44 = .ok (.aload_n 0, 1) := by decide +kernel
theorem dX5_runAct_45 : decode cX5_runAct 45 = .ok (.getfield 12, 3) := by decide +kernel
theorem dX5_runAct_48 : decode cX5_runAct 48 = .ok (.iload_n 2, 1) := by decide +kernel
theorem dX5_runAct_49 : decode cX5_runAct 49 = .ok (.iload_n 3, 1) := by decide +kernel
theorem dX5_runAct_50 : decode cX5_runAct 50 = .ok (.iload 4, 2) := by decide +kernel
theorem dX5_runAct_52 : decode cX5_runAct 52 = .ok (.invokestatic 74, 3) := by decide +kernel
theorem dX5_runAct_55 : decode cX5_runAct 55 = .ok (.iadd, 1) := by decide +kernel
theorem dX5_runAct_56 : decode cX5_runAct 56 = .ok (.putfield 25, 3) := by decide +kernel
theorem dX5_runAct_59 : decode cX5_runAct 59 = .ok (.aload_n 0, 1) := by decide +kernel
theorem dX5_runAct_60 : decode cX5_runAct 60 = .ok (.getfield 12, 3) := by decide +kernel
theorem dX5_runAct_63 : decode cX5_runAct 63 = .ok (.iload_n 2, 1) := by decide +kernel
theorem dX5_runAct_64 : decode cX5_runAct 64 = .ok (.iload_n 3, 1) := by decide +kernel
theorem dX5_runAct_65 : decode cX5_runAct 65 = .ok (.iload 4, 2) := by decide +kernel
theorem dX5_runAct_67 : decode cX5_runAct 67 = .ok (.invokestatic 77, 3) := by decide +kernel
theorem dX5_runAct_70 : decode cX5_runAct 70 = .ok (.aload_n 0, 1) := by decide +kernel
theorem dX5_runAct_71 : decode cX5_runAct 71 = .ok (.iload_n 1, 1) := by decide +kernel
theorem dX5_runAct_72 : decode cX5_runAct 72 = .ok (.iload 6, 2) := by decide +kernel
theorem dX5_runAct_74 : decode cX5_runAct 74 = .ok (.aload_n 0, 1) := by decide +kernel
theorem dX5_runAct_75 : decode cX5_runAct 75 = .ok (.getfield 12, 3) := by decide +kernel
theorem dX5_runAct_78 : decode cX5_runAct 78 = .ok (.invokevirtual 71, 3) := by decide +kernel
theorem dX5_runAct_81 : decode cX5_runAct 81 = .ok (.iconst (-1), 1) := by decide +kernel
theorem dX5_runAct_82 : decode cX5_runAct 82 = .ok (.ixor, 1) := by decide +kernel
theorem dX5_runAct_83 : decode cX5_runAct 83 = .ok (.iand, 1) := by decide +kernel
theorem dX5_runAct_84 : decode cX5_runAct 84 = .ok (.invokevirtual 81, 3) := by decide +kernel
theorem dX5_runAct_87 : decode cX5_runAct 87 = .ok (.return_, 1) := by decide +kernel
theorem dX5_noteRuin_0 : decode cX5_noteRuin 0 = .ok (.iconst 0, 1) := by decide +kernel
theorem dX5_noteRuin_1 : decode cX5_noteRuin 1 = .ok (.istore_n 3, 1) := by decide +kernel
theorem dX5_noteRuin_2 : decode cX5_noteRuin 2 = .ok (.iload_n 3, 1) := by decide +kernel
theorem dX5_noteRuin_3 : decode cX5_noteRuin 3 = .ok (.bipush 6, 2) := by decide +kernel
theorem dX5_noteRuin_5 : decode cX5_noteRuin 5 = .ok (.if_icmp .ge 36, 3) := by decide +kernel
theorem dX5_noteRuin_8 : decode cX5_noteRuin 8 = .ok (.aload_n 0, 1) := by decide +kernel
theorem dX5_noteRuin_9 : decode cX5_noteRuin 9 = .ok (.getfield 28, 3) := by decide +kernel
theorem dX5_noteRuin_12 : decode cX5_noteRuin 12 = .ok (.bipush (-6), 2) := by decide +kernel
theorem dX5_noteRuin_14 : decode cX5_noteRuin 14 = .ok (.if_icmp .ne 27, 3) := by decide +kernel
theorem dX5_noteRuin_17 : decode cX5_noteRuin 17 = .ok (.iload_n 2, 1) := by decide +kernel
theorem dX5_noteRuin_18 : decode cX5_noteRuin 18 = .ok (.iconst 1, 1) := by decide +kernel
theorem dX5_noteRuin_19 : decode cX5_noteRuin 19 = .ok (.iload_n 3, 1) := by decide +kernel
theorem dX5_noteRuin_20 : decode cX5_noteRuin 20 = .ok (.ishl, 1) := by decide +kernel
theorem dX5_noteRuin_21 : decode cX5_noteRuin 21 = .ok (.iand, 1) := by decide +kernel
theorem dX5_noteRuin_22 : decode cX5_noteRuin 22 = .ok (.ifCond .eq 13, 3) := by decide +kernel
theorem dX5_noteRuin_25 : decode cX5_noteRuin 25 = .ok (.aload_n 0, 1) := by decide +kernel
theorem dX5_noteRuin_26 : decode cX5_noteRuin 26 = .ok (.iload_n 1, 1) := by decide +kernel
theorem dX5_noteRuin_27 : decode cX5_noteRuin 27 = .ok (.putfield 28, 3) := by decide +kernel
theorem dX5_noteRuin_30 : decode cX5_noteRuin 30 = .ok (.aload_n 0, 1) := by decide +kernel
theorem dX5_noteRuin_31 : decode cX5_noteRuin 31 = .ok (.iload_n 3, 1) := by decide +kernel
theorem dX5_noteRuin_32 : decode cX5_noteRuin 32 = .ok (.putfield 31, 3) := by decide +kernel
theorem dX5_noteRuin_35 : decode cX5_noteRuin 35 = .ok (.iinc 3 1, 3) := by decide +kernel
theorem dX5_noteRuin_38 : decode cX5_noteRuin 38 = .ok (.goto (-36), 3) := by decide +kernel
theorem dX5_noteRuin_41 : decode cX5_noteRuin 41 = .ok (.return_, 1) := by decide +kernel
theorem dX6_init_0 : decode cX6_init 0 = .ok (.aload_n 0, 1) := by decide +kernel
theorem dX6_init_1 : decode cX6_init 1 = .ok (.invokespecial 3, 3) := by decide +kernel
theorem dX6_init_4 : decode cX6_init 4 = .ok (.aload_n 0, 1) := by decide +kernel
theorem dX6_init_5 : decode cX6_init 5 = .ok (.bipush 6, 2) := by decide +kernel
theorem dX6_init_7 : decode cX6_init 7 = .ok (.newarray .int, 2) := by decide +kernel
theorem dX6_init_9 : decode cX6_init 9 = .ok (.putfield 9, 3) := by decide +kernel
theorem dX6_init_12 : decode cX6_init 12 = .ok (.aload_n 0, 1) := by decide +kernel
theorem dX6_init_13 : decode cX6_init 13 = .ok (.bipush 6, 2) := by decide +kernel
theorem dX6_init_15 : decode cX6_init 15 = .ok (.newarray .int, 2) := by decide +kernel
theorem dX6_init_17 : decode cX6_init 17 = .ok (.putfield 15, 3) := by decide +kernel
theorem dX6_init_20 : decode cX6_init 20 = .ok (.aload_n 0, 1) := by decide +kernel
theorem dX6_init_21 : decode cX6_init 21 = .ok (.bipush 6, 2) := by decide +kernel
theorem dX6_init_23 : decode cX6_init 23 = .ok (.newarray .int, 2) := by decide +kernel
theorem dX6_init_25 : decode cX6_init 25 = .ok (.putfield 18, 3) := by decide +kernel
theorem dX6_init_28 : decode cX6_init 28 = .ok (.aload_n 0, 1) := by decide +kernel
theorem dX6_init_29 : decode cX6_init 29 = .ok (.bipush 6, 2) := by decide +kernel
theorem dX6_init_31 : decode cX6_init 31 = .ok (.newarray .int, 2) := by decide +kernel
theorem dX6_init_33 : decode cX6_init 33 = .ok (.putfield 21, 3) := by decide +kernel
theorem dX6_init_36 : decode cX6_init 36 = .ok (.aload_n 0, 1) := by decide +kernel
theorem dX6_init_37 : decode cX6_init 37 = .ok (.bipush 36, 2) := by decide +kernel
theorem dX6_init_39 : decode cX6_init 39 = .ok (.newarray .int, 2) := by decide +kernel
theorem dX6_init_41 : decode cX6_init 41 = .ok (.putfield 24, 3) := by decide +kernel
theorem dX6_init_44 : decode cX6_init 44 = .ok (.aload_n 0, 1) := by decide +kernel
theorem dX6_init_45 : decode cX6_init 45 = .ok (.iconst 0, 1) := by decide +kernel
theorem dX6_init_46 : decode cX6_init 46 = .ok (.putfield 27, 3) := by decide +kernel
theorem dX6_init_49 : decode cX6_init 49 = .ok (.aload_n 0, 1) := by decide +kernel
theorem dX6_init_50 : decode cX6_init 50 = .ok (.iconst 0, 1) := by decide +kernel
theorem dX6_init_51 : decode cX6_init 51 = .ok (.putfield 31, 3) := by decide +kernel
theorem dX6_init_54 : decode cX6_init 54 = .ok (.aload_n 0, 1) := by decide +kernel
theorem dX6_init_55 : decode cX6_init 55 = .ok (.iconst 1, 1) := by decide +kernel
theorem dX6_init_56 : decode cX6_init 56 = .ok (.putfield 34, 3) := by decide +kernel
theorem dX6_init_59 : decode cX6_init 59 = .ok (.aload_n 0, 1) := by decide +kernel
theorem dX6_init_60 : decode cX6_init 60 = .ok (.iconst 0, 1) := by decide +kernel
theorem dX6_init_61 : decode cX6_init 61 = .ok (.putfield 37, 3) := by decide +kernel
theorem dX6_init_64 : decode cX6_init 64 = .ok (.aload_n 0, 1) := by decide +kernel
theorem dX6_init_65 : decode cX6_init 65 = .ok (.iconst 0, 1) := by decide +kernel
theorem dX6_init_66 : decode cX6_init 66 = .ok (.putfield 40, 3) := by decide +kernel
theorem dX6_init_69 : decode cX6_init 69 = .ok (.aload_n 0, 1) := by decide +kernel
theorem dX6_init_70 : decode cX6_init 70 = .ok (.iconst 0, 1) := by decide +kernel
theorem dX6_init_71 : decode cX6_init 71 = .ok (.putfield 43, 3) := by decide +kernel
theorem dX6_init_74 : decode cX6_init 74 = .ok (.return_, 1) := by decide +kernel
theorem dX6_copyFrom_0 : decode cX6_copyFrom 0 = .ok (.aload_n 1, 1) := by decide +kernel
theorem dX6_copyFrom_1 : decode cX6_copyFrom 1 = .ok (.getfield 9, 3) := by decide +kernel
theorem dX6_copyFrom_4 : decode cX6_copyFrom 4 = .ok (.iconst 0, 1) := by decide +kernel
theorem dX6_copyFrom_5 : decode cX6_copyFrom 5 = .ok (.aload_n 0, 1) := by decide +kernel
theorem dX6_copyFrom_6 : decode cX6_copyFrom 6 = .ok (.getfield 9, 3) := by decide +kernel
theorem dX6_copyFrom_9 : decode cX6_copyFrom 9 = .ok (.iconst 0, 1) := by decide +kernel
theorem dX6_copyFrom_10 : decode cX6_copyFrom 10 = .ok (.bipush 6, 2) := by decide +kernel
theorem dX6_copyFrom_12 : decode cX6_copyFrom 12 = .ok (.invokestatic 46, 3) := by decide +kernel
theorem dX6_copyFrom_15 : decode cX6_copyFrom 15 = .ok (.aload_n 1, 1) := by decide +kernel
theorem dX6_copyFrom_16 : decode cX6_copyFrom 16 = .ok (.getfield 15, 3) := by decide +kernel
theorem dX6_copyFrom_19 : decode cX6_copyFrom 19 = .ok (.iconst 0, 1) := by decide +kernel
theorem dX6_copyFrom_20 : decode cX6_copyFrom 20 = .ok (.aload_n 0, 1) := by decide +kernel
theorem dX6_copyFrom_21 : decode cX6_copyFrom 21 = .ok (.getfield 15, 3) := by decide +kernel
theorem dX6_copyFrom_24 : decode cX6_copyFrom 24 = .ok (.iconst 0, 1) := by decide +kernel
theorem dX6_copyFrom_25 : decode cX6_copyFrom 25 = .ok (.bipush 6, 2) := by decide +kernel
theorem dX6_copyFrom_27 : decode cX6_copyFrom 27 = .ok (.invokestatic 46, 3) := by decide +kernel
theorem dX6_copyFrom_30 : decode cX6_copyFrom 30 = .ok (.aload_n 1, 1) := by decide +kernel
theorem dX6_copyFrom_31 : decode cX6_copyFrom 31 = .ok (.getfield 18, 3) := by decide +kernel
theorem dX6_copyFrom_34 : decode cX6_copyFrom 34 = .ok (.iconst 0, 1) := by decide +kernel
theorem dX6_copyFrom_35 : decode cX6_copyFrom 35 = .ok (.aload_n 0, 1) := by decide +kernel
theorem dX6_copyFrom_36 : decode cX6_copyFrom 36 = .ok (.getfield 18, 3) := by decide +kernel
theorem dX6_copyFrom_39 : decode cX6_copyFrom 39 = .ok (.iconst 0, 1) := by decide +kernel
theorem dX6_copyFrom_40 : decode cX6_copyFrom 40 = .ok (.bipush 6, 2) := by decide +kernel
theorem dX6_copyFrom_42 : decode cX6_copyFrom 42 = .ok (.invokestatic 46, 3) := by decide +kernel
theorem dX6_copyFrom_45 : decode cX6_copyFrom 45 = .ok (.aload_n 1, 1) := by decide +kernel
theorem dX6_copyFrom_46 : decode cX6_copyFrom 46 = .ok (.getfield 21, 3) := by decide +kernel
theorem dX6_copyFrom_49 : decode cX6_copyFrom 49 = .ok (.iconst 0, 1) := by decide +kernel
theorem dX6_copyFrom_50 : decode cX6_copyFrom 50 = .ok (.aload_n 0, 1) := by decide +kernel
theorem dX6_copyFrom_51 : decode cX6_copyFrom 51 = .ok (.getfield 21, 3) := by decide +kernel
theorem dX6_copyFrom_54 : decode cX6_copyFrom 54 = .ok (.iconst 0, 1) := by decide +kernel
theorem dX6_copyFrom_55 : decode cX6_copyFrom 55 = .ok (.bipush 6, 2) := by decide +kernel
theorem dX6_copyFrom_57 : decode cX6_copyFrom 57 = .ok (.invokestatic 46, 3) := by decide +kernel
theorem dX6_copyFrom_60 : decode cX6_copyFrom 60 = .ok (.aload_n 1, 1) := by decide +kernel
theorem dX6_copyFrom_61 : decode cX6_copyFrom 61 = .ok (.getfield 24, 3) := by decide +kernel
theorem dX6_copyFrom_64 : decode cX6_copyFrom 64 = .ok (.iconst 0, 1) := by decide +kernel
theorem dX6_copyFrom_65 : decode cX6_copyFrom 65 = .ok (.aload_n 0, 1) := by decide +kernel
theorem dX6_copyFrom_66 : decode cX6_copyFrom 66 = .ok (.getfield 24, 3) := by decide +kernel
theorem dX6_copyFrom_69 : decode cX6_copyFrom 69 = .ok (.iconst 0, 1) := by decide +kernel
theorem dX6_copyFrom_70 : decode cX6_copyFrom 70 = .ok (.bipush 36, 2) := by decide +kernel
theorem dX6_copyFrom_72 : decode cX6_copyFrom 72 = .ok (.invokestatic 46, 3) := by decide +kernel
theorem dX6_copyFrom_75 : decode cX6_copyFrom 75 = .ok (.aload_n 0, 1) := by decide +kernel
theorem dX6_copyFrom_76 : decode cX6_copyFrom 76 = .ok (.aload_n 1, 1) := by decide +kernel
theorem dX6_copyFrom_77 : decode cX6_copyFrom 77 = .ok (.getfield 27, 3) := by decide +kernel
theorem dX6_copyFrom_80 : decode cX6_copyFrom 80 = .ok (.putfield 27, 3) := by decide +kernel
theorem dX6_copyFrom_83 : decode cX6_copyFrom 83 = .ok (.aload_n 0, 1) := by decide +kernel
theorem dX6_copyFrom_84 : decode cX6_copyFrom 84 = .ok (.aload_n 1, 1) := by decide +kernel
theorem dX6_copyFrom_85 : decode cX6_copyFrom 85 = .ok (.getfield 31, 3) := by decide +kernel
theorem dX6_copyFrom_88 : decode cX6_copyFrom 88 = .ok (.putfield 31, 3) := by decide +kernel
theorem dX6_copyFrom_91 : decode cX6_copyFrom 91 = .ok (.aload_n 0, 1) := by decide +kernel
theorem dX6_copyFrom_92 : decode cX6_copyFrom 92 = .ok (.aload_n 1, 1) := by decide +kernel
theorem dX6_copyFrom_93 : decode cX6_copyFrom 93 = .ok (.getfield 34, 3) := by decide +kernel
theorem dX6_copyFrom_96 : decode cX6_copyFrom 96 = .ok (.putfield 34, 3) := by decide +kernel
theorem dX6_copyFrom_99 : decode cX6_copyFrom 99 = .ok (.aload_n 0, 1) := by decide +kernel
theorem dX6_copyFrom_100 : decode cX6_copyFrom 100 = .ok (.aload_n 1, 1) := by decide +kernel
theorem dX6_copyFrom_101 : decode cX6_copyFrom 101 = .ok (.getfield 37, 3) := by decide +kernel
theorem dX6_copyFrom_104 : decode cX6_copyFrom 104 = .ok (.putfield 37, 3) := by decide +kernel
theorem dX6_copyFrom_107 : decode cX6_copyFrom 107 = .ok (.aload_n 0, 1) := by decide +kernel
theorem dX6_copyFrom_108 : decode cX6_copyFrom 108 = .ok (.aload_n 1, 1) := by decide +kernel
theorem dX6_copyFrom_109 : decode cX6_copyFrom 109 = .ok (.getfield 40, 3) := by decide +kernel
theorem dX6_copyFrom_112 : decode cX6_copyFrom 112 = .ok (.putfield 40, 3) := by decide +kernel
theorem dX6_copyFrom_115 : decode cX6_copyFrom 115 = .ok (.aload_n 0, 1) := by decide +kernel
theorem dX6_copyFrom_116 : decode cX6_copyFrom 116 = .ok (.aload_n 1, 1) := by decide +kernel
theorem dX6_copyFrom_117 : decode cX6_copyFrom 117 = .ok (.getfield 43, 3) := by decide +kernel
theorem dX6_copyFrom_120 : decode cX6_copyFrom 120 = .ok (.putfield 43, 3) := by decide +kernel
theorem dX6_copyFrom_123 : decode cX6_copyFrom 123 = .ok (.return_, 1) := by decide +kernel
theorem dX6_isThere_0 : decode cX6_isThere 0 = .ok (.iload_n 1, 1) := by decide +kernel
theorem dX6_isThere_1 : decode cX6_isThere 1 = .ok (.ifCond .lt 24, 3) := by decide +kernel
theorem dX6_isThere_4 : decode cX6_isThere 4 = .ok (.iload_n 1, 1) := by decide +kernel
theorem dX6_isThere_5 : decode cX6_isThere 5 = .ok (.bipush 6, 2) := by decide +kernel
theorem dX6_isThere_7 : decode cX6_isThere 7 = .ok (.if_icmp .ge 18, 3) := by decide +kernel
theorem dX6_isThere_10 : decode cX6_isThere 10 = .ok (.aload_n 0, 1) := by decide +kernel
theorem dX6_isThere_11 : decode cX6_isThere 11 = .ok (.getfield 27, 3) := by decide +kernel
theorem dX6_isThere_14 : decode cX6_isThere 14 = .ok (.iconst 1, 1) := by decide +kernel
theorem dX6_isThere_15 : decode cX6_isThere 15 = .ok (.iload_n 1, 1) := by decide +kernel
theorem dX6_isThere_16 : decode cX6_isThere 16 = .ok (.ishl, 1) := by decide +kernel
theorem dX6_isThere_17 : decode cX6_isThere 17 = .ok (.iand, 1) := by decide +kernel
theorem dX6_isThere_18 : decode cX6_isThere 18 = .ok (.ifCond .eq 7, 3) := by decide +kernel
theorem dX6_isThere_21 : decode cX6_isThere 21 = .ok (.iconst 1, 1) := by decide +kernel
theorem dX6_isThere_22 : decode cX6_isThere 22 = .ok (.goto 4, 3) := by decide +kernel
theorem dX6_isThere_25 : decode cX6_isThere 25 = .ok (.iconst 0, 1) := by decide +kernel
theorem dX6_isThere_26 : decode cX6_isThere 26 = .ok (.ireturn, 1) := by decide +kernel
theorem dX6_howManyFamilies_0 : decode cX6_howManyFamilies 0 = .ok (.aload_n 0, 1) := by decide +kernel
theorem dX6_howManyFamilies_1 : decode cX6_howManyFamilies 1 = .ok (.getfield 27, 3) := by decide +kernel
theorem dX6_howManyFamilies_4 : decode cX6_howManyFamilies 4 = .ok (.invokestatic 52, 3) := by decide +kernel
theorem dX6_howManyFamilies_7 : decode cX6_howManyFamilies 7 = .ok (.ireturn, 1) := by decide +kernel
theorem dX6_familyAt_0 : decode cX6_familyAt 0 = .ok (.iconst 0, 1) := by decide +kernel
theorem dX6_familyAt_1 : decode cX6_familyAt 1 = .ok (.istore_n 2, 1) := by decide +kernel
theorem dX6_familyAt_2 : decode cX6_familyAt 2 = .ok (.iload_n 2, 1) := by decide +kernel
theorem dX6_familyAt_3 : decode cX6_familyAt 3 = .ok (.bipush 6, 2) := by decide +kernel
theorem dX6_familyAt_5 : decode cX6_familyAt 5 = .ok (.if_icmp .ge 32, 3) := by decide +kernel
theorem dX6_familyAt_8 : decode cX6_familyAt 8 = .ok (.aload_n 0, 1) := by decide +kernel
theorem dX6_familyAt_9 : decode cX6_familyAt 9 = .ok (.getfield 27, 3) := by decide +kernel
theorem dX6_familyAt_12 : decode cX6_familyAt 12 = .ok (.iconst 1, 1) := by decide +kernel
theorem dX6_familyAt_13 : decode cX6_familyAt 13 = .ok (.iload_n 2, 1) := by decide +kernel
theorem dX6_familyAt_14 : decode cX6_familyAt 14 = .ok (.ishl, 1) := by decide +kernel
theorem dX6_familyAt_15 : decode cX6_familyAt 15 = .ok (.iand, 1) := by decide +kernel
theorem dX6_familyAt_16 : decode cX6_familyAt 16 = .ok (.ifCond .eq 15, 3) := by decide +kernel
theorem dX6_familyAt_19 : decode cX6_familyAt 19 = .ok (.aload_n 0, 1) := by decide +kernel
theorem dX6_familyAt_20 : decode cX6_familyAt 20 = .ok (.getfield 9, 3) := by decide +kernel
theorem dX6_familyAt_23 : decode cX6_familyAt 23 = .ok (.iload_n 2, 1) := by decide +kernel
theorem dX6_familyAt_24 : decode cX6_familyAt 24 = .ok (.iaload, 1) := by decide +kernel
theorem dX6_familyAt_25 : decode cX6_familyAt 25 = .ok (.iload_n 1, 1) := by decide +kernel
theorem dX6_familyAt_26 : decode cX6_familyAt 26 = .ok (.if_icmp .ne 5, 3) := by decide +kernel
theorem dX6_familyAt_29 : decode cX6_familyAt 29 = .ok (.iload_n 2, 1) := by decide +kernel
theorem dX6_familyAt_30 : decode cX6_familyAt 30 = .ok (.ireturn, 1) := by decide +kernel
theorem dX6_familyAt_31 : decode cX6_familyAt 31 = .ok (.iinc 2 1, 3) := by decide +kernel
theorem dX6_familyAt_34 : decode cX6_familyAt 34 = .ok (.goto (-32), 3) := by decide +kernel
theorem dX6_familyAt_37 : decode cX6_familyAt 37 = .ok (.iconst (-1), 1) := by decide +kernel
theorem dX6_familyAt_38 : decode cX6_familyAt 38 = .ok (.ireturn, 1) := by decide +kernel
theorem dX6_settle_0 : decode cX6_settle 0 = .ok (.iload_n 1, 1) := by decide +kernel
theorem dX6_settle_1 : decode cX6_settle 1 = .ok (.ifCond .lt 9, 3) := by decide +kernel
theorem dX6_settle_4 : decode cX6_settle 4 = .ok (.iload_n 1, 1) := by decide +kernel
theorem dX6_settle_5 : decode cX6_settle 5 = .ok (.bipush 6, 2) := by decide +kernel
theorem dX6_settle_7 : decode cX6_settle 7 = .ok (.if_icmp .lt 4, 3) := by decide +kernel
theorem dX6_settle_10 : decode cX6_settle 10 = .ok (.return_, 1) := by decide +kernel
theorem dX6_settle_11 : decode cX6_settle 11 = .ok (.aload_n 0, 1) := by decide +kernel
theorem dX6_settle_12 : decode cX6_settle 12 = .ok (.dup, 1) := by decide +kernel
theorem dX6_settle_13 : decode cX6_settle 13 = .ok (.getfield 27, 3) := by decide +kernel
theorem dX6_settle_16 : decode cX6_settle 16 = .ok (.iconst 1, 1) := by decide +kernel
theorem dX6_settle_17 : decode cX6_settle 17 = .ok (.iload_n 1, 1) := by decide +kernel
theorem dX6_settle_18 : decode cX6_settle 18 = .ok (.ishl, 1) := by decide +kernel
theorem dX6_settle_19 : decode cX6_settle 19 = .ok (.ior, 1) := by decide +kernel
theorem dX6_settle_20 : decode cX6_settle 20 = .ok (.putfield 27, 3) := by decide +kernel
theorem dX6_settle_23 : decode cX6_settle 23 = .ok (.aload_n 0, 1) := by decide +kernel
theorem dX6_settle_24 : decode cX6_settle 24 = .ok (.getfield 9, 3) := by decide +kernel
theorem dX6_settle_27 : decode cX6_settle 27 = .ok (.iload_n 1, 1) := by decide +kernel
theorem dX6_settle_28 : decode cX6_settle 28 = .ok (.iload_n 2, 1) := by decide +kernel
theorem dX6_settle_29 : decode cX6_settle 29 = .ok (.iastore, 1) := by decide +kernel
theorem dX6_settle_30 : decode cX6_settle 30 = .ok (.aload_n 0, 1) := by decide +kernel
theorem dX6_settle_31 : decode cX6_settle 31 = .ok (.getfield 15, 3) := by decide +kernel
theorem dX6_settle_34 : decode cX6_settle 34 = .ok (.iload_n 1, 1) := by decide +kernel
theorem dX6_settle_35 : decode cX6_settle 35 = .ok (.iload_n 3, 1) := by decide +kernel
theorem dX6_settle_36 : decode cX6_settle 36 = .ok (.iastore, 1) := by decide +kernel
theorem dX6_settle_37 : decode cX6_settle 37 = .ok (.aload_n 0, 1) := by decide +kernel
theorem dX6_settle_38 : decode cX6_settle 38 = .ok (.getfield 18, 3) := by decide +kernel
theorem dX6_settle_41 : decode cX6_settle 41 = .ok (.iload_n 1, 1) := by decide +kernel
theorem dX6_settle_42 : decode cX6_settle 42 = .ok (.iload 4, 2) := by decide +kernel
theorem dX6_settle_44 : decode cX6_settle 44 = .ok (.iastore, 1) := by decide +kernel
theorem dX6_settle_45 : decode cX6_settle 45 = .ok (.aload_n 0, 1) := by decide +kernel
theorem dX6_settle_46 : decode cX6_settle 46 = .ok (.getfield 21, 3) := by decide +kernel
theorem dX6_settle_49 : decode cX6_settle 49 = .ok (.iload_n 1, 1) := by decide +kernel
theorem dX6_settle_50 : decode cX6_settle 50 = .ok (.iconst 0, 1) := by decide +kernel
theorem dX6_settle_51 : decode cX6_settle 51 = .ok (.iastore, 1) := by decide +kernel
theorem dX6_settle_52 : decode cX6_settle 52 = .ok (.return_, 1) := by decide +kernel
theorem dX6_moveOut_0 : decode cX6_moveOut 0 = .ok (.aload_n 0, 1) := by decide +kernel
theorem dX6_moveOut_1 : decode cX6_moveOut 1 = .ok (.iload_n 1, 1) := by decide +kernel
theorem dX6_moveOut_2 : decode cX6_moveOut 2 = .ok (.invokevirtual 58, 3) := by decide +kernel
theorem dX6_moveOut_5 : decode cX6_moveOut 5 = .ok (.ifCond .ne 4, 3) := by decide +kernel
theorem dX6_moveOut_8 : decode cX6_moveOut 8 = .ok (.return_, 1) := by decide +kernel
theorem dX6_moveOut_9 : decode cX6_moveOut 9 = .ok (.aload_n 0, 1) := by decide +kernel
theorem dX6_moveOut_10 : decode cX6_moveOut 10 = .ok (.dup, 1) := by decide +kernel
theorem dX6_moveOut_11 : decode cX6_moveOut 11 = .ok (.getfield 27, 3) := by decide +kernel
theorem dX6_moveOut_14 : decode cX6_moveOut 14 = .ok (.iconst 1, 1) := by decide +kernel
theorem dX6_moveOut_15 : decode cX6_moveOut 15 = .ok (.iload_n 1, 1) := by decide +kernel
theorem dX6_moveOut_16 : decode cX6_moveOut 16 = .ok (.ishl, 1) := by decide +kernel
theorem dX6_moveOut_17 : decode cX6_moveOut 17 = .ok (.iconst (-1), 1) := by decide +kernel
theorem dX6_moveOut_18 : decode cX6_moveOut 18 = .ok (.ixor, 1) := by decide +kernel
theorem dX6_moveOut_19 : decode cX6_moveOut 19 = .ok (.iand, 1) := by decide +kernel
theorem dX6_moveOut_20 : decode cX6_moveOut 20 = .ok (.putfield 27, 3) := by decide +kernel
theorem dX6_moveOut_23 : decode cX6_moveOut 23 = .ok (.aload_n 0, 1) := by decide +kernel
theorem dX6_moveOut_24 : decode cX6_moveOut 24 = .ok (.aload_n 0, 1) := by decide +kernel
theorem dX6_moveOut_25 : decode cX6_moveOut 25 = .ok (.getfield 9, 3) := by decide +kernel
theorem dX6_moveOut_28 : decode cX6_moveOut 28 = .ok (.iload_n 1, 1) := by decide +kernel
theorem dX6_moveOut_29 : decode cX6_moveOut 29 = .ok (.iaload, 1) := by decide +kernel
theorem dX6_moveOut_30 : decode cX6_moveOut 30 = .ok (.aload_n 0, 1) := by decide +kernel
theorem dX6_moveOut_31 : decode cX6_moveOut 31 = .ok (.getfield 15, 3) := by decide +kernel
theorem dX6_moveOut_34 : decode cX6_moveOut 34 = .ok (.iload_n 1, 1) := by decide +kernel
theorem dX6_moveOut_35 : decode cX6_moveOut 35 = .ok (.iaload, 1) := by decide +kernel
theorem dX6_moveOut_36 : decode cX6_moveOut 36 = .ok (.invokevirtual 62, 3) := by decide +kernel
theorem dX6_moveOut_39 : decode cX6_moveOut 39 = .ok (.aload_n 0, 1) := by decide +kernel
theorem dX6_moveOut_40 : decode cX6_moveOut 40 = .ok (.getfield 15, 3) := by decide +kernel
theorem dX6_moveOut_43 : decode cX6_moveOut 43 = .ok (.iload_n 1, 1) := by decide +kernel
theorem dX6_moveOut_44 : decode cX6_moveOut 44 = .ok (.iconst 0, 1) := by decide +kernel
theorem dX6_moveOut_45 : decode cX6_moveOut 45 = .ok (.iastore, 1) := by decide +kernel
theorem dX6_moveOut_46 : decode cX6_moveOut 46 = .ok (.return_, 1) := by decide +kernel
theorem dX6_lieDown_0 : decode cX6_lieDown 0 = .ok (.iload_n 1, 1) := by decide +kernel
theorem dX6_lieDown_1 : decode cX6_lieDown 1 = .ok (.ifCond .lt 9, 3) := by decide +kernel
theorem dX6_lieDown_4 : decode cX6_lieDown 4 = .ok (.iload_n 1, 1) := by decide +kernel
theorem dX6_lieDown_5 : decode cX6_lieDown 5 = .ok (.bipush 36, 2) := by decide +kernel
theorem dX6_lieDown_7 : decode cX6_lieDown 7 = .ok (.if_icmp .lt 14, 3) := by decide +kernel
theorem dX6_lieDown_10 : decode cX6_lieDown 10 = .ok (.aload_n 0, 1) := by decide +kernel
theorem dX6_lieDown_11 : decode cX6_lieDown 11 = .ok (.dup, 1) := by decide +kernel
theorem dX6_lieDown_12 : decode cX6_lieDown 12 = .ok (.getfield 40, 3) := by decide +kernel
theorem dX6_lieDown_15 : decode cX6_lieDown 15 = .ok (.iload_n 2, 1) := by decide +kernel
theorem dX6_lieDown_16 : decode cX6_lieDown 16 = .ok (.iadd, 1) := by decide +kernel
theorem dX6_lieDown_17 : decode cX6_lieDown 17 = .ok (.putfield 40, 3) := by decide +kernel
theorem dX6_lieDown_20 : decode cX6_lieDown 20 = .ok (.return_, 1) := by decide +kernel
theorem dX6_lieDown_21 : decode cX6_lieDown 21 = .ok (.aload_n 0, 1) := by decide +kernel
theorem dX6_lieDown_22 : decode cX6_lieDown 22 = .ok (.getfield 24, 3) := by decide +kernel
theorem dX6_lieDown_25 : decode cX6_lieDown 25 = .ok (.iload_n 1, 1) := by decide +kernel
theorem dX6_lieDown_26 : decode cX6_lieDown 26 = .ok (.iaload, 1) := by decide +kernel
theorem dX6_lieDown_27 : decode cX6_lieDown 27 = .ok (.iload_n 2, 1) := by decide +kernel
theorem dX6_lieDown_28 : decode cX6_lieDown 28 = .ok (.iadd, 1) := by decide +kernel
theorem dX6_lieDown_29 : decode cX6_lieDown 29 = .ok (.istore_n 3, 1) := by decide +kernel
theorem dX6_lieDown_30 : decode cX6_lieDown 30 = .ok (.iload_n 3, 1) := by decide +kernel
theorem dX6_lieDown_31 : decode cX6_lieDown 31 = .ok (.sipush 999, 3) := by decide +kernel
theorem dX6_lieDown_34 : decode cX6_lieDown 34 = .ok (.if_icmp .le 11, 3) := by decide +kernel
theorem dX6_lieDown_37 : decode cX6_lieDown 37 = .ok (.iload_n 3, 1) := by decide +kernel
theorem dX6_lieDown_38 : decode cX6_lieDown 38 = .ok (.sipush 999, 3) := by decide +kernel
theorem dX6_lieDown_41 : decode cX6_lieDown 41 = .ok (.isub, 1) := by decide +kernel
theorem dX6_lieDown_42 : decode cX6_lieDown 42 = .ok (.goto 4, 3) := by decide +kernel
theorem dX6_lieDown_45 : decode cX6_lieDown 45 = .ok (.iconst 0, 1) := by decide +kernel
theorem dX6_lieDown_46 : decode cX6_lieDown 46 = .ok (.istore 4, 2) := by decide +kernel
theorem dX6_lieDown_48 : decode cX6_lieDown 48 = .ok (.aload_n 0, 1) := by decide +kernel
theorem dX6_lieDown_49 : decode cX6_lieDown 49 = .ok (.getfield 24, 3) := by decide +kernel
theorem dX6_lieDown_52 : decode cX6_lieDown 52 = .ok (.iload_n 1, 1) := by decide +kernel
theorem dX6_lieDown_53 : decode cX6_lieDown 53 = .ok (.iload_n 3, 1) := by decide +kernel
theorem dX6_lieDown_54 : decode cX6_lieDown 54 = .ok (.iload 4, 2) := by decide +kernel
theorem dX6_lieDown_56 : decode cX6_lieDown 56 = .ok (.isub, 1) := by decide +kernel
theorem dX6_lieDown_57 : decode cX6_lieDown 57 = .ok (.iastore, 1) := by decide +kernel
theorem dX6_lieDown_58 : decode cX6_lieDown 58 = .ok (.aload_n 0, 1) := by decide +kernel
theorem dX6_lieDown_59 : decode cX6_lieDown 59 = .ok (.dup, 1) := by decide +kernel
theorem dX6_lieDown_60 : decode cX6_lieDown 60 = .ok (.getfield 40, 3) := by decide +kernel
theorem dX6_lieDown_63 : decode cX6_lieDown 63 = .ok (.iload 4, 2) := by decide +kernel
theorem dX6_lieDown_65 : decode cX6_lieDown 65 = .ok (.iadd, 1) := by decide +kernel
theorem dX6_lieDown_66 : decode cX6_lieDown 66 = .ok (.putfield 40, 3) := by decide +kernel
theorem dX6_lieDown_69 : decode cX6_lieDown 69 = .ok (.return_, 1) := by decide +kernel
theorem dX6_arrive_0 : decode cX6_arrive 0 = .ok (.aload_n 0, 1) := by decide +kernel
theorem dX6_arrive_1 : decode cX6_arrive 1 = .ok (.iload_n 1, 1) := by decide +kernel
theorem dX6_arrive_2 : decode cX6_arrive 2 = .ok (.invokevirtual 66, 3) := by decide +kernel
theorem dX6_arrive_5 : decode cX6_arrive 5 = .ok (.istore_n 3, 1) := by decide +kernel
theorem dX6_arrive_6 : decode cX6_arrive 6 = .ok (.iload_n 3, 1) := by decide +kernel
theorem dX6_arrive_7 : decode cX6_arrive 7 = .ok (.ifCond .lt 9, 3) := by decide +kernel
theorem dX6_arrive_10 : decode cX6_arrive 10 = .ok (.iload_n 3, 1) := by decide +kernel
theorem dX6_arrive_11 : decode cX6_arrive 11 = .ok (.bipush 6, 2) := by decide +kernel
theorem dX6_arrive_13 : decode cX6_arrive 13 = .ok (.if_icmp .lt 10, 3) := by decide +kernel
theorem dX6_arrive_16 : decode cX6_arrive 16 = .ok (.aload_n 0, 1) := by decide +kernel
theorem dX6_arrive_17 : decode cX6_arrive 17 = .ok (.iload_n 1, 1) := by decide +kernel
theorem dX6_arrive_18 : decode cX6_arrive 18 = .ok (.iload_n 2, 1) := by decide +kernel
theorem dX6_arrive_19 : decode cX6_arrive 19 = .ok (.invokevirtual 62, 3) := by decide +kernel
theorem dX6_arrive_22 : decode cX6_arrive 22 = .ok (.return_, 1) := by decide +kernel
theorem dX6_arrive_23 : decode cX6_arrive 23 = .ok (.aload_n 0, 1) := by decide +kernel
theorem dX6_arrive_24 : decode cX6_arrive 24 = .ok (.getfield 15, 3) := by decide +kernel
theorem dX6_arrive_27 : decode cX6_arrive 27 = .ok (.iload_n 3, 1) := by decide +kernel
theorem dX6_arrive_28 : decode cX6_arrive 28 = .ok (.iaload, 1) := by decide +kernel
theorem dX6_arrive_29 : decode cX6_arrive 29 = .ok (.iload_n 2, 1) := by decide +kernel
theorem dX6_arrive_30 : decode cX6_arrive 30 = .ok (.iadd, 1) := by decide +kernel
theorem dX6_arrive_31 : decode cX6_arrive 31 = .ok (.istore 4, 2) := by decide +kernel
theorem dX6_arrive_33 : decode cX6_arrive 33 = .ok (.iload 4, 2) := by decide +kernel
theorem dX6_arrive_35 : decode cX6_arrive 35 = .ok (.bipush 60, 2) := by decide +kernel
theorem dX6_arrive_37 : decode cX6_arrive 37 = .ok (.if_icmp .le 11, 3) := by decide +kernel
theorem dX6_arrive_40 : decode cX6_arrive 40 = .ok (.iload 4, 2) := by decide +kernel
theorem dX6_arrive_42 : decode cX6_arrive 42 = .ok (.bipush 60, 2) := by decide +kernel
theorem dX6_arrive_44 : decode cX6_arrive 44 = .ok (.isub, 1) := by decide +kernel
theorem dX6_arrive_45 : decode cX6_arrive 45 = .ok (.goto 4, 3) := by decide +kernel
theorem dX6_arrive_48 : decode cX6_arrive 48 = .ok (.iconst 0, 1) := by decide +kernel
theorem dX6_arrive_49 : decode cX6_arrive 49 = .ok (.istore 5, 2) := by decide +kernel
theorem dX6_arrive_51 : decode cX6_arrive 51 = .ok (.aload_n 0, 1) := by decide +kernel
theorem dX6_arrive_52 : decode cX6_arrive 52 = .ok (.getfield 15, 3) := by decide +kernel
theorem dX6_arrive_55 : decode cX6_arrive 55 = .ok (.iload_n 3, 1) := by decide +kernel
theorem dX6_arrive_56 : decode cX6_arrive 56 = .ok (.iload 4, 2) := by decide +kernel
theorem dX6_arrive_58 : decode cX6_arrive 58 = .ok (.iload 5, 2) := by decide +kernel
theorem dX6_arrive_60 : decode cX6_arrive 60 = .ok (.isub, 1) := by decide +kernel
theorem dX6_arrive_61 : decode cX6_arrive 61 = .ok (.iastore, 1) := by decide +kernel
theorem dX6_arrive_62 : decode cX6_arrive 62 = .ok (.aload_n 0, 1) := by decide +kernel
theorem dX6_arrive_63 : decode cX6_arrive 63 = .ok (.iload_n 1, 1) := by decide +kernel
theorem dX6_arrive_64 : decode cX6_arrive 64 = .ok (.iload 5, 2) := by decide +kernel
theorem dX6_arrive_66 : decode cX6_arrive 66 = .ok (.invokevirtual 62, 3) := by decide +kernel
theorem dX6_arrive_69 : decode cX6_arrive 69 = .ok (.return_, 1) := by decide +kernel
theorem dX6_puff_0 : decode cX6_puff 0 = .ok (.aload_n 0, 1) := by decide +kernel
theorem dX6_puff_1 : decode cX6_puff 1 = .ok (.iload_n 1, 1) := by decide +kernel
theorem dX6_puff_2 : decode cX6_puff 2 = .ok (.invokevirtual 58, 3) := by decide +kernel
theorem dX6_puff_5 : decode cX6_puff 5 = .ok (.ifCond .eq 45, 3) := by decide +kernel
theorem dX6_puff_8 : decode cX6_puff 8 = .ok (.aload_n 0, 1) := by decide +kernel
theorem dX6_puff_9 : decode cX6_puff 9 = .ok (.getfield 21, 3) := by decide +kernel
theorem dX6_puff_12 : decode cX6_puff 12 = .ok (.iload_n 1, 1) := by decide +kernel
theorem dX6_puff_13 : decode cX6_puff 13 = .ok (.dup2, 1) := by decide +kernel
theorem dX6_puff_14 : decode cX6_puff 14 = .ok (.iaload, 1) := by decide +kernel
theorem dX6_puff_15 : decode cX6_puff 15 = .ok (.iload_n 2, 1) := by decide +kernel
theorem dX6_puff_16 : decode cX6_puff 16 = .ok (.iadd, 1) := by decide +kernel
theorem dX6_puff_17 : decode cX6_puff 17 = .ok (.iastore, 1) := by decide +kernel
theorem dX6_puff_18 : decode cX6_puff 18 = .ok (.aload_n 0, 1) := by decide +kernel
theorem dX6_puff_19 : decode cX6_puff 19 = .ok (.getfield 15, 3) := by decide +kernel
theorem dX6_puff_22 : decode cX6_puff 22 = .ok (.iload_n 1, 1) := by decide +kernel
theorem dX6_puff_23 : decode cX6_puff 23 = .ok (.dup2, 1) := by decide +kernel
theorem dX6_puff_24 : decode cX6_puff 24 = .ok (.iaload, 1) := by decide +kernel
theorem dX6_puff_25 : decode cX6_puff 25 = .ok (.iload_n 2, 1) := by decide +kernel
theorem dX6_puff_26 : decode cX6_puff 26 = .ok (.isub, 1) := by decide +kernel
theorem dX6_puff_27 : decode cX6_puff 27 = .ok (.iastore, 1) := by decide +kernel
theorem dX6_puff_28 : decode cX6_puff 28 = .ok (.aload_n 0, 1) := by decide +kernel
theorem dX6_puff_29 : decode cX6_puff 29 = .ok (.aload_n 0, 1) := by decide +kernel
theorem dX6_puff_30 : decode cX6_puff 30 = .ok (.getfield 9, 3) := by decide +kernel
theorem dX6_puff_33 : decode cX6_puff 33 = .ok (.iload_n 1, 1) := by decide +kernel
theorem dX6_puff_34 : decode cX6_puff 34 = .ok (.iaload, 1) := by decide +kernel
theorem dX6_puff_35 : decode cX6_puff 35 = .ok (.aload_n 0, 1) := by decide +kernel
theorem dX6_puff_36 : decode cX6_puff 36 = .ok (.getfield 31, 3) := by decide +kernel
theorem dX6_puff_39 : decode cX6_puff 39 = .ok (.aload_n 0, 1) := by decide +kernel
theorem dX6_puff_40 : decode cX6_puff 40 = .ok (.getfield 34, 3) := by decide +kernel
theorem dX6_puff_43 : decode cX6_puff 43 = .ok (.invokestatic 69, 3) := by decide +kernel
theorem dX6_puff_46 : decode cX6_puff 46 = .ok (.iload_n 2, 1) := by decide +kernel
theorem dX6_puff_47 : decode cX6_puff 47 = .ok (.invokevirtual 73, 3) := by decide +kernel
theorem dX6_puff_50 : decode cX6_puff 50 = .ok (.return_, 1) := by decide +kernel
theorem dX6_cough_0 : decode cX6_cough 0 = .ok (.aload_n 0, 1) := by decide +kernel
theorem dX6_cough_1 : decode cX6_cough 1 = .ok (.iload_n 1, 1) := by decide +kernel
theorem dX6_cough_2 : decode cX6_cough 2 = .ok (.invokevirtual 58, 3) := by decide +kernel
theorem dX6_cough_5 : decode cX6_cough 5 = .ok (.ifCond .eq 39, 3) := by decide +kernel
theorem dX6_cough_8 : decode cX6_cough 8 = .ok (.aload_n 0, 1) := by decide +kernel
theorem dX6_cough_9 : decode cX6_cough 9 = .ok (.getfield 15, 3) := by decide +kernel
theorem dX6_cough_12 : decode cX6_cough 12 = .ok (.iload_n 1, 1) := by decide +kernel
theorem dX6_cough_13 : decode cX6_cough 13 = .ok (.iaload, 1) := by decide +kernel
theorem dX6_cough_14 : decode cX6_cough 14 = .ok (.istore_n 2, 1) := by decide +kernel
theorem dX6_cough_15 : decode cX6_cough 15 = .ok (.aload_n 0, 1) := by decide +kernel
theorem dX6_cough_16 : decode cX6_cough 16 = .ok (.getfield 15, 3) := by decide +kernel
theorem dX6_cough_19 : decode cX6_cough 19 = .ok (.iload_n 1, 1) := by decide +kernel
theorem dX6_cough_20 : decode cX6_cough 20 = .ok (.iconst 0, 1) := by decide +kernel
theorem dX6_cough_21 : decode cX6_cough 21 = .ok (.iastore, 1) := by decide +kernel
theorem dX6_cough_22 : decode cX6_cough 22 = .ok (.aload_n 0, 1) := by decide +kernel
theorem dX6_cough_23 : decode cX6_cough 23 = .ok (.aload_n 0, 1) := by decide +kernel
theorem dX6_cough_24 : decode cX6_cough 24 = .ok (.getfield 9, 3) := by decide +kernel
theorem dX6_cough_27 : decode cX6_cough 27 = .ok (.iload_n 1, 1) := by decide +kernel
theorem dX6_cough_28 : decode cX6_cough 28 = .ok (.iaload, 1) := by decide +kernel
theorem dX6_cough_29 : decode cX6_cough 29 = .ok (.aload_n 0, 1) := by decide +kernel
theorem dX6_cough_30 : decode cX6_cough 30 = .ok (.getfield 31, 3) := by decide +kernel
theorem dX6_cough_33 : decode cX6_cough 33 = .ok (.aload_n 0, 1) := by decide +kernel
theorem dX6_cough_34 : decode cX6_cough 34 = .ok (.getfield 34, 3) := by decide +kernel
theorem dX6_cough_37 : decode cX6_cough 37 = .ok (.invokestatic 69, 3) := by decide +kernel
theorem dX6_cough_40 : decode cX6_cough 40 = .ok (.iload_n 2, 1) := by decide +kernel
theorem dX6_cough_41 : decode cX6_cough 41 = .ok (.invokevirtual 73, 3) := by decide +kernel
theorem dX6_cough_44 : decode cX6_cough 44 = .ok (.return_, 1) := by decide +kernel
theorem dX6_mow_0 : decode cX6_mow 0 = .ok (.aload_n 0, 1) := by decide +kernel
theorem dX6_mow_1 : decode cX6_mow 1 = .ok (.iload_n 1, 1) := by decide +kernel
theorem dX6_mow_2 : decode cX6_mow 2 = .ok (.invokevirtual 58, 3) := by decide +kernel
theorem dX6_mow_5 : decode cX6_mow 5 = .ok (.ifCond .eq 15, 3) := by decide +kernel
theorem dX6_mow_8 : decode cX6_mow 8 = .ok (.aload_n 0, 1) := by decide +kernel
theorem dX6_mow_9 : decode cX6_mow 9 = .ok (.getfield 9, 3) := by decide +kernel
theorem dX6_mow_12 : decode cX6_mow 12 = .ok (.iload_n 1, 1) := by decide +kernel
theorem dX6_mow_13 : decode cX6_mow 13 = .ok (.iaload, 1) := by decide +kernel
theorem dX6_mow_14 : decode cX6_mow 14 = .ok (.invokestatic 76, 3) := by decide +kernel
theorem dX6_mow_17 : decode cX6_mow 17 = .ok (.ifCond .ne 4, 3) := by decide +kernel
theorem dX6_mow_20 : decode cX6_mow 20 = .ok (.return_, 1) := by decide +kernel
theorem dX6_mow_21 : decode cX6_mow 21 = .ok (.bipush 60, 2) := by decide +kernel
theorem dX6_mow_23 : decode cX6_mow 23 = .ok (.aload_n 0, 1) := by decide +kernel
theorem dX6_mow_24 : decode cX6_mow 24 = .ok (.getfield 15, 3) := by decide +kernel
theorem dX6_mow_27 : decode cX6_mow 27 = .ok (.iload_n 1, 1) := by decide +kernel
theorem dX6_mow_28 : decode cX6_mow 28 = .ok (.iaload, 1) := by decide +kernel
theorem dX6_mow_29 : decode cX6_mow 29 = .ok (.isub, 1) := by decide +kernel
theorem dX6_mow_30 : decode cX6_mow 30 = .ok (.aload_n 0, 1) := by decide +kernel
theorem dX6_mow_31 : decode cX6_mow 31 = .ok (.getfield 24, 3) := by decide +kernel
theorem dX6_mow_34 : decode cX6_mow 34 = .ok (.aload_n 0, 1) := by decide +kernel
theorem dX6_mow_35 : decode cX6_mow 35 = .ok (.getfield 9, 3) := by decide +kernel
theorem dX6_mow_38 : decode cX6_mow 38 = .ok (.iload_n 1, 1) := by decide +kernel
theorem dX6_mow_39 : decode cX6_mow 39 = .ok (.iaload, 1) := by decide +kernel
theorem dX6_mow_40 : decode cX6_mow 40 = .ok (.iaload, 1) := by decide +kernel
theorem dX6_mow_41 : decode cX6_mow 41 = .ok (.invokestatic 79, 3) := by decide +kernel
theorem dX6_mow_44 : decode cX6_mow 44 = .ok (.istore_n 2, 1) := by decide +kernel
theorem dX6_mow_45 : decode cX6_mow 45 = .ok (.aload_n 0, 1) := by decide +kernel
theorem dX6_mow_46 : decode cX6_mow 46 = .ok (.getfield 15, 3) := by decide +kernel
theorem dX6_mow_49 : decode cX6_mow 49 = .ok (.iload_n 1, 1) := by decide +kernel
theorem dX6_mow_50 : decode cX6_mow 50 = .ok (.dup2, 1) := by decide +kernel
theorem dX6_mow_51 : decode cX6_mow 51 = .ok (.iaload, 1) := by decide +kernel
theorem dX6_mow_52 : decode cX6_mow 52 = .ok (.iload_n 2, 1) := by decide +kernel
theorem dX6_mow_53 : decode cX6_mow 53 = .ok (.iadd, 1) := by decide +kernel
theorem dX6_mow_54 : decode cX6_mow 54 = .ok (.iastore, 1) := by decide +kernel
theorem dX6_mow_55 : decode cX6_mow 55 = .ok (.aload_n 0, 1) := by decide +kernel
theorem dX6_mow_56 : decode cX6_mow 56 = .ok (.getfield 24, 3) := by decide +kernel
theorem dX6_mow_59 : decode cX6_mow 59 = .ok (.aload_n 0, 1) := by decide +kernel
theorem dX6_mow_60 : decode cX6_mow 60 = .ok (.getfield 9, 3) := by decide +kernel
theorem dX6_mow_63 : decode cX6_mow 63 = .ok (.iload_n 1, 1) := by decide +kernel
theorem dX6_mow_64 : decode cX6_mow 64 = .ok (.iaload, 1) := by decide +kernel
theorem dX6_mow_65 : decode cX6_mow 65 = .ok (.dup2, 1) := by decide +kernel
theorem dX6_mow_66 : decode cX6_mow 66 = .ok (.iaload, 1) := by decide +kernel
theorem dX6_mow_67 : decode cX6_mow 67 = .ok (.iload_n 2, 1) := by decide +kernel
theorem dX6_mow_68 : decode cX6_mow 68 = .ok (.isub, 1) := by decide +kernel
theorem dX6_mow_69 : decode cX6_mow 69 = .ok (.iastore, 1) := by decide +kernel
theorem dX6_mow_70 : decode cX6_mow 70 = .ok (.return_, 1) := by decide +kernel
theorem dX6_graze_0 : decode cX6_graze 0 = .ok (.iconst 0, 1) := by decide +kernel
theorem dX6_graze_1 : decode cX6_graze 1 = .ok (.istore_n 1, 1) := by decide +kernel
theorem dX6_graze_2 : decode cX6_graze 2 = .ok (.iload_n 1, 1) := by decide +kernel
theorem dX6_graze_3 : decode cX6_graze 3 = .ok (.bipush 36, 2) := by decide +kernel
theorem dX6_graze_5 : decode cX6_graze 5 = .ok (.if_icmp .ge 38, 3) := by decide +kernel
theorem dX6_graze_8 : decode cX6_graze 8 = .ok (.aload_n 0, 1) := by decide +kernel
theorem dX6_graze_9 : decode cX6_graze 9 = .ok (.getfield 24, 3) := by decide +kernel
theorem dX6_graze_12 : decode cX6_graze 12 = .ok (.iload_n 1, 1) := by decide +kernel
theorem dX6_graze_13 : decode cX6_graze 13 = .ok (.iaload, 1) := by decide +kernel
theorem dX6_graze_14 : decode cX6_graze 14 = .ok (.iconst 2, 1) := by decide +kernel
theorem dX6_graze_15 : decode cX6_graze 15 = .ok (.idiv, 1) := by decide +kernel
theorem dX6_graze_16 : decode cX6_graze 16 = .ok (.istore_n 2, 1) := by decide +kernel
theorem dX6_graze_17 : decode cX6_graze 17 = .ok (.aload_n 0, 1) := by decide +kernel
theorem dX6_graze_18 : decode cX6_graze 18 = .ok (.getfield 24, 3) := by decide +kernel
theorem dX6_graze_21 : decode cX6_graze 21 = .ok (.iload_n 1, 1) := by decide +kernel
theorem dX6_graze_22 : decode cX6_graze 22 = .ok (.dup2, 1) := by decide +kernel
theorem dX6_graze_23 : decode cX6_graze 23 = .ok (.iaload, 1) := by decide +kernel
theorem dX6_graze_24 : decode cX6_graze 24 = .ok (.iload_n 2, 1) := by decide +kernel
theorem dX6_graze_25 : decode cX6_graze 25 = .ok (.isub, 1) := by decide +kernel
theorem dX6_graze_26 : decode cX6_graze 26 = .ok (.iastore, 1) := by decide +kernel
theorem dX6_graze_27 : decode cX6_graze 27 = .ok (.aload_n 0, 1) := by decide +kernel
theorem dX6_graze_28 : decode cX6_graze 28 = .ok (.dup, 1) := by decide +kernel
theorem dX6_graze_29 : decode cX6_graze 29 = .ok (.getfield 40, 3) := by decide +kernel
theorem dX6_graze_32 : decode cX6_graze 32 = .ok (.iload_n 2, 1) := by decide +kernel
theorem dX6_graze_33 : decode cX6_graze 33 = .ok (.iadd, 1) := by decide +kernel
theorem dX6_graze_34 : decode cX6_graze 34 = .ok (.putfield 40, 3) := by decide +kernel
theorem dX6_graze_37 : decode cX6_graze 37 = .ok (.iinc 1 1, 3) := by decide +kernel
theorem dX6_graze_40 : decode cX6_graze 40 = .ok (.goto (-38), 3) := by decide +kernel
theorem dX6_graze_43 : decode cX6_graze 43 = .ok (.return_, 1) := by decide +kernel
theorem dX6_strikeHour_0 : decode cX6_strikeHour 0 = .ok (.aload_n 0, 1) := by decide +kernel
theorem dX6_strikeHour_1 : decode cX6_strikeHour 1 = .ok (.dup, 1) := by decide +kernel
theorem dX6_strikeHour_2 : decode cX6_strikeHour 2 = .ok (.getfield 43, 3) := by decide +kernel
theorem dX6_strikeHour_5 : decode cX6_strikeHour 5 = .ok (.iconst 1, 1) := by decide +kernel
theorem dX6_strikeHour_6 : decode cX6_strikeHour 6 = .ok (.iadd, 1) := by decide +kernel
theorem dX6_strikeHour_7 : decode cX6_strikeHour 7 = .ok (.putfield 43, 3) := by decide +kernel
theorem dX6_strikeHour_10 : decode cX6_strikeHour 10 = .ok (.aload_n 0, 1) := by decide +kernel
theorem dX6_strikeHour_11 : decode cX6_strikeHour 11 = .ok (.getfield 21, 3) := by decide +kernel
theorem dX6_strikeHour_14 : decode cX6_strikeHour 14 = .ok (.invokestatic 85, 3) := by decide +kernel
theorem dX6_strikeHour_17 : decode cX6_strikeHour 17 = .ok (.return_, 1) := by decide +kernel
theorem dX6_allSeeds_0 : decode cX6_allSeeds 0 = .ok (.iconst 0, 1) := by decide +kernel
theorem dX6_allSeeds_1 : decode cX6_allSeeds 1 = .ok (.istore_n 1, 1) := by decide +kernel
theorem dX6_allSeeds_2 : decode cX6_allSeeds 2 = .ok (.iconst 0, 1) := by decide +kernel
theorem dX6_allSeeds_3 : decode cX6_allSeeds 3 = .ok (.istore_n 2, 1) := by decide +kernel
theorem dX6_allSeeds_4 : decode cX6_allSeeds 4 = .ok (.iload_n 2, 1) := by decide +kernel
theorem dX6_allSeeds_5 : decode cX6_allSeeds 5 = .ok (.bipush 6, 2) := by decide +kernel
theorem dX6_allSeeds_7 : decode cX6_allSeeds 7 = .ok (.if_icmp .ge 30, 3) := by decide +kernel
theorem dX6_allSeeds_10 : decode cX6_allSeeds 10 = .ok (.iload_n 1, 1) := by decide +kernel
theorem dX6_allSeeds_11 : decode cX6_allSeeds 11 = .ok (.aload_n 0, 1) := by decide +kernel
theorem dX6_allSeeds_12 : decode cX6_allSeeds 12 = .ok (.iload_n 2, 1) := by decide +kernel
theorem dX6_allSeeds_13 : decode cX6_allSeeds 13 = .ok (.invokevirtual 58, 3) := by decide +kernel
theorem dX6_allSeeds_16 : decode cX6_allSeeds 16 = .ok (.ifCond .eq 12, 3) := by decide +kernel
theorem dX6_allSeeds_19 : decode cX6_allSeeds 19 = .ok (.aload_n 0, 1) := by decide +kernel
theorem dX6_allSeeds_20 : decode cX6_allSeeds 20 = .ok (.getfield 15, 3) := by decide +kernel
theorem dX6_allSeeds_23 : decode cX6_allSeeds 23 = .ok (.iload_n 2, 1) := by decide +kernel
theorem dX6_allSeeds_24 : decode cX6_allSeeds 24 = .ok (.iaload, 1) := by decide +kernel
theorem dX6_allSeeds_25 : decode cX6_allSeeds 25 = .ok (.goto 4, 3) := by decide +kernel
theorem dX6_allSeeds_28 : decode cX6_allSeeds 28 = .ok (.iconst 0, 1) := by decide +kernel
theorem dX6_allSeeds_29 : decode cX6_allSeeds 29 = .ok (.iadd, 1) := by decide +kernel
theorem dX6_allSeeds_30 : decode cX6_allSeeds 30 = .ok (.istore_n 1, 1) := by decide +kernel
theorem dX6_allSeeds_31 : decode cX6_allSeeds 31 = .ok (.iinc 2 1, 3) := by decide +kernel
theorem dX6_allSeeds_34 : decode cX6_allSeeds 34 = .ok (.goto (-30), 3) := by decide +kernel
theorem dX6_allSeeds_37 : decode cX6_allSeeds 37 = .ok (.iload_n 1, 1) := by decide +kernel
theorem dX6_allSeeds_38 : decode cX6_allSeeds 38 = .ok (.ireturn, 1) := by decide +kernel
theorem dX6_allLying_0 : decode cX6_allLying 0 = .ok (.aload_n 0, 1) := by decide +kernel
theorem dX6_allLying_1 : decode cX6_allLying 1 = .ok (.getfield 24, 3) := by decide +kernel
theorem dX6_allLying_4 : decode cX6_allLying 4 = .ok (.invokestatic 89, 3) := by decide +kernel
theorem dX6_allLying_7 : decode cX6_allLying 7 = .ok (.ireturn, 1) := by decide +kernel
theorem dX6_owners_0 : decode cX6_owners 0 = .ok (.iconst 0, 1) := by decide +kernel
theorem dX6_owners_1 : decode cX6_owners 1 = .ok (.istore_n 1, 1) := by decide +kernel
theorem dX6_owners_2 : decode cX6_owners 2 = .ok (.iconst 0, 1) := by decide +kernel
theorem dX6_owners_3 : decode cX6_owners 3 = .ok (.istore_n 2, 1) := by decide +kernel
theorem dX6_owners_4 : decode cX6_owners 4 = .ok (.iload_n 2, 1) := by decide +kernel
theorem dX6_owners_5 : decode cX6_owners 5 = .ok (.bipush 6, 2) := by decide +kernel
theorem dX6_owners_7 : decode cX6_owners 7 = .ok (.if_icmp .ge 32, 3) := by decide +kernel
theorem dX6_owners_10 : decode cX6_owners 10 = .ok (.aload_n 0, 1) := by decide +kernel
theorem dX6_owners_11 : decode cX6_owners 11 = .ok (.iload_n 2, 1) := by decide +kernel
theorem dX6_owners_12 : decode cX6_owners 12 = .ok (.invokevirtual 58, 3) := by decide +kernel
theorem dX6_owners_15 : decode cX6_owners 15 = .ok (.ifCond .eq 18, 3) := by decide +kernel
theorem dX6_owners_18 : decode cX6_owners 18 = .ok (.aload_n 0, 1) := by decide +kernel
theorem dX6_owners_19 : decode cX6_owners 19 = .ok (.getfield 15, 3) := by decide +kernel
theorem dX6_owners_22 : decode cX6_owners 22 = .ok (.iload_n 2, 1) := by decide +kernel
theorem dX6_owners_23 : decode cX6_owners 23 = .ok (.iaload, 1) := by decide +kernel
theorem dX6_owners_24 : decode cX6_owners 24 = .ok (.ifCond .le 9, 3) := by decide +kernel
theorem dX6_owners_27 : decode cX6_owners 27 = .ok (.iload_n 1, 1) := by decide +kernel
theorem dX6_owners_28 : decode cX6_owners 28 = .ok (.iconst 1, 1) := by decide +kernel
theorem dX6_owners_29 : decode cX6_owners 29 = .ok (.iload_n 2, 1) := by decide +kernel
theorem dX6_owners_30 : decode cX6_owners 30 = .ok (.ishl, 1) := by decide +kernel
theorem dX6_owners_31 : decode cX6_owners 31 = .ok (.ior, 1) := by decide +kernel
theorem dX6_owners_32 : decode cX6_owners 32 = .ok (.istore_n 1, 1) := by decide +kernel
theorem dX6_owners_33 : decode cX6_owners 33 = .ok (.iinc 2 1, 3) := by decide +kernel
theorem dX6_owners_36 : decode cX6_owners 36 = .ok (.goto (-32), 3) := by decide +kernel
theorem dX6_owners_39 : decode cX6_owners 39 = .ok (.iload_n 1, 1) := by decide +kernel
theorem dX6_owners_40 : decode cX6_owners 40 = .ok (.ireturn, 1) := by decide +kernel
theorem dX7_init_0 : decode cX7_init 0 = .ok (.aload_n 0, 1) := by decide +kernel
theorem dX7_init_1 : decode cX7_init 1 = .ok (.invokespecial 3, 3) := by decide +kernel
theorem dX7_init_4 : decode cX7_init 4 = .ok (.aload_n 0, 1) := by decide +kernel
theorem dX7_init_5 : decode cX7_init 5 = .ok (.bipush 60, 2) := by decide +kernel
theorem dX7_init_7 : decode cX7_init 7 = .ok (.newarray .int, 2) := by decide +kernel
theorem dX7_init_9 : decode cX7_init 9 = .ok (.putfield 9, 3) := by decide +kernel
theorem dX7_init_12 : decode cX7_init 12 = .ok (.aload_n 0, 1) := by decide +kernel
theorem dX7_init_13 : decode cX7_init 13 = .ok (.bipush 60, 2) := by decide +kernel
theorem dX7_init_15 : decode cX7_init 15 = .ok (.newarray .int, 2) := by decide +kernel
theorem dX7_init_17 : decode cX7_init 17 = .ok (.putfield 15, 3) := by decide +kernel
theorem dX7_init_20 : decode cX7_init 20 = .ok (.aload_n 0, 1) := by decide +kernel
theorem dX7_init_21 : decode cX7_init 21 = .ok (.bipush 60, 2) := by decide +kernel
theorem dX7_init_23 : decode cX7_init 23 = .ok (.newarray .int, 2) := by decide +kernel
theorem dX7_init_25 : decode cX7_init 25 = .ok (.putfield 18, 3) := by decide +kernel
theorem dX7_init_28 : decode cX7_init 28 = .ok (.aload_n 0, 1) := by decide +kernel
theorem dX7_init_29 : decode cX7_init 29 = .ok (.iconst 0, 1) := by decide +kernel
theorem dX7_init_30 : decode cX7_init 30 = .ok (.putfield 21, 3) := by decide +kernel
theorem dX7_init_33 : decode cX7_init 33 = .ok (.aload_n 0, 1) := by decide +kernel
theorem dX7_init_34 : decode cX7_init 34 = .ok (.iconst 0, 1) := by decide +kernel
theorem dX7_init_35 : decode cX7_init 35 = .ok (.putfield 25, 3) := by decide +kernel
theorem dX7_init_38 : decode cX7_init 38 = .ok (.aload_n 0, 1) := by decide +kernel
theorem dX7_init_39 : decode cX7_init 39 = .ok (.iconst 0, 1) := by decide +kernel
theorem dX7_init_40 : decode cX7_init 40 = .ok (.putfield 28, 3) := by decide +kernel
theorem dX7_init_43 : decode cX7_init 43 = .ok (.aload_n 0, 1) := by decide +kernel
theorem dX7_init_44 : decode cX7_init 44 = .ok (.iconst 0, 1) := by decide +kernel
theorem dX7_init_45 : decode cX7_init 45 = .ok (.putfield 31, 3) := by decide +kernel
theorem dX7_init_48 : decode cX7_init 48 = .ok (.aload_n 0, 1) := by decide +kernel
theorem dX7_init_49 : decode cX7_init 49 = .ok (.iconst 0, 1) := by decide +kernel
theorem dX7_init_50 : decode cX7_init 50 = .ok (.putfield 34, 3) := by decide +kernel
theorem dX7_init_53 : decode cX7_init 53 = .ok (.return_, 1) := by decide +kernel
theorem dX7_clear_0 : decode cX7_clear 0 = .ok (.aload_n 0, 1) := by decide +kernel
theorem dX7_clear_1 : decode cX7_clear 1 = .ok (.iconst 0, 1) := by decide +kernel
theorem dX7_clear_2 : decode cX7_clear 2 = .ok (.putfield 21, 3) := by decide +kernel
theorem dX7_clear_5 : decode cX7_clear 5 = .ok (.aload_n 0, 1) := by decide +kernel
theorem dX7_clear_6 : decode cX7_clear 6 = .ok (.iconst 0, 1) := by decide +kernel
theorem dX7_clear_7 : decode cX7_clear 7 = .ok (.putfield 25, 3) := by decide +kernel
theorem dX7_clear_10 : decode cX7_clear 10 = .ok (.aload_n 0, 1) := by decide +kernel
theorem dX7_clear_11 : decode cX7_clear 11 = .ok (.iconst 0, 1) := by decide +kernel
theorem dX7_clear_12 : decode cX7_clear 12 = .ok (.putfield 28, 3) := by decide +kernel
theorem dX7_clear_15 : decode cX7_clear 15 = .ok (.return_, 1) := by decide +kernel
theorem dX7_faultPlace_0 : decode cX7_faultPlace 0 = .ok (.aload_n 0, 1) := by decide +kernel
theorem dX7_faultPlace_1 : decode cX7_faultPlace 1 = .ok (.getfield 28, 3) := by decide +kernel
theorem dX7_faultPlace_4 : decode cX7_faultPlace 4 = .ok (.iconst 4, 1) := by decide +kernel
theorem dX7_faultPlace_5 : decode cX7_faultPlace 5 = .ok (.if_icmp .ne 8, 3) := by decide +kernel
theorem dX7_faultPlace_8 : decode cX7_faultPlace 8 = .ok (.aload_n 0, 1) := by decide +kernel
theorem dX7_faultPlace_9 : decode cX7_faultPlace 9 = .ok (.getfield 34, 3) := by decide +kernel
theorem dX7_faultPlace_12 : decode cX7_faultPlace 12 = .ok (.ireturn, 1) := by decide +kernel
theorem dX7_faultPlace_13 : decode cX7_faultPlace 13 = .ok (.aload_n 0, 1) := by decide +kernel
theorem dX7_faultPlace_14 : decode cX7_faultPlace 14 = .ok (.getfield 28, 3) := by decide +kernel
theorem dX7_faultPlace_17 : decode cX7_faultPlace 17 = .ok (.ifCond .ne 8, 3) := by decide +kernel
theorem dX7_faultPlace_20 : decode cX7_faultPlace 20 = .ok (.bipush (-6), 2) := by decide +kernel
theorem dX7_faultPlace_22 : decode cX7_faultPlace 22 = .ok (.goto 7, 3) := by decide +kernel
theorem dX7_faultPlace_25 : decode cX7_faultPlace 25 = .ok (.aload_n 0, 1) := by decide +kernel
theorem dX7_faultPlace_26 : decode cX7_faultPlace 26 = .ok (.getfield 21, 3) := by decide +kernel
theorem dX7_faultPlace_29 : decode cX7_faultPlace 29 = .ok (.ireturn, 1) := by decide +kernel
theorem dX7_write_0 : decode cX7_write 0 = .ok (.aload_n 0, 1) := by decide +kernel
theorem dX7_write_1 : decode cX7_write 1 = .ok (.getfield 28, 3) := by decide +kernel
theorem dX7_write_4 : decode cX7_write 4 = .ok (.iconst 4, 1) := by decide +kernel
theorem dX7_write_5 : decode cX7_write 5 = .ok (.if_icmp .eq 20, 3) := by decide +kernel
theorem dX7_write_8 : decode cX7_write 8 = .ok (.aload_n 0, 1) := by decide +kernel
theorem dX7_write_9 : decode cX7_write 9 = .ok (.aload_n 0, 1) := by decide +kernel
theorem dX7_write_10 : decode cX7_write 10 = .ok (.iload_n 1, 1) := by decide +kernel
theorem dX7_write_11 : decode cX7_write 11 = .ok (.invokevirtual 37, 3) := by decide +kernel
theorem dX7_write_14 : decode cX7_write 14 = .ok (.putfield 28, 3) := by decide +kernel
theorem dX7_write_17 : decode cX7_write 17 = .ok (.aload_n 0, 1) := by decide +kernel
theorem dX7_write_18 : decode cX7_write 18 = .ok (.aload_n 0, 1) := by decide +kernel
theorem dX7_write_19 : decode cX7_write 19 = .ok (.getfield 21, 3) := by decide +kernel
theorem dX7_write_22 : decode cX7_write 22 = .ok (.putfield 34, 3) := by decide +kernel
theorem dX7_write_25 : decode cX7_write 25 = .ok (.aload_n 0, 1) := by decide +kernel
theorem dX7_write_26 : decode cX7_write 26 = .ok (.dup, 1) := by decide +kernel
theorem dX7_write_27 : decode cX7_write 27 = .ok (.getfield 21, 3) := by decide +kernel
theorem dX7_write_30 : decode cX7_write 30 = .ok (.iconst 1, 1) := by decide +kernel
theorem dX7_write_31 : decode cX7_write 31 = .ok (.iadd, 1) := by decide +kernel
theorem dX7_write_32 : decode cX7_write 32 = .ok (.putfield 21, 3) := by decide +kernel
theorem dX7_write_35 : decode cX7_write 35 = .ok (.return_, 1) := by decide +kernel
theorem dX7_readSign_0 : decode cX7_readSign 0 = .ok (.aload_n 0, 1) := by decide +kernel
theorem dX7_readSign_1 : decode cX7_readSign 1 = .ok (.getfield 28, 3) := by decide +kernel
theorem dX7_readSign_4 : decode cX7_readSign 4 = .ok (.tableswitch 90 1 3 #[28, 34, 60], 28) := by decide +kernel
theorem dX7_readSign_32 : decode cX7_readSign 32 = .ok (.aload_n 0, 1) := by decide +kernel
theorem dX7_readSign_33 : decode cX7_readSign 33 = .ok (.iload_n 1, 1) := by decide +kernel
theorem dX7_readSign_34 : decode cX7_readSign 34 = .ok (.invokevirtual 41, 3) := by decide +kernel
theorem dX7_readSign_37 : decode cX7_readSign 37 = .ok (.ireturn, 1) := by decide +kernel
theorem dX7_readSign_38 : decode cX7_readSign 38 = .ok (.aload_n 0, 1) := by decide +kernel
theorem dX7_readSign_39 : decode cX7_readSign 39 = .ok (.iload_n 1, 1) := by decide +kernel
theorem dX7_readSign_40 : decode cX7_readSign 40 = .ok (.bipush 48, 2) := by decide +kernel
theorem dX7_readSign_42 : decode cX7_readSign 42 = .ok (.isub, 1) := by decide +kernel
theorem dX7_readSign_43 : decode cX7_readSign 43 = .ok (.putfield 31, 3) := by decide +kernel
theorem dX7_readSign_46 : decode cX7_readSign 46 = .ok (.aload_n 0, 1) := by decide +kernel
theorem dX7_readSign_47 : decode cX7_readSign 47 = .ok (.getfield 31, 3) := by decide +kernel
theorem dX7_readSign_50 : decode cX7_readSign 50 = .ok (.iconst 0, 1) := by decide +kernel
theorem dX7_readSign_51 : decode cX7_readSign 51 = .ok (.iconst 3, 1) := by decide +kernel
theorem dX7_readSign_52 : decode cX7_readSign 52 = .ok (.invokestatic 44, 3) := by decide +kernel
theorem dX7_readSign_55 : decode cX7_readSign 55 = .ok (.ifCond .eq 7, 3) := by decide +kernel
theorem dX7_readSign_58 : decode cX7_readSign 58 = .ok (.iconst 3, 1) := by decide +kernel
theorem dX7_readSign_59 : decode cX7_readSign 59 = .ok (.goto 4, 3) := by decide +kernel
theorem dX7_readSign_62 : decode cX7_readSign 62 = .ok (.iconst 4, 1) := by decide +kernel
theorem dX7_readSign_63 : decode cX7_readSign 63 = .ok (.ireturn, 1) := by decide +kernel
theorem dX7_readSign_64 : decode cX7_readSign 64 = .ok (.iload_n 1, 1) := by decide +kernel
theorem dX7_readSign_65 : decode cX7_readSign 65 = .ok (.bipush 48, 2) := by decide +kernel
theorem dX7_readSign_67 : decode cX7_readSign 67 = .ok (.isub, 1) := by decide +kernel
theorem dX7_readSign_68 : decode cX7_readSign 68 = .ok (.iconst 0, 1) := by decide +kernel
theorem dX7_readSign_69 : decode cX7_readSign 69 = .ok (.iconst 5, 1) := by decide +kernel
theorem dX7_readSign_70 : decode cX7_readSign 70 = .ok (.invokestatic 44, 3) := by decide +kernel
theorem dX7_readSign_73 : decode cX7_readSign 73 = .ok (.ifCond .eq 19, 3) := by decide +kernel
theorem dX7_readSign_76 : decode cX7_readSign 76 = .ok (.aload_n 0, 1) := by decide +kernel
theorem dX7_readSign_77 : decode cX7_readSign 77 = .ok (.iconst 3, 1) := by decide +kernel
theorem dX7_readSign_78 : decode cX7_readSign 78 = .ok (.aload_n 0, 1) := by decide +kernel
theorem dX7_readSign_79 : decode cX7_readSign 79 = .ok (.getfield 31, 3) := by decide +kernel
theorem dX7_readSign_82 : decode cX7_readSign 82 = .ok (.iload_n 1, 1) := by decide +kernel
theorem dX7_readSign_83 : decode cX7_readSign 83 = .ok (.bipush 48, 2) := by decide +kernel
theorem dX7_readSign_85 : decode cX7_readSign 85 = .ok (.isub, 1) := by decide +kernel
theorem dX7_readSign_86 : decode cX7_readSign 86 = .ok (.invokevirtual 50, 3) := by decide +kernel
theorem dX7_readSign_89 : decode cX7_readSign 89 = .ok (.goto 4, 3) := by decide +kernel
theorem dX7_readSign_92 : decode cX7_readSign 92 = .ok (.iconst 4, 1) := by decide +kernel
theorem dX7_readSign_93 : decode cX7_readSign 93 = .ok (.ireturn, 1) := by decide +kernel
theorem dX7_readSign_94 : decode cX7_readSign 94 = .ok (.aload_n 0, 1) := by decide +kernel
theorem dX7_readSign_95 : decode cX7_readSign 95 = .ok (.iload_n 1, 1) := by decide +kernel
theorem dX7_readSign_96 : decode cX7_readSign 96 = .ok (.invokevirtual 54, 3) := by decide +kernel
theorem dX7_readSign_99 : decode cX7_readSign 99 = .ok (.ireturn, 1) := by decide +kernel
theorem dX7_readBeginning_0 : decode cX7_readBeginning 0 = .ok (.iload_n 1, 1) := by decide +kernel
theorem dX7_readBeginning_1 : decode cX7_readBeginning 1 = .ok (.bipush 65, 2) := by decide +kernel
theorem dX7_readBeginning_3 : decode cX7_readBeginning 3 = .ok (.isub, 1) := by decide +kernel
theorem dX7_readBeginning_4 : decode cX7_readBeginning 4 = .ok (.iconst 0, 1) := by decide +kernel
theorem dX7_readBeginning_5 : decode cX7_readBeginning 5 = .ok (.iconst 5, 1) := by decide +kernel
theorem dX7_readBeginning_6 : decode cX7_readBeginning 6 = .ok (.invokestatic 44, 3) := by decide +kernel
theorem dX7_readBeginning_9 : decode cX7_readBeginning 9 = .ok (.ifCond .eq 13, 3) := by decide +kernel
theorem dX7_readBeginning_12 : decode cX7_readBeginning 12 = .ok (.aload_n 0, 1) := by decide +kernel
theorem dX7_readBeginning_13 : decode cX7_readBeginning 13 = .ok (.iload_n 1, 1) := by decide +kernel
theorem dX7_readBeginning_14 : decode cX7_readBeginning 14 = .ok (.bipush 65, 2) := by decide +kernel
theorem dX7_readBeginning_16 : decode cX7_readBeginning 16 = .ok (.isub, 1) := by decide +kernel
theorem dX7_readBeginning_17 : decode cX7_readBeginning 17 = .ok (.putfield 31, 3) := by decide +kernel
theorem dX7_readBeginning_20 : decode cX7_readBeginning 20 = .ok (.iconst 1, 1) := by decide +kernel
theorem dX7_readBeginning_21 : decode cX7_readBeginning 21 = .ok (.ireturn, 1) := by decide +kernel
theorem dX7_readBeginning_22 : decode cX7_readBeginning 22 = .ok (.iload_n 1, 1) := by decide +kernel
theorem dX7_readBeginning_23 : decode cX7_readBeginning 23 = .ok (.lookupswitch 68 #[(46, 59), (114, 43), (115, 51), (119, 41)], 41) := by decide +kernel
theorem dX7_readBeginning_64 : decode cX7_readBeginning 64 = .ok (.iconst 2, 1) := by decide +kernel
theorem dX7_readBeginning_65 : decode cX7_readBeginning 65 = .ok (.ireturn, 1) := by decide +kernel
theorem dX7_readBeginning_66 : decode cX7_readBeginning 66 = .ok (.aload_n 0, 1) := by decide +kernel
theorem dX7_readBeginning_67 : decode cX7_readBeginning 67 = .ok (.iconst 4, 1) := by decide +kernel
theorem dX7_readBeginning_68 : decode cX7_readBeginning 68 = .ok (.iconst 0, 1) := by decide +kernel
theorem dX7_readBeginning_69 : decode cX7_readBeginning 69 = .ok (.iconst 0, 1) := by decide +kernel
theorem dX7_readBeginning_70 : decode cX7_readBeginning 70 = .ok (.invokevirtual 50, 3) := by decide +kernel
theorem dX7_readBeginning_73 : decode cX7_readBeginning 73 = .ok (.ireturn, 1) := by decide +kernel
theorem dX7_readBeginning_74 : decode cX7_readBeginning 74 = .ok (.aload_n 0, 1) := by decide +kernel
theorem dX7_readBeginning_75 : decode cX7_readBeginning 75 = .ok (.iconst 5, 1) := by decide +kernel
theorem dX7_readBeginning_76 : decode cX7_readBeginning 76 = .ok (.iconst 0, 1) := by decide +kernel
theorem dX7_readBeginning_77 : decode cX7_readBeginning 77 = .ok (.iconst 0, 1) := by decide +kernel
theorem dX7_readBeginning_78 : decode cX7_readBeginning 78 = .ok (.invokevirtual 50, 3) := by decide +kernel
theorem dX7_readBeginning_81 : decode cX7_readBeginning 81 = .ok (.ireturn, 1) := by decide +kernel
theorem dX7_readBeginning_82 : decode cX7_readBeginning 82 = .ok (.aload_n 0, 1) := by decide +kernel
theorem dX7_readBeginning_83 : decode cX7_readBeginning 83 = .ok (.bipush 6, 2) := by decide +kernel
theorem dX7_readBeginning_85 : decode cX7_readBeginning 85 = .ok (.iconst 0, 1) := by decide +kernel
theorem dX7_readBeginning_86 : decode cX7_readBeginning 86 = .ok (.iconst 0, 1) := by decide +kernel
theorem dX7_readBeginning_87 : decode cX7_readBeginning 87 = .ok (.invokevirtual 50, 3) := by decide +kernel
theorem dX7_readBeginning_90 : decode cX7_readBeginning 90 = .ok (.ireturn, 1) := by decide +kernel
theorem dX7_readBeginning_91 : decode cX7_readBeginning 91 = .ok (.iconst 4, 1) := by decide +kernel
theorem dX7_readBeginning_92 : decode cX7_readBeginning 92 = .ok (.ireturn, 1) := by decide +kernel
theorem dX7_readDeed_0 : decode cX7_readDeed 0 = .ok (.iload_n 1, 1) := by decide +kernel
theorem dX7_readDeed_1 : decode cX7_readDeed 1 = .ok (.bipush 48, 2) := by decide +kernel
theorem dX7_readDeed_3 : decode cX7_readDeed 3 = .ok (.isub, 1) := by decide +kernel
theorem dX7_readDeed_4 : decode cX7_readDeed 4 = .ok (.iconst 1, 1) := by decide +kernel
theorem dX7_readDeed_5 : decode cX7_readDeed 5 = .ok (.bipush 9, 2) := by decide +kernel
theorem dX7_readDeed_7 : decode cX7_readDeed 7 = .ok (.invokestatic 44, 3) := by decide +kernel
theorem dX7_readDeed_10 : decode cX7_readDeed 10 = .ok (.ifCond .eq 17, 3) := by decide +kernel
theorem dX7_readDeed_13 : decode cX7_readDeed 13 = .ok (.aload_n 0, 1) := by decide +kernel
theorem dX7_readDeed_14 : decode cX7_readDeed 14 = .ok (.iconst 0, 1) := by decide +kernel
theorem dX7_readDeed_15 : decode cX7_readDeed 15 = .ok (.aload_n 0, 1) := by decide +kernel
theorem dX7_readDeed_16 : decode cX7_readDeed 16 = .ok (.getfield 31, 3) := by decide +kernel
theorem dX7_readDeed_19 : decode cX7_readDeed 19 = .ok (.iload_n 1, 1) := by decide +kernel
theorem dX7_readDeed_20 : decode cX7_readDeed 20 = .ok (.bipush 48, 2) := by decide +kernel
theorem dX7_readDeed_22 : decode cX7_readDeed 22 = .ok (.isub, 1) := by decide +kernel
theorem dX7_readDeed_23 : decode cX7_readDeed 23 = .ok (.invokevirtual 50, 3) := by decide +kernel
theorem dX7_readDeed_26 : decode cX7_readDeed 26 = .ok (.ireturn, 1) := by decide +kernel
theorem dX7_readDeed_27 : decode cX7_readDeed 27 = .ok (.iload_n 1, 1) := by decide +kernel
theorem dX7_readDeed_28 : decode cX7_readDeed 28 = .ok (.lookupswitch 50 #[(99, 28), (109, 39)], 28) := by decide +kernel
theorem dX7_readDeed_56 : decode cX7_readDeed 56 = .ok (.aload_n 0, 1) := by decide +kernel
theorem dX7_readDeed_57 : decode cX7_readDeed 57 = .ok (.iconst 1, 1) := by decide +kernel
theorem dX7_readDeed_58 : decode cX7_readDeed 58 = .ok (.aload_n 0, 1) := by decide +kernel
theorem dX7_readDeed_59 : decode cX7_readDeed 59 = .ok (.getfield 31, 3) := by decide +kernel
theorem dX7_readDeed_62 : decode cX7_readDeed 62 = .ok (.iconst 0, 1) := by decide +kernel
theorem dX7_readDeed_63 : decode cX7_readDeed 63 = .ok (.invokevirtual 50, 3) := by decide +kernel
theorem dX7_readDeed_66 : decode cX7_readDeed 66 = .ok (.ireturn, 1) := by decide +kernel
theorem dX7_readDeed_67 : decode cX7_readDeed 67 = .ok (.aload_n 0, 1) := by decide +kernel
theorem dX7_readDeed_68 : decode cX7_readDeed 68 = .ok (.iconst 2, 1) := by decide +kernel
theorem dX7_readDeed_69 : decode cX7_readDeed 69 = .ok (.aload_n 0, 1) := by decide +kernel
theorem dX7_readDeed_70 : decode cX7_readDeed 70 = .ok (.getfield 31, 3) := by decide +kernel
theorem dX7_readDeed_73 : decode cX7_readDeed 73 = .ok (.iconst 0, 1) := by decide +kernel
theorem dX7_readDeed_74 : decode cX7_readDeed 74 = .ok (.invokevirtual 50, 3) := by decide +kernel
theorem dX7_readDeed_77 : decode cX7_readDeed 77 = .ok (.ireturn, 1) := by decide +kernel
theorem dX7_readDeed_78 : decode cX7_readDeed 78 = .ok (.iconst 4, 1) := by decide +kernel
theorem dX7_readDeed_79 : decode cX7_readDeed 79 = .ok (.ireturn, 1) := by decide +kernel
theorem dX7_endAct_0 : decode cX7_endAct 0 = .ok (.aload_n 0, 1) := by decide +kernel
theorem dX7_endAct_1 : decode cX7_endAct 1 = .ok (.getfield 25, 3) := by decide +kernel
theorem dX7_endAct_4 : decode cX7_endAct 4 = .ok (.ifCond .lt 12, 3) := by decide +kernel
theorem dX7_endAct_7 : decode cX7_endAct 7 = .ok (.aload_n 0, 1) := by decide +kernel
theorem dX7_endAct_8 : decode cX7_endAct 8 = .ok (.getfield 25, 3) := by decide +kernel
theorem dX7_endAct_11 : decode cX7_endAct 11 = .ok (.bipush 60, 2) := by decide +kernel
theorem dX7_endAct_13 : decode cX7_endAct 13 = .ok (.if_icmp .lt 5, 3) := by decide +kernel
theorem dX7_endAct_16 : decode cX7_endAct 16 = .ok (.iconst 4, 1) := by decide +kernel
theorem dX7_endAct_17 : decode cX7_endAct 17 = .ok (.ireturn, 1) := by decide +kernel
theorem dX7_endAct_18 : decode cX7_endAct 18 = .ok (.aload_n 0, 1) := by decide +kernel
theorem dX7_endAct_19 : decode cX7_endAct 19 = .ok (.getfield 9, 3) := by decide +kernel
theorem dX7_endAct_22 : decode cX7_endAct 22 = .ok (.aload_n 0, 1) := by decide +kernel
theorem dX7_endAct_23 : decode cX7_endAct 23 = .ok (.getfield 25, 3) := by decide +kernel
theorem dX7_endAct_26 : decode cX7_endAct 26 = .ok (.iload_n 1, 1) := by decide +kernel
theorem dX7_endAct_27 : decode cX7_endAct 27 = .ok (.iastore, 1) := by decide +kernel
theorem dX7_endAct_28 : decode cX7_endAct 28 = .ok (.aload_n 0, 1) := by decide +kernel
theorem dX7_endAct_29 : decode cX7_endAct 29 = .ok (.getfield 15, 3) := by decide +kernel
theorem dX7_endAct_32 : decode cX7_endAct 32 = .ok (.aload_n 0, 1) := by decide +kernel
theorem dX7_endAct_33 : decode cX7_endAct 33 = .ok (.getfield 25, 3) := by decide +kernel
theorem dX7_endAct_36 : decode cX7_endAct 36 = .ok (.iload_n 2, 1) := by decide +kernel
theorem dX7_endAct_37 : decode cX7_endAct 37 = .ok (.iastore, 1) := by decide +kernel
theorem dX7_endAct_38 : decode cX7_endAct 38 = .ok (.aload_n 0, 1) := by decide +kernel
theorem dX7_endAct_39 : decode cX7_endAct 39 = .ok (.getfield 18, 3) := by decide +kernel
theorem dX7_endAct_42 : decode cX7_endAct 42 = .ok (.aload_n 0, 1) := by decide +kernel
theorem dX7_endAct_43 : decode cX7_endAct 43 = .ok (.getfield 25, 3) := by decide +kernel
theorem dX7_endAct_46 : decode cX7_endAct 46 = .ok (.iload_n 3, 1) := by decide +kernel
theorem dX7_endAct_47 : decode cX7_endAct 47 = .ok (.iastore, 1) := by decide +kernel
theorem dX7_endAct_48 : decode cX7_endAct 48 = .ok (.aload_n 0, 1) := by decide +kernel
theorem dX7_endAct_49 : decode cX7_endAct 49 = .ok (.dup, 1) := by decide +kernel
theorem dX7_endAct_50 : decode cX7_endAct 50 = .ok (.getfield 25, 3) := by decide +kernel
theorem dX7_endAct_53 : decode cX7_endAct 53 = .ok (.iconst 1, 1) := by decide +kernel
theorem dX7_endAct_54 : decode cX7_endAct 54 = .ok (.iadd, 1) := by decide +kernel
theorem dX7_endAct_55 : decode cX7_endAct 55 = .ok (.putfield 25, 3) := by decide +kernel
theorem dX7_endAct_58 : decode cX7_endAct 58 = .ok (.iconst 0, 1) := by decide +kernel
theorem dX7_endAct_59 : decode cX7_endAct 59 = .ok (.ireturn, 1) := by decide +kernel
theorem dX8_windBetween_0 : decode cX8_windBetween 0 = .ok (.aload_n 0, 1) := by decide +kernel
theorem dX8_windBetween_1 : decode cX8_windBetween 1 = .ok (.getfield 9, 3) := by decide +kernel
theorem dX8_windBetween_4 : decode cX8_windBetween 4 = .ok (.iload_n 1, 1) := by decide +kernel
theorem dX8_windBetween_5 : decode cX8_windBetween 5 = .ok (.invokestatic 15, 3) := by decide +kernel
theorem dX8_windBetween_8 : decode cX8_windBetween 8 = .ok (.istore_n 3, 1) := by decide +kernel
theorem dX8_windBetween_9 : decode cX8_windBetween 9 = .ok (.aload_n 0, 1) := by decide +kernel
theorem dX8_windBetween_10 : decode cX8_windBetween 10 = .ok (.getfield 9, 3) := by decide +kernel
theorem dX8_windBetween_13 : decode cX8_windBetween 13 = .ok (.iload_n 2, 1) := by decide +kernel
theorem dX8_windBetween_14 : decode cX8_windBetween 14 = .ok (.invokestatic 15, 3) := by decide +kernel
theorem dX8_windBetween_17 : decode cX8_windBetween 17 = .ok (.istore 4, 2) := by decide +kernel
theorem dX8_windBetween_19 : decode cX8_windBetween 19 = .ok (.iconst 0, 1) := by decide +kernel
theorem dX8_windBetween_20 : decode cX8_windBetween 20 = .ok (.istore 5, 2) := by decide +kernel
theorem dX8_windBetween_22 : decode cX8_windBetween 22 = .ok (.iload 5, 2) := by decide +kernel
theorem dX8_windBetween_24 : decode cX8_windBetween 24 = .ok (.iconst 4, 1) := by decide +kernel
theorem dX8_windBetween_25 : decode cX8_windBetween 25 = .ok (.if_icmp .ge 46, 3) := by decide +kernel
theorem dX8_windBetween_28 : decode cX8_windBetween 28 = .ok (.iconst 1, 1) := by decide +kernel
theorem dX8_windBetween_29 : decode cX8_windBetween 29 = .ok (.istore 6, 2) := by decide +kernel
theorem dX8_windBetween_31 : decode cX8_windBetween 31 = .ok (.iload 6, 2) := by decide +kernel
theorem dX8_windBetween_33 : decode cX8_windBetween 33 = .ok (.iconst 5, 1) := by decide +kernel
theorem dX8_windBetween_34 : decode cX8_windBetween 34 = .ok (.if_icmp .gt 31, 3) := by decide +kernel
theorem dX8_windBetween_37 : decode cX8_windBetween 37 = .ok (.iload_n 3, 1) := by decide +kernel
theorem dX8_windBetween_38 : decode cX8_windBetween 38 = .ok (.iload 5, 2) := by decide +kernel
theorem dX8_windBetween_40 : decode cX8_windBetween 40 = .ok (.iload 6, 2) := by decide +kernel
theorem dX8_windBetween_42 : decode cX8_windBetween 42 = .ok (.invokestatic 19, 3) := by decide +kernel
theorem dX8_windBetween_45 : decode cX8_windBetween 45 = .ok (.iload 4, 2) := by decide +kernel
theorem dX8_windBetween_47 : decode cX8_windBetween 47 = .ok (.if_icmp .ne 12, 3) := by decide +kernel
theorem dX8_windBetween_50 : decode cX8_windBetween 50 = .ok (.bipush 10, 2) := by decide +kernel
theorem dX8_windBetween_52 : decode cX8_windBetween 52 = .ok (.iload 5, 2) := by decide +kernel
theorem dX8_windBetween_54 : decode cX8_windBetween 54 = .ok (.imul, 1) := by decide +kernel
theorem dX8_windBetween_55 : decode cX8_windBetween 55 = .ok (.iload 6, 2) := by decide +kernel
theorem dX8_windBetween_57 : decode cX8_windBetween 57 = .ok (.iadd, 1) := by decide +kernel
theorem dX8_windBetween_58 : decode cX8_windBetween 58 = .ok (.ireturn, 1) := by decide +kernel
theorem dX8_windBetween_59 : decode cX8_windBetween 59 = .ok (.iinc 6 1, 3) := by decide +kernel
theorem dX8_windBetween_62 : decode cX8_windBetween 62 = .ok (.goto (-31), 3) := by decide +kernel
theorem dX8_windBetween_65 : decode cX8_windBetween 65 = .ok (.iinc 5 1, 3) := by decide +kernel
theorem dX8_windBetween_68 : decode cX8_windBetween 68 = .ok (.goto (-46), 3) := by decide +kernel
theorem dX8_windBetween_71 : decode cX8_windBetween 71 = .ok (.bipush (-6), 2) := by decide +kernel
theorem dX8_windBetween_73 : decode cX8_windBetween 73 = .ok (.ireturn, 1) := by decide +kernel
theorem dX8_isOnePuff_0 : decode cX8_isOnePuff 0 = .ok (.aload_n 0, 1) := by decide +kernel
theorem dX8_isOnePuff_1 : decode cX8_isOnePuff 1 = .ok (.iload_n 1, 1) := by decide +kernel
theorem dX8_isOnePuff_2 : decode cX8_isOnePuff 2 = .ok (.invokevirtual 23, 3) := by decide +kernel
theorem dX8_isOnePuff_5 : decode cX8_isOnePuff 5 = .ok (.ifCond .eq 26, 3) := by decide +kernel
theorem dX8_isOnePuff_8 : decode cX8_isOnePuff 8 = .ok (.aload_n 0, 1) := by decide +kernel
theorem dX8_isOnePuff_9 : decode cX8_isOnePuff 9 = .ok (.iload_n 2, 1) := by decide +kernel
theorem dX8_isOnePuff_10 : decode cX8_isOnePuff 10 = .ok (.invokevirtual 23, 3) := by decide +kernel
theorem dX8_isOnePuff_13 : decode cX8_isOnePuff 13 = .ok (.ifCond .eq 18, 3) := by decide +kernel
theorem dX8_isOnePuff_16 : decode cX8_isOnePuff 16 = .ok (.aload_n 0, 1) := by decide +kernel
theorem dX8_isOnePuff_17 : decode cX8_isOnePuff 17 = .ok (.iload_n 1, 1) := by decide +kernel
theorem dX8_isOnePuff_18 : decode cX8_isOnePuff 18 = .ok (.iload_n 2, 1) := by decide +kernel
theorem dX8_isOnePuff_19 : decode cX8_isOnePuff 19 = .ok (.invokestatic 27, 3) := by decide +kernel
theorem dX8_isOnePuff_22 : decode cX8_isOnePuff 22 = .ok (.bipush (-6), 2) := by decide +kernel
theorem dX8_isOnePuff_24 : decode cX8_isOnePuff 24 = .ok (.if_icmp .eq 7, 3) := by decide +kernel
theorem dX8_isOnePuff_27 : decode cX8_isOnePuff 27 = .ok (.iconst 1, 1) := by decide +kernel
theorem dX8_isOnePuff_28 : decode cX8_isOnePuff 28 = .ok (.goto 4, 3) := by decide +kernel
theorem dX8_isOnePuff_31 : decode cX8_isOnePuff 31 = .ok (.iconst 0, 1) := by decide +kernel
theorem dX8_isOnePuff_32 : decode cX8_isOnePuff 32 = .ok (.ireturn, 1) := by decide +kernel
theorem dX8_puffsBetween_0 : decode cX8_puffsBetween 0 = .ok (.iconst 1, 1) := by decide +kernel
theorem dX8_puffsBetween_1 : decode cX8_puffsBetween 1 = .ok (.iload_n 1, 1) := by decide +kernel
theorem dX8_puffsBetween_2 : decode cX8_puffsBetween 2 = .ok (.ishl, 1) := by decide +kernel
theorem dX8_puffsBetween_3 : decode cX8_puffsBetween 3 = .ok (.istore_n 3, 1) := by decide +kernel
theorem dX8_puffsBetween_4 : decode cX8_puffsBetween 4 = .ok (.iconst 1, 1) := by decide +kernel
theorem dX8_puffsBetween_5 : decode cX8_puffsBetween 5 = .ok (.istore 4, 2) := by decide +kernel
theorem dX8_puffsBetween_7 : decode cX8_puffsBetween 7 = .ok (.iload 4, 2) := by decide +kernel
theorem dX8_puffsBetween_9 : decode cX8_puffsBetween 9 = .ok (.bipush 6, 2) := by decide +kernel
theorem dX8_puffsBetween_11 : decode cX8_puffsBetween 11 = .ok (.if_icmp .ge 26, 3) := by decide +kernel
theorem dX8_puffsBetween_14 : decode cX8_puffsBetween 14 = .ok (.aload_n 0, 1) := by decide +kernel
theorem dX8_puffsBetween_15 : decode cX8_puffsBetween 15 = .ok (.iload_n 3, 1) := by decide +kernel
theorem dX8_puffsBetween_16 : decode cX8_puffsBetween 16 = .ok (.invokestatic 33, 3) := by decide +kernel
theorem dX8_puffsBetween_19 : decode cX8_puffsBetween 19 = .ok (.istore_n 3, 1) := by decide +kernel
theorem dX8_puffsBetween_20 : decode cX8_puffsBetween 20 = .ok (.iload_n 3, 1) := by decide +kernel
theorem dX8_puffsBetween_21 : decode cX8_puffsBetween 21 = .ok (.iconst 1, 1) := by decide +kernel
theorem dX8_puffsBetween_22 : decode cX8_puffsBetween 22 = .ok (.iload_n 2, 1) := by decide +kernel
theorem dX8_puffsBetween_23 : decode cX8_puffsBetween 23 = .ok (.ishl, 1) := by decide +kernel
theorem dX8_puffsBetween_24 : decode cX8_puffsBetween 24 = .ok (.iand, 1) := by decide +kernel
theorem dX8_puffsBetween_25 : decode cX8_puffsBetween 25 = .ok (.ifCond .eq 6, 3) := by decide +kernel
theorem dX8_puffsBetween_28 : decode cX8_puffsBetween 28 = .ok (.iload 4, 2) := by decide +kernel
theorem dX8_puffsBetween_30 : decode cX8_puffsBetween 30 = .ok (.ireturn, 1) := by decide +kernel
theorem dX8_puffsBetween_31 : decode cX8_puffsBetween 31 = .ok (.iinc 4 1, 3) := by decide +kernel
theorem dX8_puffsBetween_34 : decode cX8_puffsBetween 34 = .ok (.goto (-27), 3) := by decide +kernel
theorem dX8_puffsBetween_37 : decode cX8_puffsBetween 37 = .ok (.bipush (-6), 2) := by decide +kernel
theorem dX8_puffsBetween_39 : decode cX8_puffsBetween 39 = .ok (.ireturn, 1) := by decide +kernel
theorem dX8_withNeighbours_0 : decode cX8_withNeighbours 0 = .ok (.iload_n 1, 1) := by decide +kernel
theorem dX8_withNeighbours_1 : decode cX8_withNeighbours 1 = .ok (.istore_n 2, 1) := by decide +kernel
theorem dX8_withNeighbours_2 : decode cX8_withNeighbours 2 = .ok (.iconst 0, 1) := by decide +kernel
theorem dX8_withNeighbours_3 : decode cX8_withNeighbours 3 = .ok (.istore_n 3, 1) := by decide +kernel
theorem dX8_withNeighbours_4 : decode cX8_withNeighbours 4 = .ok (.iload_n 3, 1) := by decide +kernel
theorem dX8_withNeighbours_5 : decode cX8_withNeighbours 5 = .ok (.bipush 6, 2) := by decide +kernel
theorem dX8_withNeighbours_7 : decode cX8_withNeighbours 7 = .ok (.if_icmp .ge 50, 3) := by decide +kernel
theorem dX8_withNeighbours_10 : decode cX8_withNeighbours 10 = .ok (.iconst 0, 1) := by decide +kernel
theorem dX8_withNeighbours_11 : decode cX8_withNeighbours 11 = .ok (.istore 4, 2) := by decide +kernel
theorem dX8_withNeighbours_13 : decode cX8_withNeighbours 13 = .ok (.iload 4, 2) := by decide +kernel
theorem dX8_withNeighbours_15 : decode cX8_withNeighbours 15 = .ok (.bipush 6, 2) := by decide +kernel
theorem dX8_withNeighbours_17 : decode cX8_withNeighbours 17 = .ok (.if_icmp .ge 34, 3) := by decide +kernel
theorem dX8_withNeighbours_20 : decode cX8_withNeighbours 20 = .ok (.iload_n 1, 1) := by decide +kernel
theorem dX8_withNeighbours_21 : decode cX8_withNeighbours 21 = .ok (.iconst 1, 1) := by decide +kernel
theorem dX8_withNeighbours_22 : decode cX8_withNeighbours 22 = .ok (.iload_n 3, 1) := by decide +kernel
theorem dX8_withNeighbours_23 : decode cX8_withNeighbours 23 = .ok (.ishl, 1) := by decide +kernel
theorem dX8_withNeighbours_24 : decode cX8_withNeighbours 24 = .ok (.iand, 1) := by decide +kernel
theorem dX8_withNeighbours_25 : decode cX8_withNeighbours 25 = .ok (.ifCond .eq 20, 3) := by decide +kernel
theorem dX8_withNeighbours_28 : decode cX8_withNeighbours 28 = .ok (.aload_n 0, 1) := by decide +kernel
theorem dX8_withNeighbours_29 : decode cX8_withNeighbours 29 = .ok (.iload_n 3, 1) := by decide +kernel
theorem dX8_withNeighbours_30 : decode cX8_withNeighbours 30 = .ok (.iload 4, 2) := by decide +kernel
theorem dX8_withNeighbours_32 : decode cX8_withNeighbours 32 = .ok (.invokestatic 37, 3) := by decide +kernel
theorem dX8_withNeighbours_35 : decode cX8_withNeighbours 35 = .ok (.ifCond .eq 10, 3) := by decide +kernel
theorem dX8_withNeighbours_38 : decode cX8_withNeighbours 38 = .ok (.iload_n 2, 1) := by decide +kernel
theorem dX8_withNeighbours_39 : decode cX8_withNeighbours 39 = .ok (.iconst 1, 1) := by decide +kernel
theorem dX8_withNeighbours_40 : decode cX8_withNeighbours 40 = .ok (.iload 4, 2) := by decide +kernel
theorem dX8_withNeighbours_42 : decode cX8_withNeighbours 42 = .ok (.ishl, 1) := by decide +kernel
theorem dX8_withNeighbours_43 : decode cX8_withNeighbours 43 = .ok (.ior, 1) := by decide +kernel
theorem dX8_withNeighbours_44 : decode cX8_withNeighbours 44 = .ok (.istore_n 2, 1) := by decide +kernel
theorem dX8_withNeighbours_45 : decode cX8_withNeighbours 45 = .ok (.iinc 4 1, 3) := by decide +kernel
theorem dX8_withNeighbours_48 : decode cX8_withNeighbours 48 = .ok (.goto (-35), 3) := by decide +kernel
theorem dX8_withNeighbours_51 : decode cX8_withNeighbours 51 = .ok (.iinc 3 1, 3) := by decide +kernel
theorem dX8_withNeighbours_54 : decode cX8_withNeighbours 54 = .ok (.goto (-50), 3) := by decide +kernel
theorem dX8_withNeighbours_57 : decode cX8_withNeighbours 57 = .ok (.iload_n 2, 1) := by decide +kernel
theorem dX8_withNeighbours_58 : decode cX8_withNeighbours 58 = .ok (.ireturn, 1) := by decide +kernel
theorem dX8_firstOnTheWay_0 : decode cX8_firstOnTheWay 0 = .ok (.aload_n 0, 1) := by decide +kernel
theorem dX8_firstOnTheWay_1 : decode cX8_firstOnTheWay 1 = .ok (.iload_n 1, 1) := by decide +kernel
theorem dX8_firstOnTheWay_2 : decode cX8_firstOnTheWay 2 = .ok (.iload_n 2, 1) := by decide +kernel
theorem dX8_firstOnTheWay_3 : decode cX8_firstOnTheWay 3 = .ok (.invokestatic 37, 3) := by decide +kernel
theorem dX8_firstOnTheWay_6 : decode cX8_firstOnTheWay 6 = .ok (.ifCond .eq 5, 3) := by decide +kernel
theorem dX8_firstOnTheWay_9 : decode cX8_firstOnTheWay 9 = .ok (.iload_n 2, 1) := by decide +kernel
theorem dX8_firstOnTheWay_10 : decode cX8_firstOnTheWay 10 = .ok (.ireturn, 1) := by decide +kernel
theorem dX8_firstOnTheWay_11 : decode cX8_firstOnTheWay 11 = .ok (.aload_n 0, 1) := by decide +kernel
theorem dX8_firstOnTheWay_12 : decode cX8_firstOnTheWay 12 = .ok (.iload_n 1, 1) := by decide +kernel
theorem dX8_firstOnTheWay_13 : decode cX8_firstOnTheWay 13 = .ok (.iload_n 2, 1) := by decide +kernel
theorem dX8_firstOnTheWay_14 : decode cX8_firstOnTheWay 14 = .ok (.invokestatic 41, 3) := by decide +kernel
theorem dX8_firstOnTheWay_17 : decode cX8_firstOnTheWay 17 = .ok (.istore_n 3, 1) := by decide +kernel
theorem dX8_firstOnTheWay_18 : decode cX8_firstOnTheWay 18 = .ok (.iconst 0, 1) := by decide +kernel
theorem dX8_firstOnTheWay_19 : decode cX8_firstOnTheWay 19 = .ok (.istore 4, 2) := by decide +kernel
theorem dX8_firstOnTheWay_21 : decode cX8_firstOnTheWay 21 = .ok (.iload 4, 2) := by decide +kernel
theorem dX8_firstOnTheWay_23 : decode cX8_firstOnTheWay 23 = .ok (.bipush 6, 2) := by decide +kernel
theorem dX8_firstOnTheWay_25 : decode cX8_firstOnTheWay 25 = .ok (.if_icmp .ge 41, 3) := by decide +kernel
theorem dX8_firstOnTheWay_28 : decode cX8_firstOnTheWay 28 = .ok (.iload_n 3, 1) := by decide +kernel
theorem dX8_firstOnTheWay_29 : decode cX8_firstOnTheWay 29 = .ok (.bipush (-6), 2) := by decide +kernel
theorem dX8_firstOnTheWay_31 : decode cX8_firstOnTheWay 31 = .ok (.if_icmp .eq 35, 3) := by decide +kernel
theorem dX8_firstOnTheWay_34 : decode cX8_firstOnTheWay 34 = .ok (.aload_n 0, 1) := by decide +kernel
theorem dX8_firstOnTheWay_35 : decode cX8_firstOnTheWay 35 = .ok (.iload_n 1, 1) := by decide +kernel
theorem dX8_firstOnTheWay_36 : decode cX8_firstOnTheWay 36 = .ok (.iload 4, 2) := by decide +kernel
theorem dX8_firstOnTheWay_38 : decode cX8_firstOnTheWay 38 = .ok (.invokestatic 37, 3) := by decide +kernel
theorem dX8_firstOnTheWay_41 : decode cX8_firstOnTheWay 41 = .ok (.ifCond .eq 19, 3) := by decide +kernel
theorem dX8_firstOnTheWay_44 : decode cX8_firstOnTheWay 44 = .ok (.aload_n 0, 1) := by decide +kernel
theorem dX8_firstOnTheWay_45 : decode cX8_firstOnTheWay 45 = .ok (.iload 4, 2) := by decide +kernel
theorem dX8_firstOnTheWay_47 : decode cX8_firstOnTheWay 47 = .ok (.iload_n 2, 1) := by decide +kernel
theorem dX8_firstOnTheWay_48 : decode cX8_firstOnTheWay 48 = .ok (.invokestatic 41, 3) := by decide +kernel
theorem dX8_firstOnTheWay_51 : decode cX8_firstOnTheWay 51 = .ok (.iload_n 3, 1) := by decide +kernel
theorem dX8_firstOnTheWay_52 : decode cX8_firstOnTheWay 52 = .ok (.iconst 1, 1) := by decide +kernel
theorem dX8_firstOnTheWay_53 : decode cX8_firstOnTheWay 53 = .ok (.isub, 1) := by decide +kernel
theorem dX8_firstOnTheWay_54 : decode cX8_firstOnTheWay 54 = .ok (.if_icmp .ne 6, 3) := by decide +kernel
theorem dX8_firstOnTheWay_57 : decode cX8_firstOnTheWay 57 = .ok (.iload 4, 2) := by decide +kernel
theorem dX8_firstOnTheWay_59 : decode cX8_firstOnTheWay 59 = .ok (.ireturn, 1) := by decide +kernel
theorem dX8_firstOnTheWay_60 : decode cX8_firstOnTheWay 60 = .ok (.iinc 4 1, 3) := by decide +kernel
theorem dX8_firstOnTheWay_63 : decode cX8_firstOnTheWay 63 = .ok (.goto (-42), 3) := by decide +kernel
theorem dX8_firstOnTheWay_66 : decode cX8_firstOnTheWay 66 = .ok (.bipush (-6), 2) := by decide +kernel
theorem dX8_firstOnTheWay_68 : decode cX8_firstOnTheWay 68 = .ok (.ireturn, 1) := by decide +kernel
theorem dX8_richestCorner_0 : decode cX8_richestCorner 0 = .ok (.iconst 0, 1) := by decide +kernel
theorem dX8_richestCorner_1 : decode cX8_richestCorner 1 = .ok (.istore_n 2, 1) := by decide +kernel
theorem dX8_richestCorner_2 : decode cX8_richestCorner 2 = .ok (.iconst 0, 1) := by decide +kernel
theorem dX8_richestCorner_3 : decode cX8_richestCorner 3 = .ok (.istore_n 3, 1) := by decide +kernel
theorem dX8_richestCorner_4 : decode cX8_richestCorner 4 = .ok (.iload_n 3, 1) := by decide +kernel
theorem dX8_richestCorner_5 : decode cX8_richestCorner 5 = .ok (.bipush 6, 2) := by decide +kernel
theorem dX8_richestCorner_7 : decode cX8_richestCorner 7 = .ok (.iload_n 1, 1) := by decide +kernel
theorem dX8_richestCorner_8 : decode cX8_richestCorner 8 = .ok (.isub, 1) := by decide +kernel
theorem dX8_richestCorner_9 : decode cX8_richestCorner 9 = .ok (.if_icmp .gt 55, 3) := by decide +kernel
theorem dX8_richestCorner_12 : decode cX8_richestCorner 12 = .ok (.iconst 0, 1) := by decide +kernel
theorem dX8_richestCorner_13 : decode cX8_richestCorner 13 = .ok (.istore 4, 2) := by decide +kernel
theorem dX8_richestCorner_15 : decode cX8_richestCorner 15 = .ok (.iload 4, 2) := by decide +kernel
theorem dX8_richestCorner_17 : decode cX8_richestCorner 17 = .ok (.bipush 6, 2) := by decide +kernel
theorem dX8_richestCorner_19 : decode cX8_richestCorner 19 = .ok (.iload_n 1, 1) := by decide +kernel
theorem dX8_richestCorner_20 : decode cX8_richestCorner 20 = .ok (.isub, 1) := by decide +kernel
