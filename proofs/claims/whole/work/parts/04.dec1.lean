theorem dX8_richestCorner_21 : decode cX8_richestCorner 21 = .ok (.if_icmp .gt 37, 3) := by decide +kernel
theorem dX8_richestCorner_24 : decode cX8_richestCorner 24 = .ok (.bipush 6, 2) := by decide +kernel
theorem dX8_richestCorner_26 : decode cX8_richestCorner 26 = .ok (.iload_n 3, 1) := by decide +kernel
theorem dX8_richestCorner_27 : decode cX8_richestCorner 27 = .ok (.imul, 1) := by decide +kernel
theorem dX8_richestCorner_28 : decode cX8_richestCorner 28 = .ok (.iload 4, 2) := by decide +kernel
theorem dX8_richestCorner_30 : decode cX8_richestCorner 30 = .ok (.iadd, 1) := by decide +kernel
theorem dX8_richestCorner_31 : decode cX8_richestCorner 31 = .ok (.istore 5, 2) := by decide +kernel
theorem dX8_richestCorner_33 : decode cX8_richestCorner 33 = .ok (.aload_n 0, 1) := by decide +kernel
theorem dX8_richestCorner_34 : decode cX8_richestCorner 34 = .ok (.iload 5, 2) := by decide +kernel
theorem dX8_richestCorner_36 : decode cX8_richestCorner 36 = .ok (.iload_n 1, 1) := by decide +kernel
theorem dX8_richestCorner_37 : decode cX8_richestCorner 37 = .ok (.invokestatic 44, 3) := by decide +kernel
theorem dX8_richestCorner_40 : decode cX8_richestCorner 40 = .ok (.aload_n 0, 1) := by decide +kernel
theorem dX8_richestCorner_41 : decode cX8_richestCorner 41 = .ok (.iload_n 2, 1) := by decide +kernel
theorem dX8_richestCorner_42 : decode cX8_richestCorner 42 = .ok (.iload_n 1, 1) := by decide +kernel
theorem dX8_richestCorner_43 : decode cX8_richestCorner 43 = .ok (.invokestatic 44, 3) := by decide +kernel
theorem dX8_richestCorner_46 : decode cX8_richestCorner 46 = .ok (.if_icmp .le 6, 3) := by decide +kernel
theorem dX8_richestCorner_49 : decode cX8_richestCorner 49 = .ok (.iload 5, 2) := by decide +kernel
theorem dX8_richestCorner_51 : decode cX8_richestCorner 51 = .ok (.istore_n 2, 1) := by decide +kernel
theorem dX8_richestCorner_52 : decode cX8_richestCorner 52 = .ok (.iinc 4 1, 3) := by decide +kernel
theorem dX8_richestCorner_55 : decode cX8_richestCorner 55 = .ok (.goto (-40), 3) := by decide +kernel
theorem dX8_richestCorner_58 : decode cX8_richestCorner 58 = .ok (.iinc 3 1, 3) := by decide +kernel
theorem dX8_richestCorner_61 : decode cX8_richestCorner 61 = .ok (.goto (-57), 3) := by decide +kernel
theorem dX8_richestCorner_64 : decode cX8_richestCorner 64 = .ok (.iload_n 2, 1) := by decide +kernel
theorem dX8_richestCorner_65 : decode cX8_richestCorner 65 = .ok (.ireturn, 1) := by decide +kernel
theorem dX8_squareWorth_0 : decode cX8_squareWorth 0 = .ok (.iconst 0, 1) := by decide +kernel
theorem dX8_squareWorth_1 : decode cX8_squareWorth 1 = .ok (.istore_n 3, 1) := by decide +kernel
theorem dX8_squareWorth_2 : decode cX8_squareWorth 2 = .ok (.iconst 0, 1) := by decide +kernel
theorem dX8_squareWorth_3 : decode cX8_squareWorth 3 = .ok (.istore 4, 2) := by decide +kernel
theorem dX8_squareWorth_5 : decode cX8_squareWorth 5 = .ok (.iload 4, 2) := by decide +kernel
theorem dX8_squareWorth_7 : decode cX8_squareWorth 7 = .ok (.iload_n 2, 1) := by decide +kernel
theorem dX8_squareWorth_8 : decode cX8_squareWorth 8 = .ok (.if_icmp .ge 41, 3) := by decide +kernel
theorem dX8_squareWorth_11 : decode cX8_squareWorth 11 = .ok (.iconst 0, 1) := by decide +kernel
theorem dX8_squareWorth_12 : decode cX8_squareWorth 12 = .ok (.istore 5, 2) := by decide +kernel
theorem dX8_squareWorth_14 : decode cX8_squareWorth 14 = .ok (.iload 5, 2) := by decide +kernel
theorem dX8_squareWorth_16 : decode cX8_squareWorth 16 = .ok (.iload_n 2, 1) := by decide +kernel
theorem dX8_squareWorth_17 : decode cX8_squareWorth 17 = .ok (.if_icmp .ge 26, 3) := by decide +kernel
theorem dX8_squareWorth_20 : decode cX8_squareWorth 20 = .ok (.iload_n 3, 1) := by decide +kernel
theorem dX8_squareWorth_21 : decode cX8_squareWorth 21 = .ok (.aload_n 0, 1) := by decide +kernel
theorem dX8_squareWorth_22 : decode cX8_squareWorth 22 = .ok (.iload_n 1, 1) := by decide +kernel
theorem dX8_squareWorth_23 : decode cX8_squareWorth 23 = .ok (.bipush 6, 2) := by decide +kernel
theorem dX8_squareWorth_25 : decode cX8_squareWorth 25 = .ok (.iload 4, 2) := by decide +kernel
theorem dX8_squareWorth_27 : decode cX8_squareWorth 27 = .ok (.imul, 1) := by decide +kernel
theorem dX8_squareWorth_28 : decode cX8_squareWorth 28 = .ok (.iadd, 1) := by decide +kernel
theorem dX8_squareWorth_29 : decode cX8_squareWorth 29 = .ok (.iload 5, 2) := by decide +kernel
theorem dX8_squareWorth_31 : decode cX8_squareWorth 31 = .ok (.iadd, 1) := by decide +kernel
theorem dX8_squareWorth_32 : decode cX8_squareWorth 32 = .ok (.invokestatic 47, 3) := by decide +kernel
theorem dX8_squareWorth_35 : decode cX8_squareWorth 35 = .ok (.iadd, 1) := by decide +kernel
theorem dX8_squareWorth_36 : decode cX8_squareWorth 36 = .ok (.istore_n 3, 1) := by decide +kernel
theorem dX8_squareWorth_37 : decode cX8_squareWorth 37 = .ok (.iinc 5 1, 3) := by decide +kernel
theorem dX8_squareWorth_40 : decode cX8_squareWorth 40 = .ok (.goto (-26), 3) := by decide +kernel
theorem dX8_squareWorth_43 : decode cX8_squareWorth 43 = .ok (.iinc 4 1, 3) := by decide +kernel
theorem dX8_squareWorth_46 : decode cX8_squareWorth 46 = .ok (.goto (-41), 3) := by decide +kernel
theorem dX8_squareWorth_49 : decode cX8_squareWorth 49 = .ok (.iload_n 3, 1) := by decide +kernel
theorem dX8_squareWorth_50 : decode cX8_squareWorth 50 = .ok (.ireturn, 1) := by decide +kernel
theorem dX8_fieldWorth_0 : decode cX8_fieldWorth 0 = .ok (.aload_n 0, 1) := by decide +kernel
theorem dX8_fieldWorth_1 : decode cX8_fieldWorth 1 = .ok (.iload_n 1, 1) := by decide +kernel
theorem dX8_fieldWorth_2 : decode cX8_fieldWorth 2 = .ok (.invokevirtual 50, 3) := by decide +kernel
theorem dX8_fieldWorth_5 : decode cX8_fieldWorth 5 = .ok (.istore_n 2, 1) := by decide +kernel
theorem dX8_fieldWorth_6 : decode cX8_fieldWorth 6 = .ok (.aload_n 0, 1) := by decide +kernel
theorem dX8_fieldWorth_7 : decode cX8_fieldWorth 7 = .ok (.getfield 54, 3) := by decide +kernel
theorem dX8_fieldWorth_10 : decode cX8_fieldWorth 10 = .ok (.iload_n 1, 1) := by decide +kernel
theorem dX8_fieldWorth_11 : decode cX8_fieldWorth 11 = .ok (.invokestatic 15, 3) := by decide +kernel
theorem dX8_fieldWorth_14 : decode cX8_fieldWorth 14 = .ok (.aload_n 0, 1) := by decide +kernel
theorem dX8_fieldWorth_15 : decode cX8_fieldWorth 15 = .ok (.getfield 57, 3) := by decide +kernel
theorem dX8_fieldWorth_18 : decode cX8_fieldWorth 18 = .ok (.iload_n 2, 1) := by decide +kernel
theorem dX8_fieldWorth_19 : decode cX8_fieldWorth 19 = .ok (.invokestatic 15, 3) := by decide +kernel
theorem dX8_fieldWorth_22 : decode cX8_fieldWorth 22 = .ok (.iadd, 1) := by decide +kernel
theorem dX8_fieldWorth_23 : decode cX8_fieldWorth 23 = .ok (.ireturn, 1) := by decide +kernel
theorem dX8_taxOf_0 : decode cX8_taxOf 0 = .ok (.aload_n 0, 1) := by decide +kernel
theorem dX8_taxOf_1 : decode cX8_taxOf 1 = .ok (.invokevirtual 60, 3) := by decide +kernel
theorem dX8_taxOf_4 : decode cX8_taxOf 4 = .ok (.istore_n 3, 1) := by decide +kernel
theorem dX8_taxOf_5 : decode cX8_taxOf 5 = .ok (.iload_n 3, 1) := by decide +kernel
theorem dX8_taxOf_6 : decode cX8_taxOf 6 = .ok (.ifCond .gt 5, 3) := by decide +kernel
theorem dX8_taxOf_9 : decode cX8_taxOf 9 = .ok (.iconst 0, 1) := by decide +kernel
theorem dX8_taxOf_10 : decode cX8_taxOf 10 = .ok (.ireturn, 1) := by decide +kernel
theorem dX8_taxOf_11 : decode cX8_taxOf 11 = .ok (.iload_n 2, 1) := by decide +kernel
theorem dX8_taxOf_12 : decode cX8_taxOf 12 = .ok (.istore 4, 2) := by decide +kernel
theorem dX8_taxOf_14 : decode cX8_taxOf 14 = .ok (.iconst 0, 1) := by decide +kernel
theorem dX8_taxOf_15 : decode cX8_taxOf 15 = .ok (.istore 5, 2) := by decide +kernel
theorem dX8_taxOf_17 : decode cX8_taxOf 17 = .ok (.iload 5, 2) := by decide +kernel
theorem dX8_taxOf_19 : decode cX8_taxOf 19 = .ok (.bipush 6, 2) := by decide +kernel
theorem dX8_taxOf_21 : decode cX8_taxOf 21 = .ok (.if_icmp .ge 38, 3) := by decide +kernel
theorem dX8_taxOf_24 : decode cX8_taxOf 24 = .ok (.iload 4, 2) := by decide +kernel
theorem dX8_taxOf_26 : decode cX8_taxOf 26 = .ok (.aload_n 0, 1) := by decide +kernel
theorem dX8_taxOf_27 : decode cX8_taxOf 27 = .ok (.iload 5, 2) := by decide +kernel
theorem dX8_taxOf_29 : decode cX8_taxOf 29 = .ok (.invokevirtual 23, 3) := by decide +kernel
theorem dX8_taxOf_32 : decode cX8_taxOf 32 = .ok (.ifCond .eq 17, 3) := by decide +kernel
theorem dX8_taxOf_35 : decode cX8_taxOf 35 = .ok (.iload_n 2, 1) := by decide +kernel
theorem dX8_taxOf_36 : decode cX8_taxOf 36 = .ok (.aload_n 0, 1) := by decide +kernel
theorem dX8_taxOf_37 : decode cX8_taxOf 37 = .ok (.getfield 57, 3) := by decide +kernel
theorem dX8_taxOf_40 : decode cX8_taxOf 40 = .ok (.iload 5, 2) := by decide +kernel
theorem dX8_taxOf_42 : decode cX8_taxOf 42 = .ok (.iaload, 1) := by decide +kernel
theorem dX8_taxOf_43 : decode cX8_taxOf 43 = .ok (.imul, 1) := by decide +kernel
theorem dX8_taxOf_44 : decode cX8_taxOf 44 = .ok (.iload_n 3, 1) := by decide +kernel
theorem dX8_taxOf_45 : decode cX8_taxOf 45 = .ok (.idiv, 1) := by decide +kernel
theorem dX8_taxOf_46 : decode cX8_taxOf 46 = .ok (.goto 4, 3) := by decide +kernel
theorem dX8_taxOf_49 : decode cX8_taxOf 49 = .ok (.iconst 0, 1) := by decide +kernel
theorem dX8_taxOf_50 : decode cX8_taxOf 50 = .ok (.isub, 1) := by decide +kernel
theorem dX8_taxOf_51 : decode cX8_taxOf 51 = .ok (.istore 4, 2) := by decide +kernel
theorem dX8_taxOf_53 : decode cX8_taxOf 53 = .ok (.iinc 5 1, 3) := by decide +kernel
theorem dX8_taxOf_56 : decode cX8_taxOf 56 = .ok (.goto (-39), 3) := by decide +kernel
theorem dX8_taxOf_59 : decode cX8_taxOf 59 = .ok (.iload_n 2, 1) := by decide +kernel
theorem dX8_taxOf_60 : decode cX8_taxOf 60 = .ok (.aload_n 0, 1) := by decide +kernel
theorem dX8_taxOf_61 : decode cX8_taxOf 61 = .ok (.getfield 57, 3) := by decide +kernel
theorem dX8_taxOf_64 : decode cX8_taxOf 64 = .ok (.iload_n 1, 1) := by decide +kernel
theorem dX8_taxOf_65 : decode cX8_taxOf 65 = .ok (.invokestatic 15, 3) := by decide +kernel
theorem dX8_taxOf_68 : decode cX8_taxOf 68 = .ok (.imul, 1) := by decide +kernel
theorem dX8_taxOf_69 : decode cX8_taxOf 69 = .ok (.iload_n 3, 1) := by decide +kernel
theorem dX8_taxOf_70 : decode cX8_taxOf 70 = .ok (.idiv, 1) := by decide +kernel
theorem dX8_taxOf_71 : decode cX8_taxOf 71 = .ok (.istore 5, 2) := by decide +kernel
theorem dX8_taxOf_73 : decode cX8_taxOf 73 = .ok (.aload_n 0, 1) := by decide +kernel
theorem dX8_taxOf_74 : decode cX8_taxOf 74 = .ok (.iload_n 1, 1) := by decide +kernel
theorem dX8_taxOf_75 : decode cX8_taxOf 75 = .ok (.invokestatic 64, 3) := by decide +kernel
theorem dX8_taxOf_78 : decode cX8_taxOf 78 = .ok (.iload 4, 2) := by decide +kernel
theorem dX8_taxOf_80 : decode cX8_taxOf 80 = .ok (.if_icmp .ge 10, 3) := by decide +kernel
theorem dX8_taxOf_83 : decode cX8_taxOf 83 = .ok (.iload 5, 2) := by decide +kernel
theorem dX8_taxOf_85 : decode cX8_taxOf 85 = .ok (.iconst 1, 1) := by decide +kernel
theorem dX8_taxOf_86 : decode cX8_taxOf 86 = .ok (.iadd, 1) := by decide +kernel
theorem dX8_taxOf_87 : decode cX8_taxOf 87 = .ok (.goto 5, 3) := by decide +kernel
theorem dX8_taxOf_90 : decode cX8_taxOf 90 = .ok (.iload 5, 2) := by decide +kernel
theorem dX8_taxOf_92 : decode cX8_taxOf 92 = .ok (.ireturn, 1) := by decide +kernel
theorem dX8_richerThan_0 : decode cX8_richerThan 0 = .ok (.aload_n 0, 1) := by decide +kernel
theorem dX8_richerThan_1 : decode cX8_richerThan 1 = .ok (.getfield 57, 3) := by decide +kernel
theorem dX8_richerThan_4 : decode cX8_richerThan 4 = .ok (.iload_n 1, 1) := by decide +kernel
theorem dX8_richerThan_5 : decode cX8_richerThan 5 = .ok (.invokestatic 15, 3) := by decide +kernel
theorem dX8_richerThan_8 : decode cX8_richerThan 8 = .ok (.istore_n 2, 1) := by decide +kernel
theorem dX8_richerThan_9 : decode cX8_richerThan 9 = .ok (.iconst 0, 1) := by decide +kernel
theorem dX8_richerThan_10 : decode cX8_richerThan 10 = .ok (.istore_n 3, 1) := by decide +kernel
theorem dX8_richerThan_11 : decode cX8_richerThan 11 = .ok (.iconst 0, 1) := by decide +kernel
theorem dX8_richerThan_12 : decode cX8_richerThan 12 = .ok (.istore 4, 2) := by decide +kernel
theorem dX8_richerThan_14 : decode cX8_richerThan 14 = .ok (.iload 4, 2) := by decide +kernel
theorem dX8_richerThan_16 : decode cX8_richerThan 16 = .ok (.bipush 6, 2) := by decide +kernel
theorem dX8_richerThan_18 : decode cX8_richerThan 18 = .ok (.if_icmp .ge 66, 3) := by decide +kernel
theorem dX8_richerThan_21 : decode cX8_richerThan 21 = .ok (.aload_n 0, 1) := by decide +kernel
theorem dX8_richerThan_22 : decode cX8_richerThan 22 = .ok (.getfield 57, 3) := by decide +kernel
theorem dX8_richerThan_25 : decode cX8_richerThan 25 = .ok (.iload 4, 2) := by decide +kernel
theorem dX8_richerThan_27 : decode cX8_richerThan 27 = .ok (.iaload, 1) := by decide +kernel
theorem dX8_richerThan_28 : decode cX8_richerThan 28 = .ok (.iload_n 2, 1) := by decide +kernel
theorem dX8_richerThan_29 : decode cX8_richerThan 29 = .ok (.if_icmp .gt 20, 3) := by decide +kernel
theorem dX8_richerThan_32 : decode cX8_richerThan 32 = .ok (.aload_n 0, 1) := by decide +kernel
theorem dX8_richerThan_33 : decode cX8_richerThan 33 = .ok (.getfield 57, 3) := by decide +kernel
theorem dX8_richerThan_36 : decode cX8_richerThan 36 = .ok (.iload 4, 2) := by decide +kernel
theorem dX8_richerThan_38 : decode cX8_richerThan 38 = .ok (.iaload, 1) := by decide +kernel
theorem dX8_richerThan_39 : decode cX8_richerThan 39 = .ok (.iload_n 2, 1) := by decide +kernel
theorem dX8_richerThan_40 : decode cX8_richerThan 40 = .ok (.if_icmp .ne 13, 3) := by decide +kernel
theorem dX8_richerThan_43 : decode cX8_richerThan 43 = .ok (.iload 4, 2) := by decide +kernel
theorem dX8_richerThan_45 : decode cX8_richerThan 45 = .ok (.iload_n 1, 1) := by decide +kernel
theorem dX8_richerThan_46 : decode cX8_richerThan 46 = .ok (.if_icmp .ge 7, 3) := by decide +kernel
theorem dX8_richerThan_49 : decode cX8_richerThan 49 = .ok (.iconst 1, 1) := by decide +kernel
theorem dX8_richerThan_50 : decode cX8_richerThan 50 = .ok (.goto 4, 3) := by decide +kernel
theorem dX8_richerThan_53 : decode cX8_richerThan 53 = .ok (.iconst 0, 1) := by decide +kernel
theorem dX8_richerThan_54 : decode cX8_richerThan 54 = .ok (.istore 5, 2) := by decide +kernel
theorem dX8_richerThan_56 : decode cX8_richerThan 56 = .ok (.iload_n 3, 1) := by decide +kernel
theorem dX8_richerThan_57 : decode cX8_richerThan 57 = .ok (.aload_n 0, 1) := by decide +kernel
theorem dX8_richerThan_58 : decode cX8_richerThan 58 = .ok (.iload 4, 2) := by decide +kernel
theorem dX8_richerThan_60 : decode cX8_richerThan 60 = .ok (.invokevirtual 23, 3) := by decide +kernel
theorem dX8_richerThan_63 : decode cX8_richerThan 63 = .ok (.ifCond .eq 12, 3) := by decide +kernel
theorem dX8_richerThan_66 : decode cX8_richerThan 66 = .ok (.iload 5, 2) := by decide +kernel
theorem dX8_richerThan_68 : decode cX8_richerThan 68 = .ok (.ifCond .eq 7, 3) := by decide +kernel
theorem dX8_richerThan_71 : decode cX8_richerThan 71 = .ok (.iconst 1, 1) := by decide +kernel
theorem dX8_richerThan_72 : decode cX8_richerThan 72 = .ok (.goto 4, 3) := by decide +kernel
theorem dX8_richerThan_75 : decode cX8_richerThan 75 = .ok (.iconst 0, 1) := by decide +kernel
theorem dX8_richerThan_76 : decode cX8_richerThan 76 = .ok (.iadd, 1) := by decide +kernel
theorem dX8_richerThan_77 : decode cX8_richerThan 77 = .ok (.istore_n 3, 1) := by decide +kernel
theorem dX8_richerThan_78 : decode cX8_richerThan 78 = .ok (.iinc 4 1, 3) := by decide +kernel
theorem dX8_richerThan_81 : decode cX8_richerThan 81 = .ok (.goto (-67), 3) := by decide +kernel
theorem dX8_richerThan_84 : decode cX8_richerThan 84 = .ok (.iload_n 3, 1) := by decide +kernel
theorem dX8_richerThan_85 : decode cX8_richerThan 85 = .ok (.ireturn, 1) := by decide +kernel
theorem dX9_init_0 : decode cX9_init 0 = .ok (.aload_n 0, 1) := by decide +kernel
theorem dX9_init_1 : decode cX9_init 1 = .ok (.invokespecial 3, 3) := by decide +kernel
theorem dX9_init_4 : decode cX9_init 4 = .ok (.aload_n 0, 1) := by decide +kernel
theorem dX9_init_5 : decode cX9_init 5 = .ok (.bipush 8, 2) := by decide +kernel
theorem dX9_init_7 : decode cX9_init 7 = .ok (.newarray .int, 2) := by decide +kernel
theorem dX9_init_9 : decode cX9_init 9 = .ok (.putfield 9, 3) := by decide +kernel
theorem dX9_init_12 : decode cX9_init 12 = .ok (.aload_n 0, 1) := by decide +kernel
theorem dX9_init_13 : decode cX9_init 13 = .ok (.bipush 8, 2) := by decide +kernel
theorem dX9_init_15 : decode cX9_init 15 = .ok (.newarray .int, 2) := by decide +kernel
theorem dX9_init_17 : decode cX9_init 17 = .ok (.putfield 15, 3) := by decide +kernel
theorem dX9_init_20 : decode cX9_init 20 = .ok (.aload_n 0, 1) := by decide +kernel
theorem dX9_init_21 : decode cX9_init 21 = .ok (.iconst 0, 1) := by decide +kernel
theorem dX9_init_22 : decode cX9_init 22 = .ok (.putfield 18, 3) := by decide +kernel
theorem dX9_init_25 : decode cX9_init 25 = .ok (.return_, 1) := by decide +kernel
theorem dX9_copyFrom_0 : decode cX9_copyFrom 0 = .ok (.aload_n 1, 1) := by decide +kernel
theorem dX9_copyFrom_1 : decode cX9_copyFrom 1 = .ok (.getfield 9, 3) := by decide +kernel
theorem dX9_copyFrom_4 : decode cX9_copyFrom 4 = .ok (.iconst 0, 1) := by decide +kernel
theorem dX9_copyFrom_5 : decode cX9_copyFrom 5 = .ok (.aload_n 0, 1) := by decide +kernel
theorem dX9_copyFrom_6 : decode cX9_copyFrom 6 = .ok (.getfield 9, 3) := by decide +kernel
theorem dX9_copyFrom_9 : decode cX9_copyFrom 9 = .ok (.iconst 0, 1) := by decide +kernel
theorem dX9_copyFrom_10 : decode cX9_copyFrom 10 = .ok (.bipush 8, 2) := by decide +kernel
theorem dX9_copyFrom_12 : decode cX9_copyFrom 12 = .ok (.invokestatic 22, 3) := by decide +kernel
theorem dX9_copyFrom_15 : decode cX9_copyFrom 15 = .ok (.aload_n 1, 1) := by decide +kernel
theorem dX9_copyFrom_16 : decode cX9_copyFrom 16 = .ok (.getfield 15, 3) := by decide +kernel
theorem dX9_copyFrom_19 : decode cX9_copyFrom 19 = .ok (.iconst 0, 1) := by decide +kernel
theorem dX9_copyFrom_20 : decode cX9_copyFrom 20 = .ok (.aload_n 0, 1) := by decide +kernel
theorem dX9_copyFrom_21 : decode cX9_copyFrom 21 = .ok (.getfield 15, 3) := by decide +kernel
theorem dX9_copyFrom_24 : decode cX9_copyFrom 24 = .ok (.iconst 0, 1) := by decide +kernel
theorem dX9_copyFrom_25 : decode cX9_copyFrom 25 = .ok (.bipush 8, 2) := by decide +kernel
theorem dX9_copyFrom_27 : decode cX9_copyFrom 27 = .ok (.invokestatic 22, 3) := by decide +kernel
theorem dX9_copyFrom_30 : decode cX9_copyFrom 30 = .ok (.aload_n 0, 1) := by decide +kernel
theorem dX9_copyFrom_31 : decode cX9_copyFrom 31 = .ok (.aload_n 1, 1) := by decide +kernel
theorem dX9_copyFrom_32 : decode cX9_copyFrom 32 = .ok (.getfield 18, 3) := by decide +kernel
theorem dX9_copyFrom_35 : decode cX9_copyFrom 35 = .ok (.putfield 18, 3) := by decide +kernel
theorem dX9_copyFrom_38 : decode cX9_copyFrom 38 = .ok (.return_, 1) := by decide +kernel
theorem dX9_note_0 : decode cX9_note 0 = .ok (.aload_n 0, 1) := by decide +kernel
theorem dX9_note_1 : decode cX9_note 1 = .ok (.getfield 18, 3) := by decide +kernel
theorem dX9_note_4 : decode cX9_note 4 = .ok (.ifCond .lt 12, 3) := by decide +kernel
theorem dX9_note_7 : decode cX9_note 7 = .ok (.aload_n 0, 1) := by decide +kernel
theorem dX9_note_8 : decode cX9_note 8 = .ok (.getfield 18, 3) := by decide +kernel
theorem dX9_note_11 : decode cX9_note 11 = .ok (.bipush 8, 2) := by decide +kernel
theorem dX9_note_13 : decode cX9_note 13 = .ok (.if_icmp .lt 4, 3) := by decide +kernel
theorem dX9_note_16 : decode cX9_note 16 = .ok (.return_, 1) := by decide +kernel
theorem dX9_note_17 : decode cX9_note 17 = .ok (.aload_n 0, 1) := by decide +kernel
theorem dX9_note_18 : decode cX9_note 18 = .ok (.getfield 9, 3) := by decide +kernel
theorem dX9_note_21 : decode cX9_note 21 = .ok (.aload_n 0, 1) := by decide +kernel
theorem dX9_note_22 : decode cX9_note 22 = .ok (.getfield 18, 3) := by decide +kernel
theorem dX9_note_25 : decode cX9_note 25 = .ok (.iload_n 1, 1) := by decide +kernel
theorem dX9_note_26 : decode cX9_note 26 = .ok (.iastore, 1) := by decide +kernel
theorem dX9_note_27 : decode cX9_note 27 = .ok (.aload_n 0, 1) := by decide +kernel
theorem dX9_note_28 : decode cX9_note 28 = .ok (.getfield 15, 3) := by decide +kernel
theorem dX9_note_31 : decode cX9_note 31 = .ok (.aload_n 0, 1) := by decide +kernel
theorem dX9_note_32 : decode cX9_note 32 = .ok (.getfield 18, 3) := by decide +kernel
theorem dX9_note_35 : decode cX9_note 35 = .ok (.iload_n 2, 1) := by decide +kernel
theorem dX9_note_36 : decode cX9_note 36 = .ok (.iastore, 1) := by decide +kernel
theorem dX9_note_37 : decode cX9_note 37 = .ok (.aload_n 0, 1) := by decide +kernel
theorem dX9_note_38 : decode cX9_note 38 = .ok (.dup, 1) := by decide +kernel
theorem dX9_note_39 : decode cX9_note 39 = .ok (.getfield 18, 3) := by decide +kernel
theorem dX9_note_42 : decode cX9_note 42 = .ok (.iconst 1, 1) := by decide +kernel
theorem dX9_note_43 : decode cX9_note 43 = .ok (.iadd, 1) := by decide +kernel
theorem dX9_note_44 : decode cX9_note 44 = .ok (.putfield 18, 3) := by decide +kernel
theorem dX9_note_47 : decode cX9_note 47 = .ok (.return_, 1) := by decide +kernel
theorem dX9_allAreBy_0 : decode cX9_allAreBy 0 = .ok (.iconst 0, 1) := by decide +kernel
theorem dX9_allAreBy_1 : decode cX9_allAreBy 1 = .ok (.istore_n 3, 1) := by decide +kernel
theorem dX9_allAreBy_2 : decode cX9_allAreBy 2 = .ok (.iload_n 3, 1) := by decide +kernel
theorem dX9_allAreBy_3 : decode cX9_allAreBy 3 = .ok (.aload_n 0, 1) := by decide +kernel
theorem dX9_allAreBy_4 : decode cX9_allAreBy 4 = .ok (.getfield 18, 3) := by decide +kernel
theorem dX9_allAreBy_7 : decode cX9_allAreBy 7 = .ok (.if_icmp .ge 38, 3) := by decide +kernel
theorem dX9_allAreBy_10 : decode cX9_allAreBy 10 = .ok (.iload_n 3, 1) := by decide +kernel
theorem dX9_allAreBy_11 : decode cX9_allAreBy 11 = .ok (.bipush 8, 2) := by decide +kernel
theorem dX9_allAreBy_13 : decode cX9_allAreBy 13 = .ok (.if_icmp .ge 32, 3) := by decide +kernel
theorem dX9_allAreBy_16 : decode cX9_allAreBy 16 = .ok (.aload_n 0, 1) := by decide +kernel
theorem dX9_allAreBy_17 : decode cX9_allAreBy 17 = .ok (.getfield 9, 3) := by decide +kernel
theorem dX9_allAreBy_20 : decode cX9_allAreBy 20 = .ok (.iload_n 3, 1) := by decide +kernel
theorem dX9_allAreBy_21 : decode cX9_allAreBy 21 = .ok (.iaload, 1) := by decide +kernel
theorem dX9_allAreBy_22 : decode cX9_allAreBy 22 = .ok (.iload_n 1, 1) := by decide +kernel
theorem dX9_allAreBy_23 : decode cX9_allAreBy 23 = .ok (.imul, 1) := by decide +kernel
theorem dX9_allAreBy_24 : decode cX9_allAreBy 24 = .ok (.iload_n 2, 1) := by decide +kernel
theorem dX9_allAreBy_25 : decode cX9_allAreBy 25 = .ok (.invokestatic 28, 3) := by decide +kernel
theorem dX9_allAreBy_28 : decode cX9_allAreBy 28 = .ok (.aload_n 0, 1) := by decide +kernel
theorem dX9_allAreBy_29 : decode cX9_allAreBy 29 = .ok (.getfield 15, 3) := by decide +kernel
theorem dX9_allAreBy_32 : decode cX9_allAreBy 32 = .ok (.iload_n 3, 1) := by decide +kernel
theorem dX9_allAreBy_33 : decode cX9_allAreBy 33 = .ok (.iaload, 1) := by decide +kernel
theorem dX9_allAreBy_34 : decode cX9_allAreBy 34 = .ok (.if_icmp .eq 5, 3) := by decide +kernel
theorem dX9_allAreBy_37 : decode cX9_allAreBy 37 = .ok (.iconst 0, 1) := by decide +kernel
theorem dX9_allAreBy_38 : decode cX9_allAreBy 38 = .ok (.ireturn, 1) := by decide +kernel
theorem dX9_allAreBy_39 : decode cX9_allAreBy 39 = .ok (.iinc 3 1, 3) := by decide +kernel
theorem dX9_allAreBy_42 : decode cX9_allAreBy 42 = .ok (.goto (-40), 3) := by decide +kernel
theorem dX9_allAreBy_45 : decode cX9_allAreBy 45 = .ok (.iconst 1, 1) := by decide +kernel
theorem dX9_allAreBy_46 : decode cX9_allAreBy 46 = .ok (.ireturn, 1) := by decide +kernel
theorem dX10_init_0 : decode cX10_init 0 = .ok (.aload_n 0, 1) := by decide +kernel
theorem dX10_init_1 : decode cX10_init 1 = .ok (.invokespecial 1, 3) := by decide +kernel
theorem dX10_init_4 : decode cX10_init 4 = .ok (.aload_n 0, 1) := by decide +kernel
theorem dX10_init_5 : decode cX10_init 5 = .ok (.new 7, 3) := by decide +kernel
theorem dX10_init_8 : decode cX10_init 8 = .ok (.dup, 1) := by decide +kernel
theorem dX10_init_9 : decode cX10_init 9 = .ok (.invokespecial 9, 3) := by decide +kernel
theorem dX10_init_12 : decode cX10_init 12 = .ok (.putfield 10, 3) := by decide +kernel
theorem dX10_init_15 : decode cX10_init 15 = .ok (.aload_n 0, 1) := by decide +kernel
theorem dX10_init_16 : decode cX10_init 16 = .ok (.new 7, 3) := by decide +kernel
theorem dX10_init_19 : decode cX10_init 19 = .ok (.dup, 1) := by decide +kernel
theorem dX10_init_20 : decode cX10_init 20 = .ok (.invokespecial 9, 3) := by decide +kernel
theorem dX10_init_23 : decode cX10_init 23 = .ok (.putfield 16, 3) := by decide +kernel
theorem dX10_init_26 : decode cX10_init 26 = .ok (.aload_n 0, 1) := by decide +kernel
theorem dX10_init_27 : decode cX10_init 27 = .ok (.new 7, 3) := by decide +kernel
theorem dX10_init_30 : decode cX10_init 30 = .ok (.dup, 1) := by decide +kernel
theorem dX10_init_31 : decode cX10_init 31 = .ok (.invokespecial 9, 3) := by decide +kernel
theorem dX10_init_34 : decode cX10_init 34 = .ok (.putfield 19, 3) := by decide +kernel
theorem dX10_init_37 : decode cX10_init 37 = .ok (.aload_n 0, 1) := by decide +kernel
theorem dX10_init_38 : decode cX10_init 38 = .ok (.iconst 0, 1) := by decide +kernel
theorem dX10_init_39 : decode cX10_init 39 = .ok (.putfield 22, 3) := by decide +kernel
theorem dX10_init_42 : decode cX10_init 42 = .ok (.aload_n 0, 1) := by decide +kernel
theorem dX10_init_43 : decode cX10_init 43 = .ok (.new 26, 3) := by decide +kernel
theorem dX10_init_46 : decode cX10_init 46 = .ok (.dup, 1) := by decide +kernel
theorem dX10_init_47 : decode cX10_init 47 = .ok (.invokespecial 28, 3) := by decide +kernel
theorem dX10_init_50 : decode cX10_init 50 = .ok (.putfield 29, 3) := by decide +kernel
theorem dX10_init_53 : decode cX10_init 53 = .ok (.aload_n 0, 1) := by decide +kernel
theorem dX10_init_54 : decode cX10_init 54 = .ok (.new 33, 3) := by decide +kernel
theorem dX10_init_57 : decode cX10_init 57 = .ok (.dup, 1) := by decide +kernel
theorem dX10_init_58 : decode cX10_init 58 = .ok (.invokespecial 35, 3) := by decide +kernel
theorem dX10_init_61 : decode cX10_init 61 = .ok (.putfield 36, 3) := by decide +kernel
theorem dX10_init_64 : decode cX10_init 64 = .ok (.aload_n 0, 1) := by decide +kernel
theorem dX10_init_65 : decode cX10_init 65 = .ok (.new 40, 3) := by decide +kernel
theorem dX10_init_68 : decode cX10_init 68 = .ok (.dup, 1) := by decide +kernel
theorem dX10_init_69 : decode cX10_init 69 = .ok (.invokespecial 42, 3) := by decide +kernel
theorem dX10_init_72 : decode cX10_init 72 = .ok (.putfield 43, 3) := by decide +kernel
theorem dX10_init_75 : decode cX10_init 75 = .ok (.aload_n 0, 1) := by decide +kernel
theorem dX10_init_76 : decode cX10_init 76 = .ok (.new 47, 3) := by decide +kernel
theorem dX10_init_79 : decode cX10_init 79 = .ok (.dup, 1) := by decide +kernel
theorem dX10_init_80 : decode cX10_init 80 = .ok (.invokespecial 49, 3) := by decide +kernel
theorem dX10_init_83 : decode cX10_init 83 = .ok (.putfield 50, 3) := by decide +kernel
theorem dX10_init_86 : decode cX10_init 86 = .ok (.aload_n 0, 1) := by decide +kernel
theorem dX10_init_87 : decode cX10_init 87 = .ok (.new 54, 3) := by decide +kernel
theorem dX10_init_90 : decode cX10_init 90 = .ok (.dup, 1) := by decide +kernel
theorem dX10_init_91 : decode cX10_init 91 = .ok (.invokespecial 56, 3) := by decide +kernel
theorem dX10_init_94 : decode cX10_init 94 = .ok (.putfield 57, 3) := by decide +kernel
theorem dX10_init_97 : decode cX10_init 97 = .ok (.return_, 1) := by decide +kernel
theorem dX10_family_0 : decode cX10_family 0 = .ok (.iload_n 1, 1) := by decide +kernel
theorem dX10_family_1 : decode cX10_family 1 = .ok (.iconst 0, 1) := by decide +kernel
theorem dX10_family_2 : decode cX10_family 2 = .ok (.iconst 5, 1) := by decide +kernel
theorem dX10_family_3 : decode cX10_family 3 = .ok (.invokestatic 61, 3) := by decide +kernel
theorem dX10_family_6 : decode cX10_family 6 = .ok (.ifCond .ne 5, 3) := by decide +kernel
theorem dX10_family_9 : decode cX10_family 9 = .ok (.iconst (-1), 1) := by decide +kernel
theorem dX10_family_10 : decode cX10_family 10 = .ok (.ireturn, 1) := by decide +kernel
theorem dX10_family_11 : decode cX10_family 11 = .ok (.iload_n 2, 1) := by decide +kernel
theorem dX10_family_12 : decode cX10_family 12 = .ok (.invokestatic 65, 3) := by decide +kernel
theorem dX10_family_15 : decode cX10_family 15 = .ok (.ifCond .eq 24, 3) := by decide +kernel
theorem dX10_family_18 : decode cX10_family 18 = .ok (.iload_n 3, 1) := by decide +kernel
theorem dX10_family_19 : decode cX10_family 19 = .ok (.iconst 0, 1) := by decide +kernel
theorem dX10_family_20 : decode cX10_family 20 = .ok (.bipush 60, 2) := by decide +kernel
theorem dX10_family_22 : decode cX10_family 22 = .ok (.invokestatic 61, 3) := by decide +kernel
theorem dX10_family_25 : decode cX10_family 25 = .ok (.ifCond .eq 14, 3) := by decide +kernel
theorem dX10_family_28 : decode cX10_family 28 = .ok (.iload 4, 2) := by decide +kernel
theorem dX10_family_30 : decode cX10_family 30 = .ok (.iconst 1, 1) := by decide +kernel
theorem dX10_family_31 : decode cX10_family 31 = .ok (.bipush 9, 2) := by decide +kernel
theorem dX10_family_33 : decode cX10_family 33 = .ok (.invokestatic 61, 3) := by decide +kernel
theorem dX10_family_36 : decode cX10_family 36 = .ok (.ifCond .ne 6, 3) := by decide +kernel
theorem dX10_family_39 : decode cX10_family 39 = .ok (.bipush (-2), 2) := by decide +kernel
theorem dX10_family_41 : decode cX10_family 41 = .ok (.ireturn, 1) := by decide +kernel
theorem dX10_family_42 : decode cX10_family 42 = .ok (.aload_n 0, 1) := by decide +kernel
theorem dX10_family_43 : decode cX10_family 43 = .ok (.getfield 10, 3) := by decide +kernel
theorem dX10_family_46 : decode cX10_family 46 = .ok (.getfield 69, 3) := by decide +kernel
theorem dX10_family_49 : decode cX10_family 49 = .ok (.iload_n 2, 1) := by decide +kernel
theorem dX10_family_50 : decode cX10_family 50 = .ok (.invokevirtual 73, 3) := by decide +kernel
theorem dX10_family_53 : decode cX10_family 53 = .ok (.istore 5, 2) := by decide +kernel
theorem dX10_family_55 : decode cX10_family 55 = .ok (.iload 5, 2) := by decide +kernel
theorem dX10_family_57 : decode cX10_family 57 = .ok (.iconst (-1), 1) := by decide +kernel
theorem dX10_family_58 : decode cX10_family 58 = .ok (.if_icmp .eq 12, 3) := by decide +kernel
theorem dX10_family_61 : decode cX10_family 61 = .ok (.iload 5, 2) := by decide +kernel
theorem dX10_family_63 : decode cX10_family 63 = .ok (.iload_n 1, 1) := by decide +kernel
theorem dX10_family_64 : decode cX10_family 64 = .ok (.if_icmp .eq 6, 3) := by decide +kernel
theorem dX10_family_67 : decode cX10_family 67 = .ok (.bipush (-3), 2) := by decide +kernel
theorem dX10_family_69 : decode cX10_family 69 = .ok (.ireturn, 1) := by decide +kernel
theorem dX10_family_70 : decode cX10_family 70 = .ok (.aload_n 0, 1) := by decide +kernel
theorem dX10_family_71 : decode cX10_family 71 = .ok (.getfield 10, 3) := by decide +kernel
theorem dX10_family_74 : decode cX10_family 74 = .ok (.getfield 69, 3) := by decide +kernel
theorem dX10_family_77 : decode cX10_family 77 = .ok (.iload_n 1, 1) := by decide +kernel
theorem dX10_family_78 : decode cX10_family 78 = .ok (.iload_n 2, 1) := by decide +kernel
theorem dX10_family_79 : decode cX10_family 79 = .ok (.iload_n 3, 1) := by decide +kernel
theorem dX10_family_80 : decode cX10_family 80 = .ok (.iload 4, 2) := by decide +kernel
theorem dX10_family_82 : decode cX10_family 82 = .ok (.invokevirtual 79, 3) := by decide +kernel
theorem dX10_family_85 : decode cX10_family 85 = .ok (.aload_n 0, 1) := by decide +kernel
theorem dX10_family_86 : decode cX10_family 86 = .ok (.getfield 10, 3) := by decide +kernel
theorem dX10_family_89 : decode cX10_family 89 = .ok (.getfield 69, 3) := by decide +kernel
theorem dX10_family_92 : decode cX10_family 92 = .ok (.invokevirtual 83, 3) := by decide +kernel
theorem dX10_family_95 : decode cX10_family 95 = .ok (.ireturn, 1) := by decide +kernel
theorem dX10_leave_0 : decode cX10_leave 0 = .ok (.aload_n 0, 1) := by decide +kernel
theorem dX10_leave_1 : decode cX10_leave 1 = .ok (.getfield 10, 3) := by decide +kernel
theorem dX10_leave_4 : decode cX10_leave 4 = .ok (.getfield 69, 3) := by decide +kernel
theorem dX10_leave_7 : decode cX10_leave 7 = .ok (.iload_n 1, 1) := by decide +kernel
theorem dX10_leave_8 : decode cX10_leave 8 = .ok (.invokevirtual 87, 3) := by decide +kernel
theorem dX10_leave_11 : decode cX10_leave 11 = .ok (.ifCond .ne 5, 3) := by decide +kernel
theorem dX10_leave_14 : decode cX10_leave 14 = .ok (.iconst (-1), 1) := by decide +kernel
theorem dX10_leave_15 : decode cX10_leave 15 = .ok (.ireturn, 1) := by decide +kernel
theorem dX10_leave_16 : decode cX10_leave 16 = .ok (.aload_n 0, 1) := by decide +kernel
theorem dX10_leave_17 : decode cX10_leave 17 = .ok (.getfield 10, 3) := by decide +kernel
theorem dX10_leave_20 : decode cX10_leave 20 = .ok (.getfield 69, 3) := by decide +kernel
theorem dX10_leave_23 : decode cX10_leave 23 = .ok (.iload_n 1, 1) := by decide +kernel
theorem dX10_leave_24 : decode cX10_leave 24 = .ok (.invokevirtual 90, 3) := by decide +kernel
theorem dX10_leave_27 : decode cX10_leave 27 = .ok (.aload_n 0, 1) := by decide +kernel
theorem dX10_leave_28 : decode cX10_leave 28 = .ok (.getfield 10, 3) := by decide +kernel
theorem dX10_leave_31 : decode cX10_leave 31 = .ok (.getfield 69, 3) := by decide +kernel
theorem dX10_leave_34 : decode cX10_leave 34 = .ok (.invokevirtual 83, 3) := by decide +kernel
theorem dX10_leave_37 : decode cX10_leave 37 = .ok (.ireturn, 1) := by decide +kernel
theorem dX10_lay_0 : decode cX10_lay 0 = .ok (.iload_n 1, 1) := by decide +kernel
theorem dX10_lay_1 : decode cX10_lay 1 = .ok (.invokestatic 65, 3) := by decide +kernel
theorem dX10_lay_4 : decode cX10_lay 4 = .ok (.ifCond .eq 14, 3) := by decide +kernel
theorem dX10_lay_7 : decode cX10_lay 7 = .ok (.iload_n 2, 1) := by decide +kernel
theorem dX10_lay_8 : decode cX10_lay 8 = .ok (.iconst 0, 1) := by decide +kernel
theorem dX10_lay_9 : decode cX10_lay 9 = .ok (.sipush 999, 3) := by decide +kernel
theorem dX10_lay_12 : decode cX10_lay 12 = .ok (.invokestatic 61, 3) := by decide +kernel
theorem dX10_lay_15 : decode cX10_lay 15 = .ok (.ifCond .ne 6, 3) := by decide +kernel
theorem dX10_lay_18 : decode cX10_lay 18 = .ok (.bipush (-2), 2) := by decide +kernel
theorem dX10_lay_20 : decode cX10_lay 20 = .ok (.ireturn, 1) := by decide +kernel
theorem dX10_lay_21 : decode cX10_lay 21 = .ok (.aload_n 0, 1) := by decide +kernel
theorem dX10_lay_22 : decode cX10_lay 22 = .ok (.getfield 10, 3) := by decide +kernel
theorem dX10_lay_25 : decode cX10_lay 25 = .ok (.getfield 69, 3) := by decide +kernel
theorem dX10_lay_28 : decode cX10_lay 28 = .ok (.getfield 94, 3) := by decide +kernel
theorem dX10_lay_31 : decode cX10_lay 31 = .ok (.iload_n 1, 1) := by decide +kernel
theorem dX10_lay_32 : decode cX10_lay 32 = .ok (.iaload, 1) := by decide +kernel
theorem dX10_lay_33 : decode cX10_lay 33 = .ok (.istore_n 3, 1) := by decide +kernel
theorem dX10_lay_34 : decode cX10_lay 34 = .ok (.aload_n 0, 1) := by decide +kernel
theorem dX10_lay_35 : decode cX10_lay 35 = .ok (.getfield 10, 3) := by decide +kernel
theorem dX10_lay_38 : decode cX10_lay 38 = .ok (.getfield 69, 3) := by decide +kernel
theorem dX10_lay_41 : decode cX10_lay 41 = .ok (.getfield 94, 3) := by decide +kernel
theorem dX10_lay_44 : decode cX10_lay 44 = .ok (.iload_n 1, 1) := by decide +kernel
theorem dX10_lay_45 : decode cX10_lay 45 = .ok (.iload_n 2, 1) := by decide +kernel
theorem dX10_lay_46 : decode cX10_lay 46 = .ok (.iastore, 1) := by decide +kernel
theorem dX10_lay_47 : decode cX10_lay 47 = .ok (.iload_n 3, 1) := by decide +kernel
theorem dX10_lay_48 : decode cX10_lay 48 = .ok (.ireturn, 1) := by decide +kernel
theorem dX10_set_0 : decode cX10_set 0 = .ok (.iload_n 1, 1) := by decide +kernel
theorem dX10_set_1 : decode cX10_set 1 = .ok (.tableswitch 87 0 2 #[27, 47, 67], 27) := by decide +kernel
theorem dX10_set_28 : decode cX10_set 28 = .ok (.iload_n 2, 1) := by decide +kernel
theorem dX10_set_29 : decode cX10_set 29 = .ok (.iconst 0, 1) := by decide +kernel
theorem dX10_set_30 : decode cX10_set 30 = .ok (.iconst 3, 1) := by decide +kernel
theorem dX10_set_31 : decode cX10_set 31 = .ok (.invokestatic 61, 3) := by decide +kernel
theorem dX10_set_34 : decode cX10_set 34 = .ok (.ifCond .eq 11, 3) := by decide +kernel
theorem dX10_set_37 : decode cX10_set 37 = .ok (.aload_n 0, 1) := by decide +kernel
theorem dX10_set_38 : decode cX10_set 38 = .ok (.iload_n 2, 1) := by decide +kernel
theorem dX10_set_39 : decode cX10_set 39 = .ok (.invokevirtual 98, 3) := by decide +kernel
theorem dX10_set_42 : decode cX10_set 42 = .ok (.goto 5, 3) := by decide +kernel
theorem dX10_set_45 : decode cX10_set 45 = .ok (.bipush (-2), 2) := by decide +kernel
theorem dX10_set_47 : decode cX10_set 47 = .ok (.ireturn, 1) := by decide +kernel
theorem dX10_set_48 : decode cX10_set 48 = .ok (.iload_n 2, 1) := by decide +kernel
theorem dX10_set_49 : decode cX10_set 49 = .ok (.iconst 0, 1) := by decide +kernel
theorem dX10_set_50 : decode cX10_set 50 = .ok (.iconst 5, 1) := by decide +kernel
theorem dX10_set_51 : decode cX10_set 51 = .ok (.invokestatic 61, 3) := by decide +kernel
theorem dX10_set_54 : decode cX10_set 54 = .ok (.ifCond .eq 11, 3) := by decide +kernel
theorem dX10_set_57 : decode cX10_set 57 = .ok (.aload_n 0, 1) := by decide +kernel
theorem dX10_set_58 : decode cX10_set 58 = .ok (.iload_n 2, 1) := by decide +kernel
theorem dX10_set_59 : decode cX10_set 59 = .ok (.invokevirtual 101, 3) := by decide +kernel
theorem dX10_set_62 : decode cX10_set 62 = .ok (.goto 5, 3) := by decide +kernel
theorem dX10_set_65 : decode cX10_set 65 = .ok (.bipush (-2), 2) := by decide +kernel
theorem dX10_set_67 : decode cX10_set 67 = .ok (.ireturn, 1) := by decide +kernel
theorem dX10_set_68 : decode cX10_set 68 = .ok (.iload_n 2, 1) := by decide +kernel
theorem dX10_set_69 : decode cX10_set 69 = .ok (.iconst 0, 1) := by decide +kernel
theorem dX10_set_70 : decode cX10_set 70 = .ok (.iconst 1, 1) := by decide +kernel
theorem dX10_set_71 : decode cX10_set 71 = .ok (.invokestatic 61, 3) := by decide +kernel
theorem dX10_set_74 : decode cX10_set 74 = .ok (.ifCond .eq 11, 3) := by decide +kernel
theorem dX10_set_77 : decode cX10_set 77 = .ok (.aload_n 0, 1) := by decide +kernel
theorem dX10_set_78 : decode cX10_set 78 = .ok (.iload_n 2, 1) := by decide +kernel
theorem dX10_set_79 : decode cX10_set 79 = .ok (.invokevirtual 104, 3) := by decide +kernel
theorem dX10_set_82 : decode cX10_set 82 = .ok (.goto 5, 3) := by decide +kernel
theorem dX10_set_85 : decode cX10_set 85 = .ok (.bipush (-2), 2) := by decide +kernel
theorem dX10_set_87 : decode cX10_set 87 = .ok (.ireturn, 1) := by decide +kernel
theorem dX10_set_88 : decode cX10_set 88 = .ok (.bipush (-2), 2) := by decide +kernel
theorem dX10_set_90 : decode cX10_set 90 = .ok (.ireturn, 1) := by decide +kernel
theorem dX10_turnWind_0 : decode cX10_turnWind 0 = .ok (.aload_n 0, 1) := by decide +kernel
theorem dX10_turnWind_1 : decode cX10_turnWind 1 = .ok (.getfield 10, 3) := by decide +kernel
theorem dX10_turnWind_4 : decode cX10_turnWind 4 = .ok (.getfield 69, 3) := by decide +kernel
theorem dX10_turnWind_7 : decode cX10_turnWind 7 = .ok (.getfield 107, 3) := by decide +kernel
theorem dX10_turnWind_10 : decode cX10_turnWind 10 = .ok (.istore_n 2, 1) := by decide +kernel
theorem dX10_turnWind_11 : decode cX10_turnWind 11 = .ok (.aload_n 0, 1) := by decide +kernel
theorem dX10_turnWind_12 : decode cX10_turnWind 12 = .ok (.getfield 10, 3) := by decide +kernel
theorem dX10_turnWind_15 : decode cX10_turnWind 15 = .ok (.getfield 69, 3) := by decide +kernel
theorem dX10_turnWind_18 : decode cX10_turnWind 18 = .ok (.iload_n 1, 1) := by decide +kernel
theorem dX10_turnWind_19 : decode cX10_turnWind 19 = .ok (.putfield 107, 3) := by decide +kernel
theorem dX10_turnWind_22 : decode cX10_turnWind 22 = .ok (.iload_n 2, 1) := by decide +kernel
theorem dX10_turnWind_23 : decode cX10_turnWind 23 = .ok (.ireturn, 1) := by decide +kernel
theorem dX10_changeForce_0 : decode cX10_changeForce 0 = .ok (.aload_n 0, 1) := by decide +kernel
theorem dX10_changeForce_1 : decode cX10_changeForce 1 = .ok (.getfield 10, 3) := by decide +kernel
theorem dX10_changeForce_4 : decode cX10_changeForce 4 = .ok (.getfield 69, 3) := by decide +kernel
theorem dX10_changeForce_7 : decode cX10_changeForce 7 = .ok (.getfield 110, 3) := by decide +kernel
theorem dX10_changeForce_10 : decode cX10_changeForce 10 = .ok (.istore_n 2, 1) := by decide +kernel
theorem dX10_changeForce_11 : decode cX10_changeForce 11 = .ok (.aload_n 0, 1) := by decide +kernel
theorem dX10_changeForce_12 : decode cX10_changeForce 12 = .ok (.getfield 10, 3) := by decide +kernel
theorem dX10_changeForce_15 : decode cX10_changeForce 15 = .ok (.getfield 69, 3) := by decide +kernel
theorem dX10_changeForce_18 : decode cX10_changeForce 18 = .ok (.iload_n 1, 1) := by decide +kernel
theorem dX10_changeForce_19 : decode cX10_changeForce 19 = .ok (.putfield 110, 3) := by decide +kernel
theorem dX10_changeForce_22 : decode cX10_changeForce 22 = .ok (.iload_n 2, 1) := by decide +kernel
theorem dX10_changeForce_23 : decode cX10_changeForce 23 = .ok (.ireturn, 1) := by decide +kernel
theorem dX10_changeRain_0 : decode cX10_changeRain 0 = .ok (.aload_n 0, 1) := by decide +kernel
theorem dX10_changeRain_1 : decode cX10_changeRain 1 = .ok (.getfield 10, 3) := by decide +kernel
theorem dX10_changeRain_4 : decode cX10_changeRain 4 = .ok (.getfield 69, 3) := by decide +kernel
theorem dX10_changeRain_7 : decode cX10_changeRain 7 = .ok (.getfield 113, 3) := by decide +kernel
theorem dX10_changeRain_10 : decode cX10_changeRain 10 = .ok (.istore_n 2, 1) := by decide +kernel
theorem dX10_changeRain_11 : decode cX10_changeRain 11 = .ok (.aload_n 0, 1) := by decide +kernel
theorem dX10_changeRain_12 : decode cX10_changeRain 12 = .ok (.getfield 10, 3) := by decide +kernel
theorem dX10_changeRain_15 : decode cX10_changeRain 15 = .ok (.getfield 69, 3) := by decide +kernel
theorem dX10_changeRain_18 : decode cX10_changeRain 18 = .ok (.iload_n 1, 1) := by decide +kernel
theorem dX10_changeRain_19 : decode cX10_changeRain 19 = .ok (.putfield 113, 3) := by decide +kernel
theorem dX10_changeRain_22 : decode cX10_changeRain 22 = .ok (.iload_n 2, 1) := by decide +kernel
theorem dX10_changeRain_23 : decode cX10_changeRain 23 = .ok (.ireturn, 1) := by decide +kernel
theorem dX10_say_0 : decode cX10_say 0 = .ok (.iload_n 1, 1) := by decide +kernel
theorem dX10_say_1 : decode cX10_say 1 = .ok (.bipush 33, 2) := by decide +kernel
theorem dX10_say_3 : decode cX10_say 3 = .ok (.bipush 126, 2) := by decide +kernel
theorem dX10_say_5 : decode cX10_say 5 = .ok (.invokestatic 61, 3) := by decide +kernel
theorem dX10_say_8 : decode cX10_say 8 = .ok (.ifCond .ne 6, 3) := by decide +kernel
theorem dX10_say_11 : decode cX10_say 11 = .ok (.bipush (-2), 2) := by decide +kernel
theorem dX10_say_13 : decode cX10_say 13 = .ok (.ireturn, 1) := by decide +kernel
theorem dX10_say_14 : decode cX10_say 14 = .ok (.aload_n 0, 1) := by decide +kernel
theorem dX10_say_15 : decode cX10_say 15 = .ok (.getfield 29, 3) := by decide +kernel
theorem dX10_say_18 : decode cX10_say 18 = .ok (.getfield 116, 3) := by decide +kernel
theorem dX10_say_21 : decode cX10_say 21 = .ok (.bipush 60, 2) := by decide +kernel
theorem dX10_say_23 : decode cX10_say 23 = .ok (.if_icmp .lt 6, 3) := by decide +kernel
theorem dX10_say_26 : decode cX10_say 26 = .ok (.bipush (-4), 2) := by decide +kernel
theorem dX10_say_28 : decode cX10_say 28 = .ok (.ireturn, 1) := by decide +kernel
theorem dX10_say_29 : decode cX10_say 29 = .ok (.aload_n 0, 1) := by decide +kernel
theorem dX10_say_30 : decode cX10_say 30 = .ok (.getfield 29, 3) := by decide +kernel
theorem dX10_say_33 : decode cX10_say 33 = .ok (.iload_n 1, 1) := by decide +kernel
theorem dX10_say_34 : decode cX10_say 34 = .ok (.invokevirtual 119, 3) := by decide +kernel
theorem dX10_say_37 : decode cX10_say 37 = .ok (.aload_n 0, 1) := by decide +kernel
theorem dX10_say_38 : decode cX10_say 38 = .ok (.getfield 29, 3) := by decide +kernel
theorem dX10_say_41 : decode cX10_say 41 = .ok (.getfield 116, 3) := by decide +kernel
theorem dX10_say_44 : decode cX10_say 44 = .ok (.ireturn, 1) := by decide +kernel
theorem dX10_wipe_0 : decode cX10_wipe 0 = .ok (.aload_n 0, 1) := by decide +kernel
theorem dX10_wipe_1 : decode cX10_wipe 1 = .ok (.getfield 29, 3) := by decide +kernel
theorem dX10_wipe_4 : decode cX10_wipe 4 = .ok (.getfield 116, 3) := by decide +kernel
theorem dX10_wipe_7 : decode cX10_wipe 7 = .ok (.istore_n 1, 1) := by decide +kernel
theorem dX10_wipe_8 : decode cX10_wipe 8 = .ok (.aload_n 0, 1) := by decide +kernel
theorem dX10_wipe_9 : decode cX10_wipe 9 = .ok (.getfield 29, 3) := by decide +kernel
theorem dX10_wipe_12 : decode cX10_wipe 12 = .ok (.invokevirtual 122, 3) := by decide +kernel
theorem dX10_wipe_15 : decode cX10_wipe 15 = .ok (.iload_n 1, 1) := by decide +kernel
theorem dX10_wipe_16 : decode cX10_wipe 16 = .ok (.ireturn, 1) := by decide +kernel
theorem dX10_fault_0 : decode cX10_fault 0 = .ok (.aload_n 0, 1) := by decide +kernel
theorem dX10_fault_1 : decode cX10_fault 1 = .ok (.getfield 29, 3) := by decide +kernel
theorem dX10_fault_4 : decode cX10_fault 4 = .ok (.invokevirtual 125, 3) := by decide +kernel
theorem dX10_fault_7 : decode cX10_fault 7 = .ok (.ireturn, 1) := by decide +kernel
theorem dX10_judge_0 : decode cX10_judge 0 = .ok (.iload_n 1, 1) := by decide +kernel
theorem dX10_judge_1 : decode cX10_judge 1 = .ok (.iconst 0, 1) := by decide +kernel
theorem dX10_judge_2 : decode cX10_judge 2 = .ok (.iconst 2, 1) := by decide +kernel
theorem dX10_judge_3 : decode cX10_judge 3 = .ok (.invokestatic 61, 3) := by decide +kernel
theorem dX10_judge_6 : decode cX10_judge 6 = .ok (.ifCond .ne 6, 3) := by decide +kernel
theorem dX10_judge_9 : decode cX10_judge 9 = .ok (.bipush (-2), 2) := by decide +kernel
theorem dX10_judge_11 : decode cX10_judge 11 = .ok (.ireturn, 1) := by decide +kernel
theorem dX10_judge_12 : decode cX10_judge 12 = .ok (.aload_n 0, 1) := by decide +kernel
theorem dX10_judge_13 : decode cX10_judge 13 = .ok (.getfield 36, 3) := by decide +kernel
theorem dX10_judge_16 : decode cX10_judge 16 = .ok (.aload_n 0, 1) := by decide +kernel
theorem dX10_judge_17 : decode cX10_judge 17 = .ok (.getfield 10, 3) := by decide +kernel
theorem dX10_judge_20 : decode cX10_judge 20 = .ok (.getfield 69, 3) := by decide +kernel
theorem dX10_judge_23 : decode cX10_judge 23 = .ok (.aload_n 0, 1) := by decide +kernel
theorem dX10_judge_24 : decode cX10_judge 24 = .ok (.getfield 29, 3) := by decide +kernel
theorem dX10_judge_27 : decode cX10_judge 27 = .ok (.invokevirtual 128, 3) := by decide +kernel
theorem dX10_judge_30 : decode cX10_judge 30 = .ok (.istore_n 2, 1) := by decide +kernel
theorem dX10_judge_31 : decode cX10_judge 31 = .ok (.iload_n 2, 1) := by decide +kernel
theorem dX10_judge_32 : decode cX10_judge 32 = .ok (.bipush (-5), 2) := by decide +kernel
theorem dX10_judge_34 : decode cX10_judge 34 = .ok (.if_icmp .ne 6, 3) := by decide +kernel
theorem dX10_judge_37 : decode cX10_judge 37 = .ok (.bipush (-5), 2) := by decide +kernel
theorem dX10_judge_39 : decode cX10_judge 39 = .ok (.ireturn, 1) := by decide +kernel
theorem dX10_judge_40 : decode cX10_judge 40 = .ok (.iload_n 1, 1) := by decide +kernel
theorem dX10_judge_41 : decode cX10_judge 41 = .ok (.lookupswitch 43 #[(0, 27), (1, 35)], 27) := by decide +kernel
theorem dX10_judge_68 : decode cX10_judge 68 = .ok (.aload_n 0, 1) := by decide +kernel
theorem dX10_judge_69 : decode cX10_judge 69 = .ok (.getfield 36, 3) := by decide +kernel
theorem dX10_judge_72 : decode cX10_judge 72 = .ok (.getfield 132, 3) := by decide +kernel
theorem dX10_judge_75 : decode cX10_judge 75 = .ok (.ireturn, 1) := by decide +kernel
theorem dX10_judge_76 : decode cX10_judge 76 = .ok (.aload_n 0, 1) := by decide +kernel
theorem dX10_judge_77 : decode cX10_judge 77 = .ok (.getfield 36, 3) := by decide +kernel
theorem dX10_judge_80 : decode cX10_judge 80 = .ok (.getfield 135, 3) := by decide +kernel
theorem dX10_judge_83 : decode cX10_judge 83 = .ok (.ireturn, 1) := by decide +kernel
theorem dX10_judge_84 : decode cX10_judge 84 = .ok (.iload_n 2, 1) := by decide +kernel
theorem dX10_judge_85 : decode cX10_judge 85 = .ok (.ifCond .ne 13, 3) := by decide +kernel
theorem dX10_judge_88 : decode cX10_judge 88 = .ok (.aload_n 0, 1) := by decide +kernel
theorem dX10_judge_89 : decode cX10_judge 89 = .ok (.getfield 36, 3) := by decide +kernel
theorem dX10_judge_92 : decode cX10_judge 92 = .ok (.getfield 138, 3) := by decide +kernel
theorem dX10_judge_95 : decode cX10_judge 95 = .ok (.goto 4, 3) := by decide +kernel
theorem dX10_judge_98 : decode cX10_judge 98 = .ok (.iload_n 2, 1) := by decide +kernel
theorem dX10_judge_99 : decode cX10_judge 99 = .ok (.ireturn, 1) := by decide +kernel
theorem dX10_behind_0 : decode cX10_behind 0 = .ok (.aload_n 0, 1) := by decide +kernel
theorem dX10_behind_1 : decode cX10_behind 1 = .ok (.getfield 10, 3) := by decide +kernel
theorem dX10_behind_4 : decode cX10_behind 4 = .ok (.getfield 69, 3) := by decide +kernel
theorem dX10_behind_7 : decode cX10_behind 7 = .ok (.iload_n 1, 1) := by decide +kernel
theorem dX10_behind_8 : decode cX10_behind 8 = .ok (.invokevirtual 87, 3) := by decide +kernel
theorem dX10_behind_11 : decode cX10_behind 11 = .ok (.ifCond .ne 5, 3) := by decide +kernel
theorem dX10_behind_14 : decode cX10_behind 14 = .ok (.iconst (-1), 1) := by decide +kernel
theorem dX10_behind_15 : decode cX10_behind 15 = .ok (.ireturn, 1) := by decide +kernel
theorem dX10_behind_16 : decode cX10_behind 16 = .ok (.iload_n 2, 1) := by decide +kernel
theorem dX10_behind_17 : decode cX10_behind 17 = .ok (.iconst 0, 1) := by decide +kernel
theorem dX10_behind_18 : decode cX10_behind 18 = .ok (.iconst 1, 1) := by decide +kernel
theorem dX10_behind_19 : decode cX10_behind 19 = .ok (.invokestatic 61, 3) := by decide +kernel
theorem dX10_behind_22 : decode cX10_behind 22 = .ok (.ifCond .ne 6, 3) := by decide +kernel
theorem dX10_behind_25 : decode cX10_behind 25 = .ok (.bipush (-2), 2) := by decide +kernel
theorem dX10_behind_27 : decode cX10_behind 27 = .ok (.ireturn, 1) := by decide +kernel
theorem dX10_behind_28 : decode cX10_behind 28 = .ok (.aload_n 0, 1) := by decide +kernel
theorem dX10_behind_29 : decode cX10_behind 29 = .ok (.getfield 36, 3) := by decide +kernel
theorem dX10_behind_32 : decode cX10_behind 32 = .ok (.aload_n 0, 1) := by decide +kernel
theorem dX10_behind_33 : decode cX10_behind 33 = .ok (.getfield 10, 3) := by decide +kernel
theorem dX10_behind_36 : decode cX10_behind 36 = .ok (.getfield 69, 3) := by decide +kernel
theorem dX10_behind_39 : decode cX10_behind 39 = .ok (.aload_n 0, 1) := by decide +kernel
theorem dX10_behind_40 : decode cX10_behind 40 = .ok (.getfield 29, 3) := by decide +kernel
theorem dX10_behind_43 : decode cX10_behind 43 = .ok (.invokevirtual 128, 3) := by decide +kernel
theorem dX10_behind_46 : decode cX10_behind 46 = .ok (.istore_n 3, 1) := by decide +kernel
theorem dX10_behind_47 : decode cX10_behind 47 = .ok (.iload_n 3, 1) := by decide +kernel
theorem dX10_behind_48 : decode cX10_behind 48 = .ok (.ifCond .eq 5, 3) := by decide +kernel
theorem dX10_behind_51 : decode cX10_behind 51 = .ok (.iload_n 3, 1) := by decide +kernel
theorem dX10_behind_52 : decode cX10_behind 52 = .ok (.ireturn, 1) := by decide +kernel
theorem dX10_behind_53 : decode cX10_behind 53 = .ok (.iload_n 2, 1) := by decide +kernel
theorem dX10_behind_54 : decode cX10_behind 54 = .ok (.ifCond .ne 18, 3) := by decide +kernel
theorem dX10_behind_57 : decode cX10_behind 57 = .ok (.aload_n 0, 1) := by decide +kernel
theorem dX10_behind_58 : decode cX10_behind 58 = .ok (.getfield 36, 3) := by decide +kernel
theorem dX10_behind_61 : decode cX10_behind 61 = .ok (.getfield 141, 3) := by decide +kernel
theorem dX10_behind_64 : decode cX10_behind 64 = .ok (.getfield 142, 3) := by decide +kernel
theorem dX10_behind_67 : decode cX10_behind 67 = .ok (.iload_n 1, 1) := by decide +kernel
theorem dX10_behind_68 : decode cX10_behind 68 = .ok (.iaload, 1) := by decide +kernel
theorem dX10_behind_69 : decode cX10_behind 69 = .ok (.goto 15, 3) := by decide +kernel
theorem dX10_behind_72 : decode cX10_behind 72 = .ok (.aload_n 0, 1) := by decide +kernel
theorem dX10_behind_73 : decode cX10_behind 73 = .ok (.getfield 36, 3) := by decide +kernel
theorem dX10_behind_76 : decode cX10_behind 76 = .ok (.getfield 141, 3) := by decide +kernel
theorem dX10_behind_79 : decode cX10_behind 79 = .ok (.getfield 145, 3) := by decide +kernel
theorem dX10_behind_82 : decode cX10_behind 82 = .ok (.iload_n 1, 1) := by decide +kernel
theorem dX10_behind_83 : decode cX10_behind 83 = .ok (.iaload, 1) := by decide +kernel
theorem dX10_behind_84 : decode cX10_behind 84 = .ok (.ireturn, 1) := by decide +kernel
theorem dX10_lies_0 : decode cX10_lies 0 = .ok (.iload_n 1, 1) := by decide +kernel
theorem dX10_lies_1 : decode cX10_lies 1 = .ok (.invokestatic 65, 3) := by decide +kernel
theorem dX10_lies_4 : decode cX10_lies 4 = .ok (.ifCond .ne 6, 3) := by decide +kernel
theorem dX10_lies_7 : decode cX10_lies 7 = .ok (.bipush (-2), 2) := by decide +kernel
theorem dX10_lies_9 : decode cX10_lies 9 = .ok (.ireturn, 1) := by decide +kernel
theorem dX10_lies_10 : decode cX10_lies 10 = .ok (.aload_n 0, 1) := by decide +kernel
theorem dX10_lies_11 : decode cX10_lies 11 = .ok (.getfield 36, 3) := by decide +kernel
theorem dX10_lies_14 : decode cX10_lies 14 = .ok (.aload_n 0, 1) := by decide +kernel
theorem dX10_lies_15 : decode cX10_lies 15 = .ok (.getfield 10, 3) := by decide +kernel
theorem dX10_lies_18 : decode cX10_lies 18 = .ok (.getfield 69, 3) := by decide +kernel
theorem dX10_lies_21 : decode cX10_lies 21 = .ok (.aload_n 0, 1) := by decide +kernel
theorem dX10_lies_22 : decode cX10_lies 22 = .ok (.getfield 29, 3) := by decide +kernel
theorem dX10_lies_25 : decode cX10_lies 25 = .ok (.invokevirtual 128, 3) := by decide +kernel
theorem dX10_lies_28 : decode cX10_lies 28 = .ok (.istore_n 2, 1) := by decide +kernel
theorem dX10_lies_29 : decode cX10_lies 29 = .ok (.iload_n 2, 1) := by decide +kernel
theorem dX10_lies_30 : decode cX10_lies 30 = .ok (.ifCond .ne 18, 3) := by decide +kernel
theorem dX10_lies_33 : decode cX10_lies 33 = .ok (.aload_n 0, 1) := by decide +kernel
theorem dX10_lies_34 : decode cX10_lies 34 = .ok (.getfield 36, 3) := by decide +kernel
theorem dX10_lies_37 : decode cX10_lies 37 = .ok (.getfield 141, 3) := by decide +kernel
theorem dX10_lies_40 : decode cX10_lies 40 = .ok (.getfield 94, 3) := by decide +kernel
theorem dX10_lies_43 : decode cX10_lies 43 = .ok (.iload_n 1, 1) := by decide +kernel
theorem dX10_lies_44 : decode cX10_lies 44 = .ok (.iaload, 1) := by decide +kernel
theorem dX10_lies_45 : decode cX10_lies 45 = .ok (.goto 4, 3) := by decide +kernel
theorem dX10_lies_48 : decode cX10_lies 48 = .ok (.iload_n 2, 1) := by decide +kernel
theorem dX10_lies_49 : decode cX10_lies 49 = .ok (.ireturn, 1) := by decide +kernel
theorem dX10_total_0 : decode cX10_total 0 = .ok (.iload_n 1, 1) := by decide +kernel
theorem dX10_total_1 : decode cX10_total 1 = .ok (.iconst 0, 1) := by decide +kernel
theorem dX10_total_2 : decode cX10_total 2 = .ok (.iconst 3, 1) := by decide +kernel
theorem dX10_total_3 : decode cX10_total 3 = .ok (.invokestatic 61, 3) := by decide +kernel
theorem dX10_total_6 : decode cX10_total 6 = .ok (.ifCond .ne 6, 3) := by decide +kernel
theorem dX10_total_9 : decode cX10_total 9 = .ok (.bipush (-2), 2) := by decide +kernel
theorem dX10_total_11 : decode cX10_total 11 = .ok (.ireturn, 1) := by decide +kernel
theorem dX10_total_12 : decode cX10_total 12 = .ok (.aload_n 0, 1) := by decide +kernel
theorem dX10_total_13 : decode cX10_total 13 = .ok (.getfield 36, 3) := by decide +kernel
theorem dX10_total_16 : decode cX10_total 16 = .ok (.aload_n 0, 1) := by decide +kernel
theorem dX10_total_17 : decode cX10_total 17 = .ok (.getfield 10, 3) := by decide +kernel
theorem dX10_total_20 : decode cX10_total 20 = .ok (.getfield 69, 3) := by decide +kernel
theorem dX10_total_23 : decode cX10_total 23 = .ok (.aload_n 0, 1) := by decide +kernel
theorem dX10_total_24 : decode cX10_total 24 = .ok (.getfield 29, 3) := by decide +kernel
theorem dX10_total_27 : decode cX10_total 27 = .ok (.invokevirtual 128, 3) := by decide +kernel
theorem dX10_total_30 : decode cX10_total 30 = .ok (.istore_n 2, 1) := by decide +kernel
theorem dX10_total_31 : decode cX10_total 31 = .ok (.iload_n 2, 1) := by decide +kernel
theorem dX10_total_32 : decode cX10_total 32 = .ok (.ifCond .eq 5, 3) := by decide +kernel
theorem dX10_total_35 : decode cX10_total 35 = .ok (.iload_n 2, 1) := by decide +kernel
theorem dX10_total_36 : decode cX10_total 36 = .ok (.ireturn, 1) := by decide +kernel
theorem dX10_total_37 : decode cX10_total 37 = .ok (.iload_n 1, 1) := by decide +kernel
theorem dX10_total_38 : decode cX10_total 38 = .ok (.iconst 3, 1) := by decide +kernel
theorem dX10_total_39 : decode cX10_total 39 = .ok (.if_icmp .ne 16, 3) := by decide +kernel
theorem dX10_total_42 : decode cX10_total 42 = .ok (.aload_n 0, 1) := by decide +kernel
theorem dX10_total_43 : decode cX10_total 43 = .ok (.getfield 36, 3) := by decide +kernel
theorem dX10_total_46 : decode cX10_total 46 = .ok (.getfield 141, 3) := by decide +kernel
theorem dX10_total_49 : decode cX10_total 49 = .ok (.getfield 148, 3) := by decide +kernel
theorem dX10_total_52 : decode cX10_total 52 = .ok (.goto 14, 3) := by decide +kernel
theorem dX10_total_55 : decode cX10_total 55 = .ok (.aload_n 0, 1) := by decide +kernel
theorem dX10_total_56 : decode cX10_total 56 = .ok (.getfield 36, 3) := by decide +kernel
theorem dX10_total_59 : decode cX10_total 59 = .ok (.getfield 141, 3) := by decide +kernel
theorem dX10_total_62 : decode cX10_total 62 = .ok (.iload_n 1, 1) := by decide +kernel
theorem dX10_total_63 : decode cX10_total 63 = .ok (.invokestatic 151, 3) := by decide +kernel
theorem dX10_total_66 : decode cX10_total 66 = .ok (.ireturn, 1) := by decide +kernel
theorem dX10_ruined_0 : decode cX10_ruined 0 = .ok (.iload_n 1, 1) := by decide +kernel
theorem dX10_ruined_1 : decode cX10_ruined 1 = .ok (.iconst 0, 1) := by decide +kernel
theorem dX10_ruined_2 : decode cX10_ruined 2 = .ok (.iconst 1, 1) := by decide +kernel
theorem dX10_ruined_3 : decode cX10_ruined 3 = .ok (.invokestatic 61, 3) := by decide +kernel
theorem dX10_ruined_6 : decode cX10_ruined 6 = .ok (.ifCond .ne 6, 3) := by decide +kernel
theorem dX10_ruined_9 : decode cX10_ruined 9 = .ok (.bipush (-2), 2) := by decide +kernel
theorem dX10_ruined_11 : decode cX10_ruined 11 = .ok (.ireturn, 1) := by decide +kernel
theorem dX10_ruined_12 : decode cX10_ruined 12 = .ok (.aload_n 0, 1) := by decide +kernel
theorem dX10_ruined_13 : decode cX10_ruined 13 = .ok (.getfield 36, 3) := by decide +kernel
theorem dX10_ruined_16 : decode cX10_ruined 16 = .ok (.aload_n 0, 1) := by decide +kernel
theorem dX10_ruined_17 : decode cX10_ruined 17 = .ok (.getfield 10, 3) := by decide +kernel
theorem dX10_ruined_20 : decode cX10_ruined 20 = .ok (.getfield 69, 3) := by decide +kernel
theorem dX10_ruined_23 : decode cX10_ruined 23 = .ok (.aload_n 0, 1) := by decide +kernel
theorem dX10_ruined_24 : decode cX10_ruined 24 = .ok (.getfield 29, 3) := by decide +kernel
theorem dX10_ruined_27 : decode cX10_ruined 27 = .ok (.invokevirtual 128, 3) := by decide +kernel
theorem dX10_ruined_30 : decode cX10_ruined 30 = .ok (.istore_n 2, 1) := by decide +kernel
theorem dX10_ruined_31 : decode cX10_ruined 31 = .ok (.iload_n 2, 1) := by decide +kernel
theorem dX10_ruined_32 : decode cX10_ruined 32 = .ok (.ifCond .eq 5, 3) := by decide +kernel
theorem dX10_ruined_35 : decode cX10_ruined 35 = .ok (.iload_n 2, 1) := by decide +kernel
theorem dX10_ruined_36 : decode cX10_ruined 36 = .ok (.ireturn, 1) := by decide +kernel
theorem dX10_ruined_37 : decode cX10_ruined 37 = .ok (.iload_n 1, 1) := by decide +kernel
theorem dX10_ruined_38 : decode cX10_ruined 38 = .ok (.ifCond .ne 13, 3) := by decide +kernel
theorem dX10_ruined_41 : decode cX10_ruined 41 = .ok (.aload_n 0, 1) := by decide +kernel
theorem dX10_ruined_42 : decode cX10_ruined 42 = .ok (.getfield 36, 3) := by decide +kernel
theorem dX10_ruined_45 : decode cX10_ruined 45 = .ok (.getfield 155, 3) := by decide +kernel
theorem dX10_ruined_48 : decode cX10_ruined 48 = .ok (.goto 10, 3) := by decide +kernel
theorem dX10_ruined_51 : decode cX10_ruined 51 = .ok (.aload_n 0, 1) := by decide +kernel
theorem dX10_ruined_52 : decode cX10_ruined 52 = .ok (.getfield 36, 3) := by decide +kernel
theorem dX10_ruined_55 : decode cX10_ruined 55 = .ok (.getfield 158, 3) := by decide +kernel
theorem dX10_ruined_58 : decode cX10_ruined 58 = .ok (.ireturn, 1) := by decide +kernel
theorem dX10_done_0 : decode cX10_done 0 = .ok (.aload_n 0, 1) := by decide +kernel
theorem dX10_done_1 : decode cX10_done 1 = .ok (.getfield 36, 3) := by decide +kernel
theorem dX10_done_4 : decode cX10_done 4 = .ok (.aload_n 0, 1) := by decide +kernel
theorem dX10_done_5 : decode cX10_done 5 = .ok (.getfield 10, 3) := by decide +kernel
theorem dX10_done_8 : decode cX10_done 8 = .ok (.getfield 69, 3) := by decide +kernel
theorem dX10_done_11 : decode cX10_done 11 = .ok (.aload_n 0, 1) := by decide +kernel
theorem dX10_done_12 : decode cX10_done 12 = .ok (.getfield 29, 3) := by decide +kernel
theorem dX10_done_15 : decode cX10_done 15 = .ok (.invokevirtual 128, 3) := by decide +kernel
theorem dX10_done_18 : decode cX10_done 18 = .ok (.istore_n 1, 1) := by decide +kernel
theorem dX10_done_19 : decode cX10_done 19 = .ok (.iload_n 1, 1) := by decide +kernel
theorem dX10_done_20 : decode cX10_done 20 = .ok (.ifCond .eq 5, 3) := by decide +kernel
theorem dX10_done_23 : decode cX10_done 23 = .ok (.iload_n 1, 1) := by decide +kernel
theorem dX10_done_24 : decode cX10_done 24 = .ok (.ireturn, 1) := by decide +kernel
theorem dX10_done_25 : decode cX10_done 25 = .ok (.aload_n 0, 1) := by decide +kernel
theorem dX10_done_26 : decode cX10_done 26 = .ok (.getfield 29, 3) := by decide +kernel
theorem dX10_done_29 : decode cX10_done 29 = .ok (.getfield 161, 3) := by decide +kernel
theorem dX10_done_32 : decode cX10_done 32 = .ok (.istore_n 2, 1) := by decide +kernel
theorem dX10_done_33 : decode cX10_done 33 = .ok (.aload_n 0, 1) := by decide +kernel
theorem dX10_done_34 : decode cX10_done 34 = .ok (.getfield 10, 3) := by decide +kernel
theorem dX10_done_37 : decode cX10_done 37 = .ok (.getfield 69, 3) := by decide +kernel
theorem dX10_done_40 : decode cX10_done 40 = .ok (.aload_n 0, 1) := by decide +kernel
theorem dX10_done_41 : decode cX10_done 41 = .ok (.getfield 36, 3) := by decide +kernel
theorem dX10_done_44 : decode cX10_done 44 = .ok (.getfield 141, 3) := by decide +kernel
theorem dX10_done_47 : decode cX10_done 47 = .ok (.invokevirtual 164, 3) := by decide +kernel
theorem dX10_done_50 : decode cX10_done 50 = .ok (.aload_n 0, 1) := by decide +kernel
theorem dX10_done_51 : decode cX10_done 51 = .ok (.getfield 29, 3) := by decide +kernel
theorem dX10_done_54 : decode cX10_done 54 = .ok (.invokevirtual 122, 3) := by decide +kernel
theorem dX10_done_57 : decode cX10_done 57 = .ok (.iload_n 2, 1) := by decide +kernel
theorem dX10_done_58 : decode cX10_done 58 = .ok (.ireturn, 1) := by decide +kernel
theorem dX10_sumOf_0 : decode cX10_sumOf 0 = .ok (.iload_n 1, 1) := by decide +kernel
theorem dX10_sumOf_1 : decode cX10_sumOf 1 = .ok (.lookupswitch 37 #[(0, 27), (1, 32)], 27) := by decide +kernel
theorem dX10_sumOf_28 : decode cX10_sumOf 28 = .ok (.aload_n 0, 1) := by decide +kernel
theorem dX10_sumOf_29 : decode cX10_sumOf 29 = .ok (.invokevirtual 168, 3) := by decide +kernel
theorem dX10_sumOf_32 : decode cX10_sumOf 32 = .ok (.ireturn, 1) := by decide +kernel
theorem dX10_sumOf_33 : decode cX10_sumOf 33 = .ok (.aload_n 0, 1) := by decide +kernel
theorem dX10_sumOf_34 : decode cX10_sumOf 34 = .ok (.invokevirtual 171, 3) := by decide +kernel
theorem dX10_sumOf_37 : decode cX10_sumOf 37 = .ok (.ireturn, 1) := by decide +kernel
theorem dX10_sumOf_38 : decode cX10_sumOf 38 = .ok (.aload_n 0, 1) := by decide +kernel
theorem dX10_sumOf_39 : decode cX10_sumOf 39 = .ok (.getfield 174, 3) := by decide +kernel
theorem dX10_sumOf_42 : decode cX10_sumOf 42 = .ok (.ireturn, 1) := by decide +kernel
theorem dX10_pays_0 : decode cX10_pays 0 = .ok (.aload_n 0, 1) := by decide +kernel
theorem dX10_pays_1 : decode cX10_pays 1 = .ok (.iload_n 1, 1) := by decide +kernel
theorem dX10_pays_2 : decode cX10_pays 2 = .ok (.iload_n 2, 1) := by decide +kernel
theorem dX10_pays_3 : decode cX10_pays 3 = .ok (.invokevirtual 177, 3) := by decide +kernel
theorem dX10_pays_6 : decode cX10_pays 6 = .ok (.ifCond .ne 5, 3) := by decide +kernel
theorem dX10_pays_9 : decode cX10_pays 9 = .ok (.iconst (-1), 1) := by decide +kernel
theorem dX10_pays_10 : decode cX10_pays 10 = .ok (.ireturn, 1) := by decide +kernel
theorem dX10_pays_11 : decode cX10_pays 11 = .ok (.aload_n 0, 1) := by decide +kernel
theorem dX10_pays_12 : decode cX10_pays 12 = .ok (.getfield 10, 3) := by decide +kernel
theorem dX10_pays_15 : decode cX10_pays 15 = .ok (.getfield 69, 3) := by decide +kernel
theorem dX10_pays_18 : decode cX10_pays 18 = .ok (.iload_n 1, 1) := by decide +kernel
theorem dX10_pays_19 : decode cX10_pays 19 = .ok (.iload_n 2, 1) := by decide +kernel
theorem dX10_pays_20 : decode cX10_pays 20 = .ok (.invokestatic 181, 3) := by decide +kernel
theorem dX10_pays_23 : decode cX10_pays 23 = .ok (.ireturn, 1) := by decide +kernel
theorem dX10_over_0 : decode cX10_over 0 = .ok (.aload_n 0, 1) := by decide +kernel
theorem dX10_over_1 : decode cX10_over 1 = .ok (.iload_n 1, 1) := by decide +kernel
theorem dX10_over_2 : decode cX10_over 2 = .ok (.iload_n 2, 1) := by decide +kernel
theorem dX10_over_3 : decode cX10_over 3 = .ok (.invokevirtual 177, 3) := by decide +kernel
theorem dX10_over_6 : decode cX10_over 6 = .ok (.ifCond .ne 5, 3) := by decide +kernel
theorem dX10_over_9 : decode cX10_over 9 = .ok (.iconst (-1), 1) := by decide +kernel
theorem dX10_over_10 : decode cX10_over 10 = .ok (.ireturn, 1) := by decide +kernel
theorem dX10_over_11 : decode cX10_over 11 = .ok (.iload_n 3, 1) := by decide +kernel
theorem dX10_over_12 : decode cX10_over 12 = .ok (.iconst 0, 1) := by decide +kernel
theorem dX10_over_13 : decode cX10_over 13 = .ok (.iconst 1, 1) := by decide +kernel
theorem dX10_over_14 : decode cX10_over 14 = .ok (.invokestatic 61, 3) := by decide +kernel
theorem dX10_over_17 : decode cX10_over 17 = .ok (.ifCond .ne 6, 3) := by decide +kernel
theorem dX10_over_20 : decode cX10_over 20 = .ok (.bipush (-2), 2) := by decide +kernel
theorem dX10_over_22 : decode cX10_over 22 = .ok (.ireturn, 1) := by decide +kernel
theorem dX10_over_23 : decode cX10_over 23 = .ok (.iload_n 3, 1) := by decide +kernel
theorem dX10_over_24 : decode cX10_over 24 = .ok (.ifCond .ne 18, 3) := by decide +kernel
theorem dX10_over_27 : decode cX10_over 27 = .ok (.aload_n 0, 1) := by decide +kernel
theorem dX10_over_28 : decode cX10_over 28 = .ok (.getfield 10, 3) := by decide +kernel
theorem dX10_over_31 : decode cX10_over 31 = .ok (.getfield 69, 3) := by decide +kernel
theorem dX10_over_34 : decode cX10_over 34 = .ok (.iload_n 1, 1) := by decide +kernel
theorem dX10_over_35 : decode cX10_over 35 = .ok (.iload_n 2, 1) := by decide +kernel
theorem dX10_over_36 : decode cX10_over 36 = .ok (.invokestatic 187, 3) := by decide +kernel
theorem dX10_over_39 : decode cX10_over 39 = .ok (.goto 15, 3) := by decide +kernel
theorem dX10_over_42 : decode cX10_over 42 = .ok (.aload_n 0, 1) := by decide +kernel
theorem dX10_over_43 : decode cX10_over 43 = .ok (.getfield 10, 3) := by decide +kernel
theorem dX10_over_46 : decode cX10_over 46 = .ok (.getfield 69, 3) := by decide +kernel
theorem dX10_over_49 : decode cX10_over 49 = .ok (.iload_n 1, 1) := by decide +kernel
theorem dX10_over_50 : decode cX10_over 50 = .ok (.iload_n 2, 1) := by decide +kernel
theorem dX10_over_51 : decode cX10_over 51 = .ok (.invokestatic 190, 3) := by decide +kernel
theorem dX10_over_54 : decode cX10_over 54 = .ok (.ireturn, 1) := by decide +kernel
theorem dX10_areTwo_0 : decode cX10_areTwo 0 = .ok (.iload_n 1, 1) := by decide +kernel
theorem dX10_areTwo_1 : decode cX10_areTwo 1 = .ok (.iload_n 2, 1) := by decide +kernel
theorem dX10_areTwo_2 : decode cX10_areTwo 2 = .ok (.if_icmp .eq 35, 3) := by decide +kernel
theorem dX10_areTwo_5 : decode cX10_areTwo 5 = .ok (.aload_n 0, 1) := by decide +kernel
theorem dX10_areTwo_6 : decode cX10_areTwo 6 = .ok (.getfield 10, 3) := by decide +kernel
theorem dX10_areTwo_9 : decode cX10_areTwo 9 = .ok (.getfield 69, 3) := by decide +kernel
theorem dX10_areTwo_12 : decode cX10_areTwo 12 = .ok (.iload_n 1, 1) := by decide +kernel
theorem dX10_areTwo_13 : decode cX10_areTwo 13 = .ok (.invokevirtual 87, 3) := by decide +kernel
theorem dX10_areTwo_16 : decode cX10_areTwo 16 = .ok (.ifCond .eq 21, 3) := by decide +kernel
theorem dX10_areTwo_19 : decode cX10_areTwo 19 = .ok (.aload_n 0, 1) := by decide +kernel
theorem dX10_areTwo_20 : decode cX10_areTwo 20 = .ok (.getfield 10, 3) := by decide +kernel
theorem dX10_areTwo_23 : decode cX10_areTwo 23 = .ok (.getfield 69, 3) := by decide +kernel
theorem dX10_areTwo_26 : decode cX10_areTwo 26 = .ok (.iload_n 2, 1) := by decide +kernel
theorem dX10_areTwo_27 : decode cX10_areTwo 27 = .ok (.invokevirtual 87, 3) := by decide +kernel
theorem dX10_areTwo_30 : decode cX10_areTwo 30 = .ok (.ifCond .eq 7, 3) := by decide +kernel
theorem dX10_areTwo_33 : decode cX10_areTwo 33 = .ok (.iconst 1, 1) := by decide +kernel
theorem dX10_areTwo_34 : decode cX10_areTwo 34 = .ok (.goto 4, 3) := by decide +kernel
theorem dX10_areTwo_37 : decode cX10_areTwo 37 = .ok (.iconst 0, 1) := by decide +kernel
theorem dX10_areTwo_38 : decode cX10_areTwo 38 = .ok (.ireturn, 1) := by decide +kernel
theorem dX10_bellows_0 : decode cX10_bellows 0 = .ok (.iload_n 1, 1) := by decide +kernel
theorem dX10_bellows_1 : decode cX10_bellows 1 = .ok (.iconst 1, 1) := by decide +kernel
theorem dX10_bellows_2 : decode cX10_bellows 2 = .ok (.bipush 6, 2) := by decide +kernel
theorem dX10_bellows_4 : decode cX10_bellows 4 = .ok (.invokestatic 61, 3) := by decide +kernel
theorem dX10_bellows_7 : decode cX10_bellows 7 = .ok (.ifCond .eq 12, 3) := by decide +kernel
theorem dX10_bellows_10 : decode cX10_bellows 10 = .ok (.iload_n 2, 1) := by decide +kernel
theorem dX10_bellows_11 : decode cX10_bellows 11 = .ok (.iconst 0, 1) := by decide +kernel
theorem dX10_bellows_12 : decode cX10_bellows 12 = .ok (.iconst 1, 1) := by decide +kernel
theorem dX10_bellows_13 : decode cX10_bellows 13 = .ok (.invokestatic 61, 3) := by decide +kernel
theorem dX10_bellows_16 : decode cX10_bellows 16 = .ok (.ifCond .ne 6, 3) := by decide +kernel
theorem dX10_bellows_19 : decode cX10_bellows 19 = .ok (.bipush (-2), 2) := by decide +kernel
theorem dX10_bellows_21 : decode cX10_bellows 21 = .ok (.ireturn, 1) := by decide +kernel
theorem dX10_bellows_22 : decode cX10_bellows 22 = .ok (.aload_n 0, 1) := by decide +kernel
theorem dX10_bellows_23 : decode cX10_bellows 23 = .ok (.getfield 10, 3) := by decide +kernel
theorem dX10_bellows_26 : decode cX10_bellows 26 = .ok (.getfield 69, 3) := by decide +kernel
theorem dX10_bellows_29 : decode cX10_bellows 29 = .ok (.iload_n 1, 1) := by decide +kernel
theorem dX10_bellows_30 : decode cX10_bellows 30 = .ok (.invokestatic 193, 3) := by decide +kernel
theorem dX10_bellows_33 : decode cX10_bellows 33 = .ok (.istore_n 3, 1) := by decide +kernel
theorem dX10_bellows_34 : decode cX10_bellows 34 = .ok (.iload_n 2, 1) := by decide +kernel
theorem dX10_bellows_35 : decode cX10_bellows 35 = .ok (.ifCond .ne 18, 3) := by decide +kernel
theorem dX10_bellows_38 : decode cX10_bellows 38 = .ok (.aload_n 0, 1) := by decide +kernel
theorem dX10_bellows_39 : decode cX10_bellows 39 = .ok (.getfield 10, 3) := by decide +kernel
theorem dX10_bellows_42 : decode cX10_bellows 42 = .ok (.getfield 69, 3) := by decide +kernel
theorem dX10_bellows_45 : decode cX10_bellows 45 = .ok (.iload_n 3, 1) := by decide +kernel
theorem dX10_bellows_46 : decode cX10_bellows 46 = .ok (.iload_n 1, 1) := by decide +kernel
theorem dX10_bellows_47 : decode cX10_bellows 47 = .ok (.invokestatic 196, 3) := by decide +kernel
theorem dX10_bellows_50 : decode cX10_bellows 50 = .ok (.goto 4, 3) := by decide +kernel
theorem dX10_bellows_53 : decode cX10_bellows 53 = .ok (.iload_n 3, 1) := by decide +kernel
theorem dX10_bellows_54 : decode cX10_bellows 54 = .ok (.ireturn, 1) := by decide +kernel
theorem dX10_principal_0 : decode cX10_principal 0 = .ok (.iload_n 1, 1) := by decide +kernel
theorem dX10_principal_1 : decode cX10_principal 1 = .ok (.iconst 0, 1) := by decide +kernel
theorem dX10_principal_2 : decode cX10_principal 2 = .ok (.bipush 12, 2) := by decide +kernel
theorem dX10_principal_4 : decode cX10_principal 4 = .ok (.invokestatic 61, 3) := by decide +kernel
theorem dX10_principal_7 : decode cX10_principal 7 = .ok (.ifCond .eq 12, 3) := by decide +kernel
theorem dX10_principal_10 : decode cX10_principal 10 = .ok (.iload_n 2, 1) := by decide +kernel
theorem dX10_principal_11 : decode cX10_principal 11 = .ok (.iconst 0, 1) := by decide +kernel
theorem dX10_principal_12 : decode cX10_principal 12 = .ok (.iconst 1, 1) := by decide +kernel
theorem dX10_principal_13 : decode cX10_principal 13 = .ok (.invokestatic 61, 3) := by decide +kernel
theorem dX10_principal_16 : decode cX10_principal 16 = .ok (.ifCond .ne 6, 3) := by decide +kernel
theorem dX10_principal_19 : decode cX10_principal 19 = .ok (.bipush (-2), 2) := by decide +kernel
theorem dX10_principal_21 : decode cX10_principal 21 = .ok (.ireturn, 1) := by decide +kernel
theorem dX10_principal_22 : decode cX10_principal 22 = .ok (.aload_n 0, 1) := by decide +kernel
theorem dX10_principal_23 : decode cX10_principal 23 = .ok (.getfield 43, 3) := by decide +kernel
theorem dX10_principal_26 : decode cX10_principal 26 = .ok (.aload_n 0, 1) := by decide +kernel
theorem dX10_principal_27 : decode cX10_principal 27 = .ok (.getfield 10, 3) := by decide +kernel
theorem dX10_principal_30 : decode cX10_principal 30 = .ok (.getfield 69, 3) := by decide +kernel
theorem dX10_principal_33 : decode cX10_principal 33 = .ok (.iload_n 1, 1) := by decide +kernel
theorem dX10_principal_34 : decode cX10_principal 34 = .ok (.invokevirtual 199, 3) := by decide +kernel
theorem dX10_principal_37 : decode cX10_principal 37 = .ok (.iload_n 2, 1) := by decide +kernel
theorem dX10_principal_38 : decode cX10_principal 38 = .ok (.ifCond .ne 13, 3) := by decide +kernel
theorem dX10_principal_41 : decode cX10_principal 41 = .ok (.aload_n 0, 1) := by decide +kernel
theorem dX10_principal_42 : decode cX10_principal 42 = .ok (.getfield 43, 3) := by decide +kernel
theorem dX10_principal_45 : decode cX10_principal 45 = .ok (.invokevirtual 202, 3) := by decide +kernel
theorem dX10_principal_48 : decode cX10_principal 48 = .ok (.goto 10, 3) := by decide +kernel
theorem dX10_principal_51 : decode cX10_principal 51 = .ok (.aload_n 0, 1) := by decide +kernel
theorem dX10_principal_52 : decode cX10_principal 52 = .ok (.getfield 43, 3) := by decide +kernel
theorem dX10_principal_55 : decode cX10_principal 55 = .ok (.invokevirtual 205, 3) := by decide +kernel
theorem dX10_principal_58 : decode cX10_principal 58 = .ok (.ireturn, 1) := by decide +kernel
theorem dX10_tax_0 : decode cX10_tax 0 = .ok (.aload_n 0, 1) := by decide +kernel
theorem dX10_tax_1 : decode cX10_tax 1 = .ok (.getfield 10, 3) := by decide +kernel
theorem dX10_tax_4 : decode cX10_tax 4 = .ok (.getfield 69, 3) := by decide +kernel
theorem dX10_tax_7 : decode cX10_tax 7 = .ok (.iload_n 1, 1) := by decide +kernel
theorem dX10_tax_8 : decode cX10_tax 8 = .ok (.invokevirtual 87, 3) := by decide +kernel
theorem dX10_tax_11 : decode cX10_tax 11 = .ok (.ifCond .ne 5, 3) := by decide +kernel
theorem dX10_tax_14 : decode cX10_tax 14 = .ok (.iconst (-1), 1) := by decide +kernel
theorem dX10_tax_15 : decode cX10_tax 15 = .ok (.ireturn, 1) := by decide +kernel
theorem dX10_tax_16 : decode cX10_tax 16 = .ok (.iload_n 2, 1) := by decide +kernel
theorem dX10_tax_17 : decode cX10_tax 17 = .ok (.iconst 0, 1) := by decide +kernel
theorem dX10_tax_18 : decode cX10_tax 18 = .ok (.sipush 999, 3) := by decide +kernel
theorem dX10_tax_21 : decode cX10_tax 21 = .ok (.invokestatic 61, 3) := by decide +kernel
theorem dX10_tax_24 : decode cX10_tax 24 = .ok (.ifCond .ne 6, 3) := by decide +kernel
theorem dX10_tax_27 : decode cX10_tax 27 = .ok (.bipush (-2), 2) := by decide +kernel
theorem dX10_tax_29 : decode cX10_tax 29 = .ok (.ireturn, 1) := by decide +kernel
theorem dX10_tax_30 : decode cX10_tax 30 = .ok (.aload_n 0, 1) := by decide +kernel
theorem dX10_tax_31 : decode cX10_tax 31 = .ok (.getfield 10, 3) := by decide +kernel
theorem dX10_tax_34 : decode cX10_tax 34 = .ok (.getfield 69, 3) := by decide +kernel
theorem dX10_tax_37 : decode cX10_tax 37 = .ok (.iload_n 1, 1) := by decide +kernel
theorem dX10_tax_38 : decode cX10_tax 38 = .ok (.iload_n 2, 1) := by decide +kernel
theorem dX10_tax_39 : decode cX10_tax 39 = .ok (.invokestatic 208, 3) := by decide +kernel
theorem dX10_tax_42 : decode cX10_tax 42 = .ok (.ireturn, 1) := by decide +kernel
theorem dX10_seen_0 : decode cX10_seen 0 = .ok (.iload_n 1, 1) := by decide +kernel
theorem dX10_seen_1 : decode cX10_seen 1 = .ok (.iconst 1, 1) := by decide +kernel
theorem dX10_seen_2 : decode cX10_seen 2 = .ok (.bipush 9, 2) := by decide +kernel
theorem dX10_seen_4 : decode cX10_seen 4 = .ok (.invokestatic 61, 3) := by decide +kernel
theorem dX10_seen_7 : decode cX10_seen 7 = .ok (.ifCond .eq 13, 3) := by decide +kernel
theorem dX10_seen_10 : decode cX10_seen 10 = .ok (.iload_n 2, 1) := by decide +kernel
theorem dX10_seen_11 : decode cX10_seen 11 = .ok (.iconst 0, 1) := by decide +kernel
theorem dX10_seen_12 : decode cX10_seen 12 = .ok (.bipush 81, 2) := by decide +kernel
theorem dX10_seen_14 : decode cX10_seen 14 = .ok (.invokestatic 61, 3) := by decide +kernel
theorem dX10_seen_17 : decode cX10_seen 17 = .ok (.ifCond .ne 6, 3) := by decide +kernel
theorem dX10_seen_20 : decode cX10_seen 20 = .ok (.bipush (-2), 2) := by decide +kernel
theorem dX10_seen_22 : decode cX10_seen 22 = .ok (.ireturn, 1) := by decide +kernel
theorem dX10_seen_23 : decode cX10_seen 23 = .ok (.aload_n 0, 1) := by decide +kernel
theorem dX10_seen_24 : decode cX10_seen 24 = .ok (.getfield 10, 3) := by decide +kernel
theorem dX10_seen_27 : decode cX10_seen 27 = .ok (.getfield 211, 3) := by decide +kernel
theorem dX10_seen_30 : decode cX10_seen 30 = .ok (.getfield 215, 3) := by decide +kernel
theorem dX10_seen_33 : decode cX10_seen 33 = .ok (.bipush 8, 2) := by decide +kernel
theorem dX10_seen_35 : decode cX10_seen 35 = .ok (.if_icmp .lt 6, 3) := by decide +kernel
theorem dX10_seen_38 : decode cX10_seen 38 = .ok (.bipush (-4), 2) := by decide +kernel
theorem dX10_seen_40 : decode cX10_seen 40 = .ok (.ireturn, 1) := by decide +kernel
theorem dX10_seen_41 : decode cX10_seen 41 = .ok (.aload_n 0, 1) := by decide +kernel
theorem dX10_seen_42 : decode cX10_seen 42 = .ok (.getfield 10, 3) := by decide +kernel
theorem dX10_seen_45 : decode cX10_seen 45 = .ok (.getfield 211, 3) := by decide +kernel
theorem dX10_seen_48 : decode cX10_seen 48 = .ok (.iload_n 1, 1) := by decide +kernel
theorem dX10_seen_49 : decode cX10_seen 49 = .ok (.iload_n 2, 1) := by decide +kernel
theorem dX10_seen_50 : decode cX10_seen 50 = .ok (.invokevirtual 220, 3) := by decide +kernel
theorem dX10_seen_53 : decode cX10_seen 53 = .ok (.aload_n 0, 1) := by decide +kernel
theorem dX10_seen_54 : decode cX10_seen 54 = .ok (.getfield 10, 3) := by decide +kernel
theorem dX10_seen_57 : decode cX10_seen 57 = .ok (.getfield 211, 3) := by decide +kernel
theorem dX10_seen_60 : decode cX10_seen 60 = .ok (.getfield 215, 3) := by decide +kernel
theorem dX10_seen_63 : decode cX10_seen 63 = .ok (.ireturn, 1) := by decide +kernel
theorem dX10_forget_0 : decode cX10_forget 0 = .ok (.aload_n 0, 1) := by decide +kernel
theorem dX10_forget_1 : decode cX10_forget 1 = .ok (.getfield 10, 3) := by decide +kernel
theorem dX10_forget_4 : decode cX10_forget 4 = .ok (.getfield 211, 3) := by decide +kernel
theorem dX10_forget_7 : decode cX10_forget 7 = .ok (.getfield 215, 3) := by decide +kernel
theorem dX10_forget_10 : decode cX10_forget 10 = .ok (.istore_n 1, 1) := by decide +kernel
theorem dX10_forget_11 : decode cX10_forget 11 = .ok (.aload_n 0, 1) := by decide +kernel
theorem dX10_forget_12 : decode cX10_forget 12 = .ok (.getfield 10, 3) := by decide +kernel
theorem dX10_forget_15 : decode cX10_forget 15 = .ok (.getfield 211, 3) := by decide +kernel
theorem dX10_forget_18 : decode cX10_forget 18 = .ok (.iconst 0, 1) := by decide +kernel
theorem dX10_forget_19 : decode cX10_forget 19 = .ok (.putfield 215, 3) := by decide +kernel
theorem dX10_forget_22 : decode cX10_forget 22 = .ok (.iload_n 1, 1) := by decide +kernel
theorem dX10_forget_23 : decode cX10_forget 23 = .ok (.ireturn, 1) := by decide +kernel
theorem dX10_fits_0 : decode cX10_fits 0 = .ok (.aload_n 0, 1) := by decide +kernel
theorem dX10_fits_1 : decode cX10_fits 1 = .ok (.getfield 50, 3) := by decide +kernel
theorem dX10_fits_4 : decode cX10_fits 4 = .ok (.aload_n 0, 1) := by decide +kernel
theorem dX10_fits_5 : decode cX10_fits 5 = .ok (.getfield 10, 3) := by decide +kernel
theorem dX10_fits_8 : decode cX10_fits 8 = .ok (.getfield 211, 3) := by decide +kernel
theorem dX10_fits_11 : decode cX10_fits 11 = .ok (.invokevirtual 224, 3) := by decide +kernel
theorem dX10_fits_14 : decode cX10_fits 14 = .ok (.iload_n 1, 1) := by decide +kernel
theorem dX10_fits_15 : decode cX10_fits 15 = .ok (.iconst (-1), 1) := by decide +kernel
theorem dX10_fits_16 : decode cX10_fits 16 = .ok (.if_icmp .ne 11, 3) := by decide +kernel
theorem dX10_fits_19 : decode cX10_fits 19 = .ok (.aload_n 0, 1) := by decide +kernel
theorem dX10_fits_20 : decode cX10_fits 20 = .ok (.getfield 50, 3) := by decide +kernel
theorem dX10_fits_23 : decode cX10_fits 23 = .ok (.getfield 228, 3) := by decide +kernel
theorem dX10_fits_26 : decode cX10_fits 26 = .ok (.ireturn, 1) := by decide +kernel
theorem dX10_fits_27 : decode cX10_fits 27 = .ok (.iload_n 1, 1) := by decide +kernel
theorem dX10_fits_28 : decode cX10_fits 28 = .ok (.iconst 0, 1) := by decide +kernel
theorem dX10_fits_29 : decode cX10_fits 29 = .ok (.aload_n 0, 1) := by decide +kernel
theorem dX10_fits_30 : decode cX10_fits 30 = .ok (.getfield 50, 3) := by decide +kernel
theorem dX10_fits_33 : decode cX10_fits 33 = .ok (.getfield 228, 3) := by decide +kernel
theorem dX10_fits_36 : decode cX10_fits 36 = .ok (.iconst 1, 1) := by decide +kernel
theorem dX10_fits_37 : decode cX10_fits 37 = .ok (.isub, 1) := by decide +kernel
theorem dX10_fits_38 : decode cX10_fits 38 = .ok (.invokestatic 61, 3) := by decide +kernel
theorem dX10_fits_41 : decode cX10_fits 41 = .ok (.ifCond .eq 17, 3) := by decide +kernel
theorem dX10_fits_44 : decode cX10_fits 44 = .ok (.aload_n 0, 1) := by decide +kernel
theorem dX10_fits_45 : decode cX10_fits 45 = .ok (.getfield 50, 3) := by decide +kernel
theorem dX10_fits_48 : decode cX10_fits 48 = .ok (.getfield 229, 3) := by decide +kernel
theorem dX10_fits_51 : decode cX10_fits 51 = .ok (.iload_n 1, 1) := by decide +kernel
theorem dX10_fits_52 : decode cX10_fits 52 = .ok (.invokestatic 232, 3) := by decide +kernel
theorem dX10_fits_55 : decode cX10_fits 55 = .ok (.goto 5, 3) := by decide +kernel
theorem dX10_fits_58 : decode cX10_fits 58 = .ok (.bipush (-6), 2) := by decide +kernel
theorem dX10_fits_60 : decode cX10_fits 60 = .ok (.ireturn, 1) := by decide +kernel
theorem dX10_tries_0 : decode cX10_tries 0 = .ok (.iload_n 1, 1) := by decide +kernel
theorem dX10_tries_1 : decode cX10_tries 1 = .ok (.iconst 0, 1) := by decide +kernel
theorem dX10_tries_2 : decode cX10_tries 2 = .ok (.iconst 1, 1) := by decide +kernel
theorem dX10_tries_3 : decode cX10_tries 3 = .ok (.invokestatic 61, 3) := by decide +kernel
theorem dX10_tries_6 : decode cX10_tries 6 = .ok (.ifCond .ne 6, 3) := by decide +kernel
theorem dX10_tries_9 : decode cX10_tries 9 = .ok (.bipush (-2), 2) := by decide +kernel
theorem dX10_tries_11 : decode cX10_tries 11 = .ok (.ireturn, 1) := by decide +kernel
theorem dX10_tries_12 : decode cX10_tries 12 = .ok (.aload_n 0, 1) := by decide +kernel
theorem dX10_tries_13 : decode cX10_tries 13 = .ok (.getfield 50, 3) := by decide +kernel
theorem dX10_tries_16 : decode cX10_tries 16 = .ok (.aload_n 0, 1) := by decide +kernel
theorem dX10_tries_17 : decode cX10_tries 17 = .ok (.getfield 10, 3) := by decide +kernel
theorem dX10_tries_20 : decode cX10_tries 20 = .ok (.getfield 211, 3) := by decide +kernel
theorem dX10_tries_23 : decode cX10_tries 23 = .ok (.invokevirtual 224, 3) := by decide +kernel
theorem dX10_tries_26 : decode cX10_tries 26 = .ok (.aload_n 0, 1) := by decide +kernel
theorem dX10_tries_27 : decode cX10_tries 27 = .ok (.getfield 50, 3) := by decide +kernel
theorem dX10_tries_30 : decode cX10_tries 30 = .ok (.getfield 228, 3) := by decide +kernel
theorem dX10_tries_33 : decode cX10_tries 33 = .ok (.ifCond .ne 6, 3) := by decide +kernel
theorem dX10_tries_36 : decode cX10_tries 36 = .ok (.bipush (-6), 2) := by decide +kernel
theorem dX10_tries_38 : decode cX10_tries 38 = .ok (.ireturn, 1) := by decide +kernel
theorem dX10_tries_39 : decode cX10_tries 39 = .ok (.aload_n 0, 1) := by decide +kernel
theorem dX10_tries_40 : decode cX10_tries 40 = .ok (.getfield 50, 3) := by decide +kernel
theorem dX10_tries_43 : decode cX10_tries 43 = .ok (.invokevirtual 236, 3) := by decide +kernel
theorem dX10_tries_46 : decode cX10_tries 46 = .ok (.istore_n 2, 1) := by decide +kernel
theorem dX10_tries_47 : decode cX10_tries 47 = .ok (.iload_n 1, 1) := by decide +kernel
theorem dX10_tries_48 : decode cX10_tries 48 = .ok (.ifCond .ne 7, 3) := by decide +kernel
theorem dX10_tries_51 : decode cX10_tries 51 = .ok (.iload_n 2, 1) := by decide +kernel
theorem dX10_tries_52 : decode cX10_tries 52 = .ok (.goto 11, 3) := by decide +kernel
theorem dX10_tries_55 : decode cX10_tries 55 = .ok (.aload_n 0, 1) := by decide +kernel
theorem dX10_tries_56 : decode cX10_tries 56 = .ok (.getfield 50, 3) := by decide +kernel
theorem dX10_tries_59 : decode cX10_tries 59 = .ok (.iload_n 2, 1) := by decide +kernel
theorem dX10_tries_60 : decode cX10_tries 60 = .ok (.invokevirtual 239, 3) := by decide +kernel
theorem dX10_tries_63 : decode cX10_tries 63 = .ok (.ireturn, 1) := by decide +kernel
theorem dX10_gusts_0 : decode cX10_gusts 0 = .ok (.iload_n 2, 1) := by decide +kernel
theorem dX10_gusts_1 : decode cX10_gusts 1 = .ok (.iconst (-1), 1) := by decide +kernel
theorem dX10_gusts_2 : decode cX10_gusts 2 = .ok (.if_icmp .eq 10, 3) := by decide +kernel
theorem dX10_gusts_5 : decode cX10_gusts 5 = .ok (.iload_n 2, 1) := by decide +kernel
theorem dX10_gusts_6 : decode cX10_gusts 6 = .ok (.invokestatic 65, 3) := by decide +kernel
theorem dX10_gusts_9 : decode cX10_gusts 9 = .ok (.ifCond .eq 7, 3) := by decide +kernel
theorem dX10_gusts_12 : decode cX10_gusts 12 = .ok (.iconst 1, 1) := by decide +kernel
theorem dX10_gusts_13 : decode cX10_gusts 13 = .ok (.goto 4, 3) := by decide +kernel
theorem dX10_gusts_16 : decode cX10_gusts 16 = .ok (.iconst 0, 1) := by decide +kernel
theorem dX10_gusts_17 : decode cX10_gusts 17 = .ok (.istore 5, 2) := by decide +kernel
theorem dX10_gusts_19 : decode cX10_gusts 19 = .ok (.iload_n 1, 1) := by decide +kernel
theorem dX10_gusts_20 : decode cX10_gusts 20 = .ok (.invokestatic 65, 3) := by decide +kernel
theorem dX10_gusts_23 : decode cX10_gusts 23 = .ok (.ifCond .eq 27, 3) := by decide +kernel
theorem dX10_gusts_26 : decode cX10_gusts 26 = .ok (.iload 5, 2) := by decide +kernel
theorem dX10_gusts_28 : decode cX10_gusts 28 = .ok (.ifCond .eq 22, 3) := by decide +kernel
theorem dX10_gusts_31 : decode cX10_gusts 31 = .ok (.iload_n 3, 1) := by decide +kernel
theorem dX10_gusts_32 : decode cX10_gusts 32 = .ok (.iconst 0, 1) := by decide +kernel
theorem dX10_gusts_33 : decode cX10_gusts 33 = .ok (.iconst 5, 1) := by decide +kernel
theorem dX10_gusts_34 : decode cX10_gusts 34 = .ok (.invokestatic 61, 3) := by decide +kernel
theorem dX10_gusts_37 : decode cX10_gusts 37 = .ok (.ifCond .eq 13, 3) := by decide +kernel
theorem dX10_gusts_40 : decode cX10_gusts 40 = .ok (.iload 4, 2) := by decide +kernel
theorem dX10_gusts_42 : decode cX10_gusts 42 = .ok (.iconst 0, 1) := by decide +kernel
theorem dX10_gusts_43 : decode cX10_gusts 43 = .ok (.iconst 1, 1) := by decide +kernel
theorem dX10_gusts_44 : decode cX10_gusts 44 = .ok (.invokestatic 61, 3) := by decide +kernel
theorem dX10_gusts_47 : decode cX10_gusts 47 = .ok (.ifCond .ne 7, 3) := by decide +kernel
theorem dX10_gusts_50 : decode cX10_gusts 50 = .ok (.ldc2_w 242, 3) := by decide +kernel
theorem dX10_gusts_53 : decode cX10_gusts 53 = .ok (.lreturn, 1) := by decide +kernel
theorem dX10_gusts_54 : decode cX10_gusts 54 = .ok (.aload_n 0, 1) := by decide +kernel
theorem dX10_gusts_55 : decode cX10_gusts 55 = .ok (.getfield 50, 3) := by decide +kernel
theorem dX10_gusts_58 : decode cX10_gusts 58 = .ok (.iload_n 1, 1) := by decide +kernel
theorem dX10_gusts_59 : decode cX10_gusts 59 = .ok (.iload_n 2, 1) := by decide +kernel
theorem dX10_gusts_60 : decode cX10_gusts 60 = .ok (.iload_n 3, 1) := by decide +kernel
theorem dX10_gusts_61 : decode cX10_gusts 61 = .ok (.iload 4, 2) := by decide +kernel
theorem dX10_gusts_63 : decode cX10_gusts 63 = .ok (.invokevirtual 244, 3) := by decide +kernel
theorem dX10_gusts_66 : decode cX10_gusts 66 = .ok (.lreturn, 1) := by decide +kernel
theorem dX10_lovers_0 : decode cX10_lovers 0 = .ok (.iload_n 1, 1) := by decide +kernel
theorem dX10_lovers_1 : decode cX10_lovers 1 = .ok (.iconst 0, 1) := by decide +kernel
theorem dX10_lovers_2 : decode cX10_lovers 2 = .ok (.bipush 99, 2) := by decide +kernel
theorem dX10_lovers_4 : decode cX10_lovers 4 = .ok (.invokestatic 61, 3) := by decide +kernel
theorem dX10_lovers_7 : decode cX10_lovers 7 = .ok (.ifCond .eq 22, 3) := by decide +kernel
theorem dX10_lovers_10 : decode cX10_lovers 10 = .ok (.iload_n 2, 1) := by decide +kernel
theorem dX10_lovers_11 : decode cX10_lovers 11 = .ok (.iconst 1, 1) := by decide +kernel
theorem dX10_lovers_12 : decode cX10_lovers 12 = .ok (.bipush 9, 2) := by decide +kernel
theorem dX10_lovers_14 : decode cX10_lovers 14 = .ok (.invokestatic 61, 3) := by decide +kernel
theorem dX10_lovers_17 : decode cX10_lovers 17 = .ok (.ifCond .eq 12, 3) := by decide +kernel
theorem dX10_lovers_20 : decode cX10_lovers 20 = .ok (.iload_n 3, 1) := by decide +kernel
theorem dX10_lovers_21 : decode cX10_lovers 21 = .ok (.iconst 0, 1) := by decide +kernel
theorem dX10_lovers_22 : decode cX10_lovers 22 = .ok (.iconst 1, 1) := by decide +kernel
theorem dX10_lovers_23 : decode cX10_lovers 23 = .ok (.invokestatic 61, 3) := by decide +kernel
theorem dX10_lovers_26 : decode cX10_lovers 26 = .ok (.ifCond .ne 6, 3) := by decide +kernel
theorem dX10_lovers_29 : decode cX10_lovers 29 = .ok (.bipush (-2), 2) := by decide +kernel
theorem dX10_lovers_31 : decode cX10_lovers 31 = .ok (.ireturn, 1) := by decide +kernel
theorem dX10_lovers_32 : decode cX10_lovers 32 = .ok (.iload_n 1, 1) := by decide +kernel
theorem dX10_lovers_33 : decode cX10_lovers 33 = .ok (.iload_n 2, 1) := by decide +kernel
theorem dX10_lovers_34 : decode cX10_lovers 34 = .ok (.iconst 1, 1) := by decide +kernel
theorem dX10_lovers_35 : decode cX10_lovers 35 = .ok (.iadd, 1) := by decide +kernel
theorem dX10_lovers_36 : decode cX10_lovers 36 = .ok (.irem, 1) := by decide +kernel
theorem dX10_lovers_37 : decode cX10_lovers 37 = .ok (.istore 4, 2) := by decide +kernel
theorem dX10_lovers_39 : decode cX10_lovers 39 = .ok (.iload_n 3, 1) := by decide +kernel
theorem dX10_lovers_40 : decode cX10_lovers 40 = .ok (.ifCond .ne 14, 3) := by decide +kernel
theorem dX10_lovers_43 : decode cX10_lovers 43 = .ok (.iload 4, 2) := by decide +kernel
theorem dX10_lovers_45 : decode cX10_lovers 45 = .ok (.ifCond .ne 7, 3) := by decide +kernel
theorem dX10_lovers_48 : decode cX10_lovers 48 = .ok (.iconst 0, 1) := by decide +kernel
theorem dX10_lovers_49 : decode cX10_lovers 49 = .ok (.goto 4, 3) := by decide +kernel
theorem dX10_lovers_52 : decode cX10_lovers 52 = .ok (.iconst 1, 1) := by decide +kernel
theorem dX10_lovers_53 : decode cX10_lovers 53 = .ok (.ireturn, 1) := by decide +kernel
theorem dX10_lovers_54 : decode cX10_lovers 54 = .ok (.iload 4, 2) := by decide +kernel
theorem dX10_lovers_56 : decode cX10_lovers 56 = .ok (.ifCond .ne 8, 3) := by decide +kernel
theorem dX10_lovers_59 : decode cX10_lovers 59 = .ok (.bipush (-6), 2) := by decide +kernel
theorem dX10_lovers_61 : decode cX10_lovers 61 = .ok (.goto 5, 3) := by decide +kernel
theorem dX10_lovers_64 : decode cX10_lovers 64 = .ok (.iload 4, 2) := by decide +kernel
theorem dX10_lovers_66 : decode cX10_lovers 66 = .ok (.ireturn, 1) := by decide +kernel
theorem dX10_year_0 : decode cX10_year 0 = .ok (.iload_n 1, 1) := by decide +kernel
theorem dX10_year_1 : decode cX10_year 1 = .ok (.iconst 0, 1) := by decide +kernel
theorem dX10_year_2 : decode cX10_year 2 = .ok (.sipush 9999, 3) := by decide +kernel
theorem dX10_year_5 : decode cX10_year 5 = .ok (.invokestatic 61, 3) := by decide +kernel
theorem dX10_year_8 : decode cX10_year 8 = .ok (.ifCond .eq 22, 3) := by decide +kernel
theorem dX10_year_11 : decode cX10_year 11 = .ok (.iload_n 2, 1) := by decide +kernel
theorem dX10_year_12 : decode cX10_year 12 = .ok (.iconst 1, 1) := by decide +kernel
theorem dX10_year_13 : decode cX10_year 13 = .ok (.bipush 99, 2) := by decide +kernel
theorem dX10_year_15 : decode cX10_year 15 = .ok (.invokestatic 61, 3) := by decide +kernel
theorem dX10_year_18 : decode cX10_year 18 = .ok (.ifCond .eq 12, 3) := by decide +kernel
theorem dX10_year_21 : decode cX10_year 21 = .ok (.iload_n 3, 1) := by decide +kernel
theorem dX10_year_22 : decode cX10_year 22 = .ok (.iconst 0, 1) := by decide +kernel
theorem dX10_year_23 : decode cX10_year 23 = .ok (.iconst 2, 1) := by decide +kernel
theorem dX10_year_24 : decode cX10_year 24 = .ok (.invokestatic 61, 3) := by decide +kernel
theorem dX10_year_27 : decode cX10_year 27 = .ok (.ifCond .ne 6, 3) := by decide +kernel
theorem dX10_year_30 : decode cX10_year 30 = .ok (.bipush (-2), 2) := by decide +kernel
theorem dX10_year_32 : decode cX10_year 32 = .ok (.ireturn, 1) := by decide +kernel
theorem dX10_year_33 : decode cX10_year 33 = .ok (.aload_n 0, 1) := by decide +kernel
theorem dX10_year_34 : decode cX10_year 34 = .ok (.getfield 57, 3) := by decide +kernel
theorem dX10_year_37 : decode cX10_year 37 = .ok (.aload_n 0, 1) := by decide +kernel
theorem dX10_year_38 : decode cX10_year 38 = .ok (.getfield 10, 3) := by decide +kernel
theorem dX10_year_41 : decode cX10_year 41 = .ok (.getfield 69, 3) := by decide +kernel
theorem dX10_year_44 : decode cX10_year 44 = .ok (.iload_n 1, 1) := by decide +kernel
theorem dX10_year_45 : decode cX10_year 45 = .ok (.iload_n 2, 1) := by decide +kernel
theorem dX10_year_46 : decode cX10_year 46 = .ok (.invokevirtual 248, 3) := by decide +kernel
theorem dX10_year_49 : decode cX10_year 49 = .ok (.aload_n 0, 1) := by decide +kernel
theorem dX10_year_50 : decode cX10_year 50 = .ok (.getfield 57, 3) := by decide +kernel
theorem dX10_year_53 : decode cX10_year 53 = .ok (.getfield 251, 3) := by decide +kernel
theorem dX10_year_56 : decode cX10_year 56 = .ok (.iload_n 3, 1) := by decide +kernel
theorem dX10_year_57 : decode cX10_year 57 = .ok (.invokestatic 151, 3) := by decide +kernel
theorem dX10_year_60 : decode cX10_year 60 = .ok (.ireturn, 1) := by decide +kernel
theorem dX10_image_0 : decode cX10_image 0 = .ok (.iload_n 1, 1) := by decide +kernel
theorem dX10_image_1 : decode cX10_image 1 = .ok (.iconst 0, 1) := by decide +kernel
theorem dX10_image_2 : decode cX10_image 2 = .ok (.iconst 1, 1) := by decide +kernel
theorem dX10_image_3 : decode cX10_image 3 = .ok (.invokestatic 61, 3) := by decide +kernel
theorem dX10_image_6 : decode cX10_image 6 = .ok (.ifCond .ne 6, 3) := by decide +kernel
theorem dX10_image_9 : decode cX10_image 9 = .ok (.bipush (-2), 2) := by decide +kernel
theorem dX10_image_11 : decode cX10_image 11 = .ok (.ireturn, 1) := by decide +kernel
theorem dX10_image_12 : decode cX10_image 12 = .ok (.aload_n 0, 1) := by decide +kernel
theorem dX10_image_13 : decode cX10_image 13 = .ok (.iload_n 1, 1) := by decide +kernel
theorem dX10_image_14 : decode cX10_image 14 = .ok (.invokevirtual 252, 3) := by decide +kernel
theorem dX10_image_17 : decode cX10_image 17 = .ok (.aload_n 0, 1) := by decide +kernel
theorem dX10_image_18 : decode cX10_image 18 = .ok (.getfield 10, 3) := by decide +kernel
theorem dX10_image_21 : decode cX10_image 21 = .ok (.invokevirtual 256, 3) := by decide +kernel
theorem dX10_image_24 : decode cX10_image 24 = .ok (.aload_n 0, 1) := by decide +kernel
theorem dX10_image_25 : decode cX10_image 25 = .ok (.dup, 1) := by decide +kernel
theorem dX10_image_26 : decode cX10_image 26 = .ok (.getfield 22, 3) := by decide +kernel
theorem dX10_image_29 : decode cX10_image 29 = .ok (.iconst 1, 1) := by decide +kernel
theorem dX10_image_30 : decode cX10_image 30 = .ok (.iload_n 1, 1) := by decide +kernel
theorem dX10_image_31 : decode cX10_image 31 = .ok (.ishl, 1) := by decide +kernel
theorem dX10_image_32 : decode cX10_image 32 = .ok (.ior, 1) := by decide +kernel
theorem dX10_image_33 : decode cX10_image 33 = .ok (.putfield 22, 3) := by decide +kernel
theorem dX10_image_36 : decode cX10_image 36 = .ok (.iconst 1, 1) := by decide +kernel
theorem dX10_image_37 : decode cX10_image 37 = .ok (.ireturn, 1) := by decide +kernel
theorem dX10_restore_0 : decode cX10_restore 0 = .ok (.iload_n 1, 1) := by decide +kernel
theorem dX10_restore_1 : decode cX10_restore 1 = .ok (.iconst 0, 1) := by decide +kernel
theorem dX10_restore_2 : decode cX10_restore 2 = .ok (.iconst 1, 1) := by decide +kernel
theorem dX10_restore_3 : decode cX10_restore 3 = .ok (.invokestatic 61, 3) := by decide +kernel
theorem dX10_restore_6 : decode cX10_restore 6 = .ok (.ifCond .ne 6, 3) := by decide +kernel
theorem dX10_restore_9 : decode cX10_restore 9 = .ok (.bipush (-2), 2) := by decide +kernel
theorem dX10_restore_11 : decode cX10_restore 11 = .ok (.ireturn, 1) := by decide +kernel
theorem dX10_restore_12 : decode cX10_restore 12 = .ok (.aload_n 0, 1) := by decide +kernel
theorem dX10_restore_13 : decode cX10_restore 13 = .ok (.getfield 22, 3) := by decide +kernel
theorem dX10_restore_16 : decode cX10_restore 16 = .ok (.iconst 1, 1) := by decide +kernel
theorem dX10_restore_17 : decode cX10_restore 17 = .ok (.iload_n 1, 1) := by decide +kernel
theorem dX10_restore_18 : decode cX10_restore 18 = .ok (.ishl, 1) := by decide +kernel
theorem dX10_restore_19 : decode cX10_restore 19 = .ok (.iand, 1) := by decide +kernel
theorem dX10_restore_20 : decode cX10_restore 20 = .ok (.ifCond .ne 6, 3) := by decide +kernel
theorem dX10_restore_23 : decode cX10_restore 23 = .ok (.bipush (-3), 2) := by decide +kernel
theorem dX10_restore_25 : decode cX10_restore 25 = .ok (.ireturn, 1) := by decide +kernel
theorem dX10_restore_26 : decode cX10_restore 26 = .ok (.aload_n 0, 1) := by decide +kernel
theorem dX10_restore_27 : decode cX10_restore 27 = .ok (.getfield 10, 3) := by decide +kernel
theorem dX10_restore_30 : decode cX10_restore 30 = .ok (.aload_n 0, 1) := by decide +kernel
theorem dX10_restore_31 : decode cX10_restore 31 = .ok (.iload_n 1, 1) := by decide +kernel
theorem dX10_restore_32 : decode cX10_restore 32 = .ok (.invokevirtual 252, 3) := by decide +kernel
theorem dX10_restore_35 : decode cX10_restore 35 = .ok (.invokevirtual 256, 3) := by decide +kernel
theorem dX10_restore_38 : decode cX10_restore 38 = .ok (.iconst 1, 1) := by decide +kernel
theorem dX10_restore_39 : decode cX10_restore 39 = .ok (.ireturn, 1) := by decide +kernel
theorem dX10_imageOf_0 : decode cX10_imageOf 0 = .ok (.iload_n 1, 1) := by decide +kernel
theorem dX10_imageOf_1 : decode cX10_imageOf 1 = .ok (.ifCond .ne 10, 3) := by decide +kernel
theorem dX10_imageOf_4 : decode cX10_imageOf 4 = .ok (.aload_n 0, 1) := by decide +kernel
theorem dX10_imageOf_5 : decode cX10_imageOf 5 = .ok (.getfield 16, 3) := by decide +kernel
theorem dX10_imageOf_8 : decode cX10_imageOf 8 = .ok (.goto 7, 3) := by decide +kernel
theorem dX10_imageOf_11 : decode cX10_imageOf 11 = .ok (.aload_n 0, 1) := by decide +kernel
theorem dX10_imageOf_12 : decode cX10_imageOf 12 = .ok (.getfield 19, 3) := by decide +kernel
theorem dX10_imageOf_15 : decode cX10_imageOf 15 = .ok (.areturn, 1) := by decide +kernel
theorem dX10_told_0 : decode cX10_told 0 = .ok (.iload_n 1, 1) := by decide +kernel
theorem dX10_told_1 : decode cX10_told 1 = .ok (.iconst 0, 1) := by decide +kernel
theorem dX10_told_2 : decode cX10_told 2 = .ok (.bipush 7, 2) := by decide +kernel
theorem dX10_told_4 : decode cX10_told 4 = .ok (.invokestatic 61, 3) := by decide +kernel
theorem dX10_told_7 : decode cX10_told 7 = .ok (.ifCond .eq 9, 3) := by decide +kernel
theorem dX10_told_10 : decode cX10_told 10 = .ok (.aload_n 0, 1) := by decide +kernel
theorem dX10_told_11 : decode cX10_told 11 = .ok (.iload_n 1, 1) := by decide +kernel
theorem dX10_told_12 : decode cX10_told 12 = .ok (.invokevirtual 259, 3) := by decide +kernel
theorem dX10_told_15 : decode cX10_told 15 = .ok (.ireturn, 1) := by decide +kernel
theorem dX10_told_16 : decode cX10_told 16 = .ok (.iload_n 1, 1) := by decide +kernel
theorem dX10_told_17 : decode cX10_told 17 = .ok (.bipush 10, 2) := by decide +kernel
theorem dX10_told_19 : decode cX10_told 19 = .ok (.bipush 69, 2) := by decide +kernel
theorem dX10_told_21 : decode cX10_told 21 = .ok (.invokestatic 61, 3) := by decide +kernel
theorem dX10_told_24 : decode cX10_told 24 = .ok (.ifCond .eq 18, 3) := by decide +kernel
theorem dX10_told_27 : decode cX10_told 27 = .ok (.aload_n 0, 1) := by decide +kernel
theorem dX10_told_28 : decode cX10_told 28 = .ok (.iload_n 1, 1) := by decide +kernel
theorem dX10_told_29 : decode cX10_told 29 = .ok (.bipush 10, 2) := by decide +kernel
theorem dX10_told_31 : decode cX10_told 31 = .ok (.idiv, 1) := by decide +kernel
theorem dX10_told_32 : decode cX10_told 32 = .ok (.iconst 1, 1) := by decide +kernel
theorem dX10_told_33 : decode cX10_told 33 = .ok (.isub, 1) := by decide +kernel
theorem dX10_told_34 : decode cX10_told 34 = .ok (.iload_n 1, 1) := by decide +kernel
theorem dX10_told_35 : decode cX10_told 35 = .ok (.bipush 10, 2) := by decide +kernel
theorem dX10_told_37 : decode cX10_told 37 = .ok (.irem, 1) := by decide +kernel
theorem dX10_told_38 : decode cX10_told 38 = .ok (.invokevirtual 262, 3) := by decide +kernel
theorem dX10_told_41 : decode cX10_told 41 = .ok (.ireturn, 1) := by decide +kernel
theorem dX10_told_42 : decode cX10_told 42 = .ok (.iload_n 1, 1) := by decide +kernel
theorem dX10_told_43 : decode cX10_told 43 = .ok (.bipush 100, 2) := by decide +kernel
theorem dX10_told_45 : decode cX10_told 45 = .ok (.sipush 135, 3) := by decide +kernel
theorem dX10_told_48 : decode cX10_told 48 = .ok (.invokestatic 61, 3) := by decide +kernel
theorem dX10_told_51 : decode cX10_told 51 = .ok (.ifCond .eq 21, 3) := by decide +kernel
theorem dX10_told_54 : decode cX10_told 54 = .ok (.aload_n 0, 1) := by decide +kernel
theorem dX10_told_55 : decode cX10_told 55 = .ok (.getfield 10, 3) := by decide +kernel
theorem dX10_told_58 : decode cX10_told 58 = .ok (.getfield 69, 3) := by decide +kernel
theorem dX10_told_61 : decode cX10_told 61 = .ok (.getfield 94, 3) := by decide +kernel
theorem dX10_told_64 : decode cX10_told 64 = .ok (.iload_n 1, 1) := by decide +kernel
theorem dX10_told_65 : decode cX10_told 65 = .ok (.bipush 100, 2) := by decide +kernel
theorem dX10_told_67 : decode cX10_told 67 = .ok (.isub, 1) := by decide +kernel
theorem dX10_told_68 : decode cX10_told 68 = .ok (.invokestatic 232, 3) := by decide +kernel
theorem dX10_told_71 : decode cX10_told 71 = .ok (.ireturn, 1) := by decide +kernel
theorem dX10_told_72 : decode cX10_told 72 = .ok (.bipush (-2), 2) := by decide +kernel
theorem dX10_told_74 : decode cX10_told 74 = .ok (.ireturn, 1) := by decide +kernel
theorem dX10_toldOfAll_0 : decode cX10_toldOfAll 0 = .ok (.iload_n 1, 1) := by decide +kernel
theorem dX10_toldOfAll_1 : decode cX10_toldOfAll 1 = .ok (.tableswitch 117 0 6 #[43, 51, 62, 73, 84, 95, 106], 43) := by decide +kernel
theorem dX10_toldOfAll_44 : decode cX10_toldOfAll 44 = .ok (.aload_n 0, 1) := by decide +kernel
theorem dX10_toldOfAll_45 : decode cX10_toldOfAll 45 = .ok (.getfield 29, 3) := by decide +kernel
theorem dX10_toldOfAll_48 : decode cX10_toldOfAll 48 = .ok (.getfield 116, 3) := by decide +kernel
theorem dX10_toldOfAll_51 : decode cX10_toldOfAll 51 = .ok (.ireturn, 1) := by decide +kernel
theorem dX10_toldOfAll_52 : decode cX10_toldOfAll 52 = .ok (.aload_n 0, 1) := by decide +kernel
theorem dX10_toldOfAll_53 : decode cX10_toldOfAll 53 = .ok (.getfield 10, 3) := by decide +kernel
theorem dX10_toldOfAll_56 : decode cX10_toldOfAll 56 = .ok (.getfield 69, 3) := by decide +kernel
theorem dX10_toldOfAll_59 : decode cX10_toldOfAll 59 = .ok (.getfield 266, 3) := by decide +kernel
theorem dX10_toldOfAll_62 : decode cX10_toldOfAll 62 = .ok (.ireturn, 1) := by decide +kernel
theorem dX10_toldOfAll_63 : decode cX10_toldOfAll 63 = .ok (.aload_n 0, 1) := by decide +kernel
theorem dX10_toldOfAll_64 : decode cX10_toldOfAll 64 = .ok (.getfield 10, 3) := by decide +kernel
theorem dX10_toldOfAll_67 : decode cX10_toldOfAll 67 = .ok (.getfield 69, 3) := by decide +kernel
theorem dX10_toldOfAll_70 : decode cX10_toldOfAll 70 = .ok (.getfield 107, 3) := by decide +kernel
theorem dX10_toldOfAll_73 : decode cX10_toldOfAll 73 = .ok (.ireturn, 1) := by decide +kernel
theorem dX10_toldOfAll_74 : decode cX10_toldOfAll 74 = .ok (.aload_n 0, 1) := by decide +kernel
theorem dX10_toldOfAll_75 : decode cX10_toldOfAll 75 = .ok (.getfield 10, 3) := by decide +kernel
theorem dX10_toldOfAll_78 : decode cX10_toldOfAll 78 = .ok (.getfield 69, 3) := by decide +kernel
theorem dX10_toldOfAll_81 : decode cX10_toldOfAll 81 = .ok (.getfield 110, 3) := by decide +kernel
theorem dX10_toldOfAll_84 : decode cX10_toldOfAll 84 = .ok (.ireturn, 1) := by decide +kernel
theorem dX10_toldOfAll_85 : decode cX10_toldOfAll 85 = .ok (.aload_n 0, 1) := by decide +kernel
theorem dX10_toldOfAll_86 : decode cX10_toldOfAll 86 = .ok (.getfield 10, 3) := by decide +kernel
theorem dX10_toldOfAll_89 : decode cX10_toldOfAll 89 = .ok (.getfield 69, 3) := by decide +kernel
theorem dX10_toldOfAll_92 : decode cX10_toldOfAll 92 = .ok (.getfield 113, 3) := by decide +kernel
theorem dX10_toldOfAll_95 : decode cX10_toldOfAll 95 = .ok (.ireturn, 1) := by decide +kernel
theorem dX10_toldOfAll_96 : decode cX10_toldOfAll 96 = .ok (.aload_n 0, 1) := by decide +kernel
theorem dX10_toldOfAll_97 : decode cX10_toldOfAll 97 = .ok (.getfield 10, 3) := by decide +kernel
theorem dX10_toldOfAll_100 : decode cX10_toldOfAll 100 = .ok (.getfield 69, 3) := by decide +kernel
theorem dX10_toldOfAll_103 : decode cX10_toldOfAll 103 = .ok (.getfield 148, 3) := by decide +kernel
theorem dX10_toldOfAll_106 : decode cX10_toldOfAll 106 = .ok (.ireturn, 1) := by decide +kernel
theorem dX10_toldOfAll_107 : decode cX10_toldOfAll 107 = .ok (.aload_n 0, 1) := by decide +kernel
theorem dX10_toldOfAll_108 : decode cX10_toldOfAll 108 = .ok (.getfield 10, 3) := by decide +kernel
theorem dX10_toldOfAll_111 : decode cX10_toldOfAll 111 = .ok (.getfield 211, 3) := by decide +kernel
theorem dX10_toldOfAll_114 : decode cX10_toldOfAll 114 = .ok (.getfield 215, 3) := by decide +kernel
theorem dX10_toldOfAll_117 : decode cX10_toldOfAll 117 = .ok (.ireturn, 1) := by decide +kernel
theorem dX10_toldOfAll_118 : decode cX10_toldOfAll 118 = .ok (.aload_n 0, 1) := by decide +kernel
theorem dX10_toldOfAll_119 : decode cX10_toldOfAll 119 = .ok (.getfield 10, 3) := by decide +kernel
theorem dX10_toldOfAll_122 : decode cX10_toldOfAll 122 = .ok (.getfield 69, 3) := by decide +kernel
theorem dX10_toldOfAll_125 : decode cX10_toldOfAll 125 = .ok (.getfield 174, 3) := by decide +kernel
theorem dX10_toldOfAll_128 : decode cX10_toldOfAll 128 = .ok (.ireturn, 1) := by decide +kernel
theorem dX10_toldOfFamily_0 : decode cX10_toldOfFamily 0 = .ok (.aload_n 0, 1) := by decide +kernel
theorem dX10_toldOfFamily_1 : decode cX10_toldOfFamily 1 = .ok (.getfield 10, 3) := by decide +kernel
theorem dX10_toldOfFamily_4 : decode cX10_toldOfFamily 4 = .ok (.getfield 69, 3) := by decide +kernel
theorem dX10_toldOfFamily_7 : decode cX10_toldOfFamily 7 = .ok (.iload_n 1, 1) := by decide +kernel
theorem dX10_toldOfFamily_8 : decode cX10_toldOfFamily 8 = .ok (.invokevirtual 87, 3) := by decide +kernel
theorem dX10_toldOfFamily_11 : decode cX10_toldOfFamily 11 = .ok (.ifCond .ne 6, 3) := by decide +kernel
theorem dX10_toldOfFamily_14 : decode cX10_toldOfFamily 14 = .ok (.bipush (-2), 2) := by decide +kernel
theorem dX10_toldOfFamily_16 : decode cX10_toldOfFamily 16 = .ok (.ireturn, 1) := by decide +kernel
theorem dX10_toldOfFamily_17 : decode cX10_toldOfFamily 17 = .ok (.iload_n 2, 1) := by decide +kernel
theorem dX10_toldOfFamily_18 : decode cX10_toldOfFamily 18 = .ok (.tableswitch 82 0 3 #[30, 43, 56, 69], 30) := by decide +kernel
theorem dX10_toldOfFamily_48 : decode cX10_toldOfFamily 48 = .ok (.aload_n 0, 1) := by decide +kernel
theorem dX10_toldOfFamily_49 : decode cX10_toldOfFamily 49 = .ok (.getfield 10, 3) := by decide +kernel
theorem dX10_toldOfFamily_52 : decode cX10_toldOfFamily 52 = .ok (.getfield 69, 3) := by decide +kernel
theorem dX10_toldOfFamily_55 : decode cX10_toldOfFamily 55 = .ok (.getfield 269, 3) := by decide +kernel
theorem dX10_toldOfFamily_58 : decode cX10_toldOfFamily 58 = .ok (.iload_n 1, 1) := by decide +kernel
theorem dX10_toldOfFamily_59 : decode cX10_toldOfFamily 59 = .ok (.iaload, 1) := by decide +kernel
theorem dX10_toldOfFamily_60 : decode cX10_toldOfFamily 60 = .ok (.ireturn, 1) := by decide +kernel
theorem dX10_toldOfFamily_61 : decode cX10_toldOfFamily 61 = .ok (.aload_n 0, 1) := by decide +kernel
theorem dX10_toldOfFamily_62 : decode cX10_toldOfFamily 62 = .ok (.getfield 10, 3) := by decide +kernel
theorem dX10_toldOfFamily_65 : decode cX10_toldOfFamily 65 = .ok (.getfield 69, 3) := by decide +kernel
theorem dX10_toldOfFamily_68 : decode cX10_toldOfFamily 68 = .ok (.getfield 142, 3) := by decide +kernel
theorem dX10_toldOfFamily_71 : decode cX10_toldOfFamily 71 = .ok (.iload_n 1, 1) := by decide +kernel
theorem dX10_toldOfFamily_72 : decode cX10_toldOfFamily 72 = .ok (.iaload, 1) := by decide +kernel
theorem dX10_toldOfFamily_73 : decode cX10_toldOfFamily 73 = .ok (.ireturn, 1) := by decide +kernel
theorem dX10_toldOfFamily_74 : decode cX10_toldOfFamily 74 = .ok (.aload_n 0, 1) := by decide +kernel
theorem dX10_toldOfFamily_75 : decode cX10_toldOfFamily 75 = .ok (.getfield 10, 3) := by decide +kernel
theorem dX10_toldOfFamily_78 : decode cX10_toldOfFamily 78 = .ok (.getfield 69, 3) := by decide +kernel
theorem dX10_toldOfFamily_81 : decode cX10_toldOfFamily 81 = .ok (.getfield 272, 3) := by decide +kernel
theorem dX10_toldOfFamily_84 : decode cX10_toldOfFamily 84 = .ok (.iload_n 1, 1) := by decide +kernel
theorem dX10_toldOfFamily_85 : decode cX10_toldOfFamily 85 = .ok (.iaload, 1) := by decide +kernel
theorem dX10_toldOfFamily_86 : decode cX10_toldOfFamily 86 = .ok (.ireturn, 1) := by decide +kernel
theorem dX10_toldOfFamily_87 : decode cX10_toldOfFamily 87 = .ok (.aload_n 0, 1) := by decide +kernel
theorem dX10_toldOfFamily_88 : decode cX10_toldOfFamily 88 = .ok (.getfield 10, 3) := by decide +kernel
theorem dX10_toldOfFamily_91 : decode cX10_toldOfFamily 91 = .ok (.getfield 69, 3) := by decide +kernel
theorem dX10_toldOfFamily_94 : decode cX10_toldOfFamily 94 = .ok (.getfield 145, 3) := by decide +kernel
theorem dX10_toldOfFamily_97 : decode cX10_toldOfFamily 97 = .ok (.iload_n 1, 1) := by decide +kernel
theorem dX10_toldOfFamily_98 : decode cX10_toldOfFamily 98 = .ok (.iaload, 1) := by decide +kernel
theorem dX10_toldOfFamily_99 : decode cX10_toldOfFamily 99 = .ok (.ireturn, 1) := by decide +kernel
theorem dX10_toldOfFamily_100 : decode cX10_toldOfFamily 100 = .ok (.bipush (-2), 2) := by decide +kernel
theorem dX10_toldOfFamily_102 : decode cX10_toldOfFamily 102 = .ok (.ireturn, 1) := by decide +kernel
theorem dX10_within_0 : decode cX10_within 0 = .ok (.iload_n 0, 1) := by decide +kernel
theorem dX10_within_1 : decode cX10_within 1 = .ok (.iload_n 1, 1) := by decide +kernel
theorem dX10_within_2 : decode cX10_within 2 = .ok (.if_icmp .lt 12, 3) := by decide +kernel
theorem dX10_within_5 : decode cX10_within 5 = .ok (.iload_n 0, 1) := by decide +kernel
theorem dX10_within_6 : decode cX10_within 6 = .ok (.iload_n 2, 1) := by decide +kernel
theorem dX10_within_7 : decode cX10_within 7 = .ok (.if_icmp .gt 7, 3) := by decide +kernel
theorem dX10_within_10 : decode cX10_within 10 = .ok (.iconst 1, 1) := by decide +kernel
theorem dX10_within_11 : decode cX10_within 11 = .ok (.goto 4, 3) := by decide +kernel
theorem dX10_within_14 : decode cX10_within 14 = .ok (.iconst 0, 1) := by decide +kernel
theorem dX10_within_15 : decode cX10_within 15 = .ok (.ireturn, 1) := by decide +kernel
theorem dX10_isField_0 : decode cX10_isField 0 = .ok (.iload_n 0, 1) := by decide +kernel
theorem dX10_isField_1 : decode cX10_isField 1 = .ok (.ifCond .lt 13, 3) := by decide +kernel
theorem dX10_isField_4 : decode cX10_isField 4 = .ok (.iload_n 0, 1) := by decide +kernel
theorem dX10_isField_5 : decode cX10_isField 5 = .ok (.bipush 36, 2) := by decide +kernel
theorem dX10_isField_7 : decode cX10_isField 7 = .ok (.if_icmp .ge 7, 3) := by decide +kernel
theorem dX10_isField_10 : decode cX10_isField 10 = .ok (.iconst 1, 1) := by decide +kernel
theorem dX10_isField_11 : decode cX10_isField 11 = .ok (.goto 4, 3) := by decide +kernel
theorem dX10_isField_14 : decode cX10_isField 14 = .ok (.iconst 0, 1) := by decide +kernel
theorem dX10_isField_15 : decode cX10_isField 15 = .ok (.ireturn, 1) := by decide +kernel
theorem dX10_at_0 : decode cX10_at 0 = .ok (.iload_n 1, 1) := by decide +kernel
theorem dX10_at_1 : decode cX10_at 1 = .ok (.ifCond .lt 15, 3) := by decide +kernel
theorem dX10_at_4 : decode cX10_at 4 = .ok (.iload_n 1, 1) := by decide +kernel
theorem dX10_at_5 : decode cX10_at 5 = .ok (.aload_n 0, 1) := by decide +kernel
theorem dX10_at_6 : decode cX10_at 6 = .ok (.arraylength, 1) := by decide +kernel
theorem dX10_at_7 : decode cX10_at 7 = .ok (.if_icmp .ge 9, 3) := by decide +kernel
theorem dX10_at_10 : decode cX10_at 10 = .ok (.aload_n 0, 1) := by decide +kernel
theorem dX10_at_11 : decode cX10_at 11 = .ok (.iload_n 1, 1) := by decide +kernel
theorem dX10_at_12 : decode cX10_at 12 = .ok (.iaload, 1) := by decide +kernel
theorem dX10_at_13 : decode cX10_at 13 = .ok (.goto 4, 3) := by decide +kernel
theorem dX10_at_16 : decode cX10_at 16 = .ok (.iconst 0, 1) := by decide +kernel
theorem dX10_at_17 : decode cX10_at 17 = .ok (.ireturn, 1) := by decide +kernel
theorem dX10_clearRow_0 : decode cX10_clearRow 0 = .ok (.iconst 0, 1) := by decide +kernel
theorem dX10_clearRow_1 : decode cX10_clearRow 1 = .ok (.istore_n 1, 1) := by decide +kernel
theorem dX10_clearRow_2 : decode cX10_clearRow 2 = .ok (.iload_n 1, 1) := by decide +kernel
theorem dX10_clearRow_3 : decode cX10_clearRow 3 = .ok (.aload_n 0, 1) := by decide +kernel
theorem dX10_clearRow_4 : decode cX10_clearRow 4 = .ok (.arraylength, 1) := by decide +kernel
theorem dX10_clearRow_5 : decode cX10_clearRow 5 = .ok (.if_icmp .ge 13, 3) := by decide +kernel
theorem dX10_clearRow_8 : decode cX10_clearRow 8 = .ok (.aload_n 0, 1) := by decide +kernel
theorem dX10_clearRow_9 : decode cX10_clearRow 9 = .ok (.iload_n 1, 1) := by decide +kernel
theorem dX10_clearRow_10 : decode cX10_clearRow 10 = .ok (.iconst 0, 1) := by decide +kernel
theorem dX10_clearRow_11 : decode cX10_clearRow 11 = .ok (.iastore, 1) := by decide +kernel
theorem dX10_clearRow_12 : decode cX10_clearRow 12 = .ok (.iinc 1 1, 3) := by decide +kernel
theorem dX10_clearRow_15 : decode cX10_clearRow 15 = .ok (.goto (-13), 3) := by decide +kernel
theorem dX10_clearRow_18 : decode cX10_clearRow 18 = .ok (.return_, 1) := by decide +kernel
theorem dX10_sumOfRow_0 : decode cX10_sumOfRow 0 = .ok (.iconst 0, 1) := by decide +kernel
theorem dX10_sumOfRow_1 : decode cX10_sumOfRow 1 = .ok (.istore_n 1, 1) := by decide +kernel
theorem dX10_sumOfRow_2 : decode cX10_sumOfRow 2 = .ok (.iconst 0, 1) := by decide +kernel
theorem dX10_sumOfRow_3 : decode cX10_sumOfRow 3 = .ok (.istore_n 2, 1) := by decide +kernel
theorem dX10_sumOfRow_4 : decode cX10_sumOfRow 4 = .ok (.iload_n 2, 1) := by decide +kernel
theorem dX10_sumOfRow_5 : decode cX10_sumOfRow 5 = .ok (.aload_n 0, 1) := by decide +kernel
theorem dX10_sumOfRow_6 : decode cX10_sumOfRow 6 = .ok (.arraylength, 1) := by decide +kernel
theorem dX10_sumOfRow_7 : decode cX10_sumOfRow 7 = .ok (.if_icmp .ge 15, 3) := by decide +kernel
theorem dX10_sumOfRow_10 : decode cX10_sumOfRow 10 = .ok (.iload_n 1, 1) := by decide +kernel
theorem dX10_sumOfRow_11 : decode cX10_sumOfRow 11 = .ok (.aload_n 0, 1) := by decide +kernel
theorem dX10_sumOfRow_12 : decode cX10_sumOfRow 12 = .ok (.iload_n 2, 1) := by decide +kernel
theorem dX10_sumOfRow_13 : decode cX10_sumOfRow 13 = .ok (.iaload, 1) := by decide +kernel
theorem dX10_sumOfRow_14 : decode cX10_sumOfRow 14 = .ok (.iadd, 1) := by decide +kernel
theorem dX10_sumOfRow_15 : decode cX10_sumOfRow 15 = .ok (.istore_n 1, 1) := by decide +kernel
theorem dX10_sumOfRow_16 : decode cX10_sumOfRow 16 = .ok (.iinc 2 1, 3) := by decide +kernel
theorem dX10_sumOfRow_19 : decode cX10_sumOfRow 19 = .ok (.goto (-15), 3) := by decide +kernel
theorem dX10_sumOfRow_22 : decode cX10_sumOfRow 22 = .ok (.iload_n 1, 1) := by decide +kernel
theorem dX10_sumOfRow_23 : decode cX10_sumOfRow 23 = .ok (.ireturn, 1) := by decide +kernel
theorem dX10_downwind_0 : decode cX10_downwind 0 = .ok (.iload_n 0, 1) := by decide +kernel
theorem dX10_downwind_1 : decode cX10_downwind 1 = .ok (.bipush 6, 2) := by decide +kernel
theorem dX10_downwind_3 : decode cX10_downwind 3 = .ok (.idiv, 1) := by decide +kernel
theorem dX10_downwind_4 : decode cX10_downwind 4 = .ok (.istore_n 3, 1) := by decide +kernel
theorem dX10_downwind_5 : decode cX10_downwind 5 = .ok (.iload_n 0, 1) := by decide +kernel
theorem dX10_downwind_6 : decode cX10_downwind 6 = .ok (.bipush 6, 2) := by decide +kernel
theorem dX10_downwind_8 : decode cX10_downwind 8 = .ok (.irem, 1) := by decide +kernel
theorem dX10_downwind_9 : decode cX10_downwind 9 = .ok (.istore 4, 2) := by decide +kernel
theorem dX10_downwind_11 : decode cX10_downwind 11 = .ok (.iload_n 1, 1) := by decide +kernel
theorem dX10_downwind_12 : decode cX10_downwind 12 = .ok (.tableswitch 51 0 2 #[28, 35, 44], 28) := by decide +kernel
theorem dX10_downwind_40 : decode cX10_downwind 40 = .ok (.iload_n 3, 1) := by decide +kernel
theorem dX10_downwind_41 : decode cX10_downwind 41 = .ok (.iload_n 2, 1) := by decide +kernel
theorem dX10_downwind_42 : decode cX10_downwind 42 = .ok (.iadd, 1) := by decide +kernel
theorem dX10_downwind_43 : decode cX10_downwind 43 = .ok (.istore_n 3, 1) := by decide +kernel
theorem dX10_downwind_44 : decode cX10_downwind 44 = .ok (.goto 25, 3) := by decide +kernel
theorem dX10_downwind_47 : decode cX10_downwind 47 = .ok (.iload 4, 2) := by decide +kernel
theorem dX10_downwind_49 : decode cX10_downwind 49 = .ok (.iload_n 2, 1) := by decide +kernel
theorem dX10_downwind_50 : decode cX10_downwind 50 = .ok (.iadd, 1) := by decide +kernel
theorem dX10_downwind_51 : decode cX10_downwind 51 = .ok (.istore 4, 2) := by decide +kernel
theorem dX10_downwind_53 : decode cX10_downwind 53 = .ok (.goto 16, 3) := by decide +kernel
theorem dX10_downwind_56 : decode cX10_downwind 56 = .ok (.iload_n 3, 1) := by decide +kernel
theorem dX10_downwind_57 : decode cX10_downwind 57 = .ok (.iload_n 2, 1) := by decide +kernel
theorem dX10_downwind_58 : decode cX10_downwind 58 = .ok (.isub, 1) := by decide +kernel
theorem dX10_downwind_59 : decode cX10_downwind 59 = .ok (.istore_n 3, 1) := by decide +kernel
theorem dX10_downwind_60 : decode cX10_downwind 60 = .ok (.goto 9, 3) := by decide +kernel
theorem dX10_downwind_63 : decode cX10_downwind 63 = .ok (.iload 4, 2) := by decide +kernel
theorem dX10_downwind_65 : decode cX10_downwind 65 = .ok (.iload_n 2, 1) := by decide +kernel
theorem dX10_downwind_66 : decode cX10_downwind 66 = .ok (.isub, 1) := by decide +kernel
theorem dX10_downwind_67 : decode cX10_downwind 67 = .ok (.istore 4, 2) := by decide +kernel
theorem dX10_downwind_69 : decode cX10_downwind 69 = .ok (.iload 4, 2) := by decide +kernel
theorem dX10_downwind_71 : decode cX10_downwind 71 = .ok (.ifCond .lt 24, 3) := by decide +kernel
theorem dX10_downwind_74 : decode cX10_downwind 74 = .ok (.iload 4, 2) := by decide +kernel
theorem dX10_downwind_76 : decode cX10_downwind 76 = .ok (.bipush 6, 2) := by decide +kernel
theorem dX10_downwind_78 : decode cX10_downwind 78 = .ok (.if_icmp .ge 17, 3) := by decide +kernel
theorem dX10_downwind_81 : decode cX10_downwind 81 = .ok (.iload_n 3, 1) := by decide +kernel
theorem dX10_downwind_82 : decode cX10_downwind 82 = .ok (.ifCond .lt 13, 3) := by decide +kernel
theorem dX10_downwind_85 : decode cX10_downwind 85 = .ok (.iload_n 3, 1) := by decide +kernel
theorem dX10_downwind_86 : decode cX10_downwind 86 = .ok (.bipush 6, 2) := by decide +kernel
theorem dX10_downwind_88 : decode cX10_downwind 88 = .ok (.if_icmp .ge 7, 3) := by decide +kernel
theorem dX10_downwind_91 : decode cX10_downwind 91 = .ok (.iconst 1, 1) := by decide +kernel
theorem dX10_downwind_92 : decode cX10_downwind 92 = .ok (.goto 4, 3) := by decide +kernel
theorem dX10_downwind_95 : decode cX10_downwind 95 = .ok (.iconst 0, 1) := by decide +kernel
theorem dX10_downwind_96 : decode cX10_downwind 96 = .ok (.istore 5, 2) := by decide +kernel
theorem dX10_downwind_98 : decode cX10_downwind 98 = .ok (.iload 5, 2) := by decide +kernel
theorem dX10_downwind_100 : decode cX10_downwind 100 = .ok (.ifCond .eq 13, 3) := by decide +kernel
theorem dX10_downwind_103 : decode cX10_downwind 103 = .ok (.bipush 6, 2) := by decide +kernel
theorem dX10_downwind_105 : decode cX10_downwind 105 = .ok (.iload_n 3, 1) := by decide +kernel
theorem dX10_downwind_106 : decode cX10_downwind 106 = .ok (.imul, 1) := by decide +kernel
theorem dX10_downwind_107 : decode cX10_downwind 107 = .ok (.iload 4, 2) := by decide +kernel
theorem dX10_downwind_109 : decode cX10_downwind 109 = .ok (.iadd, 1) := by decide +kernel
theorem dX10_downwind_110 : decode cX10_downwind 110 = .ok (.goto 4, 3) := by decide +kernel
theorem dX10_downwind_113 : decode cX10_downwind 113 = .ok (.iconst (-1), 1) := by decide +kernel
theorem dX10_downwind_114 : decode cX10_downwind 114 = .ok (.ireturn, 1) := by decide +kernel
theorem dX11_init_0 : decode cX11_init 0 = .ok (.aload_n 0, 1) := by decide +kernel
theorem dX11_init_1 : decode cX11_init 1 = .ok (.invokespecial 1, 3) := by decide +kernel
theorem dX11_init_4 : decode cX11_init 4 = .ok (.aload_n 0, 1) := by decide +kernel
theorem dX11_init_5 : decode cX11_init 5 = .ok (.bipush 6, 2) := by decide +kernel
theorem dX11_init_7 : decode cX11_init 7 = .ok (.newarray .int, 2) := by decide +kernel
theorem dX11_init_9 : decode cX11_init 9 = .ok (.putfield 7, 3) := by decide +kernel
theorem dX11_init_12 : decode cX11_init 12 = .ok (.aload_n 0, 1) := by decide +kernel
theorem dX11_init_13 : decode cX11_init 13 = .ok (.bipush 6, 2) := by decide +kernel
theorem dX11_init_15 : decode cX11_init 15 = .ok (.newarray .int, 2) := by decide +kernel
theorem dX11_init_17 : decode cX11_init 17 = .ok (.putfield 13, 3) := by decide +kernel
theorem dX11_init_20 : decode cX11_init 20 = .ok (.aload_n 0, 1) := by decide +kernel
theorem dX11_init_21 : decode cX11_init 21 = .ok (.bipush 6, 2) := by decide +kernel
theorem dX11_init_23 : decode cX11_init 23 = .ok (.newarray .int, 2) := by decide +kernel
theorem dX11_init_25 : decode cX11_init 25 = .ok (.putfield 16, 3) := by decide +kernel
theorem dX11_init_28 : decode cX11_init 28 = .ok (.aload_n 0, 1) := by decide +kernel
theorem dX11_init_29 : decode cX11_init 29 = .ok (.bipush 6, 2) := by decide +kernel
theorem dX11_init_31 : decode cX11_init 31 = .ok (.newarray .int, 2) := by decide +kernel
theorem dX11_init_33 : decode cX11_init 33 = .ok (.putfield 19, 3) := by decide +kernel
theorem dX11_init_36 : decode cX11_init 36 = .ok (.aload_n 0, 1) := by decide +kernel
theorem dX11_init_37 : decode cX11_init 37 = .ok (.bipush 36, 2) := by decide +kernel
theorem dX11_init_39 : decode cX11_init 39 = .ok (.newarray .int, 2) := by decide +kernel
theorem dX11_init_41 : decode cX11_init 41 = .ok (.putfield 22, 3) := by decide +kernel
theorem dX11_init_44 : decode cX11_init 44 = .ok (.aload_n 0, 1) := by decide +kernel
theorem dX11_init_45 : decode cX11_init 45 = .ok (.bipush 8, 2) := by decide +kernel
theorem dX11_init_47 : decode cX11_init 47 = .ok (.newarray .int, 2) := by decide +kernel
theorem dX11_init_49 : decode cX11_init 49 = .ok (.putfield 25, 3) := by decide +kernel
theorem dX11_init_52 : decode cX11_init 52 = .ok (.aload_n 0, 1) := by decide +kernel
theorem dX11_init_53 : decode cX11_init 53 = .ok (.bipush 8, 2) := by decide +kernel
theorem dX11_init_55 : decode cX11_init 55 = .ok (.newarray .int, 2) := by decide +kernel
theorem dX11_init_57 : decode cX11_init 57 = .ok (.putfield 28, 3) := by decide +kernel
theorem dX11_init_60 : decode cX11_init 60 = .ok (.aload_n 0, 1) := by decide +kernel
theorem dX11_init_61 : decode cX11_init 61 = .ok (.bipush 60, 2) := by decide +kernel
theorem dX11_init_63 : decode cX11_init 63 = .ok (.newarray .int, 2) := by decide +kernel
theorem dX11_init_65 : decode cX11_init 65 = .ok (.putfield 31, 3) := by decide +kernel
theorem dX11_init_68 : decode cX11_init 68 = .ok (.aload_n 0, 1) := by decide +kernel
theorem dX11_init_69 : decode cX11_init 69 = .ok (.bipush 60, 2) := by decide +kernel
theorem dX11_init_71 : decode cX11_init 71 = .ok (.newarray .int, 2) := by decide +kernel
theorem dX11_init_73 : decode cX11_init 73 = .ok (.putfield 34, 3) := by decide +kernel
theorem dX11_init_76 : decode cX11_init 76 = .ok (.aload_n 0, 1) := by decide +kernel
theorem dX11_init_77 : decode cX11_init 77 = .ok (.bipush 60, 2) := by decide +kernel
theorem dX11_init_79 : decode cX11_init 79 = .ok (.newarray .int, 2) := by decide +kernel
theorem dX11_init_81 : decode cX11_init 81 = .ok (.putfield 37, 3) := by decide +kernel
theorem dX11_init_84 : decode cX11_init 84 = .ok (.aload_n 0, 1) := by decide +kernel
theorem dX11_init_85 : decode cX11_init 85 = .ok (.bipush 60, 2) := by decide +kernel
theorem dX11_init_87 : decode cX11_init 87 = .ok (.newarray .int, 2) := by decide +kernel
theorem dX11_init_89 : decode cX11_init 89 = .ok (.putfield 40, 3) := by decide +kernel
theorem dX11_init_92 : decode cX11_init 92 = .ok (.aload_n 0, 1) := by decide +kernel
theorem dX11_init_93 : decode cX11_init 93 = .ok (.bipush 53, 2) := by decide +kernel
theorem dX11_init_95 : decode cX11_init 95 = .ok (.newarray .int, 2) := by decide +kernel
theorem dX11_init_97 : decode cX11_init 97 = .ok (.putfield 43, 3) := by decide +kernel
theorem dX11_init_100 : decode cX11_init 100 = .ok (.aload_n 0, 1) := by decide +kernel
theorem dX11_init_101 : decode cX11_init 101 = .ok (.bipush 6, 2) := by decide +kernel
theorem dX11_init_103 : decode cX11_init 103 = .ok (.newarray .int, 2) := by decide +kernel
theorem dX11_init_105 : decode cX11_init 105 = .ok (.putfield 46, 3) := by decide +kernel
theorem dX11_init_108 : decode cX11_init 108 = .ok (.aload_n 0, 1) := by decide +kernel
theorem dX11_init_109 : decode cX11_init 109 = .ok (.bipush 36, 2) := by decide +kernel
theorem dX11_init_111 : decode cX11_init 111 = .ok (.newarray .int, 2) := by decide +kernel
theorem dX11_init_113 : decode cX11_init 113 = .ok (.putfield 49, 3) := by decide +kernel
theorem dX11_init_116 : decode cX11_init 116 = .ok (.aload_n 0, 1) := by decide +kernel
theorem dX11_init_117 : decode cX11_init 117 = .ok (.bipush 36, 2) := by decide +kernel
theorem dX11_init_119 : decode cX11_init 119 = .ok (.newarray .int, 2) := by decide +kernel
theorem dX11_init_121 : decode cX11_init 121 = .ok (.putfield 52, 3) := by decide +kernel
theorem dX11_init_124 : decode cX11_init 124 = .ok (.aload_n 0, 1) := by decide +kernel
theorem dX11_init_125 : decode cX11_init 125 = .ok (.bipush 82, 2) := by decide +kernel
theorem dX11_init_127 : decode cX11_init 127 = .ok (.newarray .int, 2) := by decide +kernel
theorem dX11_init_129 : decode cX11_init 129 = .ok (.putfield 55, 3) := by decide +kernel
theorem dX11_init_132 : decode cX11_init 132 = .ok (.aload_n 0, 1) := by decide +kernel
theorem dX11_init_133 : decode cX11_init 133 = .ok (.bipush 37, 2) := by decide +kernel
theorem dX11_init_135 : decode cX11_init 135 = .ok (.newarray .long, 2) := by decide +kernel
theorem dX11_init_137 : decode cX11_init 137 = .ok (.putfield 58, 3) := by decide +kernel
theorem dX11_init_140 : decode cX11_init 140 = .ok (.aload_n 0, 1) := by decide +kernel
theorem dX11_init_141 : decode cX11_init 141 = .ok (.bipush 37, 2) := by decide +kernel
theorem dX11_init_143 : decode cX11_init 143 = .ok (.newarray .long, 2) := by decide +kernel
theorem dX11_init_145 : decode cX11_init 145 = .ok (.putfield 62, 3) := by decide +kernel
theorem dX11_init_148 : decode cX11_init 148 = .ok (.aload_n 0, 1) := by decide +kernel
theorem dX11_init_149 : decode cX11_init 149 = .ok (.sipush 180, 3) := by decide +kernel
theorem dX11_init_152 : decode cX11_init 152 = .ok (.newarray .int, 2) := by decide +kernel
theorem dX11_init_154 : decode cX11_init 154 = .ok (.putfield 65, 3) := by decide +kernel
theorem dX11_init_157 : decode cX11_init 157 = .ok (.aload_n 0, 1) := by decide +kernel
theorem dX11_init_158 : decode cX11_init 158 = .ok (.iconst 2, 1) := by decide +kernel
theorem dX11_init_159 : decode cX11_init 159 = .ok (.newarray .boolean, 2) := by decide +kernel
theorem dX11_init_161 : decode cX11_init 161 = .ok (.putfield 68, 3) := by decide +kernel
theorem dX11_init_164 : decode cX11_init 164 = .ok (.aload_n 0, 1) := by decide +kernel
theorem dX11_init_165 : decode cX11_init 165 = .ok (.iconst 1, 1) := by decide +kernel
theorem dX11_init_166 : decode cX11_init 166 = .ok (.putfield 72, 3) := by decide +kernel
theorem dX11_init_169 : decode cX11_init 169 = .ok (.return_, 1) := by decide +kernel
theorem dX11_in_0 : decode cX11_in 0 = .ok (.lload_n 0, 1) := by decide +kernel
theorem dX11_in_1 : decode cX11_in 1 = .ok (.lload_n 2, 1) := by decide +kernel
theorem dX11_in_2 : decode cX11_in 2 = .ok (.lcmp, 1) := by decide +kernel
theorem dX11_in_3 : decode cX11_in 3 = .ok (.ifCond .lt 14, 3) := by decide +kernel
theorem dX11_in_6 : decode cX11_in 6 = .ok (.lload_n 0, 1) := by decide +kernel
theorem dX11_in_7 : decode cX11_in 7 = .ok (.lload 4, 2) := by decide +kernel
theorem dX11_in_9 : decode cX11_in 9 = .ok (.lcmp, 1) := by decide +kernel
theorem dX11_in_10 : decode cX11_in 10 = .ok (.ifCond .gt 7, 3) := by decide +kernel
theorem dX11_in_13 : decode cX11_in 13 = .ok (.iconst 1, 1) := by decide +kernel
theorem dX11_in_14 : decode cX11_in 14 = .ok (.goto 4, 3) := by decide +kernel
theorem dX11_in_17 : decode cX11_in 17 = .ok (.iconst 0, 1) := by decide +kernel
theorem dX11_in_18 : decode cX11_in 18 = .ok (.ireturn, 1) := by decide +kernel
theorem dX11_bitsOf_0 : decode cX11_bitsOf 0 = .ok (.iconst 0, 1) := by decide +kernel
theorem dX11_bitsOf_1 : decode cX11_bitsOf 1 = .ok (.istore_n 1, 1) := by decide +kernel
theorem dX11_bitsOf_2 : decode cX11_bitsOf 2 = .ok (.iload_n 0, 1) := by decide +kernel
theorem dX11_bitsOf_3 : decode cX11_bitsOf 3 = .ok (.istore_n 2, 1) := by decide +kernel
theorem dX11_bitsOf_4 : decode cX11_bitsOf 4 = .ok (.iload_n 2, 1) := by decide +kernel
theorem dX11_bitsOf_5 : decode cX11_bitsOf 5 = .ok (.ifCond .eq 15, 3) := by decide +kernel
theorem dX11_bitsOf_8 : decode cX11_bitsOf 8 = .ok (.iinc 1 1, 3) := by decide +kernel
theorem dX11_bitsOf_11 : decode cX11_bitsOf 11 = .ok (.iload_n 2, 1) := by decide +kernel
theorem dX11_bitsOf_12 : decode cX11_bitsOf 12 = .ok (.iload_n 2, 1) := by decide +kernel
theorem dX11_bitsOf_13 : decode cX11_bitsOf 13 = .ok (.iconst 1, 1) := by decide +kernel
theorem dX11_bitsOf_14 : decode cX11_bitsOf 14 = .ok (.isub, 1) := by decide +kernel
theorem dX11_bitsOf_15 : decode cX11_bitsOf 15 = .ok (.iand, 1) := by decide +kernel
theorem dX11_bitsOf_16 : decode cX11_bitsOf 16 = .ok (.istore_n 2, 1) := by decide +kernel
theorem dX11_bitsOf_17 : decode cX11_bitsOf 17 = .ok (.goto (-13), 3) := by decide +kernel
theorem dX11_bitsOf_20 : decode cX11_bitsOf 20 = .ok (.iload_n 1, 1) := by decide +kernel
theorem dX11_bitsOf_21 : decode cX11_bitsOf 21 = .ok (.ireturn, 1) := by decide +kernel
theorem dX11_isField_0 : decode cX11_isField 0 = .ok (.iload_n 0, 1) := by decide +kernel
theorem dX11_isField_1 : decode cX11_isField 1 = .ok (.i2l, 1) := by decide +kernel
theorem dX11_isField_2 : decode cX11_isField 2 = .ok (.lconst 0, 1) := by decide +kernel
theorem dX11_isField_3 : decode cX11_isField 3 = .ok (.ldc2_w 76, 3) := by decide +kernel
theorem dX11_isField_6 : decode cX11_isField 6 = .ok (.invokestatic 78, 3) := by decide +kernel
theorem dX11_isField_9 : decode cX11_isField 9 = .ok (.ireturn, 1) := by decide +kernel
theorem dX11_isFamily_0 : decode cX11_isFamily 0 = .ok (.iload_n 1, 1) := by decide +kernel
theorem dX11_isFamily_1 : decode cX11_isFamily 1 = .ok (.i2l, 1) := by decide +kernel
theorem dX11_isFamily_2 : decode cX11_isFamily 2 = .ok (.lconst 0, 1) := by decide +kernel
theorem dX11_isFamily_3 : decode cX11_isFamily 3 = .ok (.ldc2_w 82, 3) := by decide +kernel
theorem dX11_isFamily_6 : decode cX11_isFamily 6 = .ok (.invokestatic 78, 3) := by decide +kernel
theorem dX11_isFamily_9 : decode cX11_isFamily 9 = .ok (.ifCond .eq 19, 3) := by decide +kernel
theorem dX11_isFamily_12 : decode cX11_isFamily 12 = .ok (.aload_n 0, 1) := by decide +kernel
theorem dX11_isFamily_13 : decode cX11_isFamily 13 = .ok (.getfield 84, 3) := by decide +kernel
theorem dX11_isFamily_16 : decode cX11_isFamily 16 = .ok (.iload_n 1, 1) := by decide +kernel
theorem dX11_isFamily_17 : decode cX11_isFamily 17 = .ok (.ishr, 1) := by decide +kernel
theorem dX11_isFamily_18 : decode cX11_isFamily 18 = .ok (.iconst 1, 1) := by decide +kernel
theorem dX11_isFamily_19 : decode cX11_isFamily 19 = .ok (.iand, 1) := by decide +kernel
theorem dX11_isFamily_20 : decode cX11_isFamily 20 = .ok (.iconst 1, 1) := by decide +kernel
theorem dX11_isFamily_21 : decode cX11_isFamily 21 = .ok (.if_icmp .ne 7, 3) := by decide +kernel
theorem dX11_isFamily_24 : decode cX11_isFamily 24 = .ok (.iconst 1, 1) := by decide +kernel
theorem dX11_isFamily_25 : decode cX11_isFamily 25 = .ok (.goto 4, 3) := by decide +kernel
theorem dX11_isFamily_28 : decode cX11_isFamily 28 = .ok (.iconst 0, 1) := by decide +kernel
theorem dX11_isFamily_29 : decode cX11_isFamily 29 = .ok (.ireturn, 1) := by decide +kernel
theorem dX11_familyOn_0 : decode cX11_familyOn 0 = .ok (.bipush (-6), 2) := by decide +kernel
theorem dX11_familyOn_2 : decode cX11_familyOn 2 = .ok (.istore_n 2, 1) := by decide +kernel
theorem dX11_familyOn_3 : decode cX11_familyOn 3 = .ok (.iconst 0, 1) := by decide +kernel
theorem dX11_familyOn_4 : decode cX11_familyOn 4 = .ok (.istore_n 3, 1) := by decide +kernel
theorem dX11_familyOn_5 : decode cX11_familyOn 5 = .ok (.iload_n 3, 1) := by decide +kernel
theorem dX11_familyOn_6 : decode cX11_familyOn 6 = .ok (.bipush 6, 2) := by decide +kernel
theorem dX11_familyOn_8 : decode cX11_familyOn 8 = .ok (.if_icmp .ge 33, 3) := by decide +kernel
theorem dX11_familyOn_11 : decode cX11_familyOn 11 = .ok (.aload_n 0, 1) := by decide +kernel
theorem dX11_familyOn_12 : decode cX11_familyOn 12 = .ok (.iload_n 3, 1) := by decide +kernel
theorem dX11_familyOn_13 : decode cX11_familyOn 13 = .ok (.invokevirtual 87, 3) := by decide +kernel
theorem dX11_familyOn_16 : decode cX11_familyOn 16 = .ok (.ifCond .eq 17, 3) := by decide +kernel
theorem dX11_familyOn_19 : decode cX11_familyOn 19 = .ok (.aload_n 0, 1) := by decide +kernel
theorem dX11_familyOn_20 : decode cX11_familyOn 20 = .ok (.getfield 7, 3) := by decide +kernel
theorem dX11_familyOn_23 : decode cX11_familyOn 23 = .ok (.iload_n 3, 1) := by decide +kernel
theorem dX11_familyOn_24 : decode cX11_familyOn 24 = .ok (.iaload, 1) := by decide +kernel
theorem dX11_familyOn_25 : decode cX11_familyOn 25 = .ok (.iload_n 1, 1) := by decide +kernel
theorem dX11_familyOn_26 : decode cX11_familyOn 26 = .ok (.if_icmp .ne 7, 3) := by decide +kernel
theorem dX11_familyOn_29 : decode cX11_familyOn 29 = .ok (.iload_n 3, 1) := by decide +kernel
theorem dX11_familyOn_30 : decode cX11_familyOn 30 = .ok (.goto 4, 3) := by decide +kernel
theorem dX11_familyOn_33 : decode cX11_familyOn 33 = .ok (.iload_n 2, 1) := by decide +kernel
theorem dX11_familyOn_34 : decode cX11_familyOn 34 = .ok (.istore_n 2, 1) := by decide +kernel
theorem dX11_familyOn_35 : decode cX11_familyOn 35 = .ok (.iinc 3 1, 3) := by decide +kernel
theorem dX11_familyOn_38 : decode cX11_familyOn 38 = .ok (.goto (-33), 3) := by decide +kernel
theorem dX11_familyOn_41 : decode cX11_familyOn 41 = .ok (.iload_n 2, 1) := by decide +kernel
theorem dX11_familyOn_42 : decode cX11_familyOn 42 = .ok (.ireturn, 1) := by decide +kernel
theorem dX11_family_0 : decode cX11_family 0 = .ok (.iload_n 1, 1) := by decide +kernel
theorem dX11_family_1 : decode cX11_family 1 = .ok (.i2l, 1) := by decide +kernel
theorem dX11_family_2 : decode cX11_family 2 = .ok (.lconst 0, 1) := by decide +kernel
theorem dX11_family_3 : decode cX11_family 3 = .ok (.ldc2_w 82, 3) := by decide +kernel
theorem dX11_family_6 : decode cX11_family 6 = .ok (.invokestatic 78, 3) := by decide +kernel
theorem dX11_family_9 : decode cX11_family 9 = .ok (.ifCond .ne 5, 3) := by decide +kernel
theorem dX11_family_12 : decode cX11_family 12 = .ok (.iconst (-1), 1) := by decide +kernel
theorem dX11_family_13 : decode cX11_family 13 = .ok (.ireturn, 1) := by decide +kernel
theorem dX11_family_14 : decode cX11_family 14 = .ok (.iload_n 2, 1) := by decide +kernel
theorem dX11_family_15 : decode cX11_family 15 = .ok (.invokestatic 91, 3) := by decide +kernel
theorem dX11_family_18 : decode cX11_family 18 = .ok (.ifCond .eq 28, 3) := by decide +kernel
theorem dX11_family_21 : decode cX11_family 21 = .ok (.iload_n 3, 1) := by decide +kernel
theorem dX11_family_22 : decode cX11_family 22 = .ok (.i2l, 1) := by decide +kernel
theorem dX11_family_23 : decode cX11_family 23 = .ok (.lconst 0, 1) := by decide +kernel
theorem dX11_family_24 : decode cX11_family 24 = .ok (.ldc2_w 94, 3) := by decide +kernel
theorem dX11_family_27 : decode cX11_family 27 = .ok (.invokestatic 78, 3) := by decide +kernel
theorem dX11_family_30 : decode cX11_family 30 = .ok (.ifCond .eq 16, 3) := by decide +kernel
theorem dX11_family_33 : decode cX11_family 33 = .ok (.iload 4, 2) := by decide +kernel
theorem dX11_family_35 : decode cX11_family 35 = .ok (.i2l, 1) := by decide +kernel
theorem dX11_family_36 : decode cX11_family 36 = .ok (.lconst 1, 1) := by decide +kernel
theorem dX11_family_37 : decode cX11_family 37 = .ok (.ldc2_w 96, 3) := by decide +kernel
theorem dX11_family_40 : decode cX11_family 40 = .ok (.invokestatic 78, 3) := by decide +kernel
theorem dX11_family_43 : decode cX11_family 43 = .ok (.ifCond .ne 6, 3) := by decide +kernel
theorem dX11_family_46 : decode cX11_family 46 = .ok (.bipush (-2), 2) := by decide +kernel
theorem dX11_family_48 : decode cX11_family 48 = .ok (.ireturn, 1) := by decide +kernel
theorem dX11_family_49 : decode cX11_family 49 = .ok (.aload_n 0, 1) := by decide +kernel
theorem dX11_family_50 : decode cX11_family 50 = .ok (.iload_n 2, 1) := by decide +kernel
theorem dX11_family_51 : decode cX11_family 51 = .ok (.invokevirtual 98, 3) := by decide +kernel
theorem dX11_family_54 : decode cX11_family 54 = .ok (.istore 5, 2) := by decide +kernel
theorem dX11_family_56 : decode cX11_family 56 = .ok (.iload 5, 2) := by decide +kernel
theorem dX11_family_58 : decode cX11_family 58 = .ok (.ifCond .lt 12, 3) := by decide +kernel
theorem dX11_family_61 : decode cX11_family 61 = .ok (.iload 5, 2) := by decide +kernel
theorem dX11_family_63 : decode cX11_family 63 = .ok (.iload_n 1, 1) := by decide +kernel
theorem dX11_family_64 : decode cX11_family 64 = .ok (.if_icmp .eq 6, 3) := by decide +kernel
theorem dX11_family_67 : decode cX11_family 67 = .ok (.bipush (-3), 2) := by decide +kernel
theorem dX11_family_69 : decode cX11_family 69 = .ok (.ireturn, 1) := by decide +kernel
theorem dX11_family_70 : decode cX11_family 70 = .ok (.aload_n 0, 1) := by decide +kernel
theorem dX11_family_71 : decode cX11_family 71 = .ok (.dup, 1) := by decide +kernel
theorem dX11_family_72 : decode cX11_family 72 = .ok (.getfield 84, 3) := by decide +kernel
theorem dX11_family_75 : decode cX11_family 75 = .ok (.iconst 1, 1) := by decide +kernel
theorem dX11_family_76 : decode cX11_family 76 = .ok (.iload_n 1, 1) := by decide +kernel
theorem dX11_family_77 : decode cX11_family 77 = .ok (.ishl, 1) := by decide +kernel
theorem dX11_family_78 : decode cX11_family 78 = .ok (.ior, 1) := by decide +kernel
theorem dX11_family_79 : decode cX11_family 79 = .ok (.putfield 84, 3) := by decide +kernel
theorem dX11_family_82 : decode cX11_family 82 = .ok (.aload_n 0, 1) := by decide +kernel
theorem dX11_family_83 : decode cX11_family 83 = .ok (.getfield 7, 3) := by decide +kernel
theorem dX11_family_86 : decode cX11_family 86 = .ok (.iload_n 1, 1) := by decide +kernel
theorem dX11_family_87 : decode cX11_family 87 = .ok (.iload_n 2, 1) := by decide +kernel
theorem dX11_family_88 : decode cX11_family 88 = .ok (.iastore, 1) := by decide +kernel
theorem dX11_family_89 : decode cX11_family 89 = .ok (.aload_n 0, 1) := by decide +kernel
theorem dX11_family_90 : decode cX11_family 90 = .ok (.getfield 13, 3) := by decide +kernel
theorem dX11_family_93 : decode cX11_family 93 = .ok (.iload_n 1, 1) := by decide +kernel
theorem dX11_family_94 : decode cX11_family 94 = .ok (.iload_n 3, 1) := by decide +kernel
theorem dX11_family_95 : decode cX11_family 95 = .ok (.iastore, 1) := by decide +kernel
theorem dX11_family_96 : decode cX11_family 96 = .ok (.aload_n 0, 1) := by decide +kernel
theorem dX11_family_97 : decode cX11_family 97 = .ok (.getfield 16, 3) := by decide +kernel
theorem dX11_family_100 : decode cX11_family 100 = .ok (.iload_n 1, 1) := by decide +kernel
theorem dX11_family_101 : decode cX11_family 101 = .ok (.iload 4, 2) := by decide +kernel
theorem dX11_family_103 : decode cX11_family 103 = .ok (.iastore, 1) := by decide +kernel
theorem dX11_family_104 : decode cX11_family 104 = .ok (.aload_n 0, 1) := by decide +kernel
theorem dX11_family_105 : decode cX11_family 105 = .ok (.getfield 19, 3) := by decide +kernel
theorem dX11_family_108 : decode cX11_family 108 = .ok (.iload_n 1, 1) := by decide +kernel
theorem dX11_family_109 : decode cX11_family 109 = .ok (.iconst 0, 1) := by decide +kernel
theorem dX11_family_110 : decode cX11_family 110 = .ok (.iastore, 1) := by decide +kernel
theorem dX11_family_111 : decode cX11_family 111 = .ok (.aload_n 0, 1) := by decide +kernel
theorem dX11_family_112 : decode cX11_family 112 = .ok (.getfield 84, 3) := by decide +kernel
theorem dX11_family_115 : decode cX11_family 115 = .ok (.invokestatic 102, 3) := by decide +kernel
theorem dX11_family_118 : decode cX11_family 118 = .ok (.ireturn, 1) := by decide +kernel
theorem dX11_fall_0 : decode cX11_fall 0 = .ok (.aload_n 0, 1) := by decide +kernel
theorem dX11_fall_1 : decode cX11_fall 1 = .ok (.getfield 22, 3) := by decide +kernel
theorem dX11_fall_4 : decode cX11_fall 4 = .ok (.iload_n 1, 1) := by decide +kernel
theorem dX11_fall_5 : decode cX11_fall 5 = .ok (.iaload, 1) := by decide +kernel
theorem dX11_fall_6 : decode cX11_fall 6 = .ok (.iload_n 2, 1) := by decide +kernel
theorem dX11_fall_7 : decode cX11_fall 7 = .ok (.iadd, 1) := by decide +kernel
theorem dX11_fall_8 : decode cX11_fall 8 = .ok (.istore_n 3, 1) := by decide +kernel
theorem dX11_fall_9 : decode cX11_fall 9 = .ok (.aload_n 0, 1) := by decide +kernel
theorem dX11_fall_10 : decode cX11_fall 10 = .ok (.dup, 1) := by decide +kernel
theorem dX11_fall_11 : decode cX11_fall 11 = .ok (.getfield 105, 3) := by decide +kernel
theorem dX11_fall_14 : decode cX11_fall 14 = .ok (.iload_n 3, 1) := by decide +kernel
theorem dX11_fall_15 : decode cX11_fall 15 = .ok (.sipush 999, 3) := by decide +kernel
theorem dX11_fall_18 : decode cX11_fall 18 = .ok (.if_icmp .le 11, 3) := by decide +kernel
theorem dX11_fall_21 : decode cX11_fall 21 = .ok (.iload_n 3, 1) := by decide +kernel
theorem dX11_fall_22 : decode cX11_fall 22 = .ok (.sipush 999, 3) := by decide +kernel
theorem dX11_fall_25 : decode cX11_fall 25 = .ok (.isub, 1) := by decide +kernel
theorem dX11_fall_26 : decode cX11_fall 26 = .ok (.goto 4, 3) := by decide +kernel
theorem dX11_fall_29 : decode cX11_fall 29 = .ok (.iconst 0, 1) := by decide +kernel
theorem dX11_fall_30 : decode cX11_fall 30 = .ok (.iadd, 1) := by decide +kernel
theorem dX11_fall_31 : decode cX11_fall 31 = .ok (.putfield 105, 3) := by decide +kernel
theorem dX11_fall_34 : decode cX11_fall 34 = .ok (.aload_n 0, 1) := by decide +kernel
theorem dX11_fall_35 : decode cX11_fall 35 = .ok (.getfield 22, 3) := by decide +kernel
theorem dX11_fall_38 : decode cX11_fall 38 = .ok (.iload_n 1, 1) := by decide +kernel
theorem dX11_fall_39 : decode cX11_fall 39 = .ok (.iload_n 3, 1) := by decide +kernel
theorem dX11_fall_40 : decode cX11_fall 40 = .ok (.sipush 999, 3) := by decide +kernel
theorem dX11_fall_43 : decode cX11_fall 43 = .ok (.if_icmp .le 9, 3) := by decide +kernel
theorem dX11_fall_46 : decode cX11_fall 46 = .ok (.sipush 999, 3) := by decide +kernel
theorem dX11_fall_49 : decode cX11_fall 49 = .ok (.goto 4, 3) := by decide +kernel
theorem dX11_fall_52 : decode cX11_fall 52 = .ok (.iload_n 3, 1) := by decide +kernel
theorem dX11_fall_53 : decode cX11_fall 53 = .ok (.iastore, 1) := by decide +kernel
theorem dX11_fall_54 : decode cX11_fall 54 = .ok (.return_, 1) := by decide +kernel
theorem dX11_leave_0 : decode cX11_leave 0 = .ok (.aload_n 0, 1) := by decide +kernel
theorem dX11_leave_1 : decode cX11_leave 1 = .ok (.iload_n 1, 1) := by decide +kernel
theorem dX11_leave_2 : decode cX11_leave 2 = .ok (.invokevirtual 87, 3) := by decide +kernel
theorem dX11_leave_5 : decode cX11_leave 5 = .ok (.ifCond .ne 5, 3) := by decide +kernel
theorem dX11_leave_8 : decode cX11_leave 8 = .ok (.iconst (-1), 1) := by decide +kernel
theorem dX11_leave_9 : decode cX11_leave 9 = .ok (.ireturn, 1) := by decide +kernel
theorem dX11_leave_10 : decode cX11_leave 10 = .ok (.aload_n 0, 1) := by decide +kernel
theorem dX11_leave_11 : decode cX11_leave 11 = .ok (.dup, 1) := by decide +kernel
theorem dX11_leave_12 : decode cX11_leave 12 = .ok (.getfield 84, 3) := by decide +kernel
theorem dX11_leave_15 : decode cX11_leave 15 = .ok (.iconst 1, 1) := by decide +kernel
theorem dX11_leave_16 : decode cX11_leave 16 = .ok (.iload_n 1, 1) := by decide +kernel
theorem dX11_leave_17 : decode cX11_leave 17 = .ok (.ishl, 1) := by decide +kernel
theorem dX11_leave_18 : decode cX11_leave 18 = .ok (.iconst (-1), 1) := by decide +kernel
theorem dX11_leave_19 : decode cX11_leave 19 = .ok (.ixor, 1) := by decide +kernel
theorem dX11_leave_20 : decode cX11_leave 20 = .ok (.iand, 1) := by decide +kernel
theorem dX11_leave_21 : decode cX11_leave 21 = .ok (.putfield 84, 3) := by decide +kernel
theorem dX11_leave_24 : decode cX11_leave 24 = .ok (.aload_n 0, 1) := by decide +kernel
theorem dX11_leave_25 : decode cX11_leave 25 = .ok (.aload_n 0, 1) := by decide +kernel
theorem dX11_leave_26 : decode cX11_leave 26 = .ok (.getfield 7, 3) := by decide +kernel
theorem dX11_leave_29 : decode cX11_leave 29 = .ok (.iload_n 1, 1) := by decide +kernel
theorem dX11_leave_30 : decode cX11_leave 30 = .ok (.iaload, 1) := by decide +kernel
theorem dX11_leave_31 : decode cX11_leave 31 = .ok (.aload_n 0, 1) := by decide +kernel
theorem dX11_leave_32 : decode cX11_leave 32 = .ok (.getfield 13, 3) := by decide +kernel
theorem dX11_leave_35 : decode cX11_leave 35 = .ok (.iload_n 1, 1) := by decide +kernel
theorem dX11_leave_36 : decode cX11_leave 36 = .ok (.iaload, 1) := by decide +kernel
theorem dX11_leave_37 : decode cX11_leave 37 = .ok (.invokevirtual 108, 3) := by decide +kernel
theorem dX11_leave_40 : decode cX11_leave 40 = .ok (.aload_n 0, 1) := by decide +kernel
theorem dX11_leave_41 : decode cX11_leave 41 = .ok (.getfield 84, 3) := by decide +kernel
theorem dX11_leave_44 : decode cX11_leave 44 = .ok (.invokestatic 102, 3) := by decide +kernel
theorem dX11_leave_47 : decode cX11_leave 47 = .ok (.ireturn, 1) := by decide +kernel
theorem dX11_lay_0 : decode cX11_lay 0 = .ok (.iload_n 1, 1) := by decide +kernel
theorem dX11_lay_1 : decode cX11_lay 1 = .ok (.invokestatic 91, 3) := by decide +kernel
theorem dX11_lay_4 : decode cX11_lay 4 = .ok (.ifCond .eq 15, 3) := by decide +kernel
theorem dX11_lay_7 : decode cX11_lay 7 = .ok (.iload_n 2, 1) := by decide +kernel
theorem dX11_lay_8 : decode cX11_lay 8 = .ok (.i2l, 1) := by decide +kernel
theorem dX11_lay_9 : decode cX11_lay 9 = .ok (.lconst 0, 1) := by decide +kernel
theorem dX11_lay_10 : decode cX11_lay 10 = .ok (.ldc2_w 112, 3) := by decide +kernel
theorem dX11_lay_13 : decode cX11_lay 13 = .ok (.invokestatic 78, 3) := by decide +kernel
theorem dX11_lay_16 : decode cX11_lay 16 = .ok (.ifCond .ne 6, 3) := by decide +kernel
theorem dX11_lay_19 : decode cX11_lay 19 = .ok (.bipush (-2), 2) := by decide +kernel
theorem dX11_lay_21 : decode cX11_lay 21 = .ok (.ireturn, 1) := by decide +kernel
theorem dX11_lay_22 : decode cX11_lay 22 = .ok (.aload_n 0, 1) := by decide +kernel
theorem dX11_lay_23 : decode cX11_lay 23 = .ok (.getfield 22, 3) := by decide +kernel
theorem dX11_lay_26 : decode cX11_lay 26 = .ok (.iload_n 1, 1) := by decide +kernel
theorem dX11_lay_27 : decode cX11_lay 27 = .ok (.iaload, 1) := by decide +kernel
theorem dX11_lay_28 : decode cX11_lay 28 = .ok (.istore_n 3, 1) := by decide +kernel
theorem dX11_lay_29 : decode cX11_lay 29 = .ok (.aload_n 0, 1) := by decide +kernel
theorem dX11_lay_30 : decode cX11_lay 30 = .ok (.getfield 22, 3) := by decide +kernel
theorem dX11_lay_33 : decode cX11_lay 33 = .ok (.iload_n 1, 1) := by decide +kernel
theorem dX11_lay_34 : decode cX11_lay 34 = .ok (.iload_n 2, 1) := by decide +kernel
theorem dX11_lay_35 : decode cX11_lay 35 = .ok (.iastore, 1) := by decide +kernel
theorem dX11_lay_36 : decode cX11_lay 36 = .ok (.iload_n 3, 1) := by decide +kernel
theorem dX11_lay_37 : decode cX11_lay 37 = .ok (.ireturn, 1) := by decide +kernel
theorem dX11_set_0 : decode cX11_set 0 = .ok (.iload_n 1, 1) := by decide +kernel
theorem dX11_set_1 : decode cX11_set 1 = .ok (.i2l, 1) := by decide +kernel
theorem dX11_set_2 : decode cX11_set 2 = .ok (.lconst 0, 1) := by decide +kernel
theorem dX11_set_3 : decode cX11_set 3 = .ok (.ldc2_w 114, 3) := by decide +kernel
theorem dX11_set_6 : decode cX11_set 6 = .ok (.invokestatic 78, 3) := by decide +kernel
theorem dX11_set_9 : decode cX11_set 9 = .ok (.ifCond .eq 34, 3) := by decide +kernel
theorem dX11_set_12 : decode cX11_set 12 = .ok (.iload_n 2, 1) := by decide +kernel
theorem dX11_set_13 : decode cX11_set 13 = .ok (.i2l, 1) := by decide +kernel
theorem dX11_set_14 : decode cX11_set 14 = .ok (.lconst 0, 1) := by decide +kernel
theorem dX11_set_15 : decode cX11_set 15 = .ok (.iload_n 1, 1) := by decide +kernel
theorem dX11_set_16 : decode cX11_set 16 = .ok (.ifCond .ne 9, 3) := by decide +kernel
theorem dX11_set_19 : decode cX11_set 19 = .ok (.ldc2_w 116, 3) := by decide +kernel
theorem dX11_set_22 : decode cX11_set 22 = .ok (.goto 15, 3) := by decide +kernel
theorem dX11_set_25 : decode cX11_set 25 = .ok (.iload_n 1, 1) := by decide +kernel
theorem dX11_set_26 : decode cX11_set 26 = .ok (.iconst 1, 1) := by decide +kernel
theorem dX11_set_27 : decode cX11_set 27 = .ok (.if_icmp .ne 9, 3) := by decide +kernel
theorem dX11_set_30 : decode cX11_set 30 = .ok (.ldc2_w 82, 3) := by decide +kernel
theorem dX11_set_33 : decode cX11_set 33 = .ok (.goto 4, 3) := by decide +kernel
theorem dX11_set_36 : decode cX11_set 36 = .ok (.lconst 1, 1) := by decide +kernel
theorem dX11_set_37 : decode cX11_set 37 = .ok (.invokestatic 78, 3) := by decide +kernel
theorem dX11_set_40 : decode cX11_set 40 = .ok (.ifCond .ne 6, 3) := by decide +kernel
theorem dX11_set_43 : decode cX11_set 43 = .ok (.bipush (-2), 2) := by decide +kernel
theorem dX11_set_45 : decode cX11_set 45 = .ok (.ireturn, 1) := by decide +kernel
theorem dX11_set_46 : decode cX11_set 46 = .ok (.iload_n 1, 1) := by decide +kernel
theorem dX11_set_47 : decode cX11_set 47 = .ok (.ifCond .ne 10, 3) := by decide +kernel
