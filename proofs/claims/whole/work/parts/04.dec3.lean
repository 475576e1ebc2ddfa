theorem dX11_tax_165 : decode cX11_tax 165 = .ok (.idiv, 1) := by decide +kernel
theorem dX11_tax_166 : decode cX11_tax 166 = .ok (.iload 5, 2) := by decide +kernel
theorem dX11_tax_168 : decode cX11_tax 168 = .ok (.iload 4, 2) := by decide +kernel
theorem dX11_tax_170 : decode cX11_tax 170 = .ok (.if_icmp .ge 7, 3) := by decide +kernel
theorem dX11_tax_173 : decode cX11_tax 173 = .ok (.iconst 1, 1) := by decide +kernel
theorem dX11_tax_174 : decode cX11_tax 174 = .ok (.goto 4, 3) := by decide +kernel
theorem dX11_tax_177 : decode cX11_tax 177 = .ok (.iconst 0, 1) := by decide +kernel
theorem dX11_tax_178 : decode cX11_tax 178 = .ok (.iadd, 1) := by decide +kernel
theorem dX11_tax_179 : decode cX11_tax 179 = .ok (.ireturn, 1) := by decide +kernel
theorem dX11_seen_0 : decode cX11_seen 0 = .ok (.iload_n 1, 1) := by decide +kernel
theorem dX11_seen_1 : decode cX11_seen 1 = .ok (.i2l, 1) := by decide +kernel
theorem dX11_seen_2 : decode cX11_seen 2 = .ok (.lconst 1, 1) := by decide +kernel
theorem dX11_seen_3 : decode cX11_seen 3 = .ok (.ldc2_w 96, 3) := by decide +kernel
theorem dX11_seen_6 : decode cX11_seen 6 = .ok (.invokestatic 78, 3) := by decide +kernel
theorem dX11_seen_9 : decode cX11_seen 9 = .ok (.ifCond .eq 15, 3) := by decide +kernel
theorem dX11_seen_12 : decode cX11_seen 12 = .ok (.iload_n 2, 1) := by decide +kernel
theorem dX11_seen_13 : decode cX11_seen 13 = .ok (.i2l, 1) := by decide +kernel
theorem dX11_seen_14 : decode cX11_seen 14 = .ok (.lconst 0, 1) := by decide +kernel
theorem dX11_seen_15 : decode cX11_seen 15 = .ok (.ldc2_w 266, 3) := by decide +kernel
theorem dX11_seen_18 : decode cX11_seen 18 = .ok (.invokestatic 78, 3) := by decide +kernel
theorem dX11_seen_21 : decode cX11_seen 21 = .ok (.ifCond .ne 6, 3) := by decide +kernel
theorem dX11_seen_24 : decode cX11_seen 24 = .ok (.bipush (-2), 2) := by decide +kernel
theorem dX11_seen_26 : decode cX11_seen 26 = .ok (.ireturn, 1) := by decide +kernel
theorem dX11_seen_27 : decode cX11_seen 27 = .ok (.aload_n 0, 1) := by decide +kernel
theorem dX11_seen_28 : decode cX11_seen 28 = .ok (.getfield 268, 3) := by decide +kernel
theorem dX11_seen_31 : decode cX11_seen 31 = .ok (.bipush 8, 2) := by decide +kernel
theorem dX11_seen_33 : decode cX11_seen 33 = .ok (.if_icmp .ne 6, 3) := by decide +kernel
theorem dX11_seen_36 : decode cX11_seen 36 = .ok (.bipush (-4), 2) := by decide +kernel
theorem dX11_seen_38 : decode cX11_seen 38 = .ok (.ireturn, 1) := by decide +kernel
theorem dX11_seen_39 : decode cX11_seen 39 = .ok (.aload_n 0, 1) := by decide +kernel
theorem dX11_seen_40 : decode cX11_seen 40 = .ok (.getfield 25, 3) := by decide +kernel
theorem dX11_seen_43 : decode cX11_seen 43 = .ok (.aload_n 0, 1) := by decide +kernel
theorem dX11_seen_44 : decode cX11_seen 44 = .ok (.getfield 268, 3) := by decide +kernel
theorem dX11_seen_47 : decode cX11_seen 47 = .ok (.iload_n 1, 1) := by decide +kernel
theorem dX11_seen_48 : decode cX11_seen 48 = .ok (.iastore, 1) := by decide +kernel
theorem dX11_seen_49 : decode cX11_seen 49 = .ok (.aload_n 0, 1) := by decide +kernel
theorem dX11_seen_50 : decode cX11_seen 50 = .ok (.getfield 28, 3) := by decide +kernel
theorem dX11_seen_53 : decode cX11_seen 53 = .ok (.aload_n 0, 1) := by decide +kernel
theorem dX11_seen_54 : decode cX11_seen 54 = .ok (.getfield 268, 3) := by decide +kernel
theorem dX11_seen_57 : decode cX11_seen 57 = .ok (.iload_n 2, 1) := by decide +kernel
theorem dX11_seen_58 : decode cX11_seen 58 = .ok (.iastore, 1) := by decide +kernel
theorem dX11_seen_59 : decode cX11_seen 59 = .ok (.aload_n 0, 1) := by decide +kernel
theorem dX11_seen_60 : decode cX11_seen 60 = .ok (.dup, 1) := by decide +kernel
theorem dX11_seen_61 : decode cX11_seen 61 = .ok (.getfield 268, 3) := by decide +kernel
theorem dX11_seen_64 : decode cX11_seen 64 = .ok (.iconst 1, 1) := by decide +kernel
theorem dX11_seen_65 : decode cX11_seen 65 = .ok (.iadd, 1) := by decide +kernel
theorem dX11_seen_66 : decode cX11_seen 66 = .ok (.putfield 268, 3) := by decide +kernel
theorem dX11_seen_69 : decode cX11_seen 69 = .ok (.aload_n 0, 1) := by decide +kernel
theorem dX11_seen_70 : decode cX11_seen 70 = .ok (.getfield 268, 3) := by decide +kernel
theorem dX11_seen_73 : decode cX11_seen 73 = .ok (.ireturn, 1) := by decide +kernel
theorem dX11_forget_0 : decode cX11_forget 0 = .ok (.aload_n 0, 1) := by decide +kernel
theorem dX11_forget_1 : decode cX11_forget 1 = .ok (.getfield 268, 3) := by decide +kernel
theorem dX11_forget_4 : decode cX11_forget 4 = .ok (.istore_n 1, 1) := by decide +kernel
theorem dX11_forget_5 : decode cX11_forget 5 = .ok (.aload_n 0, 1) := by decide +kernel
theorem dX11_forget_6 : decode cX11_forget 6 = .ok (.iconst 0, 1) := by decide +kernel
theorem dX11_forget_7 : decode cX11_forget 7 = .ok (.putfield 268, 3) := by decide +kernel
theorem dX11_forget_10 : decode cX11_forget 10 = .ok (.iload_n 1, 1) := by decide +kernel
theorem dX11_forget_11 : decode cX11_forget 11 = .ok (.ireturn, 1) := by decide +kernel
theorem dX11_fliesBy_0 : decode cX11_fliesBy 0 = .ok (.iload_n 0, 1) := by decide +kernel
theorem dX11_fliesBy_1 : decode cX11_fliesBy 1 = .ok (.bipush 100, 2) := by decide +kernel
theorem dX11_fliesBy_3 : decode cX11_fliesBy 3 = .ok (.idiv, 1) := by decide +kernel
theorem dX11_fliesBy_4 : decode cX11_fliesBy 4 = .ok (.iload_n 1, 1) := by decide +kernel
theorem dX11_fliesBy_5 : decode cX11_fliesBy 5 = .ok (.imul, 1) := by decide +kernel
theorem dX11_fliesBy_6 : decode cX11_fliesBy 6 = .ok (.istore_n 2, 1) := by decide +kernel
theorem dX11_fliesBy_7 : decode cX11_fliesBy 7 = .ok (.iload_n 2, 1) := by decide +kernel
theorem dX11_fliesBy_8 : decode cX11_fliesBy 8 = .ok (.iload_n 0, 1) := by decide +kernel
theorem dX11_fliesBy_9 : decode cX11_fliesBy 9 = .ok (.bipush 100, 2) := by decide +kernel
theorem dX11_fliesBy_11 : decode cX11_fliesBy 11 = .ok (.irem, 1) := by decide +kernel
theorem dX11_fliesBy_12 : decode cX11_fliesBy 12 = .ok (.if_icmp .ge 7, 3) := by decide +kernel
theorem dX11_fliesBy_15 : decode cX11_fliesBy 15 = .ok (.iload_n 2, 1) := by decide +kernel
theorem dX11_fliesBy_16 : decode cX11_fliesBy 16 = .ok (.goto 7, 3) := by decide +kernel
theorem dX11_fliesBy_19 : decode cX11_fliesBy 19 = .ok (.iload_n 0, 1) := by decide +kernel
theorem dX11_fliesBy_20 : decode cX11_fliesBy 20 = .ok (.bipush 100, 2) := by decide +kernel
theorem dX11_fliesBy_22 : decode cX11_fliesBy 22 = .ok (.irem, 1) := by decide +kernel
theorem dX11_fliesBy_23 : decode cX11_fliesBy 23 = .ok (.ireturn, 1) := by decide +kernel
theorem dX11_isFit_0 : decode cX11_isFit 0 = .ok (.iload_n 1, 1) := by decide +kernel
theorem dX11_isFit_1 : decode cX11_isFit 1 = .ok (.bipush 100, 2) := by decide +kernel
theorem dX11_isFit_3 : decode cX11_isFit 3 = .ok (.irem, 1) := by decide +kernel
theorem dX11_isFit_4 : decode cX11_isFit 4 = .ok (.i2l, 1) := by decide +kernel
theorem dX11_isFit_5 : decode cX11_isFit 5 = .ok (.lconst 1, 1) := by decide +kernel
theorem dX11_isFit_6 : decode cX11_isFit 6 = .ok (.ldc2_w 271, 3) := by decide +kernel
theorem dX11_isFit_9 : decode cX11_isFit 9 = .ok (.invokestatic 78, 3) := by decide +kernel
theorem dX11_isFit_12 : decode cX11_isFit 12 = .ok (.istore_n 2, 1) := by decide +kernel
theorem dX11_isFit_13 : decode cX11_isFit 13 = .ok (.iconst 0, 1) := by decide +kernel
theorem dX11_isFit_14 : decode cX11_isFit 14 = .ok (.istore_n 3, 1) := by decide +kernel
theorem dX11_isFit_15 : decode cX11_isFit 15 = .ok (.iload_n 3, 1) := by decide +kernel
theorem dX11_isFit_16 : decode cX11_isFit 16 = .ok (.aload_n 0, 1) := by decide +kernel
theorem dX11_isFit_17 : decode cX11_isFit 17 = .ok (.getfield 268, 3) := by decide +kernel
theorem dX11_isFit_20 : decode cX11_isFit 20 = .ok (.if_icmp .ge 38, 3) := by decide +kernel
theorem dX11_isFit_23 : decode cX11_isFit 23 = .ok (.iload_n 2, 1) := by decide +kernel
theorem dX11_isFit_24 : decode cX11_isFit 24 = .ok (.ifCond .eq 26, 3) := by decide +kernel
theorem dX11_isFit_27 : decode cX11_isFit 27 = .ok (.iload_n 1, 1) := by decide +kernel
theorem dX11_isFit_28 : decode cX11_isFit 28 = .ok (.aload_n 0, 1) := by decide +kernel
theorem dX11_isFit_29 : decode cX11_isFit 29 = .ok (.getfield 25, 3) := by decide +kernel
theorem dX11_isFit_32 : decode cX11_isFit 32 = .ok (.iload_n 3, 1) := by decide +kernel
theorem dX11_isFit_33 : decode cX11_isFit 33 = .ok (.iaload, 1) := by decide +kernel
theorem dX11_isFit_34 : decode cX11_isFit 34 = .ok (.invokestatic 273, 3) := by decide +kernel
theorem dX11_isFit_37 : decode cX11_isFit 37 = .ok (.aload_n 0, 1) := by decide +kernel
theorem dX11_isFit_38 : decode cX11_isFit 38 = .ok (.getfield 28, 3) := by decide +kernel
theorem dX11_isFit_41 : decode cX11_isFit 41 = .ok (.iload_n 3, 1) := by decide +kernel
theorem dX11_isFit_42 : decode cX11_isFit 42 = .ok (.iaload, 1) := by decide +kernel
theorem dX11_isFit_43 : decode cX11_isFit 43 = .ok (.if_icmp .ne 7, 3) := by decide +kernel
theorem dX11_isFit_46 : decode cX11_isFit 46 = .ok (.iconst 1, 1) := by decide +kernel
theorem dX11_isFit_47 : decode cX11_isFit 47 = .ok (.goto 4, 3) := by decide +kernel
theorem dX11_isFit_50 : decode cX11_isFit 50 = .ok (.iconst 0, 1) := by decide +kernel
theorem dX11_isFit_51 : decode cX11_isFit 51 = .ok (.istore_n 2, 1) := by decide +kernel
theorem dX11_isFit_52 : decode cX11_isFit 52 = .ok (.iinc 3 1, 3) := by decide +kernel
theorem dX11_isFit_55 : decode cX11_isFit 55 = .ok (.goto (-40), 3) := by decide +kernel
theorem dX11_isFit_58 : decode cX11_isFit 58 = .ok (.iload_n 2, 1) := by decide +kernel
theorem dX11_isFit_59 : decode cX11_isFit 59 = .ok (.ireturn, 1) := by decide +kernel
theorem dX11_fits_0 : decode cX11_fits 0 = .ok (.iconst 0, 1) := by decide +kernel
theorem dX11_fits_1 : decode cX11_fits 1 = .ok (.istore_n 2, 1) := by decide +kernel
theorem dX11_fits_2 : decode cX11_fits 2 = .ok (.bipush 100, 2) := by decide +kernel
theorem dX11_fits_4 : decode cX11_fits 4 = .ok (.istore_n 3, 1) := by decide +kernel
theorem dX11_fits_5 : decode cX11_fits 5 = .ok (.iload_n 3, 1) := by decide +kernel
theorem dX11_fits_6 : decode cX11_fits 6 = .ok (.sipush 1000, 3) := by decide +kernel
theorem dX11_fits_9 : decode cX11_fits 9 = .ok (.if_icmp .ge 27, 3) := by decide +kernel
theorem dX11_fits_12 : decode cX11_fits 12 = .ok (.aload_n 0, 1) := by decide +kernel
theorem dX11_fits_13 : decode cX11_fits 13 = .ok (.iload_n 3, 1) := by decide +kernel
theorem dX11_fits_14 : decode cX11_fits 14 = .ok (.invokevirtual 276, 3) := by decide +kernel
theorem dX11_fits_17 : decode cX11_fits 17 = .ok (.ifCond .eq 13, 3) := by decide +kernel
theorem dX11_fits_20 : decode cX11_fits 20 = .ok (.iload_n 2, 1) := by decide +kernel
theorem dX11_fits_21 : decode cX11_fits 21 = .ok (.iload_n 1, 1) := by decide +kernel
theorem dX11_fits_22 : decode cX11_fits 22 = .ok (.if_icmp .ne 5, 3) := by decide +kernel
theorem dX11_fits_25 : decode cX11_fits 25 = .ok (.iload_n 3, 1) := by decide +kernel
theorem dX11_fits_26 : decode cX11_fits 26 = .ok (.ireturn, 1) := by decide +kernel
theorem dX11_fits_27 : decode cX11_fits 27 = .ok (.iinc 2 1, 3) := by decide +kernel
theorem dX11_fits_30 : decode cX11_fits 30 = .ok (.iinc 3 1, 3) := by decide +kernel
theorem dX11_fits_33 : decode cX11_fits 33 = .ok (.goto (-28), 3) := by decide +kernel
theorem dX11_fits_36 : decode cX11_fits 36 = .ok (.iload_n 1, 1) := by decide +kernel
theorem dX11_fits_37 : decode cX11_fits 37 = .ok (.iconst (-1), 1) := by decide +kernel
theorem dX11_fits_38 : decode cX11_fits 38 = .ok (.if_icmp .ne 7, 3) := by decide +kernel
theorem dX11_fits_41 : decode cX11_fits 41 = .ok (.iload_n 2, 1) := by decide +kernel
theorem dX11_fits_42 : decode cX11_fits 42 = .ok (.goto 5, 3) := by decide +kernel
theorem dX11_fits_45 : decode cX11_fits 45 = .ok (.bipush (-6), 2) := by decide +kernel
theorem dX11_fits_47 : decode cX11_fits 47 = .ok (.ireturn, 1) := by decide +kernel
theorem dX11_mostLeft_0 : decode cX11_mostLeft 0 = .ok (.iconst 0, 1) := by decide +kernel
theorem dX11_mostLeft_1 : decode cX11_mostLeft 1 = .ok (.istore_n 2, 1) := by decide +kernel
theorem dX11_mostLeft_2 : decode cX11_mostLeft 2 = .ok (.iconst 0, 1) := by decide +kernel
theorem dX11_mostLeft_3 : decode cX11_mostLeft 3 = .ok (.istore_n 3, 1) := by decide +kernel
theorem dX11_mostLeft_4 : decode cX11_mostLeft 4 = .ok (.iload_n 3, 1) := by decide +kernel
theorem dX11_mostLeft_5 : decode cX11_mostLeft 5 = .ok (.bipush 82, 2) := by decide +kernel
theorem dX11_mostLeft_7 : decode cX11_mostLeft 7 = .ok (.if_icmp .ge 16, 3) := by decide +kernel
theorem dX11_mostLeft_10 : decode cX11_mostLeft 10 = .ok (.aload_n 0, 1) := by decide +kernel
theorem dX11_mostLeft_11 : decode cX11_mostLeft 11 = .ok (.getfield 55, 3) := by decide +kernel
theorem dX11_mostLeft_14 : decode cX11_mostLeft 14 = .ok (.iload_n 3, 1) := by decide +kernel
theorem dX11_mostLeft_15 : decode cX11_mostLeft 15 = .ok (.iconst 0, 1) := by decide +kernel
theorem dX11_mostLeft_16 : decode cX11_mostLeft 16 = .ok (.iastore, 1) := by decide +kernel
theorem dX11_mostLeft_17 : decode cX11_mostLeft 17 = .ok (.iinc 3 1, 3) := by decide +kernel
theorem dX11_mostLeft_20 : decode cX11_mostLeft 20 = .ok (.goto (-16), 3) := by decide +kernel
theorem dX11_mostLeft_23 : decode cX11_mostLeft 23 = .ok (.bipush 100, 2) := by decide +kernel
theorem dX11_mostLeft_25 : decode cX11_mostLeft 25 = .ok (.istore_n 3, 1) := by decide +kernel
theorem dX11_mostLeft_26 : decode cX11_mostLeft 26 = .ok (.iload_n 3, 1) := by decide +kernel
theorem dX11_mostLeft_27 : decode cX11_mostLeft 27 = .ok (.sipush 1000, 3) := by decide +kernel
theorem dX11_mostLeft_30 : decode cX11_mostLeft 30 = .ok (.if_icmp .ge 58, 3) := by decide +kernel
theorem dX11_mostLeft_33 : decode cX11_mostLeft 33 = .ok (.aload_n 0, 1) := by decide +kernel
theorem dX11_mostLeft_34 : decode cX11_mostLeft 34 = .ok (.iload_n 3, 1) := by decide +kernel
theorem dX11_mostLeft_35 : decode cX11_mostLeft 35 = .ok (.invokevirtual 276, 3) := by decide +kernel
theorem dX11_mostLeft_38 : decode cX11_mostLeft 38 = .ok (.ifCond .eq 44, 3) := by decide +kernel
theorem dX11_mostLeft_41 : decode cX11_mostLeft 41 = .ok (.iload_n 3, 1) := by decide +kernel
theorem dX11_mostLeft_42 : decode cX11_mostLeft 42 = .ok (.iload_n 1, 1) := by decide +kernel
theorem dX11_mostLeft_43 : decode cX11_mostLeft 43 = .ok (.invokestatic 273, 3) := by decide +kernel
theorem dX11_mostLeft_46 : decode cX11_mostLeft 46 = .ok (.istore 4, 2) := by decide +kernel
theorem dX11_mostLeft_48 : decode cX11_mostLeft 48 = .ok (.aload_n 0, 1) := by decide +kernel
theorem dX11_mostLeft_49 : decode cX11_mostLeft 49 = .ok (.getfield 55, 3) := by decide +kernel
theorem dX11_mostLeft_52 : decode cX11_mostLeft 52 = .ok (.iload 4, 2) := by decide +kernel
theorem dX11_mostLeft_54 : decode cX11_mostLeft 54 = .ok (.dup2, 1) := by decide +kernel
theorem dX11_mostLeft_55 : decode cX11_mostLeft 55 = .ok (.iaload, 1) := by decide +kernel
theorem dX11_mostLeft_56 : decode cX11_mostLeft 56 = .ok (.iconst 1, 1) := by decide +kernel
theorem dX11_mostLeft_57 : decode cX11_mostLeft 57 = .ok (.iadd, 1) := by decide +kernel
theorem dX11_mostLeft_58 : decode cX11_mostLeft 58 = .ok (.iastore, 1) := by decide +kernel
theorem dX11_mostLeft_59 : decode cX11_mostLeft 59 = .ok (.aload_n 0, 1) := by decide +kernel
theorem dX11_mostLeft_60 : decode cX11_mostLeft 60 = .ok (.getfield 55, 3) := by decide +kernel
theorem dX11_mostLeft_63 : decode cX11_mostLeft 63 = .ok (.iload 4, 2) := by decide +kernel
theorem dX11_mostLeft_65 : decode cX11_mostLeft 65 = .ok (.iaload, 1) := by decide +kernel
theorem dX11_mostLeft_66 : decode cX11_mostLeft 66 = .ok (.iload_n 2, 1) := by decide +kernel
theorem dX11_mostLeft_67 : decode cX11_mostLeft 67 = .ok (.if_icmp .le 13, 3) := by decide +kernel
theorem dX11_mostLeft_70 : decode cX11_mostLeft 70 = .ok (.aload_n 0, 1) := by decide +kernel
theorem dX11_mostLeft_71 : decode cX11_mostLeft 71 = .ok (.getfield 55, 3) := by decide +kernel
theorem dX11_mostLeft_74 : decode cX11_mostLeft 74 = .ok (.iload 4, 2) := by decide +kernel
theorem dX11_mostLeft_76 : decode cX11_mostLeft 76 = .ok (.iaload, 1) := by decide +kernel
theorem dX11_mostLeft_77 : decode cX11_mostLeft 77 = .ok (.goto 4, 3) := by decide +kernel
theorem dX11_mostLeft_80 : decode cX11_mostLeft 80 = .ok (.iload_n 2, 1) := by decide +kernel
theorem dX11_mostLeft_81 : decode cX11_mostLeft 81 = .ok (.istore_n 2, 1) := by decide +kernel
theorem dX11_mostLeft_82 : decode cX11_mostLeft 82 = .ok (.iinc 3 1, 3) := by decide +kernel
theorem dX11_mostLeft_85 : decode cX11_mostLeft 85 = .ok (.goto (-59), 3) := by decide +kernel
theorem dX11_mostLeft_88 : decode cX11_mostLeft 88 = .ok (.iload_n 2, 1) := by decide +kernel
theorem dX11_mostLeft_89 : decode cX11_mostLeft 89 = .ok (.ireturn, 1) := by decide +kernel
theorem dX11_tries_0 : decode cX11_tries 0 = .ok (.iload_n 1, 1) := by decide +kernel
theorem dX11_tries_1 : decode cX11_tries 1 = .ok (.i2l, 1) := by decide +kernel
theorem dX11_tries_2 : decode cX11_tries 2 = .ok (.lconst 0, 1) := by decide +kernel
theorem dX11_tries_3 : decode cX11_tries 3 = .ok (.lconst 1, 1) := by decide +kernel
theorem dX11_tries_4 : decode cX11_tries 4 = .ok (.invokestatic 78, 3) := by decide +kernel
theorem dX11_tries_7 : decode cX11_tries 7 = .ok (.ifCond .ne 6, 3) := by decide +kernel
theorem dX11_tries_10 : decode cX11_tries 10 = .ok (.bipush (-2), 2) := by decide +kernel
theorem dX11_tries_12 : decode cX11_tries 12 = .ok (.ireturn, 1) := by decide +kernel
theorem dX11_tries_13 : decode cX11_tries 13 = .ok (.iconst 1, 1) := by decide +kernel
theorem dX11_tries_14 : decode cX11_tries 14 = .ok (.istore_n 2, 1) := by decide +kernel
theorem dX11_tries_15 : decode cX11_tries 15 = .ok (.aload_n 0, 1) := by decide +kernel
theorem dX11_tries_16 : decode cX11_tries 16 = .ok (.iconst 1, 1) := by decide +kernel
theorem dX11_tries_17 : decode cX11_tries 17 = .ok (.invokevirtual 279, 3) := by decide +kernel
theorem dX11_tries_20 : decode cX11_tries 20 = .ok (.istore_n 3, 1) := by decide +kernel
theorem dX11_tries_21 : decode cX11_tries 21 = .ok (.iconst 2, 1) := by decide +kernel
theorem dX11_tries_22 : decode cX11_tries 22 = .ok (.istore 4, 2) := by decide +kernel
theorem dX11_tries_24 : decode cX11_tries 24 = .ok (.iload 4, 2) := by decide +kernel
theorem dX11_tries_26 : decode cX11_tries 26 = .ok (.bipush 9, 2) := by decide +kernel
theorem dX11_tries_28 : decode cX11_tries 28 = .ok (.if_icmp .gt 43, 3) := by decide +kernel
theorem dX11_tries_31 : decode cX11_tries 31 = .ok (.aload_n 0, 1) := by decide +kernel
theorem dX11_tries_32 : decode cX11_tries 32 = .ok (.iload 4, 2) := by decide +kernel
theorem dX11_tries_34 : decode cX11_tries 34 = .ok (.invokevirtual 279, 3) := by decide +kernel
theorem dX11_tries_37 : decode cX11_tries 37 = .ok (.istore 5, 2) := by decide +kernel
theorem dX11_tries_39 : decode cX11_tries 39 = .ok (.iload 5, 2) := by decide +kernel
theorem dX11_tries_41 : decode cX11_tries 41 = .ok (.iload_n 3, 1) := by decide +kernel
theorem dX11_tries_42 : decode cX11_tries 42 = .ok (.if_icmp .ge 8, 3) := by decide +kernel
theorem dX11_tries_45 : decode cX11_tries 45 = .ok (.iload 4, 2) := by decide +kernel
theorem dX11_tries_47 : decode cX11_tries 47 = .ok (.goto 4, 3) := by decide +kernel
theorem dX11_tries_50 : decode cX11_tries 50 = .ok (.iload_n 2, 1) := by decide +kernel
theorem dX11_tries_51 : decode cX11_tries 51 = .ok (.istore_n 2, 1) := by decide +kernel
theorem dX11_tries_52 : decode cX11_tries 52 = .ok (.iload 5, 2) := by decide +kernel
theorem dX11_tries_54 : decode cX11_tries 54 = .ok (.iload_n 3, 1) := by decide +kernel
theorem dX11_tries_55 : decode cX11_tries 55 = .ok (.if_icmp .ge 8, 3) := by decide +kernel
theorem dX11_tries_58 : decode cX11_tries 58 = .ok (.iload 5, 2) := by decide +kernel
theorem dX11_tries_60 : decode cX11_tries 60 = .ok (.goto 4, 3) := by decide +kernel
theorem dX11_tries_63 : decode cX11_tries 63 = .ok (.iload_n 3, 1) := by decide +kernel
theorem dX11_tries_64 : decode cX11_tries 64 = .ok (.istore_n 3, 1) := by decide +kernel
theorem dX11_tries_65 : decode cX11_tries 65 = .ok (.iinc 4 1, 3) := by decide +kernel
theorem dX11_tries_68 : decode cX11_tries 68 = .ok (.goto (-44), 3) := by decide +kernel
theorem dX11_tries_71 : decode cX11_tries 71 = .ok (.iload_n 3, 1) := by decide +kernel
theorem dX11_tries_72 : decode cX11_tries 72 = .ok (.ifCond .ne 8, 3) := by decide +kernel
theorem dX11_tries_75 : decode cX11_tries 75 = .ok (.bipush (-6), 2) := by decide +kernel
theorem dX11_tries_77 : decode cX11_tries 77 = .ok (.goto 12, 3) := by decide +kernel
theorem dX11_tries_80 : decode cX11_tries 80 = .ok (.iload_n 1, 1) := by decide +kernel
theorem dX11_tries_81 : decode cX11_tries 81 = .ok (.ifCond .ne 7, 3) := by decide +kernel
theorem dX11_tries_84 : decode cX11_tries 84 = .ok (.iload_n 2, 1) := by decide +kernel
theorem dX11_tries_85 : decode cX11_tries 85 = .ok (.goto 4, 3) := by decide +kernel
theorem dX11_tries_88 : decode cX11_tries 88 = .ok (.iload_n 3, 1) := by decide +kernel
theorem dX11_tries_89 : decode cX11_tries 89 = .ok (.ireturn, 1) := by decide +kernel
theorem dX11_gust_0 : decode cX11_gust 0 = .ok (.iconst 0, 1) := by decide +kernel
theorem dX11_gust_1 : decode cX11_gust 1 = .ok (.istore_n 1, 1) := by decide +kernel
theorem dX11_gust_2 : decode cX11_gust 2 = .ok (.iload_n 1, 1) := by decide +kernel
theorem dX11_gust_3 : decode cX11_gust 3 = .ok (.bipush 36, 2) := by decide +kernel
theorem dX11_gust_5 : decode cX11_gust 5 = .ok (.if_icmp .gt 35, 3) := by decide +kernel
theorem dX11_gust_8 : decode cX11_gust 8 = .ok (.aload_n 0, 1) := by decide +kernel
theorem dX11_gust_9 : decode cX11_gust 9 = .ok (.getfield 62, 3) := by decide +kernel
theorem dX11_gust_12 : decode cX11_gust 12 = .ok (.iload_n 1, 1) := by decide +kernel
theorem dX11_gust_13 : decode cX11_gust 13 = .ok (.iload_n 1, 1) := by decide +kernel
theorem dX11_gust_14 : decode cX11_gust 14 = .ok (.bipush 36, 2) := by decide +kernel
theorem dX11_gust_16 : decode cX11_gust 16 = .ok (.if_icmp .ne 16, 3) := by decide +kernel
theorem dX11_gust_19 : decode cX11_gust 19 = .ok (.ldc2_w 282, 3) := by decide +kernel
theorem dX11_gust_22 : decode cX11_gust 22 = .ok (.aload_n 0, 1) := by decide +kernel
theorem dX11_gust_23 : decode cX11_gust 23 = .ok (.getfield 58, 3) := by decide +kernel
theorem dX11_gust_26 : decode cX11_gust 26 = .ok (.iload_n 1, 1) := by decide +kernel
theorem dX11_gust_27 : decode cX11_gust 27 = .ok (.laload, 1) := by decide +kernel
theorem dX11_gust_28 : decode cX11_gust 28 = .ok (.lmul, 1) := by decide +kernel
theorem dX11_gust_29 : decode cX11_gust 29 = .ok (.goto 4, 3) := by decide +kernel
theorem dX11_gust_32 : decode cX11_gust 32 = .ok (.lconst 0, 1) := by decide +kernel
theorem dX11_gust_33 : decode cX11_gust 33 = .ok (.lastore, 1) := by decide +kernel
theorem dX11_gust_34 : decode cX11_gust 34 = .ok (.iinc 1 1, 3) := by decide +kernel
theorem dX11_gust_37 : decode cX11_gust 37 = .ok (.goto (-35), 3) := by decide +kernel
theorem dX11_gust_40 : decode cX11_gust 40 = .ok (.iconst 0, 1) := by decide +kernel
theorem dX11_gust_41 : decode cX11_gust 41 = .ok (.istore_n 1, 1) := by decide +kernel
theorem dX11_gust_42 : decode cX11_gust 42 = .ok (.iload_n 1, 1) := by decide +kernel
theorem dX11_gust_43 : decode cX11_gust 43 = .ok (.bipush 36, 2) := by decide +kernel
theorem dX11_gust_45 : decode cX11_gust 45 = .ok (.if_icmp .ge 53, 3) := by decide +kernel
theorem dX11_gust_48 : decode cX11_gust 48 = .ok (.iconst 0, 1) := by decide +kernel
theorem dX11_gust_49 : decode cX11_gust 49 = .ok (.istore_n 2, 1) := by decide +kernel
theorem dX11_gust_50 : decode cX11_gust 50 = .ok (.iload_n 2, 1) := by decide +kernel
theorem dX11_gust_51 : decode cX11_gust 51 = .ok (.iconst 4, 1) := by decide +kernel
theorem dX11_gust_52 : decode cX11_gust 52 = .ok (.if_icmp .ge 40, 3) := by decide +kernel
theorem dX11_gust_55 : decode cX11_gust 55 = .ok (.iload_n 1, 1) := by decide +kernel
theorem dX11_gust_56 : decode cX11_gust 56 = .ok (.iload_n 2, 1) := by decide +kernel
theorem dX11_gust_57 : decode cX11_gust 57 = .ok (.iconst 1, 1) := by decide +kernel
theorem dX11_gust_58 : decode cX11_gust 58 = .ok (.invokestatic 173, 3) := by decide +kernel
theorem dX11_gust_61 : decode cX11_gust 61 = .ok (.istore_n 3, 1) := by decide +kernel
theorem dX11_gust_62 : decode cX11_gust 62 = .ok (.aload_n 0, 1) := by decide +kernel
theorem dX11_gust_63 : decode cX11_gust 63 = .ok (.getfield 62, 3) := by decide +kernel
theorem dX11_gust_66 : decode cX11_gust 66 = .ok (.iload_n 3, 1) := by decide +kernel
theorem dX11_gust_67 : decode cX11_gust 67 = .ok (.ifCond .ge 8, 3) := by decide +kernel
theorem dX11_gust_70 : decode cX11_gust 70 = .ok (.bipush 36, 2) := by decide +kernel
theorem dX11_gust_72 : decode cX11_gust 72 = .ok (.goto 4, 3) := by decide +kernel
theorem dX11_gust_75 : decode cX11_gust 75 = .ok (.iload_n 3, 1) := by decide +kernel
theorem dX11_gust_76 : decode cX11_gust 76 = .ok (.dup2, 1) := by decide +kernel
theorem dX11_gust_77 : decode cX11_gust 77 = .ok (.laload, 1) := by decide +kernel
theorem dX11_gust_78 : decode cX11_gust 78 = .ok (.aload_n 0, 1) := by decide +kernel
theorem dX11_gust_79 : decode cX11_gust 79 = .ok (.getfield 58, 3) := by decide +kernel
theorem dX11_gust_82 : decode cX11_gust 82 = .ok (.iload_n 1, 1) := by decide +kernel
theorem dX11_gust_83 : decode cX11_gust 83 = .ok (.laload, 1) := by decide +kernel
theorem dX11_gust_84 : decode cX11_gust 84 = .ok (.ladd, 1) := by decide +kernel
theorem dX11_gust_85 : decode cX11_gust 85 = .ok (.lastore, 1) := by decide +kernel
theorem dX11_gust_86 : decode cX11_gust 86 = .ok (.iinc 2 1, 3) := by decide +kernel
theorem dX11_gust_89 : decode cX11_gust 89 = .ok (.goto (-39), 3) := by decide +kernel
theorem dX11_gust_92 : decode cX11_gust 92 = .ok (.iinc 1 1, 3) := by decide +kernel
theorem dX11_gust_95 : decode cX11_gust 95 = .ok (.goto (-53), 3) := by decide +kernel
theorem dX11_gust_98 : decode cX11_gust 98 = .ok (.iconst 0, 1) := by decide +kernel
theorem dX11_gust_99 : decode cX11_gust 99 = .ok (.istore_n 1, 1) := by decide +kernel
theorem dX11_gust_100 : decode cX11_gust 100 = .ok (.iload_n 1, 1) := by decide +kernel
theorem dX11_gust_101 : decode cX11_gust 101 = .ok (.bipush 36, 2) := by decide +kernel
theorem dX11_gust_103 : decode cX11_gust 103 = .ok (.if_icmp .gt 21, 3) := by decide +kernel
theorem dX11_gust_106 : decode cX11_gust 106 = .ok (.aload_n 0, 1) := by decide +kernel
theorem dX11_gust_107 : decode cX11_gust 107 = .ok (.getfield 58, 3) := by decide +kernel
theorem dX11_gust_110 : decode cX11_gust 110 = .ok (.iload_n 1, 1) := by decide +kernel
theorem dX11_gust_111 : decode cX11_gust 111 = .ok (.aload_n 0, 1) := by decide +kernel
theorem dX11_gust_112 : decode cX11_gust 112 = .ok (.getfield 62, 3) := by decide +kernel
theorem dX11_gust_115 : decode cX11_gust 115 = .ok (.iload_n 1, 1) := by decide +kernel
theorem dX11_gust_116 : decode cX11_gust 116 = .ok (.laload, 1) := by decide +kernel
theorem dX11_gust_117 : decode cX11_gust 117 = .ok (.lastore, 1) := by decide +kernel
theorem dX11_gust_118 : decode cX11_gust 118 = .ok (.iinc 1 1, 3) := by decide +kernel
theorem dX11_gust_121 : decode cX11_gust 121 = .ok (.goto (-21), 3) := by decide +kernel
theorem dX11_gust_124 : decode cX11_gust 124 = .ok (.return_, 1) := by decide +kernel
theorem dX11_lowest_0 : decode cX11_lowest 0 = .ok (.lload_n 2, 1) := by decide +kernel
theorem dX11_lowest_1 : decode cX11_lowest 1 = .ok (.lstore 5, 2) := by decide +kernel
theorem dX11_lowest_3 : decode cX11_lowest 3 = .ok (.lload_n 0, 1) := by decide +kernel
theorem dX11_lowest_4 : decode cX11_lowest 4 = .ok (.lstore 7, 2) := by decide +kernel
theorem dX11_lowest_6 : decode cX11_lowest 6 = .ok (.lload 7, 2) := by decide +kernel
theorem dX11_lowest_8 : decode cX11_lowest 8 = .ok (.lconst 0, 1) := by decide +kernel
theorem dX11_lowest_9 : decode cX11_lowest 9 = .ok (.lcmp, 1) := by decide +kernel
theorem dX11_lowest_10 : decode cX11_lowest 10 = .ok (.ifCond .eq 21, 3) := by decide +kernel
theorem dX11_lowest_13 : decode cX11_lowest 13 = .ok (.lload 5, 2) := by decide +kernel
theorem dX11_lowest_15 : decode cX11_lowest 15 = .ok (.lload 7, 2) := by decide +kernel
theorem dX11_lowest_17 : decode cX11_lowest 17 = .ok (.lrem, 1) := by decide +kernel
theorem dX11_lowest_18 : decode cX11_lowest 18 = .ok (.lstore 9, 2) := by decide +kernel
theorem dX11_lowest_20 : decode cX11_lowest 20 = .ok (.lload 7, 2) := by decide +kernel
theorem dX11_lowest_22 : decode cX11_lowest 22 = .ok (.lstore 5, 2) := by decide +kernel
theorem dX11_lowest_24 : decode cX11_lowest 24 = .ok (.lload 9, 2) := by decide +kernel
theorem dX11_lowest_26 : decode cX11_lowest 26 = .ok (.lstore 7, 2) := by decide +kernel
theorem dX11_lowest_28 : decode cX11_lowest 28 = .ok (.goto (-22), 3) := by decide +kernel
theorem dX11_lowest_31 : decode cX11_lowest 31 = .ok (.iload 4, 2) := by decide +kernel
theorem dX11_lowest_33 : decode cX11_lowest 33 = .ok (.ifCond .ne 10, 3) := by decide +kernel
theorem dX11_lowest_36 : decode cX11_lowest 36 = .ok (.lload_n 0, 1) := by decide +kernel
theorem dX11_lowest_37 : decode cX11_lowest 37 = .ok (.lload 5, 2) := by decide +kernel
theorem dX11_lowest_39 : decode cX11_lowest 39 = .ok (.ldiv, 1) := by decide +kernel
theorem dX11_lowest_40 : decode cX11_lowest 40 = .ok (.goto 7, 3) := by decide +kernel
theorem dX11_lowest_43 : decode cX11_lowest 43 = .ok (.lload_n 2, 1) := by decide +kernel
theorem dX11_lowest_44 : decode cX11_lowest 44 = .ok (.lload 5, 2) := by decide +kernel
theorem dX11_lowest_46 : decode cX11_lowest 46 = .ok (.ldiv, 1) := by decide +kernel
theorem dX11_lowest_47 : decode cX11_lowest 47 = .ok (.lreturn, 1) := by decide +kernel
theorem dX11_gusts_0 : decode cX11_gusts 0 = .ok (.iload_n 1, 1) := by decide +kernel
theorem dX11_gusts_1 : decode cX11_gusts 1 = .ok (.invokestatic 91, 3) := by decide +kernel
theorem dX11_gusts_4 : decode cX11_gusts 4 = .ok (.ifCond .eq 40, 3) := by decide +kernel
theorem dX11_gusts_7 : decode cX11_gusts 7 = .ok (.iload_n 2, 1) := by decide +kernel
theorem dX11_gusts_8 : decode cX11_gusts 8 = .ok (.i2l, 1) := by decide +kernel
theorem dX11_gusts_9 : decode cX11_gusts 9 = .ok (.ldc2_w 284, 3) := by decide +kernel
theorem dX11_gusts_12 : decode cX11_gusts 12 = .ok (.ldc2_w 76, 3) := by decide +kernel
theorem dX11_gusts_15 : decode cX11_gusts 15 = .ok (.invokestatic 78, 3) := by decide +kernel
theorem dX11_gusts_18 : decode cX11_gusts 18 = .ok (.ifCond .eq 26, 3) := by decide +kernel
theorem dX11_gusts_21 : decode cX11_gusts 21 = .ok (.iload_n 3, 1) := by decide +kernel
theorem dX11_gusts_22 : decode cX11_gusts 22 = .ok (.i2l, 1) := by decide +kernel
theorem dX11_gusts_23 : decode cX11_gusts 23 = .ok (.lconst 0, 1) := by decide +kernel
theorem dX11_gusts_24 : decode cX11_gusts 24 = .ok (.ldc2_w 82, 3) := by decide +kernel
theorem dX11_gusts_27 : decode cX11_gusts 27 = .ok (.invokestatic 78, 3) := by decide +kernel
theorem dX11_gusts_30 : decode cX11_gusts 30 = .ok (.ifCond .eq 14, 3) := by decide +kernel
theorem dX11_gusts_33 : decode cX11_gusts 33 = .ok (.iload 4, 2) := by decide +kernel
theorem dX11_gusts_35 : decode cX11_gusts 35 = .ok (.i2l, 1) := by decide +kernel
theorem dX11_gusts_36 : decode cX11_gusts 36 = .ok (.lconst 0, 1) := by decide +kernel
theorem dX11_gusts_37 : decode cX11_gusts 37 = .ok (.lconst 1, 1) := by decide +kernel
theorem dX11_gusts_38 : decode cX11_gusts 38 = .ok (.invokestatic 78, 3) := by decide +kernel
theorem dX11_gusts_41 : decode cX11_gusts 41 = .ok (.ifCond .ne 7, 3) := by decide +kernel
theorem dX11_gusts_44 : decode cX11_gusts 44 = .ok (.ldc2_w 286, 3) := by decide +kernel
theorem dX11_gusts_47 : decode cX11_gusts 47 = .ok (.lreturn, 1) := by decide +kernel
theorem dX11_gusts_48 : decode cX11_gusts 48 = .ok (.iconst 0, 1) := by decide +kernel
theorem dX11_gusts_49 : decode cX11_gusts 49 = .ok (.istore 5, 2) := by decide +kernel
theorem dX11_gusts_51 : decode cX11_gusts 51 = .ok (.iload 5, 2) := by decide +kernel
theorem dX11_gusts_53 : decode cX11_gusts 53 = .ok (.bipush 36, 2) := by decide +kernel
theorem dX11_gusts_55 : decode cX11_gusts 55 = .ok (.if_icmp .gt 27, 3) := by decide +kernel
theorem dX11_gusts_58 : decode cX11_gusts 58 = .ok (.aload_n 0, 1) := by decide +kernel
theorem dX11_gusts_59 : decode cX11_gusts 59 = .ok (.getfield 58, 3) := by decide +kernel
theorem dX11_gusts_62 : decode cX11_gusts 62 = .ok (.iload 5, 2) := by decide +kernel
theorem dX11_gusts_64 : decode cX11_gusts 64 = .ok (.iload 5, 2) := by decide +kernel
theorem dX11_gusts_66 : decode cX11_gusts 66 = .ok (.iload_n 1, 1) := by decide +kernel
theorem dX11_gusts_67 : decode cX11_gusts 67 = .ok (.if_icmp .ne 7, 3) := by decide +kernel
theorem dX11_gusts_70 : decode cX11_gusts 70 = .ok (.lconst 1, 1) := by decide +kernel
theorem dX11_gusts_71 : decode cX11_gusts 71 = .ok (.goto 4, 3) := by decide +kernel
theorem dX11_gusts_74 : decode cX11_gusts 74 = .ok (.lconst 0, 1) := by decide +kernel
theorem dX11_gusts_75 : decode cX11_gusts 75 = .ok (.lastore, 1) := by decide +kernel
theorem dX11_gusts_76 : decode cX11_gusts 76 = .ok (.iinc 5 1, 3) := by decide +kernel
theorem dX11_gusts_79 : decode cX11_gusts 79 = .ok (.goto (-28), 3) := by decide +kernel
theorem dX11_gusts_82 : decode cX11_gusts 82 = .ok (.lconst 1, 1) := by decide +kernel
theorem dX11_gusts_83 : decode cX11_gusts 83 = .ok (.lstore 5, 2) := by decide +kernel
theorem dX11_gusts_85 : decode cX11_gusts 85 = .ok (.iconst 0, 1) := by decide +kernel
theorem dX11_gusts_86 : decode cX11_gusts 86 = .ok (.istore 7, 2) := by decide +kernel
theorem dX11_gusts_88 : decode cX11_gusts 88 = .ok (.iload 7, 2) := by decide +kernel
theorem dX11_gusts_90 : decode cX11_gusts 90 = .ok (.iload_n 3, 1) := by decide +kernel
theorem dX11_gusts_91 : decode cX11_gusts 91 = .ok (.if_icmp .ge 21, 3) := by decide +kernel
theorem dX11_gusts_94 : decode cX11_gusts 94 = .ok (.aload_n 0, 1) := by decide +kernel
theorem dX11_gusts_95 : decode cX11_gusts 95 = .ok (.invokevirtual 288, 3) := by decide +kernel
theorem dX11_gusts_98 : decode cX11_gusts 98 = .ok (.lload 5, 2) := by decide +kernel
theorem dX11_gusts_100 : decode cX11_gusts 100 = .ok (.ldc2_w 282, 3) := by decide +kernel
theorem dX11_gusts_103 : decode cX11_gusts 103 = .ok (.lmul, 1) := by decide +kernel
theorem dX11_gusts_104 : decode cX11_gusts 104 = .ok (.lstore 5, 2) := by decide +kernel
theorem dX11_gusts_106 : decode cX11_gusts 106 = .ok (.iinc 7 1, 3) := by decide +kernel
theorem dX11_gusts_109 : decode cX11_gusts 109 = .ok (.goto (-21), 3) := by decide +kernel
theorem dX11_gusts_112 : decode cX11_gusts 112 = .ok (.aload_n 0, 1) := by decide +kernel
theorem dX11_gusts_113 : decode cX11_gusts 113 = .ok (.getfield 58, 3) := by decide +kernel
theorem dX11_gusts_116 : decode cX11_gusts 116 = .ok (.iload_n 2, 1) := by decide +kernel
theorem dX11_gusts_117 : decode cX11_gusts 117 = .ok (.ifCond .ge 8, 3) := by decide +kernel
theorem dX11_gusts_120 : decode cX11_gusts 120 = .ok (.bipush 36, 2) := by decide +kernel
theorem dX11_gusts_122 : decode cX11_gusts 122 = .ok (.goto 4, 3) := by decide +kernel
theorem dX11_gusts_125 : decode cX11_gusts 125 = .ok (.iload_n 2, 1) := by decide +kernel
theorem dX11_gusts_126 : decode cX11_gusts 126 = .ok (.laload, 1) := by decide +kernel
theorem dX11_gusts_127 : decode cX11_gusts 127 = .ok (.lload 5, 2) := by decide +kernel
theorem dX11_gusts_129 : decode cX11_gusts 129 = .ok (.iload 4, 2) := by decide +kernel
theorem dX11_gusts_131 : decode cX11_gusts 131 = .ok (.invokestatic 291, 3) := by decide +kernel
theorem dX11_gusts_134 : decode cX11_gusts 134 = .ok (.lreturn, 1) := by decide +kernel
theorem dX11_lovers_0 : decode cX11_lovers 0 = .ok (.iload_n 1, 1) := by decide +kernel
theorem dX11_lovers_1 : decode cX11_lovers 1 = .ok (.i2l, 1) := by decide +kernel
theorem dX11_lovers_2 : decode cX11_lovers 2 = .ok (.lconst 0, 1) := by decide +kernel
theorem dX11_lovers_3 : decode cX11_lovers 3 = .ok (.ldc2_w 295, 3) := by decide +kernel
theorem dX11_lovers_6 : decode cX11_lovers 6 = .ok (.invokestatic 78, 3) := by decide +kernel
theorem dX11_lovers_9 : decode cX11_lovers 9 = .ok (.ifCond .eq 25, 3) := by decide +kernel
theorem dX11_lovers_12 : decode cX11_lovers 12 = .ok (.iload_n 2, 1) := by decide +kernel
theorem dX11_lovers_13 : decode cX11_lovers 13 = .ok (.i2l, 1) := by decide +kernel
theorem dX11_lovers_14 : decode cX11_lovers 14 = .ok (.lconst 1, 1) := by decide +kernel
theorem dX11_lovers_15 : decode cX11_lovers 15 = .ok (.ldc2_w 96, 3) := by decide +kernel
theorem dX11_lovers_18 : decode cX11_lovers 18 = .ok (.invokestatic 78, 3) := by decide +kernel
theorem dX11_lovers_21 : decode cX11_lovers 21 = .ok (.ifCond .eq 13, 3) := by decide +kernel
theorem dX11_lovers_24 : decode cX11_lovers 24 = .ok (.iload_n 3, 1) := by decide +kernel
theorem dX11_lovers_25 : decode cX11_lovers 25 = .ok (.i2l, 1) := by decide +kernel
theorem dX11_lovers_26 : decode cX11_lovers 26 = .ok (.lconst 0, 1) := by decide +kernel
theorem dX11_lovers_27 : decode cX11_lovers 27 = .ok (.lconst 1, 1) := by decide +kernel
theorem dX11_lovers_28 : decode cX11_lovers 28 = .ok (.invokestatic 78, 3) := by decide +kernel
theorem dX11_lovers_31 : decode cX11_lovers 31 = .ok (.ifCond .ne 6, 3) := by decide +kernel
theorem dX11_lovers_34 : decode cX11_lovers 34 = .ok (.bipush (-2), 2) := by decide +kernel
theorem dX11_lovers_36 : decode cX11_lovers 36 = .ok (.ireturn, 1) := by decide +kernel
theorem dX11_lovers_37 : decode cX11_lovers 37 = .ok (.iload_n 1, 1) := by decide +kernel
theorem dX11_lovers_38 : decode cX11_lovers 38 = .ok (.iload_n 2, 1) := by decide +kernel
theorem dX11_lovers_39 : decode cX11_lovers 39 = .ok (.iconst 1, 1) := by decide +kernel
theorem dX11_lovers_40 : decode cX11_lovers 40 = .ok (.iadd, 1) := by decide +kernel
theorem dX11_lovers_41 : decode cX11_lovers 41 = .ok (.irem, 1) := by decide +kernel
theorem dX11_lovers_42 : decode cX11_lovers 42 = .ok (.istore 4, 2) := by decide +kernel
theorem dX11_lovers_44 : decode cX11_lovers 44 = .ok (.iload_n 3, 1) := by decide +kernel
theorem dX11_lovers_45 : decode cX11_lovers 45 = .ok (.ifCond .ne 16, 3) := by decide +kernel
theorem dX11_lovers_48 : decode cX11_lovers 48 = .ok (.iload 4, 2) := by decide +kernel
theorem dX11_lovers_50 : decode cX11_lovers 50 = .ok (.ifCond .le 7, 3) := by decide +kernel
theorem dX11_lovers_53 : decode cX11_lovers 53 = .ok (.iconst 1, 1) := by decide +kernel
theorem dX11_lovers_54 : decode cX11_lovers 54 = .ok (.goto 19, 3) := by decide +kernel
theorem dX11_lovers_57 : decode cX11_lovers 57 = .ok (.iconst 0, 1) := by decide +kernel
theorem dX11_lovers_58 : decode cX11_lovers 58 = .ok (.goto 15, 3) := by decide +kernel
theorem dX11_lovers_61 : decode cX11_lovers 61 = .ok (.iload 4, 2) := by decide +kernel
theorem dX11_lovers_63 : decode cX11_lovers 63 = .ok (.ifCond .le 8, 3) := by decide +kernel
theorem dX11_lovers_66 : decode cX11_lovers 66 = .ok (.iload 4, 2) := by decide +kernel
theorem dX11_lovers_68 : decode cX11_lovers 68 = .ok (.goto 5, 3) := by decide +kernel
theorem dX11_lovers_71 : decode cX11_lovers 71 = .ok (.bipush (-6), 2) := by decide +kernel
theorem dX11_lovers_73 : decode cX11_lovers 73 = .ok (.ireturn, 1) := by decide +kernel
theorem dX11_actBy_0 : decode cX11_actBy 0 = .ok (.iload_n 0, 1) := by decide +kernel
theorem dX11_actBy_1 : decode cX11_actBy 1 = .ok (.iconst 3, 1) := by decide +kernel
theorem dX11_actBy_2 : decode cX11_actBy 2 = .ok (.if_icmp .ge 7, 3) := by decide +kernel
theorem dX11_actBy_5 : decode cX11_actBy 5 = .ok (.iconst 0, 1) := by decide +kernel
theorem dX11_actBy_6 : decode cX11_actBy 6 = .ok (.goto 42, 3) := by decide +kernel
theorem dX11_actBy_9 : decode cX11_actBy 9 = .ok (.iload_n 0, 1) := by decide +kernel
theorem dX11_actBy_10 : decode cX11_actBy 10 = .ok (.iconst 3, 1) := by decide +kernel
theorem dX11_actBy_11 : decode cX11_actBy 11 = .ok (.if_icmp .ne 7, 3) := by decide +kernel
theorem dX11_actBy_14 : decode cX11_actBy 14 = .ok (.iconst 2, 1) := by decide +kernel
theorem dX11_actBy_15 : decode cX11_actBy 15 = .ok (.goto 33, 3) := by decide +kernel
theorem dX11_actBy_18 : decode cX11_actBy 18 = .ok (.iload_n 0, 1) := by decide +kernel
theorem dX11_actBy_19 : decode cX11_actBy 19 = .ok (.iconst 4, 1) := by decide +kernel
theorem dX11_actBy_20 : decode cX11_actBy 20 = .ok (.if_icmp .ne 7, 3) := by decide +kernel
theorem dX11_actBy_23 : decode cX11_actBy 23 = .ok (.iconst 1, 1) := by decide +kernel
theorem dX11_actBy_24 : decode cX11_actBy 24 = .ok (.goto 24, 3) := by decide +kernel
theorem dX11_actBy_27 : decode cX11_actBy 27 = .ok (.iload_n 0, 1) := by decide +kernel
theorem dX11_actBy_28 : decode cX11_actBy 28 = .ok (.iconst 5, 1) := by decide +kernel
theorem dX11_actBy_29 : decode cX11_actBy 29 = .ok (.if_icmp .ne 7, 3) := by decide +kernel
theorem dX11_actBy_32 : decode cX11_actBy 32 = .ok (.iconst 3, 1) := by decide +kernel
theorem dX11_actBy_33 : decode cX11_actBy 33 = .ok (.goto 15, 3) := by decide +kernel
theorem dX11_actBy_36 : decode cX11_actBy 36 = .ok (.iload_n 0, 1) := by decide +kernel
theorem dX11_actBy_37 : decode cX11_actBy 37 = .ok (.bipush 6, 2) := by decide +kernel
theorem dX11_actBy_39 : decode cX11_actBy 39 = .ok (.if_icmp .ne 7, 3) := by decide +kernel
theorem dX11_actBy_42 : decode cX11_actBy 42 = .ok (.iconst 5, 1) := by decide +kernel
theorem dX11_actBy_43 : decode cX11_actBy 43 = .ok (.goto 5, 3) := by decide +kernel
theorem dX11_actBy_46 : decode cX11_actBy 46 = .ok (.bipush 6, 2) := by decide +kernel
theorem dX11_actBy_48 : decode cX11_actBy 48 = .ok (.ireturn, 1) := by decide +kernel
theorem dX11_year_0 : decode cX11_year 0 = .ok (.iload_n 1, 1) := by decide +kernel
theorem dX11_year_1 : decode cX11_year 1 = .ok (.i2l, 1) := by decide +kernel
theorem dX11_year_2 : decode cX11_year 2 = .ok (.lconst 0, 1) := by decide +kernel
theorem dX11_year_3 : decode cX11_year 3 = .ok (.ldc2_w 297, 3) := by decide +kernel
theorem dX11_year_6 : decode cX11_year 6 = .ok (.invokestatic 78, 3) := by decide +kernel
theorem dX11_year_9 : decode cX11_year 9 = .ok (.ifCond .eq 27, 3) := by decide +kernel
theorem dX11_year_12 : decode cX11_year 12 = .ok (.iload_n 2, 1) := by decide +kernel
theorem dX11_year_13 : decode cX11_year 13 = .ok (.i2l, 1) := by decide +kernel
theorem dX11_year_14 : decode cX11_year 14 = .ok (.lconst 1, 1) := by decide +kernel
theorem dX11_year_15 : decode cX11_year 15 = .ok (.ldc2_w 295, 3) := by decide +kernel
theorem dX11_year_18 : decode cX11_year 18 = .ok (.invokestatic 78, 3) := by decide +kernel
theorem dX11_year_21 : decode cX11_year 21 = .ok (.ifCond .eq 15, 3) := by decide +kernel
theorem dX11_year_24 : decode cX11_year 24 = .ok (.iload_n 3, 1) := by decide +kernel
theorem dX11_year_25 : decode cX11_year 25 = .ok (.i2l, 1) := by decide +kernel
theorem dX11_year_26 : decode cX11_year 26 = .ok (.lconst 0, 1) := by decide +kernel
theorem dX11_year_27 : decode cX11_year 27 = .ok (.ldc2_w 114, 3) := by decide +kernel
theorem dX11_year_30 : decode cX11_year 30 = .ok (.invokestatic 78, 3) := by decide +kernel
theorem dX11_year_33 : decode cX11_year 33 = .ok (.ifCond .ne 6, 3) := by decide +kernel
theorem dX11_year_36 : decode cX11_year 36 = .ok (.bipush (-2), 2) := by decide +kernel
theorem dX11_year_38 : decode cX11_year 38 = .ok (.ireturn, 1) := by decide +kernel
theorem dX11_year_39 : decode cX11_year 39 = .ok (.aload_n 0, 1) := by decide +kernel
theorem dX11_year_40 : decode cX11_year 40 = .ok (.invokevirtual 222, 3) := by decide +kernel
theorem dX11_year_43 : decode cX11_year 43 = .ok (.aload_n 0, 1) := by decide +kernel
theorem dX11_year_44 : decode cX11_year 44 = .ok (.iconst 0, 1) := by decide +kernel
theorem dX11_year_45 : decode cX11_year 45 = .ok (.putfield 170, 3) := by decide +kernel
theorem dX11_year_48 : decode cX11_year 48 = .ok (.iload_n 1, 1) := by decide +kernel
theorem dX11_year_49 : decode cX11_year 49 = .ok (.istore 4, 2) := by decide +kernel
theorem dX11_year_51 : decode cX11_year 51 = .ok (.iconst 0, 1) := by decide +kernel
theorem dX11_year_52 : decode cX11_year 52 = .ok (.istore 5, 2) := by decide +kernel
theorem dX11_year_54 : decode cX11_year 54 = .ok (.iload 5, 2) := by decide +kernel
theorem dX11_year_56 : decode cX11_year 56 = .ok (.iload_n 2, 1) := by decide +kernel
theorem dX11_year_57 : decode cX11_year 57 = .ok (.if_icmp .ge 116, 3) := by decide +kernel
theorem dX11_year_60 : decode cX11_year 60 = .ok (.ldc2_w 299, 3) := by decide +kernel
theorem dX11_year_63 : decode cX11_year 63 = .ok (.iload 4, 2) := by decide +kernel
theorem dX11_year_65 : decode cX11_year 65 = .ok (.i2l, 1) := by decide +kernel
theorem dX11_year_66 : decode cX11_year 66 = .ok (.lmul, 1) := by decide +kernel
theorem dX11_year_67 : decode cX11_year 67 = .ok (.ldc2_w 301, 3) := by decide +kernel
theorem dX11_year_70 : decode cX11_year 70 = .ok (.ladd, 1) := by decide +kernel
theorem dX11_year_71 : decode cX11_year 71 = .ok (.ldc2_w 303, 3) := by decide +kernel
theorem dX11_year_74 : decode cX11_year 74 = .ok (.lrem, 1) := by decide +kernel
theorem dX11_year_75 : decode cX11_year 75 = .ok (.l2i, 1) := by decide +kernel
theorem dX11_year_76 : decode cX11_year 76 = .ok (.istore 4, 2) := by decide +kernel
theorem dX11_year_78 : decode cX11_year 78 = .ok (.iload 4, 2) := by decide +kernel
theorem dX11_year_80 : decode cX11_year 80 = .ok (.bipush 6, 2) := by decide +kernel
theorem dX11_year_82 : decode cX11_year 82 = .ok (.idiv, 1) := by decide +kernel
theorem dX11_year_83 : decode cX11_year 83 = .ok (.bipush 8, 2) := by decide +kernel
theorem dX11_year_85 : decode cX11_year 85 = .ok (.irem, 1) := by decide +kernel
theorem dX11_year_86 : decode cX11_year 86 = .ok (.invokestatic 305, 3) := by decide +kernel
theorem dX11_year_89 : decode cX11_year 89 = .ok (.istore 6, 2) := by decide +kernel
theorem dX11_year_91 : decode cX11_year 91 = .ok (.iload 6, 2) := by decide +kernel
theorem dX11_year_93 : decode cX11_year 93 = .ok (.iconst 3, 1) := by decide +kernel
theorem dX11_year_94 : decode cX11_year 94 = .ok (.if_icmp .ne 13, 3) := by decide +kernel
theorem dX11_year_97 : decode cX11_year 97 = .ok (.iload 4, 2) := by decide +kernel
theorem dX11_year_99 : decode cX11_year 99 = .ok (.bipush 48, 2) := by decide +kernel
theorem dX11_year_101 : decode cX11_year 101 = .ok (.idiv, 1) := by decide +kernel
theorem dX11_year_102 : decode cX11_year 102 = .ok (.iconst 4, 1) := by decide +kernel
theorem dX11_year_103 : decode cX11_year 103 = .ok (.irem, 1) := by decide +kernel
theorem dX11_year_104 : decode cX11_year 104 = .ok (.goto 8, 3) := by decide +kernel
theorem dX11_year_107 : decode cX11_year 107 = .ok (.iload 4, 2) := by decide +kernel
theorem dX11_year_109 : decode cX11_year 109 = .ok (.bipush 6, 2) := by decide +kernel
theorem dX11_year_111 : decode cX11_year 111 = .ok (.irem, 1) := by decide +kernel
theorem dX11_year_112 : decode cX11_year 112 = .ok (.istore 7, 2) := by decide +kernel
theorem dX11_year_114 : decode cX11_year 114 = .ok (.iload 6, 2) := by decide +kernel
theorem dX11_year_116 : decode cX11_year 116 = .ok (.iconst 3, 1) := by decide +kernel
theorem dX11_year_117 : decode cX11_year 117 = .ok (.if_icmp .ne 15, 3) := by decide +kernel
theorem dX11_year_120 : decode cX11_year 120 = .ok (.iload 4, 2) := by decide +kernel
theorem dX11_year_122 : decode cX11_year 122 = .ok (.sipush 192, 3) := by decide +kernel
theorem dX11_year_125 : decode cX11_year 125 = .ok (.idiv, 1) := by decide +kernel
theorem dX11_year_126 : decode cX11_year 126 = .ok (.bipush 6, 2) := by decide +kernel
theorem dX11_year_128 : decode cX11_year 128 = .ok (.irem, 1) := by decide +kernel
theorem dX11_year_129 : decode cX11_year 129 = .ok (.goto 13, 3) := by decide +kernel
theorem dX11_year_132 : decode cX11_year 132 = .ok (.iconst 1, 1) := by decide +kernel
theorem dX11_year_133 : decode cX11_year 133 = .ok (.iload 4, 2) := by decide +kernel
theorem dX11_year_135 : decode cX11_year 135 = .ok (.bipush 48, 2) := by decide +kernel
theorem dX11_year_137 : decode cX11_year 137 = .ok (.idiv, 1) := by decide +kernel
theorem dX11_year_138 : decode cX11_year 138 = .ok (.bipush 9, 2) := by decide +kernel
theorem dX11_year_140 : decode cX11_year 140 = .ok (.irem, 1) := by decide +kernel
theorem dX11_year_141 : decode cX11_year 141 = .ok (.iadd, 1) := by decide +kernel
theorem dX11_year_142 : decode cX11_year 142 = .ok (.istore 8, 2) := by decide +kernel
theorem dX11_year_144 : decode cX11_year 144 = .ok (.aload_n 0, 1) := by decide +kernel
theorem dX11_year_145 : decode cX11_year 145 = .ok (.iload 6, 2) := by decide +kernel
theorem dX11_year_147 : decode cX11_year 147 = .ok (.iload 7, 2) := by decide +kernel
theorem dX11_year_149 : decode cX11_year 149 = .ok (.iload 8, 2) := by decide +kernel
theorem dX11_year_151 : decode cX11_year 151 = .ok (.invokevirtual 216, 3) := by decide +kernel
theorem dX11_year_154 : decode cX11_year 154 = .ok (.ifCond .ne 13, 3) := by decide +kernel
theorem dX11_year_157 : decode cX11_year 157 = .ok (.aload_n 0, 1) := by decide +kernel
theorem dX11_year_158 : decode cX11_year 158 = .ok (.iload 6, 2) := by decide +kernel
theorem dX11_year_160 : decode cX11_year 160 = .ok (.iload 7, 2) := by decide +kernel
theorem dX11_year_162 : decode cX11_year 162 = .ok (.iload 8, 2) := by decide +kernel
theorem dX11_year_164 : decode cX11_year 164 = .ok (.invokevirtual 197, 3) := by decide +kernel
theorem dX11_year_167 : decode cX11_year 167 = .ok (.iinc 5 1, 3) := by decide +kernel
theorem dX11_year_170 : decode cX11_year 170 = .ok (.goto (-116), 3) := by decide +kernel
theorem dX11_year_173 : decode cX11_year 173 = .ok (.iload_n 3, 1) := by decide +kernel
theorem dX11_year_174 : decode cX11_year 174 = .ok (.ifCond .ne 10, 3) := by decide +kernel
theorem dX11_year_177 : decode cX11_year 177 = .ok (.aload_n 0, 1) := by decide +kernel
theorem dX11_year_178 : decode cX11_year 178 = .ok (.invokevirtual 237, 3) := by decide +kernel
theorem dX11_year_181 : decode cX11_year 181 = .ok (.goto 19, 3) := by decide +kernel
theorem dX11_year_184 : decode cX11_year 184 = .ok (.iload_n 3, 1) := by decide +kernel
theorem dX11_year_185 : decode cX11_year 185 = .ok (.iconst 1, 1) := by decide +kernel
theorem dX11_year_186 : decode cX11_year 186 = .ok (.if_icmp .ne 10, 3) := by decide +kernel
theorem dX11_year_189 : decode cX11_year 189 = .ok (.aload_n 0, 1) := by decide +kernel
theorem dX11_year_190 : decode cX11_year 190 = .ok (.invokevirtual 240, 3) := by decide +kernel
theorem dX11_year_193 : decode cX11_year 193 = .ok (.goto 7, 3) := by decide +kernel
theorem dX11_year_196 : decode cX11_year 196 = .ok (.aload_n 0, 1) := by decide +kernel
theorem dX11_year_197 : decode cX11_year 197 = .ok (.getfield 105, 3) := by decide +kernel
theorem dX11_year_200 : decode cX11_year 200 = .ok (.istore 5, 2) := by decide +kernel
theorem dX11_year_202 : decode cX11_year 202 = .ok (.aload_n 0, 1) := by decide +kernel
theorem dX11_year_203 : decode cX11_year 203 = .ok (.iload 5, 2) := by decide +kernel
theorem dX11_year_205 : decode cX11_year 205 = .ok (.invokevirtual 234, 3) := by decide +kernel
theorem dX11_year_208 : decode cX11_year 208 = .ok (.ireturn, 1) := by decide +kernel
theorem dX11_pass_0 : decode cX11_pass 0 = .ok (.aload_n 0, 1) := by decide +kernel
theorem dX11_pass_1 : decode cX11_pass 1 = .ok (.getfield 308, 3) := by decide +kernel
theorem dX11_pass_4 : decode cX11_pass 4 = .ok (.ifCond .eq 7, 3) := by decide +kernel
theorem dX11_pass_7 : decode cX11_pass 7 = .ok (.iload_n 1, 1) := by decide +kernel
theorem dX11_pass_8 : decode cX11_pass 8 = .ok (.goto 12, 3) := by decide +kernel
theorem dX11_pass_11 : decode cX11_pass 11 = .ok (.aload_n 0, 1) := by decide +kernel
theorem dX11_pass_12 : decode cX11_pass 12 = .ok (.getfield 65, 3) := by decide +kernel
theorem dX11_pass_15 : decode cX11_pass 15 = .ok (.aload_n 0, 1) := by decide +kernel
theorem dX11_pass_16 : decode cX11_pass 16 = .ok (.getfield 312, 3) := by decide +kernel
theorem dX11_pass_19 : decode cX11_pass 19 = .ok (.iaload, 1) := by decide +kernel
theorem dX11_pass_20 : decode cX11_pass 20 = .ok (.istore_n 2, 1) := by decide +kernel
theorem dX11_pass_21 : decode cX11_pass 21 = .ok (.aload_n 0, 1) := by decide +kernel
theorem dX11_pass_22 : decode cX11_pass 22 = .ok (.getfield 65, 3) := by decide +kernel
theorem dX11_pass_25 : decode cX11_pass 25 = .ok (.aload_n 0, 1) := by decide +kernel
theorem dX11_pass_26 : decode cX11_pass 26 = .ok (.getfield 312, 3) := by decide +kernel
theorem dX11_pass_29 : decode cX11_pass 29 = .ok (.iload_n 2, 1) := by decide +kernel
theorem dX11_pass_30 : decode cX11_pass 30 = .ok (.iastore, 1) := by decide +kernel
theorem dX11_pass_31 : decode cX11_pass 31 = .ok (.aload_n 0, 1) := by decide +kernel
theorem dX11_pass_32 : decode cX11_pass 32 = .ok (.dup, 1) := by decide +kernel
theorem dX11_pass_33 : decode cX11_pass 33 = .ok (.getfield 312, 3) := by decide +kernel
theorem dX11_pass_36 : decode cX11_pass 36 = .ok (.iconst 1, 1) := by decide +kernel
theorem dX11_pass_37 : decode cX11_pass 37 = .ok (.iadd, 1) := by decide +kernel
theorem dX11_pass_38 : decode cX11_pass 38 = .ok (.putfield 312, 3) := by decide +kernel
theorem dX11_pass_41 : decode cX11_pass 41 = .ok (.iload_n 2, 1) := by decide +kernel
theorem dX11_pass_42 : decode cX11_pass 42 = .ok (.ireturn, 1) := by decide +kernel
theorem dX11_passRow_0 : decode cX11_passRow 0 = .ok (.iconst 0, 1) := by decide +kernel
theorem dX11_passRow_1 : decode cX11_passRow 1 = .ok (.istore_n 3, 1) := by decide +kernel
theorem dX11_passRow_2 : decode cX11_passRow 2 = .ok (.iload_n 3, 1) := by decide +kernel
theorem dX11_passRow_3 : decode cX11_passRow 3 = .ok (.iload_n 2, 1) := by decide +kernel
theorem dX11_passRow_4 : decode cX11_passRow 4 = .ok (.if_icmp .ge 19, 3) := by decide +kernel
theorem dX11_passRow_7 : decode cX11_passRow 7 = .ok (.aload_n 1, 1) := by decide +kernel
theorem dX11_passRow_8 : decode cX11_passRow 8 = .ok (.iload_n 3, 1) := by decide +kernel
theorem dX11_passRow_9 : decode cX11_passRow 9 = .ok (.aload_n 0, 1) := by decide +kernel
theorem dX11_passRow_10 : decode cX11_passRow 10 = .ok (.aload_n 1, 1) := by decide +kernel
theorem dX11_passRow_11 : decode cX11_passRow 11 = .ok (.iload_n 3, 1) := by decide +kernel
theorem dX11_passRow_12 : decode cX11_passRow 12 = .ok (.iaload, 1) := by decide +kernel
theorem dX11_passRow_13 : decode cX11_passRow 13 = .ok (.invokevirtual 315, 3) := by decide +kernel
theorem dX11_passRow_16 : decode cX11_passRow 16 = .ok (.iastore, 1) := by decide +kernel
theorem dX11_passRow_17 : decode cX11_passRow 17 = .ok (.iinc 3 1, 3) := by decide +kernel
theorem dX11_passRow_20 : decode cX11_passRow 20 = .ok (.goto (-18), 3) := by decide +kernel
theorem dX11_passRow_23 : decode cX11_passRow 23 = .ok (.return_, 1) := by decide +kernel
theorem dX11_passAll_0 : decode cX11_passAll 0 = .ok (.aload_n 0, 1) := by decide +kernel
theorem dX11_passAll_1 : decode cX11_passAll 1 = .ok (.aload_n 0, 1) := by decide +kernel
theorem dX11_passAll_2 : decode cX11_passAll 2 = .ok (.aload_n 0, 1) := by decide +kernel
theorem dX11_passAll_3 : decode cX11_passAll 3 = .ok (.getfield 84, 3) := by decide +kernel
theorem dX11_passAll_6 : decode cX11_passAll 6 = .ok (.invokevirtual 315, 3) := by decide +kernel
theorem dX11_passAll_9 : decode cX11_passAll 9 = .ok (.putfield 84, 3) := by decide +kernel
theorem dX11_passAll_12 : decode cX11_passAll 12 = .ok (.aload_n 0, 1) := by decide +kernel
theorem dX11_passAll_13 : decode cX11_passAll 13 = .ok (.aload_n 0, 1) := by decide +kernel
theorem dX11_passAll_14 : decode cX11_passAll 14 = .ok (.aload_n 0, 1) := by decide +kernel
theorem dX11_passAll_15 : decode cX11_passAll 15 = .ok (.getfield 118, 3) := by decide +kernel
theorem dX11_passAll_18 : decode cX11_passAll 18 = .ok (.invokevirtual 315, 3) := by decide +kernel
theorem dX11_passAll_21 : decode cX11_passAll 21 = .ok (.putfield 118, 3) := by decide +kernel
theorem dX11_passAll_24 : decode cX11_passAll 24 = .ok (.aload_n 0, 1) := by decide +kernel
theorem dX11_passAll_25 : decode cX11_passAll 25 = .ok (.aload_n 0, 1) := by decide +kernel
theorem dX11_passAll_26 : decode cX11_passAll 26 = .ok (.aload_n 0, 1) := by decide +kernel
theorem dX11_passAll_27 : decode cX11_passAll 27 = .ok (.getfield 72, 3) := by decide +kernel
theorem dX11_passAll_30 : decode cX11_passAll 30 = .ok (.invokevirtual 315, 3) := by decide +kernel
theorem dX11_passAll_33 : decode cX11_passAll 33 = .ok (.putfield 72, 3) := by decide +kernel
theorem dX11_passAll_36 : decode cX11_passAll 36 = .ok (.aload_n 0, 1) := by decide +kernel
theorem dX11_passAll_37 : decode cX11_passAll 37 = .ok (.aload_n 0, 1) := by decide +kernel
theorem dX11_passAll_38 : decode cX11_passAll 38 = .ok (.aload_n 0, 1) := by decide +kernel
theorem dX11_passAll_39 : decode cX11_passAll 39 = .ok (.getfield 121, 3) := by decide +kernel
theorem dX11_passAll_42 : decode cX11_passAll 42 = .ok (.invokevirtual 315, 3) := by decide +kernel
theorem dX11_passAll_45 : decode cX11_passAll 45 = .ok (.putfield 121, 3) := by decide +kernel
theorem dX11_passAll_48 : decode cX11_passAll 48 = .ok (.aload_n 0, 1) := by decide +kernel
theorem dX11_passAll_49 : decode cX11_passAll 49 = .ok (.aload_n 0, 1) := by decide +kernel
theorem dX11_passAll_50 : decode cX11_passAll 50 = .ok (.aload_n 0, 1) := by decide +kernel
theorem dX11_passAll_51 : decode cX11_passAll 51 = .ok (.getfield 105, 3) := by decide +kernel
theorem dX11_passAll_54 : decode cX11_passAll 54 = .ok (.invokevirtual 315, 3) := by decide +kernel
theorem dX11_passAll_57 : decode cX11_passAll 57 = .ok (.putfield 105, 3) := by decide +kernel
theorem dX11_passAll_60 : decode cX11_passAll 60 = .ok (.aload_n 0, 1) := by decide +kernel
theorem dX11_passAll_61 : decode cX11_passAll 61 = .ok (.aload_n 0, 1) := by decide +kernel
theorem dX11_passAll_62 : decode cX11_passAll 62 = .ok (.aload_n 0, 1) := by decide +kernel
theorem dX11_passAll_63 : decode cX11_passAll 63 = .ok (.getfield 158, 3) := by decide +kernel
theorem dX11_passAll_66 : decode cX11_passAll 66 = .ok (.invokevirtual 315, 3) := by decide +kernel
theorem dX11_passAll_69 : decode cX11_passAll 69 = .ok (.putfield 158, 3) := by decide +kernel
theorem dX11_passAll_72 : decode cX11_passAll 72 = .ok (.aload_n 0, 1) := by decide +kernel
theorem dX11_passAll_73 : decode cX11_passAll 73 = .ok (.aload_n 0, 1) := by decide +kernel
theorem dX11_passAll_74 : decode cX11_passAll 74 = .ok (.aload_n 0, 1) := by decide +kernel
theorem dX11_passAll_75 : decode cX11_passAll 75 = .ok (.getfield 268, 3) := by decide +kernel
theorem dX11_passAll_78 : decode cX11_passAll 78 = .ok (.invokevirtual 315, 3) := by decide +kernel
theorem dX11_passAll_81 : decode cX11_passAll 81 = .ok (.putfield 268, 3) := by decide +kernel
theorem dX11_passAll_84 : decode cX11_passAll 84 = .ok (.aload_n 0, 1) := by decide +kernel
theorem dX11_passAll_85 : decode cX11_passAll 85 = .ok (.aload_n 0, 1) := by decide +kernel
theorem dX11_passAll_86 : decode cX11_passAll 86 = .ok (.getfield 7, 3) := by decide +kernel
theorem dX11_passAll_89 : decode cX11_passAll 89 = .ok (.bipush 6, 2) := by decide +kernel
theorem dX11_passAll_91 : decode cX11_passAll 91 = .ok (.invokevirtual 318, 3) := by decide +kernel
theorem dX11_passAll_94 : decode cX11_passAll 94 = .ok (.aload_n 0, 1) := by decide +kernel
theorem dX11_passAll_95 : decode cX11_passAll 95 = .ok (.aload_n 0, 1) := by decide +kernel
theorem dX11_passAll_96 : decode cX11_passAll 96 = .ok (.getfield 13, 3) := by decide +kernel
theorem dX11_passAll_99 : decode cX11_passAll 99 = .ok (.bipush 6, 2) := by decide +kernel
theorem dX11_passAll_101 : decode cX11_passAll 101 = .ok (.invokevirtual 318, 3) := by decide +kernel
theorem dX11_passAll_104 : decode cX11_passAll 104 = .ok (.aload_n 0, 1) := by decide +kernel
theorem dX11_passAll_105 : decode cX11_passAll 105 = .ok (.aload_n 0, 1) := by decide +kernel
theorem dX11_passAll_106 : decode cX11_passAll 106 = .ok (.getfield 16, 3) := by decide +kernel
theorem dX11_passAll_109 : decode cX11_passAll 109 = .ok (.bipush 6, 2) := by decide +kernel
theorem dX11_passAll_111 : decode cX11_passAll 111 = .ok (.invokevirtual 318, 3) := by decide +kernel
theorem dX11_passAll_114 : decode cX11_passAll 114 = .ok (.aload_n 0, 1) := by decide +kernel
theorem dX11_passAll_115 : decode cX11_passAll 115 = .ok (.aload_n 0, 1) := by decide +kernel
theorem dX11_passAll_116 : decode cX11_passAll 116 = .ok (.getfield 19, 3) := by decide +kernel
theorem dX11_passAll_119 : decode cX11_passAll 119 = .ok (.bipush 6, 2) := by decide +kernel
theorem dX11_passAll_121 : decode cX11_passAll 121 = .ok (.invokevirtual 318, 3) := by decide +kernel
theorem dX11_passAll_124 : decode cX11_passAll 124 = .ok (.aload_n 0, 1) := by decide +kernel
theorem dX11_passAll_125 : decode cX11_passAll 125 = .ok (.aload_n 0, 1) := by decide +kernel
theorem dX11_passAll_126 : decode cX11_passAll 126 = .ok (.getfield 22, 3) := by decide +kernel
theorem dX11_passAll_129 : decode cX11_passAll 129 = .ok (.bipush 36, 2) := by decide +kernel
theorem dX11_passAll_131 : decode cX11_passAll 131 = .ok (.invokevirtual 318, 3) := by decide +kernel
theorem dX11_passAll_134 : decode cX11_passAll 134 = .ok (.aload_n 0, 1) := by decide +kernel
theorem dX11_passAll_135 : decode cX11_passAll 135 = .ok (.aload_n 0, 1) := by decide +kernel
theorem dX11_passAll_136 : decode cX11_passAll 136 = .ok (.getfield 25, 3) := by decide +kernel
theorem dX11_passAll_139 : decode cX11_passAll 139 = .ok (.bipush 8, 2) := by decide +kernel
theorem dX11_passAll_141 : decode cX11_passAll 141 = .ok (.invokevirtual 318, 3) := by decide +kernel
theorem dX11_passAll_144 : decode cX11_passAll 144 = .ok (.aload_n 0, 1) := by decide +kernel
theorem dX11_passAll_145 : decode cX11_passAll 145 = .ok (.aload_n 0, 1) := by decide +kernel
theorem dX11_passAll_146 : decode cX11_passAll 146 = .ok (.getfield 28, 3) := by decide +kernel
theorem dX11_passAll_149 : decode cX11_passAll 149 = .ok (.bipush 8, 2) := by decide +kernel
theorem dX11_passAll_151 : decode cX11_passAll 151 = .ok (.invokevirtual 318, 3) := by decide +kernel
theorem dX11_passAll_154 : decode cX11_passAll 154 = .ok (.return_, 1) := by decide +kernel
theorem dX11_image_0 : decode cX11_image 0 = .ok (.iload_n 1, 1) := by decide +kernel
theorem dX11_image_1 : decode cX11_image 1 = .ok (.i2l, 1) := by decide +kernel
theorem dX11_image_2 : decode cX11_image 2 = .ok (.lconst 0, 1) := by decide +kernel
theorem dX11_image_3 : decode cX11_image 3 = .ok (.lconst 1, 1) := by decide +kernel
theorem dX11_image_4 : decode cX11_image 4 = .ok (.invokestatic 78, 3) := by decide +kernel
theorem dX11_image_7 : decode cX11_image 7 = .ok (.ifCond .ne 6, 3) := by decide +kernel
theorem dX11_image_10 : decode cX11_image 10 = .ok (.bipush (-2), 2) := by decide +kernel
theorem dX11_image_12 : decode cX11_image 12 = .ok (.ireturn, 1) := by decide +kernel
theorem dX11_image_13 : decode cX11_image 13 = .ok (.aload_n 0, 1) := by decide +kernel
theorem dX11_image_14 : decode cX11_image 14 = .ok (.bipush 90, 2) := by decide +kernel
theorem dX11_image_16 : decode cX11_image 16 = .ok (.iload_n 1, 1) := by decide +kernel
theorem dX11_image_17 : decode cX11_image 17 = .ok (.imul, 1) := by decide +kernel
theorem dX11_image_18 : decode cX11_image 18 = .ok (.putfield 312, 3) := by decide +kernel
theorem dX11_image_21 : decode cX11_image 21 = .ok (.aload_n 0, 1) := by decide +kernel
theorem dX11_image_22 : decode cX11_image 22 = .ok (.iconst 1, 1) := by decide +kernel
theorem dX11_image_23 : decode cX11_image 23 = .ok (.putfield 308, 3) := by decide +kernel
theorem dX11_image_26 : decode cX11_image 26 = .ok (.aload_n 0, 1) := by decide +kernel
theorem dX11_image_27 : decode cX11_image 27 = .ok (.invokevirtual 322, 3) := by decide +kernel
theorem dX11_image_30 : decode cX11_image 30 = .ok (.aload_n 0, 1) := by decide +kernel
theorem dX11_image_31 : decode cX11_image 31 = .ok (.getfield 68, 3) := by decide +kernel
theorem dX11_image_34 : decode cX11_image 34 = .ok (.iload_n 1, 1) := by decide +kernel
theorem dX11_image_35 : decode cX11_image 35 = .ok (.iconst 1, 1) := by decide +kernel
theorem dX11_image_36 : decode cX11_image 36 = .ok (.bastore, 1) := by decide +kernel
theorem dX11_image_37 : decode cX11_image 37 = .ok (.iconst 1, 1) := by decide +kernel
theorem dX11_image_38 : decode cX11_image 38 = .ok (.ireturn, 1) := by decide +kernel
theorem dX11_restore_0 : decode cX11_restore 0 = .ok (.iload_n 1, 1) := by decide +kernel
theorem dX11_restore_1 : decode cX11_restore 1 = .ok (.i2l, 1) := by decide +kernel
theorem dX11_restore_2 : decode cX11_restore 2 = .ok (.lconst 0, 1) := by decide +kernel
theorem dX11_restore_3 : decode cX11_restore 3 = .ok (.lconst 1, 1) := by decide +kernel
theorem dX11_restore_4 : decode cX11_restore 4 = .ok (.invokestatic 78, 3) := by decide +kernel
theorem dX11_restore_7 : decode cX11_restore 7 = .ok (.ifCond .ne 6, 3) := by decide +kernel
theorem dX11_restore_10 : decode cX11_restore 10 = .ok (.bipush (-2), 2) := by decide +kernel
theorem dX11_restore_12 : decode cX11_restore 12 = .ok (.ireturn, 1) := by decide +kernel
theorem dX11_restore_13 : decode cX11_restore 13 = .ok (.aload_n 0, 1) := by decide +kernel
theorem dX11_restore_14 : decode cX11_restore 14 = .ok (.getfield 68, 3) := by decide +kernel
theorem dX11_restore_17 : decode cX11_restore 17 = .ok (.iload_n 1, 1) := by decide +kernel
theorem dX11_restore_18 : decode cX11_restore 18 = .ok (.baload, 1) := by decide +kernel
theorem dX11_restore_19 : decode cX11_restore 19 = .ok (.ifCond .ne 6, 3) := by decide +kernel
theorem dX11_restore_22 : decode cX11_restore 22 = .ok (.bipush (-3), 2) := by decide +kernel
theorem dX11_restore_24 : decode cX11_restore 24 = .ok (.ireturn, 1) := by decide +kernel
theorem dX11_restore_25 : decode cX11_restore 25 = .ok (.aload_n 0, 1) := by decide +kernel
theorem dX11_restore_26 : decode cX11_restore 26 = .ok (.bipush 90, 2) := by decide +kernel
theorem dX11_restore_28 : decode cX11_restore 28 = .ok (.iload_n 1, 1) := by decide +kernel
theorem dX11_restore_29 : decode cX11_restore 29 = .ok (.imul, 1) := by decide +kernel
theorem dX11_restore_30 : decode cX11_restore 30 = .ok (.putfield 312, 3) := by decide +kernel
theorem dX11_restore_33 : decode cX11_restore 33 = .ok (.aload_n 0, 1) := by decide +kernel
theorem dX11_restore_34 : decode cX11_restore 34 = .ok (.iconst 0, 1) := by decide +kernel
theorem dX11_restore_35 : decode cX11_restore 35 = .ok (.putfield 308, 3) := by decide +kernel
theorem dX11_restore_38 : decode cX11_restore 38 = .ok (.aload_n 0, 1) := by decide +kernel
theorem dX11_restore_39 : decode cX11_restore 39 = .ok (.invokevirtual 322, 3) := by decide +kernel
theorem dX11_restore_42 : decode cX11_restore 42 = .ok (.iconst 1, 1) := by decide +kernel
theorem dX11_restore_43 : decode cX11_restore 43 = .ok (.ireturn, 1) := by decide +kernel
theorem dX11_toldOf_0 : decode cX11_toldOf 0 = .ok (.aload_n 0, 1) := by decide +kernel
theorem dX11_toldOf_1 : decode cX11_toldOf 1 = .ok (.iload_n 1, 1) := by decide +kernel
theorem dX11_toldOf_2 : decode cX11_toldOf 2 = .ok (.invokevirtual 87, 3) := by decide +kernel
theorem dX11_toldOf_5 : decode cX11_toldOf 5 = .ok (.ifCond .ne 6, 3) := by decide +kernel
theorem dX11_toldOf_8 : decode cX11_toldOf 8 = .ok (.bipush (-2), 2) := by decide +kernel
theorem dX11_toldOf_10 : decode cX11_toldOf 10 = .ok (.ireturn, 1) := by decide +kernel
theorem dX11_toldOf_11 : decode cX11_toldOf 11 = .ok (.iload_n 2, 1) := by decide +kernel
theorem dX11_toldOf_12 : decode cX11_toldOf 12 = .ok (.ifCond .ne 12, 3) := by decide +kernel
theorem dX11_toldOf_15 : decode cX11_toldOf 15 = .ok (.aload_n 0, 1) := by decide +kernel
theorem dX11_toldOf_16 : decode cX11_toldOf 16 = .ok (.getfield 7, 3) := by decide +kernel
theorem dX11_toldOf_19 : decode cX11_toldOf 19 = .ok (.iload_n 1, 1) := by decide +kernel
theorem dX11_toldOf_20 : decode cX11_toldOf 20 = .ok (.iaload, 1) := by decide +kernel
theorem dX11_toldOf_21 : decode cX11_toldOf 21 = .ok (.goto 47, 3) := by decide +kernel
theorem dX11_toldOf_24 : decode cX11_toldOf 24 = .ok (.iload_n 2, 1) := by decide +kernel
theorem dX11_toldOf_25 : decode cX11_toldOf 25 = .ok (.iconst 1, 1) := by decide +kernel
theorem dX11_toldOf_26 : decode cX11_toldOf 26 = .ok (.if_icmp .ne 12, 3) := by decide +kernel
theorem dX11_toldOf_29 : decode cX11_toldOf 29 = .ok (.aload_n 0, 1) := by decide +kernel
theorem dX11_toldOf_30 : decode cX11_toldOf 30 = .ok (.getfield 13, 3) := by decide +kernel
theorem dX11_toldOf_33 : decode cX11_toldOf 33 = .ok (.iload_n 1, 1) := by decide +kernel
theorem dX11_toldOf_34 : decode cX11_toldOf 34 = .ok (.iaload, 1) := by decide +kernel
theorem dX11_toldOf_35 : decode cX11_toldOf 35 = .ok (.goto 33, 3) := by decide +kernel
theorem dX11_toldOf_38 : decode cX11_toldOf 38 = .ok (.iload_n 2, 1) := by decide +kernel
theorem dX11_toldOf_39 : decode cX11_toldOf 39 = .ok (.iconst 2, 1) := by decide +kernel
theorem dX11_toldOf_40 : decode cX11_toldOf 40 = .ok (.if_icmp .ne 12, 3) := by decide +kernel
theorem dX11_toldOf_43 : decode cX11_toldOf 43 = .ok (.aload_n 0, 1) := by decide +kernel
theorem dX11_toldOf_44 : decode cX11_toldOf 44 = .ok (.getfield 16, 3) := by decide +kernel
theorem dX11_toldOf_47 : decode cX11_toldOf 47 = .ok (.iload_n 1, 1) := by decide +kernel
theorem dX11_toldOf_48 : decode cX11_toldOf 48 = .ok (.iaload, 1) := by decide +kernel
theorem dX11_toldOf_49 : decode cX11_toldOf 49 = .ok (.goto 19, 3) := by decide +kernel
theorem dX11_toldOf_52 : decode cX11_toldOf 52 = .ok (.iload_n 2, 1) := by decide +kernel
theorem dX11_toldOf_53 : decode cX11_toldOf 53 = .ok (.iconst 3, 1) := by decide +kernel
theorem dX11_toldOf_54 : decode cX11_toldOf 54 = .ok (.if_icmp .ne 12, 3) := by decide +kernel
theorem dX11_toldOf_57 : decode cX11_toldOf 57 = .ok (.aload_n 0, 1) := by decide +kernel
theorem dX11_toldOf_58 : decode cX11_toldOf 58 = .ok (.getfield 19, 3) := by decide +kernel
theorem dX11_toldOf_61 : decode cX11_toldOf 61 = .ok (.iload_n 1, 1) := by decide +kernel
theorem dX11_toldOf_62 : decode cX11_toldOf 62 = .ok (.iaload, 1) := by decide +kernel
theorem dX11_toldOf_63 : decode cX11_toldOf 63 = .ok (.goto 5, 3) := by decide +kernel
theorem dX11_toldOf_66 : decode cX11_toldOf 66 = .ok (.bipush (-2), 2) := by decide +kernel
theorem dX11_toldOf_68 : decode cX11_toldOf 68 = .ok (.ireturn, 1) := by decide +kernel
theorem dX11_told_0 : decode cX11_told 0 = .ok (.iload_n 1, 1) := by decide +kernel
theorem dX11_told_1 : decode cX11_told 1 = .ok (.i2l, 1) := by decide +kernel
theorem dX11_told_2 : decode cX11_told 2 = .ok (.ldc2_w 325, 3) := by decide +kernel
theorem dX11_told_5 : decode cX11_told 5 = .ok (.ldc2_w 327, 3) := by decide +kernel
theorem dX11_told_8 : decode cX11_told 8 = .ok (.invokestatic 78, 3) := by decide +kernel
theorem dX11_told_11 : decode cX11_told 11 = .ok (.ifCond .eq 13, 3) := by decide +kernel
theorem dX11_told_14 : decode cX11_told 14 = .ok (.aload_n 0, 1) := by decide +kernel
theorem dX11_told_15 : decode cX11_told 15 = .ok (.getfield 22, 3) := by decide +kernel
theorem dX11_told_18 : decode cX11_told 18 = .ok (.iload_n 1, 1) := by decide +kernel
theorem dX11_told_19 : decode cX11_told 19 = .ok (.bipush 100, 2) := by decide +kernel
theorem dX11_told_21 : decode cX11_told 21 = .ok (.isub, 1) := by decide +kernel
theorem dX11_told_22 : decode cX11_told 22 = .ok (.iaload, 1) := by decide +kernel
theorem dX11_told_23 : decode cX11_told 23 = .ok (.ireturn, 1) := by decide +kernel
theorem dX11_told_24 : decode cX11_told 24 = .ok (.iload_n 1, 1) := by decide +kernel
theorem dX11_told_25 : decode cX11_told 25 = .ok (.i2l, 1) := by decide +kernel
theorem dX11_told_26 : decode cX11_told 26 = .ok (.ldc2_w 329, 3) := by decide +kernel
theorem dX11_told_29 : decode cX11_told 29 = .ok (.ldc2_w 331, 3) := by decide +kernel
theorem dX11_told_32 : decode cX11_told 32 = .ok (.invokestatic 78, 3) := by decide +kernel
theorem dX11_told_35 : decode cX11_told 35 = .ok (.ifCond .eq 18, 3) := by decide +kernel
theorem dX11_told_38 : decode cX11_told 38 = .ok (.aload_n 0, 1) := by decide +kernel
theorem dX11_told_39 : decode cX11_told 39 = .ok (.iload_n 1, 1) := by decide +kernel
theorem dX11_told_40 : decode cX11_told 40 = .ok (.bipush 10, 2) := by decide +kernel
theorem dX11_told_42 : decode cX11_told 42 = .ok (.idiv, 1) := by decide +kernel
theorem dX11_told_43 : decode cX11_told 43 = .ok (.iconst 1, 1) := by decide +kernel
theorem dX11_told_44 : decode cX11_told 44 = .ok (.isub, 1) := by decide +kernel
theorem dX11_told_45 : decode cX11_told 45 = .ok (.iload_n 1, 1) := by decide +kernel
theorem dX11_told_46 : decode cX11_told 46 = .ok (.bipush 10, 2) := by decide +kernel
theorem dX11_told_48 : decode cX11_told 48 = .ok (.irem, 1) := by decide +kernel
theorem dX11_told_49 : decode cX11_told 49 = .ok (.invokevirtual 333, 3) := by decide +kernel
theorem dX11_told_52 : decode cX11_told 52 = .ok (.ireturn, 1) := by decide +kernel
theorem dX11_told_53 : decode cX11_told 53 = .ok (.iload_n 1, 1) := by decide +kernel
theorem dX11_told_54 : decode cX11_told 54 = .ok (.tableswitch 86 0 7 #[46, 51, 56, 61, 66, 71, 76, 81], 46) := by decide +kernel
theorem dX11_told_100 : decode cX11_told 100 = .ok (.aload_n 0, 1) := by decide +kernel
theorem dX11_told_101 : decode cX11_told 101 = .ok (.getfield 128, 3) := by decide +kernel
theorem dX11_told_104 : decode cX11_told 104 = .ok (.ireturn, 1) := by decide +kernel
theorem dX11_told_105 : decode cX11_told 105 = .ok (.aload_n 0, 1) := by decide +kernel
theorem dX11_told_106 : decode cX11_told 106 = .ok (.getfield 84, 3) := by decide +kernel
theorem dX11_told_109 : decode cX11_told 109 = .ok (.ireturn, 1) := by decide +kernel
theorem dX11_told_110 : decode cX11_told 110 = .ok (.aload_n 0, 1) := by decide +kernel
theorem dX11_told_111 : decode cX11_told 111 = .ok (.getfield 118, 3) := by decide +kernel
theorem dX11_told_114 : decode cX11_told 114 = .ok (.ireturn, 1) := by decide +kernel
theorem dX11_told_115 : decode cX11_told 115 = .ok (.aload_n 0, 1) := by decide +kernel
theorem dX11_told_116 : decode cX11_told 116 = .ok (.getfield 72, 3) := by decide +kernel
theorem dX11_told_119 : decode cX11_told 119 = .ok (.ireturn, 1) := by decide +kernel
theorem dX11_told_120 : decode cX11_told 120 = .ok (.aload_n 0, 1) := by decide +kernel
theorem dX11_told_121 : decode cX11_told 121 = .ok (.getfield 121, 3) := by decide +kernel
theorem dX11_told_124 : decode cX11_told 124 = .ok (.ireturn, 1) := by decide +kernel
theorem dX11_told_125 : decode cX11_told 125 = .ok (.aload_n 0, 1) := by decide +kernel
theorem dX11_told_126 : decode cX11_told 126 = .ok (.getfield 158, 3) := by decide +kernel
theorem dX11_told_129 : decode cX11_told 129 = .ok (.ireturn, 1) := by decide +kernel
theorem dX11_told_130 : decode cX11_told 130 = .ok (.aload_n 0, 1) := by decide +kernel
theorem dX11_told_131 : decode cX11_told 131 = .ok (.getfield 268, 3) := by decide +kernel
theorem dX11_told_134 : decode cX11_told 134 = .ok (.ireturn, 1) := by decide +kernel
theorem dX11_told_135 : decode cX11_told 135 = .ok (.aload_n 0, 1) := by decide +kernel
theorem dX11_told_136 : decode cX11_told 136 = .ok (.getfield 105, 3) := by decide +kernel
theorem dX11_told_139 : decode cX11_told 139 = .ok (.ireturn, 1) := by decide +kernel
theorem dX11_told_140 : decode cX11_told 140 = .ok (.bipush (-2), 2) := by decide +kernel
theorem dX11_told_142 : decode cX11_told 142 = .ok (.ireturn, 1) := by decide +kernel
theorem dJ6_bitCount_0f7a4_0 : decode cJ6_bitCount_0f7a4 0 = .ok (.iload_n 0, 1) := by decide +kernel
theorem dJ6_bitCount_0f7a4_1 : decode cJ6_bitCount_0f7a4 1 = .ok (.iload_n 0, 1) := by decide +kernel
theorem dJ6_bitCount_0f7a4_2 : decode cJ6_bitCount_0f7a4 2 = .ok (.iconst 1, 1) := by decide +kernel
theorem dJ6_bitCount_0f7a4_3 : decode cJ6_bitCount_0f7a4 3 = .ok (.iushr, 1) := by decide +kernel
theorem dJ6_bitCount_0f7a4_4 : decode cJ6_bitCount_0f7a4 4 = .ok (.ldc_w 265, 3) := by decide +kernel
theorem dJ6_bitCount_0f7a4_7 : decode cJ6_bitCount_0f7a4 7 = .ok (.iand, 1) := by decide +kernel
theorem dJ6_bitCount_0f7a4_8 : decode cJ6_bitCount_0f7a4 8 = .ok (.isub, 1) := by decide +kernel
theorem dJ6_bitCount_0f7a4_9 : decode cJ6_bitCount_0f7a4 9 = .ok (.istore_n 0, 1) := by decide +kernel
theorem dJ6_bitCount_0f7a4_10 : decode cJ6_bitCount_0f7a4 10 = .ok (.iload_n 0, 1) := by decide +kernel
theorem dJ6_bitCount_0f7a4_11 : decode cJ6_bitCount_0f7a4 11 = .ok (.ldc_w 266, 3) := by decide +kernel
theorem dJ6_bitCount_0f7a4_14 : decode cJ6_bitCount_0f7a4 14 = .ok (.iand, 1) := by decide +kernel
theorem dJ6_bitCount_0f7a4_15 : decode cJ6_bitCount_0f7a4 15 = .ok (.iload_n 0, 1) := by decide +kernel
theorem dJ6_bitCount_0f7a4_16 : decode cJ6_bitCount_0f7a4 16 = .ok (.iconst 2, 1) := by decide +kernel
theorem dJ6_bitCount_0f7a4_17 : decode cJ6_bitCount_0f7a4 17 = .ok (.iushr, 1) := by decide +kernel
theorem dJ6_bitCount_0f7a4_18 : decode cJ6_bitCount_0f7a4 18 = .ok (.ldc_w 266, 3) := by decide +kernel
theorem dJ6_bitCount_0f7a4_21 : decode cJ6_bitCount_0f7a4 21 = .ok (.iand, 1) := by decide +kernel
theorem dJ6_bitCount_0f7a4_22 : decode cJ6_bitCount_0f7a4 22 = .ok (.iadd, 1) := by decide +kernel
theorem dJ6_bitCount_0f7a4_23 : decode cJ6_bitCount_0f7a4 23 = .ok (.istore_n 0, 1) := by decide +kernel
theorem dJ6_bitCount_0f7a4_24 : decode cJ6_bitCount_0f7a4 24 = .ok (.iload_n 0, 1) := by decide +kernel
theorem dJ6_bitCount_0f7a4_25 : decode cJ6_bitCount_0f7a4 25 = .ok (.iload_n 0, 1) := by decide +kernel
theorem dJ6_bitCount_0f7a4_26 : decode cJ6_bitCount_0f7a4 26 = .ok (.iconst 4, 1) := by decide +kernel
theorem dJ6_bitCount_0f7a4_27 : decode cJ6_bitCount_0f7a4 27 = .ok (.iushr, 1) := by decide +kernel
theorem dJ6_bitCount_0f7a4_28 : decode cJ6_bitCount_0f7a4 28 = .ok (.iadd, 1) := by decide +kernel
theorem dJ6_bitCount_0f7a4_29 : decode cJ6_bitCount_0f7a4 29 = .ok (.ldc_w 267, 3) := by decide +kernel
theorem dJ6_bitCount_0f7a4_32 : decode cJ6_bitCount_0f7a4 32 = .ok (.iand, 1) := by decide +kernel
theorem dJ6_bitCount_0f7a4_33 : decode cJ6_bitCount_0f7a4 33 = .ok (.istore_n 0, 1) := by decide +kernel
theorem dJ6_bitCount_0f7a4_34 : decode cJ6_bitCount_0f7a4 34 = .ok (.iload_n 0, 1) := by decide +kernel
theorem dJ6_bitCount_0f7a4_35 : decode cJ6_bitCount_0f7a4 35 = .ok (.iload_n 0, 1) := by decide +kernel
theorem dJ6_bitCount_0f7a4_36 : decode cJ6_bitCount_0f7a4 36 = .ok (.bipush 8, 2) := by decide +kernel
theorem dJ6_bitCount_0f7a4_38 : decode cJ6_bitCount_0f7a4 38 = .ok (.iushr, 1) := by decide +kernel
theorem dJ6_bitCount_0f7a4_39 : decode cJ6_bitCount_0f7a4 39 = .ok (.iadd, 1) := by decide +kernel
theorem dJ6_bitCount_0f7a4_40 : decode cJ6_bitCount_0f7a4 40 = .ok (.istore_n 0, 1) := by decide +kernel
theorem dJ6_bitCount_0f7a4_41 : decode cJ6_bitCount_0f7a4 41 = .ok (.iload_n 0, 1) := by decide +kernel
theorem dJ6_bitCount_0f7a4_42 : decode cJ6_bitCount_0f7a4 42 = .ok (.iload_n 0, 1) := by decide +kernel
theorem dJ6_bitCount_0f7a4_43 : decode cJ6_bitCount_0f7a4 43 = .ok (.bipush 16, 2) := by decide +kernel
theorem dJ6_bitCount_0f7a4_45 : decode cJ6_bitCount_0f7a4 45 = .ok (.iushr, 1) := by decide +kernel
theorem dJ6_bitCount_0f7a4_46 : decode cJ6_bitCount_0f7a4 46 = .ok (.iadd, 1) := by decide +kernel
theorem dJ6_bitCount_0f7a4_47 : decode cJ6_bitCount_0f7a4 47 = .ok (.istore_n 0, 1) := by decide +kernel
theorem dJ6_bitCount_0f7a4_48 : decode cJ6_bitCount_0f7a4 48 = .ok (.iload_n 0, 1) := by decide +kernel
theorem dJ6_bitCount_0f7a4_49 : decode cJ6_bitCount_0f7a4 49 = .ok (.bipush 63, 2) := by decide +kernel
theorem dJ6_bitCount_0f7a4_51 : decode cJ6_bitCount_0f7a4 51 = .ok (.iand, 1) := by decide +kernel
theorem dJ6_bitCount_0f7a4_52 : decode cJ6_bitCount_0f7a4 52 = .ok (.ireturn, 1) := by decide +kernel
theorem dJ9_max_7cf53_0 : decode cJ9_max_7cf53 0 = .ok (.iload_n 0, 1) := by decide +kernel
theorem dJ9_max_7cf53_1 : decode cJ9_max_7cf53 1 = .ok (.iload_n 1, 1) := by decide +kernel
theorem dJ9_max_7cf53_2 : decode cJ9_max_7cf53 2 = .ok (.if_icmp .lt 7, 3) := by decide +kernel
theorem dJ9_max_7cf53_5 : decode cJ9_max_7cf53 5 = .ok (.iload_n 0, 1) := by decide +kernel
theorem dJ9_max_7cf53_6 : decode cJ9_max_7cf53 6 = .ok (.goto 4, 3) := by decide +kernel
theorem dJ9_max_7cf53_9 : decode cJ9_max_7cf53 9 = .ok (.iload_n 1, 1) := by decide +kernel
theorem dJ9_max_7cf53_10 : decode cJ9_max_7cf53 10 = .ok (.ireturn, 1) := by decide +kernel
theorem dJ9_min_7cf53_0 : decode cJ9_min_7cf53 0 = .ok (.iload_n 0, 1) := by decide +kernel
theorem dJ9_min_7cf53_1 : decode cJ9_min_7cf53 1 = .ok (.iload_n 1, 1) := by decide +kernel
theorem dJ9_min_7cf53_2 : decode cJ9_min_7cf53 2 = .ok (.if_icmp .gt 7, 3) := by decide +kernel
theorem dJ9_min_7cf53_5 : decode cJ9_min_7cf53 5 = .ok (.iload_n 0, 1) := by decide +kernel
theorem dJ9_min_7cf53_6 : decode cJ9_min_7cf53 6 = .ok (.goto 4, 3) := by decide +kernel
theorem dJ9_min_7cf53_9 : decode cJ9_min_7cf53 9 = .ok (.iload_n 1, 1) := by decide +kernel
theorem dJ9_min_7cf53_10 : decode cJ9_min_7cf53 10 = .ok (.ireturn, 1) := by decide +kernel
theorem dL_law_0 : decode cL_law 0 = .ok (.new 7, 3) := by decide +kernel
theorem dL_law_3 : decode cL_law 3 = .ok (.dup, 1) := by decide +kernel
theorem dL_law_4 : decode cL_law 4 = .ok (.invokespecial 9, 3) := by decide +kernel
theorem dL_law_7 : decode cL_law 7 = .ok (.astore_n 1, 1) := by decide +kernel
theorem dL_law_8 : decode cL_law 8 = .ok (.new 10, 3) := by decide +kernel
theorem dL_law_11 : decode cL_law 11 = .ok (.dup, 1) := by decide +kernel
theorem dL_law_12 : decode cL_law 12 = .ok (.invokespecial 12, 3) := by decide +kernel
theorem dL_law_15 : decode cL_law 15 = .ok (.astore_n 2, 1) := by decide +kernel
theorem dL_law_16 : decode cL_law 16 = .ok (.iconst 0, 1) := by decide +kernel
theorem dL_law_17 : decode cL_law 17 = .ok (.istore_n 3, 1) := by decide +kernel
theorem dL_law_18 : decode cL_law 18 = .ok (.iload_n 3, 1) := by decide +kernel
theorem dL_law_19 : decode cL_law 19 = .ok (.aload_n 0, 1) := by decide +kernel
theorem dL_law_20 : decode cL_law 20 = .ok (.arraylength, 1) := by decide +kernel
theorem dL_law_21 : decode cL_law 21 = .ok (.iconst 5, 1) := by decide +kernel
theorem dL_law_22 : decode cL_law 22 = .ok (.isub, 1) := by decide +kernel
theorem dL_law_23 : decode cL_law 23 = .ok (.if_icmp .gt 948, 3) := by decide +kernel
theorem dL_law_26 : decode cL_law 26 = .ok (.aload_n 0, 1) := by decide +kernel
theorem dL_law_27 : decode cL_law 27 = .ok (.iload_n 3, 1) := by decide +kernel
theorem dL_law_28 : decode cL_law 28 = .ok (.iaload, 1) := by decide +kernel
theorem dL_law_29 : decode cL_law 29 = .ok (.bipush 31, 2) := by decide +kernel
theorem dL_law_31 : decode cL_law 31 = .ok (.iand, 1) := by decide +kernel
theorem dL_law_32 : decode cL_law 32 = .ok (.tableswitch 933 0 27 #[128, 181, 204, 237, 270, 293, 306, 319, 342, 375, 398, 421, 444, 457, 490, 533, 566, 599, 632, 665, 678, 701, 724, 778, 821, 864, 887, 910], 128) := by decide +kernel
theorem dL_law_160 : decode cL_law 160 = .ok (.aload_n 1, 1) := by decide +kernel
theorem dL_law_161 : decode cL_law 161 = .ok (.aload_n 0, 1) := by decide +kernel
theorem dL_law_162 : decode cL_law 162 = .ok (.iload_n 3, 1) := by decide +kernel
theorem dL_law_163 : decode cL_law 163 = .ok (.iconst 1, 1) := by decide +kernel
theorem dL_law_164 : decode cL_law 164 = .ok (.iadd, 1) := by decide +kernel
theorem dL_law_165 : decode cL_law 165 = .ok (.iaload, 1) := by decide +kernel
theorem dL_law_166 : decode cL_law 166 = .ok (.aload_n 0, 1) := by decide +kernel
theorem dL_law_167 : decode cL_law 167 = .ok (.iload_n 3, 1) := by decide +kernel
theorem dL_law_168 : decode cL_law 168 = .ok (.iconst 2, 1) := by decide +kernel
theorem dL_law_169 : decode cL_law 169 = .ok (.iadd, 1) := by decide +kernel
theorem dL_law_170 : decode cL_law 170 = .ok (.iaload, 1) := by decide +kernel
theorem dL_law_171 : decode cL_law 171 = .ok (.aload_n 0, 1) := by decide +kernel
theorem dL_law_172 : decode cL_law 172 = .ok (.iload_n 3, 1) := by decide +kernel
theorem dL_law_173 : decode cL_law 173 = .ok (.iconst 3, 1) := by decide +kernel
theorem dL_law_174 : decode cL_law 174 = .ok (.iadd, 1) := by decide +kernel
theorem dL_law_175 : decode cL_law 175 = .ok (.iaload, 1) := by decide +kernel
theorem dL_law_176 : decode cL_law 176 = .ok (.aload_n 0, 1) := by decide +kernel
theorem dL_law_177 : decode cL_law 177 = .ok (.iload_n 3, 1) := by decide +kernel
theorem dL_law_178 : decode cL_law 178 = .ok (.iconst 4, 1) := by decide +kernel
theorem dL_law_179 : decode cL_law 179 = .ok (.iadd, 1) := by decide +kernel
theorem dL_law_180 : decode cL_law 180 = .ok (.iaload, 1) := by decide +kernel
theorem dL_law_181 : decode cL_law 181 = .ok (.invokevirtual 13, 3) := by decide +kernel
theorem dL_law_184 : decode cL_law 184 = .ok (.aload_n 2, 1) := by decide +kernel
theorem dL_law_185 : decode cL_law 185 = .ok (.aload_n 0, 1) := by decide +kernel
theorem dL_law_186 : decode cL_law 186 = .ok (.iload_n 3, 1) := by decide +kernel
theorem dL_law_187 : decode cL_law 187 = .ok (.iconst 1, 1) := by decide +kernel
theorem dL_law_188 : decode cL_law 188 = .ok (.iadd, 1) := by decide +kernel
theorem dL_law_189 : decode cL_law 189 = .ok (.iaload, 1) := by decide +kernel
theorem dL_law_190 : decode cL_law 190 = .ok (.aload_n 0, 1) := by decide +kernel
theorem dL_law_191 : decode cL_law 191 = .ok (.iload_n 3, 1) := by decide +kernel
theorem dL_law_192 : decode cL_law 192 = .ok (.iconst 2, 1) := by decide +kernel
theorem dL_law_193 : decode cL_law 193 = .ok (.iadd, 1) := by decide +kernel
theorem dL_law_194 : decode cL_law 194 = .ok (.iaload, 1) := by decide +kernel
theorem dL_law_195 : decode cL_law 195 = .ok (.aload_n 0, 1) := by decide +kernel
theorem dL_law_196 : decode cL_law 196 = .ok (.iload_n 3, 1) := by decide +kernel
theorem dL_law_197 : decode cL_law 197 = .ok (.iconst 3, 1) := by decide +kernel
theorem dL_law_198 : decode cL_law 198 = .ok (.iadd, 1) := by decide +kernel
theorem dL_law_199 : decode cL_law 199 = .ok (.iaload, 1) := by decide +kernel
theorem dL_law_200 : decode cL_law 200 = .ok (.aload_n 0, 1) := by decide +kernel
theorem dL_law_201 : decode cL_law 201 = .ok (.iload_n 3, 1) := by decide +kernel
theorem dL_law_202 : decode cL_law 202 = .ok (.iconst 4, 1) := by decide +kernel
theorem dL_law_203 : decode cL_law 203 = .ok (.iadd, 1) := by decide +kernel
theorem dL_law_204 : decode cL_law 204 = .ok (.iaload, 1) := by decide +kernel
theorem dL_law_205 : decode cL_law 205 = .ok (.invokevirtual 17, 3) := by decide +kernel
theorem dL_law_208 : decode cL_law 208 = .ok (.if_icmp .eq 757, 3) := by decide +kernel
theorem dL_law_211 : decode cL_law 211 = .ok (.iconst 0, 1) := by decide +kernel
theorem dL_law_212 : decode cL_law 212 = .ok (.ireturn, 1) := by decide +kernel
theorem dL_law_213 : decode cL_law 213 = .ok (.aload_n 1, 1) := by decide +kernel
theorem dL_law_214 : decode cL_law 214 = .ok (.aload_n 0, 1) := by decide +kernel
theorem dL_law_215 : decode cL_law 215 = .ok (.iload_n 3, 1) := by decide +kernel
theorem dL_law_216 : decode cL_law 216 = .ok (.iconst 1, 1) := by decide +kernel
theorem dL_law_217 : decode cL_law 217 = .ok (.iadd, 1) := by decide +kernel
theorem dL_law_218 : decode cL_law 218 = .ok (.iaload, 1) := by decide +kernel
theorem dL_law_219 : decode cL_law 219 = .ok (.invokevirtual 18, 3) := by decide +kernel
theorem dL_law_222 : decode cL_law 222 = .ok (.aload_n 2, 1) := by decide +kernel
theorem dL_law_223 : decode cL_law 223 = .ok (.aload_n 0, 1) := by decide +kernel
theorem dL_law_224 : decode cL_law 224 = .ok (.iload_n 3, 1) := by decide +kernel
theorem dL_law_225 : decode cL_law 225 = .ok (.iconst 1, 1) := by decide +kernel
theorem dL_law_226 : decode cL_law 226 = .ok (.iadd, 1) := by decide +kernel
theorem dL_law_227 : decode cL_law 227 = .ok (.iaload, 1) := by decide +kernel
theorem dL_law_228 : decode cL_law 228 = .ok (.invokevirtual 22, 3) := by decide +kernel
theorem dL_law_231 : decode cL_law 231 = .ok (.if_icmp .eq 734, 3) := by decide +kernel
theorem dL_law_234 : decode cL_law 234 = .ok (.iconst 0, 1) := by decide +kernel
theorem dL_law_235 : decode cL_law 235 = .ok (.ireturn, 1) := by decide +kernel
theorem dL_law_236 : decode cL_law 236 = .ok (.aload_n 1, 1) := by decide +kernel
theorem dL_law_237 : decode cL_law 237 = .ok (.aload_n 0, 1) := by decide +kernel
theorem dL_law_238 : decode cL_law 238 = .ok (.iload_n 3, 1) := by decide +kernel
theorem dL_law_239 : decode cL_law 239 = .ok (.iconst 1, 1) := by decide +kernel
theorem dL_law_240 : decode cL_law 240 = .ok (.iadd, 1) := by decide +kernel
theorem dL_law_241 : decode cL_law 241 = .ok (.iaload, 1) := by decide +kernel
theorem dL_law_242 : decode cL_law 242 = .ok (.aload_n 0, 1) := by decide +kernel
theorem dL_law_243 : decode cL_law 243 = .ok (.iload_n 3, 1) := by decide +kernel
theorem dL_law_244 : decode cL_law 244 = .ok (.iconst 2, 1) := by decide +kernel
theorem dL_law_245 : decode cL_law 245 = .ok (.iadd, 1) := by decide +kernel
theorem dL_law_246 : decode cL_law 246 = .ok (.iaload, 1) := by decide +kernel
theorem dL_law_247 : decode cL_law 247 = .ok (.invokevirtual 23, 3) := by decide +kernel
theorem dL_law_250 : decode cL_law 250 = .ok (.aload_n 2, 1) := by decide +kernel
theorem dL_law_251 : decode cL_law 251 = .ok (.aload_n 0, 1) := by decide +kernel
theorem dL_law_252 : decode cL_law 252 = .ok (.iload_n 3, 1) := by decide +kernel
theorem dL_law_253 : decode cL_law 253 = .ok (.iconst 1, 1) := by decide +kernel
theorem dL_law_254 : decode cL_law 254 = .ok (.iadd, 1) := by decide +kernel
theorem dL_law_255 : decode cL_law 255 = .ok (.iaload, 1) := by decide +kernel
theorem dL_law_256 : decode cL_law 256 = .ok (.aload_n 0, 1) := by decide +kernel
theorem dL_law_257 : decode cL_law 257 = .ok (.iload_n 3, 1) := by decide +kernel
theorem dL_law_258 : decode cL_law 258 = .ok (.iconst 2, 1) := by decide +kernel
theorem dL_law_259 : decode cL_law 259 = .ok (.iadd, 1) := by decide +kernel
theorem dL_law_260 : decode cL_law 260 = .ok (.iaload, 1) := by decide +kernel
theorem dL_law_261 : decode cL_law 261 = .ok (.invokevirtual 27, 3) := by decide +kernel
theorem dL_law_264 : decode cL_law 264 = .ok (.if_icmp .eq 701, 3) := by decide +kernel
theorem dL_law_267 : decode cL_law 267 = .ok (.iconst 0, 1) := by decide +kernel
theorem dL_law_268 : decode cL_law 268 = .ok (.ireturn, 1) := by decide +kernel
theorem dL_law_269 : decode cL_law 269 = .ok (.aload_n 1, 1) := by decide +kernel
theorem dL_law_270 : decode cL_law 270 = .ok (.aload_n 0, 1) := by decide +kernel
theorem dL_law_271 : decode cL_law 271 = .ok (.iload_n 3, 1) := by decide +kernel
theorem dL_law_272 : decode cL_law 272 = .ok (.iconst 1, 1) := by decide +kernel
theorem dL_law_273 : decode cL_law 273 = .ok (.iadd, 1) := by decide +kernel
theorem dL_law_274 : decode cL_law 274 = .ok (.iaload, 1) := by decide +kernel
theorem dL_law_275 : decode cL_law 275 = .ok (.aload_n 0, 1) := by decide +kernel
theorem dL_law_276 : decode cL_law 276 = .ok (.iload_n 3, 1) := by decide +kernel
theorem dL_law_277 : decode cL_law 277 = .ok (.iconst 2, 1) := by decide +kernel
theorem dL_law_278 : decode cL_law 278 = .ok (.iadd, 1) := by decide +kernel
theorem dL_law_279 : decode cL_law 279 = .ok (.iaload, 1) := by decide +kernel
theorem dL_law_280 : decode cL_law 280 = .ok (.invokevirtual 28, 3) := by decide +kernel
theorem dL_law_283 : decode cL_law 283 = .ok (.aload_n 2, 1) := by decide +kernel
theorem dL_law_284 : decode cL_law 284 = .ok (.aload_n 0, 1) := by decide +kernel
theorem dL_law_285 : decode cL_law 285 = .ok (.iload_n 3, 1) := by decide +kernel
theorem dL_law_286 : decode cL_law 286 = .ok (.iconst 1, 1) := by decide +kernel
theorem dL_law_287 : decode cL_law 287 = .ok (.iadd, 1) := by decide +kernel
theorem dL_law_288 : decode cL_law 288 = .ok (.iaload, 1) := by decide +kernel
theorem dL_law_289 : decode cL_law 289 = .ok (.aload_n 0, 1) := by decide +kernel
theorem dL_law_290 : decode cL_law 290 = .ok (.iload_n 3, 1) := by decide +kernel
theorem dL_law_291 : decode cL_law 291 = .ok (.iconst 2, 1) := by decide +kernel
theorem dL_law_292 : decode cL_law 292 = .ok (.iadd, 1) := by decide +kernel
theorem dL_law_293 : decode cL_law 293 = .ok (.iaload, 1) := by decide +kernel
theorem dL_law_294 : decode cL_law 294 = .ok (.invokevirtual 31, 3) := by decide +kernel
theorem dL_law_297 : decode cL_law 297 = .ok (.if_icmp .eq 668, 3) := by decide +kernel
theorem dL_law_300 : decode cL_law 300 = .ok (.iconst 0, 1) := by decide +kernel
theorem dL_law_301 : decode cL_law 301 = .ok (.ireturn, 1) := by decide +kernel
theorem dL_law_302 : decode cL_law 302 = .ok (.aload_n 1, 1) := by decide +kernel
theorem dL_law_303 : decode cL_law 303 = .ok (.aload_n 0, 1) := by decide +kernel
theorem dL_law_304 : decode cL_law 304 = .ok (.iload_n 3, 1) := by decide +kernel
theorem dL_law_305 : decode cL_law 305 = .ok (.iconst 1, 1) := by decide +kernel
theorem dL_law_306 : decode cL_law 306 = .ok (.iadd, 1) := by decide +kernel
theorem dL_law_307 : decode cL_law 307 = .ok (.iaload, 1) := by decide +kernel
theorem dL_law_308 : decode cL_law 308 = .ok (.invokevirtual 32, 3) := by decide +kernel
theorem dL_law_311 : decode cL_law 311 = .ok (.aload_n 2, 1) := by decide +kernel
theorem dL_law_312 : decode cL_law 312 = .ok (.aload_n 0, 1) := by decide +kernel
theorem dL_law_313 : decode cL_law 313 = .ok (.iload_n 3, 1) := by decide +kernel
theorem dL_law_314 : decode cL_law 314 = .ok (.iconst 1, 1) := by decide +kernel
theorem dL_law_315 : decode cL_law 315 = .ok (.iadd, 1) := by decide +kernel
theorem dL_law_316 : decode cL_law 316 = .ok (.iaload, 1) := by decide +kernel
theorem dL_law_317 : decode cL_law 317 = .ok (.invokevirtual 35, 3) := by decide +kernel
theorem dL_law_320 : decode cL_law 320 = .ok (.if_icmp .eq 645, 3) := by decide +kernel
theorem dL_law_323 : decode cL_law 323 = .ok (.iconst 0, 1) := by decide +kernel
theorem dL_law_324 : decode cL_law 324 = .ok (.ireturn, 1) := by decide +kernel
theorem dL_law_325 : decode cL_law 325 = .ok (.aload_n 1, 1) := by decide +kernel
theorem dL_law_326 : decode cL_law 326 = .ok (.invokevirtual 36, 3) := by decide +kernel
theorem dL_law_329 : decode cL_law 329 = .ok (.aload_n 2, 1) := by decide +kernel
theorem dL_law_330 : decode cL_law 330 = .ok (.invokevirtual 40, 3) := by decide +kernel
theorem dL_law_333 : decode cL_law 333 = .ok (.if_icmp .eq 632, 3) := by decide +kernel
theorem dL_law_336 : decode cL_law 336 = .ok (.iconst 0, 1) := by decide +kernel
theorem dL_law_337 : decode cL_law 337 = .ok (.ireturn, 1) := by decide +kernel
theorem dL_law_338 : decode cL_law 338 = .ok (.aload_n 1, 1) := by decide +kernel
theorem dL_law_339 : decode cL_law 339 = .ok (.invokevirtual 41, 3) := by decide +kernel
theorem dL_law_342 : decode cL_law 342 = .ok (.aload_n 2, 1) := by decide +kernel
theorem dL_law_343 : decode cL_law 343 = .ok (.invokevirtual 44, 3) := by decide +kernel
theorem dL_law_346 : decode cL_law 346 = .ok (.if_icmp .eq 619, 3) := by decide +kernel
theorem dL_law_349 : decode cL_law 349 = .ok (.iconst 0, 1) := by decide +kernel
theorem dL_law_350 : decode cL_law 350 = .ok (.ireturn, 1) := by decide +kernel
theorem dL_law_351 : decode cL_law 351 = .ok (.aload_n 1, 1) := by decide +kernel
theorem dL_law_352 : decode cL_law 352 = .ok (.aload_n 0, 1) := by decide +kernel
theorem dL_law_353 : decode cL_law 353 = .ok (.iload_n 3, 1) := by decide +kernel
theorem dL_law_354 : decode cL_law 354 = .ok (.iconst 1, 1) := by decide +kernel
theorem dL_law_355 : decode cL_law 355 = .ok (.iadd, 1) := by decide +kernel
theorem dL_law_356 : decode cL_law 356 = .ok (.iaload, 1) := by decide +kernel
theorem dL_law_357 : decode cL_law 357 = .ok (.invokevirtual 45, 3) := by decide +kernel
theorem dL_law_360 : decode cL_law 360 = .ok (.aload_n 2, 1) := by decide +kernel
theorem dL_law_361 : decode cL_law 361 = .ok (.aload_n 0, 1) := by decide +kernel
theorem dL_law_362 : decode cL_law 362 = .ok (.iload_n 3, 1) := by decide +kernel
theorem dL_law_363 : decode cL_law 363 = .ok (.iconst 1, 1) := by decide +kernel
theorem dL_law_364 : decode cL_law 364 = .ok (.iadd, 1) := by decide +kernel
theorem dL_law_365 : decode cL_law 365 = .ok (.iaload, 1) := by decide +kernel
theorem dL_law_366 : decode cL_law 366 = .ok (.invokevirtual 48, 3) := by decide +kernel
theorem dL_law_369 : decode cL_law 369 = .ok (.if_icmp .eq 596, 3) := by decide +kernel
theorem dL_law_372 : decode cL_law 372 = .ok (.iconst 0, 1) := by decide +kernel
theorem dL_law_373 : decode cL_law 373 = .ok (.ireturn, 1) := by decide +kernel
theorem dL_law_374 : decode cL_law 374 = .ok (.aload_n 1, 1) := by decide +kernel
theorem dL_law_375 : decode cL_law 375 = .ok (.aload_n 0, 1) := by decide +kernel
theorem dL_law_376 : decode cL_law 376 = .ok (.iload_n 3, 1) := by decide +kernel
theorem dL_law_377 : decode cL_law 377 = .ok (.iconst 1, 1) := by decide +kernel
theorem dL_law_378 : decode cL_law 378 = .ok (.iadd, 1) := by decide +kernel
theorem dL_law_379 : decode cL_law 379 = .ok (.iaload, 1) := by decide +kernel
theorem dL_law_380 : decode cL_law 380 = .ok (.aload_n 0, 1) := by decide +kernel
theorem dL_law_381 : decode cL_law 381 = .ok (.iload_n 3, 1) := by decide +kernel
theorem dL_law_382 : decode cL_law 382 = .ok (.iconst 2, 1) := by decide +kernel
theorem dL_law_383 : decode cL_law 383 = .ok (.iadd, 1) := by decide +kernel
theorem dL_law_384 : decode cL_law 384 = .ok (.iaload, 1) := by decide +kernel
theorem dL_law_385 : decode cL_law 385 = .ok (.invokevirtual 49, 3) := by decide +kernel
theorem dL_law_388 : decode cL_law 388 = .ok (.aload_n 2, 1) := by decide +kernel
theorem dL_law_389 : decode cL_law 389 = .ok (.aload_n 0, 1) := by decide +kernel
theorem dL_law_390 : decode cL_law 390 = .ok (.iload_n 3, 1) := by decide +kernel
theorem dL_law_391 : decode cL_law 391 = .ok (.iconst 1, 1) := by decide +kernel
theorem dL_law_392 : decode cL_law 392 = .ok (.iadd, 1) := by decide +kernel
theorem dL_law_393 : decode cL_law 393 = .ok (.iaload, 1) := by decide +kernel
theorem dL_law_394 : decode cL_law 394 = .ok (.aload_n 0, 1) := by decide +kernel
theorem dL_law_395 : decode cL_law 395 = .ok (.iload_n 3, 1) := by decide +kernel
theorem dL_law_396 : decode cL_law 396 = .ok (.iconst 2, 1) := by decide +kernel
theorem dL_law_397 : decode cL_law 397 = .ok (.iadd, 1) := by decide +kernel
theorem dL_law_398 : decode cL_law 398 = .ok (.iaload, 1) := by decide +kernel
theorem dL_law_399 : decode cL_law 399 = .ok (.invokevirtual 52, 3) := by decide +kernel
theorem dL_law_402 : decode cL_law 402 = .ok (.if_icmp .eq 563, 3) := by decide +kernel
theorem dL_law_405 : decode cL_law 405 = .ok (.iconst 0, 1) := by decide +kernel
theorem dL_law_406 : decode cL_law 406 = .ok (.ireturn, 1) := by decide +kernel
theorem dL_law_407 : decode cL_law 407 = .ok (.aload_n 1, 1) := by decide +kernel
theorem dL_law_408 : decode cL_law 408 = .ok (.aload_n 0, 1) := by decide +kernel
theorem dL_law_409 : decode cL_law 409 = .ok (.iload_n 3, 1) := by decide +kernel
theorem dL_law_410 : decode cL_law 410 = .ok (.iconst 1, 1) := by decide +kernel
theorem dL_law_411 : decode cL_law 411 = .ok (.iadd, 1) := by decide +kernel
theorem dL_law_412 : decode cL_law 412 = .ok (.iaload, 1) := by decide +kernel
theorem dL_law_413 : decode cL_law 413 = .ok (.invokevirtual 53, 3) := by decide +kernel
theorem dL_law_416 : decode cL_law 416 = .ok (.aload_n 2, 1) := by decide +kernel
theorem dL_law_417 : decode cL_law 417 = .ok (.aload_n 0, 1) := by decide +kernel
theorem dL_law_418 : decode cL_law 418 = .ok (.iload_n 3, 1) := by decide +kernel
theorem dL_law_419 : decode cL_law 419 = .ok (.iconst 1, 1) := by decide +kernel
theorem dL_law_420 : decode cL_law 420 = .ok (.iadd, 1) := by decide +kernel
theorem dL_law_421 : decode cL_law 421 = .ok (.iaload, 1) := by decide +kernel
theorem dL_law_422 : decode cL_law 422 = .ok (.invokevirtual 56, 3) := by decide +kernel
theorem dL_law_425 : decode cL_law 425 = .ok (.if_icmp .eq 540, 3) := by decide +kernel
theorem dL_law_428 : decode cL_law 428 = .ok (.iconst 0, 1) := by decide +kernel
theorem dL_law_429 : decode cL_law 429 = .ok (.ireturn, 1) := by decide +kernel
theorem dL_law_430 : decode cL_law 430 = .ok (.aload_n 1, 1) := by decide +kernel
theorem dL_law_431 : decode cL_law 431 = .ok (.aload_n 0, 1) := by decide +kernel
theorem dL_law_432 : decode cL_law 432 = .ok (.iload_n 3, 1) := by decide +kernel
theorem dL_law_433 : decode cL_law 433 = .ok (.iconst 1, 1) := by decide +kernel
theorem dL_law_434 : decode cL_law 434 = .ok (.iadd, 1) := by decide +kernel
theorem dL_law_435 : decode cL_law 435 = .ok (.iaload, 1) := by decide +kernel
theorem dL_law_436 : decode cL_law 436 = .ok (.invokevirtual 57, 3) := by decide +kernel
theorem dL_law_439 : decode cL_law 439 = .ok (.aload_n 2, 1) := by decide +kernel
theorem dL_law_440 : decode cL_law 440 = .ok (.aload_n 0, 1) := by decide +kernel
theorem dL_law_441 : decode cL_law 441 = .ok (.iload_n 3, 1) := by decide +kernel
theorem dL_law_442 : decode cL_law 442 = .ok (.iconst 1, 1) := by decide +kernel
theorem dL_law_443 : decode cL_law 443 = .ok (.iadd, 1) := by decide +kernel
theorem dL_law_444 : decode cL_law 444 = .ok (.iaload, 1) := by decide +kernel
theorem dL_law_445 : decode cL_law 445 = .ok (.invokevirtual 60, 3) := by decide +kernel
theorem dL_law_448 : decode cL_law 448 = .ok (.if_icmp .eq 517, 3) := by decide +kernel
theorem dL_law_451 : decode cL_law 451 = .ok (.iconst 0, 1) := by decide +kernel
theorem dL_law_452 : decode cL_law 452 = .ok (.ireturn, 1) := by decide +kernel
theorem dL_law_453 : decode cL_law 453 = .ok (.aload_n 1, 1) := by decide +kernel
theorem dL_law_454 : decode cL_law 454 = .ok (.aload_n 0, 1) := by decide +kernel
theorem dL_law_455 : decode cL_law 455 = .ok (.iload_n 3, 1) := by decide +kernel
theorem dL_law_456 : decode cL_law 456 = .ok (.iconst 1, 1) := by decide +kernel
theorem dL_law_457 : decode cL_law 457 = .ok (.iadd, 1) := by decide +kernel
theorem dL_law_458 : decode cL_law 458 = .ok (.iaload, 1) := by decide +kernel
theorem dL_law_459 : decode cL_law 459 = .ok (.invokevirtual 61, 3) := by decide +kernel
theorem dL_law_462 : decode cL_law 462 = .ok (.aload_n 2, 1) := by decide +kernel
theorem dL_law_463 : decode cL_law 463 = .ok (.aload_n 0, 1) := by decide +kernel
theorem dL_law_464 : decode cL_law 464 = .ok (.iload_n 3, 1) := by decide +kernel
theorem dL_law_465 : decode cL_law 465 = .ok (.iconst 1, 1) := by decide +kernel
theorem dL_law_466 : decode cL_law 466 = .ok (.iadd, 1) := by decide +kernel
theorem dL_law_467 : decode cL_law 467 = .ok (.iaload, 1) := by decide +kernel
theorem dL_law_468 : decode cL_law 468 = .ok (.invokevirtual 64, 3) := by decide +kernel
theorem dL_law_471 : decode cL_law 471 = .ok (.if_icmp .eq 494, 3) := by decide +kernel
theorem dL_law_474 : decode cL_law 474 = .ok (.iconst 0, 1) := by decide +kernel
theorem dL_law_475 : decode cL_law 475 = .ok (.ireturn, 1) := by decide +kernel
theorem dL_law_476 : decode cL_law 476 = .ok (.aload_n 1, 1) := by decide +kernel
theorem dL_law_477 : decode cL_law 477 = .ok (.invokevirtual 65, 3) := by decide +kernel
theorem dL_law_480 : decode cL_law 480 = .ok (.aload_n 2, 1) := by decide +kernel
theorem dL_law_481 : decode cL_law 481 = .ok (.invokevirtual 68, 3) := by decide +kernel
theorem dL_law_484 : decode cL_law 484 = .ok (.if_icmp .eq 481, 3) := by decide +kernel
theorem dL_law_487 : decode cL_law 487 = .ok (.iconst 0, 1) := by decide +kernel
theorem dL_law_488 : decode cL_law 488 = .ok (.ireturn, 1) := by decide +kernel
theorem dL_law_489 : decode cL_law 489 = .ok (.aload_n 1, 1) := by decide +kernel
theorem dL_law_490 : decode cL_law 490 = .ok (.aload_n 0, 1) := by decide +kernel
theorem dL_law_491 : decode cL_law 491 = .ok (.iload_n 3, 1) := by decide +kernel
theorem dL_law_492 : decode cL_law 492 = .ok (.iconst 1, 1) := by decide +kernel
theorem dL_law_493 : decode cL_law 493 = .ok (.iadd, 1) := by decide +kernel
theorem dL_law_494 : decode cL_law 494 = .ok (.iaload, 1) := by decide +kernel
theorem dL_law_495 : decode cL_law 495 = .ok (.aload_n 0, 1) := by decide +kernel
theorem dL_law_496 : decode cL_law 496 = .ok (.iload_n 3, 1) := by decide +kernel
theorem dL_law_497 : decode cL_law 497 = .ok (.iconst 2, 1) := by decide +kernel
theorem dL_law_498 : decode cL_law 498 = .ok (.iadd, 1) := by decide +kernel
theorem dL_law_499 : decode cL_law 499 = .ok (.iaload, 1) := by decide +kernel
theorem dL_law_500 : decode cL_law 500 = .ok (.invokevirtual 69, 3) := by decide +kernel
theorem dL_law_503 : decode cL_law 503 = .ok (.aload_n 2, 1) := by decide +kernel
theorem dL_law_504 : decode cL_law 504 = .ok (.aload_n 0, 1) := by decide +kernel
theorem dL_law_505 : decode cL_law 505 = .ok (.iload_n 3, 1) := by decide +kernel
theorem dL_law_506 : decode cL_law 506 = .ok (.iconst 1, 1) := by decide +kernel
theorem dL_law_507 : decode cL_law 507 = .ok (.iadd, 1) := by decide +kernel
theorem dL_law_508 : decode cL_law 508 = .ok (.iaload, 1) := by decide +kernel
theorem dL_law_509 : decode cL_law 509 = .ok (.aload_n 0, 1) := by decide +kernel
theorem dL_law_510 : decode cL_law 510 = .ok (.iload_n 3, 1) := by decide +kernel
theorem dL_law_511 : decode cL_law 511 = .ok (.iconst 2, 1) := by decide +kernel
theorem dL_law_512 : decode cL_law 512 = .ok (.iadd, 1) := by decide +kernel
theorem dL_law_513 : decode cL_law 513 = .ok (.iaload, 1) := by decide +kernel
theorem dL_law_514 : decode cL_law 514 = .ok (.invokevirtual 72, 3) := by decide +kernel
theorem dL_law_517 : decode cL_law 517 = .ok (.if_icmp .eq 448, 3) := by decide +kernel
theorem dL_law_520 : decode cL_law 520 = .ok (.iconst 0, 1) := by decide +kernel
theorem dL_law_521 : decode cL_law 521 = .ok (.ireturn, 1) := by decide +kernel
theorem dL_law_522 : decode cL_law 522 = .ok (.aload_n 1, 1) := by decide +kernel
theorem dL_law_523 : decode cL_law 523 = .ok (.aload_n 0, 1) := by decide +kernel
theorem dL_law_524 : decode cL_law 524 = .ok (.iload_n 3, 1) := by decide +kernel
theorem dL_law_525 : decode cL_law 525 = .ok (.iconst 1, 1) := by decide +kernel
theorem dL_law_526 : decode cL_law 526 = .ok (.iadd, 1) := by decide +kernel
theorem dL_law_527 : decode cL_law 527 = .ok (.iaload, 1) := by decide +kernel
theorem dL_law_528 : decode cL_law 528 = .ok (.aload_n 0, 1) := by decide +kernel
theorem dL_law_529 : decode cL_law 529 = .ok (.iload_n 3, 1) := by decide +kernel
theorem dL_law_530 : decode cL_law 530 = .ok (.iconst 2, 1) := by decide +kernel
theorem dL_law_531 : decode cL_law 531 = .ok (.iadd, 1) := by decide +kernel
theorem dL_law_532 : decode cL_law 532 = .ok (.iaload, 1) := by decide +kernel
theorem dL_law_533 : decode cL_law 533 = .ok (.aload_n 0, 1) := by decide +kernel
theorem dL_law_534 : decode cL_law 534 = .ok (.iload_n 3, 1) := by decide +kernel
theorem dL_law_535 : decode cL_law 535 = .ok (.iconst 3, 1) := by decide +kernel
theorem dL_law_536 : decode cL_law 536 = .ok (.iadd, 1) := by decide +kernel
theorem dL_law_537 : decode cL_law 537 = .ok (.iaload, 1) := by decide +kernel
theorem dL_law_538 : decode cL_law 538 = .ok (.invokevirtual 73, 3) := by decide +kernel
theorem dL_law_541 : decode cL_law 541 = .ok (.aload_n 2, 1) := by decide +kernel
theorem dL_law_542 : decode cL_law 542 = .ok (.aload_n 0, 1) := by decide +kernel
theorem dL_law_543 : decode cL_law 543 = .ok (.iload_n 3, 1) := by decide +kernel
theorem dL_law_544 : decode cL_law 544 = .ok (.iconst 1, 1) := by decide +kernel
theorem dL_law_545 : decode cL_law 545 = .ok (.iadd, 1) := by decide +kernel
theorem dL_law_546 : decode cL_law 546 = .ok (.iaload, 1) := by decide +kernel
theorem dL_law_547 : decode cL_law 547 = .ok (.aload_n 0, 1) := by decide +kernel
theorem dL_law_548 : decode cL_law 548 = .ok (.iload_n 3, 1) := by decide +kernel
theorem dL_law_549 : decode cL_law 549 = .ok (.iconst 2, 1) := by decide +kernel
theorem dL_law_550 : decode cL_law 550 = .ok (.iadd, 1) := by decide +kernel
theorem dL_law_551 : decode cL_law 551 = .ok (.iaload, 1) := by decide +kernel
theorem dL_law_552 : decode cL_law 552 = .ok (.aload_n 0, 1) := by decide +kernel
theorem dL_law_553 : decode cL_law 553 = .ok (.iload_n 3, 1) := by decide +kernel
theorem dL_law_554 : decode cL_law 554 = .ok (.iconst 3, 1) := by decide +kernel
theorem dL_law_555 : decode cL_law 555 = .ok (.iadd, 1) := by decide +kernel
theorem dL_law_556 : decode cL_law 556 = .ok (.iaload, 1) := by decide +kernel
theorem dL_law_557 : decode cL_law 557 = .ok (.invokevirtual 77, 3) := by decide +kernel
theorem dL_law_560 : decode cL_law 560 = .ok (.if_icmp .eq 405, 3) := by decide +kernel
theorem dL_law_563 : decode cL_law 563 = .ok (.iconst 0, 1) := by decide +kernel
theorem dL_law_564 : decode cL_law 564 = .ok (.ireturn, 1) := by decide +kernel
theorem dL_law_565 : decode cL_law 565 = .ok (.aload_n 1, 1) := by decide +kernel
theorem dL_law_566 : decode cL_law 566 = .ok (.aload_n 0, 1) := by decide +kernel
theorem dL_law_567 : decode cL_law 567 = .ok (.iload_n 3, 1) := by decide +kernel
theorem dL_law_568 : decode cL_law 568 = .ok (.iconst 1, 1) := by decide +kernel
theorem dL_law_569 : decode cL_law 569 = .ok (.iadd, 1) := by decide +kernel
theorem dL_law_570 : decode cL_law 570 = .ok (.iaload, 1) := by decide +kernel
theorem dL_law_571 : decode cL_law 571 = .ok (.aload_n 0, 1) := by decide +kernel
theorem dL_law_572 : decode cL_law 572 = .ok (.iload_n 3, 1) := by decide +kernel
theorem dL_law_573 : decode cL_law 573 = .ok (.iconst 2, 1) := by decide +kernel
theorem dL_law_574 : decode cL_law 574 = .ok (.iadd, 1) := by decide +kernel
theorem dL_law_575 : decode cL_law 575 = .ok (.iaload, 1) := by decide +kernel
theorem dL_law_576 : decode cL_law 576 = .ok (.invokevirtual 78, 3) := by decide +kernel
theorem dL_law_579 : decode cL_law 579 = .ok (.aload_n 2, 1) := by decide +kernel
theorem dL_law_580 : decode cL_law 580 = .ok (.aload_n 0, 1) := by decide +kernel
theorem dL_law_581 : decode cL_law 581 = .ok (.iload_n 3, 1) := by decide +kernel
theorem dL_law_582 : decode cL_law 582 = .ok (.iconst 1, 1) := by decide +kernel
theorem dL_law_583 : decode cL_law 583 = .ok (.iadd, 1) := by decide +kernel
theorem dL_law_584 : decode cL_law 584 = .ok (.iaload, 1) := by decide +kernel
theorem dL_law_585 : decode cL_law 585 = .ok (.aload_n 0, 1) := by decide +kernel
theorem dL_law_586 : decode cL_law 586 = .ok (.iload_n 3, 1) := by decide +kernel
theorem dL_law_587 : decode cL_law 587 = .ok (.iconst 2, 1) := by decide +kernel
theorem dL_law_588 : decode cL_law 588 = .ok (.iadd, 1) := by decide +kernel
theorem dL_law_589 : decode cL_law 589 = .ok (.iaload, 1) := by decide +kernel
theorem dL_law_590 : decode cL_law 590 = .ok (.invokevirtual 81, 3) := by decide +kernel
theorem dL_law_593 : decode cL_law 593 = .ok (.if_icmp .eq 372, 3) := by decide +kernel
theorem dL_law_596 : decode cL_law 596 = .ok (.iconst 0, 1) := by decide +kernel
theorem dL_law_597 : decode cL_law 597 = .ok (.ireturn, 1) := by decide +kernel
theorem dL_law_598 : decode cL_law 598 = .ok (.aload_n 1, 1) := by decide +kernel
theorem dL_law_599 : decode cL_law 599 = .ok (.aload_n 0, 1) := by decide +kernel
theorem dL_law_600 : decode cL_law 600 = .ok (.iload_n 3, 1) := by decide +kernel
theorem dL_law_601 : decode cL_law 601 = .ok (.iconst 1, 1) := by decide +kernel
theorem dL_law_602 : decode cL_law 602 = .ok (.iadd, 1) := by decide +kernel
theorem dL_law_603 : decode cL_law 603 = .ok (.iaload, 1) := by decide +kernel
theorem dL_law_604 : decode cL_law 604 = .ok (.aload_n 0, 1) := by decide +kernel
theorem dL_law_605 : decode cL_law 605 = .ok (.iload_n 3, 1) := by decide +kernel
theorem dL_law_606 : decode cL_law 606 = .ok (.iconst 2, 1) := by decide +kernel
theorem dL_law_607 : decode cL_law 607 = .ok (.iadd, 1) := by decide +kernel
theorem dL_law_608 : decode cL_law 608 = .ok (.iaload, 1) := by decide +kernel
theorem dL_law_609 : decode cL_law 609 = .ok (.invokevirtual 82, 3) := by decide +kernel
theorem dL_law_612 : decode cL_law 612 = .ok (.aload_n 2, 1) := by decide +kernel
theorem dL_law_613 : decode cL_law 613 = .ok (.aload_n 0, 1) := by decide +kernel
theorem dL_law_614 : decode cL_law 614 = .ok (.iload_n 3, 1) := by decide +kernel
theorem dL_law_615 : decode cL_law 615 = .ok (.iconst 1, 1) := by decide +kernel
theorem dL_law_616 : decode cL_law 616 = .ok (.iadd, 1) := by decide +kernel
theorem dL_law_617 : decode cL_law 617 = .ok (.iaload, 1) := by decide +kernel
theorem dL_law_618 : decode cL_law 618 = .ok (.aload_n 0, 1) := by decide +kernel
theorem dL_law_619 : decode cL_law 619 = .ok (.iload_n 3, 1) := by decide +kernel
theorem dL_law_620 : decode cL_law 620 = .ok (.iconst 2, 1) := by decide +kernel
theorem dL_law_621 : decode cL_law 621 = .ok (.iadd, 1) := by decide +kernel
theorem dL_law_622 : decode cL_law 622 = .ok (.iaload, 1) := by decide +kernel
theorem dL_law_623 : decode cL_law 623 = .ok (.invokevirtual 85, 3) := by decide +kernel
theorem dL_law_626 : decode cL_law 626 = .ok (.if_icmp .eq 339, 3) := by decide +kernel
theorem dL_law_629 : decode cL_law 629 = .ok (.iconst 0, 1) := by decide +kernel
theorem dL_law_630 : decode cL_law 630 = .ok (.ireturn, 1) := by decide +kernel
theorem dL_law_631 : decode cL_law 631 = .ok (.aload_n 1, 1) := by decide +kernel
theorem dL_law_632 : decode cL_law 632 = .ok (.aload_n 0, 1) := by decide +kernel
theorem dL_law_633 : decode cL_law 633 = .ok (.iload_n 3, 1) := by decide +kernel
theorem dL_law_634 : decode cL_law 634 = .ok (.iconst 1, 1) := by decide +kernel
theorem dL_law_635 : decode cL_law 635 = .ok (.iadd, 1) := by decide +kernel
theorem dL_law_636 : decode cL_law 636 = .ok (.iaload, 1) := by decide +kernel
theorem dL_law_637 : decode cL_law 637 = .ok (.aload_n 0, 1) := by decide +kernel
theorem dL_law_638 : decode cL_law 638 = .ok (.iload_n 3, 1) := by decide +kernel
theorem dL_law_639 : decode cL_law 639 = .ok (.iconst 2, 1) := by decide +kernel
theorem dL_law_640 : decode cL_law 640 = .ok (.iadd, 1) := by decide +kernel
theorem dL_law_641 : decode cL_law 641 = .ok (.iaload, 1) := by decide +kernel
theorem dL_law_642 : decode cL_law 642 = .ok (.invokevirtual 86, 3) := by decide +kernel
theorem dL_law_645 : decode cL_law 645 = .ok (.aload_n 2, 1) := by decide +kernel
theorem dL_law_646 : decode cL_law 646 = .ok (.aload_n 0, 1) := by decide +kernel
theorem dL_law_647 : decode cL_law 647 = .ok (.iload_n 3, 1) := by decide +kernel
theorem dL_law_648 : decode cL_law 648 = .ok (.iconst 1, 1) := by decide +kernel
theorem dL_law_649 : decode cL_law 649 = .ok (.iadd, 1) := by decide +kernel
theorem dL_law_650 : decode cL_law 650 = .ok (.iaload, 1) := by decide +kernel
theorem dL_law_651 : decode cL_law 651 = .ok (.aload_n 0, 1) := by decide +kernel
theorem dL_law_652 : decode cL_law 652 = .ok (.iload_n 3, 1) := by decide +kernel
theorem dL_law_653 : decode cL_law 653 = .ok (.iconst 2, 1) := by decide +kernel
theorem dL_law_654 : decode cL_law 654 = .ok (.iadd, 1) := by decide +kernel
theorem dL_law_655 : decode cL_law 655 = .ok (.iaload, 1) := by decide +kernel
theorem dL_law_656 : decode cL_law 656 = .ok (.invokevirtual 89, 3) := by decide +kernel
theorem dL_law_659 : decode cL_law 659 = .ok (.if_icmp .eq 306, 3) := by decide +kernel
theorem dL_law_662 : decode cL_law 662 = .ok (.iconst 0, 1) := by decide +kernel
theorem dL_law_663 : decode cL_law 663 = .ok (.ireturn, 1) := by decide +kernel
theorem dL_law_664 : decode cL_law 664 = .ok (.aload_n 1, 1) := by decide +kernel
theorem dL_law_665 : decode cL_law 665 = .ok (.aload_n 0, 1) := by decide +kernel
theorem dL_law_666 : decode cL_law 666 = .ok (.iload_n 3, 1) := by decide +kernel
theorem dL_law_667 : decode cL_law 667 = .ok (.iconst 1, 1) := by decide +kernel
theorem dL_law_668 : decode cL_law 668 = .ok (.iadd, 1) := by decide +kernel
theorem dL_law_669 : decode cL_law 669 = .ok (.iaload, 1) := by decide +kernel
theorem dL_law_670 : decode cL_law 670 = .ok (.aload_n 0, 1) := by decide +kernel
theorem dL_law_671 : decode cL_law 671 = .ok (.iload_n 3, 1) := by decide +kernel
theorem dL_law_672 : decode cL_law 672 = .ok (.iconst 2, 1) := by decide +kernel
theorem dL_law_673 : decode cL_law 673 = .ok (.iadd, 1) := by decide +kernel
theorem dL_law_674 : decode cL_law 674 = .ok (.iaload, 1) := by decide +kernel
theorem dL_law_675 : decode cL_law 675 = .ok (.invokevirtual 90, 3) := by decide +kernel
theorem dL_law_678 : decode cL_law 678 = .ok (.aload_n 2, 1) := by decide +kernel
theorem dL_law_679 : decode cL_law 679 = .ok (.aload_n 0, 1) := by decide +kernel
theorem dL_law_680 : decode cL_law 680 = .ok (.iload_n 3, 1) := by decide +kernel
theorem dL_law_681 : decode cL_law 681 = .ok (.iconst 1, 1) := by decide +kernel
theorem dL_law_682 : decode cL_law 682 = .ok (.iadd, 1) := by decide +kernel
theorem dL_law_683 : decode cL_law 683 = .ok (.iaload, 1) := by decide +kernel
theorem dL_law_684 : decode cL_law 684 = .ok (.aload_n 0, 1) := by decide +kernel
theorem dL_law_685 : decode cL_law 685 = .ok (.iload_n 3, 1) := by decide +kernel
theorem dL_law_686 : decode cL_law 686 = .ok (.iconst 2, 1) := by decide +kernel
theorem dL_law_687 : decode cL_law 687 = .ok (.iadd, 1) := by decide +kernel
theorem dL_law_688 : decode cL_law 688 = .ok (.iaload, 1) := by decide +kernel
theorem dL_law_689 : decode cL_law 689 = .ok (.invokevirtual 93, 3) := by decide +kernel
theorem dL_law_692 : decode cL_law 692 = .ok (.if_icmp .eq 273, 3) := by decide +kernel
theorem dL_law_695 : decode cL_law 695 = .ok (.iconst 0, 1) := by decide +kernel
theorem dL_law_696 : decode cL_law 696 = .ok (.ireturn, 1) := by decide +kernel
theorem dL_law_697 : decode cL_law 697 = .ok (.aload_n 1, 1) := by decide +kernel
theorem dL_law_698 : decode cL_law 698 = .ok (.invokevirtual 94, 3) := by decide +kernel
theorem dL_law_701 : decode cL_law 701 = .ok (.aload_n 2, 1) := by decide +kernel
theorem dL_law_702 : decode cL_law 702 = .ok (.invokevirtual 97, 3) := by decide +kernel
theorem dL_law_705 : decode cL_law 705 = .ok (.if_icmp .eq 260, 3) := by decide +kernel
theorem dL_law_708 : decode cL_law 708 = .ok (.iconst 0, 1) := by decide +kernel
theorem dL_law_709 : decode cL_law 709 = .ok (.ireturn, 1) := by decide +kernel
theorem dL_law_710 : decode cL_law 710 = .ok (.aload_n 1, 1) := by decide +kernel
theorem dL_law_711 : decode cL_law 711 = .ok (.aload_n 0, 1) := by decide +kernel
theorem dL_law_712 : decode cL_law 712 = .ok (.iload_n 3, 1) := by decide +kernel
theorem dL_law_713 : decode cL_law 713 = .ok (.iconst 1, 1) := by decide +kernel
theorem dL_law_714 : decode cL_law 714 = .ok (.iadd, 1) := by decide +kernel
theorem dL_law_715 : decode cL_law 715 = .ok (.iaload, 1) := by decide +kernel
theorem dL_law_716 : decode cL_law 716 = .ok (.invokevirtual 98, 3) := by decide +kernel
theorem dL_law_719 : decode cL_law 719 = .ok (.aload_n 2, 1) := by decide +kernel
theorem dL_law_720 : decode cL_law 720 = .ok (.aload_n 0, 1) := by decide +kernel
theorem dL_law_721 : decode cL_law 721 = .ok (.iload_n 3, 1) := by decide +kernel
theorem dL_law_722 : decode cL_law 722 = .ok (.iconst 1, 1) := by decide +kernel
theorem dL_law_723 : decode cL_law 723 = .ok (.iadd, 1) := by decide +kernel
theorem dL_law_724 : decode cL_law 724 = .ok (.iaload, 1) := by decide +kernel
theorem dL_law_725 : decode cL_law 725 = .ok (.invokevirtual 101, 3) := by decide +kernel
theorem dL_law_728 : decode cL_law 728 = .ok (.if_icmp .eq 237, 3) := by decide +kernel
theorem dL_law_731 : decode cL_law 731 = .ok (.iconst 0, 1) := by decide +kernel
theorem dL_law_732 : decode cL_law 732 = .ok (.ireturn, 1) := by decide +kernel
theorem dL_law_733 : decode cL_law 733 = .ok (.aload_n 1, 1) := by decide +kernel
theorem dL_law_734 : decode cL_law 734 = .ok (.aload_n 0, 1) := by decide +kernel
theorem dL_law_735 : decode cL_law 735 = .ok (.iload_n 3, 1) := by decide +kernel
theorem dL_law_736 : decode cL_law 736 = .ok (.iconst 1, 1) := by decide +kernel
theorem dL_law_737 : decode cL_law 737 = .ok (.iadd, 1) := by decide +kernel
theorem dL_law_738 : decode cL_law 738 = .ok (.iaload, 1) := by decide +kernel
theorem dL_law_739 : decode cL_law 739 = .ok (.invokevirtual 102, 3) := by decide +kernel
theorem dL_law_742 : decode cL_law 742 = .ok (.aload_n 2, 1) := by decide +kernel
theorem dL_law_743 : decode cL_law 743 = .ok (.aload_n 0, 1) := by decide +kernel
theorem dL_law_744 : decode cL_law 744 = .ok (.iload_n 3, 1) := by decide +kernel
theorem dL_law_745 : decode cL_law 745 = .ok (.iconst 1, 1) := by decide +kernel
theorem dL_law_746 : decode cL_law 746 = .ok (.iadd, 1) := by decide +kernel
theorem dL_law_747 : decode cL_law 747 = .ok (.iaload, 1) := by decide +kernel
theorem dL_law_748 : decode cL_law 748 = .ok (.invokevirtual 105, 3) := by decide +kernel
theorem dL_law_751 : decode cL_law 751 = .ok (.if_icmp .eq 214, 3) := by decide +kernel
theorem dL_law_754 : decode cL_law 754 = .ok (.iconst 0, 1) := by decide +kernel
theorem dL_law_755 : decode cL_law 755 = .ok (.ireturn, 1) := by decide +kernel
theorem dL_law_756 : decode cL_law 756 = .ok (.aload_n 1, 1) := by decide +kernel
theorem dL_law_757 : decode cL_law 757 = .ok (.aload_n 0, 1) := by decide +kernel
theorem dL_law_758 : decode cL_law 758 = .ok (.iload_n 3, 1) := by decide +kernel
theorem dL_law_759 : decode cL_law 759 = .ok (.iconst 1, 1) := by decide +kernel
theorem dL_law_760 : decode cL_law 760 = .ok (.iadd, 1) := by decide +kernel
theorem dL_law_761 : decode cL_law 761 = .ok (.iaload, 1) := by decide +kernel
theorem dL_law_762 : decode cL_law 762 = .ok (.aload_n 0, 1) := by decide +kernel
theorem dL_law_763 : decode cL_law 763 = .ok (.iload_n 3, 1) := by decide +kernel
theorem dL_law_764 : decode cL_law 764 = .ok (.iconst 2, 1) := by decide +kernel
theorem dL_law_765 : decode cL_law 765 = .ok (.iadd, 1) := by decide +kernel
theorem dL_law_766 : decode cL_law 766 = .ok (.iaload, 1) := by decide +kernel
theorem dL_law_767 : decode cL_law 767 = .ok (.aload_n 0, 1) := by decide +kernel
theorem dL_law_768 : decode cL_law 768 = .ok (.iload_n 3, 1) := by decide +kernel
theorem dL_law_769 : decode cL_law 769 = .ok (.iconst 3, 1) := by decide +kernel
theorem dL_law_770 : decode cL_law 770 = .ok (.iadd, 1) := by decide +kernel
theorem dL_law_771 : decode cL_law 771 = .ok (.iaload, 1) := by decide +kernel
theorem dL_law_772 : decode cL_law 772 = .ok (.aload_n 0, 1) := by decide +kernel
theorem dL_law_773 : decode cL_law 773 = .ok (.iload_n 3, 1) := by decide +kernel
theorem dL_law_774 : decode cL_law 774 = .ok (.iconst 4, 1) := by decide +kernel
theorem dL_law_775 : decode cL_law 775 = .ok (.iadd, 1) := by decide +kernel
theorem dL_law_776 : decode cL_law 776 = .ok (.iaload, 1) := by decide +kernel
theorem dL_law_777 : decode cL_law 777 = .ok (.invokevirtual 106, 3) := by decide +kernel
theorem dL_law_780 : decode cL_law 780 = .ok (.aload_n 2, 1) := by decide +kernel
theorem dL_law_781 : decode cL_law 781 = .ok (.aload_n 0, 1) := by decide +kernel
theorem dL_law_782 : decode cL_law 782 = .ok (.iload_n 3, 1) := by decide +kernel
theorem dL_law_783 : decode cL_law 783 = .ok (.iconst 1, 1) := by decide +kernel
theorem dL_law_784 : decode cL_law 784 = .ok (.iadd, 1) := by decide +kernel
theorem dL_law_785 : decode cL_law 785 = .ok (.iaload, 1) := by decide +kernel
theorem dL_law_786 : decode cL_law 786 = .ok (.aload_n 0, 1) := by decide +kernel
theorem dL_law_787 : decode cL_law 787 = .ok (.iload_n 3, 1) := by decide +kernel
theorem dL_law_788 : decode cL_law 788 = .ok (.iconst 2, 1) := by decide +kernel
theorem dL_law_789 : decode cL_law 789 = .ok (.iadd, 1) := by decide +kernel
theorem dL_law_790 : decode cL_law 790 = .ok (.iaload, 1) := by decide +kernel
theorem dL_law_791 : decode cL_law 791 = .ok (.aload_n 0, 1) := by decide +kernel
theorem dL_law_792 : decode cL_law 792 = .ok (.iload_n 3, 1) := by decide +kernel
theorem dL_law_793 : decode cL_law 793 = .ok (.iconst 3, 1) := by decide +kernel
theorem dL_law_794 : decode cL_law 794 = .ok (.iadd, 1) := by decide +kernel
theorem dL_law_795 : decode cL_law 795 = .ok (.iaload, 1) := by decide +kernel
theorem dL_law_796 : decode cL_law 796 = .ok (.aload_n 0, 1) := by decide +kernel
theorem dL_law_797 : decode cL_law 797 = .ok (.iload_n 3, 1) := by decide +kernel
theorem dL_law_798 : decode cL_law 798 = .ok (.iconst 4, 1) := by decide +kernel
theorem dL_law_799 : decode cL_law 799 = .ok (.iadd, 1) := by decide +kernel
theorem dL_law_800 : decode cL_law 800 = .ok (.iaload, 1) := by decide +kernel
theorem dL_law_801 : decode cL_law 801 = .ok (.invokevirtual 110, 3) := by decide +kernel
theorem dL_law_804 : decode cL_law 804 = .ok (.lcmp, 1) := by decide +kernel
theorem dL_law_805 : decode cL_law 805 = .ok (.ifCond .eq 160, 3) := by decide +kernel
theorem dL_law_808 : decode cL_law 808 = .ok (.iconst 0, 1) := by decide +kernel
theorem dL_law_809 : decode cL_law 809 = .ok (.ireturn, 1) := by decide +kernel
theorem dL_law_810 : decode cL_law 810 = .ok (.aload_n 1, 1) := by decide +kernel
theorem dL_law_811 : decode cL_law 811 = .ok (.aload_n 0, 1) := by decide +kernel
theorem dL_law_812 : decode cL_law 812 = .ok (.iload_n 3, 1) := by decide +kernel
theorem dL_law_813 : decode cL_law 813 = .ok (.iconst 1, 1) := by decide +kernel
theorem dL_law_814 : decode cL_law 814 = .ok (.iadd, 1) := by decide +kernel
theorem dL_law_815 : decode cL_law 815 = .ok (.iaload, 1) := by decide +kernel
theorem dL_law_816 : decode cL_law 816 = .ok (.aload_n 0, 1) := by decide +kernel
theorem dL_law_817 : decode cL_law 817 = .ok (.iload_n 3, 1) := by decide +kernel
theorem dL_law_818 : decode cL_law 818 = .ok (.iconst 2, 1) := by decide +kernel
theorem dL_law_819 : decode cL_law 819 = .ok (.iadd, 1) := by decide +kernel
theorem dL_law_820 : decode cL_law 820 = .ok (.iaload, 1) := by decide +kernel
theorem dL_law_821 : decode cL_law 821 = .ok (.aload_n 0, 1) := by decide +kernel
theorem dL_law_822 : decode cL_law 822 = .ok (.iload_n 3, 1) := by decide +kernel
theorem dL_law_823 : decode cL_law 823 = .ok (.iconst 3, 1) := by decide +kernel
theorem dL_law_824 : decode cL_law 824 = .ok (.iadd, 1) := by decide +kernel
theorem dL_law_825 : decode cL_law 825 = .ok (.iaload, 1) := by decide +kernel
theorem dL_law_826 : decode cL_law 826 = .ok (.invokevirtual 111, 3) := by decide +kernel
theorem dL_law_829 : decode cL_law 829 = .ok (.aload_n 2, 1) := by decide +kernel
theorem dL_law_830 : decode cL_law 830 = .ok (.aload_n 0, 1) := by decide +kernel
theorem dL_law_831 : decode cL_law 831 = .ok (.iload_n 3, 1) := by decide +kernel
theorem dL_law_832 : decode cL_law 832 = .ok (.iconst 1, 1) := by decide +kernel
theorem dL_law_833 : decode cL_law 833 = .ok (.iadd, 1) := by decide +kernel
theorem dL_law_834 : decode cL_law 834 = .ok (.iaload, 1) := by decide +kernel
theorem dL_law_835 : decode cL_law 835 = .ok (.aload_n 0, 1) := by decide +kernel
theorem dL_law_836 : decode cL_law 836 = .ok (.iload_n 3, 1) := by decide +kernel
theorem dL_law_837 : decode cL_law 837 = .ok (.iconst 2, 1) := by decide +kernel
theorem dL_law_838 : decode cL_law 838 = .ok (.iadd, 1) := by decide +kernel
theorem dL_law_839 : decode cL_law 839 = .ok (.iaload, 1) := by decide +kernel
theorem dL_law_840 : decode cL_law 840 = .ok (.aload_n 0, 1) := by decide +kernel
theorem dL_law_841 : decode cL_law 841 = .ok (.iload_n 3, 1) := by decide +kernel
theorem dL_law_842 : decode cL_law 842 = .ok (.iconst 3, 1) := by decide +kernel
theorem dL_law_843 : decode cL_law 843 = .ok (.iadd, 1) := by decide +kernel
theorem dL_law_844 : decode cL_law 844 = .ok (.iaload, 1) := by decide +kernel
theorem dL_law_845 : decode cL_law 845 = .ok (.invokevirtual 114, 3) := by decide +kernel
theorem dL_law_848 : decode cL_law 848 = .ok (.if_icmp .eq 117, 3) := by decide +kernel
theorem dL_law_851 : decode cL_law 851 = .ok (.iconst 0, 1) := by decide +kernel
theorem dL_law_852 : decode cL_law 852 = .ok (.ireturn, 1) := by decide +kernel
theorem dL_law_853 : decode cL_law 853 = .ok (.aload_n 1, 1) := by decide +kernel
theorem dL_law_854 : decode cL_law 854 = .ok (.aload_n 0, 1) := by decide +kernel
theorem dL_law_855 : decode cL_law 855 = .ok (.iload_n 3, 1) := by decide +kernel
theorem dL_law_856 : decode cL_law 856 = .ok (.iconst 1, 1) := by decide +kernel
theorem dL_law_857 : decode cL_law 857 = .ok (.iadd, 1) := by decide +kernel
theorem dL_law_858 : decode cL_law 858 = .ok (.iaload, 1) := by decide +kernel
theorem dL_law_859 : decode cL_law 859 = .ok (.aload_n 0, 1) := by decide +kernel
theorem dL_law_860 : decode cL_law 860 = .ok (.iload_n 3, 1) := by decide +kernel
theorem dL_law_861 : decode cL_law 861 = .ok (.iconst 2, 1) := by decide +kernel
theorem dL_law_862 : decode cL_law 862 = .ok (.iadd, 1) := by decide +kernel
theorem dL_law_863 : decode cL_law 863 = .ok (.iaload, 1) := by decide +kernel
theorem dL_law_864 : decode cL_law 864 = .ok (.aload_n 0, 1) := by decide +kernel
theorem dL_law_865 : decode cL_law 865 = .ok (.iload_n 3, 1) := by decide +kernel
theorem dL_law_866 : decode cL_law 866 = .ok (.iconst 3, 1) := by decide +kernel
theorem dL_law_867 : decode cL_law 867 = .ok (.iadd, 1) := by decide +kernel
theorem dL_law_868 : decode cL_law 868 = .ok (.iaload, 1) := by decide +kernel
theorem dL_law_869 : decode cL_law 869 = .ok (.invokevirtual 115, 3) := by decide +kernel
theorem dL_law_872 : decode cL_law 872 = .ok (.aload_n 2, 1) := by decide +kernel
theorem dL_law_873 : decode cL_law 873 = .ok (.aload_n 0, 1) := by decide +kernel
theorem dL_law_874 : decode cL_law 874 = .ok (.iload_n 3, 1) := by decide +kernel
theorem dL_law_875 : decode cL_law 875 = .ok (.iconst 1, 1) := by decide +kernel
theorem dL_law_876 : decode cL_law 876 = .ok (.iadd, 1) := by decide +kernel
theorem dL_law_877 : decode cL_law 877 = .ok (.iaload, 1) := by decide +kernel
theorem dL_law_878 : decode cL_law 878 = .ok (.aload_n 0, 1) := by decide +kernel
theorem dL_law_879 : decode cL_law 879 = .ok (.iload_n 3, 1) := by decide +kernel
theorem dL_law_880 : decode cL_law 880 = .ok (.iconst 2, 1) := by decide +kernel
theorem dL_law_881 : decode cL_law 881 = .ok (.iadd, 1) := by decide +kernel
theorem dL_law_882 : decode cL_law 882 = .ok (.iaload, 1) := by decide +kernel
theorem dL_law_883 : decode cL_law 883 = .ok (.aload_n 0, 1) := by decide +kernel
theorem dL_law_884 : decode cL_law 884 = .ok (.iload_n 3, 1) := by decide +kernel
theorem dL_law_885 : decode cL_law 885 = .ok (.iconst 3, 1) := by decide +kernel
theorem dL_law_886 : decode cL_law 886 = .ok (.iadd, 1) := by decide +kernel
theorem dL_law_887 : decode cL_law 887 = .ok (.iaload, 1) := by decide +kernel
theorem dL_law_888 : decode cL_law 888 = .ok (.invokevirtual 118, 3) := by decide +kernel
theorem dL_law_891 : decode cL_law 891 = .ok (.if_icmp .eq 74, 3) := by decide +kernel
theorem dL_law_894 : decode cL_law 894 = .ok (.iconst 0, 1) := by decide +kernel
theorem dL_law_895 : decode cL_law 895 = .ok (.ireturn, 1) := by decide +kernel
theorem dL_law_896 : decode cL_law 896 = .ok (.aload_n 1, 1) := by decide +kernel
theorem dL_law_897 : decode cL_law 897 = .ok (.aload_n 0, 1) := by decide +kernel
theorem dL_law_898 : decode cL_law 898 = .ok (.iload_n 3, 1) := by decide +kernel
theorem dL_law_899 : decode cL_law 899 = .ok (.iconst 1, 1) := by decide +kernel
theorem dL_law_900 : decode cL_law 900 = .ok (.iadd, 1) := by decide +kernel
theorem dL_law_901 : decode cL_law 901 = .ok (.iaload, 1) := by decide +kernel
theorem dL_law_902 : decode cL_law 902 = .ok (.invokevirtual 119, 3) := by decide +kernel
theorem dL_law_905 : decode cL_law 905 = .ok (.aload_n 2, 1) := by decide +kernel
theorem dL_law_906 : decode cL_law 906 = .ok (.aload_n 0, 1) := by decide +kernel
theorem dL_law_907 : decode cL_law 907 = .ok (.iload_n 3, 1) := by decide +kernel
theorem dL_law_908 : decode cL_law 908 = .ok (.iconst 1, 1) := by decide +kernel
theorem dL_law_909 : decode cL_law 909 = .ok (.iadd, 1) := by decide +kernel
theorem dL_law_910 : decode cL_law 910 = .ok (.iaload, 1) := by decide +kernel
theorem dL_law_911 : decode cL_law 911 = .ok (.invokevirtual 122, 3) := by decide +kernel
theorem dL_law_914 : decode cL_law 914 = .ok (.if_icmp .eq 51, 3) := by decide +kernel
theorem dL_law_917 : decode cL_law 917 = .ok (.iconst 0, 1) := by decide +kernel
theorem dL_law_918 : decode cL_law 918 = .ok (.ireturn, 1) := by decide +kernel
theorem dL_law_919 : decode cL_law 919 = .ok (.aload_n 1, 1) := by decide +kernel
theorem dL_law_920 : decode cL_law 920 = .ok (.aload_n 0, 1) := by decide +kernel
theorem dL_law_921 : decode cL_law 921 = .ok (.iload_n 3, 1) := by decide +kernel
theorem dL_law_922 : decode cL_law 922 = .ok (.iconst 1, 1) := by decide +kernel
theorem dL_law_923 : decode cL_law 923 = .ok (.iadd, 1) := by decide +kernel
theorem dL_law_924 : decode cL_law 924 = .ok (.iaload, 1) := by decide +kernel
theorem dL_law_925 : decode cL_law 925 = .ok (.invokevirtual 123, 3) := by decide +kernel
theorem dL_law_928 : decode cL_law 928 = .ok (.aload_n 2, 1) := by decide +kernel
theorem dL_law_929 : decode cL_law 929 = .ok (.aload_n 0, 1) := by decide +kernel
theorem dL_law_930 : decode cL_law 930 = .ok (.iload_n 3, 1) := by decide +kernel
theorem dL_law_931 : decode cL_law 931 = .ok (.iconst 1, 1) := by decide +kernel
theorem dL_law_932 : decode cL_law 932 = .ok (.iadd, 1) := by decide +kernel
theorem dL_law_933 : decode cL_law 933 = .ok (.iaload, 1) := by decide +kernel
theorem dL_law_934 : decode cL_law 934 = .ok (.invokevirtual 126, 3) := by decide +kernel
theorem dL_law_937 : decode cL_law 937 = .ok (.if_icmp .eq 28, 3) := by decide +kernel
theorem dL_law_940 : decode cL_law 940 = .ok (.iconst 0, 1) := by decide +kernel
theorem dL_law_941 : decode cL_law 941 = .ok (.ireturn, 1) := by decide +kernel
theorem dL_law_942 : decode cL_law 942 = .ok (.aload_n 1, 1) := by decide +kernel
theorem dL_law_943 : decode cL_law 943 = .ok (.aload_n 0, 1) := by decide +kernel
theorem dL_law_944 : decode cL_law 944 = .ok (.iload_n 3, 1) := by decide +kernel
theorem dL_law_945 : decode cL_law 945 = .ok (.iconst 1, 1) := by decide +kernel
theorem dL_law_946 : decode cL_law 946 = .ok (.iadd, 1) := by decide +kernel
theorem dL_law_947 : decode cL_law 947 = .ok (.iaload, 1) := by decide +kernel
theorem dL_law_948 : decode cL_law 948 = .ok (.invokevirtual 127, 3) := by decide +kernel
theorem dL_law_951 : decode cL_law 951 = .ok (.aload_n 2, 1) := by decide +kernel
theorem dL_law_952 : decode cL_law 952 = .ok (.aload_n 0, 1) := by decide +kernel
theorem dL_law_953 : decode cL_law 953 = .ok (.iload_n 3, 1) := by decide +kernel
theorem dL_law_954 : decode cL_law 954 = .ok (.iconst 1, 1) := by decide +kernel
theorem dL_law_955 : decode cL_law 955 = .ok (.iadd, 1) := by decide +kernel
theorem dL_law_956 : decode cL_law 956 = .ok (.iaload, 1) := by decide +kernel
theorem dL_law_957 : decode cL_law 957 = .ok (.invokevirtual 130, 3) := by decide +kernel
theorem dL_law_960 : decode cL_law 960 = .ok (.if_icmp .eq 5, 3) := by decide +kernel
theorem dL_law_963 : decode cL_law 963 = .ok (.iconst 0, 1) := by decide +kernel
theorem dL_law_964 : decode cL_law 964 = .ok (.ireturn, 1) := by decide +kernel
theorem dL_law_965 : decode cL_law 965 = .ok (.iinc 3 5, 3) := by decide +kernel
theorem dL_law_968 : decode cL_law 968 = .ok (.goto (-950), 3) := by decide +kernel
theorem dL_law_971 : decode cL_law 971 = .ok (.iconst 1, 1) := by decide +kernel
theorem dL_law_972 : decode cL_law 972 = .ok (.ireturn, 1) := by decide +kernel
