theorem dX11_set_50 : decode cX11_set 50 = .ok (.aload_n 0, 1) := by decide +kernel
theorem dX11_set_51 : decode cX11_set 51 = .ok (.getfield 118, 3) := by decide +kernel
theorem dX11_set_54 : decode cX11_set 54 = .ok (.goto 19, 3) := by decide +kernel
theorem dX11_set_57 : decode cX11_set 57 = .ok (.iload_n 1, 1) := by decide +kernel
theorem dX11_set_58 : decode cX11_set 58 = .ok (.iconst 1, 1) := by decide +kernel
theorem dX11_set_59 : decode cX11_set 59 = .ok (.if_icmp .ne 10, 3) := by decide +kernel
theorem dX11_set_62 : decode cX11_set 62 = .ok (.aload_n 0, 1) := by decide +kernel
theorem dX11_set_63 : decode cX11_set 63 = .ok (.getfield 72, 3) := by decide +kernel
theorem dX11_set_66 : decode cX11_set 66 = .ok (.goto 7, 3) := by decide +kernel
theorem dX11_set_69 : decode cX11_set 69 = .ok (.aload_n 0, 1) := by decide +kernel
theorem dX11_set_70 : decode cX11_set 70 = .ok (.getfield 121, 3) := by decide +kernel
theorem dX11_set_73 : decode cX11_set 73 = .ok (.istore_n 3, 1) := by decide +kernel
theorem dX11_set_74 : decode cX11_set 74 = .ok (.aload_n 0, 1) := by decide +kernel
theorem dX11_set_75 : decode cX11_set 75 = .ok (.iload_n 1, 1) := by decide +kernel
theorem dX11_set_76 : decode cX11_set 76 = .ok (.ifCond .ne 7, 3) := by decide +kernel
theorem dX11_set_79 : decode cX11_set 79 = .ok (.iload_n 2, 1) := by decide +kernel
theorem dX11_set_80 : decode cX11_set 80 = .ok (.goto 7, 3) := by decide +kernel
theorem dX11_set_83 : decode cX11_set 83 = .ok (.aload_n 0, 1) := by decide +kernel
theorem dX11_set_84 : decode cX11_set 84 = .ok (.getfield 118, 3) := by decide +kernel
theorem dX11_set_87 : decode cX11_set 87 = .ok (.putfield 118, 3) := by decide +kernel
theorem dX11_set_90 : decode cX11_set 90 = .ok (.aload_n 0, 1) := by decide +kernel
theorem dX11_set_91 : decode cX11_set 91 = .ok (.iload_n 1, 1) := by decide +kernel
theorem dX11_set_92 : decode cX11_set 92 = .ok (.iconst 1, 1) := by decide +kernel
theorem dX11_set_93 : decode cX11_set 93 = .ok (.if_icmp .ne 7, 3) := by decide +kernel
theorem dX11_set_96 : decode cX11_set 96 = .ok (.iload_n 2, 1) := by decide +kernel
theorem dX11_set_97 : decode cX11_set 97 = .ok (.goto 7, 3) := by decide +kernel
theorem dX11_set_100 : decode cX11_set 100 = .ok (.aload_n 0, 1) := by decide +kernel
theorem dX11_set_101 : decode cX11_set 101 = .ok (.getfield 72, 3) := by decide +kernel
theorem dX11_set_104 : decode cX11_set 104 = .ok (.putfield 72, 3) := by decide +kernel
theorem dX11_set_107 : decode cX11_set 107 = .ok (.aload_n 0, 1) := by decide +kernel
theorem dX11_set_108 : decode cX11_set 108 = .ok (.iload_n 1, 1) := by decide +kernel
theorem dX11_set_109 : decode cX11_set 109 = .ok (.iconst 2, 1) := by decide +kernel
theorem dX11_set_110 : decode cX11_set 110 = .ok (.if_icmp .ne 7, 3) := by decide +kernel
theorem dX11_set_113 : decode cX11_set 113 = .ok (.iload_n 2, 1) := by decide +kernel
theorem dX11_set_114 : decode cX11_set 114 = .ok (.goto 7, 3) := by decide +kernel
theorem dX11_set_117 : decode cX11_set 117 = .ok (.aload_n 0, 1) := by decide +kernel
theorem dX11_set_118 : decode cX11_set 118 = .ok (.getfield 121, 3) := by decide +kernel
theorem dX11_set_121 : decode cX11_set 121 = .ok (.putfield 121, 3) := by decide +kernel
theorem dX11_set_124 : decode cX11_set 124 = .ok (.iload_n 3, 1) := by decide +kernel
theorem dX11_set_125 : decode cX11_set 125 = .ok (.ireturn, 1) := by decide +kernel
theorem dX11_say_0 : decode cX11_say 0 = .ok (.iload_n 1, 1) := by decide +kernel
theorem dX11_say_1 : decode cX11_say 1 = .ok (.i2l, 1) := by decide +kernel
theorem dX11_say_2 : decode cX11_say 2 = .ok (.ldc2_w 124, 3) := by decide +kernel
theorem dX11_say_5 : decode cX11_say 5 = .ok (.ldc2_w 126, 3) := by decide +kernel
theorem dX11_say_8 : decode cX11_say 8 = .ok (.invokestatic 78, 3) := by decide +kernel
theorem dX11_say_11 : decode cX11_say 11 = .ok (.ifCond .ne 6, 3) := by decide +kernel
theorem dX11_say_14 : decode cX11_say 14 = .ok (.bipush (-2), 2) := by decide +kernel
theorem dX11_say_16 : decode cX11_say 16 = .ok (.ireturn, 1) := by decide +kernel
theorem dX11_say_17 : decode cX11_say 17 = .ok (.aload_n 0, 1) := by decide +kernel
theorem dX11_say_18 : decode cX11_say 18 = .ok (.getfield 128, 3) := by decide +kernel
theorem dX11_say_21 : decode cX11_say 21 = .ok (.bipush 60, 2) := by decide +kernel
theorem dX11_say_23 : decode cX11_say 23 = .ok (.if_icmp .ne 6, 3) := by decide +kernel
theorem dX11_say_26 : decode cX11_say 26 = .ok (.bipush (-4), 2) := by decide +kernel
theorem dX11_say_28 : decode cX11_say 28 = .ok (.ireturn, 1) := by decide +kernel
theorem dX11_say_29 : decode cX11_say 29 = .ok (.aload_n 0, 1) := by decide +kernel
theorem dX11_say_30 : decode cX11_say 30 = .ok (.getfield 31, 3) := by decide +kernel
theorem dX11_say_33 : decode cX11_say 33 = .ok (.aload_n 0, 1) := by decide +kernel
theorem dX11_say_34 : decode cX11_say 34 = .ok (.getfield 128, 3) := by decide +kernel
theorem dX11_say_37 : decode cX11_say 37 = .ok (.iload_n 1, 1) := by decide +kernel
theorem dX11_say_38 : decode cX11_say 38 = .ok (.iastore, 1) := by decide +kernel
theorem dX11_say_39 : decode cX11_say 39 = .ok (.aload_n 0, 1) := by decide +kernel
theorem dX11_say_40 : decode cX11_say 40 = .ok (.dup, 1) := by decide +kernel
theorem dX11_say_41 : decode cX11_say 41 = .ok (.getfield 128, 3) := by decide +kernel
theorem dX11_say_44 : decode cX11_say 44 = .ok (.iconst 1, 1) := by decide +kernel
theorem dX11_say_45 : decode cX11_say 45 = .ok (.iadd, 1) := by decide +kernel
theorem dX11_say_46 : decode cX11_say 46 = .ok (.putfield 128, 3) := by decide +kernel
theorem dX11_say_49 : decode cX11_say 49 = .ok (.aload_n 0, 1) := by decide +kernel
theorem dX11_say_50 : decode cX11_say 50 = .ok (.getfield 128, 3) := by decide +kernel
theorem dX11_say_53 : decode cX11_say 53 = .ok (.ireturn, 1) := by decide +kernel
theorem dX11_wipe_0 : decode cX11_wipe 0 = .ok (.aload_n 0, 1) := by decide +kernel
theorem dX11_wipe_1 : decode cX11_wipe 1 = .ok (.getfield 128, 3) := by decide +kernel
theorem dX11_wipe_4 : decode cX11_wipe 4 = .ok (.istore_n 1, 1) := by decide +kernel
theorem dX11_wipe_5 : decode cX11_wipe 5 = .ok (.aload_n 0, 1) := by decide +kernel
theorem dX11_wipe_6 : decode cX11_wipe 6 = .ok (.iconst 0, 1) := by decide +kernel
theorem dX11_wipe_7 : decode cX11_wipe 7 = .ok (.putfield 128, 3) := by decide +kernel
theorem dX11_wipe_10 : decode cX11_wipe 10 = .ok (.iload_n 1, 1) := by decide +kernel
theorem dX11_wipe_11 : decode cX11_wipe 11 = .ok (.ireturn, 1) := by decide +kernel
theorem dX11_close_0 : decode cX11_close 0 = .ok (.aload_n 0, 1) := by decide +kernel
theorem dX11_close_1 : decode cX11_close 1 = .ok (.getfield 34, 3) := by decide +kernel
theorem dX11_close_4 : decode cX11_close 4 = .ok (.aload_n 0, 1) := by decide +kernel
theorem dX11_close_5 : decode cX11_close 5 = .ok (.getfield 131, 3) := by decide +kernel
theorem dX11_close_8 : decode cX11_close 8 = .ok (.iload_n 1, 1) := by decide +kernel
theorem dX11_close_9 : decode cX11_close 9 = .ok (.iastore, 1) := by decide +kernel
theorem dX11_close_10 : decode cX11_close 10 = .ok (.aload_n 0, 1) := by decide +kernel
theorem dX11_close_11 : decode cX11_close 11 = .ok (.getfield 40, 3) := by decide +kernel
theorem dX11_close_14 : decode cX11_close 14 = .ok (.aload_n 0, 1) := by decide +kernel
theorem dX11_close_15 : decode cX11_close 15 = .ok (.getfield 131, 3) := by decide +kernel
theorem dX11_close_18 : decode cX11_close 18 = .ok (.iload_n 2, 1) := by decide +kernel
theorem dX11_close_19 : decode cX11_close 19 = .ok (.iastore, 1) := by decide +kernel
theorem dX11_close_20 : decode cX11_close 20 = .ok (.aload_n 0, 1) := by decide +kernel
theorem dX11_close_21 : decode cX11_close 21 = .ok (.dup, 1) := by decide +kernel
theorem dX11_close_22 : decode cX11_close 22 = .ok (.getfield 131, 3) := by decide +kernel
theorem dX11_close_25 : decode cX11_close 25 = .ok (.iconst 1, 1) := by decide +kernel
theorem dX11_close_26 : decode cX11_close 26 = .ok (.iadd, 1) := by decide +kernel
theorem dX11_close_27 : decode cX11_close 27 = .ok (.putfield 131, 3) := by decide +kernel
theorem dX11_close_30 : decode cX11_close 30 = .ok (.iconst 0, 1) := by decide +kernel
theorem dX11_close_31 : decode cX11_close 31 = .ok (.ireturn, 1) := by decide +kernel
theorem dX11_begin_0 : decode cX11_begin 0 = .ok (.iload_n 1, 1) := by decide +kernel
theorem dX11_begin_1 : decode cX11_begin 1 = .ok (.i2l, 1) := by decide +kernel
theorem dX11_begin_2 : decode cX11_begin 2 = .ok (.ldc2_w 134, 3) := by decide +kernel
theorem dX11_begin_5 : decode cX11_begin 5 = .ok (.ldc2_w 136, 3) := by decide +kernel
theorem dX11_begin_8 : decode cX11_begin 8 = .ok (.invokestatic 78, 3) := by decide +kernel
theorem dX11_begin_11 : decode cX11_begin 11 = .ok (.istore_n 2, 1) := by decide +kernel
theorem dX11_begin_12 : decode cX11_begin 12 = .ok (.aload_n 0, 1) := by decide +kernel
theorem dX11_begin_13 : decode cX11_begin 13 = .ok (.getfield 37, 3) := by decide +kernel
theorem dX11_begin_16 : decode cX11_begin 16 = .ok (.aload_n 0, 1) := by decide +kernel
theorem dX11_begin_17 : decode cX11_begin 17 = .ok (.getfield 131, 3) := by decide +kernel
theorem dX11_begin_20 : decode cX11_begin 20 = .ok (.iload_n 2, 1) := by decide +kernel
theorem dX11_begin_21 : decode cX11_begin 21 = .ok (.ifCond .eq 10, 3) := by decide +kernel
theorem dX11_begin_24 : decode cX11_begin 24 = .ok (.iload_n 1, 1) := by decide +kernel
theorem dX11_begin_25 : decode cX11_begin 25 = .ok (.bipush 65, 2) := by decide +kernel
theorem dX11_begin_27 : decode cX11_begin 27 = .ok (.isub, 1) := by decide +kernel
theorem dX11_begin_28 : decode cX11_begin 28 = .ok (.goto 4, 3) := by decide +kernel
theorem dX11_begin_31 : decode cX11_begin 31 = .ok (.iconst 0, 1) := by decide +kernel
theorem dX11_begin_32 : decode cX11_begin 32 = .ok (.iastore, 1) := by decide +kernel
theorem dX11_begin_33 : decode cX11_begin 33 = .ok (.iload_n 1, 1) := by decide +kernel
theorem dX11_begin_34 : decode cX11_begin 34 = .ok (.lookupswitch 66 #[(46, 58), (114, 44), (115, 51), (119, 42)], 42) := by decide +kernel
theorem dX11_begin_76 : decode cX11_begin 76 = .ok (.iconst 2, 1) := by decide +kernel
theorem dX11_begin_77 : decode cX11_begin 77 = .ok (.ireturn, 1) := by decide +kernel
theorem dX11_begin_78 : decode cX11_begin 78 = .ok (.aload_n 0, 1) := by decide +kernel
theorem dX11_begin_79 : decode cX11_begin 79 = .ok (.iconst 4, 1) := by decide +kernel
theorem dX11_begin_80 : decode cX11_begin 80 = .ok (.iconst 0, 1) := by decide +kernel
theorem dX11_begin_81 : decode cX11_begin 81 = .ok (.invokevirtual 138, 3) := by decide +kernel
theorem dX11_begin_84 : decode cX11_begin 84 = .ok (.ireturn, 1) := by decide +kernel
theorem dX11_begin_85 : decode cX11_begin 85 = .ok (.aload_n 0, 1) := by decide +kernel
theorem dX11_begin_86 : decode cX11_begin 86 = .ok (.iconst 5, 1) := by decide +kernel
theorem dX11_begin_87 : decode cX11_begin 87 = .ok (.iconst 0, 1) := by decide +kernel
theorem dX11_begin_88 : decode cX11_begin 88 = .ok (.invokevirtual 138, 3) := by decide +kernel
theorem dX11_begin_91 : decode cX11_begin 91 = .ok (.ireturn, 1) := by decide +kernel
theorem dX11_begin_92 : decode cX11_begin 92 = .ok (.aload_n 0, 1) := by decide +kernel
theorem dX11_begin_93 : decode cX11_begin 93 = .ok (.bipush 6, 2) := by decide +kernel
theorem dX11_begin_95 : decode cX11_begin 95 = .ok (.iconst 0, 1) := by decide +kernel
theorem dX11_begin_96 : decode cX11_begin 96 = .ok (.invokevirtual 138, 3) := by decide +kernel
theorem dX11_begin_99 : decode cX11_begin 99 = .ok (.ireturn, 1) := by decide +kernel
theorem dX11_begin_100 : decode cX11_begin 100 = .ok (.iload_n 2, 1) := by decide +kernel
theorem dX11_begin_101 : decode cX11_begin 101 = .ok (.ifCond .eq 7, 3) := by decide +kernel
theorem dX11_begin_104 : decode cX11_begin 104 = .ok (.iconst 1, 1) := by decide +kernel
theorem dX11_begin_105 : decode cX11_begin 105 = .ok (.goto 5, 3) := by decide +kernel
theorem dX11_begin_108 : decode cX11_begin 108 = .ok (.bipush (-6), 2) := by decide +kernel
theorem dX11_begin_110 : decode cX11_begin 110 = .ok (.ireturn, 1) := by decide +kernel
theorem dX11_readOn_0 : decode cX11_readOn 0 = .ok (.iload_n 1, 1) := by decide +kernel
theorem dX11_readOn_1 : decode cX11_readOn 1 = .ok (.ifCond .ne 9, 3) := by decide +kernel
theorem dX11_readOn_4 : decode cX11_readOn 4 = .ok (.aload_n 0, 1) := by decide +kernel
theorem dX11_readOn_5 : decode cX11_readOn 5 = .ok (.iload_n 2, 1) := by decide +kernel
theorem dX11_readOn_6 : decode cX11_readOn 6 = .ok (.invokevirtual 142, 3) := by decide +kernel
theorem dX11_readOn_9 : decode cX11_readOn 9 = .ok (.ireturn, 1) := by decide +kernel
theorem dX11_readOn_10 : decode cX11_readOn 10 = .ok (.iload_n 1, 1) := by decide +kernel
theorem dX11_readOn_11 : decode cX11_readOn 11 = .ok (.iconst 2, 1) := by decide +kernel
theorem dX11_readOn_12 : decode cX11_readOn 12 = .ok (.if_icmp .ne 37, 3) := by decide +kernel
theorem dX11_readOn_15 : decode cX11_readOn 15 = .ok (.aload_n 0, 1) := by decide +kernel
theorem dX11_readOn_16 : decode cX11_readOn 16 = .ok (.getfield 37, 3) := by decide +kernel
theorem dX11_readOn_19 : decode cX11_readOn 19 = .ok (.aload_n 0, 1) := by decide +kernel
theorem dX11_readOn_20 : decode cX11_readOn 20 = .ok (.getfield 131, 3) := by decide +kernel
theorem dX11_readOn_23 : decode cX11_readOn 23 = .ok (.iload_n 2, 1) := by decide +kernel
theorem dX11_readOn_24 : decode cX11_readOn 24 = .ok (.bipush 48, 2) := by decide +kernel
theorem dX11_readOn_26 : decode cX11_readOn 26 = .ok (.isub, 1) := by decide +kernel
theorem dX11_readOn_27 : decode cX11_readOn 27 = .ok (.iastore, 1) := by decide +kernel
theorem dX11_readOn_28 : decode cX11_readOn 28 = .ok (.iload_n 2, 1) := by decide +kernel
theorem dX11_readOn_29 : decode cX11_readOn 29 = .ok (.i2l, 1) := by decide +kernel
theorem dX11_readOn_30 : decode cX11_readOn 30 = .ok (.ldc2_w 145, 3) := by decide +kernel
theorem dX11_readOn_33 : decode cX11_readOn 33 = .ok (.ldc2_w 147, 3) := by decide +kernel
theorem dX11_readOn_36 : decode cX11_readOn 36 = .ok (.invokestatic 78, 3) := by decide +kernel
theorem dX11_readOn_39 : decode cX11_readOn 39 = .ok (.ifCond .eq 7, 3) := by decide +kernel
theorem dX11_readOn_42 : decode cX11_readOn 42 = .ok (.iconst 3, 1) := by decide +kernel
theorem dX11_readOn_43 : decode cX11_readOn 43 = .ok (.goto 5, 3) := by decide +kernel
theorem dX11_readOn_46 : decode cX11_readOn 46 = .ok (.bipush (-6), 2) := by decide +kernel
theorem dX11_readOn_48 : decode cX11_readOn 48 = .ok (.ireturn, 1) := by decide +kernel
theorem dX11_readOn_49 : decode cX11_readOn 49 = .ok (.iload_n 1, 1) := by decide +kernel
theorem dX11_readOn_50 : decode cX11_readOn 50 = .ok (.iconst 3, 1) := by decide +kernel
theorem dX11_readOn_51 : decode cX11_readOn 51 = .ok (.if_icmp .ne 32, 3) := by decide +kernel
theorem dX11_readOn_54 : decode cX11_readOn 54 = .ok (.iload_n 2, 1) := by decide +kernel
theorem dX11_readOn_55 : decode cX11_readOn 55 = .ok (.i2l, 1) := by decide +kernel
theorem dX11_readOn_56 : decode cX11_readOn 56 = .ok (.ldc2_w 145, 3) := by decide +kernel
theorem dX11_readOn_59 : decode cX11_readOn 59 = .ok (.ldc2_w 149, 3) := by decide +kernel
theorem dX11_readOn_62 : decode cX11_readOn 62 = .ok (.invokestatic 78, 3) := by decide +kernel
theorem dX11_readOn_65 : decode cX11_readOn 65 = .ok (.ifCond .eq 15, 3) := by decide +kernel
theorem dX11_readOn_68 : decode cX11_readOn 68 = .ok (.aload_n 0, 1) := by decide +kernel
theorem dX11_readOn_69 : decode cX11_readOn 69 = .ok (.iconst 3, 1) := by decide +kernel
theorem dX11_readOn_70 : decode cX11_readOn 70 = .ok (.iload_n 2, 1) := by decide +kernel
theorem dX11_readOn_71 : decode cX11_readOn 71 = .ok (.bipush 48, 2) := by decide +kernel
theorem dX11_readOn_73 : decode cX11_readOn 73 = .ok (.isub, 1) := by decide +kernel
theorem dX11_readOn_74 : decode cX11_readOn 74 = .ok (.invokevirtual 138, 3) := by decide +kernel
theorem dX11_readOn_77 : decode cX11_readOn 77 = .ok (.goto 5, 3) := by decide +kernel
theorem dX11_readOn_80 : decode cX11_readOn 80 = .ok (.bipush (-6), 2) := by decide +kernel
theorem dX11_readOn_82 : decode cX11_readOn 82 = .ok (.ireturn, 1) := by decide +kernel
theorem dX11_readOn_83 : decode cX11_readOn 83 = .ok (.iload_n 2, 1) := by decide +kernel
theorem dX11_readOn_84 : decode cX11_readOn 84 = .ok (.bipush 99, 2) := by decide +kernel
theorem dX11_readOn_86 : decode cX11_readOn 86 = .ok (.if_icmp .ne 12, 3) := by decide +kernel
theorem dX11_readOn_89 : decode cX11_readOn 89 = .ok (.aload_n 0, 1) := by decide +kernel
theorem dX11_readOn_90 : decode cX11_readOn 90 = .ok (.iconst 1, 1) := by decide +kernel
theorem dX11_readOn_91 : decode cX11_readOn 91 = .ok (.iconst 0, 1) := by decide +kernel
theorem dX11_readOn_92 : decode cX11_readOn 92 = .ok (.invokevirtual 138, 3) := by decide +kernel
theorem dX11_readOn_95 : decode cX11_readOn 95 = .ok (.goto 46, 3) := by decide +kernel
theorem dX11_readOn_98 : decode cX11_readOn 98 = .ok (.iload_n 2, 1) := by decide +kernel
theorem dX11_readOn_99 : decode cX11_readOn 99 = .ok (.bipush 109, 2) := by decide +kernel
theorem dX11_readOn_101 : decode cX11_readOn 101 = .ok (.if_icmp .ne 12, 3) := by decide +kernel
theorem dX11_readOn_104 : decode cX11_readOn 104 = .ok (.aload_n 0, 1) := by decide +kernel
theorem dX11_readOn_105 : decode cX11_readOn 105 = .ok (.iconst 2, 1) := by decide +kernel
theorem dX11_readOn_106 : decode cX11_readOn 106 = .ok (.iconst 0, 1) := by decide +kernel
theorem dX11_readOn_107 : decode cX11_readOn 107 = .ok (.invokevirtual 138, 3) := by decide +kernel
theorem dX11_readOn_110 : decode cX11_readOn 110 = .ok (.goto 31, 3) := by decide +kernel
theorem dX11_readOn_113 : decode cX11_readOn 113 = .ok (.iload_n 2, 1) := by decide +kernel
theorem dX11_readOn_114 : decode cX11_readOn 114 = .ok (.i2l, 1) := by decide +kernel
theorem dX11_readOn_115 : decode cX11_readOn 115 = .ok (.ldc2_w 151, 3) := by decide +kernel
theorem dX11_readOn_118 : decode cX11_readOn 118 = .ok (.ldc2_w 153, 3) := by decide +kernel
theorem dX11_readOn_121 : decode cX11_readOn 121 = .ok (.invokestatic 78, 3) := by decide +kernel
theorem dX11_readOn_124 : decode cX11_readOn 124 = .ok (.ifCond .eq 15, 3) := by decide +kernel
theorem dX11_readOn_127 : decode cX11_readOn 127 = .ok (.aload_n 0, 1) := by decide +kernel
theorem dX11_readOn_128 : decode cX11_readOn 128 = .ok (.iconst 0, 1) := by decide +kernel
theorem dX11_readOn_129 : decode cX11_readOn 129 = .ok (.iload_n 2, 1) := by decide +kernel
theorem dX11_readOn_130 : decode cX11_readOn 130 = .ok (.bipush 48, 2) := by decide +kernel
theorem dX11_readOn_132 : decode cX11_readOn 132 = .ok (.isub, 1) := by decide +kernel
theorem dX11_readOn_133 : decode cX11_readOn 133 = .ok (.invokevirtual 138, 3) := by decide +kernel
theorem dX11_readOn_136 : decode cX11_readOn 136 = .ok (.goto 5, 3) := by decide +kernel
theorem dX11_readOn_139 : decode cX11_readOn 139 = .ok (.bipush (-6), 2) := by decide +kernel
theorem dX11_readOn_141 : decode cX11_readOn 141 = .ok (.ireturn, 1) := by decide +kernel
theorem dX11_fault_0 : decode cX11_fault 0 = .ok (.aload_n 0, 1) := by decide +kernel
theorem dX11_fault_1 : decode cX11_fault 1 = .ok (.iconst 0, 1) := by decide +kernel
theorem dX11_fault_2 : decode cX11_fault 2 = .ok (.putfield 131, 3) := by decide +kernel
theorem dX11_fault_5 : decode cX11_fault 5 = .ok (.iconst 0, 1) := by decide +kernel
theorem dX11_fault_6 : decode cX11_fault 6 = .ok (.istore_n 1, 1) := by decide +kernel
theorem dX11_fault_7 : decode cX11_fault 7 = .ok (.iconst 0, 1) := by decide +kernel
theorem dX11_fault_8 : decode cX11_fault 8 = .ok (.istore_n 2, 1) := by decide +kernel
theorem dX11_fault_9 : decode cX11_fault 9 = .ok (.iload_n 2, 1) := by decide +kernel
theorem dX11_fault_10 : decode cX11_fault 10 = .ok (.aload_n 0, 1) := by decide +kernel
theorem dX11_fault_11 : decode cX11_fault 11 = .ok (.getfield 128, 3) := by decide +kernel
theorem dX11_fault_14 : decode cX11_fault 14 = .ok (.if_icmp .ge 27, 3) := by decide +kernel
theorem dX11_fault_17 : decode cX11_fault 17 = .ok (.aload_n 0, 1) := by decide +kernel
theorem dX11_fault_18 : decode cX11_fault 18 = .ok (.iload_n 1, 1) := by decide +kernel
theorem dX11_fault_19 : decode cX11_fault 19 = .ok (.aload_n 0, 1) := by decide +kernel
theorem dX11_fault_20 : decode cX11_fault 20 = .ok (.getfield 31, 3) := by decide +kernel
theorem dX11_fault_23 : decode cX11_fault 23 = .ok (.iload_n 2, 1) := by decide +kernel
theorem dX11_fault_24 : decode cX11_fault 24 = .ok (.iaload, 1) := by decide +kernel
theorem dX11_fault_25 : decode cX11_fault 25 = .ok (.invokevirtual 155, 3) := by decide +kernel
theorem dX11_fault_28 : decode cX11_fault 28 = .ok (.istore_n 1, 1) := by decide +kernel
theorem dX11_fault_29 : decode cX11_fault 29 = .ok (.iload_n 1, 1) := by decide +kernel
theorem dX11_fault_30 : decode cX11_fault 30 = .ok (.ifCond .ge 5, 3) := by decide +kernel
theorem dX11_fault_33 : decode cX11_fault 33 = .ok (.iload_n 2, 1) := by decide +kernel
theorem dX11_fault_34 : decode cX11_fault 34 = .ok (.ireturn, 1) := by decide +kernel
theorem dX11_fault_35 : decode cX11_fault 35 = .ok (.iinc 2 1, 3) := by decide +kernel
theorem dX11_fault_38 : decode cX11_fault 38 = .ok (.goto (-29), 3) := by decide +kernel
theorem dX11_fault_41 : decode cX11_fault 41 = .ok (.iload_n 1, 1) := by decide +kernel
theorem dX11_fault_42 : decode cX11_fault 42 = .ok (.ifCond .ne 8, 3) := by decide +kernel
theorem dX11_fault_45 : decode cX11_fault 45 = .ok (.bipush (-6), 2) := by decide +kernel
theorem dX11_fault_47 : decode cX11_fault 47 = .ok (.goto 7, 3) := by decide +kernel
theorem dX11_fault_50 : decode cX11_fault 50 = .ok (.aload_n 0, 1) := by decide +kernel
theorem dX11_fault_51 : decode cX11_fault 51 = .ok (.getfield 128, 3) := by decide +kernel
theorem dX11_fault_54 : decode cX11_fault 54 = .ok (.ireturn, 1) := by decide +kernel
theorem dX11_whyNotPuff_0 : decode cX11_whyNotPuff 0 = .ok (.aload_n 0, 1) := by decide +kernel
theorem dX11_whyNotPuff_1 : decode cX11_whyNotPuff 1 = .ok (.getfield 121, 3) := by decide +kernel
theorem dX11_whyNotPuff_4 : decode cX11_whyNotPuff 4 = .ok (.iconst 1, 1) := by decide +kernel
theorem dX11_whyNotPuff_5 : decode cX11_whyNotPuff 5 = .ok (.if_icmp .ne 5, 3) := by decide +kernel
theorem dX11_whyNotPuff_8 : decode cX11_whyNotPuff 8 = .ok (.iconst 2, 1) := by decide +kernel
theorem dX11_whyNotPuff_9 : decode cX11_whyNotPuff 9 = .ok (.ireturn, 1) := by decide +kernel
theorem dX11_whyNotPuff_10 : decode cX11_whyNotPuff 10 = .ok (.aload_n 0, 1) := by decide +kernel
theorem dX11_whyNotPuff_11 : decode cX11_whyNotPuff 11 = .ok (.getfield 13, 3) := by decide +kernel
theorem dX11_whyNotPuff_14 : decode cX11_whyNotPuff 14 = .ok (.iload_n 1, 1) := by decide +kernel
theorem dX11_whyNotPuff_15 : decode cX11_whyNotPuff 15 = .ok (.iaload, 1) := by decide +kernel
theorem dX11_whyNotPuff_16 : decode cX11_whyNotPuff 16 = .ok (.iload_n 2, 1) := by decide +kernel
theorem dX11_whyNotPuff_17 : decode cX11_whyNotPuff 17 = .ok (.if_icmp .ge 7, 3) := by decide +kernel
theorem dX11_whyNotPuff_20 : decode cX11_whyNotPuff 20 = .ok (.iconst 3, 1) := by decide +kernel
theorem dX11_whyNotPuff_21 : decode cX11_whyNotPuff 21 = .ok (.goto 25, 3) := by decide +kernel
theorem dX11_whyNotPuff_24 : decode cX11_whyNotPuff 24 = .ok (.aload_n 0, 1) := by decide +kernel
theorem dX11_whyNotPuff_25 : decode cX11_whyNotPuff 25 = .ok (.getfield 19, 3) := by decide +kernel
theorem dX11_whyNotPuff_28 : decode cX11_whyNotPuff 28 = .ok (.iload_n 1, 1) := by decide +kernel
theorem dX11_whyNotPuff_29 : decode cX11_whyNotPuff 29 = .ok (.iaload, 1) := by decide +kernel
theorem dX11_whyNotPuff_30 : decode cX11_whyNotPuff 30 = .ok (.iload_n 2, 1) := by decide +kernel
theorem dX11_whyNotPuff_31 : decode cX11_whyNotPuff 31 = .ok (.iadd, 1) := by decide +kernel
theorem dX11_whyNotPuff_32 : decode cX11_whyNotPuff 32 = .ok (.aload_n 0, 1) := by decide +kernel
theorem dX11_whyNotPuff_33 : decode cX11_whyNotPuff 33 = .ok (.getfield 16, 3) := by decide +kernel
theorem dX11_whyNotPuff_36 : decode cX11_whyNotPuff 36 = .ok (.iload_n 1, 1) := by decide +kernel
theorem dX11_whyNotPuff_37 : decode cX11_whyNotPuff 37 = .ok (.iaload, 1) := by decide +kernel
theorem dX11_whyNotPuff_38 : decode cX11_whyNotPuff 38 = .ok (.if_icmp .le 7, 3) := by decide +kernel
theorem dX11_whyNotPuff_41 : decode cX11_whyNotPuff 41 = .ok (.iconst 4, 1) := by decide +kernel
theorem dX11_whyNotPuff_42 : decode cX11_whyNotPuff 42 = .ok (.goto 4, 3) := by decide +kernel
theorem dX11_whyNotPuff_45 : decode cX11_whyNotPuff 45 = .ok (.iconst 0, 1) := by decide +kernel
theorem dX11_whyNotPuff_46 : decode cX11_whyNotPuff 46 = .ok (.ireturn, 1) := by decide +kernel
theorem dX11_whyNot_0 : decode cX11_whyNot 0 = .ok (.iload_n 1, 1) := by decide +kernel
theorem dX11_whyNot_1 : decode cX11_whyNot 1 = .ok (.bipush 6, 2) := by decide +kernel
theorem dX11_whyNot_3 : decode cX11_whyNot 3 = .ok (.if_icmp .ne 18, 3) := by decide +kernel
theorem dX11_whyNot_6 : decode cX11_whyNot 6 = .ok (.aload_n 0, 1) := by decide +kernel
theorem dX11_whyNot_7 : decode cX11_whyNot 7 = .ok (.getfield 158, 3) := by decide +kernel
theorem dX11_whyNot_10 : decode cX11_whyNot 10 = .ok (.bipush 99, 2) := by decide +kernel
theorem dX11_whyNot_12 : decode cX11_whyNot 12 = .ok (.if_icmp .ne 7, 3) := by decide +kernel
theorem dX11_whyNot_15 : decode cX11_whyNot 15 = .ok (.iconst 5, 1) := by decide +kernel
theorem dX11_whyNot_16 : decode cX11_whyNot 16 = .ok (.goto 4, 3) := by decide +kernel
theorem dX11_whyNot_19 : decode cX11_whyNot 19 = .ok (.iconst 0, 1) := by decide +kernel
theorem dX11_whyNot_20 : decode cX11_whyNot 20 = .ok (.ireturn, 1) := by decide +kernel
theorem dX11_whyNot_21 : decode cX11_whyNot 21 = .ok (.iload_n 1, 1) := by decide +kernel
theorem dX11_whyNot_22 : decode cX11_whyNot 22 = .ok (.iconst 2, 1) := by decide +kernel
theorem dX11_whyNot_23 : decode cX11_whyNot 23 = .ok (.if_icmp .le 5, 3) := by decide +kernel
theorem dX11_whyNot_26 : decode cX11_whyNot 26 = .ok (.iconst 0, 1) := by decide +kernel
theorem dX11_whyNot_27 : decode cX11_whyNot 27 = .ok (.ireturn, 1) := by decide +kernel
theorem dX11_whyNot_28 : decode cX11_whyNot 28 = .ok (.aload_n 0, 1) := by decide +kernel
theorem dX11_whyNot_29 : decode cX11_whyNot 29 = .ok (.iload_n 2, 1) := by decide +kernel
theorem dX11_whyNot_30 : decode cX11_whyNot 30 = .ok (.invokevirtual 87, 3) := by decide +kernel
theorem dX11_whyNot_33 : decode cX11_whyNot 33 = .ok (.ifCond .ne 5, 3) := by decide +kernel
theorem dX11_whyNot_36 : decode cX11_whyNot 36 = .ok (.iconst 1, 1) := by decide +kernel
theorem dX11_whyNot_37 : decode cX11_whyNot 37 = .ok (.ireturn, 1) := by decide +kernel
theorem dX11_whyNot_38 : decode cX11_whyNot 38 = .ok (.iload_n 1, 1) := by decide +kernel
theorem dX11_whyNot_39 : decode cX11_whyNot 39 = .ok (.lookupswitch 59 #[(0, 25), (1, 32)], 25) := by decide +kernel
theorem dX11_whyNot_64 : decode cX11_whyNot 64 = .ok (.aload_n 0, 1) := by decide +kernel
theorem dX11_whyNot_65 : decode cX11_whyNot 65 = .ok (.iload_n 2, 1) := by decide +kernel
theorem dX11_whyNot_66 : decode cX11_whyNot 66 = .ok (.iload_n 3, 1) := by decide +kernel
theorem dX11_whyNot_67 : decode cX11_whyNot 67 = .ok (.invokevirtual 161, 3) := by decide +kernel
theorem dX11_whyNot_70 : decode cX11_whyNot 70 = .ok (.ireturn, 1) := by decide +kernel
theorem dX11_whyNot_71 : decode cX11_whyNot 71 = .ok (.aload_n 0, 1) := by decide +kernel
theorem dX11_whyNot_72 : decode cX11_whyNot 72 = .ok (.getfield 121, 3) := by decide +kernel
theorem dX11_whyNot_75 : decode cX11_whyNot 75 = .ok (.iconst 1, 1) := by decide +kernel
theorem dX11_whyNot_76 : decode cX11_whyNot 76 = .ok (.if_icmp .ne 7, 3) := by decide +kernel
theorem dX11_whyNot_79 : decode cX11_whyNot 79 = .ok (.iconst 2, 1) := by decide +kernel
theorem dX11_whyNot_80 : decode cX11_whyNot 80 = .ok (.goto 17, 3) := by decide +kernel
theorem dX11_whyNot_83 : decode cX11_whyNot 83 = .ok (.aload_n 0, 1) := by decide +kernel
theorem dX11_whyNot_84 : decode cX11_whyNot 84 = .ok (.getfield 13, 3) := by decide +kernel
theorem dX11_whyNot_87 : decode cX11_whyNot 87 = .ok (.iload_n 2, 1) := by decide +kernel
theorem dX11_whyNot_88 : decode cX11_whyNot 88 = .ok (.iaload, 1) := by decide +kernel
theorem dX11_whyNot_89 : decode cX11_whyNot 89 = .ok (.ifCond .ne 7, 3) := by decide +kernel
theorem dX11_whyNot_92 : decode cX11_whyNot 92 = .ok (.iconst 3, 1) := by decide +kernel
theorem dX11_whyNot_93 : decode cX11_whyNot 93 = .ok (.goto 4, 3) := by decide +kernel
theorem dX11_whyNot_96 : decode cX11_whyNot 96 = .ok (.iconst 0, 1) := by decide +kernel
theorem dX11_whyNot_97 : decode cX11_whyNot 97 = .ok (.ireturn, 1) := by decide +kernel
theorem dX11_whyNot_98 : decode cX11_whyNot 98 = .ok (.aload_n 0, 1) := by decide +kernel
theorem dX11_whyNot_99 : decode cX11_whyNot 99 = .ok (.getfield 22, 3) := by decide +kernel
theorem dX11_whyNot_102 : decode cX11_whyNot 102 = .ok (.aload_n 0, 1) := by decide +kernel
theorem dX11_whyNot_103 : decode cX11_whyNot 103 = .ok (.getfield 7, 3) := by decide +kernel
theorem dX11_whyNot_106 : decode cX11_whyNot 106 = .ok (.iload_n 2, 1) := by decide +kernel
theorem dX11_whyNot_107 : decode cX11_whyNot 107 = .ok (.iaload, 1) := by decide +kernel
theorem dX11_whyNot_108 : decode cX11_whyNot 108 = .ok (.iaload, 1) := by decide +kernel
theorem dX11_whyNot_109 : decode cX11_whyNot 109 = .ok (.ifCond .ne 7, 3) := by decide +kernel
theorem dX11_whyNot_112 : decode cX11_whyNot 112 = .ok (.iconst 3, 1) := by decide +kernel
theorem dX11_whyNot_113 : decode cX11_whyNot 113 = .ok (.goto 4, 3) := by decide +kernel
theorem dX11_whyNot_116 : decode cX11_whyNot 116 = .ok (.iconst 0, 1) := by decide +kernel
theorem dX11_whyNot_117 : decode cX11_whyNot 117 = .ok (.ireturn, 1) := by decide +kernel
theorem dX11_eastBy_0 : decode cX11_eastBy 0 = .ok (.iload_n 0, 1) := by decide +kernel
theorem dX11_eastBy_1 : decode cX11_eastBy 1 = .ok (.iconst 1, 1) := by decide +kernel
theorem dX11_eastBy_2 : decode cX11_eastBy 2 = .ok (.if_icmp .ne 7, 3) := by decide +kernel
theorem dX11_eastBy_5 : decode cX11_eastBy 5 = .ok (.iconst 1, 1) := by decide +kernel
theorem dX11_eastBy_6 : decode cX11_eastBy 6 = .ok (.goto 13, 3) := by decide +kernel
theorem dX11_eastBy_9 : decode cX11_eastBy 9 = .ok (.iload_n 0, 1) := by decide +kernel
theorem dX11_eastBy_10 : decode cX11_eastBy 10 = .ok (.iconst 3, 1) := by decide +kernel
theorem dX11_eastBy_11 : decode cX11_eastBy 11 = .ok (.if_icmp .ne 7, 3) := by decide +kernel
theorem dX11_eastBy_14 : decode cX11_eastBy 14 = .ok (.iconst (-1), 1) := by decide +kernel
theorem dX11_eastBy_15 : decode cX11_eastBy 15 = .ok (.goto 4, 3) := by decide +kernel
theorem dX11_eastBy_18 : decode cX11_eastBy 18 = .ok (.iconst 0, 1) := by decide +kernel
theorem dX11_eastBy_19 : decode cX11_eastBy 19 = .ok (.ireturn, 1) := by decide +kernel
theorem dX11_northBy_0 : decode cX11_northBy 0 = .ok (.iload_n 0, 1) := by decide +kernel
theorem dX11_northBy_1 : decode cX11_northBy 1 = .ok (.ifCond .ne 7, 3) := by decide +kernel
theorem dX11_northBy_4 : decode cX11_northBy 4 = .ok (.iconst 1, 1) := by decide +kernel
theorem dX11_northBy_5 : decode cX11_northBy 5 = .ok (.goto 13, 3) := by decide +kernel
theorem dX11_northBy_8 : decode cX11_northBy 8 = .ok (.iload_n 0, 1) := by decide +kernel
theorem dX11_northBy_9 : decode cX11_northBy 9 = .ok (.iconst 2, 1) := by decide +kernel
theorem dX11_northBy_10 : decode cX11_northBy 10 = .ok (.if_icmp .ne 7, 3) := by decide +kernel
theorem dX11_northBy_13 : decode cX11_northBy 13 = .ok (.iconst (-1), 1) := by decide +kernel
theorem dX11_northBy_14 : decode cX11_northBy 14 = .ok (.goto 4, 3) := by decide +kernel
theorem dX11_northBy_17 : decode cX11_northBy 17 = .ok (.iconst 0, 1) := by decide +kernel
theorem dX11_northBy_18 : decode cX11_northBy 18 = .ok (.ireturn, 1) := by decide +kernel
theorem dX11_onBy_0 : decode cX11_onBy 0 = .ok (.iload_n 0, 1) := by decide +kernel
theorem dX11_onBy_1 : decode cX11_onBy 1 = .ok (.bipush 6, 2) := by decide +kernel
theorem dX11_onBy_3 : decode cX11_onBy 3 = .ok (.irem, 1) := by decide +kernel
theorem dX11_onBy_4 : decode cX11_onBy 4 = .ok (.iload_n 2, 1) := by decide +kernel
theorem dX11_onBy_5 : decode cX11_onBy 5 = .ok (.iload_n 1, 1) := by decide +kernel
theorem dX11_onBy_6 : decode cX11_onBy 6 = .ok (.invokestatic 164, 3) := by decide +kernel
theorem dX11_onBy_9 : decode cX11_onBy 9 = .ok (.imul, 1) := by decide +kernel
theorem dX11_onBy_10 : decode cX11_onBy 10 = .ok (.iadd, 1) := by decide +kernel
theorem dX11_onBy_11 : decode cX11_onBy 11 = .ok (.istore_n 3, 1) := by decide +kernel
theorem dX11_onBy_12 : decode cX11_onBy 12 = .ok (.iload_n 0, 1) := by decide +kernel
theorem dX11_onBy_13 : decode cX11_onBy 13 = .ok (.bipush 6, 2) := by decide +kernel
theorem dX11_onBy_15 : decode cX11_onBy 15 = .ok (.idiv, 1) := by decide +kernel
theorem dX11_onBy_16 : decode cX11_onBy 16 = .ok (.iload_n 2, 1) := by decide +kernel
theorem dX11_onBy_17 : decode cX11_onBy 17 = .ok (.iload_n 1, 1) := by decide +kernel
theorem dX11_onBy_18 : decode cX11_onBy 18 = .ok (.invokestatic 167, 3) := by decide +kernel
theorem dX11_onBy_21 : decode cX11_onBy 21 = .ok (.imul, 1) := by decide +kernel
theorem dX11_onBy_22 : decode cX11_onBy 22 = .ok (.iadd, 1) := by decide +kernel
theorem dX11_onBy_23 : decode cX11_onBy 23 = .ok (.istore 4, 2) := by decide +kernel
theorem dX11_onBy_25 : decode cX11_onBy 25 = .ok (.iload_n 3, 1) := by decide +kernel
theorem dX11_onBy_26 : decode cX11_onBy 26 = .ok (.i2l, 1) := by decide +kernel
theorem dX11_onBy_27 : decode cX11_onBy 27 = .ok (.lconst 0, 1) := by decide +kernel
theorem dX11_onBy_28 : decode cX11_onBy 28 = .ok (.ldc2_w 82, 3) := by decide +kernel
theorem dX11_onBy_31 : decode cX11_onBy 31 = .ok (.invokestatic 78, 3) := by decide +kernel
theorem dX11_onBy_34 : decode cX11_onBy 34 = .ok (.ifCond .eq 26, 3) := by decide +kernel
theorem dX11_onBy_37 : decode cX11_onBy 37 = .ok (.iload 4, 2) := by decide +kernel
theorem dX11_onBy_39 : decode cX11_onBy 39 = .ok (.i2l, 1) := by decide +kernel
theorem dX11_onBy_40 : decode cX11_onBy 40 = .ok (.lconst 0, 1) := by decide +kernel
theorem dX11_onBy_41 : decode cX11_onBy 41 = .ok (.ldc2_w 82, 3) := by decide +kernel
theorem dX11_onBy_44 : decode cX11_onBy 44 = .ok (.invokestatic 78, 3) := by decide +kernel
theorem dX11_onBy_47 : decode cX11_onBy 47 = .ok (.ifCond .eq 13, 3) := by decide +kernel
theorem dX11_onBy_50 : decode cX11_onBy 50 = .ok (.bipush 6, 2) := by decide +kernel
theorem dX11_onBy_52 : decode cX11_onBy 52 = .ok (.iload 4, 2) := by decide +kernel
theorem dX11_onBy_54 : decode cX11_onBy 54 = .ok (.imul, 1) := by decide +kernel
theorem dX11_onBy_55 : decode cX11_onBy 55 = .ok (.iload_n 3, 1) := by decide +kernel
theorem dX11_onBy_56 : decode cX11_onBy 56 = .ok (.iadd, 1) := by decide +kernel
theorem dX11_onBy_57 : decode cX11_onBy 57 = .ok (.goto 5, 3) := by decide +kernel
theorem dX11_onBy_60 : decode cX11_onBy 60 = .ok (.bipush (-6), 2) := by decide +kernel
theorem dX11_onBy_62 : decode cX11_onBy 62 = .ok (.ireturn, 1) := by decide +kernel
theorem dX11_come_0 : decode cX11_come 0 = .ok (.aload_n 0, 1) := by decide +kernel
theorem dX11_come_1 : decode cX11_come 1 = .ok (.iload_n 1, 1) := by decide +kernel
theorem dX11_come_2 : decode cX11_come 2 = .ok (.invokevirtual 98, 3) := by decide +kernel
theorem dX11_come_5 : decode cX11_come 5 = .ok (.istore_n 3, 1) := by decide +kernel
theorem dX11_come_6 : decode cX11_come 6 = .ok (.iload_n 3, 1) := by decide +kernel
theorem dX11_come_7 : decode cX11_come 7 = .ok (.ifCond .ge 10, 3) := by decide +kernel
theorem dX11_come_10 : decode cX11_come 10 = .ok (.aload_n 0, 1) := by decide +kernel
theorem dX11_come_11 : decode cX11_come 11 = .ok (.iload_n 1, 1) := by decide +kernel
theorem dX11_come_12 : decode cX11_come 12 = .ok (.iload_n 2, 1) := by decide +kernel
theorem dX11_come_13 : decode cX11_come 13 = .ok (.invokevirtual 108, 3) := by decide +kernel
theorem dX11_come_16 : decode cX11_come 16 = .ok (.return_, 1) := by decide +kernel
theorem dX11_come_17 : decode cX11_come 17 = .ok (.aload_n 0, 1) := by decide +kernel
theorem dX11_come_18 : decode cX11_come 18 = .ok (.getfield 13, 3) := by decide +kernel
theorem dX11_come_21 : decode cX11_come 21 = .ok (.iload_n 3, 1) := by decide +kernel
theorem dX11_come_22 : decode cX11_come 22 = .ok (.iaload, 1) := by decide +kernel
theorem dX11_come_23 : decode cX11_come 23 = .ok (.iload_n 2, 1) := by decide +kernel
theorem dX11_come_24 : decode cX11_come 24 = .ok (.iadd, 1) := by decide +kernel
theorem dX11_come_25 : decode cX11_come 25 = .ok (.istore 4, 2) := by decide +kernel
theorem dX11_come_27 : decode cX11_come 27 = .ok (.aload_n 0, 1) := by decide +kernel
theorem dX11_come_28 : decode cX11_come 28 = .ok (.getfield 13, 3) := by decide +kernel
theorem dX11_come_31 : decode cX11_come 31 = .ok (.iload_n 3, 1) := by decide +kernel
theorem dX11_come_32 : decode cX11_come 32 = .ok (.iload 4, 2) := by decide +kernel
theorem dX11_come_34 : decode cX11_come 34 = .ok (.bipush 60, 2) := by decide +kernel
theorem dX11_come_36 : decode cX11_come 36 = .ok (.if_icmp .le 8, 3) := by decide +kernel
theorem dX11_come_39 : decode cX11_come 39 = .ok (.bipush 60, 2) := by decide +kernel
theorem dX11_come_41 : decode cX11_come 41 = .ok (.goto 5, 3) := by decide +kernel
theorem dX11_come_44 : decode cX11_come 44 = .ok (.iload 4, 2) := by decide +kernel
theorem dX11_come_46 : decode cX11_come 46 = .ok (.iastore, 1) := by decide +kernel
theorem dX11_come_47 : decode cX11_come 47 = .ok (.aload_n 0, 1) := by decide +kernel
theorem dX11_come_48 : decode cX11_come 48 = .ok (.iload_n 1, 1) := by decide +kernel
theorem dX11_come_49 : decode cX11_come 49 = .ok (.iload 4, 2) := by decide +kernel
theorem dX11_come_51 : decode cX11_come 51 = .ok (.bipush 60, 2) := by decide +kernel
theorem dX11_come_53 : decode cX11_come 53 = .ok (.if_icmp .le 11, 3) := by decide +kernel
theorem dX11_come_56 : decode cX11_come 56 = .ok (.iload 4, 2) := by decide +kernel
theorem dX11_come_58 : decode cX11_come 58 = .ok (.bipush 60, 2) := by decide +kernel
theorem dX11_come_60 : decode cX11_come 60 = .ok (.isub, 1) := by decide +kernel
theorem dX11_come_61 : decode cX11_come 61 = .ok (.goto 4, 3) := by decide +kernel
theorem dX11_come_64 : decode cX11_come 64 = .ok (.iconst 0, 1) := by decide +kernel
theorem dX11_come_65 : decode cX11_come 65 = .ok (.invokevirtual 108, 3) := by decide +kernel
theorem dX11_come_68 : decode cX11_come 68 = .ok (.return_, 1) := by decide +kernel
theorem dX11_blow_0 : decode cX11_blow 0 = .ok (.aload_n 0, 1) := by decide +kernel
theorem dX11_blow_1 : decode cX11_blow 1 = .ok (.getfield 13, 3) := by decide +kernel
theorem dX11_blow_4 : decode cX11_blow 4 = .ok (.iload_n 1, 1) := by decide +kernel
theorem dX11_blow_5 : decode cX11_blow 5 = .ok (.dup2, 1) := by decide +kernel
theorem dX11_blow_6 : decode cX11_blow 6 = .ok (.iaload, 1) := by decide +kernel
theorem dX11_blow_7 : decode cX11_blow 7 = .ok (.iload_n 2, 1) := by decide +kernel
theorem dX11_blow_8 : decode cX11_blow 8 = .ok (.isub, 1) := by decide +kernel
theorem dX11_blow_9 : decode cX11_blow 9 = .ok (.iastore, 1) := by decide +kernel
theorem dX11_blow_10 : decode cX11_blow 10 = .ok (.aload_n 0, 1) := by decide +kernel
theorem dX11_blow_11 : decode cX11_blow 11 = .ok (.dup, 1) := by decide +kernel
theorem dX11_blow_12 : decode cX11_blow 12 = .ok (.getfield 170, 3) := by decide +kernel
theorem dX11_blow_15 : decode cX11_blow 15 = .ok (.iload_n 2, 1) := by decide +kernel
theorem dX11_blow_16 : decode cX11_blow 16 = .ok (.iadd, 1) := by decide +kernel
theorem dX11_blow_17 : decode cX11_blow 17 = .ok (.putfield 170, 3) := by decide +kernel
theorem dX11_blow_20 : decode cX11_blow 20 = .ok (.aload_n 0, 1) := by decide +kernel
theorem dX11_blow_21 : decode cX11_blow 21 = .ok (.getfield 7, 3) := by decide +kernel
theorem dX11_blow_24 : decode cX11_blow 24 = .ok (.iload_n 1, 1) := by decide +kernel
theorem dX11_blow_25 : decode cX11_blow 25 = .ok (.iaload, 1) := by decide +kernel
theorem dX11_blow_26 : decode cX11_blow 26 = .ok (.aload_n 0, 1) := by decide +kernel
theorem dX11_blow_27 : decode cX11_blow 27 = .ok (.getfield 118, 3) := by decide +kernel
theorem dX11_blow_30 : decode cX11_blow 30 = .ok (.aload_n 0, 1) := by decide +kernel
theorem dX11_blow_31 : decode cX11_blow 31 = .ok (.getfield 72, 3) := by decide +kernel
theorem dX11_blow_34 : decode cX11_blow 34 = .ok (.invokestatic 173, 3) := by decide +kernel
theorem dX11_blow_37 : decode cX11_blow 37 = .ok (.istore_n 3, 1) := by decide +kernel
theorem dX11_blow_38 : decode cX11_blow 38 = .ok (.iload_n 3, 1) := by decide +kernel
theorem dX11_blow_39 : decode cX11_blow 39 = .ok (.ifCond .ge 16, 3) := by decide +kernel
theorem dX11_blow_42 : decode cX11_blow 42 = .ok (.aload_n 0, 1) := by decide +kernel
theorem dX11_blow_43 : decode cX11_blow 43 = .ok (.dup, 1) := by decide +kernel
theorem dX11_blow_44 : decode cX11_blow 44 = .ok (.getfield 105, 3) := by decide +kernel
theorem dX11_blow_47 : decode cX11_blow 47 = .ok (.iload_n 2, 1) := by decide +kernel
theorem dX11_blow_48 : decode cX11_blow 48 = .ok (.iadd, 1) := by decide +kernel
theorem dX11_blow_49 : decode cX11_blow 49 = .ok (.putfield 105, 3) := by decide +kernel
theorem dX11_blow_52 : decode cX11_blow 52 = .ok (.goto 9, 3) := by decide +kernel
theorem dX11_blow_55 : decode cX11_blow 55 = .ok (.aload_n 0, 1) := by decide +kernel
theorem dX11_blow_56 : decode cX11_blow 56 = .ok (.iload_n 3, 1) := by decide +kernel
theorem dX11_blow_57 : decode cX11_blow 57 = .ok (.iload_n 2, 1) := by decide +kernel
theorem dX11_blow_58 : decode cX11_blow 58 = .ok (.invokevirtual 177, 3) := by decide +kernel
theorem dX11_blow_61 : decode cX11_blow 61 = .ok (.return_, 1) := by decide +kernel
theorem dX11_mow_0 : decode cX11_mow 0 = .ok (.aload_n 0, 1) := by decide +kernel
theorem dX11_mow_1 : decode cX11_mow 1 = .ok (.getfield 7, 3) := by decide +kernel
theorem dX11_mow_4 : decode cX11_mow 4 = .ok (.iload_n 1, 1) := by decide +kernel
theorem dX11_mow_5 : decode cX11_mow 5 = .ok (.iaload, 1) := by decide +kernel
theorem dX11_mow_6 : decode cX11_mow 6 = .ok (.istore_n 2, 1) := by decide +kernel
theorem dX11_mow_7 : decode cX11_mow 7 = .ok (.bipush 60, 2) := by decide +kernel
theorem dX11_mow_9 : decode cX11_mow 9 = .ok (.aload_n 0, 1) := by decide +kernel
theorem dX11_mow_10 : decode cX11_mow 10 = .ok (.getfield 13, 3) := by decide +kernel
theorem dX11_mow_13 : decode cX11_mow 13 = .ok (.iload_n 1, 1) := by decide +kernel
theorem dX11_mow_14 : decode cX11_mow 14 = .ok (.iaload, 1) := by decide +kernel
theorem dX11_mow_15 : decode cX11_mow 15 = .ok (.isub, 1) := by decide +kernel
theorem dX11_mow_16 : decode cX11_mow 16 = .ok (.istore_n 3, 1) := by decide +kernel
theorem dX11_mow_17 : decode cX11_mow 17 = .ok (.aload_n 0, 1) := by decide +kernel
theorem dX11_mow_18 : decode cX11_mow 18 = .ok (.getfield 22, 3) := by decide +kernel
theorem dX11_mow_21 : decode cX11_mow 21 = .ok (.iload_n 2, 1) := by decide +kernel
theorem dX11_mow_22 : decode cX11_mow 22 = .ok (.iaload, 1) := by decide +kernel
theorem dX11_mow_23 : decode cX11_mow 23 = .ok (.iload_n 3, 1) := by decide +kernel
theorem dX11_mow_24 : decode cX11_mow 24 = .ok (.if_icmp .ge 12, 3) := by decide +kernel
theorem dX11_mow_27 : decode cX11_mow 27 = .ok (.aload_n 0, 1) := by decide +kernel
theorem dX11_mow_28 : decode cX11_mow 28 = .ok (.getfield 22, 3) := by decide +kernel
theorem dX11_mow_31 : decode cX11_mow 31 = .ok (.iload_n 2, 1) := by decide +kernel
theorem dX11_mow_32 : decode cX11_mow 32 = .ok (.iaload, 1) := by decide +kernel
theorem dX11_mow_33 : decode cX11_mow 33 = .ok (.goto 4, 3) := by decide +kernel
theorem dX11_mow_36 : decode cX11_mow 36 = .ok (.iload_n 3, 1) := by decide +kernel
theorem dX11_mow_37 : decode cX11_mow 37 = .ok (.istore 4, 2) := by decide +kernel
theorem dX11_mow_39 : decode cX11_mow 39 = .ok (.aload_n 0, 1) := by decide +kernel
theorem dX11_mow_40 : decode cX11_mow 40 = .ok (.getfield 13, 3) := by decide +kernel
theorem dX11_mow_43 : decode cX11_mow 43 = .ok (.iload_n 1, 1) := by decide +kernel
theorem dX11_mow_44 : decode cX11_mow 44 = .ok (.dup2, 1) := by decide +kernel
theorem dX11_mow_45 : decode cX11_mow 45 = .ok (.iaload, 1) := by decide +kernel
theorem dX11_mow_46 : decode cX11_mow 46 = .ok (.iload 4, 2) := by decide +kernel
theorem dX11_mow_48 : decode cX11_mow 48 = .ok (.iadd, 1) := by decide +kernel
theorem dX11_mow_49 : decode cX11_mow 49 = .ok (.iastore, 1) := by decide +kernel
theorem dX11_mow_50 : decode cX11_mow 50 = .ok (.aload_n 0, 1) := by decide +kernel
theorem dX11_mow_51 : decode cX11_mow 51 = .ok (.getfield 22, 3) := by decide +kernel
theorem dX11_mow_54 : decode cX11_mow 54 = .ok (.iload_n 2, 1) := by decide +kernel
theorem dX11_mow_55 : decode cX11_mow 55 = .ok (.dup2, 1) := by decide +kernel
theorem dX11_mow_56 : decode cX11_mow 56 = .ok (.iaload, 1) := by decide +kernel
theorem dX11_mow_57 : decode cX11_mow 57 = .ok (.iload 4, 2) := by decide +kernel
theorem dX11_mow_59 : decode cX11_mow 59 = .ok (.isub, 1) := by decide +kernel
theorem dX11_mow_60 : decode cX11_mow 60 = .ok (.iastore, 1) := by decide +kernel
theorem dX11_mow_61 : decode cX11_mow 61 = .ok (.return_, 1) := by decide +kernel
theorem dX11_eat_0 : decode cX11_eat 0 = .ok (.iconst 0, 1) := by decide +kernel
theorem dX11_eat_1 : decode cX11_eat 1 = .ok (.istore_n 1, 1) := by decide +kernel
theorem dX11_eat_2 : decode cX11_eat 2 = .ok (.iload_n 1, 1) := by decide +kernel
theorem dX11_eat_3 : decode cX11_eat 3 = .ok (.bipush 36, 2) := by decide +kernel
theorem dX11_eat_5 : decode cX11_eat 5 = .ok (.if_icmp .ge 43, 3) := by decide +kernel
theorem dX11_eat_8 : decode cX11_eat 8 = .ok (.aload_n 0, 1) := by decide +kernel
theorem dX11_eat_9 : decode cX11_eat 9 = .ok (.dup, 1) := by decide +kernel
theorem dX11_eat_10 : decode cX11_eat 10 = .ok (.getfield 105, 3) := by decide +kernel
theorem dX11_eat_13 : decode cX11_eat 13 = .ok (.aload_n 0, 1) := by decide +kernel
theorem dX11_eat_14 : decode cX11_eat 14 = .ok (.getfield 22, 3) := by decide +kernel
theorem dX11_eat_17 : decode cX11_eat 17 = .ok (.iload_n 1, 1) := by decide +kernel
theorem dX11_eat_18 : decode cX11_eat 18 = .ok (.iaload, 1) := by decide +kernel
theorem dX11_eat_19 : decode cX11_eat 19 = .ok (.iconst 2, 1) := by decide +kernel
theorem dX11_eat_20 : decode cX11_eat 20 = .ok (.idiv, 1) := by decide +kernel
theorem dX11_eat_21 : decode cX11_eat 21 = .ok (.iadd, 1) := by decide +kernel
theorem dX11_eat_22 : decode cX11_eat 22 = .ok (.putfield 105, 3) := by decide +kernel
theorem dX11_eat_25 : decode cX11_eat 25 = .ok (.aload_n 0, 1) := by decide +kernel
theorem dX11_eat_26 : decode cX11_eat 26 = .ok (.getfield 22, 3) := by decide +kernel
theorem dX11_eat_29 : decode cX11_eat 29 = .ok (.iload_n 1, 1) := by decide +kernel
theorem dX11_eat_30 : decode cX11_eat 30 = .ok (.dup2, 1) := by decide +kernel
theorem dX11_eat_31 : decode cX11_eat 31 = .ok (.iaload, 1) := by decide +kernel
theorem dX11_eat_32 : decode cX11_eat 32 = .ok (.aload_n 0, 1) := by decide +kernel
theorem dX11_eat_33 : decode cX11_eat 33 = .ok (.getfield 22, 3) := by decide +kernel
theorem dX11_eat_36 : decode cX11_eat 36 = .ok (.iload_n 1, 1) := by decide +kernel
theorem dX11_eat_37 : decode cX11_eat 37 = .ok (.iaload, 1) := by decide +kernel
theorem dX11_eat_38 : decode cX11_eat 38 = .ok (.iconst 2, 1) := by decide +kernel
theorem dX11_eat_39 : decode cX11_eat 39 = .ok (.idiv, 1) := by decide +kernel
theorem dX11_eat_40 : decode cX11_eat 40 = .ok (.isub, 1) := by decide +kernel
theorem dX11_eat_41 : decode cX11_eat 41 = .ok (.iastore, 1) := by decide +kernel
theorem dX11_eat_42 : decode cX11_eat 42 = .ok (.iinc 1 1, 3) := by decide +kernel
theorem dX11_eat_45 : decode cX11_eat 45 = .ok (.goto (-43), 3) := by decide +kernel
theorem dX11_eat_48 : decode cX11_eat 48 = .ok (.return_, 1) := by decide +kernel
theorem dX11_passHour_0 : decode cX11_passHour 0 = .ok (.iconst 0, 1) := by decide +kernel
theorem dX11_passHour_1 : decode cX11_passHour 1 = .ok (.istore_n 1, 1) := by decide +kernel
theorem dX11_passHour_2 : decode cX11_passHour 2 = .ok (.iload_n 1, 1) := by decide +kernel
theorem dX11_passHour_3 : decode cX11_passHour 3 = .ok (.bipush 6, 2) := by decide +kernel
theorem dX11_passHour_5 : decode cX11_passHour 5 = .ok (.if_icmp .ge 16, 3) := by decide +kernel
theorem dX11_passHour_8 : decode cX11_passHour 8 = .ok (.aload_n 0, 1) := by decide +kernel
theorem dX11_passHour_9 : decode cX11_passHour 9 = .ok (.getfield 19, 3) := by decide +kernel
theorem dX11_passHour_12 : decode cX11_passHour 12 = .ok (.iload_n 1, 1) := by decide +kernel
theorem dX11_passHour_13 : decode cX11_passHour 13 = .ok (.iconst 0, 1) := by decide +kernel
theorem dX11_passHour_14 : decode cX11_passHour 14 = .ok (.iastore, 1) := by decide +kernel
theorem dX11_passHour_15 : decode cX11_passHour 15 = .ok (.iinc 1 1, 3) := by decide +kernel
theorem dX11_passHour_18 : decode cX11_passHour 18 = .ok (.goto (-16), 3) := by decide +kernel
theorem dX11_passHour_21 : decode cX11_passHour 21 = .ok (.aload_n 0, 1) := by decide +kernel
theorem dX11_passHour_22 : decode cX11_passHour 22 = .ok (.dup, 1) := by decide +kernel
theorem dX11_passHour_23 : decode cX11_passHour 23 = .ok (.getfield 158, 3) := by decide +kernel
theorem dX11_passHour_26 : decode cX11_passHour 26 = .ok (.iconst 1, 1) := by decide +kernel
theorem dX11_passHour_27 : decode cX11_passHour 27 = .ok (.iadd, 1) := by decide +kernel
theorem dX11_passHour_28 : decode cX11_passHour 28 = .ok (.putfield 158, 3) := by decide +kernel
theorem dX11_passHour_31 : decode cX11_passHour 31 = .ok (.return_, 1) := by decide +kernel
theorem dX11_happen_0 : decode cX11_happen 0 = .ok (.iload_n 1, 1) := by decide +kernel
theorem dX11_happen_1 : decode cX11_happen 1 = .ok (.tableswitch 113 0 5 #[39, 58, 72, 80, 93, 106], 39) := by decide +kernel
theorem dX11_happen_40 : decode cX11_happen 40 = .ok (.aload_n 0, 1) := by decide +kernel
theorem dX11_happen_41 : decode cX11_happen 41 = .ok (.getfield 19, 3) := by decide +kernel
theorem dX11_happen_44 : decode cX11_happen 44 = .ok (.iload_n 2, 1) := by decide +kernel
theorem dX11_happen_45 : decode cX11_happen 45 = .ok (.dup2, 1) := by decide +kernel
theorem dX11_happen_46 : decode cX11_happen 46 = .ok (.iaload, 1) := by decide +kernel
theorem dX11_happen_47 : decode cX11_happen 47 = .ok (.iload_n 3, 1) := by decide +kernel
theorem dX11_happen_48 : decode cX11_happen 48 = .ok (.iadd, 1) := by decide +kernel
theorem dX11_happen_49 : decode cX11_happen 49 = .ok (.iastore, 1) := by decide +kernel
theorem dX11_happen_50 : decode cX11_happen 50 = .ok (.aload_n 0, 1) := by decide +kernel
theorem dX11_happen_51 : decode cX11_happen 51 = .ok (.iload_n 2, 1) := by decide +kernel
theorem dX11_happen_52 : decode cX11_happen 52 = .ok (.iload_n 3, 1) := by decide +kernel
theorem dX11_happen_53 : decode cX11_happen 53 = .ok (.invokevirtual 180, 3) := by decide +kernel
theorem dX11_happen_56 : decode cX11_happen 56 = .ok (.goto 62, 3) := by decide +kernel
theorem dX11_happen_59 : decode cX11_happen 59 = .ok (.aload_n 0, 1) := by decide +kernel
theorem dX11_happen_60 : decode cX11_happen 60 = .ok (.iload_n 2, 1) := by decide +kernel
theorem dX11_happen_61 : decode cX11_happen 61 = .ok (.aload_n 0, 1) := by decide +kernel
theorem dX11_happen_62 : decode cX11_happen 62 = .ok (.getfield 13, 3) := by decide +kernel
theorem dX11_happen_65 : decode cX11_happen 65 = .ok (.iload_n 2, 1) := by decide +kernel
theorem dX11_happen_66 : decode cX11_happen 66 = .ok (.iaload, 1) := by decide +kernel
theorem dX11_happen_67 : decode cX11_happen 67 = .ok (.invokevirtual 180, 3) := by decide +kernel
theorem dX11_happen_70 : decode cX11_happen 70 = .ok (.goto 48, 3) := by decide +kernel
theorem dX11_happen_73 : decode cX11_happen 73 = .ok (.aload_n 0, 1) := by decide +kernel
theorem dX11_happen_74 : decode cX11_happen 74 = .ok (.iload_n 2, 1) := by decide +kernel
theorem dX11_happen_75 : decode cX11_happen 75 = .ok (.invokevirtual 183, 3) := by decide +kernel
theorem dX11_happen_78 : decode cX11_happen 78 = .ok (.goto 40, 3) := by decide +kernel
theorem dX11_happen_81 : decode cX11_happen 81 = .ok (.aload_n 0, 1) := by decide +kernel
theorem dX11_happen_82 : decode cX11_happen 82 = .ok (.iload_n 2, 1) := by decide +kernel
theorem dX11_happen_83 : decode cX11_happen 83 = .ok (.putfield 118, 3) := by decide +kernel
theorem dX11_happen_86 : decode cX11_happen 86 = .ok (.aload_n 0, 1) := by decide +kernel
theorem dX11_happen_87 : decode cX11_happen 87 = .ok (.iload_n 3, 1) := by decide +kernel
theorem dX11_happen_88 : decode cX11_happen 88 = .ok (.putfield 72, 3) := by decide +kernel
theorem dX11_happen_91 : decode cX11_happen 91 = .ok (.goto 27, 3) := by decide +kernel
theorem dX11_happen_94 : decode cX11_happen 94 = .ok (.aload_n 0, 1) := by decide +kernel
theorem dX11_happen_95 : decode cX11_happen 95 = .ok (.iconst 1, 1) := by decide +kernel
theorem dX11_happen_96 : decode cX11_happen 96 = .ok (.aload_n 0, 1) := by decide +kernel
theorem dX11_happen_97 : decode cX11_happen 97 = .ok (.getfield 121, 3) := by decide +kernel
theorem dX11_happen_100 : decode cX11_happen 100 = .ok (.isub, 1) := by decide +kernel
theorem dX11_happen_101 : decode cX11_happen 101 = .ok (.putfield 121, 3) := by decide +kernel
theorem dX11_happen_104 : decode cX11_happen 104 = .ok (.goto 14, 3) := by decide +kernel
theorem dX11_happen_107 : decode cX11_happen 107 = .ok (.aload_n 0, 1) := by decide +kernel
theorem dX11_happen_108 : decode cX11_happen 108 = .ok (.invokevirtual 187, 3) := by decide +kernel
theorem dX11_happen_111 : decode cX11_happen 111 = .ok (.goto 7, 3) := by decide +kernel
theorem dX11_happen_114 : decode cX11_happen 114 = .ok (.aload_n 0, 1) := by decide +kernel
theorem dX11_happen_115 : decode cX11_happen 115 = .ok (.invokevirtual 190, 3) := by decide +kernel
theorem dX11_happen_118 : decode cX11_happen 118 = .ok (.return_, 1) := by decide +kernel
theorem dX11_keepNow_0 : decode cX11_keepNow 0 = .ok (.iconst 0, 1) := by decide +kernel
theorem dX11_keepNow_1 : decode cX11_keepNow 1 = .ok (.istore_n 1, 1) := by decide +kernel
theorem dX11_keepNow_2 : decode cX11_keepNow 2 = .ok (.iload_n 1, 1) := by decide +kernel
theorem dX11_keepNow_3 : decode cX11_keepNow 3 = .ok (.bipush 6, 2) := by decide +kernel
theorem dX11_keepNow_5 : decode cX11_keepNow 5 = .ok (.if_icmp .ge 36, 3) := by decide +kernel
theorem dX11_keepNow_8 : decode cX11_keepNow 8 = .ok (.aload_n 0, 1) := by decide +kernel
theorem dX11_keepNow_9 : decode cX11_keepNow 9 = .ok (.getfield 43, 3) := by decide +kernel
theorem dX11_keepNow_12 : decode cX11_keepNow 12 = .ok (.iload_n 1, 1) := by decide +kernel
theorem dX11_keepNow_13 : decode cX11_keepNow 13 = .ok (.aload_n 0, 1) := by decide +kernel
theorem dX11_keepNow_14 : decode cX11_keepNow 14 = .ok (.getfield 13, 3) := by decide +kernel
theorem dX11_keepNow_17 : decode cX11_keepNow 17 = .ok (.iload_n 1, 1) := by decide +kernel
theorem dX11_keepNow_18 : decode cX11_keepNow 18 = .ok (.iaload, 1) := by decide +kernel
theorem dX11_keepNow_19 : decode cX11_keepNow 19 = .ok (.iastore, 1) := by decide +kernel
theorem dX11_keepNow_20 : decode cX11_keepNow 20 = .ok (.aload_n 0, 1) := by decide +kernel
theorem dX11_keepNow_21 : decode cX11_keepNow 21 = .ok (.getfield 43, 3) := by decide +kernel
theorem dX11_keepNow_24 : decode cX11_keepNow 24 = .ok (.bipush 6, 2) := by decide +kernel
theorem dX11_keepNow_26 : decode cX11_keepNow 26 = .ok (.iload_n 1, 1) := by decide +kernel
theorem dX11_keepNow_27 : decode cX11_keepNow 27 = .ok (.iadd, 1) := by decide +kernel
theorem dX11_keepNow_28 : decode cX11_keepNow 28 = .ok (.aload_n 0, 1) := by decide +kernel
theorem dX11_keepNow_29 : decode cX11_keepNow 29 = .ok (.getfield 19, 3) := by decide +kernel
theorem dX11_keepNow_32 : decode cX11_keepNow 32 = .ok (.iload_n 1, 1) := by decide +kernel
theorem dX11_keepNow_33 : decode cX11_keepNow 33 = .ok (.iaload, 1) := by decide +kernel
theorem dX11_keepNow_34 : decode cX11_keepNow 34 = .ok (.iastore, 1) := by decide +kernel
theorem dX11_keepNow_35 : decode cX11_keepNow 35 = .ok (.iinc 1 1, 3) := by decide +kernel
theorem dX11_keepNow_38 : decode cX11_keepNow 38 = .ok (.goto (-36), 3) := by decide +kernel
theorem dX11_keepNow_41 : decode cX11_keepNow 41 = .ok (.iconst 0, 1) := by decide +kernel
theorem dX11_keepNow_42 : decode cX11_keepNow 42 = .ok (.istore_n 1, 1) := by decide +kernel
theorem dX11_keepNow_43 : decode cX11_keepNow 43 = .ok (.iload_n 1, 1) := by decide +kernel
theorem dX11_keepNow_44 : decode cX11_keepNow 44 = .ok (.bipush 36, 2) := by decide +kernel
theorem dX11_keepNow_46 : decode cX11_keepNow 46 = .ok (.if_icmp .ge 24, 3) := by decide +kernel
theorem dX11_keepNow_49 : decode cX11_keepNow 49 = .ok (.aload_n 0, 1) := by decide +kernel
theorem dX11_keepNow_50 : decode cX11_keepNow 50 = .ok (.getfield 43, 3) := by decide +kernel
theorem dX11_keepNow_53 : decode cX11_keepNow 53 = .ok (.bipush 12, 2) := by decide +kernel
theorem dX11_keepNow_55 : decode cX11_keepNow 55 = .ok (.iload_n 1, 1) := by decide +kernel
theorem dX11_keepNow_56 : decode cX11_keepNow 56 = .ok (.iadd, 1) := by decide +kernel
theorem dX11_keepNow_57 : decode cX11_keepNow 57 = .ok (.aload_n 0, 1) := by decide +kernel
theorem dX11_keepNow_58 : decode cX11_keepNow 58 = .ok (.getfield 22, 3) := by decide +kernel
theorem dX11_keepNow_61 : decode cX11_keepNow 61 = .ok (.iload_n 1, 1) := by decide +kernel
theorem dX11_keepNow_62 : decode cX11_keepNow 62 = .ok (.iaload, 1) := by decide +kernel
theorem dX11_keepNow_63 : decode cX11_keepNow 63 = .ok (.iastore, 1) := by decide +kernel
theorem dX11_keepNow_64 : decode cX11_keepNow 64 = .ok (.iinc 1 1, 3) := by decide +kernel
theorem dX11_keepNow_67 : decode cX11_keepNow 67 = .ok (.goto (-24), 3) := by decide +kernel
theorem dX11_keepNow_70 : decode cX11_keepNow 70 = .ok (.aload_n 0, 1) := by decide +kernel
theorem dX11_keepNow_71 : decode cX11_keepNow 71 = .ok (.getfield 43, 3) := by decide +kernel
theorem dX11_keepNow_74 : decode cX11_keepNow 74 = .ok (.bipush 48, 2) := by decide +kernel
theorem dX11_keepNow_76 : decode cX11_keepNow 76 = .ok (.aload_n 0, 1) := by decide +kernel
theorem dX11_keepNow_77 : decode cX11_keepNow 77 = .ok (.getfield 118, 3) := by decide +kernel
theorem dX11_keepNow_80 : decode cX11_keepNow 80 = .ok (.iastore, 1) := by decide +kernel
theorem dX11_keepNow_81 : decode cX11_keepNow 81 = .ok (.aload_n 0, 1) := by decide +kernel
theorem dX11_keepNow_82 : decode cX11_keepNow 82 = .ok (.getfield 43, 3) := by decide +kernel
theorem dX11_keepNow_85 : decode cX11_keepNow 85 = .ok (.bipush 49, 2) := by decide +kernel
theorem dX11_keepNow_87 : decode cX11_keepNow 87 = .ok (.aload_n 0, 1) := by decide +kernel
theorem dX11_keepNow_88 : decode cX11_keepNow 88 = .ok (.getfield 72, 3) := by decide +kernel
theorem dX11_keepNow_91 : decode cX11_keepNow 91 = .ok (.iastore, 1) := by decide +kernel
theorem dX11_keepNow_92 : decode cX11_keepNow 92 = .ok (.aload_n 0, 1) := by decide +kernel
theorem dX11_keepNow_93 : decode cX11_keepNow 93 = .ok (.getfield 43, 3) := by decide +kernel
theorem dX11_keepNow_96 : decode cX11_keepNow 96 = .ok (.bipush 50, 2) := by decide +kernel
theorem dX11_keepNow_98 : decode cX11_keepNow 98 = .ok (.aload_n 0, 1) := by decide +kernel
theorem dX11_keepNow_99 : decode cX11_keepNow 99 = .ok (.getfield 121, 3) := by decide +kernel
theorem dX11_keepNow_102 : decode cX11_keepNow 102 = .ok (.iastore, 1) := by decide +kernel
theorem dX11_keepNow_103 : decode cX11_keepNow 103 = .ok (.aload_n 0, 1) := by decide +kernel
theorem dX11_keepNow_104 : decode cX11_keepNow 104 = .ok (.getfield 43, 3) := by decide +kernel
theorem dX11_keepNow_107 : decode cX11_keepNow 107 = .ok (.bipush 51, 2) := by decide +kernel
theorem dX11_keepNow_109 : decode cX11_keepNow 109 = .ok (.aload_n 0, 1) := by decide +kernel
theorem dX11_keepNow_110 : decode cX11_keepNow 110 = .ok (.getfield 105, 3) := by decide +kernel
theorem dX11_keepNow_113 : decode cX11_keepNow 113 = .ok (.iastore, 1) := by decide +kernel
theorem dX11_keepNow_114 : decode cX11_keepNow 114 = .ok (.aload_n 0, 1) := by decide +kernel
theorem dX11_keepNow_115 : decode cX11_keepNow 115 = .ok (.getfield 43, 3) := by decide +kernel
theorem dX11_keepNow_118 : decode cX11_keepNow 118 = .ok (.bipush 52, 2) := by decide +kernel
theorem dX11_keepNow_120 : decode cX11_keepNow 120 = .ok (.aload_n 0, 1) := by decide +kernel
theorem dX11_keepNow_121 : decode cX11_keepNow 121 = .ok (.getfield 158, 3) := by decide +kernel
theorem dX11_keepNow_124 : decode cX11_keepNow 124 = .ok (.iastore, 1) := by decide +kernel
theorem dX11_keepNow_125 : decode cX11_keepNow 125 = .ok (.return_, 1) := by decide +kernel
theorem dX11_back_0 : decode cX11_back 0 = .ok (.iconst 0, 1) := by decide +kernel
theorem dX11_back_1 : decode cX11_back 1 = .ok (.istore_n 2, 1) := by decide +kernel
theorem dX11_back_2 : decode cX11_back 2 = .ok (.iload_n 2, 1) := by decide +kernel
theorem dX11_back_3 : decode cX11_back 3 = .ok (.bipush 6, 2) := by decide +kernel
theorem dX11_back_5 : decode cX11_back 5 = .ok (.if_icmp .ge 36, 3) := by decide +kernel
theorem dX11_back_8 : decode cX11_back 8 = .ok (.aload_n 0, 1) := by decide +kernel
theorem dX11_back_9 : decode cX11_back 9 = .ok (.getfield 13, 3) := by decide +kernel
theorem dX11_back_12 : decode cX11_back 12 = .ok (.iload_n 2, 1) := by decide +kernel
theorem dX11_back_13 : decode cX11_back 13 = .ok (.aload_n 0, 1) := by decide +kernel
theorem dX11_back_14 : decode cX11_back 14 = .ok (.getfield 43, 3) := by decide +kernel
theorem dX11_back_17 : decode cX11_back 17 = .ok (.iload_n 2, 1) := by decide +kernel
theorem dX11_back_18 : decode cX11_back 18 = .ok (.iaload, 1) := by decide +kernel
theorem dX11_back_19 : decode cX11_back 19 = .ok (.iastore, 1) := by decide +kernel
theorem dX11_back_20 : decode cX11_back 20 = .ok (.aload_n 0, 1) := by decide +kernel
theorem dX11_back_21 : decode cX11_back 21 = .ok (.getfield 19, 3) := by decide +kernel
theorem dX11_back_24 : decode cX11_back 24 = .ok (.iload_n 2, 1) := by decide +kernel
theorem dX11_back_25 : decode cX11_back 25 = .ok (.aload_n 0, 1) := by decide +kernel
theorem dX11_back_26 : decode cX11_back 26 = .ok (.getfield 43, 3) := by decide +kernel
theorem dX11_back_29 : decode cX11_back 29 = .ok (.bipush 6, 2) := by decide +kernel
theorem dX11_back_31 : decode cX11_back 31 = .ok (.iload_n 2, 1) := by decide +kernel
theorem dX11_back_32 : decode cX11_back 32 = .ok (.iadd, 1) := by decide +kernel
theorem dX11_back_33 : decode cX11_back 33 = .ok (.iaload, 1) := by decide +kernel
theorem dX11_back_34 : decode cX11_back 34 = .ok (.iastore, 1) := by decide +kernel
theorem dX11_back_35 : decode cX11_back 35 = .ok (.iinc 2 1, 3) := by decide +kernel
theorem dX11_back_38 : decode cX11_back 38 = .ok (.goto (-36), 3) := by decide +kernel
theorem dX11_back_41 : decode cX11_back 41 = .ok (.iconst 0, 1) := by decide +kernel
theorem dX11_back_42 : decode cX11_back 42 = .ok (.istore_n 2, 1) := by decide +kernel
theorem dX11_back_43 : decode cX11_back 43 = .ok (.iload_n 2, 1) := by decide +kernel
theorem dX11_back_44 : decode cX11_back 44 = .ok (.bipush 36, 2) := by decide +kernel
theorem dX11_back_46 : decode cX11_back 46 = .ok (.if_icmp .ge 24, 3) := by decide +kernel
theorem dX11_back_49 : decode cX11_back 49 = .ok (.aload_n 0, 1) := by decide +kernel
theorem dX11_back_50 : decode cX11_back 50 = .ok (.getfield 22, 3) := by decide +kernel
theorem dX11_back_53 : decode cX11_back 53 = .ok (.iload_n 2, 1) := by decide +kernel
theorem dX11_back_54 : decode cX11_back 54 = .ok (.aload_n 0, 1) := by decide +kernel
theorem dX11_back_55 : decode cX11_back 55 = .ok (.getfield 43, 3) := by decide +kernel
theorem dX11_back_58 : decode cX11_back 58 = .ok (.bipush 12, 2) := by decide +kernel
theorem dX11_back_60 : decode cX11_back 60 = .ok (.iload_n 2, 1) := by decide +kernel
theorem dX11_back_61 : decode cX11_back 61 = .ok (.iadd, 1) := by decide +kernel
theorem dX11_back_62 : decode cX11_back 62 = .ok (.iaload, 1) := by decide +kernel
theorem dX11_back_63 : decode cX11_back 63 = .ok (.iastore, 1) := by decide +kernel
theorem dX11_back_64 : decode cX11_back 64 = .ok (.iinc 2 1, 3) := by decide +kernel
theorem dX11_back_67 : decode cX11_back 67 = .ok (.goto (-24), 3) := by decide +kernel
theorem dX11_back_70 : decode cX11_back 70 = .ok (.aload_n 0, 1) := by decide +kernel
theorem dX11_back_71 : decode cX11_back 71 = .ok (.aload_n 0, 1) := by decide +kernel
theorem dX11_back_72 : decode cX11_back 72 = .ok (.getfield 43, 3) := by decide +kernel
theorem dX11_back_75 : decode cX11_back 75 = .ok (.bipush 48, 2) := by decide +kernel
theorem dX11_back_77 : decode cX11_back 77 = .ok (.iaload, 1) := by decide +kernel
theorem dX11_back_78 : decode cX11_back 78 = .ok (.putfield 118, 3) := by decide +kernel
theorem dX11_back_81 : decode cX11_back 81 = .ok (.aload_n 0, 1) := by decide +kernel
theorem dX11_back_82 : decode cX11_back 82 = .ok (.aload_n 0, 1) := by decide +kernel
theorem dX11_back_83 : decode cX11_back 83 = .ok (.getfield 43, 3) := by decide +kernel
theorem dX11_back_86 : decode cX11_back 86 = .ok (.bipush 49, 2) := by decide +kernel
theorem dX11_back_88 : decode cX11_back 88 = .ok (.iaload, 1) := by decide +kernel
theorem dX11_back_89 : decode cX11_back 89 = .ok (.putfield 72, 3) := by decide +kernel
theorem dX11_back_92 : decode cX11_back 92 = .ok (.aload_n 0, 1) := by decide +kernel
theorem dX11_back_93 : decode cX11_back 93 = .ok (.aload_n 0, 1) := by decide +kernel
theorem dX11_back_94 : decode cX11_back 94 = .ok (.getfield 43, 3) := by decide +kernel
theorem dX11_back_97 : decode cX11_back 97 = .ok (.bipush 50, 2) := by decide +kernel
theorem dX11_back_99 : decode cX11_back 99 = .ok (.iaload, 1) := by decide +kernel
theorem dX11_back_100 : decode cX11_back 100 = .ok (.putfield 121, 3) := by decide +kernel
theorem dX11_back_103 : decode cX11_back 103 = .ok (.aload_n 0, 1) := by decide +kernel
theorem dX11_back_104 : decode cX11_back 104 = .ok (.aload_n 0, 1) := by decide +kernel
theorem dX11_back_105 : decode cX11_back 105 = .ok (.getfield 43, 3) := by decide +kernel
theorem dX11_back_108 : decode cX11_back 108 = .ok (.bipush 51, 2) := by decide +kernel
theorem dX11_back_110 : decode cX11_back 110 = .ok (.iaload, 1) := by decide +kernel
theorem dX11_back_111 : decode cX11_back 111 = .ok (.putfield 105, 3) := by decide +kernel
theorem dX11_back_114 : decode cX11_back 114 = .ok (.aload_n 0, 1) := by decide +kernel
theorem dX11_back_115 : decode cX11_back 115 = .ok (.aload_n 0, 1) := by decide +kernel
theorem dX11_back_116 : decode cX11_back 116 = .ok (.getfield 43, 3) := by decide +kernel
theorem dX11_back_119 : decode cX11_back 119 = .ok (.bipush 52, 2) := by decide +kernel
theorem dX11_back_121 : decode cX11_back 121 = .ok (.iaload, 1) := by decide +kernel
theorem dX11_back_122 : decode cX11_back 122 = .ok (.putfield 158, 3) := by decide +kernel
theorem dX11_back_125 : decode cX11_back 125 = .ok (.iload_n 1, 1) := by decide +kernel
theorem dX11_back_126 : decode cX11_back 126 = .ok (.ireturn, 1) := by decide +kernel
theorem dX11_rich_0 : decode cX11_rich 0 = .ok (.iconst 0, 1) := by decide +kernel
theorem dX11_rich_1 : decode cX11_rich 1 = .ok (.istore_n 1, 1) := by decide +kernel
theorem dX11_rich_2 : decode cX11_rich 2 = .ok (.iconst 0, 1) := by decide +kernel
theorem dX11_rich_3 : decode cX11_rich 3 = .ok (.istore_n 2, 1) := by decide +kernel
theorem dX11_rich_4 : decode cX11_rich 4 = .ok (.iload_n 2, 1) := by decide +kernel
theorem dX11_rich_5 : decode cX11_rich 5 = .ok (.bipush 6, 2) := by decide +kernel
theorem dX11_rich_7 : decode cX11_rich 7 = .ok (.if_icmp .ge 36, 3) := by decide +kernel
theorem dX11_rich_10 : decode cX11_rich 10 = .ok (.iload_n 1, 1) := by decide +kernel
theorem dX11_rich_11 : decode cX11_rich 11 = .ok (.aload_n 0, 1) := by decide +kernel
theorem dX11_rich_12 : decode cX11_rich 12 = .ok (.iload_n 2, 1) := by decide +kernel
theorem dX11_rich_13 : decode cX11_rich 13 = .ok (.invokevirtual 87, 3) := by decide +kernel
theorem dX11_rich_16 : decode cX11_rich 16 = .ok (.ifCond .eq 18, 3) := by decide +kernel
theorem dX11_rich_19 : decode cX11_rich 19 = .ok (.aload_n 0, 1) := by decide +kernel
theorem dX11_rich_20 : decode cX11_rich 20 = .ok (.getfield 13, 3) := by decide +kernel
theorem dX11_rich_23 : decode cX11_rich 23 = .ok (.iload_n 2, 1) := by decide +kernel
theorem dX11_rich_24 : decode cX11_rich 24 = .ok (.iaload, 1) := by decide +kernel
theorem dX11_rich_25 : decode cX11_rich 25 = .ok (.ifCond .le 9, 3) := by decide +kernel
theorem dX11_rich_28 : decode cX11_rich 28 = .ok (.iconst 1, 1) := by decide +kernel
theorem dX11_rich_29 : decode cX11_rich 29 = .ok (.iload_n 2, 1) := by decide +kernel
theorem dX11_rich_30 : decode cX11_rich 30 = .ok (.ishl, 1) := by decide +kernel
theorem dX11_rich_31 : decode cX11_rich 31 = .ok (.goto 4, 3) := by decide +kernel
theorem dX11_rich_34 : decode cX11_rich 34 = .ok (.iconst 0, 1) := by decide +kernel
theorem dX11_rich_35 : decode cX11_rich 35 = .ok (.ior, 1) := by decide +kernel
theorem dX11_rich_36 : decode cX11_rich 36 = .ok (.istore_n 1, 1) := by decide +kernel
theorem dX11_rich_37 : decode cX11_rich 37 = .ok (.iinc 2 1, 3) := by decide +kernel
theorem dX11_rich_40 : decode cX11_rich 40 = .ok (.goto (-36), 3) := by decide +kernel
theorem dX11_rich_43 : decode cX11_rich 43 = .ok (.iload_n 1, 1) := by decide +kernel
theorem dX11_rich_44 : decode cX11_rich 44 = .ok (.ireturn, 1) := by decide +kernel
theorem dX11_leastOf_0 : decode cX11_leastOf 0 = .ok (.iconst 0, 1) := by decide +kernel
theorem dX11_leastOf_1 : decode cX11_leastOf 1 = .ok (.istore_n 1, 1) := by decide +kernel
theorem dX11_leastOf_2 : decode cX11_leastOf 2 = .ok (.iload_n 0, 1) := by decide +kernel
theorem dX11_leastOf_3 : decode cX11_leastOf 3 = .ok (.iload_n 1, 1) := by decide +kernel
theorem dX11_leastOf_4 : decode cX11_leastOf 4 = .ok (.ishr, 1) := by decide +kernel
theorem dX11_leastOf_5 : decode cX11_leastOf 5 = .ok (.iconst 1, 1) := by decide +kernel
theorem dX11_leastOf_6 : decode cX11_leastOf 6 = .ok (.iand, 1) := by decide +kernel
theorem dX11_leastOf_7 : decode cX11_leastOf 7 = .ok (.ifCond .ne 9, 3) := by decide +kernel
theorem dX11_leastOf_10 : decode cX11_leastOf 10 = .ok (.iinc 1 1, 3) := by decide +kernel
theorem dX11_leastOf_13 : decode cX11_leastOf 13 = .ok (.goto (-11), 3) := by decide +kernel
theorem dX11_leastOf_16 : decode cX11_leastOf 16 = .ok (.iload_n 1, 1) := by decide +kernel
theorem dX11_leastOf_17 : decode cX11_leastOf 17 = .ok (.ireturn, 1) := by decide +kernel
theorem dX11_goOne_0 : decode cX11_goOne 0 = .ok (.aload_n 0, 1) := by decide +kernel
theorem dX11_goOne_1 : decode cX11_goOne 1 = .ok (.invokevirtual 193, 3) := by decide +kernel
theorem dX11_goOne_4 : decode cX11_goOne 4 = .ok (.istore_n 2, 1) := by decide +kernel
theorem dX11_goOne_5 : decode cX11_goOne 5 = .ok (.aload_n 0, 1) := by decide +kernel
theorem dX11_goOne_6 : decode cX11_goOne 6 = .ok (.aload_n 0, 1) := by decide +kernel
theorem dX11_goOne_7 : decode cX11_goOne 7 = .ok (.getfield 34, 3) := by decide +kernel
theorem dX11_goOne_10 : decode cX11_goOne 10 = .ok (.iload_n 1, 1) := by decide +kernel
theorem dX11_goOne_11 : decode cX11_goOne 11 = .ok (.iaload, 1) := by decide +kernel
theorem dX11_goOne_12 : decode cX11_goOne 12 = .ok (.aload_n 0, 1) := by decide +kernel
theorem dX11_goOne_13 : decode cX11_goOne 13 = .ok (.getfield 37, 3) := by decide +kernel
theorem dX11_goOne_16 : decode cX11_goOne 16 = .ok (.iload_n 1, 1) := by decide +kernel
theorem dX11_goOne_17 : decode cX11_goOne 17 = .ok (.iaload, 1) := by decide +kernel
theorem dX11_goOne_18 : decode cX11_goOne 18 = .ok (.aload_n 0, 1) := by decide +kernel
theorem dX11_goOne_19 : decode cX11_goOne 19 = .ok (.getfield 40, 3) := by decide +kernel
theorem dX11_goOne_22 : decode cX11_goOne 22 = .ok (.iload_n 1, 1) := by decide +kernel
theorem dX11_goOne_23 : decode cX11_goOne 23 = .ok (.iaload, 1) := by decide +kernel
theorem dX11_goOne_24 : decode cX11_goOne 24 = .ok (.invokevirtual 197, 3) := by decide +kernel
theorem dX11_goOne_27 : decode cX11_goOne 27 = .ok (.iload_n 2, 1) := by decide +kernel
theorem dX11_goOne_28 : decode cX11_goOne 28 = .ok (.aload_n 0, 1) := by decide +kernel
theorem dX11_goOne_29 : decode cX11_goOne 29 = .ok (.invokevirtual 193, 3) := by decide +kernel
theorem dX11_goOne_32 : decode cX11_goOne 32 = .ok (.iconst (-1), 1) := by decide +kernel
theorem dX11_goOne_33 : decode cX11_goOne 33 = .ok (.ixor, 1) := by decide +kernel
theorem dX11_goOne_34 : decode cX11_goOne 34 = .ok (.iand, 1) := by decide +kernel
theorem dX11_goOne_35 : decode cX11_goOne 35 = .ok (.istore_n 3, 1) := by decide +kernel
theorem dX11_goOne_36 : decode cX11_goOne 36 = .ok (.iload_n 3, 1) := by decide +kernel
theorem dX11_goOne_37 : decode cX11_goOne 37 = .ok (.ifCond .eq 23, 3) := by decide +kernel
theorem dX11_goOne_40 : decode cX11_goOne 40 = .ok (.aload_n 0, 1) := by decide +kernel
theorem dX11_goOne_41 : decode cX11_goOne 41 = .ok (.getfield 201, 3) := by decide +kernel
theorem dX11_goOne_44 : decode cX11_goOne 44 = .ok (.ifCond .ge 16, 3) := by decide +kernel
theorem dX11_goOne_47 : decode cX11_goOne 47 = .ok (.aload_n 0, 1) := by decide +kernel
theorem dX11_goOne_48 : decode cX11_goOne 48 = .ok (.iload_n 1, 1) := by decide +kernel
theorem dX11_goOne_49 : decode cX11_goOne 49 = .ok (.putfield 201, 3) := by decide +kernel
theorem dX11_goOne_52 : decode cX11_goOne 52 = .ok (.aload_n 0, 1) := by decide +kernel
theorem dX11_goOne_53 : decode cX11_goOne 53 = .ok (.iload_n 3, 1) := by decide +kernel
theorem dX11_goOne_54 : decode cX11_goOne 54 = .ok (.invokestatic 204, 3) := by decide +kernel
theorem dX11_goOne_57 : decode cX11_goOne 57 = .ok (.putfield 207, 3) := by decide +kernel
theorem dX11_goOne_60 : decode cX11_goOne 60 = .ok (.return_, 1) := by decide +kernel
theorem dX11_goHours_0 : decode cX11_goHours 0 = .ok (.aload_n 0, 1) := by decide +kernel
theorem dX11_goHours_1 : decode cX11_goHours 1 = .ok (.iconst 0, 1) := by decide +kernel
theorem dX11_goHours_2 : decode cX11_goHours 2 = .ok (.putfield 170, 3) := by decide +kernel
theorem dX11_goHours_5 : decode cX11_goHours 5 = .ok (.aload_n 0, 1) := by decide +kernel
theorem dX11_goHours_6 : decode cX11_goHours 6 = .ok (.bipush (-6), 2) := by decide +kernel
theorem dX11_goHours_8 : decode cX11_goHours 8 = .ok (.putfield 210, 3) := by decide +kernel
theorem dX11_goHours_11 : decode cX11_goHours 11 = .ok (.aload_n 0, 1) := by decide +kernel
theorem dX11_goHours_12 : decode cX11_goHours 12 = .ok (.bipush (-6), 2) := by decide +kernel
theorem dX11_goHours_14 : decode cX11_goHours 14 = .ok (.putfield 213, 3) := by decide +kernel
theorem dX11_goHours_17 : decode cX11_goHours 17 = .ok (.aload_n 0, 1) := by decide +kernel
theorem dX11_goHours_18 : decode cX11_goHours 18 = .ok (.bipush (-6), 2) := by decide +kernel
theorem dX11_goHours_20 : decode cX11_goHours 20 = .ok (.putfield 201, 3) := by decide +kernel
theorem dX11_goHours_23 : decode cX11_goHours 23 = .ok (.aload_n 0, 1) := by decide +kernel
theorem dX11_goHours_24 : decode cX11_goHours 24 = .ok (.bipush (-6), 2) := by decide +kernel
theorem dX11_goHours_26 : decode cX11_goHours 26 = .ok (.putfield 207, 3) := by decide +kernel
theorem dX11_goHours_29 : decode cX11_goHours 29 = .ok (.iconst 0, 1) := by decide +kernel
theorem dX11_goHours_30 : decode cX11_goHours 30 = .ok (.istore_n 1, 1) := by decide +kernel
theorem dX11_goHours_31 : decode cX11_goHours 31 = .ok (.iload_n 1, 1) := by decide +kernel
theorem dX11_goHours_32 : decode cX11_goHours 32 = .ok (.aload_n 0, 1) := by decide +kernel
theorem dX11_goHours_33 : decode cX11_goHours 33 = .ok (.getfield 131, 3) := by decide +kernel
theorem dX11_goHours_36 : decode cX11_goHours 36 = .ok (.if_icmp .ge 76, 3) := by decide +kernel
theorem dX11_goHours_39 : decode cX11_goHours 39 = .ok (.aload_n 0, 1) := by decide +kernel
theorem dX11_goHours_40 : decode cX11_goHours 40 = .ok (.getfield 210, 3) := by decide +kernel
theorem dX11_goHours_43 : decode cX11_goHours 43 = .ok (.ifCond .ge 69, 3) := by decide +kernel
theorem dX11_goHours_46 : decode cX11_goHours 46 = .ok (.aload_n 0, 1) := by decide +kernel
theorem dX11_goHours_47 : decode cX11_goHours 47 = .ok (.aload_n 0, 1) := by decide +kernel
theorem dX11_goHours_48 : decode cX11_goHours 48 = .ok (.getfield 34, 3) := by decide +kernel
theorem dX11_goHours_51 : decode cX11_goHours 51 = .ok (.iload_n 1, 1) := by decide +kernel
theorem dX11_goHours_52 : decode cX11_goHours 52 = .ok (.iaload, 1) := by decide +kernel
theorem dX11_goHours_53 : decode cX11_goHours 53 = .ok (.aload_n 0, 1) := by decide +kernel
theorem dX11_goHours_54 : decode cX11_goHours 54 = .ok (.getfield 37, 3) := by decide +kernel
theorem dX11_goHours_57 : decode cX11_goHours 57 = .ok (.iload_n 1, 1) := by decide +kernel
theorem dX11_goHours_58 : decode cX11_goHours 58 = .ok (.iaload, 1) := by decide +kernel
theorem dX11_goHours_59 : decode cX11_goHours 59 = .ok (.aload_n 0, 1) := by decide +kernel
theorem dX11_goHours_60 : decode cX11_goHours 60 = .ok (.getfield 40, 3) := by decide +kernel
theorem dX11_goHours_63 : decode cX11_goHours 63 = .ok (.iload_n 1, 1) := by decide +kernel
theorem dX11_goHours_64 : decode cX11_goHours 64 = .ok (.iaload, 1) := by decide +kernel
theorem dX11_goHours_65 : decode cX11_goHours 65 = .ok (.invokevirtual 216, 3) := by decide +kernel
theorem dX11_goHours_68 : decode cX11_goHours 68 = .ok (.istore_n 2, 1) := by decide +kernel
theorem dX11_goHours_69 : decode cX11_goHours 69 = .ok (.aload_n 0, 1) := by decide +kernel
theorem dX11_goHours_70 : decode cX11_goHours 70 = .ok (.iload_n 2, 1) := by decide +kernel
theorem dX11_goHours_71 : decode cX11_goHours 71 = .ok (.ifCond .le 7, 3) := by decide +kernel
theorem dX11_goHours_74 : decode cX11_goHours 74 = .ok (.iload_n 1, 1) := by decide +kernel
theorem dX11_goHours_75 : decode cX11_goHours 75 = .ok (.goto 5, 3) := by decide +kernel
theorem dX11_goHours_78 : decode cX11_goHours 78 = .ok (.bipush (-6), 2) := by decide +kernel
theorem dX11_goHours_80 : decode cX11_goHours 80 = .ok (.putfield 210, 3) := by decide +kernel
theorem dX11_goHours_83 : decode cX11_goHours 83 = .ok (.aload_n 0, 1) := by decide +kernel
theorem dX11_goHours_84 : decode cX11_goHours 84 = .ok (.iload_n 2, 1) := by decide +kernel
theorem dX11_goHours_85 : decode cX11_goHours 85 = .ok (.ifCond .le 7, 3) := by decide +kernel
theorem dX11_goHours_88 : decode cX11_goHours 88 = .ok (.iload_n 2, 1) := by decide +kernel
theorem dX11_goHours_89 : decode cX11_goHours 89 = .ok (.goto 5, 3) := by decide +kernel
theorem dX11_goHours_92 : decode cX11_goHours 92 = .ok (.bipush (-6), 2) := by decide +kernel
theorem dX11_goHours_94 : decode cX11_goHours 94 = .ok (.putfield 213, 3) := by decide +kernel
theorem dX11_goHours_97 : decode cX11_goHours 97 = .ok (.iload_n 2, 1) := by decide +kernel
theorem dX11_goHours_98 : decode cX11_goHours 98 = .ok (.ifCond .ne 8, 3) := by decide +kernel
theorem dX11_goHours_101 : decode cX11_goHours 101 = .ok (.aload_n 0, 1) := by decide +kernel
theorem dX11_goHours_102 : decode cX11_goHours 102 = .ok (.iload_n 1, 1) := by decide +kernel
theorem dX11_goHours_103 : decode cX11_goHours 103 = .ok (.invokevirtual 219, 3) := by decide +kernel
theorem dX11_goHours_106 : decode cX11_goHours 106 = .ok (.iinc 1 1, 3) := by decide +kernel
theorem dX11_goHours_109 : decode cX11_goHours 109 = .ok (.goto (-78), 3) := by decide +kernel
theorem dX11_goHours_112 : decode cX11_goHours 112 = .ok (.return_, 1) := by decide +kernel
theorem dX11_refusal_0 : decode cX11_refusal 0 = .ok (.aload_n 0, 1) := by decide +kernel
theorem dX11_refusal_1 : decode cX11_refusal 1 = .ok (.invokevirtual 222, 3) := by decide +kernel
theorem dX11_refusal_4 : decode cX11_refusal 4 = .ok (.aload_n 0, 1) := by decide +kernel
theorem dX11_refusal_5 : decode cX11_refusal 5 = .ok (.invokevirtual 225, 3) := by decide +kernel
theorem dX11_refusal_8 : decode cX11_refusal 8 = .ok (.ifCond .lt 6, 3) := by decide +kernel
theorem dX11_refusal_11 : decode cX11_refusal 11 = .ok (.bipush (-5), 2) := by decide +kernel
theorem dX11_refusal_13 : decode cX11_refusal 13 = .ok (.ireturn, 1) := by decide +kernel
theorem dX11_refusal_14 : decode cX11_refusal 14 = .ok (.aload_n 0, 1) := by decide +kernel
theorem dX11_refusal_15 : decode cX11_refusal 15 = .ok (.invokevirtual 228, 3) := by decide +kernel
theorem dX11_refusal_18 : decode cX11_refusal 18 = .ok (.aload_n 0, 1) := by decide +kernel
theorem dX11_refusal_19 : decode cX11_refusal 19 = .ok (.getfield 210, 3) := by decide +kernel
theorem dX11_refusal_22 : decode cX11_refusal 22 = .ok (.ifCond .lt 8, 3) := by decide +kernel
theorem dX11_refusal_25 : decode cX11_refusal 25 = .ok (.bipush (-3), 2) := by decide +kernel
theorem dX11_refusal_27 : decode cX11_refusal 27 = .ok (.goto 5, 3) := by decide +kernel
theorem dX11_refusal_30 : decode cX11_refusal 30 = .ok (.bipush (-6), 2) := by decide +kernel
theorem dX11_refusal_32 : decode cX11_refusal 32 = .ok (.ireturn, 1) := by decide +kernel
theorem dX11_judge_0 : decode cX11_judge 0 = .ok (.iload_n 1, 1) := by decide +kernel
theorem dX11_judge_1 : decode cX11_judge 1 = .ok (.i2l, 1) := by decide +kernel
theorem dX11_judge_2 : decode cX11_judge 2 = .ok (.lconst 0, 1) := by decide +kernel
theorem dX11_judge_3 : decode cX11_judge 3 = .ok (.ldc2_w 114, 3) := by decide +kernel
theorem dX11_judge_6 : decode cX11_judge 6 = .ok (.invokestatic 78, 3) := by decide +kernel
theorem dX11_judge_9 : decode cX11_judge 9 = .ok (.ifCond .ne 6, 3) := by decide +kernel
theorem dX11_judge_12 : decode cX11_judge 12 = .ok (.bipush (-2), 2) := by decide +kernel
theorem dX11_judge_14 : decode cX11_judge 14 = .ok (.ireturn, 1) := by decide +kernel
theorem dX11_judge_15 : decode cX11_judge 15 = .ok (.aload_n 0, 1) := by decide +kernel
theorem dX11_judge_16 : decode cX11_judge 16 = .ok (.aload_n 0, 1) := by decide +kernel
theorem dX11_judge_17 : decode cX11_judge 17 = .ok (.invokevirtual 231, 3) := by decide +kernel
theorem dX11_judge_20 : decode cX11_judge 20 = .ok (.invokevirtual 234, 3) := by decide +kernel
theorem dX11_judge_23 : decode cX11_judge 23 = .ok (.istore_n 2, 1) := by decide +kernel
theorem dX11_judge_24 : decode cX11_judge 24 = .ok (.iload_n 2, 1) := by decide +kernel
theorem dX11_judge_25 : decode cX11_judge 25 = .ok (.bipush (-5), 2) := by decide +kernel
theorem dX11_judge_27 : decode cX11_judge 27 = .ok (.if_icmp .eq 14, 3) := by decide +kernel
theorem dX11_judge_30 : decode cX11_judge 30 = .ok (.iload_n 1, 1) := by decide +kernel
theorem dX11_judge_31 : decode cX11_judge 31 = .ok (.iconst 1, 1) := by decide +kernel
theorem dX11_judge_32 : decode cX11_judge 32 = .ok (.if_icmp .le 11, 3) := by decide +kernel
theorem dX11_judge_35 : decode cX11_judge 35 = .ok (.iload_n 2, 1) := by decide +kernel
theorem dX11_judge_36 : decode cX11_judge 36 = .ok (.bipush (-3), 2) := by decide +kernel
theorem dX11_judge_38 : decode cX11_judge 38 = .ok (.if_icmp .ne 5, 3) := by decide +kernel
theorem dX11_judge_41 : decode cX11_judge 41 = .ok (.iload_n 2, 1) := by decide +kernel
theorem dX11_judge_42 : decode cX11_judge 42 = .ok (.ireturn, 1) := by decide +kernel
theorem dX11_judge_43 : decode cX11_judge 43 = .ok (.iload_n 1, 1) := by decide +kernel
theorem dX11_judge_44 : decode cX11_judge 44 = .ok (.ifCond .ne 10, 3) := by decide +kernel
theorem dX11_judge_47 : decode cX11_judge 47 = .ok (.aload_n 0, 1) := by decide +kernel
theorem dX11_judge_48 : decode cX11_judge 48 = .ok (.getfield 210, 3) := by decide +kernel
theorem dX11_judge_51 : decode cX11_judge 51 = .ok (.goto 19, 3) := by decide +kernel
theorem dX11_judge_54 : decode cX11_judge 54 = .ok (.iload_n 1, 1) := by decide +kernel
theorem dX11_judge_55 : decode cX11_judge 55 = .ok (.iconst 1, 1) := by decide +kernel
theorem dX11_judge_56 : decode cX11_judge 56 = .ok (.if_icmp .ne 10, 3) := by decide +kernel
theorem dX11_judge_59 : decode cX11_judge 59 = .ok (.aload_n 0, 1) := by decide +kernel
theorem dX11_judge_60 : decode cX11_judge 60 = .ok (.getfield 213, 3) := by decide +kernel
theorem dX11_judge_63 : decode cX11_judge 63 = .ok (.goto 7, 3) := by decide +kernel
theorem dX11_judge_66 : decode cX11_judge 66 = .ok (.aload_n 0, 1) := by decide +kernel
theorem dX11_judge_67 : decode cX11_judge 67 = .ok (.getfield 170, 3) := by decide +kernel
theorem dX11_judge_70 : decode cX11_judge 70 = .ok (.ireturn, 1) := by decide +kernel
theorem dX11_behind_0 : decode cX11_behind 0 = .ok (.aload_n 0, 1) := by decide +kernel
theorem dX11_behind_1 : decode cX11_behind 1 = .ok (.iload_n 1, 1) := by decide +kernel
theorem dX11_behind_2 : decode cX11_behind 2 = .ok (.invokevirtual 87, 3) := by decide +kernel
theorem dX11_behind_5 : decode cX11_behind 5 = .ok (.ifCond .ne 5, 3) := by decide +kernel
theorem dX11_behind_8 : decode cX11_behind 8 = .ok (.iconst (-1), 1) := by decide +kernel
theorem dX11_behind_9 : decode cX11_behind 9 = .ok (.ireturn, 1) := by decide +kernel
theorem dX11_behind_10 : decode cX11_behind 10 = .ok (.iload_n 2, 1) := by decide +kernel
theorem dX11_behind_11 : decode cX11_behind 11 = .ok (.i2l, 1) := by decide +kernel
theorem dX11_behind_12 : decode cX11_behind 12 = .ok (.lconst 0, 1) := by decide +kernel
theorem dX11_behind_13 : decode cX11_behind 13 = .ok (.lconst 1, 1) := by decide +kernel
theorem dX11_behind_14 : decode cX11_behind 14 = .ok (.invokestatic 78, 3) := by decide +kernel
theorem dX11_behind_17 : decode cX11_behind 17 = .ok (.ifCond .ne 6, 3) := by decide +kernel
theorem dX11_behind_20 : decode cX11_behind 20 = .ok (.bipush (-2), 2) := by decide +kernel
theorem dX11_behind_22 : decode cX11_behind 22 = .ok (.ireturn, 1) := by decide +kernel
theorem dX11_behind_23 : decode cX11_behind 23 = .ok (.aload_n 0, 1) := by decide +kernel
theorem dX11_behind_24 : decode cX11_behind 24 = .ok (.invokevirtual 231, 3) := by decide +kernel
theorem dX11_behind_27 : decode cX11_behind 27 = .ok (.istore_n 3, 1) := by decide +kernel
theorem dX11_behind_28 : decode cX11_behind 28 = .ok (.aload_n 0, 1) := by decide +kernel
theorem dX11_behind_29 : decode cX11_behind 29 = .ok (.iload_n 3, 1) := by decide +kernel
theorem dX11_behind_30 : decode cX11_behind 30 = .ok (.bipush (-6), 2) := by decide +kernel
theorem dX11_behind_32 : decode cX11_behind 32 = .ok (.if_icmp .eq 7, 3) := by decide +kernel
theorem dX11_behind_35 : decode cX11_behind 35 = .ok (.iload_n 3, 1) := by decide +kernel
theorem dX11_behind_36 : decode cX11_behind 36 = .ok (.goto 22, 3) := by decide +kernel
theorem dX11_behind_39 : decode cX11_behind 39 = .ok (.iload_n 2, 1) := by decide +kernel
theorem dX11_behind_40 : decode cX11_behind 40 = .ok (.ifCond .ne 12, 3) := by decide +kernel
theorem dX11_behind_43 : decode cX11_behind 43 = .ok (.aload_n 0, 1) := by decide +kernel
theorem dX11_behind_44 : decode cX11_behind 44 = .ok (.getfield 13, 3) := by decide +kernel
theorem dX11_behind_47 : decode cX11_behind 47 = .ok (.iload_n 1, 1) := by decide +kernel
theorem dX11_behind_48 : decode cX11_behind 48 = .ok (.iaload, 1) := by decide +kernel
theorem dX11_behind_49 : decode cX11_behind 49 = .ok (.goto 9, 3) := by decide +kernel
theorem dX11_behind_52 : decode cX11_behind 52 = .ok (.aload_n 0, 1) := by decide +kernel
theorem dX11_behind_53 : decode cX11_behind 53 = .ok (.getfield 19, 3) := by decide +kernel
theorem dX11_behind_56 : decode cX11_behind 56 = .ok (.iload_n 1, 1) := by decide +kernel
theorem dX11_behind_57 : decode cX11_behind 57 = .ok (.iaload, 1) := by decide +kernel
theorem dX11_behind_58 : decode cX11_behind 58 = .ok (.invokevirtual 234, 3) := by decide +kernel
theorem dX11_behind_61 : decode cX11_behind 61 = .ok (.ireturn, 1) := by decide +kernel
theorem dX11_lies_0 : decode cX11_lies 0 = .ok (.iload_n 1, 1) := by decide +kernel
theorem dX11_lies_1 : decode cX11_lies 1 = .ok (.invokestatic 91, 3) := by decide +kernel
theorem dX11_lies_4 : decode cX11_lies 4 = .ok (.ifCond .ne 6, 3) := by decide +kernel
theorem dX11_lies_7 : decode cX11_lies 7 = .ok (.bipush (-2), 2) := by decide +kernel
theorem dX11_lies_9 : decode cX11_lies 9 = .ok (.ireturn, 1) := by decide +kernel
theorem dX11_lies_10 : decode cX11_lies 10 = .ok (.aload_n 0, 1) := by decide +kernel
theorem dX11_lies_11 : decode cX11_lies 11 = .ok (.invokevirtual 231, 3) := by decide +kernel
theorem dX11_lies_14 : decode cX11_lies 14 = .ok (.istore_n 2, 1) := by decide +kernel
theorem dX11_lies_15 : decode cX11_lies 15 = .ok (.aload_n 0, 1) := by decide +kernel
theorem dX11_lies_16 : decode cX11_lies 16 = .ok (.iload_n 2, 1) := by decide +kernel
theorem dX11_lies_17 : decode cX11_lies 17 = .ok (.bipush (-6), 2) := by decide +kernel
theorem dX11_lies_19 : decode cX11_lies 19 = .ok (.if_icmp .eq 7, 3) := by decide +kernel
theorem dX11_lies_22 : decode cX11_lies 22 = .ok (.iload_n 2, 1) := by decide +kernel
theorem dX11_lies_23 : decode cX11_lies 23 = .ok (.goto 9, 3) := by decide +kernel
theorem dX11_lies_26 : decode cX11_lies 26 = .ok (.aload_n 0, 1) := by decide +kernel
theorem dX11_lies_27 : decode cX11_lies 27 = .ok (.getfield 22, 3) := by decide +kernel
theorem dX11_lies_30 : decode cX11_lies 30 = .ok (.iload_n 1, 1) := by decide +kernel
theorem dX11_lies_31 : decode cX11_lies 31 = .ok (.iaload, 1) := by decide +kernel
theorem dX11_lies_32 : decode cX11_lies 32 = .ok (.invokevirtual 234, 3) := by decide +kernel
theorem dX11_lies_35 : decode cX11_lies 35 = .ok (.ireturn, 1) := by decide +kernel
theorem dX11_allSeeds_0 : decode cX11_allSeeds 0 = .ok (.iconst 0, 1) := by decide +kernel
theorem dX11_allSeeds_1 : decode cX11_allSeeds 1 = .ok (.istore_n 1, 1) := by decide +kernel
theorem dX11_allSeeds_2 : decode cX11_allSeeds 2 = .ok (.iconst 0, 1) := by decide +kernel
theorem dX11_allSeeds_3 : decode cX11_allSeeds 3 = .ok (.istore_n 2, 1) := by decide +kernel
theorem dX11_allSeeds_4 : decode cX11_allSeeds 4 = .ok (.iload_n 2, 1) := by decide +kernel
theorem dX11_allSeeds_5 : decode cX11_allSeeds 5 = .ok (.bipush 6, 2) := by decide +kernel
theorem dX11_allSeeds_7 : decode cX11_allSeeds 7 = .ok (.if_icmp .ge 30, 3) := by decide +kernel
theorem dX11_allSeeds_10 : decode cX11_allSeeds 10 = .ok (.iload_n 1, 1) := by decide +kernel
theorem dX11_allSeeds_11 : decode cX11_allSeeds 11 = .ok (.aload_n 0, 1) := by decide +kernel
theorem dX11_allSeeds_12 : decode cX11_allSeeds 12 = .ok (.iload_n 2, 1) := by decide +kernel
theorem dX11_allSeeds_13 : decode cX11_allSeeds 13 = .ok (.invokevirtual 87, 3) := by decide +kernel
theorem dX11_allSeeds_16 : decode cX11_allSeeds 16 = .ok (.ifCond .eq 12, 3) := by decide +kernel
theorem dX11_allSeeds_19 : decode cX11_allSeeds 19 = .ok (.aload_n 0, 1) := by decide +kernel
theorem dX11_allSeeds_20 : decode cX11_allSeeds 20 = .ok (.getfield 13, 3) := by decide +kernel
theorem dX11_allSeeds_23 : decode cX11_allSeeds 23 = .ok (.iload_n 2, 1) := by decide +kernel
theorem dX11_allSeeds_24 : decode cX11_allSeeds 24 = .ok (.iaload, 1) := by decide +kernel
theorem dX11_allSeeds_25 : decode cX11_allSeeds 25 = .ok (.goto 4, 3) := by decide +kernel
theorem dX11_allSeeds_28 : decode cX11_allSeeds 28 = .ok (.iconst 0, 1) := by decide +kernel
theorem dX11_allSeeds_29 : decode cX11_allSeeds 29 = .ok (.iadd, 1) := by decide +kernel
theorem dX11_allSeeds_30 : decode cX11_allSeeds 30 = .ok (.istore_n 1, 1) := by decide +kernel
theorem dX11_allSeeds_31 : decode cX11_allSeeds 31 = .ok (.iinc 2 1, 3) := by decide +kernel
theorem dX11_allSeeds_34 : decode cX11_allSeeds 34 = .ok (.goto (-30), 3) := by decide +kernel
theorem dX11_allSeeds_37 : decode cX11_allSeeds 37 = .ok (.iload_n 1, 1) := by decide +kernel
theorem dX11_allSeeds_38 : decode cX11_allSeeds 38 = .ok (.ireturn, 1) := by decide +kernel
theorem dX11_allLies_0 : decode cX11_allLies 0 = .ok (.iconst 0, 1) := by decide +kernel
theorem dX11_allLies_1 : decode cX11_allLies 1 = .ok (.istore_n 1, 1) := by decide +kernel
theorem dX11_allLies_2 : decode cX11_allLies 2 = .ok (.iconst 0, 1) := by decide +kernel
theorem dX11_allLies_3 : decode cX11_allLies 3 = .ok (.istore_n 2, 1) := by decide +kernel
theorem dX11_allLies_4 : decode cX11_allLies 4 = .ok (.iload_n 2, 1) := by decide +kernel
theorem dX11_allLies_5 : decode cX11_allLies 5 = .ok (.bipush 36, 2) := by decide +kernel
theorem dX11_allLies_7 : decode cX11_allLies 7 = .ok (.if_icmp .ge 18, 3) := by decide +kernel
theorem dX11_allLies_10 : decode cX11_allLies 10 = .ok (.iload_n 1, 1) := by decide +kernel
theorem dX11_allLies_11 : decode cX11_allLies 11 = .ok (.aload_n 0, 1) := by decide +kernel
theorem dX11_allLies_12 : decode cX11_allLies 12 = .ok (.getfield 22, 3) := by decide +kernel
theorem dX11_allLies_15 : decode cX11_allLies 15 = .ok (.iload_n 2, 1) := by decide +kernel
theorem dX11_allLies_16 : decode cX11_allLies 16 = .ok (.iaload, 1) := by decide +kernel
theorem dX11_allLies_17 : decode cX11_allLies 17 = .ok (.iadd, 1) := by decide +kernel
theorem dX11_allLies_18 : decode cX11_allLies 18 = .ok (.istore_n 1, 1) := by decide +kernel
theorem dX11_allLies_19 : decode cX11_allLies 19 = .ok (.iinc 2 1, 3) := by decide +kernel
theorem dX11_allLies_22 : decode cX11_allLies 22 = .ok (.goto (-18), 3) := by decide +kernel
theorem dX11_allLies_25 : decode cX11_allLies 25 = .ok (.iload_n 1, 1) := by decide +kernel
theorem dX11_allLies_26 : decode cX11_allLies 26 = .ok (.ireturn, 1) := by decide +kernel
theorem dX11_total_0 : decode cX11_total 0 = .ok (.iload_n 1, 1) := by decide +kernel
theorem dX11_total_1 : decode cX11_total 1 = .ok (.i2l, 1) := by decide +kernel
theorem dX11_total_2 : decode cX11_total 2 = .ok (.lconst 0, 1) := by decide +kernel
theorem dX11_total_3 : decode cX11_total 3 = .ok (.ldc2_w 116, 3) := by decide +kernel
theorem dX11_total_6 : decode cX11_total 6 = .ok (.invokestatic 78, 3) := by decide +kernel
theorem dX11_total_9 : decode cX11_total 9 = .ok (.ifCond .ne 6, 3) := by decide +kernel
theorem dX11_total_12 : decode cX11_total 12 = .ok (.bipush (-2), 2) := by decide +kernel
theorem dX11_total_14 : decode cX11_total 14 = .ok (.ireturn, 1) := by decide +kernel
theorem dX11_total_15 : decode cX11_total 15 = .ok (.aload_n 0, 1) := by decide +kernel
theorem dX11_total_16 : decode cX11_total 16 = .ok (.invokevirtual 231, 3) := by decide +kernel
theorem dX11_total_19 : decode cX11_total 19 = .ok (.istore_n 2, 1) := by decide +kernel
theorem dX11_total_20 : decode cX11_total 20 = .ok (.aload_n 0, 1) := by decide +kernel
theorem dX11_total_21 : decode cX11_total 21 = .ok (.iload_n 2, 1) := by decide +kernel
theorem dX11_total_22 : decode cX11_total 22 = .ok (.bipush (-6), 2) := by decide +kernel
theorem dX11_total_24 : decode cX11_total 24 = .ok (.if_icmp .eq 7, 3) := by decide +kernel
theorem dX11_total_27 : decode cX11_total 27 = .ok (.iload_n 2, 1) := by decide +kernel
theorem dX11_total_28 : decode cX11_total 28 = .ok (.goto 42, 3) := by decide +kernel
theorem dX11_total_31 : decode cX11_total 31 = .ok (.iload_n 1, 1) := by decide +kernel
theorem dX11_total_32 : decode cX11_total 32 = .ok (.ifCond .ne 10, 3) := by decide +kernel
theorem dX11_total_35 : decode cX11_total 35 = .ok (.aload_n 0, 1) := by decide +kernel
theorem dX11_total_36 : decode cX11_total 36 = .ok (.invokevirtual 237, 3) := by decide +kernel
theorem dX11_total_39 : decode cX11_total 39 = .ok (.goto 31, 3) := by decide +kernel
theorem dX11_total_42 : decode cX11_total 42 = .ok (.iload_n 1, 1) := by decide +kernel
theorem dX11_total_43 : decode cX11_total 43 = .ok (.iconst 1, 1) := by decide +kernel
theorem dX11_total_44 : decode cX11_total 44 = .ok (.if_icmp .ne 10, 3) := by decide +kernel
theorem dX11_total_47 : decode cX11_total 47 = .ok (.aload_n 0, 1) := by decide +kernel
theorem dX11_total_48 : decode cX11_total 48 = .ok (.invokevirtual 240, 3) := by decide +kernel
theorem dX11_total_51 : decode cX11_total 51 = .ok (.goto 19, 3) := by decide +kernel
theorem dX11_total_54 : decode cX11_total 54 = .ok (.iload_n 1, 1) := by decide +kernel
theorem dX11_total_55 : decode cX11_total 55 = .ok (.iconst 2, 1) := by decide +kernel
theorem dX11_total_56 : decode cX11_total 56 = .ok (.if_icmp .ne 10, 3) := by decide +kernel
theorem dX11_total_59 : decode cX11_total 59 = .ok (.aload_n 0, 1) := by decide +kernel
theorem dX11_total_60 : decode cX11_total 60 = .ok (.getfield 105, 3) := by decide +kernel
theorem dX11_total_63 : decode cX11_total 63 = .ok (.goto 7, 3) := by decide +kernel
theorem dX11_total_66 : decode cX11_total 66 = .ok (.aload_n 0, 1) := by decide +kernel
theorem dX11_total_67 : decode cX11_total 67 = .ok (.getfield 158, 3) := by decide +kernel
theorem dX11_total_70 : decode cX11_total 70 = .ok (.invokevirtual 234, 3) := by decide +kernel
theorem dX11_total_73 : decode cX11_total 73 = .ok (.ireturn, 1) := by decide +kernel
theorem dX11_ruined_0 : decode cX11_ruined 0 = .ok (.iload_n 1, 1) := by decide +kernel
theorem dX11_ruined_1 : decode cX11_ruined 1 = .ok (.i2l, 1) := by decide +kernel
theorem dX11_ruined_2 : decode cX11_ruined 2 = .ok (.lconst 0, 1) := by decide +kernel
theorem dX11_ruined_3 : decode cX11_ruined 3 = .ok (.lconst 1, 1) := by decide +kernel
theorem dX11_ruined_4 : decode cX11_ruined 4 = .ok (.invokestatic 78, 3) := by decide +kernel
theorem dX11_ruined_7 : decode cX11_ruined 7 = .ok (.ifCond .ne 6, 3) := by decide +kernel
theorem dX11_ruined_10 : decode cX11_ruined 10 = .ok (.bipush (-2), 2) := by decide +kernel
theorem dX11_ruined_12 : decode cX11_ruined 12 = .ok (.ireturn, 1) := by decide +kernel
theorem dX11_ruined_13 : decode cX11_ruined 13 = .ok (.aload_n 0, 1) := by decide +kernel
theorem dX11_ruined_14 : decode cX11_ruined 14 = .ok (.aload_n 0, 1) := by decide +kernel
theorem dX11_ruined_15 : decode cX11_ruined 15 = .ok (.invokevirtual 231, 3) := by decide +kernel
theorem dX11_ruined_18 : decode cX11_ruined 18 = .ok (.invokevirtual 234, 3) := by decide +kernel
theorem dX11_ruined_21 : decode cX11_ruined 21 = .ok (.istore_n 2, 1) := by decide +kernel
theorem dX11_ruined_22 : decode cX11_ruined 22 = .ok (.iload_n 2, 1) := by decide +kernel
theorem dX11_ruined_23 : decode cX11_ruined 23 = .ok (.bipush (-6), 2) := by decide +kernel
theorem dX11_ruined_25 : decode cX11_ruined 25 = .ok (.if_icmp .eq 7, 3) := by decide +kernel
theorem dX11_ruined_28 : decode cX11_ruined 28 = .ok (.iload_n 2, 1) := by decide +kernel
theorem dX11_ruined_29 : decode cX11_ruined 29 = .ok (.goto 18, 3) := by decide +kernel
theorem dX11_ruined_32 : decode cX11_ruined 32 = .ok (.iload_n 1, 1) := by decide +kernel
theorem dX11_ruined_33 : decode cX11_ruined 33 = .ok (.ifCond .ne 10, 3) := by decide +kernel
theorem dX11_ruined_36 : decode cX11_ruined 36 = .ok (.aload_n 0, 1) := by decide +kernel
theorem dX11_ruined_37 : decode cX11_ruined 37 = .ok (.getfield 201, 3) := by decide +kernel
theorem dX11_ruined_40 : decode cX11_ruined 40 = .ok (.goto 7, 3) := by decide +kernel
theorem dX11_ruined_43 : decode cX11_ruined 43 = .ok (.aload_n 0, 1) := by decide +kernel
theorem dX11_ruined_44 : decode cX11_ruined 44 = .ok (.getfield 207, 3) := by decide +kernel
theorem dX11_ruined_47 : decode cX11_ruined 47 = .ok (.ireturn, 1) := by decide +kernel
theorem dX11_done_0 : decode cX11_done 0 = .ok (.aload_n 0, 1) := by decide +kernel
theorem dX11_done_1 : decode cX11_done 1 = .ok (.invokevirtual 231, 3) := by decide +kernel
theorem dX11_done_4 : decode cX11_done 4 = .ok (.istore_n 1, 1) := by decide +kernel
theorem dX11_done_5 : decode cX11_done 5 = .ok (.iload_n 1, 1) := by decide +kernel
theorem dX11_done_6 : decode cX11_done 6 = .ok (.bipush (-6), 2) := by decide +kernel
theorem dX11_done_8 : decode cX11_done 8 = .ok (.if_icmp .eq 9, 3) := by decide +kernel
theorem dX11_done_11 : decode cX11_done 11 = .ok (.aload_n 0, 1) := by decide +kernel
theorem dX11_done_12 : decode cX11_done 12 = .ok (.iload_n 1, 1) := by decide +kernel
theorem dX11_done_13 : decode cX11_done 13 = .ok (.invokevirtual 234, 3) := by decide +kernel
theorem dX11_done_16 : decode cX11_done 16 = .ok (.ireturn, 1) := by decide +kernel
theorem dX11_done_17 : decode cX11_done 17 = .ok (.aload_n 0, 1) := by decide +kernel
theorem dX11_done_18 : decode cX11_done 18 = .ok (.iconst 0, 1) := by decide +kernel
theorem dX11_done_19 : decode cX11_done 19 = .ok (.putfield 128, 3) := by decide +kernel
theorem dX11_done_22 : decode cX11_done 22 = .ok (.aload_n 0, 1) := by decide +kernel
theorem dX11_done_23 : decode cX11_done 23 = .ok (.getfield 131, 3) := by decide +kernel
theorem dX11_done_26 : decode cX11_done 26 = .ok (.ireturn, 1) := by decide +kernel
theorem dX11_paysBy_0 : decode cX11_paysBy 0 = .ok (.iconst 0, 1) := by decide +kernel
theorem dX11_paysBy_1 : decode cX11_paysBy 1 = .ok (.istore_n 3, 1) := by decide +kernel
theorem dX11_paysBy_2 : decode cX11_paysBy 2 = .ok (.iload_n 3, 1) := by decide +kernel
theorem dX11_paysBy_3 : decode cX11_paysBy 3 = .ok (.bipush 40, 2) := by decide +kernel
theorem dX11_paysBy_5 : decode cX11_paysBy 5 = .ok (.if_icmp .ge 42, 3) := by decide +kernel
theorem dX11_paysBy_8 : decode cX11_paysBy 8 = .ok (.iload_n 3, 1) := by decide +kernel
theorem dX11_paysBy_9 : decode cX11_paysBy 9 = .ok (.bipush 10, 2) := by decide +kernel
theorem dX11_paysBy_11 : decode cX11_paysBy 11 = .ok (.irem, 1) := by decide +kernel
theorem dX11_paysBy_12 : decode cX11_paysBy 12 = .ok (.i2l, 1) := by decide +kernel
theorem dX11_paysBy_13 : decode cX11_paysBy 13 = .ok (.lconst 1, 1) := by decide +kernel
theorem dX11_paysBy_14 : decode cX11_paysBy 14 = .ok (.ldc2_w 82, 3) := by decide +kernel
theorem dX11_paysBy_17 : decode cX11_paysBy 17 = .ok (.invokestatic 78, 3) := by decide +kernel
theorem dX11_paysBy_20 : decode cX11_paysBy 20 = .ok (.ifCond .eq 21, 3) := by decide +kernel
theorem dX11_paysBy_23 : decode cX11_paysBy 23 = .ok (.iload_n 1, 1) := by decide +kernel
theorem dX11_paysBy_24 : decode cX11_paysBy 24 = .ok (.iload_n 3, 1) := by decide +kernel
theorem dX11_paysBy_25 : decode cX11_paysBy 25 = .ok (.bipush 10, 2) := by decide +kernel
theorem dX11_paysBy_27 : decode cX11_paysBy 27 = .ok (.idiv, 1) := by decide +kernel
theorem dX11_paysBy_28 : decode cX11_paysBy 28 = .ok (.iload_n 3, 1) := by decide +kernel
theorem dX11_paysBy_29 : decode cX11_paysBy 29 = .ok (.bipush 10, 2) := by decide +kernel
theorem dX11_paysBy_31 : decode cX11_paysBy 31 = .ok (.irem, 1) := by decide +kernel
theorem dX11_paysBy_32 : decode cX11_paysBy 32 = .ok (.invokestatic 173, 3) := by decide +kernel
theorem dX11_paysBy_35 : decode cX11_paysBy 35 = .ok (.iload_n 2, 1) := by decide +kernel
theorem dX11_paysBy_36 : decode cX11_paysBy 36 = .ok (.if_icmp .ne 5, 3) := by decide +kernel
theorem dX11_paysBy_39 : decode cX11_paysBy 39 = .ok (.iload_n 3, 1) := by decide +kernel
theorem dX11_paysBy_40 : decode cX11_paysBy 40 = .ok (.ireturn, 1) := by decide +kernel
theorem dX11_paysBy_41 : decode cX11_paysBy 41 = .ok (.iinc 3 1, 3) := by decide +kernel
theorem dX11_paysBy_44 : decode cX11_paysBy 44 = .ok (.goto (-42), 3) := by decide +kernel
theorem dX11_paysBy_47 : decode cX11_paysBy 47 = .ok (.bipush (-6), 2) := by decide +kernel
theorem dX11_paysBy_49 : decode cX11_paysBy 49 = .ok (.ireturn, 1) := by decide +kernel
theorem dX11_pays_0 : decode cX11_pays 0 = .ok (.aload_n 0, 1) := by decide +kernel
theorem dX11_pays_1 : decode cX11_pays 1 = .ok (.iload_n 1, 1) := by decide +kernel
theorem dX11_pays_2 : decode cX11_pays 2 = .ok (.invokevirtual 87, 3) := by decide +kernel
theorem dX11_pays_5 : decode cX11_pays 5 = .ok (.ifCond .eq 35, 3) := by decide +kernel
theorem dX11_pays_8 : decode cX11_pays 8 = .ok (.aload_n 0, 1) := by decide +kernel
theorem dX11_pays_9 : decode cX11_pays 9 = .ok (.iload_n 2, 1) := by decide +kernel
theorem dX11_pays_10 : decode cX11_pays 10 = .ok (.invokevirtual 87, 3) := by decide +kernel
theorem dX11_pays_13 : decode cX11_pays 13 = .ok (.ifCond .eq 27, 3) := by decide +kernel
theorem dX11_pays_16 : decode cX11_pays 16 = .ok (.iload_n 1, 1) := by decide +kernel
theorem dX11_pays_17 : decode cX11_pays 17 = .ok (.iload_n 2, 1) := by decide +kernel
theorem dX11_pays_18 : decode cX11_pays 18 = .ok (.if_icmp .eq 22, 3) := by decide +kernel
theorem dX11_pays_21 : decode cX11_pays 21 = .ok (.aload_n 0, 1) := by decide +kernel
theorem dX11_pays_22 : decode cX11_pays 22 = .ok (.aload_n 0, 1) := by decide +kernel
theorem dX11_pays_23 : decode cX11_pays 23 = .ok (.getfield 7, 3) := by decide +kernel
theorem dX11_pays_26 : decode cX11_pays 26 = .ok (.iload_n 1, 1) := by decide +kernel
theorem dX11_pays_27 : decode cX11_pays 27 = .ok (.iaload, 1) := by decide +kernel
theorem dX11_pays_28 : decode cX11_pays 28 = .ok (.aload_n 0, 1) := by decide +kernel
theorem dX11_pays_29 : decode cX11_pays 29 = .ok (.getfield 7, 3) := by decide +kernel
theorem dX11_pays_32 : decode cX11_pays 32 = .ok (.iload_n 2, 1) := by decide +kernel
theorem dX11_pays_33 : decode cX11_pays 33 = .ok (.iaload, 1) := by decide +kernel
theorem dX11_pays_34 : decode cX11_pays 34 = .ok (.invokevirtual 243, 3) := by decide +kernel
theorem dX11_pays_37 : decode cX11_pays 37 = .ok (.goto 4, 3) := by decide +kernel
theorem dX11_pays_40 : decode cX11_pays 40 = .ok (.iconst (-1), 1) := by decide +kernel
theorem dX11_pays_41 : decode cX11_pays 41 = .ok (.ireturn, 1) := by decide +kernel
theorem dX11_canPay_0 : decode cX11_canPay 0 = .ok (.aload_n 0, 1) := by decide +kernel
theorem dX11_canPay_1 : decode cX11_canPay 1 = .ok (.iload_n 1, 1) := by decide +kernel
theorem dX11_canPay_2 : decode cX11_canPay 2 = .ok (.invokevirtual 87, 3) := by decide +kernel
theorem dX11_canPay_5 : decode cX11_canPay 5 = .ok (.ifCond .eq 39, 3) := by decide +kernel
theorem dX11_canPay_8 : decode cX11_canPay 8 = .ok (.aload_n 0, 1) := by decide +kernel
theorem dX11_canPay_9 : decode cX11_canPay 9 = .ok (.iload_n 2, 1) := by decide +kernel
theorem dX11_canPay_10 : decode cX11_canPay 10 = .ok (.invokevirtual 87, 3) := by decide +kernel
theorem dX11_canPay_13 : decode cX11_canPay 13 = .ok (.ifCond .eq 31, 3) := by decide +kernel
theorem dX11_canPay_16 : decode cX11_canPay 16 = .ok (.iload_n 1, 1) := by decide +kernel
theorem dX11_canPay_17 : decode cX11_canPay 17 = .ok (.iload_n 2, 1) := by decide +kernel
theorem dX11_canPay_18 : decode cX11_canPay 18 = .ok (.if_icmp .eq 26, 3) := by decide +kernel
theorem dX11_canPay_21 : decode cX11_canPay 21 = .ok (.aload_n 0, 1) := by decide +kernel
theorem dX11_canPay_22 : decode cX11_canPay 22 = .ok (.aload_n 0, 1) := by decide +kernel
theorem dX11_canPay_23 : decode cX11_canPay 23 = .ok (.getfield 7, 3) := by decide +kernel
theorem dX11_canPay_26 : decode cX11_canPay 26 = .ok (.iload_n 1, 1) := by decide +kernel
theorem dX11_canPay_27 : decode cX11_canPay 27 = .ok (.iaload, 1) := by decide +kernel
theorem dX11_canPay_28 : decode cX11_canPay 28 = .ok (.aload_n 0, 1) := by decide +kernel
theorem dX11_canPay_29 : decode cX11_canPay 29 = .ok (.getfield 7, 3) := by decide +kernel
theorem dX11_canPay_32 : decode cX11_canPay 32 = .ok (.iload_n 2, 1) := by decide +kernel
theorem dX11_canPay_33 : decode cX11_canPay 33 = .ok (.iaload, 1) := by decide +kernel
theorem dX11_canPay_34 : decode cX11_canPay 34 = .ok (.invokevirtual 243, 3) := by decide +kernel
theorem dX11_canPay_37 : decode cX11_canPay 37 = .ok (.ifCond .lt 7, 3) := by decide +kernel
theorem dX11_canPay_40 : decode cX11_canPay 40 = .ok (.iconst 1, 1) := by decide +kernel
theorem dX11_canPay_41 : decode cX11_canPay 41 = .ok (.goto 4, 3) := by decide +kernel
theorem dX11_canPay_44 : decode cX11_canPay 44 = .ok (.iconst 0, 1) := by decide +kernel
theorem dX11_canPay_45 : decode cX11_canPay 45 = .ok (.ireturn, 1) := by decide +kernel
theorem dX11_findOff_0 : decode cX11_findOff 0 = .ok (.iconst 0, 1) := by decide +kernel
theorem dX11_findOff_1 : decode cX11_findOff 1 = .ok (.istore_n 2, 1) := by decide +kernel
theorem dX11_findOff_2 : decode cX11_findOff 2 = .ok (.iload_n 2, 1) := by decide +kernel
theorem dX11_findOff_3 : decode cX11_findOff 3 = .ok (.bipush 6, 2) := by decide +kernel
theorem dX11_findOff_5 : decode cX11_findOff 5 = .ok (.if_icmp .ge 26, 3) := by decide +kernel
theorem dX11_findOff_8 : decode cX11_findOff 8 = .ok (.aload_n 0, 1) := by decide +kernel
theorem dX11_findOff_9 : decode cX11_findOff 9 = .ok (.getfield 46, 3) := by decide +kernel
theorem dX11_findOff_12 : decode cX11_findOff 12 = .ok (.iload_n 2, 1) := by decide +kernel
theorem dX11_findOff_13 : decode cX11_findOff 13 = .ok (.iload_n 2, 1) := by decide +kernel
theorem dX11_findOff_14 : decode cX11_findOff 14 = .ok (.iload_n 1, 1) := by decide +kernel
theorem dX11_findOff_15 : decode cX11_findOff 15 = .ok (.if_icmp .ne 7, 3) := by decide +kernel
theorem dX11_findOff_18 : decode cX11_findOff 18 = .ok (.iconst 0, 1) := by decide +kernel
theorem dX11_findOff_19 : decode cX11_findOff 19 = .ok (.goto 5, 3) := by decide +kernel
theorem dX11_findOff_22 : decode cX11_findOff 22 = .ok (.bipush (-6), 2) := by decide +kernel
theorem dX11_findOff_24 : decode cX11_findOff 24 = .ok (.iastore, 1) := by decide +kernel
theorem dX11_findOff_25 : decode cX11_findOff 25 = .ok (.iinc 2 1, 3) := by decide +kernel
theorem dX11_findOff_28 : decode cX11_findOff 28 = .ok (.goto (-26), 3) := by decide +kernel
theorem dX11_findOff_31 : decode cX11_findOff 31 = .ok (.iconst 0, 1) := by decide +kernel
theorem dX11_findOff_32 : decode cX11_findOff 32 = .ok (.istore_n 2, 1) := by decide +kernel
theorem dX11_findOff_33 : decode cX11_findOff 33 = .ok (.iload_n 2, 1) := by decide +kernel
theorem dX11_findOff_34 : decode cX11_findOff 34 = .ok (.bipush 6, 2) := by decide +kernel
theorem dX11_findOff_36 : decode cX11_findOff 36 = .ok (.if_icmp .ge 87, 3) := by decide +kernel
theorem dX11_findOff_39 : decode cX11_findOff 39 = .ok (.iconst 0, 1) := by decide +kernel
theorem dX11_findOff_40 : decode cX11_findOff 40 = .ok (.istore_n 3, 1) := by decide +kernel
theorem dX11_findOff_41 : decode cX11_findOff 41 = .ok (.iload_n 3, 1) := by decide +kernel
theorem dX11_findOff_42 : decode cX11_findOff 42 = .ok (.bipush 6, 2) := by decide +kernel
theorem dX11_findOff_44 : decode cX11_findOff 44 = .ok (.if_icmp .ge 73, 3) := by decide +kernel
theorem dX11_findOff_47 : decode cX11_findOff 47 = .ok (.iconst 0, 1) := by decide +kernel
theorem dX11_findOff_48 : decode cX11_findOff 48 = .ok (.istore 4, 2) := by decide +kernel
theorem dX11_findOff_50 : decode cX11_findOff 50 = .ok (.iload 4, 2) := by decide +kernel
theorem dX11_findOff_52 : decode cX11_findOff 52 = .ok (.bipush 6, 2) := by decide +kernel
theorem dX11_findOff_54 : decode cX11_findOff 54 = .ok (.if_icmp .ge 57, 3) := by decide +kernel
theorem dX11_findOff_57 : decode cX11_findOff 57 = .ok (.aload_n 0, 1) := by decide +kernel
theorem dX11_findOff_58 : decode cX11_findOff 58 = .ok (.getfield 46, 3) := by decide +kernel
theorem dX11_findOff_61 : decode cX11_findOff 61 = .ok (.iload_n 3, 1) := by decide +kernel
theorem dX11_findOff_62 : decode cX11_findOff 62 = .ok (.aload_n 0, 1) := by decide +kernel
theorem dX11_findOff_63 : decode cX11_findOff 63 = .ok (.getfield 46, 3) := by decide +kernel
theorem dX11_findOff_66 : decode cX11_findOff 66 = .ok (.iload_n 3, 1) := by decide +kernel
theorem dX11_findOff_67 : decode cX11_findOff 67 = .ok (.iaload, 1) := by decide +kernel
theorem dX11_findOff_68 : decode cX11_findOff 68 = .ok (.ifCond .ge 30, 3) := by decide +kernel
theorem dX11_findOff_71 : decode cX11_findOff 71 = .ok (.aload_n 0, 1) := by decide +kernel
theorem dX11_findOff_72 : decode cX11_findOff 72 = .ok (.getfield 46, 3) := by decide +kernel
theorem dX11_findOff_75 : decode cX11_findOff 75 = .ok (.iload 4, 2) := by decide +kernel
theorem dX11_findOff_77 : decode cX11_findOff 77 = .ok (.iaload, 1) := by decide +kernel
theorem dX11_findOff_78 : decode cX11_findOff 78 = .ok (.iload_n 2, 1) := by decide +kernel
theorem dX11_findOff_79 : decode cX11_findOff 79 = .ok (.if_icmp .ne 19, 3) := by decide +kernel
theorem dX11_findOff_82 : decode cX11_findOff 82 = .ok (.aload_n 0, 1) := by decide +kernel
theorem dX11_findOff_83 : decode cX11_findOff 83 = .ok (.iload_n 3, 1) := by decide +kernel
theorem dX11_findOff_84 : decode cX11_findOff 84 = .ok (.iload 4, 2) := by decide +kernel
theorem dX11_findOff_86 : decode cX11_findOff 86 = .ok (.invokevirtual 246, 3) := by decide +kernel
theorem dX11_findOff_89 : decode cX11_findOff 89 = .ok (.ifCond .eq 9, 3) := by decide +kernel
theorem dX11_findOff_92 : decode cX11_findOff 92 = .ok (.iload_n 2, 1) := by decide +kernel
theorem dX11_findOff_93 : decode cX11_findOff 93 = .ok (.iconst 1, 1) := by decide +kernel
theorem dX11_findOff_94 : decode cX11_findOff 94 = .ok (.iadd, 1) := by decide +kernel
theorem dX11_findOff_95 : decode cX11_findOff 95 = .ok (.goto 9, 3) := by decide +kernel
theorem dX11_findOff_98 : decode cX11_findOff 98 = .ok (.aload_n 0, 1) := by decide +kernel
theorem dX11_findOff_99 : decode cX11_findOff 99 = .ok (.getfield 46, 3) := by decide +kernel
theorem dX11_findOff_102 : decode cX11_findOff 102 = .ok (.iload_n 3, 1) := by decide +kernel
theorem dX11_findOff_103 : decode cX11_findOff 103 = .ok (.iaload, 1) := by decide +kernel
theorem dX11_findOff_104 : decode cX11_findOff 104 = .ok (.iastore, 1) := by decide +kernel
theorem dX11_findOff_105 : decode cX11_findOff 105 = .ok (.iinc 4 1, 3) := by decide +kernel
theorem dX11_findOff_108 : decode cX11_findOff 108 = .ok (.goto (-58), 3) := by decide +kernel
theorem dX11_findOff_111 : decode cX11_findOff 111 = .ok (.iinc 3 1, 3) := by decide +kernel
theorem dX11_findOff_114 : decode cX11_findOff 114 = .ok (.goto (-73), 3) := by decide +kernel
theorem dX11_findOff_117 : decode cX11_findOff 117 = .ok (.iinc 2 1, 3) := by decide +kernel
theorem dX11_findOff_120 : decode cX11_findOff 120 = .ok (.goto (-87), 3) := by decide +kernel
theorem dX11_findOff_123 : decode cX11_findOff 123 = .ok (.return_, 1) := by decide +kernel
theorem dX11_over_0 : decode cX11_over 0 = .ok (.aload_n 0, 1) := by decide +kernel
theorem dX11_over_1 : decode cX11_over 1 = .ok (.iload_n 1, 1) := by decide +kernel
theorem dX11_over_2 : decode cX11_over 2 = .ok (.invokevirtual 87, 3) := by decide +kernel
theorem dX11_over_5 : decode cX11_over 5 = .ok (.ifCond .eq 16, 3) := by decide +kernel
theorem dX11_over_8 : decode cX11_over 8 = .ok (.aload_n 0, 1) := by decide +kernel
theorem dX11_over_9 : decode cX11_over 9 = .ok (.iload_n 2, 1) := by decide +kernel
theorem dX11_over_10 : decode cX11_over 10 = .ok (.invokevirtual 87, 3) := by decide +kernel
theorem dX11_over_13 : decode cX11_over 13 = .ok (.ifCond .eq 8, 3) := by decide +kernel
theorem dX11_over_16 : decode cX11_over 16 = .ok (.iload_n 1, 1) := by decide +kernel
theorem dX11_over_17 : decode cX11_over 17 = .ok (.iload_n 2, 1) := by decide +kernel
theorem dX11_over_18 : decode cX11_over 18 = .ok (.if_icmp .ne 5, 3) := by decide +kernel
theorem dX11_over_21 : decode cX11_over 21 = .ok (.iconst (-1), 1) := by decide +kernel
theorem dX11_over_22 : decode cX11_over 22 = .ok (.ireturn, 1) := by decide +kernel
theorem dX11_over_23 : decode cX11_over 23 = .ok (.iload_n 3, 1) := by decide +kernel
theorem dX11_over_24 : decode cX11_over 24 = .ok (.i2l, 1) := by decide +kernel
theorem dX11_over_25 : decode cX11_over 25 = .ok (.lconst 0, 1) := by decide +kernel
theorem dX11_over_26 : decode cX11_over 26 = .ok (.lconst 1, 1) := by decide +kernel
theorem dX11_over_27 : decode cX11_over 27 = .ok (.invokestatic 78, 3) := by decide +kernel
theorem dX11_over_30 : decode cX11_over 30 = .ok (.ifCond .ne 6, 3) := by decide +kernel
theorem dX11_over_33 : decode cX11_over 33 = .ok (.bipush (-2), 2) := by decide +kernel
theorem dX11_over_35 : decode cX11_over 35 = .ok (.ireturn, 1) := by decide +kernel
theorem dX11_over_36 : decode cX11_over 36 = .ok (.aload_n 0, 1) := by decide +kernel
theorem dX11_over_37 : decode cX11_over 37 = .ok (.iload_n 2, 1) := by decide +kernel
theorem dX11_over_38 : decode cX11_over 38 = .ok (.invokevirtual 250, 3) := by decide +kernel
theorem dX11_over_41 : decode cX11_over 41 = .ok (.aload_n 0, 1) := by decide +kernel
theorem dX11_over_42 : decode cX11_over 42 = .ok (.getfield 46, 3) := by decide +kernel
theorem dX11_over_45 : decode cX11_over 45 = .ok (.iload_n 1, 1) := by decide +kernel
theorem dX11_over_46 : decode cX11_over 46 = .ok (.iaload, 1) := by decide +kernel
theorem dX11_over_47 : decode cX11_over 47 = .ok (.ifCond .lt 7, 3) := by decide +kernel
theorem dX11_over_50 : decode cX11_over 50 = .ok (.iload_n 3, 1) := by decide +kernel
theorem dX11_over_51 : decode cX11_over 51 = .ok (.ifCond .ne 10, 3) := by decide +kernel
theorem dX11_over_54 : decode cX11_over 54 = .ok (.aload_n 0, 1) := by decide +kernel
theorem dX11_over_55 : decode cX11_over 55 = .ok (.getfield 46, 3) := by decide +kernel
theorem dX11_over_58 : decode cX11_over 58 = .ok (.iload_n 1, 1) := by decide +kernel
theorem dX11_over_59 : decode cX11_over 59 = .ok (.iaload, 1) := by decide +kernel
theorem dX11_over_60 : decode cX11_over 60 = .ok (.ireturn, 1) := by decide +kernel
theorem dX11_over_61 : decode cX11_over 61 = .ok (.bipush (-6), 2) := by decide +kernel
theorem dX11_over_63 : decode cX11_over 63 = .ok (.istore 4, 2) := by decide +kernel
theorem dX11_over_65 : decode cX11_over 65 = .ok (.iconst 5, 1) := by decide +kernel
theorem dX11_over_66 : decode cX11_over 66 = .ok (.istore 5, 2) := by decide +kernel
theorem dX11_over_68 : decode cX11_over 68 = .ok (.iload 5, 2) := by decide +kernel
theorem dX11_over_70 : decode cX11_over 70 = .ok (.ifCond .lt 46, 3) := by decide +kernel
theorem dX11_over_73 : decode cX11_over 73 = .ok (.aload_n 0, 1) := by decide +kernel
theorem dX11_over_74 : decode cX11_over 74 = .ok (.getfield 46, 3) := by decide +kernel
theorem dX11_over_77 : decode cX11_over 77 = .ok (.iload 5, 2) := by decide +kernel
theorem dX11_over_79 : decode cX11_over 79 = .ok (.iaload, 1) := by decide +kernel
theorem dX11_over_80 : decode cX11_over 80 = .ok (.aload_n 0, 1) := by decide +kernel
theorem dX11_over_81 : decode cX11_over 81 = .ok (.getfield 46, 3) := by decide +kernel
theorem dX11_over_84 : decode cX11_over 84 = .ok (.iload_n 1, 1) := by decide +kernel
theorem dX11_over_85 : decode cX11_over 85 = .ok (.iaload, 1) := by decide +kernel
theorem dX11_over_86 : decode cX11_over 86 = .ok (.iconst 1, 1) := by decide +kernel
theorem dX11_over_87 : decode cX11_over 87 = .ok (.isub, 1) := by decide +kernel
theorem dX11_over_88 : decode cX11_over 88 = .ok (.if_icmp .ne 18, 3) := by decide +kernel
theorem dX11_over_91 : decode cX11_over 91 = .ok (.aload_n 0, 1) := by decide +kernel
theorem dX11_over_92 : decode cX11_over 92 = .ok (.iload_n 1, 1) := by decide +kernel
theorem dX11_over_93 : decode cX11_over 93 = .ok (.iload 5, 2) := by decide +kernel
theorem dX11_over_95 : decode cX11_over 95 = .ok (.invokevirtual 246, 3) := by decide +kernel
theorem dX11_over_98 : decode cX11_over 98 = .ok (.ifCond .eq 8, 3) := by decide +kernel
theorem dX11_over_101 : decode cX11_over 101 = .ok (.iload 5, 2) := by decide +kernel
theorem dX11_over_103 : decode cX11_over 103 = .ok (.goto 5, 3) := by decide +kernel
theorem dX11_over_106 : decode cX11_over 106 = .ok (.iload 4, 2) := by decide +kernel
theorem dX11_over_108 : decode cX11_over 108 = .ok (.istore 4, 2) := by decide +kernel
theorem dX11_over_110 : decode cX11_over 110 = .ok (.iinc 5 (-1), 3) := by decide +kernel
theorem dX11_over_113 : decode cX11_over 113 = .ok (.goto (-45), 3) := by decide +kernel
theorem dX11_over_116 : decode cX11_over 116 = .ok (.iload 4, 2) := by decide +kernel
theorem dX11_over_118 : decode cX11_over 118 = .ok (.ireturn, 1) := by decide +kernel
theorem dX11_worthOf_0 : decode cX11_worthOf 0 = .ok (.aload_n 0, 1) := by decide +kernel
theorem dX11_worthOf_1 : decode cX11_worthOf 1 = .ok (.iload_n 1, 1) := by decide +kernel
theorem dX11_worthOf_2 : decode cX11_worthOf 2 = .ok (.invokevirtual 98, 3) := by decide +kernel
theorem dX11_worthOf_5 : decode cX11_worthOf 5 = .ok (.istore_n 2, 1) := by decide +kernel
theorem dX11_worthOf_6 : decode cX11_worthOf 6 = .ok (.aload_n 0, 1) := by decide +kernel
theorem dX11_worthOf_7 : decode cX11_worthOf 7 = .ok (.getfield 22, 3) := by decide +kernel
theorem dX11_worthOf_10 : decode cX11_worthOf 10 = .ok (.iload_n 1, 1) := by decide +kernel
theorem dX11_worthOf_11 : decode cX11_worthOf 11 = .ok (.iaload, 1) := by decide +kernel
theorem dX11_worthOf_12 : decode cX11_worthOf 12 = .ok (.iload_n 2, 1) := by decide +kernel
theorem dX11_worthOf_13 : decode cX11_worthOf 13 = .ok (.ifCond .ge 7, 3) := by decide +kernel
theorem dX11_worthOf_16 : decode cX11_worthOf 16 = .ok (.iconst 0, 1) := by decide +kernel
theorem dX11_worthOf_17 : decode cX11_worthOf 17 = .ok (.goto 9, 3) := by decide +kernel
theorem dX11_worthOf_20 : decode cX11_worthOf 20 = .ok (.aload_n 0, 1) := by decide +kernel
theorem dX11_worthOf_21 : decode cX11_worthOf 21 = .ok (.getfield 13, 3) := by decide +kernel
theorem dX11_worthOf_24 : decode cX11_worthOf 24 = .ok (.iload_n 2, 1) := by decide +kernel
theorem dX11_worthOf_25 : decode cX11_worthOf 25 = .ok (.iaload, 1) := by decide +kernel
theorem dX11_worthOf_26 : decode cX11_worthOf 26 = .ok (.iadd, 1) := by decide +kernel
theorem dX11_worthOf_27 : decode cX11_worthOf 27 = .ok (.ireturn, 1) := by decide +kernel
theorem dX11_squareAt_0 : decode cX11_squareAt 0 = .ok (.iconst 0, 1) := by decide +kernel
theorem dX11_squareAt_1 : decode cX11_squareAt 1 = .ok (.istore_n 3, 1) := by decide +kernel
theorem dX11_squareAt_2 : decode cX11_squareAt 2 = .ok (.iconst 0, 1) := by decide +kernel
theorem dX11_squareAt_3 : decode cX11_squareAt 3 = .ok (.istore 4, 2) := by decide +kernel
theorem dX11_squareAt_5 : decode cX11_squareAt 5 = .ok (.iload 4, 2) := by decide +kernel
theorem dX11_squareAt_7 : decode cX11_squareAt 7 = .ok (.iload_n 2, 1) := by decide +kernel
theorem dX11_squareAt_8 : decode cX11_squareAt 8 = .ok (.iload_n 2, 1) := by decide +kernel
theorem dX11_squareAt_9 : decode cX11_squareAt 9 = .ok (.imul, 1) := by decide +kernel
theorem dX11_squareAt_10 : decode cX11_squareAt 10 = .ok (.if_icmp .ge 30, 3) := by decide +kernel
theorem dX11_squareAt_13 : decode cX11_squareAt 13 = .ok (.iload_n 3, 1) := by decide +kernel
theorem dX11_squareAt_14 : decode cX11_squareAt 14 = .ok (.aload_n 0, 1) := by decide +kernel
theorem dX11_squareAt_15 : decode cX11_squareAt 15 = .ok (.iload_n 1, 1) := by decide +kernel
theorem dX11_squareAt_16 : decode cX11_squareAt 16 = .ok (.bipush 6, 2) := by decide +kernel
theorem dX11_squareAt_18 : decode cX11_squareAt 18 = .ok (.iload 4, 2) := by decide +kernel
theorem dX11_squareAt_20 : decode cX11_squareAt 20 = .ok (.iload_n 2, 1) := by decide +kernel
theorem dX11_squareAt_21 : decode cX11_squareAt 21 = .ok (.idiv, 1) := by decide +kernel
theorem dX11_squareAt_22 : decode cX11_squareAt 22 = .ok (.imul, 1) := by decide +kernel
theorem dX11_squareAt_23 : decode cX11_squareAt 23 = .ok (.iadd, 1) := by decide +kernel
theorem dX11_squareAt_24 : decode cX11_squareAt 24 = .ok (.iload 4, 2) := by decide +kernel
theorem dX11_squareAt_26 : decode cX11_squareAt 26 = .ok (.iload_n 2, 1) := by decide +kernel
theorem dX11_squareAt_27 : decode cX11_squareAt 27 = .ok (.irem, 1) := by decide +kernel
theorem dX11_squareAt_28 : decode cX11_squareAt 28 = .ok (.iadd, 1) := by decide +kernel
theorem dX11_squareAt_29 : decode cX11_squareAt 29 = .ok (.invokevirtual 253, 3) := by decide +kernel
theorem dX11_squareAt_32 : decode cX11_squareAt 32 = .ok (.iadd, 1) := by decide +kernel
theorem dX11_squareAt_33 : decode cX11_squareAt 33 = .ok (.istore_n 3, 1) := by decide +kernel
theorem dX11_squareAt_34 : decode cX11_squareAt 34 = .ok (.iinc 4 1, 3) := by decide +kernel
theorem dX11_squareAt_37 : decode cX11_squareAt 37 = .ok (.goto (-32), 3) := by decide +kernel
theorem dX11_squareAt_40 : decode cX11_squareAt 40 = .ok (.iload_n 3, 1) := by decide +kernel
theorem dX11_squareAt_41 : decode cX11_squareAt 41 = .ok (.ireturn, 1) := by decide +kernel
theorem dX11_bellows_0 : decode cX11_bellows 0 = .ok (.iload_n 1, 1) := by decide +kernel
theorem dX11_bellows_1 : decode cX11_bellows 1 = .ok (.i2l, 1) := by decide +kernel
theorem dX11_bellows_2 : decode cX11_bellows 2 = .ok (.lconst 1, 1) := by decide +kernel
theorem dX11_bellows_3 : decode cX11_bellows 3 = .ok (.ldc2_w 256, 3) := by decide +kernel
theorem dX11_bellows_6 : decode cX11_bellows 6 = .ok (.invokestatic 78, 3) := by decide +kernel
theorem dX11_bellows_9 : decode cX11_bellows 9 = .ok (.ifCond .eq 13, 3) := by decide +kernel
theorem dX11_bellows_12 : decode cX11_bellows 12 = .ok (.iload_n 2, 1) := by decide +kernel
theorem dX11_bellows_13 : decode cX11_bellows 13 = .ok (.i2l, 1) := by decide +kernel
theorem dX11_bellows_14 : decode cX11_bellows 14 = .ok (.lconst 0, 1) := by decide +kernel
theorem dX11_bellows_15 : decode cX11_bellows 15 = .ok (.lconst 1, 1) := by decide +kernel
theorem dX11_bellows_16 : decode cX11_bellows 16 = .ok (.invokestatic 78, 3) := by decide +kernel
theorem dX11_bellows_19 : decode cX11_bellows 19 = .ok (.ifCond .ne 6, 3) := by decide +kernel
theorem dX11_bellows_22 : decode cX11_bellows 22 = .ok (.bipush (-2), 2) := by decide +kernel
theorem dX11_bellows_24 : decode cX11_bellows 24 = .ok (.ireturn, 1) := by decide +kernel
theorem dX11_bellows_25 : decode cX11_bellows 25 = .ok (.iconst 0, 1) := by decide +kernel
theorem dX11_bellows_26 : decode cX11_bellows 26 = .ok (.istore_n 3, 1) := by decide +kernel
theorem dX11_bellows_27 : decode cX11_bellows 27 = .ok (.aload_n 0, 1) := by decide +kernel
theorem dX11_bellows_28 : decode cX11_bellows 28 = .ok (.iconst 0, 1) := by decide +kernel
theorem dX11_bellows_29 : decode cX11_bellows 29 = .ok (.iload_n 1, 1) := by decide +kernel
theorem dX11_bellows_30 : decode cX11_bellows 30 = .ok (.invokevirtual 258, 3) := by decide +kernel
theorem dX11_bellows_33 : decode cX11_bellows 33 = .ok (.istore 4, 2) := by decide +kernel
theorem dX11_bellows_35 : decode cX11_bellows 35 = .ok (.iconst 1, 1) := by decide +kernel
theorem dX11_bellows_36 : decode cX11_bellows 36 = .ok (.istore 5, 2) := by decide +kernel
theorem dX11_bellows_38 : decode cX11_bellows 38 = .ok (.iload 5, 2) := by decide +kernel
theorem dX11_bellows_40 : decode cX11_bellows 40 = .ok (.bipush 36, 2) := by decide +kernel
theorem dX11_bellows_42 : decode cX11_bellows 42 = .ok (.if_icmp .ge 89, 3) := by decide +kernel
theorem dX11_bellows_45 : decode cX11_bellows 45 = .ok (.iload 5, 2) := by decide +kernel
theorem dX11_bellows_47 : decode cX11_bellows 47 = .ok (.bipush 6, 2) := by decide +kernel
theorem dX11_bellows_49 : decode cX11_bellows 49 = .ok (.irem, 1) := by decide +kernel
theorem dX11_bellows_50 : decode cX11_bellows 50 = .ok (.iload_n 1, 1) := by decide +kernel
theorem dX11_bellows_51 : decode cX11_bellows 51 = .ok (.iadd, 1) := by decide +kernel
theorem dX11_bellows_52 : decode cX11_bellows 52 = .ok (.bipush 6, 2) := by decide +kernel
theorem dX11_bellows_54 : decode cX11_bellows 54 = .ok (.if_icmp .gt 19, 3) := by decide +kernel
theorem dX11_bellows_57 : decode cX11_bellows 57 = .ok (.iload 5, 2) := by decide +kernel
theorem dX11_bellows_59 : decode cX11_bellows 59 = .ok (.bipush 6, 2) := by decide +kernel
theorem dX11_bellows_61 : decode cX11_bellows 61 = .ok (.idiv, 1) := by decide +kernel
theorem dX11_bellows_62 : decode cX11_bellows 62 = .ok (.iload_n 1, 1) := by decide +kernel
theorem dX11_bellows_63 : decode cX11_bellows 63 = .ok (.iadd, 1) := by decide +kernel
theorem dX11_bellows_64 : decode cX11_bellows 64 = .ok (.bipush 6, 2) := by decide +kernel
theorem dX11_bellows_66 : decode cX11_bellows 66 = .ok (.if_icmp .gt 7, 3) := by decide +kernel
theorem dX11_bellows_69 : decode cX11_bellows 69 = .ok (.iconst 1, 1) := by decide +kernel
theorem dX11_bellows_70 : decode cX11_bellows 70 = .ok (.goto 4, 3) := by decide +kernel
theorem dX11_bellows_73 : decode cX11_bellows 73 = .ok (.iconst 0, 1) := by decide +kernel
theorem dX11_bellows_74 : decode cX11_bellows 74 = .ok (.istore 6, 2) := by decide +kernel
theorem dX11_bellows_76 : decode cX11_bellows 76 = .ok (.iload 6, 2) := by decide +kernel
theorem dX11_bellows_78 : decode cX11_bellows 78 = .ok (.ifCond .eq 13, 3) := by decide +kernel
theorem dX11_bellows_81 : decode cX11_bellows 81 = .ok (.aload_n 0, 1) := by decide +kernel
theorem dX11_bellows_82 : decode cX11_bellows 82 = .ok (.iload 5, 2) := by decide +kernel
theorem dX11_bellows_84 : decode cX11_bellows 84 = .ok (.iload_n 1, 1) := by decide +kernel
theorem dX11_bellows_85 : decode cX11_bellows 85 = .ok (.invokevirtual 258, 3) := by decide +kernel
theorem dX11_bellows_88 : decode cX11_bellows 88 = .ok (.goto 5, 3) := by decide +kernel
theorem dX11_bellows_91 : decode cX11_bellows 91 = .ok (.bipush (-6), 2) := by decide +kernel
theorem dX11_bellows_93 : decode cX11_bellows 93 = .ok (.istore 7, 2) := by decide +kernel
theorem dX11_bellows_95 : decode cX11_bellows 95 = .ok (.iload 7, 2) := by decide +kernel
theorem dX11_bellows_97 : decode cX11_bellows 97 = .ok (.iload 4, 2) := by decide +kernel
theorem dX11_bellows_99 : decode cX11_bellows 99 = .ok (.if_icmp .le 8, 3) := by decide +kernel
theorem dX11_bellows_102 : decode cX11_bellows 102 = .ok (.iload 5, 2) := by decide +kernel
theorem dX11_bellows_104 : decode cX11_bellows 104 = .ok (.goto 4, 3) := by decide +kernel
theorem dX11_bellows_107 : decode cX11_bellows 107 = .ok (.iload_n 3, 1) := by decide +kernel
theorem dX11_bellows_108 : decode cX11_bellows 108 = .ok (.istore_n 3, 1) := by decide +kernel
theorem dX11_bellows_109 : decode cX11_bellows 109 = .ok (.iload 7, 2) := by decide +kernel
theorem dX11_bellows_111 : decode cX11_bellows 111 = .ok (.iload 4, 2) := by decide +kernel
theorem dX11_bellows_113 : decode cX11_bellows 113 = .ok (.if_icmp .le 8, 3) := by decide +kernel
theorem dX11_bellows_116 : decode cX11_bellows 116 = .ok (.iload 7, 2) := by decide +kernel
theorem dX11_bellows_118 : decode cX11_bellows 118 = .ok (.goto 5, 3) := by decide +kernel
theorem dX11_bellows_121 : decode cX11_bellows 121 = .ok (.iload 4, 2) := by decide +kernel
theorem dX11_bellows_123 : decode cX11_bellows 123 = .ok (.istore 4, 2) := by decide +kernel
theorem dX11_bellows_125 : decode cX11_bellows 125 = .ok (.iinc 5 1, 3) := by decide +kernel
theorem dX11_bellows_128 : decode cX11_bellows 128 = .ok (.goto (-90), 3) := by decide +kernel
theorem dX11_bellows_131 : decode cX11_bellows 131 = .ok (.iload_n 2, 1) := by decide +kernel
theorem dX11_bellows_132 : decode cX11_bellows 132 = .ok (.ifCond .ne 8, 3) := by decide +kernel
theorem dX11_bellows_135 : decode cX11_bellows 135 = .ok (.iload 4, 2) := by decide +kernel
theorem dX11_bellows_137 : decode cX11_bellows 137 = .ok (.goto 4, 3) := by decide +kernel
theorem dX11_bellows_140 : decode cX11_bellows 140 = .ok (.iload_n 3, 1) := by decide +kernel
theorem dX11_bellows_141 : decode cX11_bellows 141 = .ok (.ireturn, 1) := by decide +kernel
theorem dX11_passYear_0 : decode cX11_passYear 0 = .ok (.iconst 0, 1) := by decide +kernel
theorem dX11_passYear_1 : decode cX11_passYear 1 = .ok (.istore_n 1, 1) := by decide +kernel
theorem dX11_passYear_2 : decode cX11_passYear 2 = .ok (.iload_n 1, 1) := by decide +kernel
theorem dX11_passYear_3 : decode cX11_passYear 3 = .ok (.bipush 36, 2) := by decide +kernel
theorem dX11_passYear_5 : decode cX11_passYear 5 = .ok (.if_icmp .ge 16, 3) := by decide +kernel
theorem dX11_passYear_8 : decode cX11_passYear 8 = .ok (.aload_n 0, 1) := by decide +kernel
theorem dX11_passYear_9 : decode cX11_passYear 9 = .ok (.getfield 52, 3) := by decide +kernel
theorem dX11_passYear_12 : decode cX11_passYear 12 = .ok (.iload_n 1, 1) := by decide +kernel
theorem dX11_passYear_13 : decode cX11_passYear 13 = .ok (.iconst 0, 1) := by decide +kernel
theorem dX11_passYear_14 : decode cX11_passYear 14 = .ok (.iastore, 1) := by decide +kernel
theorem dX11_passYear_15 : decode cX11_passYear 15 = .ok (.iinc 1 1, 3) := by decide +kernel
theorem dX11_passYear_18 : decode cX11_passYear 18 = .ok (.goto (-16), 3) := by decide +kernel
theorem dX11_passYear_21 : decode cX11_passYear 21 = .ok (.iconst 0, 1) := by decide +kernel
theorem dX11_passYear_22 : decode cX11_passYear 22 = .ok (.istore_n 1, 1) := by decide +kernel
theorem dX11_passYear_23 : decode cX11_passYear 23 = .ok (.iload_n 1, 1) := by decide +kernel
theorem dX11_passYear_24 : decode cX11_passYear 24 = .ok (.bipush 36, 2) := by decide +kernel
theorem dX11_passYear_26 : decode cX11_passYear 26 = .ok (.if_icmp .ge 65, 3) := by decide +kernel
theorem dX11_passYear_29 : decode cX11_passYear 29 = .ok (.iconst 2, 1) := by decide +kernel
theorem dX11_passYear_30 : decode cX11_passYear 30 = .ok (.aload_n 0, 1) := by decide +kernel
theorem dX11_passYear_31 : decode cX11_passYear 31 = .ok (.getfield 49, 3) := by decide +kernel
theorem dX11_passYear_34 : decode cX11_passYear 34 = .ok (.iload_n 1, 1) := by decide +kernel
theorem dX11_passYear_35 : decode cX11_passYear 35 = .ok (.iaload, 1) := by decide +kernel
theorem dX11_passYear_36 : decode cX11_passYear 36 = .ok (.imul, 1) := by decide +kernel
theorem dX11_passYear_37 : decode cX11_passYear 37 = .ok (.sipush 999, 3) := by decide +kernel
theorem dX11_passYear_40 : decode cX11_passYear 40 = .ok (.if_icmp .le 9, 3) := by decide +kernel
theorem dX11_passYear_43 : decode cX11_passYear 43 = .ok (.sipush 999, 3) := by decide +kernel
theorem dX11_passYear_46 : decode cX11_passYear 46 = .ok (.goto 11, 3) := by decide +kernel
theorem dX11_passYear_49 : decode cX11_passYear 49 = .ok (.iconst 2, 1) := by decide +kernel
theorem dX11_passYear_50 : decode cX11_passYear 50 = .ok (.aload_n 0, 1) := by decide +kernel
theorem dX11_passYear_51 : decode cX11_passYear 51 = .ok (.getfield 49, 3) := by decide +kernel
theorem dX11_passYear_54 : decode cX11_passYear 54 = .ok (.iload_n 1, 1) := by decide +kernel
theorem dX11_passYear_55 : decode cX11_passYear 55 = .ok (.iaload, 1) := by decide +kernel
theorem dX11_passYear_56 : decode cX11_passYear 56 = .ok (.imul, 1) := by decide +kernel
theorem dX11_passYear_57 : decode cX11_passYear 57 = .ok (.istore_n 2, 1) := by decide +kernel
theorem dX11_passYear_58 : decode cX11_passYear 58 = .ok (.iload_n 1, 1) := by decide +kernel
theorem dX11_passYear_59 : decode cX11_passYear 59 = .ok (.aload_n 0, 1) := by decide +kernel
theorem dX11_passYear_60 : decode cX11_passYear 60 = .ok (.getfield 118, 3) := by decide +kernel
theorem dX11_passYear_63 : decode cX11_passYear 63 = .ok (.aload_n 0, 1) := by decide +kernel
theorem dX11_passYear_64 : decode cX11_passYear 64 = .ok (.getfield 72, 3) := by decide +kernel
theorem dX11_passYear_67 : decode cX11_passYear 67 = .ok (.invokestatic 173, 3) := by decide +kernel
theorem dX11_passYear_70 : decode cX11_passYear 70 = .ok (.istore_n 3, 1) := by decide +kernel
theorem dX11_passYear_71 : decode cX11_passYear 71 = .ok (.iload_n 3, 1) := by decide +kernel
theorem dX11_passYear_72 : decode cX11_passYear 72 = .ok (.ifCond .lt 13, 3) := by decide +kernel
theorem dX11_passYear_75 : decode cX11_passYear 75 = .ok (.aload_n 0, 1) := by decide +kernel
theorem dX11_passYear_76 : decode cX11_passYear 76 = .ok (.getfield 52, 3) := by decide +kernel
theorem dX11_passYear_79 : decode cX11_passYear 79 = .ok (.iload_n 3, 1) := by decide +kernel
theorem dX11_passYear_80 : decode cX11_passYear 80 = .ok (.dup2, 1) := by decide +kernel
theorem dX11_passYear_81 : decode cX11_passYear 81 = .ok (.iaload, 1) := by decide +kernel
theorem dX11_passYear_82 : decode cX11_passYear 82 = .ok (.iload_n 2, 1) := by decide +kernel
theorem dX11_passYear_83 : decode cX11_passYear 83 = .ok (.iadd, 1) := by decide +kernel
theorem dX11_passYear_84 : decode cX11_passYear 84 = .ok (.iastore, 1) := by decide +kernel
theorem dX11_passYear_85 : decode cX11_passYear 85 = .ok (.iinc 1 1, 3) := by decide +kernel
theorem dX11_passYear_88 : decode cX11_passYear 88 = .ok (.goto (-65), 3) := by decide +kernel
theorem dX11_passYear_91 : decode cX11_passYear 91 = .ok (.iconst 0, 1) := by decide +kernel
theorem dX11_passYear_92 : decode cX11_passYear 92 = .ok (.istore_n 1, 1) := by decide +kernel
theorem dX11_passYear_93 : decode cX11_passYear 93 = .ok (.iload_n 1, 1) := by decide +kernel
theorem dX11_passYear_94 : decode cX11_passYear 94 = .ok (.bipush 36, 2) := by decide +kernel
theorem dX11_passYear_96 : decode cX11_passYear 96 = .ok (.if_icmp .ge 21, 3) := by decide +kernel
theorem dX11_passYear_99 : decode cX11_passYear 99 = .ok (.aload_n 0, 1) := by decide +kernel
theorem dX11_passYear_100 : decode cX11_passYear 100 = .ok (.getfield 49, 3) := by decide +kernel
theorem dX11_passYear_103 : decode cX11_passYear 103 = .ok (.iload_n 1, 1) := by decide +kernel
theorem dX11_passYear_104 : decode cX11_passYear 104 = .ok (.aload_n 0, 1) := by decide +kernel
theorem dX11_passYear_105 : decode cX11_passYear 105 = .ok (.getfield 52, 3) := by decide +kernel
theorem dX11_passYear_108 : decode cX11_passYear 108 = .ok (.iload_n 1, 1) := by decide +kernel
theorem dX11_passYear_109 : decode cX11_passYear 109 = .ok (.iaload, 1) := by decide +kernel
theorem dX11_passYear_110 : decode cX11_passYear 110 = .ok (.iastore, 1) := by decide +kernel
theorem dX11_passYear_111 : decode cX11_passYear 111 = .ok (.iinc 1 1, 3) := by decide +kernel
theorem dX11_passYear_114 : decode cX11_passYear 114 = .ok (.goto (-21), 3) := by decide +kernel
theorem dX11_passYear_117 : decode cX11_passYear 117 = .ok (.return_, 1) := by decide +kernel
theorem dX11_principal_0 : decode cX11_principal 0 = .ok (.iload_n 1, 1) := by decide +kernel
theorem dX11_principal_1 : decode cX11_principal 1 = .ok (.i2l, 1) := by decide +kernel
theorem dX11_principal_2 : decode cX11_principal 2 = .ok (.lconst 0, 1) := by decide +kernel
theorem dX11_principal_3 : decode cX11_principal 3 = .ok (.ldc2_w 261, 3) := by decide +kernel
theorem dX11_principal_6 : decode cX11_principal 6 = .ok (.invokestatic 78, 3) := by decide +kernel
theorem dX11_principal_9 : decode cX11_principal 9 = .ok (.ifCond .eq 13, 3) := by decide +kernel
theorem dX11_principal_12 : decode cX11_principal 12 = .ok (.iload_n 2, 1) := by decide +kernel
theorem dX11_principal_13 : decode cX11_principal 13 = .ok (.i2l, 1) := by decide +kernel
theorem dX11_principal_14 : decode cX11_principal 14 = .ok (.lconst 0, 1) := by decide +kernel
theorem dX11_principal_15 : decode cX11_principal 15 = .ok (.lconst 1, 1) := by decide +kernel
theorem dX11_principal_16 : decode cX11_principal 16 = .ok (.invokestatic 78, 3) := by decide +kernel
theorem dX11_principal_19 : decode cX11_principal 19 = .ok (.ifCond .ne 6, 3) := by decide +kernel
theorem dX11_principal_22 : decode cX11_principal 22 = .ok (.bipush (-2), 2) := by decide +kernel
theorem dX11_principal_24 : decode cX11_principal 24 = .ok (.ireturn, 1) := by decide +kernel
theorem dX11_principal_25 : decode cX11_principal 25 = .ok (.iconst 0, 1) := by decide +kernel
theorem dX11_principal_26 : decode cX11_principal 26 = .ok (.istore_n 3, 1) := by decide +kernel
theorem dX11_principal_27 : decode cX11_principal 27 = .ok (.iload_n 3, 1) := by decide +kernel
theorem dX11_principal_28 : decode cX11_principal 28 = .ok (.bipush 36, 2) := by decide +kernel
theorem dX11_principal_30 : decode cX11_principal 30 = .ok (.if_icmp .ge 21, 3) := by decide +kernel
theorem dX11_principal_33 : decode cX11_principal 33 = .ok (.aload_n 0, 1) := by decide +kernel
theorem dX11_principal_34 : decode cX11_principal 34 = .ok (.getfield 49, 3) := by decide +kernel
theorem dX11_principal_37 : decode cX11_principal 37 = .ok (.iload_n 3, 1) := by decide +kernel
theorem dX11_principal_38 : decode cX11_principal 38 = .ok (.aload_n 0, 1) := by decide +kernel
theorem dX11_principal_39 : decode cX11_principal 39 = .ok (.getfield 22, 3) := by decide +kernel
theorem dX11_principal_42 : decode cX11_principal 42 = .ok (.iload_n 3, 1) := by decide +kernel
theorem dX11_principal_43 : decode cX11_principal 43 = .ok (.iaload, 1) := by decide +kernel
theorem dX11_principal_44 : decode cX11_principal 44 = .ok (.iastore, 1) := by decide +kernel
theorem dX11_principal_45 : decode cX11_principal 45 = .ok (.iinc 3 1, 3) := by decide +kernel
theorem dX11_principal_48 : decode cX11_principal 48 = .ok (.goto (-21), 3) := by decide +kernel
theorem dX11_principal_51 : decode cX11_principal 51 = .ok (.iconst 0, 1) := by decide +kernel
theorem dX11_principal_52 : decode cX11_principal 52 = .ok (.istore_n 3, 1) := by decide +kernel
theorem dX11_principal_53 : decode cX11_principal 53 = .ok (.iload_n 3, 1) := by decide +kernel
theorem dX11_principal_54 : decode cX11_principal 54 = .ok (.iload_n 1, 1) := by decide +kernel
theorem dX11_principal_55 : decode cX11_principal 55 = .ok (.if_icmp .ge 13, 3) := by decide +kernel
theorem dX11_principal_58 : decode cX11_principal 58 = .ok (.aload_n 0, 1) := by decide +kernel
theorem dX11_principal_59 : decode cX11_principal 59 = .ok (.invokevirtual 263, 3) := by decide +kernel
theorem dX11_principal_62 : decode cX11_principal 62 = .ok (.iinc 3 1, 3) := by decide +kernel
theorem dX11_principal_65 : decode cX11_principal 65 = .ok (.goto (-12), 3) := by decide +kernel
theorem dX11_principal_68 : decode cX11_principal 68 = .ok (.iconst 0, 1) := by decide +kernel
theorem dX11_principal_69 : decode cX11_principal 69 = .ok (.istore_n 3, 1) := by decide +kernel
theorem dX11_principal_70 : decode cX11_principal 70 = .ok (.iconst 0, 1) := by decide +kernel
theorem dX11_principal_71 : decode cX11_principal 71 = .ok (.istore 4, 2) := by decide +kernel
theorem dX11_principal_73 : decode cX11_principal 73 = .ok (.iconst 0, 1) := by decide +kernel
theorem dX11_principal_74 : decode cX11_principal 74 = .ok (.istore 5, 2) := by decide +kernel
theorem dX11_principal_76 : decode cX11_principal 76 = .ok (.iload 5, 2) := by decide +kernel
theorem dX11_principal_78 : decode cX11_principal 78 = .ok (.bipush 36, 2) := by decide +kernel
theorem dX11_principal_80 : decode cX11_principal 80 = .ok (.if_icmp .ge 45, 3) := by decide +kernel
theorem dX11_principal_83 : decode cX11_principal 83 = .ok (.iload_n 3, 1) := by decide +kernel
theorem dX11_principal_84 : decode cX11_principal 84 = .ok (.aload_n 0, 1) := by decide +kernel
theorem dX11_principal_85 : decode cX11_principal 85 = .ok (.getfield 49, 3) := by decide +kernel
theorem dX11_principal_88 : decode cX11_principal 88 = .ok (.iload 5, 2) := by decide +kernel
theorem dX11_principal_90 : decode cX11_principal 90 = .ok (.iaload, 1) := by decide +kernel
theorem dX11_principal_91 : decode cX11_principal 91 = .ok (.iadd, 1) := by decide +kernel
theorem dX11_principal_92 : decode cX11_principal 92 = .ok (.istore_n 3, 1) := by decide +kernel
theorem dX11_principal_93 : decode cX11_principal 93 = .ok (.aload_n 0, 1) := by decide +kernel
theorem dX11_principal_94 : decode cX11_principal 94 = .ok (.getfield 49, 3) := by decide +kernel
theorem dX11_principal_97 : decode cX11_principal 97 = .ok (.iload 5, 2) := by decide +kernel
theorem dX11_principal_99 : decode cX11_principal 99 = .ok (.iaload, 1) := by decide +kernel
theorem dX11_principal_100 : decode cX11_principal 100 = .ok (.aload_n 0, 1) := by decide +kernel
theorem dX11_principal_101 : decode cX11_principal 101 = .ok (.getfield 49, 3) := by decide +kernel
theorem dX11_principal_104 : decode cX11_principal 104 = .ok (.iload 4, 2) := by decide +kernel
theorem dX11_principal_106 : decode cX11_principal 106 = .ok (.iaload, 1) := by decide +kernel
theorem dX11_principal_107 : decode cX11_principal 107 = .ok (.if_icmp .le 8, 3) := by decide +kernel
theorem dX11_principal_110 : decode cX11_principal 110 = .ok (.iload 5, 2) := by decide +kernel
theorem dX11_principal_112 : decode cX11_principal 112 = .ok (.goto 5, 3) := by decide +kernel
theorem dX11_principal_115 : decode cX11_principal 115 = .ok (.iload 4, 2) := by decide +kernel
theorem dX11_principal_117 : decode cX11_principal 117 = .ok (.istore 4, 2) := by decide +kernel
theorem dX11_principal_119 : decode cX11_principal 119 = .ok (.iinc 5 1, 3) := by decide +kernel
theorem dX11_principal_122 : decode cX11_principal 122 = .ok (.goto (-46), 3) := by decide +kernel
theorem dX11_principal_125 : decode cX11_principal 125 = .ok (.iload_n 2, 1) := by decide +kernel
theorem dX11_principal_126 : decode cX11_principal 126 = .ok (.ifCond .ne 7, 3) := by decide +kernel
theorem dX11_principal_129 : decode cX11_principal 129 = .ok (.iload_n 3, 1) := by decide +kernel
theorem dX11_principal_130 : decode cX11_principal 130 = .ok (.goto 5, 3) := by decide +kernel
theorem dX11_principal_133 : decode cX11_principal 133 = .ok (.iload 4, 2) := by decide +kernel
theorem dX11_principal_135 : decode cX11_principal 135 = .ok (.ireturn, 1) := by decide +kernel
theorem dX11_tax_0 : decode cX11_tax 0 = .ok (.aload_n 0, 1) := by decide +kernel
theorem dX11_tax_1 : decode cX11_tax 1 = .ok (.iload_n 1, 1) := by decide +kernel
theorem dX11_tax_2 : decode cX11_tax 2 = .ok (.invokevirtual 87, 3) := by decide +kernel
theorem dX11_tax_5 : decode cX11_tax 5 = .ok (.ifCond .ne 5, 3) := by decide +kernel
theorem dX11_tax_8 : decode cX11_tax 8 = .ok (.iconst (-1), 1) := by decide +kernel
theorem dX11_tax_9 : decode cX11_tax 9 = .ok (.ireturn, 1) := by decide +kernel
theorem dX11_tax_10 : decode cX11_tax 10 = .ok (.iload_n 2, 1) := by decide +kernel
theorem dX11_tax_11 : decode cX11_tax 11 = .ok (.i2l, 1) := by decide +kernel
theorem dX11_tax_12 : decode cX11_tax 12 = .ok (.lconst 0, 1) := by decide +kernel
theorem dX11_tax_13 : decode cX11_tax 13 = .ok (.ldc2_w 112, 3) := by decide +kernel
theorem dX11_tax_16 : decode cX11_tax 16 = .ok (.invokestatic 78, 3) := by decide +kernel
theorem dX11_tax_19 : decode cX11_tax 19 = .ok (.ifCond .ne 6, 3) := by decide +kernel
theorem dX11_tax_22 : decode cX11_tax 22 = .ok (.bipush (-2), 2) := by decide +kernel
theorem dX11_tax_24 : decode cX11_tax 24 = .ok (.ireturn, 1) := by decide +kernel
theorem dX11_tax_25 : decode cX11_tax 25 = .ok (.aload_n 0, 1) := by decide +kernel
theorem dX11_tax_26 : decode cX11_tax 26 = .ok (.invokevirtual 237, 3) := by decide +kernel
theorem dX11_tax_29 : decode cX11_tax 29 = .ok (.istore_n 3, 1) := by decide +kernel
theorem dX11_tax_30 : decode cX11_tax 30 = .ok (.iload_n 3, 1) := by decide +kernel
theorem dX11_tax_31 : decode cX11_tax 31 = .ok (.ifCond .ne 5, 3) := by decide +kernel
theorem dX11_tax_34 : decode cX11_tax 34 = .ok (.iconst 0, 1) := by decide +kernel
theorem dX11_tax_35 : decode cX11_tax 35 = .ok (.ireturn, 1) := by decide +kernel
theorem dX11_tax_36 : decode cX11_tax 36 = .ok (.iload_n 2, 1) := by decide +kernel
theorem dX11_tax_37 : decode cX11_tax 37 = .ok (.istore 4, 2) := by decide +kernel
theorem dX11_tax_39 : decode cX11_tax 39 = .ok (.iconst 0, 1) := by decide +kernel
theorem dX11_tax_40 : decode cX11_tax 40 = .ok (.istore 5, 2) := by decide +kernel
theorem dX11_tax_42 : decode cX11_tax 42 = .ok (.iconst 0, 1) := by decide +kernel
theorem dX11_tax_43 : decode cX11_tax 43 = .ok (.istore 6, 2) := by decide +kernel
theorem dX11_tax_45 : decode cX11_tax 45 = .ok (.iload 6, 2) := by decide +kernel
theorem dX11_tax_47 : decode cX11_tax 47 = .ok (.bipush 6, 2) := by decide +kernel
theorem dX11_tax_49 : decode cX11_tax 49 = .ok (.if_icmp .ge 107, 3) := by decide +kernel
theorem dX11_tax_52 : decode cX11_tax 52 = .ok (.iload 4, 2) := by decide +kernel
theorem dX11_tax_54 : decode cX11_tax 54 = .ok (.aload_n 0, 1) := by decide +kernel
theorem dX11_tax_55 : decode cX11_tax 55 = .ok (.iload 6, 2) := by decide +kernel
theorem dX11_tax_57 : decode cX11_tax 57 = .ok (.invokevirtual 87, 3) := by decide +kernel
theorem dX11_tax_60 : decode cX11_tax 60 = .ok (.ifCond .eq 17, 3) := by decide +kernel
theorem dX11_tax_63 : decode cX11_tax 63 = .ok (.iload_n 2, 1) := by decide +kernel
theorem dX11_tax_64 : decode cX11_tax 64 = .ok (.aload_n 0, 1) := by decide +kernel
theorem dX11_tax_65 : decode cX11_tax 65 = .ok (.getfield 13, 3) := by decide +kernel
theorem dX11_tax_68 : decode cX11_tax 68 = .ok (.iload 6, 2) := by decide +kernel
theorem dX11_tax_70 : decode cX11_tax 70 = .ok (.iaload, 1) := by decide +kernel
theorem dX11_tax_71 : decode cX11_tax 71 = .ok (.imul, 1) := by decide +kernel
theorem dX11_tax_72 : decode cX11_tax 72 = .ok (.iload_n 3, 1) := by decide +kernel
theorem dX11_tax_73 : decode cX11_tax 73 = .ok (.idiv, 1) := by decide +kernel
theorem dX11_tax_74 : decode cX11_tax 74 = .ok (.goto 4, 3) := by decide +kernel
theorem dX11_tax_77 : decode cX11_tax 77 = .ok (.iconst 0, 1) := by decide +kernel
theorem dX11_tax_78 : decode cX11_tax 78 = .ok (.isub, 1) := by decide +kernel
theorem dX11_tax_79 : decode cX11_tax 79 = .ok (.istore 4, 2) := by decide +kernel
theorem dX11_tax_81 : decode cX11_tax 81 = .ok (.aload_n 0, 1) := by decide +kernel
theorem dX11_tax_82 : decode cX11_tax 82 = .ok (.getfield 13, 3) := by decide +kernel
theorem dX11_tax_85 : decode cX11_tax 85 = .ok (.iload 6, 2) := by decide +kernel
theorem dX11_tax_87 : decode cX11_tax 87 = .ok (.iaload, 1) := by decide +kernel
theorem dX11_tax_88 : decode cX11_tax 88 = .ok (.aload_n 0, 1) := by decide +kernel
theorem dX11_tax_89 : decode cX11_tax 89 = .ok (.getfield 13, 3) := by decide +kernel
theorem dX11_tax_92 : decode cX11_tax 92 = .ok (.iload_n 1, 1) := by decide +kernel
theorem dX11_tax_93 : decode cX11_tax 93 = .ok (.iaload, 1) := by decide +kernel
theorem dX11_tax_94 : decode cX11_tax 94 = .ok (.if_icmp .gt 25, 3) := by decide +kernel
theorem dX11_tax_97 : decode cX11_tax 97 = .ok (.aload_n 0, 1) := by decide +kernel
theorem dX11_tax_98 : decode cX11_tax 98 = .ok (.getfield 13, 3) := by decide +kernel
theorem dX11_tax_101 : decode cX11_tax 101 = .ok (.iload 6, 2) := by decide +kernel
theorem dX11_tax_103 : decode cX11_tax 103 = .ok (.iaload, 1) := by decide +kernel
theorem dX11_tax_104 : decode cX11_tax 104 = .ok (.aload_n 0, 1) := by decide +kernel
theorem dX11_tax_105 : decode cX11_tax 105 = .ok (.getfield 13, 3) := by decide +kernel
theorem dX11_tax_108 : decode cX11_tax 108 = .ok (.iload_n 1, 1) := by decide +kernel
theorem dX11_tax_109 : decode cX11_tax 109 = .ok (.iaload, 1) := by decide +kernel
theorem dX11_tax_110 : decode cX11_tax 110 = .ok (.if_icmp .ne 13, 3) := by decide +kernel
theorem dX11_tax_113 : decode cX11_tax 113 = .ok (.iload 6, 2) := by decide +kernel
theorem dX11_tax_115 : decode cX11_tax 115 = .ok (.iload_n 1, 1) := by decide +kernel
theorem dX11_tax_116 : decode cX11_tax 116 = .ok (.if_icmp .ge 7, 3) := by decide +kernel
theorem dX11_tax_119 : decode cX11_tax 119 = .ok (.iconst 1, 1) := by decide +kernel
theorem dX11_tax_120 : decode cX11_tax 120 = .ok (.goto 4, 3) := by decide +kernel
theorem dX11_tax_123 : decode cX11_tax 123 = .ok (.iconst 0, 1) := by decide +kernel
theorem dX11_tax_124 : decode cX11_tax 124 = .ok (.istore 7, 2) := by decide +kernel
theorem dX11_tax_126 : decode cX11_tax 126 = .ok (.iload 5, 2) := by decide +kernel
theorem dX11_tax_128 : decode cX11_tax 128 = .ok (.aload_n 0, 1) := by decide +kernel
theorem dX11_tax_129 : decode cX11_tax 129 = .ok (.iload 6, 2) := by decide +kernel
theorem dX11_tax_131 : decode cX11_tax 131 = .ok (.invokevirtual 87, 3) := by decide +kernel
theorem dX11_tax_134 : decode cX11_tax 134 = .ok (.ifCond .eq 12, 3) := by decide +kernel
theorem dX11_tax_137 : decode cX11_tax 137 = .ok (.iload 7, 2) := by decide +kernel
theorem dX11_tax_139 : decode cX11_tax 139 = .ok (.ifCond .eq 7, 3) := by decide +kernel
theorem dX11_tax_142 : decode cX11_tax 142 = .ok (.iconst 1, 1) := by decide +kernel
theorem dX11_tax_143 : decode cX11_tax 143 = .ok (.goto 4, 3) := by decide +kernel
theorem dX11_tax_146 : decode cX11_tax 146 = .ok (.iconst 0, 1) := by decide +kernel
theorem dX11_tax_147 : decode cX11_tax 147 = .ok (.iadd, 1) := by decide +kernel
theorem dX11_tax_148 : decode cX11_tax 148 = .ok (.istore 5, 2) := by decide +kernel
theorem dX11_tax_150 : decode cX11_tax 150 = .ok (.iinc 6 1, 3) := by decide +kernel
theorem dX11_tax_153 : decode cX11_tax 153 = .ok (.goto (-108), 3) := by decide +kernel
theorem dX11_tax_156 : decode cX11_tax 156 = .ok (.iload_n 2, 1) := by decide +kernel
theorem dX11_tax_157 : decode cX11_tax 157 = .ok (.aload_n 0, 1) := by decide +kernel
theorem dX11_tax_158 : decode cX11_tax 158 = .ok (.getfield 13, 3) := by decide +kernel
theorem dX11_tax_161 : decode cX11_tax 161 = .ok (.iload_n 1, 1) := by decide +kernel
theorem dX11_tax_162 : decode cX11_tax 162 = .ok (.iaload, 1) := by decide +kernel
theorem dX11_tax_163 : decode cX11_tax 163 = .ok (.imul, 1) := by decide +kernel
theorem dX11_tax_164 : decode cX11_tax 164 = .ok (.iload_n 3, 1) := by decide +kernel
