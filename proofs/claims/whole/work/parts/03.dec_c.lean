theorem dX8_init_0 : decode cX8_init 0 = .ok (.aload_n 0, 1) := by decide +kernel
theorem dX8_init_1 : decode cX8_init 1 = .ok (.invokespecial 1, 3) := by decide +kernel
theorem dX8_init_4 : decode cX8_init 4 = .ok (.aload_n 0, 1) := by decide +kernel
theorem dX8_init_5 : decode cX8_init 5 = .ok (.bipush 50, 2) := by decide +kernel
theorem dX8_init_7 : decode cX8_init 7 = .ok (.newarray .int, 2) := by decide +kernel
theorem dX8_init_9 : decode cX8_init 9 = .ok (.putfield 7, 3) := by decide +kernel
theorem dX8_init_12 : decode cX8_init 12 = .ok (.aload_n 0, 1) := by decide +kernel
theorem dX8_init_13 : decode cX8_init 13 = .ok (.bipush 50, 2) := by decide +kernel
theorem dX8_init_15 : decode cX8_init 15 = .ok (.newarray .int, 2) := by decide +kernel
theorem dX8_init_17 : decode cX8_init 17 = .ok (.putfield 13, 3) := by decide +kernel
theorem dX8_init_20 : decode cX8_init 20 = .ok (.aload_n 0, 1) := by decide +kernel
theorem dX8_init_21 : decode cX8_init 21 = .ok (.bipush 17, 2) := by decide +kernel
theorem dX8_init_23 : decode cX8_init 23 = .ok (.newarray .int, 2) := by decide +kernel
theorem dX8_init_25 : decode cX8_init 25 = .ok (.putfield 16, 3) := by decide +kernel
theorem dX8_init_28 : decode cX8_init 28 = .ok (.aload_n 0, 1) := by decide +kernel
theorem dX8_init_29 : decode cX8_init 29 = .ok (.sipush 340, 3) := by decide +kernel
theorem dX8_init_32 : decode cX8_init 32 = .ok (.newarray .int, 2) := by decide +kernel
theorem dX8_init_34 : decode cX8_init 34 = .ok (.putfield 19, 3) := by decide +kernel
theorem dX8_init_37 : decode cX8_init 37 = .ok (.aload_n 0, 1) := by decide +kernel
theorem dX8_init_38 : decode cX8_init 38 = .ok (.bipush 36, 2) := by decide +kernel
theorem dX8_init_40 : decode cX8_init 40 = .ok (.newarray .int, 2) := by decide +kernel
theorem dX8_init_42 : decode cX8_init 42 = .ok (.putfield 22, 3) := by decide +kernel
theorem dX8_init_45 : decode cX8_init 45 = .ok (.aload_n 0, 1) := by decide +kernel
theorem dX8_init_46 : decode cX8_init 46 = .ok (.iconst 2, 1) := by decide +kernel
theorem dX8_init_47 : decode cX8_init 47 = .ok (.newarray .boolean, 2) := by decide +kernel
theorem dX8_init_49 : decode cX8_init 49 = .ok (.putfield 25, 3) := by decide +kernel
theorem dX8_init_52 : decode cX8_init 52 = .ok (.aload_n 0, 1) := by decide +kernel
theorem dX8_init_53 : decode cX8_init 53 = .ok (.sipush 240, 3) := by decide +kernel
theorem dX8_init_56 : decode cX8_init 56 = .ok (.newarray .int, 2) := by decide +kernel
theorem dX8_init_58 : decode cX8_init 58 = .ok (.putfield 29, 3) := by decide +kernel
theorem dX8_init_61 : decode cX8_init 61 = .ok (.aload_n 0, 1) := by decide +kernel
theorem dX8_init_62 : decode cX8_init 62 = .ok (.iconst (-1), 1) := by decide +kernel
theorem dX8_init_63 : decode cX8_init 63 = .ok (.putfield 32, 3) := by decide +kernel
theorem dX8_init_66 : decode cX8_init 66 = .ok (.aload_n 0, 1) := by decide +kernel
theorem dX8_init_67 : decode cX8_init 67 = .ok (.bipush 12, 2) := by decide +kernel
theorem dX8_init_69 : decode cX8_init 69 = .ok (.newarray .int, 2) := by decide +kernel
theorem dX8_init_71 : decode cX8_init 71 = .ok (.putfield 36, 3) := by decide +kernel
theorem dX8_init_74 : decode cX8_init 74 = .ok (.aload_n 0, 1) := by decide +kernel
theorem dX8_init_75 : decode cX8_init 75 = .ok (.bipush 30, 2) := by decide +kernel
theorem dX8_init_77 : decode cX8_init 77 = .ok (.newarray .int, 2) := by decide +kernel
theorem dX8_init_79 : decode cX8_init 79 = .ok (.putfield 39, 3) := by decide +kernel
theorem dX8_init_82 : decode cX8_init 82 = .ok (.aload_n 0, 1) := by decide +kernel
theorem dX8_init_83 : decode cX8_init 83 = .ok (.bipush 17, 2) := by decide +kernel
theorem dX8_init_85 : decode cX8_init 85 = .ok (.newarray .int, 2) := by decide +kernel
theorem dX8_init_87 : decode cX8_init 87 = .ok (.putfield 42, 3) := by decide +kernel
theorem dX8_init_90 : decode cX8_init 90 = .ok (.aload_n 0, 1) := by decide +kernel
theorem dX8_init_91 : decode cX8_init 91 = .ok (.bipush 17, 2) := by decide +kernel
theorem dX8_init_93 : decode cX8_init 93 = .ok (.newarray .int, 2) := by decide +kernel
theorem dX8_init_95 : decode cX8_init 95 = .ok (.putfield 45, 3) := by decide +kernel
theorem dX8_init_98 : decode cX8_init 98 = .ok (.aload_n 0, 1) := by decide +kernel
theorem dX8_init_99 : decode cX8_init 99 = .ok (.bipush 85, 2) := by decide +kernel
theorem dX8_init_101 : decode cX8_init 101 = .ok (.newarray .int, 2) := by decide +kernel
theorem dX8_init_103 : decode cX8_init 103 = .ok (.putfield 48, 3) := by decide +kernel
theorem dX8_init_106 : decode cX8_init 106 = .ok (.aload_n 0, 1) := by decide +kernel
theorem dX8_init_107 : decode cX8_init 107 = .ok (.iconst 5, 1) := by decide +kernel
theorem dX8_init_108 : decode cX8_init 108 = .ok (.newarray .int, 2) := by decide +kernel
theorem dX8_init_110 : decode cX8_init 110 = .ok (.putfield 51, 3) := by decide +kernel
theorem dX8_init_113 : decode cX8_init 113 = .ok (.aload_n 0, 1) := by decide +kernel
theorem dX8_init_114 : decode cX8_init 114 = .ok (.iconst 5, 1) := by decide +kernel
theorem dX8_init_115 : decode cX8_init 115 = .ok (.newarray .int, 2) := by decide +kernel
theorem dX8_init_117 : decode cX8_init 117 = .ok (.putfield 54, 3) := by decide +kernel
theorem dX8_init_120 : decode cX8_init 120 = .ok (.aload_n 0, 1) := by decide +kernel
theorem dX8_init_121 : decode cX8_init 121 = .ok (.iconst 5, 1) := by decide +kernel
theorem dX8_init_122 : decode cX8_init 122 = .ok (.newarray .int, 2) := by decide +kernel
theorem dX8_init_124 : decode cX8_init 124 = .ok (.putfield 57, 3) := by decide +kernel
theorem dX8_init_127 : decode cX8_init 127 = .ok (.aload_n 0, 1) := by decide +kernel
theorem dX8_init_128 : decode cX8_init 128 = .ok (.getfield 7, 3) := by decide +kernel
theorem dX8_init_131 : decode cX8_init 131 = .ok (.iconst 3, 1) := by decide +kernel
theorem dX8_init_132 : decode cX8_init 132 = .ok (.bipush 10, 2) := by decide +kernel
theorem dX8_init_134 : decode cX8_init 134 = .ok (.iastore, 1) := by decide +kernel
theorem dX8_init_135 : decode cX8_init 135 = .ok (.aload_n 0, 1) := by decide +kernel
theorem dX8_init_136 : decode cX8_init 136 = .ok (.invokevirtual 60, 3) := by decide +kernel
theorem dX8_init_139 : decode cX8_init 139 = .ok (.return_, 1) := by decide +kernel
theorem dX8_in_0 : decode cX8_in 0 = .ok (.lload_n 0, 1) := by decide +kernel
theorem dX8_in_1 : decode cX8_in 1 = .ok (.lload_n 2, 1) := by decide +kernel
theorem dX8_in_2 : decode cX8_in 2 = .ok (.lcmp, 1) := by decide +kernel
theorem dX8_in_3 : decode cX8_in 3 = .ok (.ifCond .lt 14, 3) := by decide +kernel
theorem dX8_in_6 : decode cX8_in 6 = .ok (.lload_n 0, 1) := by decide +kernel
theorem dX8_in_7 : decode cX8_in 7 = .ok (.lload 4, 2) := by decide +kernel
theorem dX8_in_9 : decode cX8_in 9 = .ok (.lcmp, 1) := by decide +kernel
theorem dX8_in_10 : decode cX8_in 10 = .ok (.ifCond .gt 7, 3) := by decide +kernel
theorem dX8_in_13 : decode cX8_in 13 = .ok (.iconst 1, 1) := by decide +kernel
theorem dX8_in_14 : decode cX8_in 14 = .ok (.goto 4, 3) := by decide +kernel
theorem dX8_in_17 : decode cX8_in 17 = .ok (.iconst 0, 1) := by decide +kernel
theorem dX8_in_18 : decode cX8_in 18 = .ok (.ireturn, 1) := by decide +kernel
theorem dX8_has_0 : decode cX8_has 0 = .ok (.iload_n 0, 1) := by decide +kernel
theorem dX8_has_1 : decode cX8_has 1 = .ok (.iload_n 1, 1) := by decide +kernel
theorem dX8_has_2 : decode cX8_has 2 = .ok (.ishr, 1) := by decide +kernel
theorem dX8_has_3 : decode cX8_has 3 = .ok (.iconst 1, 1) := by decide +kernel
theorem dX8_has_4 : decode cX8_has 4 = .ok (.iand, 1) := by decide +kernel
theorem dX8_has_5 : decode cX8_has 5 = .ok (.iconst 1, 1) := by decide +kernel
theorem dX8_has_6 : decode cX8_has 6 = .ok (.if_icmp .ne 7, 3) := by decide +kernel
theorem dX8_has_9 : decode cX8_has 9 = .ok (.iconst 1, 1) := by decide +kernel
theorem dX8_has_10 : decode cX8_has 10 = .ok (.goto 4, 3) := by decide +kernel
theorem dX8_has_13 : decode cX8_has 13 = .ok (.iconst 0, 1) := by decide +kernel
theorem dX8_has_14 : decode cX8_has 14 = .ok (.ireturn, 1) := by decide +kernel
theorem dX8_bits_0 : decode cX8_bits 0 = .ok (.iconst 0, 1) := by decide +kernel
theorem dX8_bits_1 : decode cX8_bits 1 = .ok (.istore_n 1, 1) := by decide +kernel
theorem dX8_bits_2 : decode cX8_bits 2 = .ok (.iload_n 0, 1) := by decide +kernel
theorem dX8_bits_3 : decode cX8_bits 3 = .ok (.istore_n 2, 1) := by decide +kernel
theorem dX8_bits_4 : decode cX8_bits 4 = .ok (.iload_n 2, 1) := by decide +kernel
theorem dX8_bits_5 : decode cX8_bits 5 = .ok (.ifCond .eq 15, 3) := by decide +kernel
theorem dX8_bits_8 : decode cX8_bits 8 = .ok (.iinc 1 1, 3) := by decide +kernel
theorem dX8_bits_11 : decode cX8_bits 11 = .ok (.iload_n 2, 1) := by decide +kernel
theorem dX8_bits_12 : decode cX8_bits 12 = .ok (.iload_n 2, 1) := by decide +kernel
theorem dX8_bits_13 : decode cX8_bits 13 = .ok (.iconst 1, 1) := by decide +kernel
theorem dX8_bits_14 : decode cX8_bits 14 = .ok (.isub, 1) := by decide +kernel
theorem dX8_bits_15 : decode cX8_bits 15 = .ok (.iand, 1) := by decide +kernel
theorem dX8_bits_16 : decode cX8_bits 16 = .ok (.istore_n 2, 1) := by decide +kernel
theorem dX8_bits_17 : decode cX8_bits 17 = .ok (.goto (-13), 3) := by decide +kernel
theorem dX8_bits_20 : decode cX8_bits 20 = .ok (.iload_n 1, 1) := by decide +kernel
theorem dX8_bits_21 : decode cX8_bits 21 = .ok (.ireturn, 1) := by decide +kernel
theorem dX8_begins_0 : decode cX8_begins 0 = .ok (.iconst 0, 1) := by decide +kernel
theorem dX8_begins_1 : decode cX8_begins 1 = .ok (.istore_n 1, 1) := by decide +kernel
theorem dX8_begins_2 : decode cX8_begins 2 = .ok (.iload_n 1, 1) := by decide +kernel
theorem dX8_begins_3 : decode cX8_begins 3 = .ok (.bipush 17, 2) := by decide +kernel
theorem dX8_begins_5 : decode cX8_begins 5 = .ok (.if_icmp .ge 32, 3) := by decide +kernel
theorem dX8_begins_8 : decode cX8_begins 8 = .ok (.aload_n 0, 1) := by decide +kernel
theorem dX8_begins_9 : decode cX8_begins 9 = .ok (.getfield 16, 3) := by decide +kernel
theorem dX8_begins_12 : decode cX8_begins 12 = .ok (.iload_n 1, 1) := by decide +kernel
theorem dX8_begins_13 : decode cX8_begins 13 = .ok (.iload_n 1, 1) := by decide +kernel
theorem dX8_begins_14 : decode cX8_begins 14 = .ok (.iconst 5, 1) := by decide +kernel
theorem dX8_begins_15 : decode cX8_begins 15 = .ok (.if_icmp .ge 14, 3) := by decide +kernel
theorem dX8_begins_18 : decode cX8_begins 18 = .ok (.aload_n 0, 1) := by decide +kernel
theorem dX8_begins_19 : decode cX8_begins 19 = .ok (.getfield 7, 3) := by decide +kernel
theorem dX8_begins_22 : decode cX8_begins 22 = .ok (.iconst 5, 1) := by decide +kernel
theorem dX8_begins_23 : decode cX8_begins 23 = .ok (.iload_n 1, 1) := by decide +kernel
theorem dX8_begins_24 : decode cX8_begins 24 = .ok (.iadd, 1) := by decide +kernel
theorem dX8_begins_25 : decode cX8_begins 25 = .ok (.iaload, 1) := by decide +kernel
theorem dX8_begins_26 : decode cX8_begins 26 = .ok (.goto 4, 3) := by decide +kernel
theorem dX8_begins_29 : decode cX8_begins 29 = .ok (.iconst 0, 1) := by decide +kernel
theorem dX8_begins_30 : decode cX8_begins 30 = .ok (.iastore, 1) := by decide +kernel
theorem dX8_begins_31 : decode cX8_begins 31 = .ok (.iinc 1 1, 3) := by decide +kernel
theorem dX8_begins_34 : decode cX8_begins 34 = .ok (.goto (-32), 3) := by decide +kernel
theorem dX8_begins_37 : decode cX8_begins 37 = .ok (.iconst 0, 1) := by decide +kernel
theorem dX8_begins_38 : decode cX8_begins 38 = .ok (.istore_n 1, 1) := by decide +kernel
theorem dX8_begins_39 : decode cX8_begins 39 = .ok (.iload_n 1, 1) := by decide +kernel
theorem dX8_begins_40 : decode cX8_begins 40 = .ok (.aload_n 0, 1) := by decide +kernel
theorem dX8_begins_41 : decode cX8_begins 41 = .ok (.getfield 7, 3) := by decide +kernel
theorem dX8_begins_44 : decode cX8_begins 44 = .ok (.iconst 2, 1) := by decide +kernel
theorem dX8_begins_45 : decode cX8_begins 45 = .ok (.iaload, 1) := by decide +kernel
theorem dX8_begins_46 : decode cX8_begins 46 = .ok (.if_icmp .ge 38, 3) := by decide +kernel
theorem dX8_begins_49 : decode cX8_begins 49 = .ok (.aload_n 0, 1) := by decide +kernel
theorem dX8_begins_50 : decode cX8_begins 50 = .ok (.getfield 16, 3) := by decide +kernel
theorem dX8_begins_53 : decode cX8_begins 53 = .ok (.bipush 13, 2) := by decide +kernel
theorem dX8_begins_55 : decode cX8_begins 55 = .ok (.dup2, 1) := by decide +kernel
theorem dX8_begins_56 : decode cX8_begins 56 = .ok (.iaload, 1) := by decide +kernel
theorem dX8_begins_57 : decode cX8_begins 57 = .ok (.aload_n 0, 1) := by decide +kernel
theorem dX8_begins_58 : decode cX8_begins 58 = .ok (.getfield 7, 3) := by decide +kernel
theorem dX8_begins_61 : decode cX8_begins 61 = .ok (.bipush 42, 2) := by decide +kernel
theorem dX8_begins_63 : decode cX8_begins 63 = .ok (.iload_n 1, 1) := by decide +kernel
theorem dX8_begins_64 : decode cX8_begins 64 = .ok (.iadd, 1) := by decide +kernel
theorem dX8_begins_65 : decode cX8_begins 65 = .ok (.iaload, 1) := by decide +kernel
theorem dX8_begins_66 : decode cX8_begins 66 = .ok (.ifCond .ne 9, 3) := by decide +kernel
theorem dX8_begins_69 : decode cX8_begins 69 = .ok (.iconst 1, 1) := by decide +kernel
theorem dX8_begins_70 : decode cX8_begins 70 = .ok (.iload_n 1, 1) := by decide +kernel
theorem dX8_begins_71 : decode cX8_begins 71 = .ok (.ishl, 1) := by decide +kernel
theorem dX8_begins_72 : decode cX8_begins 72 = .ok (.goto 4, 3) := by decide +kernel
theorem dX8_begins_75 : decode cX8_begins 75 = .ok (.iconst 0, 1) := by decide +kernel
theorem dX8_begins_76 : decode cX8_begins 76 = .ok (.ior, 1) := by decide +kernel
theorem dX8_begins_77 : decode cX8_begins 77 = .ok (.iastore, 1) := by decide +kernel
theorem dX8_begins_78 : decode cX8_begins 78 = .ok (.iinc 1 1, 3) := by decide +kernel
theorem dX8_begins_81 : decode cX8_begins 81 = .ok (.goto (-42), 3) := by decide +kernel
theorem dX8_begins_84 : decode cX8_begins 84 = .ok (.aload_n 0, 1) := by decide +kernel
theorem dX8_begins_85 : decode cX8_begins 85 = .ok (.getfield 16, 3) := by decide +kernel
theorem dX8_begins_88 : decode cX8_begins 88 = .ok (.bipush 16, 2) := by decide +kernel
theorem dX8_begins_90 : decode cX8_begins 90 = .ok (.iconst (-1), 1) := by decide +kernel
theorem dX8_begins_91 : decode cX8_begins 91 = .ok (.iastore, 1) := by decide +kernel
theorem dX8_begins_92 : decode cX8_begins 92 = .ok (.aload_n 0, 1) := by decide +kernel
theorem dX8_begins_93 : decode cX8_begins 93 = .ok (.iconst 0, 1) := by decide +kernel
theorem dX8_begins_94 : decode cX8_begins 94 = .ok (.putfield 63, 3) := by decide +kernel
theorem dX8_begins_97 : decode cX8_begins 97 = .ok (.aload_n 0, 1) := by decide +kernel
theorem dX8_begins_98 : decode cX8_begins 98 = .ok (.iconst 0, 1) := by decide +kernel
theorem dX8_begins_99 : decode cX8_begins 99 = .ok (.putfield 66, 3) := by decide +kernel
theorem dX8_begins_102 : decode cX8_begins 102 = .ok (.aload_n 0, 1) := by decide +kernel
theorem dX8_begins_103 : decode cX8_begins 103 = .ok (.iconst 0, 1) := by decide +kernel
theorem dX8_begins_104 : decode cX8_begins 104 = .ok (.putfield 69, 3) := by decide +kernel
theorem dX8_begins_107 : decode cX8_begins 107 = .ok (.aload_n 0, 1) := by decide +kernel
theorem dX8_begins_108 : decode cX8_begins 108 = .ok (.getfield 25, 3) := by decide +kernel
theorem dX8_begins_111 : decode cX8_begins 111 = .ok (.iconst 0, 1) := by decide +kernel
theorem dX8_begins_112 : decode cX8_begins 112 = .ok (.iconst 0, 1) := by decide +kernel
theorem dX8_begins_113 : decode cX8_begins 113 = .ok (.bastore, 1) := by decide +kernel
theorem dX8_begins_114 : decode cX8_begins 114 = .ok (.aload_n 0, 1) := by decide +kernel
theorem dX8_begins_115 : decode cX8_begins 115 = .ok (.getfield 25, 3) := by decide +kernel
theorem dX8_begins_118 : decode cX8_begins 118 = .ok (.iconst 1, 1) := by decide +kernel
theorem dX8_begins_119 : decode cX8_begins 119 = .ok (.iconst 0, 1) := by decide +kernel
theorem dX8_begins_120 : decode cX8_begins 120 = .ok (.bastore, 1) := by decide +kernel
theorem dX8_begins_121 : decode cX8_begins 121 = .ok (.return_, 1) := by decide +kernel
theorem dX8_feed_0 : decode cX8_feed 0 = .ok (.iload_n 1, 1) := by decide +kernel
theorem dX8_feed_1 : decode cX8_feed 1 = .ok (.i2l, 1) := by decide +kernel
theorem dX8_feed_2 : decode cX8_feed 2 = .ok (.lconst 0, 1) := by decide +kernel
theorem dX8_feed_3 : decode cX8_feed 3 = .ok (.ldc2_w 72, 3) := by decide +kernel
theorem dX8_feed_6 : decode cX8_feed 6 = .ok (.invokestatic 74, 3) := by decide +kernel
theorem dX8_feed_9 : decode cX8_feed 9 = .ok (.ifCond .ne 6, 3) := by decide +kernel
theorem dX8_feed_12 : decode cX8_feed 12 = .ok (.ldc 78, 2) := by decide +kernel
theorem dX8_feed_14 : decode cX8_feed 14 = .ok (.ireturn, 1) := by decide +kernel
theorem dX8_feed_15 : decode cX8_feed 15 = .ok (.aload_n 0, 1) := by decide +kernel
theorem dX8_feed_16 : decode cX8_feed 16 = .ok (.getfield 79, 3) := by decide +kernel
theorem dX8_feed_19 : decode cX8_feed 19 = .ok (.sipush 240, 3) := by decide +kernel
theorem dX8_feed_22 : decode cX8_feed 22 = .ok (.if_icmp .ne 6, 3) := by decide +kernel
theorem dX8_feed_25 : decode cX8_feed 25 = .ok (.ldc 82, 2) := by decide +kernel
theorem dX8_feed_27 : decode cX8_feed 27 = .ok (.ireturn, 1) := by decide +kernel
theorem dX8_feed_28 : decode cX8_feed 28 = .ok (.aload_n 0, 1) := by decide +kernel
theorem dX8_feed_29 : decode cX8_feed 29 = .ok (.getfield 29, 3) := by decide +kernel
theorem dX8_feed_32 : decode cX8_feed 32 = .ok (.aload_n 0, 1) := by decide +kernel
theorem dX8_feed_33 : decode cX8_feed 33 = .ok (.getfield 79, 3) := by decide +kernel
theorem dX8_feed_36 : decode cX8_feed 36 = .ok (.iload_n 1, 1) := by decide +kernel
theorem dX8_feed_37 : decode cX8_feed 37 = .ok (.iastore, 1) := by decide +kernel
theorem dX8_feed_38 : decode cX8_feed 38 = .ok (.aload_n 0, 1) := by decide +kernel
theorem dX8_feed_39 : decode cX8_feed 39 = .ok (.dup, 1) := by decide +kernel
theorem dX8_feed_40 : decode cX8_feed 40 = .ok (.getfield 79, 3) := by decide +kernel
theorem dX8_feed_43 : decode cX8_feed 43 = .ok (.iconst 1, 1) := by decide +kernel
theorem dX8_feed_44 : decode cX8_feed 44 = .ok (.iadd, 1) := by decide +kernel
theorem dX8_feed_45 : decode cX8_feed 45 = .ok (.putfield 79, 3) := by decide +kernel
theorem dX8_feed_48 : decode cX8_feed 48 = .ok (.aload_n 0, 1) := by decide +kernel
theorem dX8_feed_49 : decode cX8_feed 49 = .ok (.getfield 79, 3) := by decide +kernel
theorem dX8_feed_52 : decode cX8_feed 52 = .ok (.ireturn, 1) := by decide +kernel
theorem dX8_here_0 : decode cX8_here 0 = .ok (.aload_n 0, 1) := by decide +kernel
theorem dX8_here_1 : decode cX8_here 1 = .ok (.getfield 83, 3) := by decide +kernel
theorem dX8_here_4 : decode cX8_here 4 = .ok (.aload_n 0, 1) := by decide +kernel
theorem dX8_here_5 : decode cX8_here 5 = .ok (.getfield 79, 3) := by decide +kernel
theorem dX8_here_8 : decode cX8_here 8 = .ok (.if_icmp .ge 15, 3) := by decide +kernel
theorem dX8_here_11 : decode cX8_here 11 = .ok (.aload_n 0, 1) := by decide +kernel
theorem dX8_here_12 : decode cX8_here 12 = .ok (.getfield 29, 3) := by decide +kernel
theorem dX8_here_15 : decode cX8_here 15 = .ok (.aload_n 0, 1) := by decide +kernel
theorem dX8_here_16 : decode cX8_here 16 = .ok (.getfield 83, 3) := by decide +kernel
theorem dX8_here_19 : decode cX8_here 19 = .ok (.iaload, 1) := by decide +kernel
theorem dX8_here_20 : decode cX8_here 20 = .ok (.goto 4, 3) := by decide +kernel
theorem dX8_here_23 : decode cX8_here 23 = .ok (.iconst (-1), 1) := by decide +kernel
theorem dX8_here_24 : decode cX8_here 24 = .ok (.ireturn, 1) := by decide +kernel
theorem dX8_step_0 : decode cX8_step 0 = .ok (.aload_n 0, 1) := by decide +kernel
theorem dX8_step_1 : decode cX8_step 1 = .ok (.invokevirtual 86, 3) := by decide +kernel
theorem dX8_step_4 : decode cX8_step 4 = .ok (.bipush 32, 2) := by decide +kernel
theorem dX8_step_6 : decode cX8_step 6 = .ok (.if_icmp .ne 16, 3) := by decide +kernel
theorem dX8_step_9 : decode cX8_step 9 = .ok (.aload_n 0, 1) := by decide +kernel
theorem dX8_step_10 : decode cX8_step 10 = .ok (.dup, 1) := by decide +kernel
theorem dX8_step_11 : decode cX8_step 11 = .ok (.getfield 83, 3) := by decide +kernel
theorem dX8_step_14 : decode cX8_step 14 = .ok (.iconst 1, 1) := by decide +kernel
theorem dX8_step_15 : decode cX8_step 15 = .ok (.iadd, 1) := by decide +kernel
theorem dX8_step_16 : decode cX8_step 16 = .ok (.putfield 83, 3) := by decide +kernel
theorem dX8_step_19 : decode cX8_step 19 = .ok (.goto (-19), 3) := by decide +kernel
theorem dX8_step_22 : decode cX8_step 22 = .ok (.aload_n 0, 1) := by decide +kernel
theorem dX8_step_23 : decode cX8_step 23 = .ok (.aload_n 0, 1) := by decide +kernel
theorem dX8_step_24 : decode cX8_step 24 = .ok (.getfield 83, 3) := by decide +kernel
theorem dX8_step_27 : decode cX8_step 27 = .ok (.putfield 90, 3) := by decide +kernel
theorem dX8_step_30 : decode cX8_step 30 = .ok (.aload_n 0, 1) := by decide +kernel
theorem dX8_step_31 : decode cX8_step 31 = .ok (.aload_n 0, 1) := by decide +kernel
theorem dX8_step_32 : decode cX8_step 32 = .ok (.invokevirtual 86, 3) := by decide +kernel
theorem dX8_step_35 : decode cX8_step 35 = .ok (.putfield 93, 3) := by decide +kernel
theorem dX8_step_38 : decode cX8_step 38 = .ok (.aload_n 0, 1) := by decide +kernel
theorem dX8_step_39 : decode cX8_step 39 = .ok (.iconst 0, 1) := by decide +kernel
theorem dX8_step_40 : decode cX8_step 40 = .ok (.putfield 96, 3) := by decide +kernel
theorem dX8_step_43 : decode cX8_step 43 = .ok (.aload_n 0, 1) := by decide +kernel
theorem dX8_step_44 : decode cX8_step 44 = .ok (.iconst 0, 1) := by decide +kernel
theorem dX8_step_45 : decode cX8_step 45 = .ok (.putfield 99, 3) := by decide +kernel
theorem dX8_step_48 : decode cX8_step 48 = .ok (.aload_n 0, 1) := by decide +kernel
theorem dX8_step_49 : decode cX8_step 49 = .ok (.getfield 93, 3) := by decide +kernel
theorem dX8_step_52 : decode cX8_step 52 = .ok (.i2l, 1) := by decide +kernel
theorem dX8_step_53 : decode cX8_step 53 = .ok (.ldc2_w 102, 3) := by decide +kernel
theorem dX8_step_56 : decode cX8_step 56 = .ok (.ldc2_w 104, 3) := by decide +kernel
theorem dX8_step_59 : decode cX8_step 59 = .ok (.invokestatic 74, 3) := by decide +kernel
theorem dX8_step_62 : decode cX8_step 62 = .ok (.ifCond .ne 25, 3) := by decide +kernel
theorem dX8_step_65 : decode cX8_step 65 = .ok (.aload_n 0, 1) := by decide +kernel
theorem dX8_step_66 : decode cX8_step 66 = .ok (.dup, 1) := by decide +kernel
theorem dX8_step_67 : decode cX8_step 67 = .ok (.getfield 83, 3) := by decide +kernel
theorem dX8_step_70 : decode cX8_step 70 = .ok (.aload_n 0, 1) := by decide +kernel
theorem dX8_step_71 : decode cX8_step 71 = .ok (.getfield 93, 3) := by decide +kernel
theorem dX8_step_74 : decode cX8_step 74 = .ok (.ifCond .ge 7, 3) := by decide +kernel
theorem dX8_step_77 : decode cX8_step 77 = .ok (.iconst 0, 1) := by decide +kernel
theorem dX8_step_78 : decode cX8_step 78 = .ok (.goto 4, 3) := by decide +kernel
theorem dX8_step_81 : decode cX8_step 81 = .ok (.iconst 1, 1) := by decide +kernel
theorem dX8_step_82 : decode cX8_step 82 = .ok (.iadd, 1) := by decide +kernel
theorem dX8_step_83 : decode cX8_step 83 = .ok (.putfield 83, 3) := by decide +kernel
theorem dX8_step_86 : decode cX8_step 86 = .ok (.return_, 1) := by decide +kernel
theorem dX8_step_87 : decode cX8_step 87 = .ok (.aload_n 0, 1) := by decide +kernel
theorem dX8_step_88 : decode cX8_step 88 = .ok (.bipush 48, 2) := by decide +kernel
theorem dX8_step_90 : decode cX8_step 90 = .ok (.putfield 93, 3) := by decide +kernel
theorem dX8_step_93 : decode cX8_step 93 = .ok (.aload_n 0, 1) := by decide +kernel
theorem dX8_step_94 : decode cX8_step 94 = .ok (.invokevirtual 86, 3) := by decide +kernel
theorem dX8_step_97 : decode cX8_step 97 = .ok (.i2l, 1) := by decide +kernel
theorem dX8_step_98 : decode cX8_step 98 = .ok (.ldc2_w 102, 3) := by decide +kernel
theorem dX8_step_101 : decode cX8_step 101 = .ok (.ldc2_w 104, 3) := by decide +kernel
theorem dX8_step_104 : decode cX8_step 104 = .ok (.invokestatic 74, 3) := by decide +kernel
theorem dX8_step_107 : decode cX8_step 107 = .ok (.ifCond .eq 60, 3) := by decide +kernel
theorem dX8_step_110 : decode cX8_step 110 = .ok (.aload_n 0, 1) := by decide +kernel
theorem dX8_step_111 : decode cX8_step 111 = .ok (.aload_n 0, 1) := by decide +kernel
theorem dX8_step_112 : decode cX8_step 112 = .ok (.getfield 96, 3) := by decide +kernel
theorem dX8_step_115 : decode cX8_step 115 = .ok (.iconst 3, 1) := by decide +kernel
theorem dX8_step_116 : decode cX8_step 116 = .ok (.if_icmp .ge 21, 3) := by decide +kernel
theorem dX8_step_119 : decode cX8_step 119 = .ok (.bipush 10, 2) := by decide +kernel
theorem dX8_step_121 : decode cX8_step 121 = .ok (.aload_n 0, 1) := by decide +kernel
theorem dX8_step_122 : decode cX8_step 122 = .ok (.getfield 99, 3) := by decide +kernel
theorem dX8_step_125 : decode cX8_step 125 = .ok (.imul, 1) := by decide +kernel
theorem dX8_step_126 : decode cX8_step 126 = .ok (.aload_n 0, 1) := by decide +kernel
theorem dX8_step_127 : decode cX8_step 127 = .ok (.invokevirtual 86, 3) := by decide +kernel
theorem dX8_step_130 : decode cX8_step 130 = .ok (.iadd, 1) := by decide +kernel
theorem dX8_step_131 : decode cX8_step 131 = .ok (.bipush 48, 2) := by decide +kernel
theorem dX8_step_133 : decode cX8_step 133 = .ok (.isub, 1) := by decide +kernel
theorem dX8_step_134 : decode cX8_step 134 = .ok (.goto 7, 3) := by decide +kernel
theorem dX8_step_137 : decode cX8_step 137 = .ok (.aload_n 0, 1) := by decide +kernel
theorem dX8_step_138 : decode cX8_step 138 = .ok (.getfield 99, 3) := by decide +kernel
theorem dX8_step_141 : decode cX8_step 141 = .ok (.putfield 99, 3) := by decide +kernel
theorem dX8_step_144 : decode cX8_step 144 = .ok (.aload_n 0, 1) := by decide +kernel
theorem dX8_step_145 : decode cX8_step 145 = .ok (.dup, 1) := by decide +kernel
theorem dX8_step_146 : decode cX8_step 146 = .ok (.getfield 96, 3) := by decide +kernel
theorem dX8_step_149 : decode cX8_step 149 = .ok (.iconst 1, 1) := by decide +kernel
theorem dX8_step_150 : decode cX8_step 150 = .ok (.iadd, 1) := by decide +kernel
theorem dX8_step_151 : decode cX8_step 151 = .ok (.putfield 96, 3) := by decide +kernel
theorem dX8_step_154 : decode cX8_step 154 = .ok (.aload_n 0, 1) := by decide +kernel
theorem dX8_step_155 : decode cX8_step 155 = .ok (.dup, 1) := by decide +kernel
theorem dX8_step_156 : decode cX8_step 156 = .ok (.getfield 83, 3) := by decide +kernel
theorem dX8_step_159 : decode cX8_step 159 = .ok (.iconst 1, 1) := by decide +kernel
theorem dX8_step_160 : decode cX8_step 160 = .ok (.iadd, 1) := by decide +kernel
theorem dX8_step_161 : decode cX8_step 161 = .ok (.putfield 83, 3) := by decide +kernel
theorem dX8_step_164 : decode cX8_step 164 = .ok (.goto (-71), 3) := by decide +kernel
theorem dX8_step_167 : decode cX8_step 167 = .ok (.return_, 1) := by decide +kernel
theorem dX8_fails_0 : decode cX8_fails 0 = .ok (.aload_n 0, 1) := by decide +kernel
theorem dX8_fails_1 : decode cX8_fails 1 = .ok (.iload_n 1, 1) := by decide +kernel
theorem dX8_fails_2 : decode cX8_fails 2 = .ok (.putfield 106, 3) := by decide +kernel
theorem dX8_fails_5 : decode cX8_fails 5 = .ok (.iconst 0, 1) := by decide +kernel
theorem dX8_fails_6 : decode cX8_fails 6 = .ok (.ireturn, 1) := by decide +kernel
theorem dX8_number_0 : decode cX8_number 0 = .ok (.aload_n 0, 1) := by decide +kernel
theorem dX8_number_1 : decode cX8_number 1 = .ok (.invokevirtual 109, 3) := by decide +kernel
theorem dX8_number_4 : decode cX8_number 4 = .ok (.aload_n 0, 1) := by decide +kernel
theorem dX8_number_5 : decode cX8_number 5 = .ok (.getfield 93, 3) := by decide +kernel
theorem dX8_number_8 : decode cX8_number 8 = .ok (.bipush 48, 2) := by decide +kernel
theorem dX8_number_10 : decode cX8_number 10 = .ok (.if_icmp .eq 9, 3) := by decide +kernel
theorem dX8_number_13 : decode cX8_number 13 = .ok (.aload_n 0, 1) := by decide +kernel
theorem dX8_number_14 : decode cX8_number 14 = .ok (.iconst 1, 1) := by decide +kernel
theorem dX8_number_15 : decode cX8_number 15 = .ok (.invokevirtual 112, 3) := by decide +kernel
theorem dX8_number_18 : decode cX8_number 18 = .ok (.ireturn, 1) := by decide +kernel
theorem dX8_number_19 : decode cX8_number 19 = .ok (.aload_n 0, 1) := by decide +kernel
theorem dX8_number_20 : decode cX8_number 20 = .ok (.getfield 96, 3) := by decide +kernel
theorem dX8_number_23 : decode cX8_number 23 = .ok (.iconst 3, 1) := by decide +kernel
theorem dX8_number_24 : decode cX8_number 24 = .ok (.if_icmp .gt 18, 3) := by decide +kernel
theorem dX8_number_27 : decode cX8_number 27 = .ok (.aload_n 0, 1) := by decide +kernel
theorem dX8_number_28 : decode cX8_number 28 = .ok (.getfield 99, 3) := by decide +kernel
theorem dX8_number_31 : decode cX8_number 31 = .ok (.i2l, 1) := by decide +kernel
theorem dX8_number_32 : decode cX8_number 32 = .ok (.iload_n 2, 1) := by decide +kernel
theorem dX8_number_33 : decode cX8_number 33 = .ok (.i2l, 1) := by decide +kernel
theorem dX8_number_34 : decode cX8_number 34 = .ok (.iload_n 3, 1) := by decide +kernel
theorem dX8_number_35 : decode cX8_number 35 = .ok (.i2l, 1) := by decide +kernel
theorem dX8_number_36 : decode cX8_number 36 = .ok (.invokestatic 74, 3) := by decide +kernel
theorem dX8_number_39 : decode cX8_number 39 = .ok (.ifCond .ne 9, 3) := by decide +kernel
theorem dX8_number_42 : decode cX8_number 42 = .ok (.aload_n 0, 1) := by decide +kernel
theorem dX8_number_43 : decode cX8_number 43 = .ok (.iconst 2, 1) := by decide +kernel
theorem dX8_number_44 : decode cX8_number 44 = .ok (.invokevirtual 112, 3) := by decide +kernel
theorem dX8_number_47 : decode cX8_number 47 = .ok (.ireturn, 1) := by decide +kernel
theorem dX8_number_48 : decode cX8_number 48 = .ok (.aload_n 0, 1) := by decide +kernel
theorem dX8_number_49 : decode cX8_number 49 = .ok (.getfield 13, 3) := by decide +kernel
theorem dX8_number_52 : decode cX8_number 52 = .ok (.iload_n 1, 1) := by decide +kernel
theorem dX8_number_53 : decode cX8_number 53 = .ok (.aload_n 0, 1) := by decide +kernel
theorem dX8_number_54 : decode cX8_number 54 = .ok (.getfield 99, 3) := by decide +kernel
theorem dX8_number_57 : decode cX8_number 57 = .ok (.iastore, 1) := by decide +kernel
theorem dX8_number_58 : decode cX8_number 58 = .ok (.iconst 1, 1) := by decide +kernel
theorem dX8_number_59 : decode cX8_number 59 = .ok (.ireturn, 1) := by decide +kernel
theorem dX8_ends_0 : decode cX8_ends 0 = .ok (.aload_n 0, 1) := by decide +kernel
theorem dX8_ends_1 : decode cX8_ends 1 = .ok (.invokevirtual 109, 3) := by decide +kernel
theorem dX8_ends_4 : decode cX8_ends 4 = .ok (.aload_n 0, 1) := by decide +kernel
theorem dX8_ends_5 : decode cX8_ends 5 = .ok (.getfield 93, 3) := by decide +kernel
theorem dX8_ends_8 : decode cX8_ends 8 = .ok (.bipush 59, 2) := by decide +kernel
theorem dX8_ends_10 : decode cX8_ends 10 = .ok (.if_icmp .eq 11, 3) := by decide +kernel
theorem dX8_ends_13 : decode cX8_ends 13 = .ok (.aload_n 0, 1) := by decide +kernel
theorem dX8_ends_14 : decode cX8_ends 14 = .ok (.iconst 1, 1) := by decide +kernel
theorem dX8_ends_15 : decode cX8_ends 15 = .ok (.invokevirtual 112, 3) := by decide +kernel
theorem dX8_ends_18 : decode cX8_ends 18 = .ok (.ifCond .eq 7, 3) := by decide +kernel
theorem dX8_ends_21 : decode cX8_ends 21 = .ok (.iconst 1, 1) := by decide +kernel
theorem dX8_ends_22 : decode cX8_ends 22 = .ok (.goto 4, 3) := by decide +kernel
theorem dX8_ends_25 : decode cX8_ends 25 = .ok (.iconst 0, 1) := by decide +kernel
theorem dX8_ends_26 : decode cX8_ends 26 = .ok (.ireturn, 1) := by decide +kernel
theorem dX8_readsReader_0 : decode cX8_readsReader 0 = .ok (.aload_n 0, 1) := by decide +kernel
theorem dX8_readsReader_1 : decode cX8_readsReader 1 = .ok (.getfield 13, 3) := by decide +kernel
theorem dX8_readsReader_4 : decode cX8_readsReader 4 = .ok (.iconst 1, 1) := by decide +kernel
theorem dX8_readsReader_5 : decode cX8_readsReader 5 = .ok (.iaload, 1) := by decide +kernel
theorem dX8_readsReader_6 : decode cX8_readsReader 6 = .ok (.ifCond .le 9, 3) := by decide +kernel
theorem dX8_readsReader_9 : decode cX8_readsReader 9 = .ok (.aload_n 0, 1) := by decide +kernel
theorem dX8_readsReader_10 : decode cX8_readsReader 10 = .ok (.iconst 3, 1) := by decide +kernel
theorem dX8_readsReader_11 : decode cX8_readsReader 11 = .ok (.invokevirtual 112, 3) := by decide +kernel
theorem dX8_readsReader_14 : decode cX8_readsReader 14 = .ok (.ireturn, 1) := by decide +kernel
theorem dX8_readsReader_15 : decode cX8_readsReader 15 = .ok (.aload_n 0, 1) := by decide +kernel
theorem dX8_readsReader_16 : decode cX8_readsReader 16 = .ok (.iconst 0, 1) := by decide +kernel
theorem dX8_readsReader_17 : decode cX8_readsReader 17 = .ok (.iconst 1, 1) := by decide +kernel
theorem dX8_readsReader_18 : decode cX8_readsReader 18 = .ok (.iconst 3, 1) := by decide +kernel
theorem dX8_readsReader_19 : decode cX8_readsReader 19 = .ok (.invokevirtual 116, 3) := by decide +kernel
theorem dX8_readsReader_22 : decode cX8_readsReader 22 = .ok (.ifCond .ne 5, 3) := by decide +kernel
theorem dX8_readsReader_25 : decode cX8_readsReader 25 = .ok (.iconst 0, 1) := by decide +kernel
theorem dX8_readsReader_26 : decode cX8_readsReader 26 = .ok (.ireturn, 1) := by decide +kernel
theorem dX8_readsReader_27 : decode cX8_readsReader 27 = .ok (.iconst 1, 1) := by decide +kernel
theorem dX8_readsReader_28 : decode cX8_readsReader 28 = .ok (.istore_n 1, 1) := by decide +kernel
theorem dX8_readsReader_29 : decode cX8_readsReader 29 = .ok (.iload_n 1, 1) := by decide +kernel
theorem dX8_readsReader_30 : decode cX8_readsReader 30 = .ok (.ifCond .eq 71, 3) := by decide +kernel
theorem dX8_readsReader_33 : decode cX8_readsReader 33 = .ok (.aload_n 0, 1) := by decide +kernel
theorem dX8_readsReader_34 : decode cX8_readsReader 34 = .ok (.getfield 13, 3) := by decide +kernel
theorem dX8_readsReader_37 : decode cX8_readsReader 37 = .ok (.iconst 1, 1) := by decide +kernel
theorem dX8_readsReader_38 : decode cX8_readsReader 38 = .ok (.iaload, 1) := by decide +kernel
theorem dX8_readsReader_39 : decode cX8_readsReader 39 = .ok (.iconst 5, 1) := by decide +kernel
theorem dX8_readsReader_40 : decode cX8_readsReader 40 = .ok (.if_icmp .ne 9, 3) := by decide +kernel
theorem dX8_readsReader_43 : decode cX8_readsReader 43 = .ok (.aload_n 0, 1) := by decide +kernel
theorem dX8_readsReader_44 : decode cX8_readsReader 44 = .ok (.iconst 1, 1) := by decide +kernel
theorem dX8_readsReader_45 : decode cX8_readsReader 45 = .ok (.invokevirtual 112, 3) := by decide +kernel
theorem dX8_readsReader_48 : decode cX8_readsReader 48 = .ok (.ireturn, 1) := by decide +kernel
theorem dX8_readsReader_49 : decode cX8_readsReader 49 = .ok (.aload_n 0, 1) := by decide +kernel
theorem dX8_readsReader_50 : decode cX8_readsReader 50 = .ok (.iconst 5, 1) := by decide +kernel
theorem dX8_readsReader_51 : decode cX8_readsReader 51 = .ok (.aload_n 0, 1) := by decide +kernel
theorem dX8_readsReader_52 : decode cX8_readsReader 52 = .ok (.getfield 13, 3) := by decide +kernel
theorem dX8_readsReader_55 : decode cX8_readsReader 55 = .ok (.iconst 1, 1) := by decide +kernel
theorem dX8_readsReader_56 : decode cX8_readsReader 56 = .ok (.iaload, 1) := by decide +kernel
theorem dX8_readsReader_57 : decode cX8_readsReader 57 = .ok (.iadd, 1) := by decide +kernel
theorem dX8_readsReader_58 : decode cX8_readsReader 58 = .ok (.iconst 0, 1) := by decide +kernel
theorem dX8_readsReader_59 : decode cX8_readsReader 59 = .ok (.bipush 20, 2) := by decide +kernel
theorem dX8_readsReader_61 : decode cX8_readsReader 61 = .ok (.invokevirtual 116, 3) := by decide +kernel
theorem dX8_readsReader_64 : decode cX8_readsReader 64 = .ok (.ifCond .ne 5, 3) := by decide +kernel
theorem dX8_readsReader_67 : decode cX8_readsReader 67 = .ok (.iconst 0, 1) := by decide +kernel
theorem dX8_readsReader_68 : decode cX8_readsReader 68 = .ok (.ireturn, 1) := by decide +kernel
theorem dX8_readsReader_69 : decode cX8_readsReader 69 = .ok (.aload_n 0, 1) := by decide +kernel
theorem dX8_readsReader_70 : decode cX8_readsReader 70 = .ok (.getfield 13, 3) := by decide +kernel
theorem dX8_readsReader_73 : decode cX8_readsReader 73 = .ok (.iconst 1, 1) := by decide +kernel
theorem dX8_readsReader_74 : decode cX8_readsReader 74 = .ok (.dup2, 1) := by decide +kernel
theorem dX8_readsReader_75 : decode cX8_readsReader 75 = .ok (.iaload, 1) := by decide +kernel
theorem dX8_readsReader_76 : decode cX8_readsReader 76 = .ok (.iconst 1, 1) := by decide +kernel
theorem dX8_readsReader_77 : decode cX8_readsReader 77 = .ok (.iadd, 1) := by decide +kernel
theorem dX8_readsReader_78 : decode cX8_readsReader 78 = .ok (.iastore, 1) := by decide +kernel
theorem dX8_readsReader_79 : decode cX8_readsReader 79 = .ok (.aload_n 0, 1) := by decide +kernel
theorem dX8_readsReader_80 : decode cX8_readsReader 80 = .ok (.invokevirtual 109, 3) := by decide +kernel
theorem dX8_readsReader_83 : decode cX8_readsReader 83 = .ok (.aload_n 0, 1) := by decide +kernel
theorem dX8_readsReader_84 : decode cX8_readsReader 84 = .ok (.getfield 93, 3) := by decide +kernel
theorem dX8_readsReader_87 : decode cX8_readsReader 87 = .ok (.bipush 44, 2) := by decide +kernel
theorem dX8_readsReader_89 : decode cX8_readsReader 89 = .ok (.if_icmp .ne 7, 3) := by decide +kernel
theorem dX8_readsReader_92 : decode cX8_readsReader 92 = .ok (.iconst 1, 1) := by decide +kernel
theorem dX8_readsReader_93 : decode cX8_readsReader 93 = .ok (.goto 4, 3) := by decide +kernel
theorem dX8_readsReader_96 : decode cX8_readsReader 96 = .ok (.iconst 0, 1) := by decide +kernel
theorem dX8_readsReader_97 : decode cX8_readsReader 97 = .ok (.istore_n 1, 1) := by decide +kernel
theorem dX8_readsReader_98 : decode cX8_readsReader 98 = .ok (.goto (-69), 3) := by decide +kernel
theorem dX8_readsReader_101 : decode cX8_readsReader 101 = .ok (.aload_n 0, 1) := by decide +kernel
theorem dX8_readsReader_102 : decode cX8_readsReader 102 = .ok (.getfield 93, 3) := by decide +kernel
theorem dX8_readsReader_105 : decode cX8_readsReader 105 = .ok (.bipush 59, 2) := by decide +kernel
theorem dX8_readsReader_107 : decode cX8_readsReader 107 = .ok (.if_icmp .eq 11, 3) := by decide +kernel
theorem dX8_readsReader_110 : decode cX8_readsReader 110 = .ok (.aload_n 0, 1) := by decide +kernel
theorem dX8_readsReader_111 : decode cX8_readsReader 111 = .ok (.iconst 1, 1) := by decide +kernel
theorem dX8_readsReader_112 : decode cX8_readsReader 112 = .ok (.invokevirtual 112, 3) := by decide +kernel
theorem dX8_readsReader_115 : decode cX8_readsReader 115 = .ok (.ifCond .eq 7, 3) := by decide +kernel
theorem dX8_readsReader_118 : decode cX8_readsReader 118 = .ok (.iconst 1, 1) := by decide +kernel
theorem dX8_readsReader_119 : decode cX8_readsReader 119 = .ok (.goto 4, 3) := by decide +kernel
theorem dX8_readsReader_122 : decode cX8_readsReader 122 = .ok (.iconst 0, 1) := by decide +kernel
theorem dX8_readsReader_123 : decode cX8_readsReader 123 = .ok (.ireturn, 1) := by decide +kernel
theorem dX8_readsFact_0 : decode cX8_readsFact 0 = .ok (.aload_n 0, 1) := by decide +kernel
theorem dX8_readsFact_1 : decode cX8_readsFact 1 = .ok (.getfield 13, 3) := by decide +kernel
theorem dX8_readsFact_4 : decode cX8_readsFact 4 = .ok (.iconst 2, 1) := by decide +kernel
theorem dX8_readsFact_5 : decode cX8_readsFact 5 = .ok (.iaload, 1) := by decide +kernel
theorem dX8_readsFact_6 : decode cX8_readsFact 6 = .ok (.istore_n 1, 1) := by decide +kernel
theorem dX8_readsFact_7 : decode cX8_readsFact 7 = .ok (.iload_n 1, 1) := by decide +kernel
theorem dX8_readsFact_8 : decode cX8_readsFact 8 = .ok (.bipush 8, 2) := by decide +kernel
theorem dX8_readsFact_10 : decode cX8_readsFact 10 = .ok (.if_icmp .ne 9, 3) := by decide +kernel
theorem dX8_readsFact_13 : decode cX8_readsFact 13 = .ok (.aload_n 0, 1) := by decide +kernel
theorem dX8_readsFact_14 : decode cX8_readsFact 14 = .ok (.iconst 3, 1) := by decide +kernel
theorem dX8_readsFact_15 : decode cX8_readsFact 15 = .ok (.invokevirtual 112, 3) := by decide +kernel
theorem dX8_readsFact_18 : decode cX8_readsFact 18 = .ok (.ireturn, 1) := by decide +kernel
theorem dX8_readsFact_19 : decode cX8_readsFact 19 = .ok (.aload_n 0, 1) := by decide +kernel
theorem dX8_readsFact_20 : decode cX8_readsFact 20 = .ok (.bipush 10, 2) := by decide +kernel
theorem dX8_readsFact_22 : decode cX8_readsFact 22 = .ok (.iload_n 1, 1) := by decide +kernel
theorem dX8_readsFact_23 : decode cX8_readsFact 23 = .ok (.iadd, 1) := by decide +kernel
theorem dX8_readsFact_24 : decode cX8_readsFact 24 = .ok (.iconst 0, 1) := by decide +kernel
theorem dX8_readsFact_25 : decode cX8_readsFact 25 = .ok (.aload_n 0, 1) := by decide +kernel
theorem dX8_readsFact_26 : decode cX8_readsFact 26 = .ok (.getfield 13, 3) := by decide +kernel
theorem dX8_readsFact_29 : decode cX8_readsFact 29 = .ok (.iconst 1, 1) := by decide +kernel
theorem dX8_readsFact_30 : decode cX8_readsFact 30 = .ok (.iaload, 1) := by decide +kernel
theorem dX8_readsFact_31 : decode cX8_readsFact 31 = .ok (.iconst 1, 1) := by decide +kernel
theorem dX8_readsFact_32 : decode cX8_readsFact 32 = .ok (.isub, 1) := by decide +kernel
theorem dX8_readsFact_33 : decode cX8_readsFact 33 = .ok (.invokevirtual 116, 3) := by decide +kernel
theorem dX8_readsFact_36 : decode cX8_readsFact 36 = .ok (.ifCond .eq 31, 3) := by decide +kernel
theorem dX8_readsFact_39 : decode cX8_readsFact 39 = .ok (.aload_n 0, 1) := by decide +kernel
theorem dX8_readsFact_40 : decode cX8_readsFact 40 = .ok (.bipush 18, 2) := by decide +kernel
theorem dX8_readsFact_42 : decode cX8_readsFact 42 = .ok (.iload_n 1, 1) := by decide +kernel
theorem dX8_readsFact_43 : decode cX8_readsFact 43 = .ok (.iadd, 1) := by decide +kernel
theorem dX8_readsFact_44 : decode cX8_readsFact 44 = .ok (.iconst 0, 1) := by decide +kernel
theorem dX8_readsFact_45 : decode cX8_readsFact 45 = .ok (.bipush 18, 2) := by decide +kernel
theorem dX8_readsFact_47 : decode cX8_readsFact 47 = .ok (.invokevirtual 116, 3) := by decide +kernel
theorem dX8_readsFact_50 : decode cX8_readsFact 50 = .ok (.ifCond .eq 17, 3) := by decide +kernel
theorem dX8_readsFact_53 : decode cX8_readsFact 53 = .ok (.aload_n 0, 1) := by decide +kernel
theorem dX8_readsFact_54 : decode cX8_readsFact 54 = .ok (.bipush 26, 2) := by decide +kernel
theorem dX8_readsFact_56 : decode cX8_readsFact 56 = .ok (.iload_n 1, 1) := by decide +kernel
theorem dX8_readsFact_57 : decode cX8_readsFact 57 = .ok (.iadd, 1) := by decide +kernel
theorem dX8_readsFact_58 : decode cX8_readsFact 58 = .ok (.iconst 0, 1) := by decide +kernel
theorem dX8_readsFact_59 : decode cX8_readsFact 59 = .ok (.bipush 9, 2) := by decide +kernel
theorem dX8_readsFact_61 : decode cX8_readsFact 61 = .ok (.invokevirtual 116, 3) := by decide +kernel
theorem dX8_readsFact_64 : decode cX8_readsFact 64 = .ok (.ifCond .ne 5, 3) := by decide +kernel
theorem dX8_readsFact_67 : decode cX8_readsFact 67 = .ok (.iconst 0, 1) := by decide +kernel
theorem dX8_readsFact_68 : decode cX8_readsFact 68 = .ok (.ireturn, 1) := by decide +kernel
theorem dX8_readsFact_69 : decode cX8_readsFact 69 = .ok (.aload_n 0, 1) := by decide +kernel
theorem dX8_readsFact_70 : decode cX8_readsFact 70 = .ok (.getfield 13, 3) := by decide +kernel
theorem dX8_readsFact_73 : decode cX8_readsFact 73 = .ok (.bipush 26, 2) := by decide +kernel
theorem dX8_readsFact_75 : decode cX8_readsFact 75 = .ok (.iload_n 1, 1) := by decide +kernel
theorem dX8_readsFact_76 : decode cX8_readsFact 76 = .ok (.iadd, 1) := by decide +kernel
theorem dX8_readsFact_77 : decode cX8_readsFact 77 = .ok (.iaload, 1) := by decide +kernel
theorem dX8_readsFact_78 : decode cX8_readsFact 78 = .ok (.aload_n 0, 1) := by decide +kernel
theorem dX8_readsFact_79 : decode cX8_readsFact 79 = .ok (.getfield 13, 3) := by decide +kernel
theorem dX8_readsFact_82 : decode cX8_readsFact 82 = .ok (.iconst 1, 1) := by decide +kernel
theorem dX8_readsFact_83 : decode cX8_readsFact 83 = .ok (.iaload, 1) := by decide +kernel
theorem dX8_readsFact_84 : decode cX8_readsFact 84 = .ok (.if_icmp .lt 23, 3) := by decide +kernel
theorem dX8_readsFact_87 : decode cX8_readsFact 87 = .ok (.aload_n 0, 1) := by decide +kernel
theorem dX8_readsFact_88 : decode cX8_readsFact 88 = .ok (.getfield 13, 3) := by decide +kernel
theorem dX8_readsFact_91 : decode cX8_readsFact 91 = .ok (.bipush 26, 2) := by decide +kernel
theorem dX8_readsFact_93 : decode cX8_readsFact 93 = .ok (.iload_n 1, 1) := by decide +kernel
theorem dX8_readsFact_94 : decode cX8_readsFact 94 = .ok (.iadd, 1) := by decide +kernel
theorem dX8_readsFact_95 : decode cX8_readsFact 95 = .ok (.iaload, 1) := by decide +kernel
theorem dX8_readsFact_96 : decode cX8_readsFact 96 = .ok (.bipush 9, 2) := by decide +kernel
theorem dX8_readsFact_98 : decode cX8_readsFact 98 = .ok (.if_icmp .eq 9, 3) := by decide +kernel
theorem dX8_readsFact_101 : decode cX8_readsFact 101 = .ok (.aload_n 0, 1) := by decide +kernel
theorem dX8_readsFact_102 : decode cX8_readsFact 102 = .ok (.iconst 2, 1) := by decide +kernel
theorem dX8_readsFact_103 : decode cX8_readsFact 103 = .ok (.invokevirtual 112, 3) := by decide +kernel
theorem dX8_readsFact_106 : decode cX8_readsFact 106 = .ok (.ireturn, 1) := by decide +kernel
theorem dX8_readsFact_107 : decode cX8_readsFact 107 = .ok (.aload_n 0, 1) := by decide +kernel
theorem dX8_readsFact_108 : decode cX8_readsFact 108 = .ok (.getfield 13, 3) := by decide +kernel
theorem dX8_readsFact_111 : decode cX8_readsFact 111 = .ok (.iconst 2, 1) := by decide +kernel
theorem dX8_readsFact_112 : decode cX8_readsFact 112 = .ok (.dup2, 1) := by decide +kernel
theorem dX8_readsFact_113 : decode cX8_readsFact 113 = .ok (.iaload, 1) := by decide +kernel
theorem dX8_readsFact_114 : decode cX8_readsFact 114 = .ok (.iconst 1, 1) := by decide +kernel
theorem dX8_readsFact_115 : decode cX8_readsFact 115 = .ok (.iadd, 1) := by decide +kernel
theorem dX8_readsFact_116 : decode cX8_readsFact 116 = .ok (.iastore, 1) := by decide +kernel
theorem dX8_readsFact_117 : decode cX8_readsFact 117 = .ok (.aload_n 0, 1) := by decide +kernel
theorem dX8_readsFact_118 : decode cX8_readsFact 118 = .ok (.bipush 34, 2) := by decide +kernel
theorem dX8_readsFact_120 : decode cX8_readsFact 120 = .ok (.iload_n 1, 1) := by decide +kernel
theorem dX8_readsFact_121 : decode cX8_readsFact 121 = .ok (.iadd, 1) := by decide +kernel
theorem dX8_readsFact_122 : decode cX8_readsFact 122 = .ok (.iconst 0, 1) := by decide +kernel
theorem dX8_readsFact_123 : decode cX8_readsFact 123 = .ok (.bipush 20, 2) := by decide +kernel
theorem dX8_readsFact_125 : decode cX8_readsFact 125 = .ok (.invokevirtual 116, 3) := by decide +kernel
theorem dX8_readsFact_128 : decode cX8_readsFact 128 = .ok (.ifCond .eq 28, 3) := by decide +kernel
theorem dX8_readsFact_131 : decode cX8_readsFact 131 = .ok (.aload_n 0, 1) := by decide +kernel
theorem dX8_readsFact_132 : decode cX8_readsFact 132 = .ok (.bipush 42, 2) := by decide +kernel
theorem dX8_readsFact_134 : decode cX8_readsFact 134 = .ok (.iload_n 1, 1) := by decide +kernel
theorem dX8_readsFact_135 : decode cX8_readsFact 135 = .ok (.iadd, 1) := by decide +kernel
theorem dX8_readsFact_136 : decode cX8_readsFact 136 = .ok (.iconst 0, 1) := by decide +kernel
theorem dX8_readsFact_137 : decode cX8_readsFact 137 = .ok (.bipush 9, 2) := by decide +kernel
theorem dX8_readsFact_139 : decode cX8_readsFact 139 = .ok (.invokevirtual 116, 3) := by decide +kernel
theorem dX8_readsFact_142 : decode cX8_readsFact 142 = .ok (.ifCond .eq 14, 3) := by decide +kernel
theorem dX8_readsFact_145 : decode cX8_readsFact 145 = .ok (.aload_n 0, 1) := by decide +kernel
theorem dX8_readsFact_146 : decode cX8_readsFact 146 = .ok (.invokevirtual 120, 3) := by decide +kernel
theorem dX8_readsFact_149 : decode cX8_readsFact 149 = .ok (.ifCond .eq 7, 3) := by decide +kernel
theorem dX8_readsFact_152 : decode cX8_readsFact 152 = .ok (.iconst 1, 1) := by decide +kernel
theorem dX8_readsFact_153 : decode cX8_readsFact 153 = .ok (.goto 4, 3) := by decide +kernel
theorem dX8_readsFact_156 : decode cX8_readsFact 156 = .ok (.iconst 0, 1) := by decide +kernel
theorem dX8_readsFact_157 : decode cX8_readsFact 157 = .ok (.ireturn, 1) := by decide +kernel
theorem dX8_readsSure_0 : decode cX8_readsSure 0 = .ok (.aload_n 0, 1) := by decide +kernel
theorem dX8_readsSure_1 : decode cX8_readsSure 1 = .ok (.getfield 13, 3) := by decide +kernel
theorem dX8_readsSure_4 : decode cX8_readsSure 4 = .ok (.iconst 4, 1) := by decide +kernel
theorem dX8_readsSure_5 : decode cX8_readsSure 5 = .ok (.iaload, 1) := by decide +kernel
theorem dX8_readsSure_6 : decode cX8_readsSure 6 = .ok (.iconst 1, 1) := by decide +kernel
theorem dX8_readsSure_7 : decode cX8_readsSure 7 = .ok (.if_icmp .ne 9, 3) := by decide +kernel
theorem dX8_readsSure_10 : decode cX8_readsSure 10 = .ok (.aload_n 0, 1) := by decide +kernel
theorem dX8_readsSure_11 : decode cX8_readsSure 11 = .ok (.iconst 3, 1) := by decide +kernel
theorem dX8_readsSure_12 : decode cX8_readsSure 12 = .ok (.invokevirtual 112, 3) := by decide +kernel
theorem dX8_readsSure_15 : decode cX8_readsSure 15 = .ok (.ireturn, 1) := by decide +kernel
theorem dX8_readsSure_16 : decode cX8_readsSure 16 = .ok (.aload_n 0, 1) := by decide +kernel
theorem dX8_readsSure_17 : decode cX8_readsSure 17 = .ok (.getfield 13, 3) := by decide +kernel
theorem dX8_readsSure_20 : decode cX8_readsSure 20 = .ok (.iconst 4, 1) := by decide +kernel
theorem dX8_readsSure_21 : decode cX8_readsSure 21 = .ok (.iconst 1, 1) := by decide +kernel
theorem dX8_readsSure_22 : decode cX8_readsSure 22 = .ok (.iastore, 1) := by decide +kernel
theorem dX8_readsSure_23 : decode cX8_readsSure 23 = .ok (.aload_n 0, 1) := by decide +kernel
theorem dX8_readsSure_24 : decode cX8_readsSure 24 = .ok (.iconst 3, 1) := by decide +kernel
theorem dX8_readsSure_25 : decode cX8_readsSure 25 = .ok (.iconst 1, 1) := by decide +kernel
theorem dX8_readsSure_26 : decode cX8_readsSure 26 = .ok (.bipush 20, 2) := by decide +kernel
theorem dX8_readsSure_28 : decode cX8_readsSure 28 = .ok (.invokevirtual 116, 3) := by decide +kernel
theorem dX8_readsSure_31 : decode cX8_readsSure 31 = .ok (.ifCond .eq 14, 3) := by decide +kernel
theorem dX8_readsSure_34 : decode cX8_readsSure 34 = .ok (.aload_n 0, 1) := by decide +kernel
theorem dX8_readsSure_35 : decode cX8_readsSure 35 = .ok (.invokevirtual 120, 3) := by decide +kernel
theorem dX8_readsSure_38 : decode cX8_readsSure 38 = .ok (.ifCond .eq 7, 3) := by decide +kernel
theorem dX8_readsSure_41 : decode cX8_readsSure 41 = .ok (.iconst 1, 1) := by decide +kernel
theorem dX8_readsSure_42 : decode cX8_readsSure 42 = .ok (.goto 4, 3) := by decide +kernel
theorem dX8_readsSure_45 : decode cX8_readsSure 45 = .ok (.iconst 0, 1) := by decide +kernel
theorem dX8_readsSure_46 : decode cX8_readsSure 46 = .ok (.ireturn, 1) := by decide +kernel
theorem dX8_readsClause_0 : decode cX8_readsClause 0 = .ok (.aload_n 0, 1) := by decide +kernel
theorem dX8_readsClause_1 : decode cX8_readsClause 1 = .ok (.getfield 13, 3) := by decide +kernel
theorem dX8_readsClause_4 : decode cX8_readsClause 4 = .ok (.iconst 1, 1) := by decide +kernel
theorem dX8_readsClause_5 : decode cX8_readsClause 5 = .ok (.iaload, 1) := by decide +kernel
theorem dX8_readsClause_6 : decode cX8_readsClause 6 = .ok (.ifCond .ne 7, 3) := by decide +kernel
theorem dX8_readsClause_9 : decode cX8_readsClause 9 = .ok (.iconst 1, 1) := by decide +kernel
theorem dX8_readsClause_10 : decode cX8_readsClause 10 = .ok (.goto 4, 3) := by decide +kernel
theorem dX8_readsClause_13 : decode cX8_readsClause 13 = .ok (.iconst 0, 1) := by decide +kernel
theorem dX8_readsClause_14 : decode cX8_readsClause 14 = .ok (.istore_n 1, 1) := by decide +kernel
theorem dX8_readsClause_15 : decode cX8_readsClause 15 = .ok (.aload_n 0, 1) := by decide +kernel
theorem dX8_readsClause_16 : decode cX8_readsClause 16 = .ok (.getfield 93, 3) := by decide +kernel
theorem dX8_readsClause_19 : decode cX8_readsClause 19 = .ok (.lookupswitch 72 #[(102, 38), (104, 55), (114, 33)], 33) := by decide +kernel
theorem dX8_readsClause_52 : decode cX8_readsClause 52 = .ok (.aload_n 0, 1) := by decide +kernel
theorem dX8_readsClause_53 : decode cX8_readsClause 53 = .ok (.invokevirtual 124, 3) := by decide +kernel
theorem dX8_readsClause_56 : decode cX8_readsClause 56 = .ok (.ireturn, 1) := by decide +kernel
theorem dX8_readsClause_57 : decode cX8_readsClause 57 = .ok (.iload_n 1, 1) := by decide +kernel
theorem dX8_readsClause_58 : decode cX8_readsClause 58 = .ok (.ifCond .eq 11, 3) := by decide +kernel
theorem dX8_readsClause_61 : decode cX8_readsClause 61 = .ok (.aload_n 0, 1) := by decide +kernel
theorem dX8_readsClause_62 : decode cX8_readsClause 62 = .ok (.iconst 1, 1) := by decide +kernel
theorem dX8_readsClause_63 : decode cX8_readsClause 63 = .ok (.invokevirtual 112, 3) := by decide +kernel
theorem dX8_readsClause_66 : decode cX8_readsClause 66 = .ok (.goto 7, 3) := by decide +kernel
theorem dX8_readsClause_69 : decode cX8_readsClause 69 = .ok (.aload_n 0, 1) := by decide +kernel
theorem dX8_readsClause_70 : decode cX8_readsClause 70 = .ok (.invokevirtual 127, 3) := by decide +kernel
theorem dX8_readsClause_73 : decode cX8_readsClause 73 = .ok (.ireturn, 1) := by decide +kernel
theorem dX8_readsClause_74 : decode cX8_readsClause 74 = .ok (.iload_n 1, 1) := by decide +kernel
theorem dX8_readsClause_75 : decode cX8_readsClause 75 = .ok (.ifCond .eq 11, 3) := by decide +kernel
theorem dX8_readsClause_78 : decode cX8_readsClause 78 = .ok (.aload_n 0, 1) := by decide +kernel
theorem dX8_readsClause_79 : decode cX8_readsClause 79 = .ok (.iconst 1, 1) := by decide +kernel
theorem dX8_readsClause_80 : decode cX8_readsClause 80 = .ok (.invokevirtual 112, 3) := by decide +kernel
theorem dX8_readsClause_83 : decode cX8_readsClause 83 = .ok (.goto 7, 3) := by decide +kernel
theorem dX8_readsClause_86 : decode cX8_readsClause 86 = .ok (.aload_n 0, 1) := by decide +kernel
theorem dX8_readsClause_87 : decode cX8_readsClause 87 = .ok (.invokevirtual 130, 3) := by decide +kernel
theorem dX8_readsClause_90 : decode cX8_readsClause 90 = .ok (.ireturn, 1) := by decide +kernel
theorem dX8_readsClause_91 : decode cX8_readsClause 91 = .ok (.aload_n 0, 1) := by decide +kernel
theorem dX8_readsClause_92 : decode cX8_readsClause 92 = .ok (.iconst 1, 1) := by decide +kernel
theorem dX8_readsClause_93 : decode cX8_readsClause 93 = .ok (.invokevirtual 112, 3) := by decide +kernel
theorem dX8_readsClause_96 : decode cX8_readsClause 96 = .ok (.ireturn, 1) := by decide +kernel
theorem dX8_city_0 : decode cX8_city 0 = .ok (.iconst 0, 1) := by decide +kernel
theorem dX8_city_1 : decode cX8_city 1 = .ok (.istore_n 1, 1) := by decide +kernel
theorem dX8_city_2 : decode cX8_city 2 = .ok (.iload_n 1, 1) := by decide +kernel
theorem dX8_city_3 : decode cX8_city 3 = .ok (.bipush 50, 2) := by decide +kernel
theorem dX8_city_5 : decode cX8_city 5 = .ok (.if_icmp .ge 16, 3) := by decide +kernel
theorem dX8_city_8 : decode cX8_city 8 = .ok (.aload_n 0, 1) := by decide +kernel
theorem dX8_city_9 : decode cX8_city 9 = .ok (.getfield 13, 3) := by decide +kernel
theorem dX8_city_12 : decode cX8_city 12 = .ok (.iload_n 1, 1) := by decide +kernel
theorem dX8_city_13 : decode cX8_city 13 = .ok (.iconst 0, 1) := by decide +kernel
theorem dX8_city_14 : decode cX8_city 14 = .ok (.iastore, 1) := by decide +kernel
theorem dX8_city_15 : decode cX8_city 15 = .ok (.iinc 1 1, 3) := by decide +kernel
theorem dX8_city_18 : decode cX8_city 18 = .ok (.goto (-16), 3) := by decide +kernel
theorem dX8_city_21 : decode cX8_city 21 = .ok (.aload_n 0, 1) := by decide +kernel
theorem dX8_city_22 : decode cX8_city 22 = .ok (.getfield 13, 3) := by decide +kernel
theorem dX8_city_25 : decode cX8_city 25 = .ok (.iconst 3, 1) := by decide +kernel
theorem dX8_city_26 : decode cX8_city 26 = .ok (.bipush 10, 2) := by decide +kernel
theorem dX8_city_28 : decode cX8_city 28 = .ok (.iastore, 1) := by decide +kernel
theorem dX8_city_29 : decode cX8_city 29 = .ok (.aload_n 0, 1) := by decide +kernel
theorem dX8_city_30 : decode cX8_city 30 = .ok (.iconst 0, 1) := by decide +kernel
theorem dX8_city_31 : decode cX8_city 31 = .ok (.putfield 83, 3) := by decide +kernel
theorem dX8_city_34 : decode cX8_city 34 = .ok (.aload_n 0, 1) := by decide +kernel
theorem dX8_city_35 : decode cX8_city 35 = .ok (.iconst (-1), 1) := by decide +kernel
theorem dX8_city_36 : decode cX8_city 36 = .ok (.putfield 32, 3) := by decide +kernel
theorem dX8_city_39 : decode cX8_city 39 = .ok (.iconst 1, 1) := by decide +kernel
theorem dX8_city_40 : decode cX8_city 40 = .ok (.istore_n 1, 1) := by decide +kernel
theorem dX8_city_41 : decode cX8_city 41 = .ok (.aload_n 0, 1) := by decide +kernel
theorem dX8_city_42 : decode cX8_city 42 = .ok (.invokevirtual 109, 3) := by decide +kernel
theorem dX8_city_45 : decode cX8_city 45 = .ok (.aload_n 0, 1) := by decide +kernel
theorem dX8_city_46 : decode cX8_city 46 = .ok (.getfield 93, 3) := by decide +kernel
theorem dX8_city_49 : decode cX8_city 49 = .ok (.ifCond .lt 23, 3) := by decide +kernel
theorem dX8_city_52 : decode cX8_city 52 = .ok (.iload_n 1, 1) := by decide +kernel
theorem dX8_city_53 : decode cX8_city 53 = .ok (.ifCond .eq 19, 3) := by decide +kernel
theorem dX8_city_56 : decode cX8_city 56 = .ok (.aload_n 0, 1) := by decide +kernel
theorem dX8_city_57 : decode cX8_city 57 = .ok (.invokevirtual 133, 3) := by decide +kernel
theorem dX8_city_60 : decode cX8_city 60 = .ok (.istore_n 1, 1) := by decide +kernel
theorem dX8_city_61 : decode cX8_city 61 = .ok (.iload_n 1, 1) := by decide +kernel
theorem dX8_city_62 : decode cX8_city 62 = .ok (.ifCond .eq (-17), 3) := by decide +kernel
theorem dX8_city_65 : decode cX8_city 65 = .ok (.aload_n 0, 1) := by decide +kernel
theorem dX8_city_66 : decode cX8_city 66 = .ok (.invokevirtual 109, 3) := by decide +kernel
theorem dX8_city_69 : decode cX8_city 69 = .ok (.goto (-24), 3) := by decide +kernel
theorem dX8_city_72 : decode cX8_city 72 = .ok (.aload_n 0, 1) := by decide +kernel
theorem dX8_city_73 : decode cX8_city 73 = .ok (.iconst 0, 1) := by decide +kernel
theorem dX8_city_74 : decode cX8_city 74 = .ok (.putfield 79, 3) := by decide +kernel
theorem dX8_city_77 : decode cX8_city 77 = .ok (.iload_n 1, 1) := by decide +kernel
theorem dX8_city_78 : decode cX8_city 78 = .ok (.ifCond .ne 19, 3) := by decide +kernel
theorem dX8_city_81 : decode cX8_city 81 = .ok (.aload_n 0, 1) := by decide +kernel
theorem dX8_city_82 : decode cX8_city 82 = .ok (.aload_n 0, 1) := by decide +kernel
theorem dX8_city_83 : decode cX8_city 83 = .ok (.getfield 90, 3) := by decide +kernel
theorem dX8_city_86 : decode cX8_city 86 = .ok (.putfield 32, 3) := by decide +kernel
theorem dX8_city_89 : decode cX8_city 89 = .ok (.bipush (-10), 2) := by decide +kernel
theorem dX8_city_91 : decode cX8_city 91 = .ok (.aload_n 0, 1) := by decide +kernel
theorem dX8_city_92 : decode cX8_city 92 = .ok (.getfield 106, 3) := by decide +kernel
theorem dX8_city_95 : decode cX8_city 95 = .ok (.isub, 1) := by decide +kernel
theorem dX8_city_96 : decode cX8_city 96 = .ok (.ireturn, 1) := by decide +kernel
theorem dX8_city_97 : decode cX8_city 97 = .ok (.iconst 0, 1) := by decide +kernel
theorem dX8_city_98 : decode cX8_city 98 = .ok (.istore_n 2, 1) := by decide +kernel
theorem dX8_city_99 : decode cX8_city 99 = .ok (.iload_n 2, 1) := by decide +kernel
theorem dX8_city_100 : decode cX8_city 100 = .ok (.bipush 50, 2) := by decide +kernel
theorem dX8_city_102 : decode cX8_city 102 = .ok (.if_icmp .ge 21, 3) := by decide +kernel
theorem dX8_city_105 : decode cX8_city 105 = .ok (.aload_n 0, 1) := by decide +kernel
theorem dX8_city_106 : decode cX8_city 106 = .ok (.getfield 7, 3) := by decide +kernel
theorem dX8_city_109 : decode cX8_city 109 = .ok (.iload_n 2, 1) := by decide +kernel
theorem dX8_city_110 : decode cX8_city 110 = .ok (.aload_n 0, 1) := by decide +kernel
theorem dX8_city_111 : decode cX8_city 111 = .ok (.getfield 13, 3) := by decide +kernel
theorem dX8_city_114 : decode cX8_city 114 = .ok (.iload_n 2, 1) := by decide +kernel
theorem dX8_city_115 : decode cX8_city 115 = .ok (.iaload, 1) := by decide +kernel
theorem dX8_city_116 : decode cX8_city 116 = .ok (.iastore, 1) := by decide +kernel
theorem dX8_city_117 : decode cX8_city 117 = .ok (.iinc 2 1, 3) := by decide +kernel
theorem dX8_city_120 : decode cX8_city 120 = .ok (.goto (-21), 3) := by decide +kernel
theorem dX8_city_123 : decode cX8_city 123 = .ok (.aload_n 0, 1) := by decide +kernel
theorem dX8_city_124 : decode cX8_city 124 = .ok (.invokevirtual 60, 3) := by decide +kernel
theorem dX8_city_127 : decode cX8_city 127 = .ok (.aload_n 0, 1) := by decide +kernel
theorem dX8_city_128 : decode cX8_city 128 = .ok (.getfield 7, 3) := by decide +kernel
theorem dX8_city_131 : decode cX8_city 131 = .ok (.iconst 2, 1) := by decide +kernel
theorem dX8_city_132 : decode cX8_city 132 = .ok (.iaload, 1) := by decide +kernel
theorem dX8_city_133 : decode cX8_city 133 = .ok (.ireturn, 1) := by decide +kernel
theorem dX8_fault_0 : decode cX8_fault 0 = .ok (.aload_n 0, 1) := by decide +kernel
theorem dX8_fault_1 : decode cX8_fault 1 = .ok (.getfield 32, 3) := by decide +kernel
theorem dX8_fault_4 : decode cX8_fault 4 = .ok (.ireturn, 1) := by decide +kernel
theorem dX8_isOpinion_0 : decode cX8_isOpinion 0 = .ok (.iload_n 1, 1) := by decide +kernel
theorem dX8_isOpinion_1 : decode cX8_isOpinion 1 = .ok (.i2l, 1) := by decide +kernel
theorem dX8_isOpinion_2 : decode cX8_isOpinion 2 = .ok (.lconst 0, 1) := by decide +kernel
theorem dX8_isOpinion_3 : decode cX8_isOpinion 3 = .ok (.aload_n 0, 1) := by decide +kernel
theorem dX8_isOpinion_4 : decode cX8_isOpinion 4 = .ok (.getfield 7, 3) := by decide +kernel
theorem dX8_isOpinion_7 : decode cX8_isOpinion 7 = .ok (.iconst 1, 1) := by decide +kernel
theorem dX8_isOpinion_8 : decode cX8_isOpinion 8 = .ok (.iaload, 1) := by decide +kernel
theorem dX8_isOpinion_9 : decode cX8_isOpinion 9 = .ok (.iconst 1, 1) := by decide +kernel
theorem dX8_isOpinion_10 : decode cX8_isOpinion 10 = .ok (.isub, 1) := by decide +kernel
theorem dX8_isOpinion_11 : decode cX8_isOpinion 11 = .ok (.i2l, 1) := by decide +kernel
theorem dX8_isOpinion_12 : decode cX8_isOpinion 12 = .ok (.invokestatic 74, 3) := by decide +kernel
theorem dX8_isOpinion_15 : decode cX8_isOpinion 15 = .ok (.ireturn, 1) := by decide +kernel
theorem dX8_isFact_0 : decode cX8_isFact 0 = .ok (.iload_n 1, 1) := by decide +kernel
theorem dX8_isFact_1 : decode cX8_isFact 1 = .ok (.i2l, 1) := by decide +kernel
theorem dX8_isFact_2 : decode cX8_isFact 2 = .ok (.lconst 0, 1) := by decide +kernel
theorem dX8_isFact_3 : decode cX8_isFact 3 = .ok (.aload_n 0, 1) := by decide +kernel
theorem dX8_isFact_4 : decode cX8_isFact 4 = .ok (.getfield 7, 3) := by decide +kernel
theorem dX8_isFact_7 : decode cX8_isFact 7 = .ok (.iconst 2, 1) := by decide +kernel
theorem dX8_isFact_8 : decode cX8_isFact 8 = .ok (.iaload, 1) := by decide +kernel
theorem dX8_isFact_9 : decode cX8_isFact 9 = .ok (.iconst 1, 1) := by decide +kernel
theorem dX8_isFact_10 : decode cX8_isFact 10 = .ok (.isub, 1) := by decide +kernel
theorem dX8_isFact_11 : decode cX8_isFact 11 = .ok (.i2l, 1) := by decide +kernel
theorem dX8_isFact_12 : decode cX8_isFact 12 = .ok (.invokestatic 74, 3) := by decide +kernel
theorem dX8_isFact_15 : decode cX8_isFact 15 = .ok (.ireturn, 1) := by decide +kernel
theorem dX8_areFacts_0 : decode cX8_areFacts 0 = .ok (.iload_n 1, 1) := by decide +kernel
theorem dX8_areFacts_1 : decode cX8_areFacts 1 = .ok (.i2l, 1) := by decide +kernel
theorem dX8_areFacts_2 : decode cX8_areFacts 2 = .ok (.lconst 0, 1) := by decide +kernel
theorem dX8_areFacts_3 : decode cX8_areFacts 3 = .ok (.iconst 1, 1) := by decide +kernel
theorem dX8_areFacts_4 : decode cX8_areFacts 4 = .ok (.aload_n 0, 1) := by decide +kernel
theorem dX8_areFacts_5 : decode cX8_areFacts 5 = .ok (.getfield 7, 3) := by decide +kernel
theorem dX8_areFacts_8 : decode cX8_areFacts 8 = .ok (.iconst 2, 1) := by decide +kernel
theorem dX8_areFacts_9 : decode cX8_areFacts 9 = .ok (.iaload, 1) := by decide +kernel
theorem dX8_areFacts_10 : decode cX8_areFacts 10 = .ok (.ishl, 1) := by decide +kernel
theorem dX8_areFacts_11 : decode cX8_areFacts 11 = .ok (.iconst 1, 1) := by decide +kernel
theorem dX8_areFacts_12 : decode cX8_areFacts 12 = .ok (.isub, 1) := by decide +kernel
theorem dX8_areFacts_13 : decode cX8_areFacts 13 = .ok (.i2l, 1) := by decide +kernel
theorem dX8_areFacts_14 : decode cX8_areFacts 14 = .ok (.invokestatic 74, 3) := by decide +kernel
theorem dX8_areFacts_17 : decode cX8_areFacts 17 = .ok (.ireturn, 1) := by decide +kernel
theorem dX8_areOpinions_0 : decode cX8_areOpinions 0 = .ok (.iload_n 1, 1) := by decide +kernel
theorem dX8_areOpinions_1 : decode cX8_areOpinions 1 = .ok (.i2l, 1) := by decide +kernel
theorem dX8_areOpinions_2 : decode cX8_areOpinions 2 = .ok (.lconst 0, 1) := by decide +kernel
theorem dX8_areOpinions_3 : decode cX8_areOpinions 3 = .ok (.iconst 1, 1) := by decide +kernel
theorem dX8_areOpinions_4 : decode cX8_areOpinions 4 = .ok (.aload_n 0, 1) := by decide +kernel
theorem dX8_areOpinions_5 : decode cX8_areOpinions 5 = .ok (.getfield 7, 3) := by decide +kernel
theorem dX8_areOpinions_8 : decode cX8_areOpinions 8 = .ok (.iconst 1, 1) := by decide +kernel
theorem dX8_areOpinions_9 : decode cX8_areOpinions 9 = .ok (.iaload, 1) := by decide +kernel
theorem dX8_areOpinions_10 : decode cX8_areOpinions 10 = .ok (.ishl, 1) := by decide +kernel
theorem dX8_areOpinions_11 : decode cX8_areOpinions 11 = .ok (.iconst 1, 1) := by decide +kernel
theorem dX8_areOpinions_12 : decode cX8_areOpinions 12 = .ok (.isub, 1) := by decide +kernel
theorem dX8_areOpinions_13 : decode cX8_areOpinions 13 = .ok (.i2l, 1) := by decide +kernel
theorem dX8_areOpinions_14 : decode cX8_areOpinions 14 = .ok (.invokestatic 74, 3) := by decide +kernel
theorem dX8_areOpinions_17 : decode cX8_areOpinions 17 = .ok (.ireturn, 1) := by decide +kernel
theorem dX8_convinced_0 : decode cX8_convinced 0 = .ok (.iconst 0, 1) := by decide +kernel
theorem dX8_convinced_1 : decode cX8_convinced 1 = .ok (.istore_n 2, 1) := by decide +kernel
theorem dX8_convinced_2 : decode cX8_convinced 2 = .ok (.iconst 0, 1) := by decide +kernel
theorem dX8_convinced_3 : decode cX8_convinced 3 = .ok (.istore_n 3, 1) := by decide +kernel
theorem dX8_convinced_4 : decode cX8_convinced 4 = .ok (.iload_n 3, 1) := by decide +kernel
theorem dX8_convinced_5 : decode cX8_convinced 5 = .ok (.aload_n 0, 1) := by decide +kernel
theorem dX8_convinced_6 : decode cX8_convinced 6 = .ok (.getfield 7, 3) := by decide +kernel
theorem dX8_convinced_9 : decode cX8_convinced 9 = .ok (.iconst 1, 1) := by decide +kernel
theorem dX8_convinced_10 : decode cX8_convinced 10 = .ok (.iaload, 1) := by decide +kernel
theorem dX8_convinced_11 : decode cX8_convinced 11 = .ok (.if_icmp .ge 31, 3) := by decide +kernel
theorem dX8_convinced_14 : decode cX8_convinced 14 = .ok (.iload_n 2, 1) := by decide +kernel
theorem dX8_convinced_15 : decode cX8_convinced 15 = .ok (.aload_n 1, 1) := by decide +kernel
theorem dX8_convinced_16 : decode cX8_convinced 16 = .ok (.iload_n 3, 1) := by decide +kernel
theorem dX8_convinced_17 : decode cX8_convinced 17 = .ok (.iaload, 1) := by decide +kernel
theorem dX8_convinced_18 : decode cX8_convinced 18 = .ok (.aload_n 0, 1) := by decide +kernel
theorem dX8_convinced_19 : decode cX8_convinced 19 = .ok (.getfield 7, 3) := by decide +kernel
theorem dX8_convinced_22 : decode cX8_convinced 22 = .ok (.iconst 3, 1) := by decide +kernel
theorem dX8_convinced_23 : decode cX8_convinced 23 = .ok (.iaload, 1) := by decide +kernel
theorem dX8_convinced_24 : decode cX8_convinced 24 = .ok (.if_icmp .lt 9, 3) := by decide +kernel
theorem dX8_convinced_27 : decode cX8_convinced 27 = .ok (.iconst 1, 1) := by decide +kernel
theorem dX8_convinced_28 : decode cX8_convinced 28 = .ok (.iload_n 3, 1) := by decide +kernel
theorem dX8_convinced_29 : decode cX8_convinced 29 = .ok (.ishl, 1) := by decide +kernel
theorem dX8_convinced_30 : decode cX8_convinced 30 = .ok (.goto 4, 3) := by decide +kernel
theorem dX8_convinced_33 : decode cX8_convinced 33 = .ok (.iconst 0, 1) := by decide +kernel
theorem dX8_convinced_34 : decode cX8_convinced 34 = .ok (.ior, 1) := by decide +kernel
theorem dX8_convinced_35 : decode cX8_convinced 35 = .ok (.istore_n 2, 1) := by decide +kernel
theorem dX8_convinced_36 : decode cX8_convinced 36 = .ok (.iinc 3 1, 3) := by decide +kernel
theorem dX8_convinced_39 : decode cX8_convinced 39 = .ok (.goto (-35), 3) := by decide +kernel
theorem dX8_convinced_42 : decode cX8_convinced 42 = .ok (.iload_n 2, 1) := by decide +kernel
theorem dX8_convinced_43 : decode cX8_convinced 43 = .ok (.ireturn, 1) := by decide +kernel
theorem dX8_told_0 : decode cX8_told 0 = .ok (.iload_n 1, 1) := by decide +kernel
theorem dX8_told_1 : decode cX8_told 1 = .ok (.tableswitch 135 0 12 #[67, 67, 67, 67, 74, 79, 87, 95, 104, 112, 120, 125, 130], 67) := by decide +kernel
theorem dX8_told_68 : decode cX8_told 68 = .ok (.aload_n 0, 1) := by decide +kernel
theorem dX8_told_69 : decode cX8_told 69 = .ok (.getfield 7, 3) := by decide +kernel
theorem dX8_told_72 : decode cX8_told 72 = .ok (.iload_n 1, 1) := by decide +kernel
theorem dX8_told_73 : decode cX8_told 73 = .ok (.iaload, 1) := by decide +kernel
theorem dX8_told_74 : decode cX8_told 74 = .ok (.ireturn, 1) := by decide +kernel
theorem dX8_told_75 : decode cX8_told 75 = .ok (.aload_n 0, 1) := by decide +kernel
theorem dX8_told_76 : decode cX8_told 76 = .ok (.getfield 79, 3) := by decide +kernel
theorem dX8_told_79 : decode cX8_told 79 = .ok (.ireturn, 1) := by decide +kernel
theorem dX8_told_80 : decode cX8_told 80 = .ok (.aload_n 0, 1) := by decide +kernel
theorem dX8_told_81 : decode cX8_told 81 = .ok (.getfield 16, 3) := by decide +kernel
theorem dX8_told_84 : decode cX8_told 84 = .ok (.bipush 14, 2) := by decide +kernel
theorem dX8_told_86 : decode cX8_told 86 = .ok (.iaload, 1) := by decide +kernel
theorem dX8_told_87 : decode cX8_told 87 = .ok (.ireturn, 1) := by decide +kernel
theorem dX8_told_88 : decode cX8_told 88 = .ok (.aload_n 0, 1) := by decide +kernel
theorem dX8_told_89 : decode cX8_told 89 = .ok (.getfield 16, 3) := by decide +kernel
theorem dX8_told_92 : decode cX8_told 92 = .ok (.bipush 15, 2) := by decide +kernel
theorem dX8_told_94 : decode cX8_told 94 = .ok (.iaload, 1) := by decide +kernel
theorem dX8_told_95 : decode cX8_told 95 = .ok (.ireturn, 1) := by decide +kernel
theorem dX8_told_96 : decode cX8_told 96 = .ok (.aload_n 0, 1) := by decide +kernel
theorem dX8_told_97 : decode cX8_told 97 = .ok (.aload_n 0, 1) := by decide +kernel
theorem dX8_told_98 : decode cX8_told 98 = .ok (.getfield 16, 3) := by decide +kernel
theorem dX8_told_101 : decode cX8_told 101 = .ok (.invokevirtual 136, 3) := by decide +kernel
theorem dX8_told_104 : decode cX8_told 104 = .ok (.ireturn, 1) := by decide +kernel
theorem dX8_told_105 : decode cX8_told 105 = .ok (.aload_n 0, 1) := by decide +kernel
theorem dX8_told_106 : decode cX8_told 106 = .ok (.getfield 16, 3) := by decide +kernel
theorem dX8_told_109 : decode cX8_told 109 = .ok (.bipush 13, 2) := by decide +kernel
theorem dX8_told_111 : decode cX8_told 111 = .ok (.iaload, 1) := by decide +kernel
theorem dX8_told_112 : decode cX8_told 112 = .ok (.ireturn, 1) := by decide +kernel
theorem dX8_told_113 : decode cX8_told 113 = .ok (.aload_n 0, 1) := by decide +kernel
theorem dX8_told_114 : decode cX8_told 114 = .ok (.getfield 16, 3) := by decide +kernel
theorem dX8_told_117 : decode cX8_told 117 = .ok (.bipush 16, 2) := by decide +kernel
theorem dX8_told_119 : decode cX8_told 119 = .ok (.iaload, 1) := by decide +kernel
theorem dX8_told_120 : decode cX8_told 120 = .ok (.ireturn, 1) := by decide +kernel
theorem dX8_told_121 : decode cX8_told 121 = .ok (.aload_n 0, 1) := by decide +kernel
theorem dX8_told_122 : decode cX8_told 122 = .ok (.getfield 66, 3) := by decide +kernel
theorem dX8_told_125 : decode cX8_told 125 = .ok (.ireturn, 1) := by decide +kernel
theorem dX8_told_126 : decode cX8_told 126 = .ok (.aload_n 0, 1) := by decide +kernel
theorem dX8_told_127 : decode cX8_told 127 = .ok (.getfield 69, 3) := by decide +kernel
theorem dX8_told_130 : decode cX8_told 130 = .ok (.ireturn, 1) := by decide +kernel
theorem dX8_told_131 : decode cX8_told 131 = .ok (.aload_n 0, 1) := by decide +kernel
theorem dX8_told_132 : decode cX8_told 132 = .ok (.getfield 63, 3) := by decide +kernel
theorem dX8_told_135 : decode cX8_told 135 = .ok (.ireturn, 1) := by decide +kernel
theorem dX8_told_136 : decode cX8_told 136 = .ok (.ldc 78, 2) := by decide +kernel
theorem dX8_told_138 : decode cX8_told 138 = .ok (.ireturn, 1) := by decide +kernel
theorem dX8_belief_0 : decode cX8_belief 0 = .ok (.aload_n 0, 1) := by decide +kernel
theorem dX8_belief_1 : decode cX8_belief 1 = .ok (.iload_n 1, 1) := by decide +kernel
theorem dX8_belief_2 : decode cX8_belief 2 = .ok (.invokevirtual 140, 3) := by decide +kernel
theorem dX8_belief_5 : decode cX8_belief 5 = .ok (.ifCond .eq 12, 3) := by decide +kernel
theorem dX8_belief_8 : decode cX8_belief 8 = .ok (.aload_n 0, 1) := by decide +kernel
theorem dX8_belief_9 : decode cX8_belief 9 = .ok (.getfield 16, 3) := by decide +kernel
theorem dX8_belief_12 : decode cX8_belief 12 = .ok (.iload_n 1, 1) := by decide +kernel
theorem dX8_belief_13 : decode cX8_belief 13 = .ok (.iaload, 1) := by decide +kernel
theorem dX8_belief_14 : decode cX8_belief 14 = .ok (.goto 5, 3) := by decide +kernel
theorem dX8_belief_17 : decode cX8_belief 17 = .ok (.ldc 143, 2) := by decide +kernel
theorem dX8_belief_19 : decode cX8_belief 19 = .ok (.ireturn, 1) := by decide +kernel
theorem dX8_fact_0 : decode cX8_fact 0 = .ok (.aload_n 0, 1) := by decide +kernel
theorem dX8_fact_1 : decode cX8_fact 1 = .ok (.iload_n 1, 1) := by decide +kernel
theorem dX8_fact_2 : decode cX8_fact 2 = .ok (.invokevirtual 144, 3) := by decide +kernel
theorem dX8_fact_5 : decode cX8_fact 5 = .ok (.ifCond .ne 6, 3) := by decide +kernel
theorem dX8_fact_8 : decode cX8_fact 8 = .ok (.ldc 143, 2) := by decide +kernel
theorem dX8_fact_10 : decode cX8_fact 10 = .ok (.ireturn, 1) := by decide +kernel
theorem dX8_fact_11 : decode cX8_fact 11 = .ok (.iload_n 2, 1) := by decide +kernel
theorem dX8_fact_12 : decode cX8_fact 12 = .ok (.tableswitch 116 0 6 #[44, 44, 59, 44, 44, 87, 107], 44) := by decide +kernel
theorem dX8_fact_56 : decode cX8_fact 56 = .ok (.aload_n 0, 1) := by decide +kernel
theorem dX8_fact_57 : decode cX8_fact 57 = .ok (.getfield 7, 3) := by decide +kernel
theorem dX8_fact_60 : decode cX8_fact 60 = .ok (.bipush 10, 2) := by decide +kernel
theorem dX8_fact_62 : decode cX8_fact 62 = .ok (.bipush 8, 2) := by decide +kernel
theorem dX8_fact_64 : decode cX8_fact 64 = .ok (.iload_n 2, 1) := by decide +kernel
theorem dX8_fact_65 : decode cX8_fact 65 = .ok (.imul, 1) := by decide +kernel
theorem dX8_fact_66 : decode cX8_fact 66 = .ok (.iadd, 1) := by decide +kernel
theorem dX8_fact_67 : decode cX8_fact 67 = .ok (.iload_n 1, 1) := by decide +kernel
theorem dX8_fact_68 : decode cX8_fact 68 = .ok (.iadd, 1) := by decide +kernel
theorem dX8_fact_69 : decode cX8_fact 69 = .ok (.iaload, 1) := by decide +kernel
theorem dX8_fact_70 : decode cX8_fact 70 = .ok (.ireturn, 1) := by decide +kernel
theorem dX8_fact_71 : decode cX8_fact 71 = .ok (.aload_n 0, 1) := by decide +kernel
theorem dX8_fact_72 : decode cX8_fact 72 = .ok (.getfield 7, 3) := by decide +kernel
theorem dX8_fact_75 : decode cX8_fact 75 = .ok (.bipush 26, 2) := by decide +kernel
theorem dX8_fact_77 : decode cX8_fact 77 = .ok (.iload_n 1, 1) := by decide +kernel
theorem dX8_fact_78 : decode cX8_fact 78 = .ok (.iadd, 1) := by decide +kernel
theorem dX8_fact_79 : decode cX8_fact 79 = .ok (.iaload, 1) := by decide +kernel
theorem dX8_fact_80 : decode cX8_fact 80 = .ok (.bipush 9, 2) := by decide +kernel
theorem dX8_fact_82 : decode cX8_fact 82 = .ok (.if_icmp .ne 7, 3) := by decide +kernel
theorem dX8_fact_85 : decode cX8_fact 85 = .ok (.iconst (-1), 1) := by decide +kernel
theorem dX8_fact_86 : decode cX8_fact 86 = .ok (.goto 12, 3) := by decide +kernel
theorem dX8_fact_89 : decode cX8_fact 89 = .ok (.aload_n 0, 1) := by decide +kernel
theorem dX8_fact_90 : decode cX8_fact 90 = .ok (.getfield 7, 3) := by decide +kernel
theorem dX8_fact_93 : decode cX8_fact 93 = .ok (.bipush 26, 2) := by decide +kernel
theorem dX8_fact_95 : decode cX8_fact 95 = .ok (.iload_n 1, 1) := by decide +kernel
theorem dX8_fact_96 : decode cX8_fact 96 = .ok (.iadd, 1) := by decide +kernel
theorem dX8_fact_97 : decode cX8_fact 97 = .ok (.iaload, 1) := by decide +kernel
theorem dX8_fact_98 : decode cX8_fact 98 = .ok (.ireturn, 1) := by decide +kernel
theorem dX8_fact_99 : decode cX8_fact 99 = .ok (.aload_n 0, 1) := by decide +kernel
theorem dX8_fact_100 : decode cX8_fact 100 = .ok (.getfield 16, 3) := by decide +kernel
theorem dX8_fact_103 : decode cX8_fact 103 = .ok (.bipush 13, 2) := by decide +kernel
theorem dX8_fact_105 : decode cX8_fact 105 = .ok (.iaload, 1) := by decide +kernel
theorem dX8_fact_106 : decode cX8_fact 106 = .ok (.iload_n 1, 1) := by decide +kernel
theorem dX8_fact_107 : decode cX8_fact 107 = .ok (.invokestatic 147, 3) := by decide +kernel
theorem dX8_fact_110 : decode cX8_fact 110 = .ok (.ifCond .eq 7, 3) := by decide +kernel
theorem dX8_fact_113 : decode cX8_fact 113 = .ok (.iconst 1, 1) := by decide +kernel
theorem dX8_fact_114 : decode cX8_fact 114 = .ok (.goto 4, 3) := by decide +kernel
theorem dX8_fact_117 : decode cX8_fact 117 = .ok (.iconst 0, 1) := by decide +kernel
theorem dX8_fact_118 : decode cX8_fact 118 = .ok (.ireturn, 1) := by decide +kernel
theorem dX8_fact_119 : decode cX8_fact 119 = .ok (.aload_n 0, 1) := by decide +kernel
theorem dX8_fact_120 : decode cX8_fact 120 = .ok (.getfield 16, 3) := by decide +kernel
theorem dX8_fact_123 : decode cX8_fact 123 = .ok (.iconst 5, 1) := by decide +kernel
theorem dX8_fact_124 : decode cX8_fact 124 = .ok (.iload_n 1, 1) := by decide +kernel
theorem dX8_fact_125 : decode cX8_fact 125 = .ok (.iadd, 1) := by decide +kernel
theorem dX8_fact_126 : decode cX8_fact 126 = .ok (.iaload, 1) := by decide +kernel
theorem dX8_fact_127 : decode cX8_fact 127 = .ok (.ireturn, 1) := by decide +kernel
theorem dX8_fact_128 : decode cX8_fact 128 = .ok (.ldc 78, 2) := by decide +kernel
theorem dX8_fact_130 : decode cX8_fact 130 = .ok (.ireturn, 1) := by decide +kernel
theorem dX8_bound_0 : decode cX8_bound 0 = .ok (.iload_n 0, 1) := by decide +kernel
theorem dX8_bound_1 : decode cX8_bound 1 = .ok (.ifCond .ge 7, 3) := by decide +kernel
theorem dX8_bound_4 : decode cX8_bound 4 = .ok (.iconst 0, 1) := by decide +kernel
theorem dX8_bound_5 : decode cX8_bound 5 = .ok (.goto 15, 3) := by decide +kernel
theorem dX8_bound_8 : decode cX8_bound 8 = .ok (.iload_n 0, 1) := by decide +kernel
theorem dX8_bound_9 : decode cX8_bound 9 = .ok (.bipush 20, 2) := by decide +kernel
theorem dX8_bound_11 : decode cX8_bound 11 = .ok (.if_icmp .le 8, 3) := by decide +kernel
theorem dX8_bound_14 : decode cX8_bound 14 = .ok (.bipush 20, 2) := by decide +kernel
theorem dX8_bound_16 : decode cX8_bound 16 = .ok (.goto 4, 3) := by decide +kernel
theorem dX8_bound_19 : decode cX8_bound 19 = .ok (.iload_n 0, 1) := by decide +kernel
theorem dX8_bound_20 : decode cX8_bound 20 = .ok (.ireturn, 1) := by decide +kernel
theorem dX8_reads_0 : decode cX8_reads 0 = .ok (.aload_n 0, 1) := by decide +kernel
theorem dX8_reads_1 : decode cX8_reads 1 = .ok (.getfield 7, 3) := by decide +kernel
theorem dX8_reads_4 : decode cX8_reads 4 = .ok (.bipush 10, 2) := by decide +kernel
theorem dX8_reads_6 : decode cX8_reads 6 = .ok (.iload_n 2, 1) := by decide +kernel
theorem dX8_reads_7 : decode cX8_reads 7 = .ok (.iadd, 1) := by decide +kernel
theorem dX8_reads_8 : decode cX8_reads 8 = .ok (.iaload, 1) := by decide +kernel
theorem dX8_reads_9 : decode cX8_reads 9 = .ok (.istore 4, 2) := by decide +kernel
theorem dX8_reads_11 : decode cX8_reads 11 = .ok (.aload_n 0, 1) := by decide +kernel
theorem dX8_reads_12 : decode cX8_reads 12 = .ok (.getfield 7, 3) := by decide +kernel
theorem dX8_reads_15 : decode cX8_reads 15 = .ok (.bipush 26, 2) := by decide +kernel
theorem dX8_reads_17 : decode cX8_reads 17 = .ok (.iload_n 2, 1) := by decide +kernel
theorem dX8_reads_18 : decode cX8_reads 18 = .ok (.iadd, 1) := by decide +kernel
theorem dX8_reads_19 : decode cX8_reads 19 = .ok (.iaload, 1) := by decide +kernel
theorem dX8_reads_20 : decode cX8_reads 20 = .ok (.istore 5, 2) := by decide +kernel
theorem dX8_reads_22 : decode cX8_reads 22 = .ok (.aload_n 1, 1) := by decide +kernel
theorem dX8_reads_23 : decode cX8_reads 23 = .ok (.iload 4, 2) := by decide +kernel
theorem dX8_reads_25 : decode cX8_reads 25 = .ok (.iaload, 1) := by decide +kernel
theorem dX8_reads_26 : decode cX8_reads 26 = .ok (.istore 6, 2) := by decide +kernel
theorem dX8_reads_28 : decode cX8_reads 28 = .ok (.iload 5, 2) := by decide +kernel
theorem dX8_reads_30 : decode cX8_reads 30 = .ok (.bipush 9, 2) := by decide +kernel
theorem dX8_reads_32 : decode cX8_reads 32 = .ok (.if_icmp .eq 19, 3) := by decide +kernel
theorem dX8_reads_35 : decode cX8_reads 35 = .ok (.aload_n 1, 1) := by decide +kernel
theorem dX8_reads_36 : decode cX8_reads 36 = .ok (.iload 5, 2) := by decide +kernel
theorem dX8_reads_38 : decode cX8_reads 38 = .ok (.iaload, 1) := by decide +kernel
theorem dX8_reads_39 : decode cX8_reads 39 = .ok (.aload_n 0, 1) := by decide +kernel
theorem dX8_reads_40 : decode cX8_reads 40 = .ok (.getfield 7, 3) := by decide +kernel
theorem dX8_reads_43 : decode cX8_reads 43 = .ok (.bipush 34, 2) := by decide +kernel
theorem dX8_reads_45 : decode cX8_reads 45 = .ok (.iload_n 2, 1) := by decide +kernel
theorem dX8_reads_46 : decode cX8_reads 46 = .ok (.iadd, 1) := by decide +kernel
theorem dX8_reads_47 : decode cX8_reads 47 = .ok (.iaload, 1) := by decide +kernel
theorem dX8_reads_48 : decode cX8_reads 48 = .ok (.if_icmp .lt 24, 3) := by decide +kernel
theorem dX8_reads_51 : decode cX8_reads 51 = .ok (.aload_n 1, 1) := by decide +kernel
theorem dX8_reads_52 : decode cX8_reads 52 = .ok (.iload 4, 2) := by decide +kernel
theorem dX8_reads_54 : decode cX8_reads 54 = .ok (.aload_n 1, 1) := by decide +kernel
theorem dX8_reads_55 : decode cX8_reads 55 = .ok (.iload 4, 2) := by decide +kernel
theorem dX8_reads_57 : decode cX8_reads 57 = .ok (.iaload, 1) := by decide +kernel
theorem dX8_reads_58 : decode cX8_reads 58 = .ok (.iload_n 3, 1) := by decide +kernel
theorem dX8_reads_59 : decode cX8_reads 59 = .ok (.iconst 1, 1) := by decide +kernel
theorem dX8_reads_60 : decode cX8_reads 60 = .ok (.aload_n 1, 1) := by decide +kernel
theorem dX8_reads_61 : decode cX8_reads 61 = .ok (.iconst 5, 1) := by decide +kernel
theorem dX8_reads_62 : decode cX8_reads 62 = .ok (.iload_n 2, 1) := by decide +kernel
theorem dX8_reads_63 : decode cX8_reads 63 = .ok (.iadd, 1) := by decide +kernel
theorem dX8_reads_64 : decode cX8_reads 64 = .ok (.iaload, 1) := by decide +kernel
theorem dX8_reads_65 : decode cX8_reads 65 = .ok (.iadd, 1) := by decide +kernel
theorem dX8_reads_66 : decode cX8_reads 66 = .ok (.idiv, 1) := by decide +kernel
theorem dX8_reads_67 : decode cX8_reads 67 = .ok (.iadd, 1) := by decide +kernel
theorem dX8_reads_68 : decode cX8_reads 68 = .ok (.invokestatic 151, 3) := by decide +kernel
theorem dX8_reads_71 : decode cX8_reads 71 = .ok (.iastore, 1) := by decide +kernel
theorem dX8_reads_72 : decode cX8_reads 72 = .ok (.aload_n 1, 1) := by decide +kernel
theorem dX8_reads_73 : decode cX8_reads 73 = .ok (.iconst 5, 1) := by decide +kernel
theorem dX8_reads_74 : decode cX8_reads 74 = .ok (.iload_n 2, 1) := by decide +kernel
theorem dX8_reads_75 : decode cX8_reads 75 = .ok (.iadd, 1) := by decide +kernel
theorem dX8_reads_76 : decode cX8_reads 76 = .ok (.dup2, 1) := by decide +kernel
theorem dX8_reads_77 : decode cX8_reads 77 = .ok (.iaload, 1) := by decide +kernel
theorem dX8_reads_78 : decode cX8_reads 78 = .ok (.iconst 1, 1) := by decide +kernel
theorem dX8_reads_79 : decode cX8_reads 79 = .ok (.iadd, 1) := by decide +kernel
theorem dX8_reads_80 : decode cX8_reads 80 = .ok (.iastore, 1) := by decide +kernel
theorem dX8_reads_81 : decode cX8_reads 81 = .ok (.iload 6, 2) := by decide +kernel
theorem dX8_reads_83 : decode cX8_reads 83 = .ok (.aload_n 0, 1) := by decide +kernel
theorem dX8_reads_84 : decode cX8_reads 84 = .ok (.getfield 7, 3) := by decide +kernel
theorem dX8_reads_87 : decode cX8_reads 87 = .ok (.iconst 3, 1) := by decide +kernel
theorem dX8_reads_88 : decode cX8_reads 88 = .ok (.iaload, 1) := by decide +kernel
theorem dX8_reads_89 : decode cX8_reads 89 = .ok (.if_icmp .ge 20, 3) := by decide +kernel
theorem dX8_reads_92 : decode cX8_reads 92 = .ok (.aload_n 1, 1) := by decide +kernel
theorem dX8_reads_93 : decode cX8_reads 93 = .ok (.iload 4, 2) := by decide +kernel
theorem dX8_reads_95 : decode cX8_reads 95 = .ok (.iaload, 1) := by decide +kernel
theorem dX8_reads_96 : decode cX8_reads 96 = .ok (.aload_n 0, 1) := by decide +kernel
theorem dX8_reads_97 : decode cX8_reads 97 = .ok (.getfield 7, 3) := by decide +kernel
theorem dX8_reads_100 : decode cX8_reads 100 = .ok (.iconst 3, 1) := by decide +kernel
theorem dX8_reads_101 : decode cX8_reads 101 = .ok (.iaload, 1) := by decide +kernel
theorem dX8_reads_102 : decode cX8_reads 102 = .ok (.if_icmp .lt 7, 3) := by decide +kernel
theorem dX8_reads_105 : decode cX8_reads 105 = .ok (.iconst 1, 1) := by decide +kernel
theorem dX8_reads_106 : decode cX8_reads 106 = .ok (.goto 4, 3) := by decide +kernel
theorem dX8_reads_109 : decode cX8_reads 109 = .ok (.iconst 0, 1) := by decide +kernel
theorem dX8_reads_110 : decode cX8_reads 110 = .ok (.ireturn, 1) := by decide +kernel
theorem dX8_byOf_0 : decode cX8_byOf 0 = .ok (.aload_n 0, 1) := by decide +kernel
theorem dX8_byOf_1 : decode cX8_byOf 1 = .ok (.getfield 7, 3) := by decide +kernel
theorem dX8_byOf_4 : decode cX8_byOf 4 = .ok (.bipush 18, 2) := by decide +kernel
theorem dX8_byOf_6 : decode cX8_byOf 6 = .ok (.iload_n 1, 1) := by decide +kernel
theorem dX8_byOf_7 : decode cX8_byOf 7 = .ok (.iadd, 1) := by decide +kernel
theorem dX8_byOf_8 : decode cX8_byOf 8 = .ok (.iaload, 1) := by decide +kernel
theorem dX8_byOf_9 : decode cX8_byOf 9 = .ok (.bipush 9, 2) := by decide +kernel
theorem dX8_byOf_11 : decode cX8_byOf 11 = .ok (.isub, 1) := by decide +kernel
theorem dX8_byOf_12 : decode cX8_byOf 12 = .ok (.ireturn, 1) := by decide +kernel
theorem dX8_readsSheet_0 : decode cX8_readsSheet 0 = .ok (.iconst (-1), 1) := by decide +kernel
theorem dX8_readsSheet_1 : decode cX8_readsSheet 1 = .ok (.istore_n 3, 1) := by decide +kernel
theorem dX8_readsSheet_2 : decode cX8_readsSheet 2 = .ok (.iconst 0, 1) := by decide +kernel
theorem dX8_readsSheet_3 : decode cX8_readsSheet 3 = .ok (.istore 4, 2) := by decide +kernel
theorem dX8_readsSheet_5 : decode cX8_readsSheet 5 = .ok (.iload 4, 2) := by decide +kernel
theorem dX8_readsSheet_7 : decode cX8_readsSheet 7 = .ok (.aload_n 0, 1) := by decide +kernel
theorem dX8_readsSheet_8 : decode cX8_readsSheet 8 = .ok (.getfield 7, 3) := by decide +kernel
theorem dX8_readsSheet_11 : decode cX8_readsSheet 11 = .ok (.iconst 2, 1) := by decide +kernel
theorem dX8_readsSheet_12 : decode cX8_readsSheet 12 = .ok (.iaload, 1) := by decide +kernel
theorem dX8_readsSheet_13 : decode cX8_readsSheet 13 = .ok (.if_icmp .ge 50, 3) := by decide +kernel
theorem dX8_readsSheet_16 : decode cX8_readsSheet 16 = .ok (.iload_n 2, 1) := by decide +kernel
theorem dX8_readsSheet_17 : decode cX8_readsSheet 17 = .ok (.iload 4, 2) := by decide +kernel
theorem dX8_readsSheet_19 : decode cX8_readsSheet 19 = .ok (.invokestatic 147, 3) := by decide +kernel
theorem dX8_readsSheet_22 : decode cX8_readsSheet 22 = .ok (.ifCond .eq 35, 3) := by decide +kernel
theorem dX8_readsSheet_25 : decode cX8_readsSheet 25 = .ok (.aload_n 0, 1) := by decide +kernel
theorem dX8_readsSheet_26 : decode cX8_readsSheet 26 = .ok (.aload_n 1, 1) := by decide +kernel
theorem dX8_readsSheet_27 : decode cX8_readsSheet 27 = .ok (.iload 4, 2) := by decide +kernel
theorem dX8_readsSheet_29 : decode cX8_readsSheet 29 = .ok (.aload_n 0, 1) := by decide +kernel
theorem dX8_readsSheet_30 : decode cX8_readsSheet 30 = .ok (.iload 4, 2) := by decide +kernel
theorem dX8_readsSheet_32 : decode cX8_readsSheet 32 = .ok (.invokevirtual 155, 3) := by decide +kernel
theorem dX8_readsSheet_35 : decode cX8_readsSheet 35 = .ok (.invokevirtual 158, 3) := by decide +kernel
theorem dX8_readsSheet_38 : decode cX8_readsSheet 38 = .ok (.istore 5, 2) := by decide +kernel
theorem dX8_readsSheet_40 : decode cX8_readsSheet 40 = .ok (.iload 5, 2) := by decide +kernel
theorem dX8_readsSheet_42 : decode cX8_readsSheet 42 = .ok (.ifCond .eq 13, 3) := by decide +kernel
theorem dX8_readsSheet_45 : decode cX8_readsSheet 45 = .ok (.iload_n 3, 1) := by decide +kernel
theorem dX8_readsSheet_46 : decode cX8_readsSheet 46 = .ok (.iconst (-1), 1) := by decide +kernel
theorem dX8_readsSheet_47 : decode cX8_readsSheet 47 = .ok (.if_icmp .ne 8, 3) := by decide +kernel
theorem dX8_readsSheet_50 : decode cX8_readsSheet 50 = .ok (.iload 4, 2) := by decide +kernel
theorem dX8_readsSheet_52 : decode cX8_readsSheet 52 = .ok (.goto 4, 3) := by decide +kernel
theorem dX8_readsSheet_55 : decode cX8_readsSheet 55 = .ok (.iload_n 3, 1) := by decide +kernel
theorem dX8_readsSheet_56 : decode cX8_readsSheet 56 = .ok (.istore_n 3, 1) := by decide +kernel
theorem dX8_readsSheet_57 : decode cX8_readsSheet 57 = .ok (.iinc 4 1, 3) := by decide +kernel
theorem dX8_readsSheet_60 : decode cX8_readsSheet 60 = .ok (.goto (-55), 3) := by decide +kernel
theorem dX8_readsSheet_63 : decode cX8_readsSheet 63 = .ok (.iload_n 3, 1) := by decide +kernel
theorem dX8_readsSheet_64 : decode cX8_readsSheet 64 = .ok (.ireturn, 1) := by decide +kernel
theorem dX8_maySheet_0 : decode cX8_maySheet 0 = .ok (.aload_n 0, 1) := by decide +kernel
theorem dX8_maySheet_1 : decode cX8_maySheet 1 = .ok (.getfield 7, 3) := by decide +kernel
theorem dX8_maySheet_4 : decode cX8_maySheet 4 = .ok (.iconst 1, 1) := by decide +kernel
theorem dX8_maySheet_5 : decode cX8_maySheet 5 = .ok (.iaload, 1) := by decide +kernel
theorem dX8_maySheet_6 : decode cX8_maySheet 6 = .ok (.ifCond .le 28, 3) := by decide +kernel
theorem dX8_maySheet_9 : decode cX8_maySheet 9 = .ok (.iload_n 1, 1) := by decide +kernel
theorem dX8_maySheet_10 : decode cX8_maySheet 10 = .ok (.iload_n 2, 1) := by decide +kernel
theorem dX8_maySheet_11 : decode cX8_maySheet 11 = .ok (.iconst (-1), 1) := by decide +kernel
theorem dX8_maySheet_12 : decode cX8_maySheet 12 = .ok (.ixor, 1) := by decide +kernel
theorem dX8_maySheet_13 : decode cX8_maySheet 13 = .ok (.iand, 1) := by decide +kernel
theorem dX8_maySheet_14 : decode cX8_maySheet 14 = .ok (.ifCond .ne 20, 3) := by decide +kernel
theorem dX8_maySheet_17 : decode cX8_maySheet 17 = .ok (.iload_n 1, 1) := by decide +kernel
theorem dX8_maySheet_18 : decode cX8_maySheet 18 = .ok (.invokestatic 162, 3) := by decide +kernel
theorem dX8_maySheet_21 : decode cX8_maySheet 21 = .ok (.aload_n 0, 1) := by decide +kernel
theorem dX8_maySheet_22 : decode cX8_maySheet 22 = .ok (.getfield 7, 3) := by decide +kernel
theorem dX8_maySheet_25 : decode cX8_maySheet 25 = .ok (.iconst 0, 1) := by decide +kernel
theorem dX8_maySheet_26 : decode cX8_maySheet 26 = .ok (.iaload, 1) := by decide +kernel
theorem dX8_maySheet_27 : decode cX8_maySheet 27 = .ok (.if_icmp .gt 7, 3) := by decide +kernel
theorem dX8_maySheet_30 : decode cX8_maySheet 30 = .ok (.iconst 1, 1) := by decide +kernel
theorem dX8_maySheet_31 : decode cX8_maySheet 31 = .ok (.goto 4, 3) := by decide +kernel
theorem dX8_maySheet_34 : decode cX8_maySheet 34 = .ok (.iconst 0, 1) := by decide +kernel
theorem dX8_maySheet_35 : decode cX8_maySheet 35 = .ok (.ireturn, 1) := by decide +kernel
theorem dX8_copies_0 : decode cX8_copies 0 = .ok (.iconst 0, 1) := by decide +kernel
theorem dX8_copies_1 : decode cX8_copies 1 = .ok (.istore 5, 2) := by decide +kernel
theorem dX8_copies_3 : decode cX8_copies 3 = .ok (.iload 5, 2) := by decide +kernel
theorem dX8_copies_5 : decode cX8_copies 5 = .ok (.iload 4, 2) := by decide +kernel
theorem dX8_copies_7 : decode cX8_copies 7 = .ok (.if_icmp .ge 21, 3) := by decide +kernel
theorem dX8_copies_10 : decode cX8_copies 10 = .ok (.aload_n 2, 1) := by decide +kernel
theorem dX8_copies_11 : decode cX8_copies 11 = .ok (.iload_n 3, 1) := by decide +kernel
theorem dX8_copies_12 : decode cX8_copies 12 = .ok (.iload 5, 2) := by decide +kernel
theorem dX8_copies_14 : decode cX8_copies 14 = .ok (.iadd, 1) := by decide +kernel
theorem dX8_copies_15 : decode cX8_copies 15 = .ok (.aload_n 0, 1) := by decide +kernel
theorem dX8_copies_16 : decode cX8_copies 16 = .ok (.iload_n 1, 1) := by decide +kernel
theorem dX8_copies_17 : decode cX8_copies 17 = .ok (.iload 5, 2) := by decide +kernel
theorem dX8_copies_19 : decode cX8_copies 19 = .ok (.iadd, 1) := by decide +kernel
theorem dX8_copies_20 : decode cX8_copies 20 = .ok (.iaload, 1) := by decide +kernel
theorem dX8_copies_21 : decode cX8_copies 21 = .ok (.iastore, 1) := by decide +kernel
theorem dX8_copies_22 : decode cX8_copies 22 = .ok (.iinc 5 1, 3) := by decide +kernel
theorem dX8_copies_25 : decode cX8_copies 25 = .ok (.goto (-22), 3) := by decide +kernel
theorem dX8_copies_28 : decode cX8_copies 28 = .ok (.return_, 1) := by decide +kernel
theorem dX8_remember_0 : decode cX8_remember 0 = .ok (.aload_n 0, 1) := by decide +kernel
theorem dX8_remember_1 : decode cX8_remember 1 = .ok (.getfield 63, 3) := by decide +kernel
theorem dX8_remember_4 : decode cX8_remember 4 = .ok (.bipush 20, 2) := by decide +kernel
theorem dX8_remember_6 : decode cX8_remember 6 = .ok (.if_icmp .ne 43, 3) := by decide +kernel
theorem dX8_remember_9 : decode cX8_remember 9 = .ok (.iconst 0, 1) := by decide +kernel
theorem dX8_remember_10 : decode cX8_remember 10 = .ok (.istore_n 1, 1) := by decide +kernel
theorem dX8_remember_11 : decode cX8_remember 11 = .ok (.iload_n 1, 1) := by decide +kernel
theorem dX8_remember_12 : decode cX8_remember 12 = .ok (.sipush 323, 3) := by decide +kernel
theorem dX8_remember_15 : decode cX8_remember 15 = .ok (.if_icmp .ge 24, 3) := by decide +kernel
theorem dX8_remember_18 : decode cX8_remember 18 = .ok (.aload_n 0, 1) := by decide +kernel
theorem dX8_remember_19 : decode cX8_remember 19 = .ok (.getfield 19, 3) := by decide +kernel
theorem dX8_remember_22 : decode cX8_remember 22 = .ok (.iload_n 1, 1) := by decide +kernel
theorem dX8_remember_23 : decode cX8_remember 23 = .ok (.aload_n 0, 1) := by decide +kernel
theorem dX8_remember_24 : decode cX8_remember 24 = .ok (.getfield 19, 3) := by decide +kernel
theorem dX8_remember_27 : decode cX8_remember 27 = .ok (.iload_n 1, 1) := by decide +kernel
theorem dX8_remember_28 : decode cX8_remember 28 = .ok (.bipush 17, 2) := by decide +kernel
theorem dX8_remember_30 : decode cX8_remember 30 = .ok (.iadd, 1) := by decide +kernel
theorem dX8_remember_31 : decode cX8_remember 31 = .ok (.iaload, 1) := by decide +kernel
theorem dX8_remember_32 : decode cX8_remember 32 = .ok (.iastore, 1) := by decide +kernel
theorem dX8_remember_33 : decode cX8_remember 33 = .ok (.iinc 1 1, 3) := by decide +kernel
theorem dX8_remember_36 : decode cX8_remember 36 = .ok (.goto (-25), 3) := by decide +kernel
theorem dX8_remember_39 : decode cX8_remember 39 = .ok (.aload_n 0, 1) := by decide +kernel
theorem dX8_remember_40 : decode cX8_remember 40 = .ok (.dup, 1) := by decide +kernel
theorem dX8_remember_41 : decode cX8_remember 41 = .ok (.getfield 63, 3) := by decide +kernel
theorem dX8_remember_44 : decode cX8_remember 44 = .ok (.iconst 1, 1) := by decide +kernel
theorem dX8_remember_45 : decode cX8_remember 45 = .ok (.isub, 1) := by decide +kernel
theorem dX8_remember_46 : decode cX8_remember 46 = .ok (.putfield 63, 3) := by decide +kernel
theorem dX8_remember_49 : decode cX8_remember 49 = .ok (.aload_n 0, 1) := by decide +kernel
theorem dX8_remember_50 : decode cX8_remember 50 = .ok (.getfield 16, 3) := by decide +kernel
theorem dX8_remember_53 : decode cX8_remember 53 = .ok (.iconst 0, 1) := by decide +kernel
theorem dX8_remember_54 : decode cX8_remember 54 = .ok (.aload_n 0, 1) := by decide +kernel
theorem dX8_remember_55 : decode cX8_remember 55 = .ok (.getfield 19, 3) := by decide +kernel
theorem dX8_remember_58 : decode cX8_remember 58 = .ok (.bipush 17, 2) := by decide +kernel
theorem dX8_remember_60 : decode cX8_remember 60 = .ok (.aload_n 0, 1) := by decide +kernel
theorem dX8_remember_61 : decode cX8_remember 61 = .ok (.getfield 63, 3) := by decide +kernel
theorem dX8_remember_64 : decode cX8_remember 64 = .ok (.imul, 1) := by decide +kernel
theorem dX8_remember_65 : decode cX8_remember 65 = .ok (.bipush 17, 2) := by decide +kernel
theorem dX8_remember_67 : decode cX8_remember 67 = .ok (.invokestatic 165, 3) := by decide +kernel
theorem dX8_remember_70 : decode cX8_remember 70 = .ok (.aload_n 0, 1) := by decide +kernel
theorem dX8_remember_71 : decode cX8_remember 71 = .ok (.dup, 1) := by decide +kernel
theorem dX8_remember_72 : decode cX8_remember 72 = .ok (.getfield 63, 3) := by decide +kernel
theorem dX8_remember_75 : decode cX8_remember 75 = .ok (.iconst 1, 1) := by decide +kernel
theorem dX8_remember_76 : decode cX8_remember 76 = .ok (.iadd, 1) := by decide +kernel
theorem dX8_remember_77 : decode cX8_remember 77 = .ok (.putfield 63, 3) := by decide +kernel
theorem dX8_remember_80 : decode cX8_remember 80 = .ok (.return_, 1) := by decide +kernel
theorem dX8_prints_0 : decode cX8_prints 0 = .ok (.aload_n 0, 1) := by decide +kernel
theorem dX8_prints_1 : decode cX8_prints 1 = .ok (.getfield 16, 3) := by decide +kernel
theorem dX8_prints_4 : decode cX8_prints 4 = .ok (.bipush 16, 2) := by decide +kernel
theorem dX8_prints_6 : decode cX8_prints 6 = .ok (.aload_n 0, 1) := by decide +kernel
theorem dX8_prints_7 : decode cX8_prints 7 = .ok (.aload_n 0, 1) := by decide +kernel
theorem dX8_prints_8 : decode cX8_prints 8 = .ok (.getfield 16, 3) := by decide +kernel
theorem dX8_prints_11 : decode cX8_prints 11 = .ok (.iload_n 1, 1) := by decide +kernel
theorem dX8_prints_12 : decode cX8_prints 12 = .ok (.invokevirtual 169, 3) := by decide +kernel
theorem dX8_prints_15 : decode cX8_prints 15 = .ok (.iastore, 1) := by decide +kernel
theorem dX8_prints_16 : decode cX8_prints 16 = .ok (.aload_n 0, 1) := by decide +kernel
theorem dX8_prints_17 : decode cX8_prints 17 = .ok (.getfield 16, 3) := by decide +kernel
theorem dX8_prints_20 : decode cX8_prints 20 = .ok (.bipush 14, 2) := by decide +kernel
theorem dX8_prints_22 : decode cX8_prints 22 = .ok (.dup2, 1) := by decide +kernel
theorem dX8_prints_23 : decode cX8_prints 23 = .ok (.iaload, 1) := by decide +kernel
theorem dX8_prints_24 : decode cX8_prints 24 = .ok (.iconst 1, 1) := by decide +kernel
theorem dX8_prints_25 : decode cX8_prints 25 = .ok (.iadd, 1) := by decide +kernel
theorem dX8_prints_26 : decode cX8_prints 26 = .ok (.iastore, 1) := by decide +kernel
theorem dX8_prints_27 : decode cX8_prints 27 = .ok (.return_, 1) := by decide +kernel
theorem dX8_night_0 : decode cX8_night 0 = .ok (.aload_n 0, 1) := by decide +kernel
theorem dX8_night_1 : decode cX8_night 1 = .ok (.iload_n 1, 1) := by decide +kernel
theorem dX8_night_2 : decode cX8_night 2 = .ok (.invokevirtual 173, 3) := by decide +kernel
theorem dX8_night_5 : decode cX8_night 5 = .ok (.ifCond .ne 6, 3) := by decide +kernel
theorem dX8_night_8 : decode cX8_night 8 = .ok (.ldc 143, 2) := by decide +kernel
theorem dX8_night_10 : decode cX8_night 10 = .ok (.ireturn, 1) := by decide +kernel
theorem dX8_night_11 : decode cX8_night 11 = .ok (.aload_n 0, 1) := by decide +kernel
theorem dX8_night_12 : decode cX8_night 12 = .ok (.iload_n 1, 1) := by decide +kernel
theorem dX8_night_13 : decode cX8_night 13 = .ok (.aload_n 0, 1) := by decide +kernel
theorem dX8_night_14 : decode cX8_night 14 = .ok (.getfield 16, 3) := by decide +kernel
theorem dX8_night_17 : decode cX8_night 17 = .ok (.bipush 13, 2) := by decide +kernel
theorem dX8_night_19 : decode cX8_night 19 = .ok (.iaload, 1) := by decide +kernel
theorem dX8_night_20 : decode cX8_night 20 = .ok (.invokevirtual 176, 3) := by decide +kernel
theorem dX8_night_23 : decode cX8_night 23 = .ok (.ifCond .ne 6, 3) := by decide +kernel
theorem dX8_night_26 : decode cX8_night 26 = .ok (.ldc 179, 2) := by decide +kernel
theorem dX8_night_28 : decode cX8_night 28 = .ok (.ireturn, 1) := by decide +kernel
theorem dX8_night_29 : decode cX8_night 29 = .ok (.aload_n 0, 1) := by decide +kernel
theorem dX8_night_30 : decode cX8_night 30 = .ok (.getfield 16, 3) := by decide +kernel
theorem dX8_night_33 : decode cX8_night 33 = .ok (.bipush 14, 2) := by decide +kernel
theorem dX8_night_35 : decode cX8_night 35 = .ok (.iaload, 1) := by decide +kernel
theorem dX8_night_36 : decode cX8_night 36 = .ok (.ldc 180, 2) := by decide +kernel
theorem dX8_night_38 : decode cX8_night 38 = .ok (.if_icmp .le 6, 3) := by decide +kernel
theorem dX8_night_41 : decode cX8_night 41 = .ok (.ldc 82, 2) := by decide +kernel
theorem dX8_night_43 : decode cX8_night 43 = .ok (.ireturn, 1) := by decide +kernel
theorem dX8_night_44 : decode cX8_night 44 = .ok (.aload_n 0, 1) := by decide +kernel
theorem dX8_night_45 : decode cX8_night 45 = .ok (.invokevirtual 181, 3) := by decide +kernel
theorem dX8_night_48 : decode cX8_night 48 = .ok (.aload_n 0, 1) := by decide +kernel
theorem dX8_night_49 : decode cX8_night 49 = .ok (.iload_n 1, 1) := by decide +kernel
theorem dX8_night_50 : decode cX8_night 50 = .ok (.invokevirtual 184, 3) := by decide +kernel
theorem dX8_night_53 : decode cX8_night 53 = .ok (.aload_n 0, 1) := by decide +kernel
theorem dX8_night_54 : decode cX8_night 54 = .ok (.getfield 16, 3) := by decide +kernel
theorem dX8_night_57 : decode cX8_night 57 = .ok (.bipush 16, 2) := by decide +kernel
theorem dX8_night_59 : decode cX8_night 59 = .ok (.iaload, 1) := by decide +kernel
theorem dX8_night_60 : decode cX8_night 60 = .ok (.ireturn, 1) := by decide +kernel
theorem dX8_meet_0 : decode cX8_meet 0 = .ok (.aload_n 0, 1) := by decide +kernel
theorem dX8_meet_1 : decode cX8_meet 1 = .ok (.iload_n 1, 1) := by decide +kernel
theorem dX8_meet_2 : decode cX8_meet 2 = .ok (.invokevirtual 140, 3) := by decide +kernel
theorem dX8_meet_5 : decode cX8_meet 5 = .ok (.ifCond .ne 6, 3) := by decide +kernel
theorem dX8_meet_8 : decode cX8_meet 8 = .ok (.ldc 143, 2) := by decide +kernel
theorem dX8_meet_10 : decode cX8_meet 10 = .ok (.ireturn, 1) := by decide +kernel
theorem dX8_meet_11 : decode cX8_meet 11 = .ok (.iload_n 2, 1) := by decide +kernel
theorem dX8_meet_12 : decode cX8_meet 12 = .ok (.i2l, 1) := by decide +kernel
theorem dX8_meet_13 : decode cX8_meet 13 = .ok (.lconst 0, 1) := by decide +kernel
theorem dX8_meet_14 : decode cX8_meet 14 = .ok (.ldc2_w 188, 3) := by decide +kernel
theorem dX8_meet_17 : decode cX8_meet 17 = .ok (.invokestatic 74, 3) := by decide +kernel
theorem dX8_meet_20 : decode cX8_meet 20 = .ok (.ifCond .ne 6, 3) := by decide +kernel
theorem dX8_meet_23 : decode cX8_meet 23 = .ok (.ldc 78, 2) := by decide +kernel
theorem dX8_meet_25 : decode cX8_meet 25 = .ok (.ireturn, 1) := by decide +kernel
theorem dX8_meet_26 : decode cX8_meet 26 = .ok (.aload_n 0, 1) := by decide +kernel
theorem dX8_meet_27 : decode cX8_meet 27 = .ok (.invokevirtual 181, 3) := by decide +kernel
theorem dX8_meet_30 : decode cX8_meet 30 = .ok (.aload_n 0, 1) := by decide +kernel
theorem dX8_meet_31 : decode cX8_meet 31 = .ok (.getfield 16, 3) := by decide +kernel
theorem dX8_meet_34 : decode cX8_meet 34 = .ok (.iload_n 1, 1) := by decide +kernel
theorem dX8_meet_35 : decode cX8_meet 35 = .ok (.iconst 2, 1) := by decide +kernel
theorem dX8_meet_36 : decode cX8_meet 36 = .ok (.aload_n 0, 1) := by decide +kernel
theorem dX8_meet_37 : decode cX8_meet 37 = .ok (.getfield 16, 3) := by decide +kernel
theorem dX8_meet_40 : decode cX8_meet 40 = .ok (.iload_n 1, 1) := by decide +kernel
theorem dX8_meet_41 : decode cX8_meet 41 = .ok (.iaload, 1) := by decide +kernel
theorem dX8_meet_42 : decode cX8_meet 42 = .ok (.imul, 1) := by decide +kernel
theorem dX8_meet_43 : decode cX8_meet 43 = .ok (.iload_n 2, 1) := by decide +kernel
theorem dX8_meet_44 : decode cX8_meet 44 = .ok (.iadd, 1) := by decide +kernel
theorem dX8_meet_45 : decode cX8_meet 45 = .ok (.iconst 3, 1) := by decide +kernel
theorem dX8_meet_46 : decode cX8_meet 46 = .ok (.idiv, 1) := by decide +kernel
theorem dX8_meet_47 : decode cX8_meet 47 = .ok (.iastore, 1) := by decide +kernel
theorem dX8_meet_48 : decode cX8_meet 48 = .ok (.aload_n 0, 1) := by decide +kernel
theorem dX8_meet_49 : decode cX8_meet 49 = .ok (.getfield 16, 3) := by decide +kernel
theorem dX8_meet_52 : decode cX8_meet 52 = .ok (.iload_n 1, 1) := by decide +kernel
theorem dX8_meet_53 : decode cX8_meet 53 = .ok (.iaload, 1) := by decide +kernel
theorem dX8_meet_54 : decode cX8_meet 54 = .ok (.ireturn, 1) := by decide +kernel
theorem dX8_make_0 : decode cX8_make 0 = .ok (.aload_n 0, 1) := by decide +kernel
theorem dX8_make_1 : decode cX8_make 1 = .ok (.iload_n 1, 1) := by decide +kernel
theorem dX8_make_2 : decode cX8_make 2 = .ok (.invokevirtual 144, 3) := by decide +kernel
theorem dX8_make_5 : decode cX8_make 5 = .ok (.ifCond .ne 6, 3) := by decide +kernel
theorem dX8_make_8 : decode cX8_make 8 = .ok (.ldc 143, 2) := by decide +kernel
theorem dX8_make_10 : decode cX8_make 10 = .ok (.ireturn, 1) := by decide +kernel
theorem dX8_make_11 : decode cX8_make 11 = .ok (.aload_n 0, 1) := by decide +kernel
theorem dX8_make_12 : decode cX8_make 12 = .ok (.getfield 16, 3) := by decide +kernel
theorem dX8_make_15 : decode cX8_make 15 = .ok (.bipush 13, 2) := by decide +kernel
theorem dX8_make_17 : decode cX8_make 17 = .ok (.iaload, 1) := by decide +kernel
theorem dX8_make_18 : decode cX8_make 18 = .ok (.iload_n 1, 1) := by decide +kernel
theorem dX8_make_19 : decode cX8_make 19 = .ok (.invokestatic 147, 3) := by decide +kernel
theorem dX8_make_22 : decode cX8_make 22 = .ok (.ifCond .eq 6, 3) := by decide +kernel
theorem dX8_make_25 : decode cX8_make 25 = .ok (.ldc 179, 2) := by decide +kernel
theorem dX8_make_27 : decode cX8_make 27 = .ok (.ireturn, 1) := by decide +kernel
theorem dX8_make_28 : decode cX8_make 28 = .ok (.aload_n 0, 1) := by decide +kernel
theorem dX8_make_29 : decode cX8_make 29 = .ok (.invokevirtual 181, 3) := by decide +kernel
theorem dX8_make_32 : decode cX8_make 32 = .ok (.aload_n 0, 1) := by decide +kernel
theorem dX8_make_33 : decode cX8_make 33 = .ok (.getfield 16, 3) := by decide +kernel
theorem dX8_make_36 : decode cX8_make 36 = .ok (.bipush 13, 2) := by decide +kernel
theorem dX8_make_38 : decode cX8_make 38 = .ok (.dup2, 1) := by decide +kernel
theorem dX8_make_39 : decode cX8_make 39 = .ok (.iaload, 1) := by decide +kernel
theorem dX8_make_40 : decode cX8_make 40 = .ok (.iconst 1, 1) := by decide +kernel
theorem dX8_make_41 : decode cX8_make 41 = .ok (.iload_n 1, 1) := by decide +kernel
theorem dX8_make_42 : decode cX8_make 42 = .ok (.ishl, 1) := by decide +kernel
theorem dX8_make_43 : decode cX8_make 43 = .ok (.ior, 1) := by decide +kernel
theorem dX8_make_44 : decode cX8_make 44 = .ok (.iastore, 1) := by decide +kernel
theorem dX8_make_45 : decode cX8_make 45 = .ok (.aload_n 0, 1) := by decide +kernel
theorem dX8_make_46 : decode cX8_make 46 = .ok (.getfield 16, 3) := by decide +kernel
theorem dX8_make_49 : decode cX8_make 49 = .ok (.bipush 15, 2) := by decide +kernel
theorem dX8_make_51 : decode cX8_make 51 = .ok (.dup2, 1) := by decide +kernel
theorem dX8_make_52 : decode cX8_make 52 = .ok (.iaload, 1) := by decide +kernel
theorem dX8_make_53 : decode cX8_make 53 = .ok (.aload_n 0, 1) := by decide +kernel
theorem dX8_make_54 : decode cX8_make 54 = .ok (.getfield 7, 3) := by decide +kernel
theorem dX8_make_57 : decode cX8_make 57 = .ok (.bipush 42, 2) := by decide +kernel
theorem dX8_make_59 : decode cX8_make 59 = .ok (.iload_n 1, 1) := by decide +kernel
theorem dX8_make_60 : decode cX8_make 60 = .ok (.iadd, 1) := by decide +kernel
theorem dX8_make_61 : decode cX8_make 61 = .ok (.iaload, 1) := by decide +kernel
theorem dX8_make_62 : decode cX8_make 62 = .ok (.iadd, 1) := by decide +kernel
theorem dX8_make_63 : decode cX8_make 63 = .ok (.iastore, 1) := by decide +kernel
theorem dX8_make_64 : decode cX8_make 64 = .ok (.aload_n 0, 1) := by decide +kernel
theorem dX8_make_65 : decode cX8_make 65 = .ok (.getfield 16, 3) := by decide +kernel
theorem dX8_make_68 : decode cX8_make 68 = .ok (.bipush 15, 2) := by decide +kernel
theorem dX8_make_70 : decode cX8_make 70 = .ok (.iaload, 1) := by decide +kernel
theorem dX8_make_71 : decode cX8_make 71 = .ok (.ireturn, 1) := by decide +kernel
theorem dX8_draw_0 : decode cX8_draw 0 = .ok (.aload_n 0, 1) := by decide +kernel
theorem dX8_draw_1 : decode cX8_draw 1 = .ok (.aload_n 0, 1) := by decide +kernel
theorem dX8_draw_2 : decode cX8_draw 2 = .ok (.getfield 190, 3) := by decide +kernel
theorem dX8_draw_5 : decode cX8_draw 5 = .ok (.ldc2_w 194, 3) := by decide +kernel
theorem dX8_draw_8 : decode cX8_draw 8 = .ok (.lmul, 1) := by decide +kernel
theorem dX8_draw_9 : decode cX8_draw 9 = .ok (.ldc2_w 196, 3) := by decide +kernel
theorem dX8_draw_12 : decode cX8_draw 12 = .ok (.ladd, 1) := by decide +kernel
theorem dX8_draw_13 : decode cX8_draw 13 = .ok (.ldc2_w 198, 3) := by decide +kernel
theorem dX8_draw_16 : decode cX8_draw 16 = .ok (.lrem, 1) := by decide +kernel
theorem dX8_draw_17 : decode cX8_draw 17 = .ok (.putfield 190, 3) := by decide +kernel
theorem dX8_draw_20 : decode cX8_draw 20 = .ok (.aload_n 0, 1) := by decide +kernel
theorem dX8_draw_21 : decode cX8_draw 21 = .ok (.getfield 190, 3) := by decide +kernel
theorem dX8_draw_24 : decode cX8_draw 24 = .ok (.ldc2_w 200, 3) := by decide +kernel
theorem dX8_draw_27 : decode cX8_draw 27 = .ok (.ldiv, 1) := by decide +kernel
theorem dX8_draw_28 : decode cX8_draw 28 = .ok (.iload_n 1, 1) := by decide +kernel
theorem dX8_draw_29 : decode cX8_draw 29 = .ok (.i2l, 1) := by decide +kernel
theorem dX8_draw_30 : decode cX8_draw 30 = .ok (.lrem, 1) := by decide +kernel
theorem dX8_draw_31 : decode cX8_draw 31 = .ok (.l2i, 1) := by decide +kernel
theorem dX8_draw_32 : decode cX8_draw 32 = .ok (.ireturn, 1) := by decide +kernel
theorem dX8_drift_0 : decode cX8_drift 0 = .ok (.iload_n 1, 1) := by decide +kernel
theorem dX8_drift_1 : decode cX8_drift 1 = .ok (.i2l, 1) := by decide +kernel
theorem dX8_drift_2 : decode cX8_drift 2 = .ok (.lconst 1, 1) := by decide +kernel
theorem dX8_drift_3 : decode cX8_drift 3 = .ok (.ldc2_w 202, 3) := by decide +kernel
theorem dX8_drift_6 : decode cX8_drift 6 = .ok (.invokestatic 74, 3) := by decide +kernel
theorem dX8_drift_9 : decode cX8_drift 9 = .ok (.ifCond .ne 6, 3) := by decide +kernel
theorem dX8_drift_12 : decode cX8_drift 12 = .ok (.ldc 78, 2) := by decide +kernel
theorem dX8_drift_14 : decode cX8_drift 14 = .ok (.ireturn, 1) := by decide +kernel
theorem dX8_drift_15 : decode cX8_drift 15 = .ok (.aload_n 0, 1) := by decide +kernel
theorem dX8_drift_16 : decode cX8_drift 16 = .ok (.getfield 7, 3) := by decide +kernel
theorem dX8_drift_19 : decode cX8_drift 19 = .ok (.iconst 1, 1) := by decide +kernel
theorem dX8_drift_20 : decode cX8_drift 20 = .ok (.iaload, 1) := by decide +kernel
theorem dX8_drift_21 : decode cX8_drift 21 = .ok (.ifCond .ne 6, 3) := by decide +kernel
theorem dX8_drift_24 : decode cX8_drift 24 = .ok (.ldc 179, 2) := by decide +kernel
theorem dX8_drift_26 : decode cX8_drift 26 = .ok (.ireturn, 1) := by decide +kernel
theorem dX8_drift_27 : decode cX8_drift 27 = .ok (.aload_n 0, 1) := by decide +kernel
theorem dX8_drift_28 : decode cX8_drift 28 = .ok (.getfield 16, 3) := by decide +kernel
theorem dX8_drift_31 : decode cX8_drift 31 = .ok (.bipush 14, 2) := by decide +kernel
theorem dX8_drift_33 : decode cX8_drift 33 = .ok (.iaload, 1) := by decide +kernel
theorem dX8_drift_34 : decode cX8_drift 34 = .ok (.ldc 180, 2) := by decide +kernel
theorem dX8_drift_36 : decode cX8_drift 36 = .ok (.if_icmp .le 6, 3) := by decide +kernel
theorem dX8_drift_39 : decode cX8_drift 39 = .ok (.ldc 82, 2) := by decide +kernel
theorem dX8_drift_41 : decode cX8_drift 41 = .ok (.ireturn, 1) := by decide +kernel
theorem dX8_drift_42 : decode cX8_drift 42 = .ok (.aload_n 0, 1) := by decide +kernel
theorem dX8_drift_43 : decode cX8_drift 43 = .ok (.invokevirtual 181, 3) := by decide +kernel
theorem dX8_drift_46 : decode cX8_drift 46 = .ok (.iconst 0, 1) := by decide +kernel
theorem dX8_drift_47 : decode cX8_drift 47 = .ok (.istore_n 2, 1) := by decide +kernel
theorem dX8_drift_48 : decode cX8_drift 48 = .ok (.iload_n 2, 1) := by decide +kernel
theorem dX8_drift_49 : decode cX8_drift 49 = .ok (.iload_n 1, 1) := by decide +kernel
theorem dX8_drift_50 : decode cX8_drift 50 = .ok (.if_icmp .ge 83, 3) := by decide +kernel
theorem dX8_drift_53 : decode cX8_drift 53 = .ok (.iconst 0, 1) := by decide +kernel
theorem dX8_drift_54 : decode cX8_drift 54 = .ok (.istore_n 3, 1) := by decide +kernel
theorem dX8_drift_55 : decode cX8_drift 55 = .ok (.iconst 0, 1) := by decide +kernel
theorem dX8_drift_56 : decode cX8_drift 56 = .ok (.istore 4, 2) := by decide +kernel
theorem dX8_drift_58 : decode cX8_drift 58 = .ok (.iload 4, 2) := by decide +kernel
theorem dX8_drift_60 : decode cX8_drift 60 = .ok (.aload_n 0, 1) := by decide +kernel
theorem dX8_drift_61 : decode cX8_drift 61 = .ok (.getfield 7, 3) := by decide +kernel
theorem dX8_drift_64 : decode cX8_drift 64 = .ok (.iconst 2, 1) := by decide +kernel
theorem dX8_drift_65 : decode cX8_drift 65 = .ok (.iaload, 1) := by decide +kernel
theorem dX8_drift_66 : decode cX8_drift 66 = .ok (.if_icmp .ge 56, 3) := by decide +kernel
theorem dX8_drift_69 : decode cX8_drift 69 = .ok (.aload_n 0, 1) := by decide +kernel
theorem dX8_drift_70 : decode cX8_drift 70 = .ok (.getfield 16, 3) := by decide +kernel
theorem dX8_drift_73 : decode cX8_drift 73 = .ok (.bipush 13, 2) := by decide +kernel
theorem dX8_drift_75 : decode cX8_drift 75 = .ok (.iaload, 1) := by decide +kernel
theorem dX8_drift_76 : decode cX8_drift 76 = .ok (.iload 4, 2) := by decide +kernel
theorem dX8_drift_78 : decode cX8_drift 78 = .ok (.invokestatic 147, 3) := by decide +kernel
theorem dX8_drift_81 : decode cX8_drift 81 = .ok (.ifCond .eq 35, 3) := by decide +kernel
theorem dX8_drift_84 : decode cX8_drift 84 = .ok (.iload_n 3, 1) := by decide +kernel
theorem dX8_drift_85 : decode cX8_drift 85 = .ok (.invokestatic 162, 3) := by decide +kernel
theorem dX8_drift_88 : decode cX8_drift 88 = .ok (.aload_n 0, 1) := by decide +kernel
theorem dX8_drift_89 : decode cX8_drift 89 = .ok (.getfield 7, 3) := by decide +kernel
theorem dX8_drift_92 : decode cX8_drift 92 = .ok (.iconst 0, 1) := by decide +kernel
theorem dX8_drift_93 : decode cX8_drift 93 = .ok (.iaload, 1) := by decide +kernel
theorem dX8_drift_94 : decode cX8_drift 94 = .ok (.if_icmp .ge 22, 3) := by decide +kernel
theorem dX8_drift_97 : decode cX8_drift 97 = .ok (.iload_n 3, 1) := by decide +kernel
theorem dX8_drift_98 : decode cX8_drift 98 = .ok (.aload_n 0, 1) := by decide +kernel
theorem dX8_drift_99 : decode cX8_drift 99 = .ok (.iconst 3, 1) := by decide +kernel
theorem dX8_drift_100 : decode cX8_drift 100 = .ok (.invokevirtual 204, 3) := by decide +kernel
theorem dX8_drift_103 : decode cX8_drift 103 = .ok (.ifCond .ne 10, 3) := by decide +kernel
theorem dX8_drift_106 : decode cX8_drift 106 = .ok (.iconst 1, 1) := by decide +kernel
theorem dX8_drift_107 : decode cX8_drift 107 = .ok (.iload 4, 2) := by decide +kernel
theorem dX8_drift_109 : decode cX8_drift 109 = .ok (.ishl, 1) := by decide +kernel
theorem dX8_drift_110 : decode cX8_drift 110 = .ok (.goto 4, 3) := by decide +kernel
theorem dX8_drift_113 : decode cX8_drift 113 = .ok (.iconst 0, 1) := by decide +kernel
theorem dX8_drift_114 : decode cX8_drift 114 = .ok (.ior, 1) := by decide +kernel
theorem dX8_drift_115 : decode cX8_drift 115 = .ok (.istore_n 3, 1) := by decide +kernel
theorem dX8_drift_116 : decode cX8_drift 116 = .ok (.iinc 4 1, 3) := by decide +kernel
theorem dX8_drift_119 : decode cX8_drift 119 = .ok (.goto (-61), 3) := by decide +kernel
theorem dX8_drift_122 : decode cX8_drift 122 = .ok (.aload_n 0, 1) := by decide +kernel
theorem dX8_drift_123 : decode cX8_drift 123 = .ok (.iload_n 3, 1) := by decide +kernel
theorem dX8_drift_124 : decode cX8_drift 124 = .ok (.invokevirtual 184, 3) := by decide +kernel
theorem dX8_drift_127 : decode cX8_drift 127 = .ok (.iinc 2 1, 3) := by decide +kernel
theorem dX8_drift_130 : decode cX8_drift 130 = .ok (.goto (-82), 3) := by decide +kernel
theorem dX8_drift_133 : decode cX8_drift 133 = .ok (.aload_n 0, 1) := by decide +kernel
theorem dX8_drift_134 : decode cX8_drift 134 = .ok (.getfield 16, 3) := by decide +kernel
theorem dX8_drift_137 : decode cX8_drift 137 = .ok (.bipush 14, 2) := by decide +kernel
theorem dX8_drift_139 : decode cX8_drift 139 = .ok (.iaload, 1) := by decide +kernel
theorem dX8_drift_140 : decode cX8_drift 140 = .ok (.ireturn, 1) := by decide +kernel
theorem dX8_undo_0 : decode cX8_undo 0 = .ok (.aload_n 0, 1) := by decide +kernel
theorem dX8_undo_1 : decode cX8_undo 1 = .ok (.getfield 63, 3) := by decide +kernel
theorem dX8_undo_4 : decode cX8_undo 4 = .ok (.ifCond .ne 6, 3) := by decide +kernel
theorem dX8_undo_7 : decode cX8_undo 7 = .ok (.ldc 179, 2) := by decide +kernel
theorem dX8_undo_9 : decode cX8_undo 9 = .ok (.ireturn, 1) := by decide +kernel
theorem dX8_undo_10 : decode cX8_undo 10 = .ok (.aload_n 0, 1) := by decide +kernel
theorem dX8_undo_11 : decode cX8_undo 11 = .ok (.dup, 1) := by decide +kernel
theorem dX8_undo_12 : decode cX8_undo 12 = .ok (.getfield 63, 3) := by decide +kernel
theorem dX8_undo_15 : decode cX8_undo 15 = .ok (.iconst 1, 1) := by decide +kernel
theorem dX8_undo_16 : decode cX8_undo 16 = .ok (.isub, 1) := by decide +kernel
theorem dX8_undo_17 : decode cX8_undo 17 = .ok (.putfield 63, 3) := by decide +kernel
theorem dX8_undo_20 : decode cX8_undo 20 = .ok (.aload_n 0, 1) := by decide +kernel
theorem dX8_undo_21 : decode cX8_undo 21 = .ok (.getfield 19, 3) := by decide +kernel
theorem dX8_undo_24 : decode cX8_undo 24 = .ok (.bipush 17, 2) := by decide +kernel
theorem dX8_undo_26 : decode cX8_undo 26 = .ok (.aload_n 0, 1) := by decide +kernel
theorem dX8_undo_27 : decode cX8_undo 27 = .ok (.getfield 63, 3) := by decide +kernel
theorem dX8_undo_30 : decode cX8_undo 30 = .ok (.imul, 1) := by decide +kernel
theorem dX8_undo_31 : decode cX8_undo 31 = .ok (.aload_n 0, 1) := by decide +kernel
theorem dX8_undo_32 : decode cX8_undo 32 = .ok (.getfield 16, 3) := by decide +kernel
theorem dX8_undo_35 : decode cX8_undo 35 = .ok (.iconst 0, 1) := by decide +kernel
theorem dX8_undo_36 : decode cX8_undo 36 = .ok (.bipush 17, 2) := by decide +kernel
theorem dX8_undo_38 : decode cX8_undo 38 = .ok (.invokestatic 165, 3) := by decide +kernel
theorem dX8_undo_41 : decode cX8_undo 41 = .ok (.aload_n 0, 1) := by decide +kernel
theorem dX8_undo_42 : decode cX8_undo 42 = .ok (.getfield 63, 3) := by decide +kernel
theorem dX8_undo_45 : decode cX8_undo 45 = .ok (.ireturn, 1) := by decide +kernel
theorem dX8_triesTonight_0 : decode cX8_triesTonight 0 = .ok (.aload_n 0, 1) := by decide +kernel
theorem dX8_triesTonight_1 : decode cX8_triesTonight 1 = .ok (.getfield 16, 3) := by decide +kernel
theorem dX8_triesTonight_4 : decode cX8_triesTonight 4 = .ok (.iconst 0, 1) := by decide +kernel
theorem dX8_triesTonight_5 : decode cX8_triesTonight 5 = .ok (.aload_n 0, 1) := by decide +kernel
theorem dX8_triesTonight_6 : decode cX8_triesTonight 6 = .ok (.getfield 42, 3) := by decide +kernel
theorem dX8_triesTonight_9 : decode cX8_triesTonight 9 = .ok (.iconst 0, 1) := by decide +kernel
theorem dX8_triesTonight_10 : decode cX8_triesTonight 10 = .ok (.bipush 17, 2) := by decide +kernel
theorem dX8_triesTonight_12 : decode cX8_triesTonight 12 = .ok (.invokestatic 165, 3) := by decide +kernel
theorem dX8_triesTonight_15 : decode cX8_triesTonight 15 = .ok (.aload_n 0, 1) := by decide +kernel
theorem dX8_triesTonight_16 : decode cX8_triesTonight 16 = .ok (.aload_n 0, 1) := by decide +kernel
theorem dX8_triesTonight_17 : decode cX8_triesTonight 17 = .ok (.getfield 42, 3) := by decide +kernel
theorem dX8_triesTonight_20 : decode cX8_triesTonight 20 = .ok (.iload_n 1, 1) := by decide +kernel
theorem dX8_triesTonight_21 : decode cX8_triesTonight 21 = .ok (.invokevirtual 169, 3) := by decide +kernel
theorem dX8_triesTonight_24 : decode cX8_triesTonight 24 = .ok (.ireturn, 1) := by decide +kernel
theorem dX8_thinks_0 : decode cX8_thinks 0 = .ok (.aload_n 0, 1) := by decide +kernel
theorem dX8_thinks_1 : decode cX8_thinks 1 = .ok (.iload_n 1, 1) := by decide +kernel
theorem dX8_thinks_2 : decode cX8_thinks 2 = .ok (.invokevirtual 173, 3) := by decide +kernel
theorem dX8_thinks_5 : decode cX8_thinks 5 = .ok (.ifCond .eq 16, 3) := by decide +kernel
theorem dX8_thinks_8 : decode cX8_thinks 8 = .ok (.iload_n 2, 1) := by decide +kernel
theorem dX8_thinks_9 : decode cX8_thinks 9 = .ok (.iconst (-1), 1) := by decide +kernel
theorem dX8_thinks_10 : decode cX8_thinks 10 = .ok (.if_icmp .eq 14, 3) := by decide +kernel
theorem dX8_thinks_13 : decode cX8_thinks 13 = .ok (.aload_n 0, 1) := by decide +kernel
theorem dX8_thinks_14 : decode cX8_thinks 14 = .ok (.iload_n 2, 1) := by decide +kernel
theorem dX8_thinks_15 : decode cX8_thinks 15 = .ok (.invokevirtual 140, 3) := by decide +kernel
theorem dX8_thinks_18 : decode cX8_thinks 18 = .ok (.ifCond .ne 6, 3) := by decide +kernel
theorem dX8_thinks_21 : decode cX8_thinks 21 = .ok (.ldc 143, 2) := by decide +kernel
theorem dX8_thinks_23 : decode cX8_thinks 23 = .ok (.ireturn, 1) := by decide +kernel
theorem dX8_thinks_24 : decode cX8_thinks 24 = .ok (.aload_n 0, 1) := by decide +kernel
theorem dX8_thinks_25 : decode cX8_thinks 25 = .ok (.iload_n 1, 1) := by decide +kernel
theorem dX8_thinks_26 : decode cX8_thinks 26 = .ok (.aload_n 0, 1) := by decide +kernel
theorem dX8_thinks_27 : decode cX8_thinks 27 = .ok (.getfield 16, 3) := by decide +kernel
theorem dX8_thinks_30 : decode cX8_thinks 30 = .ok (.bipush 13, 2) := by decide +kernel
theorem dX8_thinks_32 : decode cX8_thinks 32 = .ok (.iaload, 1) := by decide +kernel
theorem dX8_thinks_33 : decode cX8_thinks 33 = .ok (.invokevirtual 176, 3) := by decide +kernel
theorem dX8_thinks_36 : decode cX8_thinks 36 = .ok (.ifCond .ne 6, 3) := by decide +kernel
theorem dX8_thinks_39 : decode cX8_thinks 39 = .ok (.ldc 179, 2) := by decide +kernel
theorem dX8_thinks_41 : decode cX8_thinks 41 = .ok (.ireturn, 1) := by decide +kernel
theorem dX8_thinks_42 : decode cX8_thinks 42 = .ok (.aload_n 0, 1) := by decide +kernel
theorem dX8_thinks_43 : decode cX8_thinks 43 = .ok (.iload_n 1, 1) := by decide +kernel
theorem dX8_thinks_44 : decode cX8_thinks 44 = .ok (.invokevirtual 207, 3) := by decide +kernel
theorem dX8_thinks_47 : decode cX8_thinks 47 = .ok (.istore_n 3, 1) := by decide +kernel
theorem dX8_thinks_48 : decode cX8_thinks 48 = .ok (.iload_n 2, 1) := by decide +kernel
theorem dX8_thinks_49 : decode cX8_thinks 49 = .ok (.iconst (-1), 1) := by decide +kernel
theorem dX8_thinks_50 : decode cX8_thinks 50 = .ok (.if_icmp .ne 7, 3) := by decide +kernel
theorem dX8_thinks_53 : decode cX8_thinks 53 = .ok (.iload_n 3, 1) := by decide +kernel
theorem dX8_thinks_54 : decode cX8_thinks 54 = .ok (.goto 9, 3) := by decide +kernel
theorem dX8_thinks_57 : decode cX8_thinks 57 = .ok (.aload_n 0, 1) := by decide +kernel
theorem dX8_thinks_58 : decode cX8_thinks 58 = .ok (.getfield 42, 3) := by decide +kernel
theorem dX8_thinks_61 : decode cX8_thinks 61 = .ok (.iload_n 2, 1) := by decide +kernel
theorem dX8_thinks_62 : decode cX8_thinks 62 = .ok (.iaload, 1) := by decide +kernel
theorem dX8_thinks_63 : decode cX8_thinks 63 = .ok (.ireturn, 1) := by decide +kernel
theorem dX8_isWanted_0 : decode cX8_isWanted 0 = .ok (.aload_n 0, 1) := by decide +kernel
theorem dX8_isWanted_1 : decode cX8_isWanted 1 = .ok (.aload_n 1, 1) := by decide +kernel
theorem dX8_isWanted_2 : decode cX8_isWanted 2 = .ok (.invokevirtual 136, 3) := by decide +kernel
theorem dX8_isWanted_5 : decode cX8_isWanted 5 = .ok (.istore 4, 2) := by decide +kernel
theorem dX8_isWanted_7 : decode cX8_isWanted 7 = .ok (.iload_n 2, 1) := by decide +kernel
theorem dX8_isWanted_8 : decode cX8_isWanted 8 = .ok (.iload 4, 2) := by decide +kernel
theorem dX8_isWanted_10 : decode cX8_isWanted 10 = .ok (.iconst (-1), 1) := by decide +kernel
theorem dX8_isWanted_11 : decode cX8_isWanted 11 = .ok (.ixor, 1) := by decide +kernel
theorem dX8_isWanted_12 : decode cX8_isWanted 12 = .ok (.iand, 1) := by decide +kernel
theorem dX8_isWanted_13 : decode cX8_isWanted 13 = .ok (.ifCond .ne 14, 3) := by decide +kernel
theorem dX8_isWanted_16 : decode cX8_isWanted 16 = .ok (.iload_n 3, 1) := by decide +kernel
theorem dX8_isWanted_17 : decode cX8_isWanted 17 = .ok (.iload 4, 2) := by decide +kernel
theorem dX8_isWanted_19 : decode cX8_isWanted 19 = .ok (.iand, 1) := by decide +kernel
theorem dX8_isWanted_20 : decode cX8_isWanted 20 = .ok (.ifCond .ne 7, 3) := by decide +kernel
theorem dX8_isWanted_23 : decode cX8_isWanted 23 = .ok (.iconst 1, 1) := by decide +kernel
theorem dX8_isWanted_24 : decode cX8_isWanted 24 = .ok (.goto 4, 3) := by decide +kernel
theorem dX8_isWanted_27 : decode cX8_isWanted 27 = .ok (.iconst 0, 1) := by decide +kernel
theorem dX8_isWanted_28 : decode cX8_isWanted 28 = .ok (.ireturn, 1) := by decide +kernel
theorem dX8_layNights_0 : decode cX8_layNights 0 = .ok (.aload_n 0, 1) := by decide +kernel
theorem dX8_layNights_1 : decode cX8_layNights 1 = .ok (.aload_n 0, 1) := by decide +kernel
theorem dX8_layNights_2 : decode cX8_layNights 2 = .ok (.getfield 16, 3) := by decide +kernel
theorem dX8_layNights_5 : decode cX8_layNights 5 = .ok (.iload_n 1, 1) := by decide +kernel
theorem dX8_layNights_6 : decode cX8_layNights 6 = .ok (.iload_n 2, 1) := by decide +kernel
theorem dX8_layNights_7 : decode cX8_layNights 7 = .ok (.invokevirtual 210, 3) := by decide +kernel
theorem dX8_layNights_10 : decode cX8_layNights 10 = .ok (.ifCond .eq 5, 3) := by decide +kernel
theorem dX8_layNights_13 : decode cX8_layNights 13 = .ok (.iconst 0, 1) := by decide +kernel
theorem dX8_layNights_14 : decode cX8_layNights 14 = .ok (.ireturn, 1) := by decide +kernel
theorem dX8_layNights_15 : decode cX8_layNights 15 = .ok (.iconst 1, 1) := by decide +kernel
theorem dX8_layNights_16 : decode cX8_layNights 16 = .ok (.aload_n 0, 1) := by decide +kernel
theorem dX8_layNights_17 : decode cX8_layNights 17 = .ok (.getfield 7, 3) := by decide +kernel
theorem dX8_layNights_20 : decode cX8_layNights 20 = .ok (.iconst 2, 1) := by decide +kernel
theorem dX8_layNights_21 : decode cX8_layNights 21 = .ok (.iaload, 1) := by decide +kernel
theorem dX8_layNights_22 : decode cX8_layNights 22 = .ok (.ishl, 1) := by decide +kernel
theorem dX8_layNights_23 : decode cX8_layNights 23 = .ok (.istore_n 3, 1) := by decide +kernel
theorem dX8_layNights_24 : decode cX8_layNights 24 = .ok (.iconst 0, 1) := by decide +kernel
theorem dX8_layNights_25 : decode cX8_layNights 25 = .ok (.istore 4, 2) := by decide +kernel
theorem dX8_layNights_27 : decode cX8_layNights 27 = .ok (.iload 4, 2) := by decide +kernel
theorem dX8_layNights_29 : decode cX8_layNights 29 = .ok (.iload_n 3, 1) := by decide +kernel
theorem dX8_layNights_30 : decode cX8_layNights 30 = .ok (.if_icmp .ge 54, 3) := by decide +kernel
theorem dX8_layNights_33 : decode cX8_layNights 33 = .ok (.aload_n 0, 1) := by decide +kernel
theorem dX8_layNights_34 : decode cX8_layNights 34 = .ok (.iload 4, 2) := by decide +kernel
theorem dX8_layNights_36 : decode cX8_layNights 36 = .ok (.aload_n 0, 1) := by decide +kernel
theorem dX8_layNights_37 : decode cX8_layNights 37 = .ok (.getfield 16, 3) := by decide +kernel
theorem dX8_layNights_40 : decode cX8_layNights 40 = .ok (.bipush 13, 2) := by decide +kernel
theorem dX8_layNights_42 : decode cX8_layNights 42 = .ok (.iaload, 1) := by decide +kernel
theorem dX8_layNights_43 : decode cX8_layNights 43 = .ok (.invokevirtual 176, 3) := by decide +kernel
theorem dX8_layNights_46 : decode cX8_layNights 46 = .ok (.ifCond .eq 32, 3) := by decide +kernel
theorem dX8_layNights_49 : decode cX8_layNights 49 = .ok (.aload_n 0, 1) := by decide +kernel
theorem dX8_layNights_50 : decode cX8_layNights 50 = .ok (.iload 4, 2) := by decide +kernel
theorem dX8_layNights_52 : decode cX8_layNights 52 = .ok (.invokevirtual 207, 3) := by decide +kernel
theorem dX8_layNights_55 : decode cX8_layNights 55 = .ok (.istore 5, 2) := by decide +kernel
theorem dX8_layNights_57 : decode cX8_layNights 57 = .ok (.aload_n 0, 1) := by decide +kernel
theorem dX8_layNights_58 : decode cX8_layNights 58 = .ok (.aload_n 0, 1) := by decide +kernel
theorem dX8_layNights_59 : decode cX8_layNights 59 = .ok (.getfield 42, 3) := by decide +kernel
theorem dX8_layNights_62 : decode cX8_layNights 62 = .ok (.iload_n 1, 1) := by decide +kernel
theorem dX8_layNights_63 : decode cX8_layNights 63 = .ok (.iload_n 2, 1) := by decide +kernel
theorem dX8_layNights_64 : decode cX8_layNights 64 = .ok (.invokevirtual 210, 3) := by decide +kernel
theorem dX8_layNights_67 : decode cX8_layNights 67 = .ok (.ifCond .eq 11, 3) := by decide +kernel
theorem dX8_layNights_70 : decode cX8_layNights 70 = .ok (.aload_n 0, 1) := by decide +kernel
theorem dX8_layNights_71 : decode cX8_layNights 71 = .ok (.iload 4, 2) := by decide +kernel
theorem dX8_layNights_73 : decode cX8_layNights 73 = .ok (.putfield 213, 3) := by decide +kernel
theorem dX8_layNights_76 : decode cX8_layNights 76 = .ok (.iconst 1, 1) := by decide +kernel
theorem dX8_layNights_77 : decode cX8_layNights 77 = .ok (.ireturn, 1) := by decide +kernel
theorem dX8_layNights_78 : decode cX8_layNights 78 = .ok (.iinc 4 1, 3) := by decide +kernel
theorem dX8_layNights_81 : decode cX8_layNights 81 = .ok (.goto (-54), 3) := by decide +kernel
theorem dX8_layNights_84 : decode cX8_layNights 84 = .ok (.iconst 0, 1) := by decide +kernel
theorem dX8_layNights_85 : decode cX8_layNights 85 = .ok (.istore 4, 2) := by decide +kernel
theorem dX8_layNights_87 : decode cX8_layNights 87 = .ok (.iload 4, 2) := by decide +kernel
theorem dX8_layNights_89 : decode cX8_layNights 89 = .ok (.iload_n 3, 1) := by decide +kernel
theorem dX8_layNights_90 : decode cX8_layNights 90 = .ok (.if_icmp .ge 118, 3) := by decide +kernel
theorem dX8_layNights_93 : decode cX8_layNights 93 = .ok (.aload_n 0, 1) := by decide +kernel
theorem dX8_layNights_94 : decode cX8_layNights 94 = .ok (.iload 4, 2) := by decide +kernel
theorem dX8_layNights_96 : decode cX8_layNights 96 = .ok (.aload_n 0, 1) := by decide +kernel
theorem dX8_layNights_97 : decode cX8_layNights 97 = .ok (.getfield 16, 3) := by decide +kernel
theorem dX8_layNights_100 : decode cX8_layNights 100 = .ok (.bipush 13, 2) := by decide +kernel
theorem dX8_layNights_102 : decode cX8_layNights 102 = .ok (.iaload, 1) := by decide +kernel
theorem dX8_layNights_103 : decode cX8_layNights 103 = .ok (.invokevirtual 176, 3) := by decide +kernel
theorem dX8_layNights_106 : decode cX8_layNights 106 = .ok (.ifCond .eq 96, 3) := by decide +kernel
theorem dX8_layNights_109 : decode cX8_layNights 109 = .ok (.aload_n 0, 1) := by decide +kernel
theorem dX8_layNights_110 : decode cX8_layNights 110 = .ok (.iload 4, 2) := by decide +kernel
theorem dX8_layNights_112 : decode cX8_layNights 112 = .ok (.invokevirtual 207, 3) := by decide +kernel
theorem dX8_layNights_115 : decode cX8_layNights 115 = .ok (.istore 5, 2) := by decide +kernel
theorem dX8_layNights_117 : decode cX8_layNights 117 = .ok (.iconst 0, 1) := by decide +kernel
theorem dX8_layNights_118 : decode cX8_layNights 118 = .ok (.istore 6, 2) := by decide +kernel
theorem dX8_layNights_120 : decode cX8_layNights 120 = .ok (.iload 6, 2) := by decide +kernel
theorem dX8_layNights_122 : decode cX8_layNights 122 = .ok (.iload_n 3, 1) := by decide +kernel
theorem dX8_layNights_123 : decode cX8_layNights 123 = .ok (.if_icmp .ge 79, 3) := by decide +kernel
theorem dX8_layNights_126 : decode cX8_layNights 126 = .ok (.aload_n 0, 1) := by decide +kernel
theorem dX8_layNights_127 : decode cX8_layNights 127 = .ok (.iload 6, 2) := by decide +kernel
theorem dX8_layNights_129 : decode cX8_layNights 129 = .ok (.aload_n 0, 1) := by decide +kernel
theorem dX8_layNights_130 : decode cX8_layNights 130 = .ok (.getfield 16, 3) := by decide +kernel
theorem dX8_layNights_133 : decode cX8_layNights 133 = .ok (.bipush 13, 2) := by decide +kernel
theorem dX8_layNights_135 : decode cX8_layNights 135 = .ok (.iaload, 1) := by decide +kernel
theorem dX8_layNights_136 : decode cX8_layNights 136 = .ok (.invokevirtual 176, 3) := by decide +kernel
theorem dX8_layNights_139 : decode cX8_layNights 139 = .ok (.ifCond .eq 57, 3) := by decide +kernel
theorem dX8_layNights_142 : decode cX8_layNights 142 = .ok (.aload_n 0, 1) := by decide +kernel
theorem dX8_layNights_143 : decode cX8_layNights 143 = .ok (.getfield 42, 3) := by decide +kernel
theorem dX8_layNights_146 : decode cX8_layNights 146 = .ok (.iconst 0, 1) := by decide +kernel
theorem dX8_layNights_147 : decode cX8_layNights 147 = .ok (.aload_n 0, 1) := by decide +kernel
theorem dX8_layNights_148 : decode cX8_layNights 148 = .ok (.getfield 45, 3) := by decide +kernel
theorem dX8_layNights_151 : decode cX8_layNights 151 = .ok (.iconst 0, 1) := by decide +kernel
theorem dX8_layNights_152 : decode cX8_layNights 152 = .ok (.bipush 17, 2) := by decide +kernel
theorem dX8_layNights_154 : decode cX8_layNights 154 = .ok (.invokestatic 165, 3) := by decide +kernel
theorem dX8_layNights_157 : decode cX8_layNights 157 = .ok (.aload_n 0, 1) := by decide +kernel
theorem dX8_layNights_158 : decode cX8_layNights 158 = .ok (.aload_n 0, 1) := by decide +kernel
theorem dX8_layNights_159 : decode cX8_layNights 159 = .ok (.getfield 45, 3) := by decide +kernel
theorem dX8_layNights_162 : decode cX8_layNights 162 = .ok (.iload 6, 2) := by decide +kernel
theorem dX8_layNights_164 : decode cX8_layNights 164 = .ok (.invokevirtual 169, 3) := by decide +kernel
theorem dX8_layNights_167 : decode cX8_layNights 167 = .ok (.istore 7, 2) := by decide +kernel
theorem dX8_layNights_169 : decode cX8_layNights 169 = .ok (.aload_n 0, 1) := by decide +kernel
theorem dX8_layNights_170 : decode cX8_layNights 170 = .ok (.aload_n 0, 1) := by decide +kernel
theorem dX8_layNights_171 : decode cX8_layNights 171 = .ok (.getfield 45, 3) := by decide +kernel
theorem dX8_layNights_174 : decode cX8_layNights 174 = .ok (.iload_n 1, 1) := by decide +kernel
theorem dX8_layNights_175 : decode cX8_layNights 175 = .ok (.iload_n 2, 1) := by decide +kernel
theorem dX8_layNights_176 : decode cX8_layNights 176 = .ok (.invokevirtual 210, 3) := by decide +kernel
theorem dX8_layNights_179 : decode cX8_layNights 179 = .ok (.ifCond .eq 17, 3) := by decide +kernel
theorem dX8_layNights_182 : decode cX8_layNights 182 = .ok (.aload_n 0, 1) := by decide +kernel
theorem dX8_layNights_183 : decode cX8_layNights 183 = .ok (.iload 4, 2) := by decide +kernel
theorem dX8_layNights_185 : decode cX8_layNights 185 = .ok (.putfield 213, 3) := by decide +kernel
theorem dX8_layNights_188 : decode cX8_layNights 188 = .ok (.aload_n 0, 1) := by decide +kernel
theorem dX8_layNights_189 : decode cX8_layNights 189 = .ok (.iload 6, 2) := by decide +kernel
theorem dX8_layNights_191 : decode cX8_layNights 191 = .ok (.putfield 216, 3) := by decide +kernel
theorem dX8_layNights_194 : decode cX8_layNights 194 = .ok (.iconst 2, 1) := by decide +kernel
theorem dX8_layNights_195 : decode cX8_layNights 195 = .ok (.ireturn, 1) := by decide +kernel
theorem dX8_layNights_196 : decode cX8_layNights 196 = .ok (.iinc 6 1, 3) := by decide +kernel
theorem dX8_layNights_199 : decode cX8_layNights 199 = .ok (.goto (-79), 3) := by decide +kernel
theorem dX8_layNights_202 : decode cX8_layNights 202 = .ok (.iinc 4 1, 3) := by decide +kernel
theorem dX8_layNights_205 : decode cX8_layNights 205 = .ok (.goto (-118), 3) := by decide +kernel
theorem dX8_layNights_208 : decode cX8_layNights 208 = .ok (.ldc 219, 2) := by decide +kernel
theorem dX8_layNights_210 : decode cX8_layNights 210 = .ok (.ireturn, 1) := by decide +kernel
theorem dX8_soonest_0 : decode cX8_soonest 0 = .ok (.aload_n 0, 1) := by decide +kernel
theorem dX8_soonest_1 : decode cX8_soonest 1 = .ok (.iload_n 1, 1) := by decide +kernel
theorem dX8_soonest_2 : decode cX8_soonest 2 = .ok (.invokevirtual 220, 3) := by decide +kernel
theorem dX8_soonest_5 : decode cX8_soonest 5 = .ok (.ifCond .eq 11, 3) := by decide +kernel
theorem dX8_soonest_8 : decode cX8_soonest 8 = .ok (.aload_n 0, 1) := by decide +kernel
theorem dX8_soonest_9 : decode cX8_soonest 9 = .ok (.iload_n 2, 1) := by decide +kernel
theorem dX8_soonest_10 : decode cX8_soonest 10 = .ok (.invokevirtual 220, 3) := by decide +kernel
theorem dX8_soonest_13 : decode cX8_soonest 13 = .ok (.ifCond .ne 6, 3) := by decide +kernel
theorem dX8_soonest_16 : decode cX8_soonest 16 = .ok (.ldc 143, 2) := by decide +kernel
theorem dX8_soonest_18 : decode cX8_soonest 18 = .ok (.ireturn, 1) := by decide +kernel
theorem dX8_soonest_19 : decode cX8_soonest 19 = .ok (.aload_n 0, 1) := by decide +kernel
theorem dX8_soonest_20 : decode cX8_soonest 20 = .ok (.iload_n 1, 1) := by decide +kernel
theorem dX8_soonest_21 : decode cX8_soonest 21 = .ok (.iload_n 2, 1) := by decide +kernel
theorem dX8_soonest_22 : decode cX8_soonest 22 = .ok (.invokevirtual 223, 3) := by decide +kernel
theorem dX8_soonest_25 : decode cX8_soonest 25 = .ok (.istore 4, 2) := by decide +kernel
theorem dX8_soonest_27 : decode cX8_soonest 27 = .ok (.iload 4, 2) := by decide +kernel
theorem dX8_soonest_29 : decode cX8_soonest 29 = .ok (.ldc 219, 2) := by decide +kernel
theorem dX8_soonest_31 : decode cX8_soonest 31 = .ok (.if_icmp .ne 5, 3) := by decide +kernel
theorem dX8_soonest_34 : decode cX8_soonest 34 = .ok (.iconst (-1), 1) := by decide +kernel
theorem dX8_soonest_35 : decode cX8_soonest 35 = .ok (.ireturn, 1) := by decide +kernel
theorem dX8_soonest_36 : decode cX8_soonest 36 = .ok (.iload_n 3, 1) := by decide +kernel
theorem dX8_soonest_37 : decode cX8_soonest 37 = .ok (.iconst (-1), 1) := by decide +kernel
theorem dX8_soonest_38 : decode cX8_soonest 38 = .ok (.if_icmp .ne 8, 3) := by decide +kernel
theorem dX8_soonest_41 : decode cX8_soonest 41 = .ok (.iload 4, 2) := by decide +kernel
theorem dX8_soonest_43 : decode cX8_soonest 43 = .ok (.goto 36, 3) := by decide +kernel
theorem dX8_soonest_46 : decode cX8_soonest 46 = .ok (.iload_n 3, 1) := by decide +kernel
theorem dX8_soonest_47 : decode cX8_soonest 47 = .ok (.i2l, 1) := by decide +kernel
theorem dX8_soonest_48 : decode cX8_soonest 48 = .ok (.lconst 0, 1) := by decide +kernel
theorem dX8_soonest_49 : decode cX8_soonest 49 = .ok (.iload 4, 2) := by decide +kernel
theorem dX8_soonest_51 : decode cX8_soonest 51 = .ok (.iconst 1, 1) := by decide +kernel
theorem dX8_soonest_52 : decode cX8_soonest 52 = .ok (.isub, 1) := by decide +kernel
theorem dX8_soonest_53 : decode cX8_soonest 53 = .ok (.i2l, 1) := by decide +kernel
theorem dX8_soonest_54 : decode cX8_soonest 54 = .ok (.invokestatic 74, 3) := by decide +kernel
theorem dX8_soonest_57 : decode cX8_soonest 57 = .ok (.ifCond .ne 7, 3) := by decide +kernel
theorem dX8_soonest_60 : decode cX8_soonest 60 = .ok (.iconst (-1), 1) := by decide +kernel
theorem dX8_soonest_61 : decode cX8_soonest 61 = .ok (.goto 18, 3) := by decide +kernel
theorem dX8_soonest_64 : decode cX8_soonest 64 = .ok (.iload_n 3, 1) := by decide +kernel
theorem dX8_soonest_65 : decode cX8_soonest 65 = .ok (.ifCond .ne 10, 3) := by decide +kernel
theorem dX8_soonest_68 : decode cX8_soonest 68 = .ok (.aload_n 0, 1) := by decide +kernel
theorem dX8_soonest_69 : decode cX8_soonest 69 = .ok (.getfield 213, 3) := by decide +kernel
theorem dX8_soonest_72 : decode cX8_soonest 72 = .ok (.goto 7, 3) := by decide +kernel
theorem dX8_soonest_75 : decode cX8_soonest 75 = .ok (.aload_n 0, 1) := by decide +kernel
theorem dX8_soonest_76 : decode cX8_soonest 76 = .ok (.getfield 216, 3) := by decide +kernel
theorem dX8_soonest_79 : decode cX8_soonest 79 = .ok (.ireturn, 1) := by decide +kernel
theorem dX8_cannot_0 : decode cX8_cannot 0 = .ok (.aload_n 0, 1) := by decide +kernel
theorem dX8_cannot_1 : decode cX8_cannot 1 = .ok (.aload_n 0, 1) := by decide +kernel
theorem dX8_cannot_2 : decode cX8_cannot 2 = .ok (.getfield 16, 3) := by decide +kernel
theorem dX8_cannot_5 : decode cX8_cannot 5 = .ok (.invokevirtual 136, 3) := by decide +kernel
theorem dX8_cannot_8 : decode cX8_cannot 8 = .ok (.istore_n 1, 1) := by decide +kernel
theorem dX8_cannot_9 : decode cX8_cannot 9 = .ok (.iconst 1, 1) := by decide +kernel
theorem dX8_cannot_10 : decode cX8_cannot 10 = .ok (.aload_n 0, 1) := by decide +kernel
theorem dX8_cannot_11 : decode cX8_cannot 11 = .ok (.getfield 7, 3) := by decide +kernel
theorem dX8_cannot_14 : decode cX8_cannot 14 = .ok (.iconst 2, 1) := by decide +kernel
theorem dX8_cannot_15 : decode cX8_cannot 15 = .ok (.iaload, 1) := by decide +kernel
theorem dX8_cannot_16 : decode cX8_cannot 16 = .ok (.ishl, 1) := by decide +kernel
theorem dX8_cannot_17 : decode cX8_cannot 17 = .ok (.istore_n 2, 1) := by decide +kernel
theorem dX8_cannot_18 : decode cX8_cannot 18 = .ok (.iconst 0, 1) := by decide +kernel
theorem dX8_cannot_19 : decode cX8_cannot 19 = .ok (.istore_n 3, 1) := by decide +kernel
theorem dX8_cannot_20 : decode cX8_cannot 20 = .ok (.iload_n 3, 1) := by decide +kernel
theorem dX8_cannot_21 : decode cX8_cannot 21 = .ok (.iload_n 2, 1) := by decide +kernel
theorem dX8_cannot_22 : decode cX8_cannot 22 = .ok (.if_icmp .ge 111, 3) := by decide +kernel
theorem dX8_cannot_25 : decode cX8_cannot 25 = .ok (.aload_n 0, 1) := by decide +kernel
theorem dX8_cannot_26 : decode cX8_cannot 26 = .ok (.iload_n 3, 1) := by decide +kernel
theorem dX8_cannot_27 : decode cX8_cannot 27 = .ok (.aload_n 0, 1) := by decide +kernel
theorem dX8_cannot_28 : decode cX8_cannot 28 = .ok (.getfield 16, 3) := by decide +kernel
theorem dX8_cannot_31 : decode cX8_cannot 31 = .ok (.bipush 13, 2) := by decide +kernel
theorem dX8_cannot_33 : decode cX8_cannot 33 = .ok (.iaload, 1) := by decide +kernel
theorem dX8_cannot_34 : decode cX8_cannot 34 = .ok (.invokevirtual 176, 3) := by decide +kernel
theorem dX8_cannot_37 : decode cX8_cannot 37 = .ok (.ifCond .eq 90, 3) := by decide +kernel
theorem dX8_cannot_40 : decode cX8_cannot 40 = .ok (.aload_n 0, 1) := by decide +kernel
theorem dX8_cannot_41 : decode cX8_cannot 41 = .ok (.iload_n 3, 1) := by decide +kernel
theorem dX8_cannot_42 : decode cX8_cannot 42 = .ok (.invokevirtual 207, 3) := by decide +kernel
theorem dX8_cannot_45 : decode cX8_cannot 45 = .ok (.istore 4, 2) := by decide +kernel
theorem dX8_cannot_47 : decode cX8_cannot 47 = .ok (.iload_n 1, 1) := by decide +kernel
theorem dX8_cannot_48 : decode cX8_cannot 48 = .ok (.aload_n 0, 1) := by decide +kernel
theorem dX8_cannot_49 : decode cX8_cannot 49 = .ok (.aload_n 0, 1) := by decide +kernel
theorem dX8_cannot_50 : decode cX8_cannot 50 = .ok (.getfield 42, 3) := by decide +kernel
theorem dX8_cannot_53 : decode cX8_cannot 53 = .ok (.invokevirtual 136, 3) := by decide +kernel
theorem dX8_cannot_56 : decode cX8_cannot 56 = .ok (.ior, 1) := by decide +kernel
theorem dX8_cannot_57 : decode cX8_cannot 57 = .ok (.istore_n 1, 1) := by decide +kernel
theorem dX8_cannot_58 : decode cX8_cannot 58 = .ok (.iconst 0, 1) := by decide +kernel
theorem dX8_cannot_59 : decode cX8_cannot 59 = .ok (.istore 5, 2) := by decide +kernel
theorem dX8_cannot_61 : decode cX8_cannot 61 = .ok (.iload 5, 2) := by decide +kernel
theorem dX8_cannot_63 : decode cX8_cannot 63 = .ok (.iload_n 2, 1) := by decide +kernel
theorem dX8_cannot_64 : decode cX8_cannot 64 = .ok (.if_icmp .ge 63, 3) := by decide +kernel
theorem dX8_cannot_67 : decode cX8_cannot 67 = .ok (.aload_n 0, 1) := by decide +kernel
theorem dX8_cannot_68 : decode cX8_cannot 68 = .ok (.iload 5, 2) := by decide +kernel
theorem dX8_cannot_70 : decode cX8_cannot 70 = .ok (.aload_n 0, 1) := by decide +kernel
theorem dX8_cannot_71 : decode cX8_cannot 71 = .ok (.getfield 16, 3) := by decide +kernel
theorem dX8_cannot_74 : decode cX8_cannot 74 = .ok (.bipush 13, 2) := by decide +kernel
theorem dX8_cannot_76 : decode cX8_cannot 76 = .ok (.iaload, 1) := by decide +kernel
theorem dX8_cannot_77 : decode cX8_cannot 77 = .ok (.invokevirtual 176, 3) := by decide +kernel
theorem dX8_cannot_80 : decode cX8_cannot 80 = .ok (.ifCond .eq 41, 3) := by decide +kernel
theorem dX8_cannot_83 : decode cX8_cannot 83 = .ok (.aload_n 0, 1) := by decide +kernel
theorem dX8_cannot_84 : decode cX8_cannot 84 = .ok (.getfield 42, 3) := by decide +kernel
theorem dX8_cannot_87 : decode cX8_cannot 87 = .ok (.iconst 0, 1) := by decide +kernel
theorem dX8_cannot_88 : decode cX8_cannot 88 = .ok (.aload_n 0, 1) := by decide +kernel
theorem dX8_cannot_89 : decode cX8_cannot 89 = .ok (.getfield 45, 3) := by decide +kernel
theorem dX8_cannot_92 : decode cX8_cannot 92 = .ok (.iconst 0, 1) := by decide +kernel
theorem dX8_cannot_93 : decode cX8_cannot 93 = .ok (.bipush 17, 2) := by decide +kernel
theorem dX8_cannot_95 : decode cX8_cannot 95 = .ok (.invokestatic 165, 3) := by decide +kernel
theorem dX8_cannot_98 : decode cX8_cannot 98 = .ok (.aload_n 0, 1) := by decide +kernel
theorem dX8_cannot_99 : decode cX8_cannot 99 = .ok (.aload_n 0, 1) := by decide +kernel
theorem dX8_cannot_100 : decode cX8_cannot 100 = .ok (.getfield 45, 3) := by decide +kernel
theorem dX8_cannot_103 : decode cX8_cannot 103 = .ok (.iload 5, 2) := by decide +kernel
theorem dX8_cannot_105 : decode cX8_cannot 105 = .ok (.invokevirtual 169, 3) := by decide +kernel
theorem dX8_cannot_108 : decode cX8_cannot 108 = .ok (.istore 6, 2) := by decide +kernel
theorem dX8_cannot_110 : decode cX8_cannot 110 = .ok (.iload_n 1, 1) := by decide +kernel
theorem dX8_cannot_111 : decode cX8_cannot 111 = .ok (.aload_n 0, 1) := by decide +kernel
theorem dX8_cannot_112 : decode cX8_cannot 112 = .ok (.aload_n 0, 1) := by decide +kernel
theorem dX8_cannot_113 : decode cX8_cannot 113 = .ok (.getfield 45, 3) := by decide +kernel
theorem dX8_cannot_116 : decode cX8_cannot 116 = .ok (.invokevirtual 136, 3) := by decide +kernel
theorem dX8_cannot_119 : decode cX8_cannot 119 = .ok (.ior, 1) := by decide +kernel
theorem dX8_cannot_120 : decode cX8_cannot 120 = .ok (.istore_n 1, 1) := by decide +kernel
theorem dX8_cannot_121 : decode cX8_cannot 121 = .ok (.iinc 5 1, 3) := by decide +kernel
theorem dX8_cannot_124 : decode cX8_cannot 124 = .ok (.goto (-63), 3) := by decide +kernel
theorem dX8_cannot_127 : decode cX8_cannot 127 = .ok (.iinc 3 1, 3) := by decide +kernel
theorem dX8_cannot_130 : decode cX8_cannot 130 = .ok (.goto (-110), 3) := by decide +kernel
theorem dX8_cannot_133 : decode cX8_cannot 133 = .ok (.iconst 1, 1) := by decide +kernel
theorem dX8_cannot_134 : decode cX8_cannot 134 = .ok (.aload_n 0, 1) := by decide +kernel
theorem dX8_cannot_135 : decode cX8_cannot 135 = .ok (.getfield 7, 3) := by decide +kernel
theorem dX8_cannot_138 : decode cX8_cannot 138 = .ok (.iconst 1, 1) := by decide +kernel
theorem dX8_cannot_139 : decode cX8_cannot 139 = .ok (.iaload, 1) := by decide +kernel
theorem dX8_cannot_140 : decode cX8_cannot 140 = .ok (.ishl, 1) := by decide +kernel
theorem dX8_cannot_141 : decode cX8_cannot 141 = .ok (.iconst 1, 1) := by decide +kernel
theorem dX8_cannot_142 : decode cX8_cannot 142 = .ok (.isub, 1) := by decide +kernel
theorem dX8_cannot_143 : decode cX8_cannot 143 = .ok (.iload_n 1, 1) := by decide +kernel
theorem dX8_cannot_144 : decode cX8_cannot 144 = .ok (.iconst (-1), 1) := by decide +kernel
theorem dX8_cannot_145 : decode cX8_cannot 145 = .ok (.ixor, 1) := by decide +kernel
theorem dX8_cannot_146 : decode cX8_cannot 146 = .ok (.iand, 1) := by decide +kernel
theorem dX8_cannot_147 : decode cX8_cannot 147 = .ok (.ireturn, 1) := by decide +kernel
theorem dX8_costOf_0 : decode cX8_costOf 0 = .ok (.iconst 0, 1) := by decide +kernel
theorem dX8_costOf_1 : decode cX8_costOf 1 = .ok (.istore_n 2, 1) := by decide +kernel
theorem dX8_costOf_2 : decode cX8_costOf 2 = .ok (.iconst 0, 1) := by decide +kernel
theorem dX8_costOf_3 : decode cX8_costOf 3 = .ok (.istore_n 3, 1) := by decide +kernel
theorem dX8_costOf_4 : decode cX8_costOf 4 = .ok (.iload_n 3, 1) := by decide +kernel
theorem dX8_costOf_5 : decode cX8_costOf 5 = .ok (.aload_n 0, 1) := by decide +kernel
theorem dX8_costOf_6 : decode cX8_costOf 6 = .ok (.getfield 7, 3) := by decide +kernel
theorem dX8_costOf_9 : decode cX8_costOf 9 = .ok (.iconst 2, 1) := by decide +kernel
theorem dX8_costOf_10 : decode cX8_costOf 10 = .ok (.iaload, 1) := by decide +kernel
theorem dX8_costOf_11 : decode cX8_costOf 11 = .ok (.if_icmp .ge 33, 3) := by decide +kernel
theorem dX8_costOf_14 : decode cX8_costOf 14 = .ok (.iload_n 2, 1) := by decide +kernel
theorem dX8_costOf_15 : decode cX8_costOf 15 = .ok (.iload_n 1, 1) := by decide +kernel
theorem dX8_costOf_16 : decode cX8_costOf 16 = .ok (.iload_n 3, 1) := by decide +kernel
theorem dX8_costOf_17 : decode cX8_costOf 17 = .ok (.invokestatic 147, 3) := by decide +kernel
theorem dX8_costOf_20 : decode cX8_costOf 20 = .ok (.ifCond .eq 15, 3) := by decide +kernel
theorem dX8_costOf_23 : decode cX8_costOf 23 = .ok (.aload_n 0, 1) := by decide +kernel
theorem dX8_costOf_24 : decode cX8_costOf 24 = .ok (.getfield 7, 3) := by decide +kernel
theorem dX8_costOf_27 : decode cX8_costOf 27 = .ok (.bipush 42, 2) := by decide +kernel
theorem dX8_costOf_29 : decode cX8_costOf 29 = .ok (.iload_n 3, 1) := by decide +kernel
theorem dX8_costOf_30 : decode cX8_costOf 30 = .ok (.iadd, 1) := by decide +kernel
theorem dX8_costOf_31 : decode cX8_costOf 31 = .ok (.iaload, 1) := by decide +kernel
theorem dX8_costOf_32 : decode cX8_costOf 32 = .ok (.goto 4, 3) := by decide +kernel
theorem dX8_costOf_35 : decode cX8_costOf 35 = .ok (.iconst 0, 1) := by decide +kernel
theorem dX8_costOf_36 : decode cX8_costOf 36 = .ok (.iadd, 1) := by decide +kernel
theorem dX8_costOf_37 : decode cX8_costOf 37 = .ok (.istore_n 2, 1) := by decide +kernel
theorem dX8_costOf_38 : decode cX8_costOf 38 = .ok (.iinc 3 1, 3) := by decide +kernel
theorem dX8_costOf_41 : decode cX8_costOf 41 = .ok (.goto (-37), 3) := by decide +kernel
theorem dX8_costOf_44 : decode cX8_costOf 44 = .ok (.iload_n 2, 1) := by decide +kernel
theorem dX8_costOf_45 : decode cX8_costOf 45 = .ok (.ireturn, 1) := by decide +kernel
theorem dX8_convinces_0 : decode cX8_convinces 0 = .ok (.iconst 0, 1) := by decide +kernel
theorem dX8_convinces_1 : decode cX8_convinces 1 = .ok (.istore_n 3, 1) := by decide +kernel
theorem dX8_convinces_2 : decode cX8_convinces 2 = .ok (.iload_n 3, 1) := by decide +kernel
theorem dX8_convinces_3 : decode cX8_convinces 3 = .ok (.iconst 1, 1) := by decide +kernel
theorem dX8_convinces_4 : decode cX8_convinces 4 = .ok (.aload_n 0, 1) := by decide +kernel
theorem dX8_convinces_5 : decode cX8_convinces 5 = .ok (.getfield 7, 3) := by decide +kernel
theorem dX8_convinces_8 : decode cX8_convinces 8 = .ok (.iconst 2, 1) := by decide +kernel
theorem dX8_convinces_9 : decode cX8_convinces 9 = .ok (.iaload, 1) := by decide +kernel
theorem dX8_convinces_10 : decode cX8_convinces 10 = .ok (.ishl, 1) := by decide +kernel
theorem dX8_convinces_11 : decode cX8_convinces 11 = .ok (.if_icmp .ge 42, 3) := by decide +kernel
theorem dX8_convinces_14 : decode cX8_convinces 14 = .ok (.aload_n 0, 1) := by decide +kernel
theorem dX8_convinces_15 : decode cX8_convinces 15 = .ok (.iload_n 3, 1) := by decide +kernel
theorem dX8_convinces_16 : decode cX8_convinces 16 = .ok (.iload_n 2, 1) := by decide +kernel
theorem dX8_convinces_17 : decode cX8_convinces 17 = .ok (.invokevirtual 176, 3) := by decide +kernel
theorem dX8_convinces_20 : decode cX8_convinces 20 = .ok (.ifCond .eq 27, 3) := by decide +kernel
theorem dX8_convinces_23 : decode cX8_convinces 23 = .ok (.aload_n 0, 1) := by decide +kernel
theorem dX8_convinces_24 : decode cX8_convinces 24 = .ok (.iload_n 3, 1) := by decide +kernel
theorem dX8_convinces_25 : decode cX8_convinces 25 = .ok (.invokevirtual 207, 3) := by decide +kernel
theorem dX8_convinces_28 : decode cX8_convinces 28 = .ok (.istore 4, 2) := by decide +kernel
theorem dX8_convinces_30 : decode cX8_convinces 30 = .ok (.aload_n 0, 1) := by decide +kernel
theorem dX8_convinces_31 : decode cX8_convinces 31 = .ok (.getfield 42, 3) := by decide +kernel
theorem dX8_convinces_34 : decode cX8_convinces 34 = .ok (.iload_n 1, 1) := by decide +kernel
theorem dX8_convinces_35 : decode cX8_convinces 35 = .ok (.iaload, 1) := by decide +kernel
theorem dX8_convinces_36 : decode cX8_convinces 36 = .ok (.aload_n 0, 1) := by decide +kernel
theorem dX8_convinces_37 : decode cX8_convinces 37 = .ok (.getfield 7, 3) := by decide +kernel
theorem dX8_convinces_40 : decode cX8_convinces 40 = .ok (.iconst 3, 1) := by decide +kernel
theorem dX8_convinces_41 : decode cX8_convinces 41 = .ok (.iaload, 1) := by decide +kernel
theorem dX8_convinces_42 : decode cX8_convinces 42 = .ok (.if_icmp .lt 5, 3) := by decide +kernel
theorem dX8_convinces_45 : decode cX8_convinces 45 = .ok (.iconst 1, 1) := by decide +kernel
theorem dX8_convinces_46 : decode cX8_convinces 46 = .ok (.ireturn, 1) := by decide +kernel
theorem dX8_convinces_47 : decode cX8_convinces 47 = .ok (.iinc 3 1, 3) := by decide +kernel
theorem dX8_convinces_50 : decode cX8_convinces 50 = .ok (.goto (-48), 3) := by decide +kernel
theorem dX8_convinces_53 : decode cX8_convinces 53 = .ok (.iconst 0, 1) := by decide +kernel
theorem dX8_convinces_54 : decode cX8_convinces 54 = .ok (.ireturn, 1) := by decide +kernel
theorem dX8_least_0 : decode cX8_least 0 = .ok (.aload_n 0, 1) := by decide +kernel
theorem dX8_least_1 : decode cX8_least 1 = .ok (.iload_n 1, 1) := by decide +kernel
theorem dX8_least_2 : decode cX8_least 2 = .ok (.invokevirtual 140, 3) := by decide +kernel
theorem dX8_least_5 : decode cX8_least 5 = .ok (.ifCond .ne 6, 3) := by decide +kernel
theorem dX8_least_8 : decode cX8_least 8 = .ok (.ldc 143, 2) := by decide +kernel
theorem dX8_least_10 : decode cX8_least 10 = .ok (.ireturn, 1) := by decide +kernel
theorem dX8_least_11 : decode cX8_least 11 = .ok (.iload_n 2, 1) := by decide +kernel
theorem dX8_least_12 : decode cX8_least 12 = .ok (.i2l, 1) := by decide +kernel
theorem dX8_least_13 : decode cX8_least 13 = .ok (.lconst 0, 1) := by decide +kernel
theorem dX8_least_14 : decode cX8_least 14 = .ok (.lconst 1, 1) := by decide +kernel
theorem dX8_least_15 : decode cX8_least 15 = .ok (.invokestatic 74, 3) := by decide +kernel
theorem dX8_least_18 : decode cX8_least 18 = .ok (.ifCond .ne 6, 3) := by decide +kernel
theorem dX8_least_21 : decode cX8_least 21 = .ok (.ldc 78, 2) := by decide +kernel
theorem dX8_least_23 : decode cX8_least 23 = .ok (.ireturn, 1) := by decide +kernel
theorem dX8_least_24 : decode cX8_least 24 = .ok (.iconst (-1), 1) := by decide +kernel
theorem dX8_least_25 : decode cX8_least 25 = .ok (.istore_n 3, 1) := by decide +kernel
theorem dX8_least_26 : decode cX8_least 26 = .ok (.iconst 0, 1) := by decide +kernel
theorem dX8_least_27 : decode cX8_least 27 = .ok (.istore 4, 2) := by decide +kernel
theorem dX8_least_29 : decode cX8_least 29 = .ok (.iload 4, 2) := by decide +kernel
theorem dX8_least_31 : decode cX8_least 31 = .ok (.iconst 1, 1) := by decide +kernel
theorem dX8_least_32 : decode cX8_least 32 = .ok (.aload_n 0, 1) := by decide +kernel
theorem dX8_least_33 : decode cX8_least 33 = .ok (.getfield 7, 3) := by decide +kernel
theorem dX8_least_36 : decode cX8_least 36 = .ok (.iconst 2, 1) := by decide +kernel
theorem dX8_least_37 : decode cX8_least 37 = .ok (.iaload, 1) := by decide +kernel
theorem dX8_least_38 : decode cX8_least 38 = .ok (.ishl, 1) := by decide +kernel
theorem dX8_least_39 : decode cX8_least 39 = .ok (.if_icmp .ge 78, 3) := by decide +kernel
theorem dX8_least_42 : decode cX8_least 42 = .ok (.iload 4, 2) := by decide +kernel
theorem dX8_least_44 : decode cX8_least 44 = .ok (.aload_n 0, 1) := by decide +kernel
theorem dX8_least_45 : decode cX8_least 45 = .ok (.getfield 16, 3) := by decide +kernel
theorem dX8_least_48 : decode cX8_least 48 = .ok (.bipush 13, 2) := by decide +kernel
theorem dX8_least_50 : decode cX8_least 50 = .ok (.iaload, 1) := by decide +kernel
theorem dX8_least_51 : decode cX8_least 51 = .ok (.iand, 1) := by decide +kernel
theorem dX8_least_52 : decode cX8_least 52 = .ok (.ifCond .ne 26, 3) := by decide +kernel
theorem dX8_least_55 : decode cX8_least 55 = .ok (.iload_n 3, 1) := by decide +kernel
theorem dX8_least_56 : decode cX8_least 56 = .ok (.iconst (-1), 1) := by decide +kernel
theorem dX8_least_57 : decode cX8_least 57 = .ok (.if_icmp .eq 17, 3) := by decide +kernel
theorem dX8_least_60 : decode cX8_least 60 = .ok (.aload_n 0, 1) := by decide +kernel
theorem dX8_least_61 : decode cX8_least 61 = .ok (.iload 4, 2) := by decide +kernel
theorem dX8_least_63 : decode cX8_least 63 = .ok (.invokevirtual 227, 3) := by decide +kernel
theorem dX8_least_66 : decode cX8_least 66 = .ok (.aload_n 0, 1) := by decide +kernel
theorem dX8_least_67 : decode cX8_least 67 = .ok (.iload_n 3, 1) := by decide +kernel
theorem dX8_least_68 : decode cX8_least 68 = .ok (.invokevirtual 227, 3) := by decide +kernel
theorem dX8_least_71 : decode cX8_least 71 = .ok (.if_icmp .ge 7, 3) := by decide +kernel
theorem dX8_least_74 : decode cX8_least 74 = .ok (.iconst 1, 1) := by decide +kernel
theorem dX8_least_75 : decode cX8_least 75 = .ok (.goto 4, 3) := by decide +kernel
theorem dX8_least_78 : decode cX8_least 78 = .ok (.iconst 0, 1) := by decide +kernel
theorem dX8_least_79 : decode cX8_least 79 = .ok (.istore 5, 2) := by decide +kernel
theorem dX8_least_81 : decode cX8_least 81 = .ok (.iload 5, 2) := by decide +kernel
theorem dX8_least_83 : decode cX8_least 83 = .ok (.ifCond .eq 26, 3) := by decide +kernel
theorem dX8_least_86 : decode cX8_least 86 = .ok (.aload_n 0, 1) := by decide +kernel
theorem dX8_least_87 : decode cX8_least 87 = .ok (.iload_n 1, 1) := by decide +kernel
theorem dX8_least_88 : decode cX8_least 88 = .ok (.aload_n 0, 1) := by decide +kernel
theorem dX8_least_89 : decode cX8_least 89 = .ok (.getfield 16, 3) := by decide +kernel
theorem dX8_least_92 : decode cX8_least 92 = .ok (.bipush 13, 2) := by decide +kernel
theorem dX8_least_94 : decode cX8_least 94 = .ok (.iaload, 1) := by decide +kernel
theorem dX8_least_95 : decode cX8_least 95 = .ok (.iload 4, 2) := by decide +kernel
theorem dX8_least_97 : decode cX8_least 97 = .ok (.ior, 1) := by decide +kernel
theorem dX8_least_98 : decode cX8_least 98 = .ok (.invokevirtual 230, 3) := by decide +kernel
theorem dX8_least_101 : decode cX8_least 101 = .ok (.ifCond .eq 8, 3) := by decide +kernel
theorem dX8_least_104 : decode cX8_least 104 = .ok (.iload 4, 2) := by decide +kernel
theorem dX8_least_106 : decode cX8_least 106 = .ok (.goto 4, 3) := by decide +kernel
theorem dX8_least_109 : decode cX8_least 109 = .ok (.iload_n 3, 1) := by decide +kernel
theorem dX8_least_110 : decode cX8_least 110 = .ok (.istore_n 3, 1) := by decide +kernel
theorem dX8_least_111 : decode cX8_least 111 = .ok (.iinc 4 1, 3) := by decide +kernel
theorem dX8_least_114 : decode cX8_least 114 = .ok (.goto (-85), 3) := by decide +kernel
theorem dX8_least_117 : decode cX8_least 117 = .ok (.iload_n 3, 1) := by decide +kernel
theorem dX8_least_118 : decode cX8_least 118 = .ok (.iconst (-1), 1) := by decide +kernel
theorem dX8_least_119 : decode cX8_least 119 = .ok (.if_icmp .eq 8, 3) := by decide +kernel
theorem dX8_least_122 : decode cX8_least 122 = .ok (.iload_n 2, 1) := by decide +kernel
theorem dX8_least_123 : decode cX8_least 123 = .ok (.iconst 1, 1) := by decide +kernel
theorem dX8_least_124 : decode cX8_least 124 = .ok (.if_icmp .ne 7, 3) := by decide +kernel
theorem dX8_least_127 : decode cX8_least 127 = .ok (.iload_n 3, 1) := by decide +kernel
theorem dX8_least_128 : decode cX8_least 128 = .ok (.goto 8, 3) := by decide +kernel
theorem dX8_least_131 : decode cX8_least 131 = .ok (.aload_n 0, 1) := by decide +kernel
theorem dX8_least_132 : decode cX8_least 132 = .ok (.iload_n 3, 1) := by decide +kernel
theorem dX8_least_133 : decode cX8_least 133 = .ok (.invokevirtual 227, 3) := by decide +kernel
theorem dX8_least_136 : decode cX8_least 136 = .ok (.ireturn, 1) := by decide +kernel
theorem dX8_beginsStep_0 : decode cX8_beginsStep 0 = .ok (.aload_n 0, 1) := by decide +kernel
theorem dX8_beginsStep_1 : decode cX8_beginsStep 1 = .ok (.getfield 54, 3) := by decide +kernel
theorem dX8_beginsStep_4 : decode cX8_beginsStep 4 = .ok (.iload_n 1, 1) := by decide +kernel
theorem dX8_beginsStep_5 : decode cX8_beginsStep 5 = .ok (.iconst (-1), 1) := by decide +kernel
theorem dX8_beginsStep_6 : decode cX8_beginsStep 6 = .ok (.iastore, 1) := by decide +kernel
theorem dX8_beginsStep_7 : decode cX8_beginsStep 7 = .ok (.aload_n 0, 1) := by decide +kernel
theorem dX8_beginsStep_8 : decode cX8_beginsStep 8 = .ok (.getfield 57, 3) := by decide +kernel
theorem dX8_beginsStep_11 : decode cX8_beginsStep 11 = .ok (.iload_n 1, 1) := by decide +kernel
theorem dX8_beginsStep_12 : decode cX8_beginsStep 12 = .ok (.iconst (-1), 1) := by decide +kernel
theorem dX8_beginsStep_13 : decode cX8_beginsStep 13 = .ok (.iastore, 1) := by decide +kernel
theorem dX8_beginsStep_14 : decode cX8_beginsStep 14 = .ok (.return_, 1) := by decide +kernel
theorem dX8_weighs_0 : decode cX8_weighs 0 = .ok (.aload_n 0, 1) := by decide +kernel
theorem dX8_weighs_1 : decode cX8_weighs 1 = .ok (.getfield 57, 3) := by decide +kernel
theorem dX8_weighs_4 : decode cX8_weighs 4 = .ok (.iload_n 1, 1) := by decide +kernel
theorem dX8_weighs_5 : decode cX8_weighs 5 = .ok (.iaload, 1) := by decide +kernel
theorem dX8_weighs_6 : decode cX8_weighs 6 = .ok (.iconst (-1), 1) := by decide +kernel
theorem dX8_weighs_7 : decode cX8_weighs 7 = .ok (.if_icmp .eq 32, 3) := by decide +kernel
theorem dX8_weighs_10 : decode cX8_weighs 10 = .ok (.iload_n 1, 1) := by decide +kernel
theorem dX8_weighs_11 : decode cX8_weighs 11 = .ok (.iconst 2, 1) := by decide +kernel
theorem dX8_weighs_12 : decode cX8_weighs 12 = .ok (.irem, 1) := by decide +kernel
theorem dX8_weighs_13 : decode cX8_weighs 13 = .ok (.ifCond .ne 16, 3) := by decide +kernel
theorem dX8_weighs_16 : decode cX8_weighs 16 = .ok (.iload_n 2, 1) := by decide +kernel
theorem dX8_weighs_17 : decode cX8_weighs 17 = .ok (.aload_n 0, 1) := by decide +kernel
theorem dX8_weighs_18 : decode cX8_weighs 18 = .ok (.getfield 57, 3) := by decide +kernel
theorem dX8_weighs_21 : decode cX8_weighs 21 = .ok (.iload_n 1, 1) := by decide +kernel
theorem dX8_weighs_22 : decode cX8_weighs 22 = .ok (.iaload, 1) := by decide +kernel
theorem dX8_weighs_23 : decode cX8_weighs 23 = .ok (.if_icmp .le 20, 3) := by decide +kernel
theorem dX8_weighs_26 : decode cX8_weighs 26 = .ok (.goto 13, 3) := by decide +kernel
theorem dX8_weighs_29 : decode cX8_weighs 29 = .ok (.iload_n 2, 1) := by decide +kernel
theorem dX8_weighs_30 : decode cX8_weighs 30 = .ok (.aload_n 0, 1) := by decide +kernel
theorem dX8_weighs_31 : decode cX8_weighs 31 = .ok (.getfield 57, 3) := by decide +kernel
theorem dX8_weighs_34 : decode cX8_weighs 34 = .ok (.iload_n 1, 1) := by decide +kernel
theorem dX8_weighs_35 : decode cX8_weighs 35 = .ok (.iaload, 1) := by decide +kernel
theorem dX8_weighs_36 : decode cX8_weighs 36 = .ok (.if_icmp .ge 7, 3) := by decide +kernel
theorem dX8_weighs_39 : decode cX8_weighs 39 = .ok (.iconst 1, 1) := by decide +kernel
theorem dX8_weighs_40 : decode cX8_weighs 40 = .ok (.goto 4, 3) := by decide +kernel
theorem dX8_weighs_43 : decode cX8_weighs 43 = .ok (.iconst 0, 1) := by decide +kernel
theorem dX8_weighs_44 : decode cX8_weighs 44 = .ok (.istore_n 3, 1) := by decide +kernel
theorem dX8_weighs_45 : decode cX8_weighs 45 = .ok (.aload_n 0, 1) := by decide +kernel
theorem dX8_weighs_46 : decode cX8_weighs 46 = .ok (.getfield 57, 3) := by decide +kernel
theorem dX8_weighs_49 : decode cX8_weighs 49 = .ok (.iload_n 1, 1) := by decide +kernel
theorem dX8_weighs_50 : decode cX8_weighs 50 = .ok (.iload_n 3, 1) := by decide +kernel
theorem dX8_weighs_51 : decode cX8_weighs 51 = .ok (.ifCond .eq 7, 3) := by decide +kernel
theorem dX8_weighs_54 : decode cX8_weighs 54 = .ok (.iload_n 2, 1) := by decide +kernel
theorem dX8_weighs_55 : decode cX8_weighs 55 = .ok (.goto 9, 3) := by decide +kernel
theorem dX8_weighs_58 : decode cX8_weighs 58 = .ok (.aload_n 0, 1) := by decide +kernel
theorem dX8_weighs_59 : decode cX8_weighs 59 = .ok (.getfield 57, 3) := by decide +kernel
theorem dX8_weighs_62 : decode cX8_weighs 62 = .ok (.iload_n 1, 1) := by decide +kernel
theorem dX8_weighs_63 : decode cX8_weighs 63 = .ok (.iaload, 1) := by decide +kernel
theorem dX8_weighs_64 : decode cX8_weighs 64 = .ok (.iastore, 1) := by decide +kernel
theorem dX8_weighs_65 : decode cX8_weighs 65 = .ok (.return_, 1) := by decide +kernel
theorem dX8_goes_0 : decode cX8_goes 0 = .ok (.aload_n 0, 1) := by decide +kernel
theorem dX8_goes_1 : decode cX8_goes 1 = .ok (.getfield 54, 3) := by decide +kernel
theorem dX8_goes_4 : decode cX8_goes 4 = .ok (.iload_n 1, 1) := by decide +kernel
theorem dX8_goes_5 : decode cX8_goes 5 = .ok (.iaload, 1) := by decide +kernel
theorem dX8_goes_6 : decode cX8_goes 6 = .ok (.istore_n 2, 1) := by decide +kernel
theorem dX8_goes_7 : decode cX8_goes 7 = .ok (.aload_n 0, 1) := by decide +kernel
theorem dX8_goes_8 : decode cX8_goes 8 = .ok (.getfield 16, 3) := by decide +kernel
theorem dX8_goes_11 : decode cX8_goes 11 = .ok (.bipush 13, 2) := by decide +kernel
theorem dX8_goes_13 : decode cX8_goes 13 = .ok (.iaload, 1) := by decide +kernel
theorem dX8_goes_14 : decode cX8_goes 14 = .ok (.aload_n 0, 1) := by decide +kernel
theorem dX8_goes_15 : decode cX8_goes 15 = .ok (.getfield 51, 3) := by decide +kernel
theorem dX8_goes_18 : decode cX8_goes 18 = .ok (.iload_n 1, 1) := by decide +kernel
theorem dX8_goes_19 : decode cX8_goes 19 = .ok (.iaload, 1) := by decide +kernel
theorem dX8_goes_20 : decode cX8_goes 20 = .ok (.iconst (-1), 1) := by decide +kernel
theorem dX8_goes_21 : decode cX8_goes 21 = .ok (.ixor, 1) := by decide +kernel
theorem dX8_goes_22 : decode cX8_goes 22 = .ok (.iand, 1) := by decide +kernel
theorem dX8_goes_23 : decode cX8_goes 23 = .ok (.istore_n 3, 1) := by decide +kernel
theorem dX8_goes_24 : decode cX8_goes 24 = .ok (.iload_n 2, 1) := by decide +kernel
theorem dX8_goes_25 : decode cX8_goes 25 = .ok (.aload_n 0, 1) := by decide +kernel
theorem dX8_goes_26 : decode cX8_goes 26 = .ok (.getfield 7, 3) := by decide +kernel
theorem dX8_goes_29 : decode cX8_goes 29 = .ok (.iconst 2, 1) := by decide +kernel
theorem dX8_goes_30 : decode cX8_goes 30 = .ok (.iaload, 1) := by decide +kernel
theorem dX8_goes_31 : decode cX8_goes 31 = .ok (.if_icmp .ne 10, 3) := by decide +kernel
theorem dX8_goes_34 : decode cX8_goes 34 = .ok (.iload_n 3, 1) := by decide +kernel
theorem dX8_goes_35 : decode cX8_goes 35 = .ok (.ifCond .eq 16, 3) := by decide +kernel
theorem dX8_goes_38 : decode cX8_goes 38 = .ok (.goto 11, 3) := by decide +kernel
theorem dX8_goes_41 : decode cX8_goes 41 = .ok (.iload_n 3, 1) := by decide +kernel
theorem dX8_goes_42 : decode cX8_goes 42 = .ok (.iload_n 2, 1) := by decide +kernel
theorem dX8_goes_43 : decode cX8_goes 43 = .ok (.invokestatic 147, 3) := by decide +kernel
theorem dX8_goes_46 : decode cX8_goes 46 = .ok (.ifCond .ne 5, 3) := by decide +kernel
theorem dX8_goes_49 : decode cX8_goes 49 = .ok (.iconst 0, 1) := by decide +kernel
theorem dX8_goes_50 : decode cX8_goes 50 = .ok (.ireturn, 1) := by decide +kernel
theorem dX8_goes_51 : decode cX8_goes 51 = .ok (.aload_n 0, 1) := by decide +kernel
theorem dX8_goes_52 : decode cX8_goes 52 = .ok (.getfield 48, 3) := by decide +kernel
theorem dX8_goes_55 : decode cX8_goes 55 = .ok (.bipush 17, 2) := by decide +kernel
theorem dX8_goes_57 : decode cX8_goes 57 = .ok (.iload_n 1, 1) := by decide +kernel
theorem dX8_goes_58 : decode cX8_goes 58 = .ok (.imul, 1) := by decide +kernel
theorem dX8_goes_59 : decode cX8_goes 59 = .ok (.aload_n 0, 1) := by decide +kernel
theorem dX8_goes_60 : decode cX8_goes 60 = .ok (.getfield 42, 3) := by decide +kernel
theorem dX8_goes_63 : decode cX8_goes 63 = .ok (.iconst 0, 1) := by decide +kernel
theorem dX8_goes_64 : decode cX8_goes 64 = .ok (.bipush 17, 2) := by decide +kernel
theorem dX8_goes_66 : decode cX8_goes 66 = .ok (.invokestatic 165, 3) := by decide +kernel
theorem dX8_goes_69 : decode cX8_goes 69 = .ok (.iload_n 2, 1) := by decide +kernel
theorem dX8_goes_70 : decode cX8_goes 70 = .ok (.aload_n 0, 1) := by decide +kernel
theorem dX8_goes_71 : decode cX8_goes 71 = .ok (.getfield 7, 3) := by decide +kernel
theorem dX8_goes_74 : decode cX8_goes 74 = .ok (.iconst 2, 1) := by decide +kernel
theorem dX8_goes_75 : decode cX8_goes 75 = .ok (.iaload, 1) := by decide +kernel
theorem dX8_goes_76 : decode cX8_goes 76 = .ok (.if_icmp .ge 19, 3) := by decide +kernel
theorem dX8_goes_79 : decode cX8_goes 79 = .ok (.aload_n 0, 1) := by decide +kernel
theorem dX8_goes_80 : decode cX8_goes 80 = .ok (.aload_n 0, 1) := by decide +kernel
theorem dX8_goes_81 : decode cX8_goes 81 = .ok (.getfield 42, 3) := by decide +kernel
theorem dX8_goes_84 : decode cX8_goes 84 = .ok (.iload_n 2, 1) := by decide +kernel
theorem dX8_goes_85 : decode cX8_goes 85 = .ok (.aload_n 0, 1) := by decide +kernel
theorem dX8_goes_86 : decode cX8_goes 86 = .ok (.iload_n 2, 1) := by decide +kernel
theorem dX8_goes_87 : decode cX8_goes 87 = .ok (.invokevirtual 155, 3) := by decide +kernel
theorem dX8_goes_90 : decode cX8_goes 90 = .ok (.invokevirtual 158, 3) := by decide +kernel
theorem dX8_goes_93 : decode cX8_goes 93 = .ok (.istore 4, 2) := by decide +kernel
theorem dX8_goes_95 : decode cX8_goes 95 = .ok (.aload_n 0, 1) := by decide +kernel
theorem dX8_goes_96 : decode cX8_goes 96 = .ok (.getfield 42, 3) := by decide +kernel
theorem dX8_goes_99 : decode cX8_goes 99 = .ok (.iconst 0, 1) := by decide +kernel
theorem dX8_goes_100 : decode cX8_goes 100 = .ok (.aload_n 0, 1) := by decide +kernel
theorem dX8_goes_101 : decode cX8_goes 101 = .ok (.getfield 48, 3) := by decide +kernel
theorem dX8_goes_104 : decode cX8_goes 104 = .ok (.bipush 17, 2) := by decide +kernel
theorem dX8_goes_106 : decode cX8_goes 106 = .ok (.iload_n 1, 1) := by decide +kernel
theorem dX8_goes_107 : decode cX8_goes 107 = .ok (.iconst 1, 1) := by decide +kernel
theorem dX8_goes_108 : decode cX8_goes 108 = .ok (.iadd, 1) := by decide +kernel
theorem dX8_goes_109 : decode cX8_goes 109 = .ok (.imul, 1) := by decide +kernel
theorem dX8_goes_110 : decode cX8_goes 110 = .ok (.bipush 17, 2) := by decide +kernel
theorem dX8_goes_112 : decode cX8_goes 112 = .ok (.invokestatic 165, 3) := by decide +kernel
theorem dX8_goes_115 : decode cX8_goes 115 = .ok (.aload_n 0, 1) := by decide +kernel
theorem dX8_goes_116 : decode cX8_goes 116 = .ok (.getfield 51, 3) := by decide +kernel
theorem dX8_goes_119 : decode cX8_goes 119 = .ok (.iload_n 1, 1) := by decide +kernel
theorem dX8_goes_120 : decode cX8_goes 120 = .ok (.iconst 1, 1) := by decide +kernel
theorem dX8_goes_121 : decode cX8_goes 121 = .ok (.iadd, 1) := by decide +kernel
theorem dX8_goes_122 : decode cX8_goes 122 = .ok (.aload_n 0, 1) := by decide +kernel
theorem dX8_goes_123 : decode cX8_goes 123 = .ok (.getfield 51, 3) := by decide +kernel
theorem dX8_goes_126 : decode cX8_goes 126 = .ok (.iload_n 1, 1) := by decide +kernel
theorem dX8_goes_127 : decode cX8_goes 127 = .ok (.iaload, 1) := by decide +kernel
theorem dX8_goes_128 : decode cX8_goes 128 = .ok (.iload_n 2, 1) := by decide +kernel
theorem dX8_goes_129 : decode cX8_goes 129 = .ok (.aload_n 0, 1) := by decide +kernel
theorem dX8_goes_130 : decode cX8_goes 130 = .ok (.getfield 7, 3) := by decide +kernel
theorem dX8_goes_133 : decode cX8_goes 133 = .ok (.iconst 2, 1) := by decide +kernel
theorem dX8_goes_134 : decode cX8_goes 134 = .ok (.iaload, 1) := by decide +kernel
theorem dX8_goes_135 : decode cX8_goes 135 = .ok (.if_icmp .ge 9, 3) := by decide +kernel
theorem dX8_goes_138 : decode cX8_goes 138 = .ok (.iconst 1, 1) := by decide +kernel
theorem dX8_goes_139 : decode cX8_goes 139 = .ok (.iload_n 2, 1) := by decide +kernel
theorem dX8_goes_140 : decode cX8_goes 140 = .ok (.ishl, 1) := by decide +kernel
theorem dX8_goes_141 : decode cX8_goes 141 = .ok (.goto 4, 3) := by decide +kernel
theorem dX8_goes_144 : decode cX8_goes 144 = .ok (.iconst 0, 1) := by decide +kernel
theorem dX8_goes_145 : decode cX8_goes 145 = .ok (.ior, 1) := by decide +kernel
theorem dX8_goes_146 : decode cX8_goes 146 = .ok (.iastore, 1) := by decide +kernel
theorem dX8_goes_147 : decode cX8_goes 147 = .ok (.iconst 1, 1) := by decide +kernel
theorem dX8_goes_148 : decode cX8_goes 148 = .ok (.ireturn, 1) := by decide +kernel
theorem dX8_rivals_0 : decode cX8_rivals 0 = .ok (.aload_n 0, 1) := by decide +kernel
theorem dX8_rivals_1 : decode cX8_rivals 1 = .ok (.iload_n 1, 1) := by decide +kernel
theorem dX8_rivals_2 : decode cX8_rivals 2 = .ok (.invokevirtual 140, 3) := by decide +kernel
theorem dX8_rivals_5 : decode cX8_rivals 5 = .ok (.ifCond .ne 6, 3) := by decide +kernel
theorem dX8_rivals_8 : decode cX8_rivals 8 = .ok (.ldc 143, 2) := by decide +kernel
theorem dX8_rivals_10 : decode cX8_rivals 10 = .ok (.ireturn, 1) := by decide +kernel
theorem dX8_rivals_11 : decode cX8_rivals 11 = .ok (.iload_n 2, 1) := by decide +kernel
theorem dX8_rivals_12 : decode cX8_rivals 12 = .ok (.i2l, 1) := by decide +kernel
theorem dX8_rivals_13 : decode cX8_rivals 13 = .ok (.lconst 1, 1) := by decide +kernel
theorem dX8_rivals_14 : decode cX8_rivals 14 = .ok (.ldc2_w 233, 3) := by decide +kernel
theorem dX8_rivals_17 : decode cX8_rivals 17 = .ok (.invokestatic 74, 3) := by decide +kernel
theorem dX8_rivals_20 : decode cX8_rivals 20 = .ok (.ifCond .ne 6, 3) := by decide +kernel
theorem dX8_rivals_23 : decode cX8_rivals 23 = .ok (.ldc 78, 2) := by decide +kernel
theorem dX8_rivals_25 : decode cX8_rivals 25 = .ok (.ireturn, 1) := by decide +kernel
theorem dX8_rivals_26 : decode cX8_rivals 26 = .ok (.aload_n 0, 1) := by decide +kernel
theorem dX8_rivals_27 : decode cX8_rivals 27 = .ok (.getfield 16, 3) := by decide +kernel
theorem dX8_rivals_30 : decode cX8_rivals 30 = .ok (.iconst 0, 1) := by decide +kernel
theorem dX8_rivals_31 : decode cX8_rivals 31 = .ok (.aload_n 0, 1) := by decide +kernel
theorem dX8_rivals_32 : decode cX8_rivals 32 = .ok (.getfield 48, 3) := by decide +kernel
theorem dX8_rivals_35 : decode cX8_rivals 35 = .ok (.iconst 0, 1) := by decide +kernel
theorem dX8_rivals_36 : decode cX8_rivals 36 = .ok (.bipush 17, 2) := by decide +kernel
theorem dX8_rivals_38 : decode cX8_rivals 38 = .ok (.invokestatic 165, 3) := by decide +kernel
theorem dX8_rivals_41 : decode cX8_rivals 41 = .ok (.aload_n 0, 1) := by decide +kernel
theorem dX8_rivals_42 : decode cX8_rivals 42 = .ok (.getfield 51, 3) := by decide +kernel
theorem dX8_rivals_45 : decode cX8_rivals 45 = .ok (.iconst 0, 1) := by decide +kernel
theorem dX8_rivals_46 : decode cX8_rivals 46 = .ok (.iconst 0, 1) := by decide +kernel
theorem dX8_rivals_47 : decode cX8_rivals 47 = .ok (.iastore, 1) := by decide +kernel
theorem dX8_rivals_48 : decode cX8_rivals 48 = .ok (.aload_n 0, 1) := by decide +kernel
theorem dX8_rivals_49 : decode cX8_rivals 49 = .ok (.iconst 0, 1) := by decide +kernel
theorem dX8_rivals_50 : decode cX8_rivals 50 = .ok (.invokevirtual 235, 3) := by decide +kernel
theorem dX8_rivals_53 : decode cX8_rivals 53 = .ok (.iconst 0, 1) := by decide +kernel
theorem dX8_rivals_54 : decode cX8_rivals 54 = .ok (.istore_n 3, 1) := by decide +kernel
theorem dX8_rivals_55 : decode cX8_rivals 55 = .ok (.iload_n 3, 1) := by decide +kernel
theorem dX8_rivals_56 : decode cX8_rivals 56 = .ok (.ifCond .lt 91, 3) := by decide +kernel
theorem dX8_rivals_59 : decode cX8_rivals 59 = .ok (.aload_n 0, 1) := by decide +kernel
theorem dX8_rivals_60 : decode cX8_rivals 60 = .ok (.getfield 54, 3) := by decide +kernel
theorem dX8_rivals_63 : decode cX8_rivals 63 = .ok (.iload_n 3, 1) := by decide +kernel
theorem dX8_rivals_64 : decode cX8_rivals 64 = .ok (.dup2, 1) := by decide +kernel
theorem dX8_rivals_65 : decode cX8_rivals 65 = .ok (.iaload, 1) := by decide +kernel
theorem dX8_rivals_66 : decode cX8_rivals 66 = .ok (.iconst 1, 1) := by decide +kernel
theorem dX8_rivals_67 : decode cX8_rivals 67 = .ok (.iadd, 1) := by decide +kernel
theorem dX8_rivals_68 : decode cX8_rivals 68 = .ok (.iastore, 1) := by decide +kernel
theorem dX8_rivals_69 : decode cX8_rivals 69 = .ok (.aload_n 0, 1) := by decide +kernel
theorem dX8_rivals_70 : decode cX8_rivals 70 = .ok (.getfield 54, 3) := by decide +kernel
theorem dX8_rivals_73 : decode cX8_rivals 73 = .ok (.iload_n 3, 1) := by decide +kernel
theorem dX8_rivals_74 : decode cX8_rivals 74 = .ok (.iaload, 1) := by decide +kernel
theorem dX8_rivals_75 : decode cX8_rivals 75 = .ok (.aload_n 0, 1) := by decide +kernel
theorem dX8_rivals_76 : decode cX8_rivals 76 = .ok (.getfield 7, 3) := by decide +kernel
theorem dX8_rivals_79 : decode cX8_rivals 79 = .ok (.iconst 2, 1) := by decide +kernel
theorem dX8_rivals_80 : decode cX8_rivals 80 = .ok (.iaload, 1) := by decide +kernel
theorem dX8_rivals_81 : decode cX8_rivals 81 = .ok (.if_icmp .le 26, 3) := by decide +kernel
theorem dX8_rivals_84 : decode cX8_rivals 84 = .ok (.iinc 3 (-1), 3) := by decide +kernel
theorem dX8_rivals_87 : decode cX8_rivals 87 = .ok (.iload_n 3, 1) := by decide +kernel
theorem dX8_rivals_88 : decode cX8_rivals 88 = .ok (.ifCond .lt (-33), 3) := by decide +kernel
theorem dX8_rivals_91 : decode cX8_rivals 91 = .ok (.aload_n 0, 1) := by decide +kernel
theorem dX8_rivals_92 : decode cX8_rivals 92 = .ok (.iload_n 3, 1) := by decide +kernel
theorem dX8_rivals_93 : decode cX8_rivals 93 = .ok (.aload_n 0, 1) := by decide +kernel
theorem dX8_rivals_94 : decode cX8_rivals 94 = .ok (.getfield 57, 3) := by decide +kernel
theorem dX8_rivals_97 : decode cX8_rivals 97 = .ok (.iload_n 3, 1) := by decide +kernel
theorem dX8_rivals_98 : decode cX8_rivals 98 = .ok (.iconst 1, 1) := by decide +kernel
theorem dX8_rivals_99 : decode cX8_rivals 99 = .ok (.iadd, 1) := by decide +kernel
theorem dX8_rivals_100 : decode cX8_rivals 100 = .ok (.iaload, 1) := by decide +kernel
theorem dX8_rivals_101 : decode cX8_rivals 101 = .ok (.invokevirtual 238, 3) := by decide +kernel
theorem dX8_rivals_104 : decode cX8_rivals 104 = .ok (.goto (-49), 3) := by decide +kernel
theorem dX8_rivals_107 : decode cX8_rivals 107 = .ok (.aload_n 0, 1) := by decide +kernel
theorem dX8_rivals_108 : decode cX8_rivals 108 = .ok (.iload_n 3, 1) := by decide +kernel
theorem dX8_rivals_109 : decode cX8_rivals 109 = .ok (.invokevirtual 242, 3) := by decide +kernel
theorem dX8_rivals_112 : decode cX8_rivals 112 = .ok (.ifCond .eq (-57), 3) := by decide +kernel
theorem dX8_rivals_115 : decode cX8_rivals 115 = .ok (.iload_n 3, 1) := by decide +kernel
theorem dX8_rivals_116 : decode cX8_rivals 116 = .ok (.iconst 1, 1) := by decide +kernel
theorem dX8_rivals_117 : decode cX8_rivals 117 = .ok (.iadd, 1) := by decide +kernel
theorem dX8_rivals_118 : decode cX8_rivals 118 = .ok (.iload_n 2, 1) := by decide +kernel
theorem dX8_rivals_119 : decode cX8_rivals 119 = .ok (.if_icmp .ne 17, 3) := by decide +kernel
theorem dX8_rivals_122 : decode cX8_rivals 122 = .ok (.aload_n 0, 1) := by decide +kernel
theorem dX8_rivals_123 : decode cX8_rivals 123 = .ok (.iload_n 3, 1) := by decide +kernel
theorem dX8_rivals_124 : decode cX8_rivals 124 = .ok (.aload_n 0, 1) := by decide +kernel
theorem dX8_rivals_125 : decode cX8_rivals 125 = .ok (.getfield 42, 3) := by decide +kernel
theorem dX8_rivals_128 : decode cX8_rivals 128 = .ok (.iload_n 1, 1) := by decide +kernel
theorem dX8_rivals_129 : decode cX8_rivals 129 = .ok (.iaload, 1) := by decide +kernel
theorem dX8_rivals_130 : decode cX8_rivals 130 = .ok (.invokevirtual 238, 3) := by decide +kernel
theorem dX8_rivals_133 : decode cX8_rivals 133 = .ok (.goto (-78), 3) := by decide +kernel
theorem dX8_rivals_136 : decode cX8_rivals 136 = .ok (.iinc 3 1, 3) := by decide +kernel
theorem dX8_rivals_139 : decode cX8_rivals 139 = .ok (.aload_n 0, 1) := by decide +kernel
theorem dX8_rivals_140 : decode cX8_rivals 140 = .ok (.iload_n 3, 1) := by decide +kernel
theorem dX8_rivals_141 : decode cX8_rivals 141 = .ok (.invokevirtual 235, 3) := by decide +kernel
theorem dX8_rivals_144 : decode cX8_rivals 144 = .ok (.goto (-89), 3) := by decide +kernel
theorem dX8_rivals_147 : decode cX8_rivals 147 = .ok (.aload_n 0, 1) := by decide +kernel
theorem dX8_rivals_148 : decode cX8_rivals 148 = .ok (.getfield 57, 3) := by decide +kernel
theorem dX8_rivals_151 : decode cX8_rivals 151 = .ok (.iconst 0, 1) := by decide +kernel
theorem dX8_rivals_152 : decode cX8_rivals 152 = .ok (.iaload, 1) := by decide +kernel
theorem dX8_rivals_153 : decode cX8_rivals 153 = .ok (.ireturn, 1) := by decide +kernel
theorem dX8_shun_0 : decode cX8_shun 0 = .ok (.aload_n 0, 1) := by decide +kernel
theorem dX8_shun_1 : decode cX8_shun 1 = .ok (.iload_n 1, 1) := by decide +kernel
theorem dX8_shun_2 : decode cX8_shun 2 = .ok (.invokevirtual 140, 3) := by decide +kernel
theorem dX8_shun_5 : decode cX8_shun 5 = .ok (.ifCond .ne 6, 3) := by decide +kernel
theorem dX8_shun_8 : decode cX8_shun 8 = .ok (.ldc 143, 2) := by decide +kernel
theorem dX8_shun_10 : decode cX8_shun 10 = .ok (.ireturn, 1) := by decide +kernel
theorem dX8_shun_11 : decode cX8_shun 11 = .ok (.iload_n 2, 1) := by decide +kernel
theorem dX8_shun_12 : decode cX8_shun 12 = .ok (.i2l, 1) := by decide +kernel
theorem dX8_shun_13 : decode cX8_shun 13 = .ok (.lconst 0, 1) := by decide +kernel
theorem dX8_shun_14 : decode cX8_shun 14 = .ok (.lconst 1, 1) := by decide +kernel
theorem dX8_shun_15 : decode cX8_shun 15 = .ok (.invokestatic 74, 3) := by decide +kernel
theorem dX8_shun_18 : decode cX8_shun 18 = .ok (.ifCond .ne 6, 3) := by decide +kernel
theorem dX8_shun_21 : decode cX8_shun 21 = .ok (.ldc 78, 2) := by decide +kernel
theorem dX8_shun_23 : decode cX8_shun 23 = .ok (.ireturn, 1) := by decide +kernel
theorem dX8_shun_24 : decode cX8_shun 24 = .ok (.iconst (-1), 1) := by decide +kernel
theorem dX8_shun_25 : decode cX8_shun 25 = .ok (.istore_n 3, 1) := by decide +kernel
theorem dX8_shun_26 : decode cX8_shun 26 = .ok (.iconst 0, 1) := by decide +kernel
theorem dX8_shun_27 : decode cX8_shun 27 = .ok (.istore 4, 2) := by decide +kernel
theorem dX8_shun_29 : decode cX8_shun 29 = .ok (.iload 4, 2) := by decide +kernel
theorem dX8_shun_31 : decode cX8_shun 31 = .ok (.bipush 20, 2) := by decide +kernel
theorem dX8_shun_33 : decode cX8_shun 33 = .ok (.if_icmp .gt 69, 3) := by decide +kernel
theorem dX8_shun_36 : decode cX8_shun 36 = .ok (.aload_n 0, 1) := by decide +kernel
theorem dX8_shun_37 : decode cX8_shun 37 = .ok (.getfield 16, 3) := by decide +kernel
theorem dX8_shun_40 : decode cX8_shun 40 = .ok (.iload_n 1, 1) := by decide +kernel
theorem dX8_shun_41 : decode cX8_shun 41 = .ok (.iaload, 1) := by decide +kernel
theorem dX8_shun_42 : decode cX8_shun 42 = .ok (.aload_n 0, 1) := by decide +kernel
theorem dX8_shun_43 : decode cX8_shun 43 = .ok (.getfield 7, 3) := by decide +kernel
theorem dX8_shun_46 : decode cX8_shun 46 = .ok (.iconst 3, 1) := by decide +kernel
theorem dX8_shun_47 : decode cX8_shun 47 = .ok (.iaload, 1) := by decide +kernel
theorem dX8_shun_48 : decode cX8_shun 48 = .ok (.if_icmp .lt 54, 3) := by decide +kernel
theorem dX8_shun_51 : decode cX8_shun 51 = .ok (.iload_n 2, 1) := by decide +kernel
theorem dX8_shun_52 : decode cX8_shun 52 = .ok (.ifCond .ne 11, 3) := by decide +kernel
theorem dX8_shun_55 : decode cX8_shun 55 = .ok (.bipush 20, 2) := by decide +kernel
theorem dX8_shun_57 : decode cX8_shun 57 = .ok (.iload 4, 2) := by decide +kernel
theorem dX8_shun_59 : decode cX8_shun 59 = .ok (.isub, 1) := by decide +kernel
theorem dX8_shun_60 : decode cX8_shun 60 = .ok (.goto 5, 3) := by decide +kernel
theorem dX8_shun_63 : decode cX8_shun 63 = .ok (.iload 4, 2) := by decide +kernel
theorem dX8_shun_65 : decode cX8_shun 65 = .ok (.istore 5, 2) := by decide +kernel
theorem dX8_shun_67 : decode cX8_shun 67 = .ok (.iconst 2, 1) := by decide +kernel
theorem dX8_shun_68 : decode cX8_shun 68 = .ok (.aload_n 0, 1) := by decide +kernel
theorem dX8_shun_69 : decode cX8_shun 69 = .ok (.getfield 16, 3) := by decide +kernel
theorem dX8_shun_72 : decode cX8_shun 72 = .ok (.iload_n 1, 1) := by decide +kernel
theorem dX8_shun_73 : decode cX8_shun 73 = .ok (.iaload, 1) := by decide +kernel
theorem dX8_shun_74 : decode cX8_shun 74 = .ok (.imul, 1) := by decide +kernel
theorem dX8_shun_75 : decode cX8_shun 75 = .ok (.iload 5, 2) := by decide +kernel
theorem dX8_shun_77 : decode cX8_shun 77 = .ok (.iadd, 1) := by decide +kernel
theorem dX8_shun_78 : decode cX8_shun 78 = .ok (.iconst 3, 1) := by decide +kernel
theorem dX8_shun_79 : decode cX8_shun 79 = .ok (.idiv, 1) := by decide +kernel
theorem dX8_shun_80 : decode cX8_shun 80 = .ok (.aload_n 0, 1) := by decide +kernel
theorem dX8_shun_81 : decode cX8_shun 81 = .ok (.getfield 7, 3) := by decide +kernel
theorem dX8_shun_84 : decode cX8_shun 84 = .ok (.iconst 3, 1) := by decide +kernel
theorem dX8_shun_85 : decode cX8_shun 85 = .ok (.iaload, 1) := by decide +kernel
theorem dX8_shun_86 : decode cX8_shun 86 = .ok (.if_icmp .ge 8, 3) := by decide +kernel
theorem dX8_shun_89 : decode cX8_shun 89 = .ok (.iload 5, 2) := by decide +kernel
theorem dX8_shun_91 : decode cX8_shun 91 = .ok (.goto 4, 3) := by decide +kernel
theorem dX8_shun_94 : decode cX8_shun 94 = .ok (.iload_n 3, 1) := by decide +kernel
theorem dX8_shun_95 : decode cX8_shun 95 = .ok (.istore_n 3, 1) := by decide +kernel
theorem dX8_shun_96 : decode cX8_shun 96 = .ok (.iinc 4 1, 3) := by decide +kernel
theorem dX8_shun_99 : decode cX8_shun 99 = .ok (.goto (-70), 3) := by decide +kernel
theorem dX8_shun_102 : decode cX8_shun 102 = .ok (.iload_n 3, 1) := by decide +kernel
theorem dX8_shun_103 : decode cX8_shun 103 = .ok (.ireturn, 1) := by decide +kernel
theorem dX8_holds_0 : decode cX8_holds 0 = .ok (.iload_n 1, 1) := by decide +kernel
theorem dX8_holds_1 : decode cX8_holds 1 = .ok (.i2l, 1) := by decide +kernel
theorem dX8_holds_2 : decode cX8_holds 2 = .ok (.lconst 0, 1) := by decide +kernel
theorem dX8_holds_3 : decode cX8_holds 3 = .ok (.ldc2_w 202, 3) := by decide +kernel
theorem dX8_holds_6 : decode cX8_holds 6 = .ok (.invokestatic 74, 3) := by decide +kernel
theorem dX8_holds_9 : decode cX8_holds 9 = .ok (.ifCond .eq 15, 3) := by decide +kernel
theorem dX8_holds_12 : decode cX8_holds 12 = .ok (.iload_n 2, 1) := by decide +kernel
theorem dX8_holds_13 : decode cX8_holds 13 = .ok (.i2l, 1) := by decide +kernel
theorem dX8_holds_14 : decode cX8_holds 14 = .ok (.lconst 0, 1) := by decide +kernel
theorem dX8_holds_15 : decode cX8_holds 15 = .ok (.ldc2_w 245, 3) := by decide +kernel
theorem dX8_holds_18 : decode cX8_holds 18 = .ok (.invokestatic 74, 3) := by decide +kernel
theorem dX8_holds_21 : decode cX8_holds 21 = .ok (.ifCond .ne 6, 3) := by decide +kernel
theorem dX8_holds_24 : decode cX8_holds 24 = .ok (.ldc 78, 2) := by decide +kernel
theorem dX8_holds_26 : decode cX8_holds 26 = .ok (.ireturn, 1) := by decide +kernel
theorem dX8_holds_27 : decode cX8_holds 27 = .ok (.ldc2_w 247, 3) := by decide +kernel
theorem dX8_holds_30 : decode cX8_holds 30 = .ok (.lstore_n 3, 1) := by decide +kernel
theorem dX8_holds_31 : decode cX8_holds 31 = .ok (.iconst 0, 1) := by decide +kernel
theorem dX8_holds_32 : decode cX8_holds 32 = .ok (.istore 5, 2) := by decide +kernel
theorem dX8_holds_34 : decode cX8_holds 34 = .ok (.iload 5, 2) := by decide +kernel
theorem dX8_holds_36 : decode cX8_holds 36 = .ok (.iload_n 1, 1) := by decide +kernel
theorem dX8_holds_37 : decode cX8_holds 37 = .ok (.if_icmp .ge 21, 3) := by decide +kernel
theorem dX8_holds_40 : decode cX8_holds 40 = .ok (.lload_n 3, 1) := by decide +kernel
theorem dX8_holds_41 : decode cX8_holds 41 = .ok (.bipush 100, 2) := by decide +kernel
theorem dX8_holds_43 : decode cX8_holds 43 = .ok (.iload_n 2, 1) := by decide +kernel
theorem dX8_holds_44 : decode cX8_holds 44 = .ok (.isub, 1) := by decide +kernel
theorem dX8_holds_45 : decode cX8_holds 45 = .ok (.i2l, 1) := by decide +kernel
theorem dX8_holds_46 : decode cX8_holds 46 = .ok (.lmul, 1) := by decide +kernel
theorem dX8_holds_47 : decode cX8_holds 47 = .ok (.ldc2_w 245, 3) := by decide +kernel
theorem dX8_holds_50 : decode cX8_holds 50 = .ok (.ldiv, 1) := by decide +kernel
theorem dX8_holds_51 : decode cX8_holds 51 = .ok (.lstore_n 3, 1) := by decide +kernel
theorem dX8_holds_52 : decode cX8_holds 52 = .ok (.iinc 5 1, 3) := by decide +kernel
theorem dX8_holds_55 : decode cX8_holds 55 = .ok (.goto (-21), 3) := by decide +kernel
theorem dX8_holds_58 : decode cX8_holds 58 = .ok (.lload_n 3, 1) := by decide +kernel
theorem dX8_holds_59 : decode cX8_holds 59 = .ok (.l2i, 1) := by decide +kernel
theorem dX8_holds_60 : decode cX8_holds 60 = .ok (.ireturn, 1) := by decide +kernel
theorem dX8_worn_0 : decode cX8_worn 0 = .ok (.iconst 0, 1) := by decide +kernel
theorem dX8_worn_1 : decode cX8_worn 1 = .ok (.istore_n 1, 1) := by decide +kernel
theorem dX8_worn_2 : decode cX8_worn 2 = .ok (.iconst 0, 1) := by decide +kernel
theorem dX8_worn_3 : decode cX8_worn 3 = .ok (.istore_n 2, 1) := by decide +kernel
theorem dX8_worn_4 : decode cX8_worn 4 = .ok (.iload_n 2, 1) := by decide +kernel
theorem dX8_worn_5 : decode cX8_worn 5 = .ok (.aload_n 0, 1) := by decide +kernel
theorem dX8_worn_6 : decode cX8_worn 6 = .ok (.getfield 7, 3) := by decide +kernel
theorem dX8_worn_9 : decode cX8_worn 9 = .ok (.iconst 2, 1) := by decide +kernel
theorem dX8_worn_10 : decode cX8_worn 10 = .ok (.iaload, 1) := by decide +kernel
theorem dX8_worn_11 : decode cX8_worn 11 = .ok (.if_icmp .ge 38, 3) := by decide +kernel
theorem dX8_worn_14 : decode cX8_worn 14 = .ok (.iload_n 1, 1) := by decide +kernel
theorem dX8_worn_15 : decode cX8_worn 15 = .ok (.aload_n 0, 1) := by decide +kernel
theorem dX8_worn_16 : decode cX8_worn 16 = .ok (.iload_n 2, 1) := by decide +kernel
theorem dX8_worn_17 : decode cX8_worn 17 = .ok (.invokevirtual 155, 3) := by decide +kernel
theorem dX8_worn_20 : decode cX8_worn 20 = .ok (.iconst 1, 1) := by decide +kernel
theorem dX8_worn_21 : decode cX8_worn 21 = .ok (.aload_n 0, 1) := by decide +kernel
theorem dX8_worn_22 : decode cX8_worn 22 = .ok (.getfield 16, 3) := by decide +kernel
theorem dX8_worn_25 : decode cX8_worn 25 = .ok (.iconst 5, 1) := by decide +kernel
theorem dX8_worn_26 : decode cX8_worn 26 = .ok (.iload_n 2, 1) := by decide +kernel
theorem dX8_worn_27 : decode cX8_worn 27 = .ok (.iadd, 1) := by decide +kernel
theorem dX8_worn_28 : decode cX8_worn 28 = .ok (.iaload, 1) := by decide +kernel
theorem dX8_worn_29 : decode cX8_worn 29 = .ok (.iadd, 1) := by decide +kernel
theorem dX8_worn_30 : decode cX8_worn 30 = .ok (.idiv, 1) := by decide +kernel
theorem dX8_worn_31 : decode cX8_worn 31 = .ok (.ifCond .ne 9, 3) := by decide +kernel
theorem dX8_worn_34 : decode cX8_worn 34 = .ok (.iconst 1, 1) := by decide +kernel
theorem dX8_worn_35 : decode cX8_worn 35 = .ok (.iload_n 2, 1) := by decide +kernel
theorem dX8_worn_36 : decode cX8_worn 36 = .ok (.ishl, 1) := by decide +kernel
theorem dX8_worn_37 : decode cX8_worn 37 = .ok (.goto 4, 3) := by decide +kernel
theorem dX8_worn_40 : decode cX8_worn 40 = .ok (.iconst 0, 1) := by decide +kernel
theorem dX8_worn_41 : decode cX8_worn 41 = .ok (.ior, 1) := by decide +kernel
theorem dX8_worn_42 : decode cX8_worn 42 = .ok (.istore_n 1, 1) := by decide +kernel
theorem dX8_worn_43 : decode cX8_worn 43 = .ok (.iinc 2 1, 3) := by decide +kernel
theorem dX8_worn_46 : decode cX8_worn 46 = .ok (.goto (-42), 3) := by decide +kernel
theorem dX8_worn_49 : decode cX8_worn 49 = .ok (.iload_n 1, 1) := by decide +kernel
theorem dX8_worn_50 : decode cX8_worn 50 = .ok (.ireturn, 1) := by decide +kernel
theorem dX8_thought_0 : decode cX8_thought 0 = .ok (.aload_n 0, 1) := by decide +kernel
theorem dX8_thought_1 : decode cX8_thought 1 = .ok (.iload_n 1, 1) := by decide +kernel
theorem dX8_thought_2 : decode cX8_thought 2 = .ok (.invokevirtual 140, 3) := by decide +kernel
theorem dX8_thought_5 : decode cX8_thought 5 = .ok (.ifCond .ne 6, 3) := by decide +kernel
theorem dX8_thought_8 : decode cX8_thought 8 = .ok (.ldc 143, 2) := by decide +kernel
theorem dX8_thought_10 : decode cX8_thought 10 = .ok (.ireturn, 1) := by decide +kernel
theorem dX8_thought_11 : decode cX8_thought 11 = .ok (.iload_n 2, 1) := by decide +kernel
theorem dX8_thought_12 : decode cX8_thought 12 = .ok (.i2l, 1) := by decide +kernel
theorem dX8_thought_13 : decode cX8_thought 13 = .ok (.lconst 0, 1) := by decide +kernel
theorem dX8_thought_14 : decode cX8_thought 14 = .ok (.ldc2_w 188, 3) := by decide +kernel
theorem dX8_thought_17 : decode cX8_thought 17 = .ok (.invokestatic 74, 3) := by decide +kernel
theorem dX8_thought_20 : decode cX8_thought 20 = .ok (.ifCond .ne 6, 3) := by decide +kernel
theorem dX8_thought_23 : decode cX8_thought 23 = .ok (.ldc 78, 2) := by decide +kernel
theorem dX8_thought_25 : decode cX8_thought 25 = .ok (.ireturn, 1) := by decide +kernel
theorem dX8_thought_26 : decode cX8_thought 26 = .ok (.aload_n 0, 1) := by decide +kernel
theorem dX8_thought_27 : decode cX8_thought 27 = .ok (.getfield 66, 3) := by decide +kernel
theorem dX8_thought_30 : decode cX8_thought 30 = .ok (.bipush 6, 2) := by decide +kernel
theorem dX8_thought_32 : decode cX8_thought 32 = .ok (.if_icmp .ne 6, 3) := by decide +kernel
theorem dX8_thought_35 : decode cX8_thought 35 = .ok (.ldc 82, 2) := by decide +kernel
theorem dX8_thought_37 : decode cX8_thought 37 = .ok (.ireturn, 1) := by decide +kernel
theorem dX8_thought_38 : decode cX8_thought 38 = .ok (.aload_n 0, 1) := by decide +kernel
theorem dX8_thought_39 : decode cX8_thought 39 = .ok (.getfield 36, 3) := by decide +kernel
theorem dX8_thought_42 : decode cX8_thought 42 = .ok (.iconst 2, 1) := by decide +kernel
theorem dX8_thought_43 : decode cX8_thought 43 = .ok (.aload_n 0, 1) := by decide +kernel
theorem dX8_thought_44 : decode cX8_thought 44 = .ok (.getfield 66, 3) := by decide +kernel
theorem dX8_thought_47 : decode cX8_thought 47 = .ok (.imul, 1) := by decide +kernel
theorem dX8_thought_48 : decode cX8_thought 48 = .ok (.iload_n 1, 1) := by decide +kernel
theorem dX8_thought_49 : decode cX8_thought 49 = .ok (.iastore, 1) := by decide +kernel
theorem dX8_thought_50 : decode cX8_thought 50 = .ok (.aload_n 0, 1) := by decide +kernel
theorem dX8_thought_51 : decode cX8_thought 51 = .ok (.getfield 36, 3) := by decide +kernel
theorem dX8_thought_54 : decode cX8_thought 54 = .ok (.iconst 2, 1) := by decide +kernel
theorem dX8_thought_55 : decode cX8_thought 55 = .ok (.aload_n 0, 1) := by decide +kernel
theorem dX8_thought_56 : decode cX8_thought 56 = .ok (.getfield 66, 3) := by decide +kernel
theorem dX8_thought_59 : decode cX8_thought 59 = .ok (.imul, 1) := by decide +kernel
theorem dX8_thought_60 : decode cX8_thought 60 = .ok (.iconst 1, 1) := by decide +kernel
theorem dX8_thought_61 : decode cX8_thought 61 = .ok (.iadd, 1) := by decide +kernel
theorem dX8_thought_62 : decode cX8_thought 62 = .ok (.iload_n 2, 1) := by decide +kernel
theorem dX8_thought_63 : decode cX8_thought 63 = .ok (.iastore, 1) := by decide +kernel
theorem dX8_thought_64 : decode cX8_thought 64 = .ok (.aload_n 0, 1) := by decide +kernel
theorem dX8_thought_65 : decode cX8_thought 65 = .ok (.dup, 1) := by decide +kernel
theorem dX8_thought_66 : decode cX8_thought 66 = .ok (.getfield 66, 3) := by decide +kernel
theorem dX8_thought_69 : decode cX8_thought 69 = .ok (.iconst 1, 1) := by decide +kernel
theorem dX8_thought_70 : decode cX8_thought 70 = .ok (.iadd, 1) := by decide +kernel
theorem dX8_thought_71 : decode cX8_thought 71 = .ok (.putfield 66, 3) := by decide +kernel
theorem dX8_thought_74 : decode cX8_thought 74 = .ok (.aload_n 0, 1) := by decide +kernel
theorem dX8_thought_75 : decode cX8_thought 75 = .ok (.getfield 66, 3) := by decide +kernel
theorem dX8_thought_78 : decode cX8_thought 78 = .ok (.ireturn, 1) := by decide +kernel
theorem dX8_isThought_0 : decode cX8_isThought 0 = .ok (.iconst 1, 1) := by decide +kernel
theorem dX8_isThought_1 : decode cX8_isThought 1 = .ok (.istore_n 1, 1) := by decide +kernel
theorem dX8_isThought_2 : decode cX8_isThought 2 = .ok (.iconst 0, 1) := by decide +kernel
theorem dX8_isThought_3 : decode cX8_isThought 3 = .ok (.istore_n 2, 1) := by decide +kernel
theorem dX8_isThought_4 : decode cX8_isThought 4 = .ok (.iload_n 2, 1) := by decide +kernel
theorem dX8_isThought_5 : decode cX8_isThought 5 = .ok (.aload_n 0, 1) := by decide +kernel
theorem dX8_isThought_6 : decode cX8_isThought 6 = .ok (.getfield 66, 3) := by decide +kernel
theorem dX8_isThought_9 : decode cX8_isThought 9 = .ok (.if_icmp .ge 45, 3) := by decide +kernel
theorem dX8_isThought_12 : decode cX8_isThought 12 = .ok (.iload_n 1, 1) := by decide +kernel
theorem dX8_isThought_13 : decode cX8_isThought 13 = .ok (.ifCond .eq 33, 3) := by decide +kernel
theorem dX8_isThought_16 : decode cX8_isThought 16 = .ok (.aload_n 0, 1) := by decide +kernel
theorem dX8_isThought_17 : decode cX8_isThought 17 = .ok (.getfield 42, 3) := by decide +kernel
theorem dX8_isThought_20 : decode cX8_isThought 20 = .ok (.aload_n 0, 1) := by decide +kernel
theorem dX8_isThought_21 : decode cX8_isThought 21 = .ok (.getfield 36, 3) := by decide +kernel
theorem dX8_isThought_24 : decode cX8_isThought 24 = .ok (.iconst 2, 1) := by decide +kernel
theorem dX8_isThought_25 : decode cX8_isThought 25 = .ok (.iload_n 2, 1) := by decide +kernel
theorem dX8_isThought_26 : decode cX8_isThought 26 = .ok (.imul, 1) := by decide +kernel
theorem dX8_isThought_27 : decode cX8_isThought 27 = .ok (.iaload, 1) := by decide +kernel
theorem dX8_isThought_28 : decode cX8_isThought 28 = .ok (.iaload, 1) := by decide +kernel
theorem dX8_isThought_29 : decode cX8_isThought 29 = .ok (.aload_n 0, 1) := by decide +kernel
theorem dX8_isThought_30 : decode cX8_isThought 30 = .ok (.getfield 36, 3) := by decide +kernel
theorem dX8_isThought_33 : decode cX8_isThought 33 = .ok (.iconst 2, 1) := by decide +kernel
theorem dX8_isThought_34 : decode cX8_isThought 34 = .ok (.iload_n 2, 1) := by decide +kernel
theorem dX8_isThought_35 : decode cX8_isThought 35 = .ok (.imul, 1) := by decide +kernel
theorem dX8_isThought_36 : decode cX8_isThought 36 = .ok (.iconst 1, 1) := by decide +kernel
theorem dX8_isThought_37 : decode cX8_isThought 37 = .ok (.iadd, 1) := by decide +kernel
theorem dX8_isThought_38 : decode cX8_isThought 38 = .ok (.iaload, 1) := by decide +kernel
theorem dX8_isThought_39 : decode cX8_isThought 39 = .ok (.if_icmp .ne 7, 3) := by decide +kernel
theorem dX8_isThought_42 : decode cX8_isThought 42 = .ok (.iconst 1, 1) := by decide +kernel
theorem dX8_isThought_43 : decode cX8_isThought 43 = .ok (.goto 4, 3) := by decide +kernel
theorem dX8_isThought_46 : decode cX8_isThought 46 = .ok (.iconst 0, 1) := by decide +kernel
theorem dX8_isThought_47 : decode cX8_isThought 47 = .ok (.istore_n 1, 1) := by decide +kernel
theorem dX8_isThought_48 : decode cX8_isThought 48 = .ok (.iinc 2 1, 3) := by decide +kernel
theorem dX8_isThought_51 : decode cX8_isThought 51 = .ok (.goto (-47), 3) := by decide +kernel
theorem dX8_isThought_54 : decode cX8_isThought 54 = .ok (.iload_n 1, 1) := by decide +kernel
theorem dX8_isThought_55 : decode cX8_isThought 55 = .ok (.ireturn, 1) := by decide +kernel
theorem dX8_leftOut_0 : decode cX8_leftOut 0 = .ok (.iconst 0, 1) := by decide +kernel
theorem dX8_leftOut_1 : decode cX8_leftOut 1 = .ok (.istore_n 2, 1) := by decide +kernel
theorem dX8_leftOut_2 : decode cX8_leftOut 2 = .ok (.iconst (-1), 1) := by decide +kernel
theorem dX8_leftOut_3 : decode cX8_leftOut 3 = .ok (.istore_n 3, 1) := by decide +kernel
theorem dX8_leftOut_4 : decode cX8_leftOut 4 = .ok (.aload_n 0, 1) := by decide +kernel
theorem dX8_leftOut_5 : decode cX8_leftOut 5 = .ok (.getfield 16, 3) := by decide +kernel
theorem dX8_leftOut_8 : decode cX8_leftOut 8 = .ok (.bipush 13, 2) := by decide +kernel
theorem dX8_leftOut_10 : decode cX8_leftOut 10 = .ok (.iaload, 1) := by decide +kernel
theorem dX8_leftOut_11 : decode cX8_leftOut 11 = .ok (.istore 4, 2) := by decide +kernel
theorem dX8_leftOut_13 : decode cX8_leftOut 13 = .ok (.iconst 0, 1) := by decide +kernel
theorem dX8_leftOut_14 : decode cX8_leftOut 14 = .ok (.istore 5, 2) := by decide +kernel
theorem dX8_leftOut_16 : decode cX8_leftOut 16 = .ok (.iconst 0, 1) := by decide +kernel
theorem dX8_leftOut_17 : decode cX8_leftOut 17 = .ok (.istore 6, 2) := by decide +kernel
theorem dX8_leftOut_19 : decode cX8_leftOut 19 = .ok (.iload 6, 2) := by decide +kernel
theorem dX8_leftOut_21 : decode cX8_leftOut 21 = .ok (.iconst 1, 1) := by decide +kernel
theorem dX8_leftOut_22 : decode cX8_leftOut 22 = .ok (.aload_n 0, 1) := by decide +kernel
theorem dX8_leftOut_23 : decode cX8_leftOut 23 = .ok (.getfield 7, 3) := by decide +kernel
theorem dX8_leftOut_26 : decode cX8_leftOut 26 = .ok (.iconst 2, 1) := by decide +kernel
theorem dX8_leftOut_27 : decode cX8_leftOut 27 = .ok (.iaload, 1) := by decide +kernel
theorem dX8_leftOut_28 : decode cX8_leftOut 28 = .ok (.ishl, 1) := by decide +kernel
theorem dX8_leftOut_29 : decode cX8_leftOut 29 = .ok (.if_icmp .ge 69, 3) := by decide +kernel
theorem dX8_leftOut_32 : decode cX8_leftOut 32 = .ok (.aload_n 0, 1) := by decide +kernel
theorem dX8_leftOut_33 : decode cX8_leftOut 33 = .ok (.iload 6, 2) := by decide +kernel
theorem dX8_leftOut_35 : decode cX8_leftOut 35 = .ok (.aload_n 0, 1) := by decide +kernel
theorem dX8_leftOut_36 : decode cX8_leftOut 36 = .ok (.getfield 16, 3) := by decide +kernel
theorem dX8_leftOut_39 : decode cX8_leftOut 39 = .ok (.bipush 13, 2) := by decide +kernel
theorem dX8_leftOut_41 : decode cX8_leftOut 41 = .ok (.iaload, 1) := by decide +kernel
theorem dX8_leftOut_42 : decode cX8_leftOut 42 = .ok (.invokevirtual 176, 3) := by decide +kernel
theorem dX8_leftOut_45 : decode cX8_leftOut 45 = .ok (.ifCond .eq 47, 3) := by decide +kernel
theorem dX8_leftOut_48 : decode cX8_leftOut 48 = .ok (.aload_n 0, 1) := by decide +kernel
theorem dX8_leftOut_49 : decode cX8_leftOut 49 = .ok (.iload 6, 2) := by decide +kernel
theorem dX8_leftOut_51 : decode cX8_leftOut 51 = .ok (.invokevirtual 207, 3) := by decide +kernel
theorem dX8_leftOut_54 : decode cX8_leftOut 54 = .ok (.istore 7, 2) := by decide +kernel
theorem dX8_leftOut_56 : decode cX8_leftOut 56 = .ok (.aload_n 0, 1) := by decide +kernel
theorem dX8_leftOut_57 : decode cX8_leftOut 57 = .ok (.invokevirtual 249, 3) := by decide +kernel
theorem dX8_leftOut_60 : decode cX8_leftOut 60 = .ok (.ifCond .eq 32, 3) := by decide +kernel
theorem dX8_leftOut_63 : decode cX8_leftOut 63 = .ok (.iload_n 2, 1) := by decide +kernel
theorem dX8_leftOut_64 : decode cX8_leftOut 64 = .ok (.iload_n 1, 1) := by decide +kernel
theorem dX8_leftOut_65 : decode cX8_leftOut 65 = .ok (.if_icmp .ne 8, 3) := by decide +kernel
theorem dX8_leftOut_68 : decode cX8_leftOut 68 = .ok (.iload 6, 2) := by decide +kernel
theorem dX8_leftOut_70 : decode cX8_leftOut 70 = .ok (.goto 4, 3) := by decide +kernel
theorem dX8_leftOut_73 : decode cX8_leftOut 73 = .ok (.iload_n 3, 1) := by decide +kernel
theorem dX8_leftOut_74 : decode cX8_leftOut 74 = .ok (.istore_n 3, 1) := by decide +kernel
theorem dX8_leftOut_75 : decode cX8_leftOut 75 = .ok (.iinc 2 1, 3) := by decide +kernel
theorem dX8_leftOut_78 : decode cX8_leftOut 78 = .ok (.iload 4, 2) := by decide +kernel
theorem dX8_leftOut_80 : decode cX8_leftOut 80 = .ok (.iload 6, 2) := by decide +kernel
theorem dX8_leftOut_82 : decode cX8_leftOut 82 = .ok (.iand, 1) := by decide +kernel
theorem dX8_leftOut_83 : decode cX8_leftOut 83 = .ok (.istore 4, 2) := by decide +kernel
theorem dX8_leftOut_85 : decode cX8_leftOut 85 = .ok (.iload 5, 2) := by decide +kernel
theorem dX8_leftOut_87 : decode cX8_leftOut 87 = .ok (.iload 6, 2) := by decide +kernel
theorem dX8_leftOut_89 : decode cX8_leftOut 89 = .ok (.ior, 1) := by decide +kernel
theorem dX8_leftOut_90 : decode cX8_leftOut 90 = .ok (.istore 5, 2) := by decide +kernel
theorem dX8_leftOut_92 : decode cX8_leftOut 92 = .ok (.iinc 6 1, 3) := by decide +kernel
theorem dX8_leftOut_95 : decode cX8_leftOut 95 = .ok (.goto (-76), 3) := by decide +kernel
theorem dX8_leftOut_98 : decode cX8_leftOut 98 = .ok (.iload_n 1, 1) := by decide +kernel
theorem dX8_leftOut_99 : decode cX8_leftOut 99 = .ok (.iconst (-1), 1) := by decide +kernel
theorem dX8_leftOut_100 : decode cX8_leftOut 100 = .ok (.if_icmp .ne 7, 3) := by decide +kernel
theorem dX8_leftOut_103 : decode cX8_leftOut 103 = .ok (.iload_n 2, 1) := by decide +kernel
theorem dX8_leftOut_104 : decode cX8_leftOut 104 = .ok (.goto 44, 3) := by decide +kernel
theorem dX8_leftOut_107 : decode cX8_leftOut 107 = .ok (.iload_n 1, 1) := by decide +kernel
theorem dX8_leftOut_108 : decode cX8_leftOut 108 = .ok (.bipush (-2), 2) := by decide +kernel
theorem dX8_leftOut_110 : decode cX8_leftOut 110 = .ok (.if_icmp .ne 16, 3) := by decide +kernel
theorem dX8_leftOut_113 : decode cX8_leftOut 113 = .ok (.iload_n 2, 1) := by decide +kernel
theorem dX8_leftOut_114 : decode cX8_leftOut 114 = .ok (.ifCond .ne 7, 3) := by decide +kernel
theorem dX8_leftOut_117 : decode cX8_leftOut 117 = .ok (.iconst 0, 1) := by decide +kernel
theorem dX8_leftOut_118 : decode cX8_leftOut 118 = .ok (.goto 30, 3) := by decide +kernel
theorem dX8_leftOut_121 : decode cX8_leftOut 121 = .ok (.iload 4, 2) := by decide +kernel
theorem dX8_leftOut_123 : decode cX8_leftOut 123 = .ok (.goto 25, 3) := by decide +kernel
theorem dX8_leftOut_126 : decode cX8_leftOut 126 = .ok (.iload_n 1, 1) := by decide +kernel
theorem dX8_leftOut_127 : decode cX8_leftOut 127 = .ok (.bipush (-3), 2) := by decide +kernel
theorem dX8_leftOut_129 : decode cX8_leftOut 129 = .ok (.if_icmp .ne 18, 3) := by decide +kernel
theorem dX8_leftOut_132 : decode cX8_leftOut 132 = .ok (.aload_n 0, 1) := by decide +kernel
theorem dX8_leftOut_133 : decode cX8_leftOut 133 = .ok (.getfield 16, 3) := by decide +kernel
theorem dX8_leftOut_136 : decode cX8_leftOut 136 = .ok (.bipush 13, 2) := by decide +kernel
theorem dX8_leftOut_138 : decode cX8_leftOut 138 = .ok (.iaload, 1) := by decide +kernel
theorem dX8_leftOut_139 : decode cX8_leftOut 139 = .ok (.iload 5, 2) := by decide +kernel
theorem dX8_leftOut_141 : decode cX8_leftOut 141 = .ok (.iconst (-1), 1) := by decide +kernel
theorem dX8_leftOut_142 : decode cX8_leftOut 142 = .ok (.ixor, 1) := by decide +kernel
theorem dX8_leftOut_143 : decode cX8_leftOut 143 = .ok (.iand, 1) := by decide +kernel
theorem dX8_leftOut_144 : decode cX8_leftOut 144 = .ok (.goto 4, 3) := by decide +kernel
theorem dX8_leftOut_147 : decode cX8_leftOut 147 = .ok (.iload_n 3, 1) := by decide +kernel
theorem dX8_leftOut_148 : decode cX8_leftOut 148 = .ok (.ireturn, 1) := by decide +kernel
theorem dX8_strengths_0 : decode cX8_strengths 0 = .ok (.aload_n 0, 1) := by decide +kernel
theorem dX8_strengths_1 : decode cX8_strengths 1 = .ok (.iload_n 1, 1) := by decide +kernel
theorem dX8_strengths_2 : decode cX8_strengths 2 = .ok (.invokevirtual 144, 3) := by decide +kernel
theorem dX8_strengths_5 : decode cX8_strengths 5 = .ok (.ifCond .eq 11, 3) := by decide +kernel
theorem dX8_strengths_8 : decode cX8_strengths 8 = .ok (.aload_n 0, 1) := by decide +kernel
theorem dX8_strengths_9 : decode cX8_strengths 9 = .ok (.iload_n 2, 1) := by decide +kernel
theorem dX8_strengths_10 : decode cX8_strengths 10 = .ok (.invokevirtual 173, 3) := by decide +kernel
theorem dX8_strengths_13 : decode cX8_strengths 13 = .ok (.ifCond .ne 6, 3) := by decide +kernel
theorem dX8_strengths_16 : decode cX8_strengths 16 = .ok (.ldc 143, 2) := by decide +kernel
theorem dX8_strengths_18 : decode cX8_strengths 18 = .ok (.ireturn, 1) := by decide +kernel
theorem dX8_strengths_19 : decode cX8_strengths 19 = .ok (.aload_n 0, 1) := by decide +kernel
theorem dX8_strengths_20 : decode cX8_strengths 20 = .ok (.iload_n 2, 1) := by decide +kernel
theorem dX8_strengths_21 : decode cX8_strengths 21 = .ok (.aload_n 0, 1) := by decide +kernel
theorem dX8_strengths_22 : decode cX8_strengths 22 = .ok (.getfield 16, 3) := by decide +kernel
theorem dX8_strengths_25 : decode cX8_strengths 25 = .ok (.bipush 13, 2) := by decide +kernel
theorem dX8_strengths_27 : decode cX8_strengths 27 = .ok (.iaload, 1) := by decide +kernel
theorem dX8_strengths_28 : decode cX8_strengths 28 = .ok (.invokevirtual 176, 3) := by decide +kernel
theorem dX8_strengths_31 : decode cX8_strengths 31 = .ok (.ifCond .ne 6, 3) := by decide +kernel
theorem dX8_strengths_34 : decode cX8_strengths 34 = .ok (.ldc 179, 2) := by decide +kernel
theorem dX8_strengths_36 : decode cX8_strengths 36 = .ok (.ireturn, 1) := by decide +kernel
theorem dX8_strengths_37 : decode cX8_strengths 37 = .ok (.iconst 0, 1) := by decide +kernel
theorem dX8_strengths_38 : decode cX8_strengths 38 = .ok (.istore_n 3, 1) := by decide +kernel
theorem dX8_strengths_39 : decode cX8_strengths 39 = .ok (.iconst 0, 1) := by decide +kernel
theorem dX8_strengths_40 : decode cX8_strengths 40 = .ok (.istore 4, 2) := by decide +kernel
theorem dX8_strengths_42 : decode cX8_strengths 42 = .ok (.iload 4, 2) := by decide +kernel
theorem dX8_strengths_44 : decode cX8_strengths 44 = .ok (.bipush 19, 2) := by decide +kernel
theorem dX8_strengths_46 : decode cX8_strengths 46 = .ok (.if_icmp .ge 103, 3) := by decide +kernel
theorem dX8_strengths_49 : decode cX8_strengths 49 = .ok (.aload_n 0, 1) := by decide +kernel
theorem dX8_strengths_50 : decode cX8_strengths 50 = .ok (.getfield 16, 3) := by decide +kernel
theorem dX8_strengths_53 : decode cX8_strengths 53 = .ok (.iconst 0, 1) := by decide +kernel
theorem dX8_strengths_54 : decode cX8_strengths 54 = .ok (.aload_n 0, 1) := by decide +kernel
theorem dX8_strengths_55 : decode cX8_strengths 55 = .ok (.getfield 42, 3) := by decide +kernel
theorem dX8_strengths_58 : decode cX8_strengths 58 = .ok (.iconst 0, 1) := by decide +kernel
theorem dX8_strengths_59 : decode cX8_strengths 59 = .ok (.bipush 17, 2) := by decide +kernel
theorem dX8_strengths_61 : decode cX8_strengths 61 = .ok (.invokestatic 165, 3) := by decide +kernel
theorem dX8_strengths_64 : decode cX8_strengths 64 = .ok (.iconst 0, 1) := by decide +kernel
theorem dX8_strengths_65 : decode cX8_strengths 65 = .ok (.istore 5, 2) := by decide +kernel
theorem dX8_strengths_67 : decode cX8_strengths 67 = .ok (.iload 5, 2) := by decide +kernel
theorem dX8_strengths_69 : decode cX8_strengths 69 = .ok (.aload_n 0, 1) := by decide +kernel
theorem dX8_strengths_70 : decode cX8_strengths 70 = .ok (.getfield 7, 3) := by decide +kernel
theorem dX8_strengths_73 : decode cX8_strengths 73 = .ok (.iconst 2, 1) := by decide +kernel
theorem dX8_strengths_74 : decode cX8_strengths 74 = .ok (.iaload, 1) := by decide +kernel
theorem dX8_strengths_75 : decode cX8_strengths 75 = .ok (.if_icmp .ge 50, 3) := by decide +kernel
theorem dX8_strengths_78 : decode cX8_strengths 78 = .ok (.iload_n 2, 1) := by decide +kernel
theorem dX8_strengths_79 : decode cX8_strengths 79 = .ok (.iload 5, 2) := by decide +kernel
theorem dX8_strengths_81 : decode cX8_strengths 81 = .ok (.invokestatic 147, 3) := by decide +kernel
theorem dX8_strengths_84 : decode cX8_strengths 84 = .ok (.ifCond .eq 35, 3) := by decide +kernel
theorem dX8_strengths_87 : decode cX8_strengths 87 = .ok (.aload_n 0, 1) := by decide +kernel
theorem dX8_strengths_88 : decode cX8_strengths 88 = .ok (.aload_n 0, 1) := by decide +kernel
theorem dX8_strengths_89 : decode cX8_strengths 89 = .ok (.getfield 42, 3) := by decide +kernel
theorem dX8_strengths_92 : decode cX8_strengths 92 = .ok (.iload 5, 2) := by decide +kernel
theorem dX8_strengths_94 : decode cX8_strengths 94 = .ok (.iload 5, 2) := by decide +kernel
theorem dX8_strengths_96 : decode cX8_strengths 96 = .ok (.iload_n 1, 1) := by decide +kernel
theorem dX8_strengths_97 : decode cX8_strengths 97 = .ok (.if_icmp .ne 11, 3) := by decide +kernel
theorem dX8_strengths_100 : decode cX8_strengths 100 = .ok (.iload 4, 2) := by decide +kernel
theorem dX8_strengths_102 : decode cX8_strengths 102 = .ok (.bipush 9, 2) := by decide +kernel
theorem dX8_strengths_104 : decode cX8_strengths 104 = .ok (.isub, 1) := by decide +kernel
theorem dX8_strengths_105 : decode cX8_strengths 105 = .ok (.goto 9, 3) := by decide +kernel
theorem dX8_strengths_108 : decode cX8_strengths 108 = .ok (.aload_n 0, 1) := by decide +kernel
theorem dX8_strengths_109 : decode cX8_strengths 109 = .ok (.iload 5, 2) := by decide +kernel
theorem dX8_strengths_111 : decode cX8_strengths 111 = .ok (.invokevirtual 155, 3) := by decide +kernel
theorem dX8_strengths_114 : decode cX8_strengths 114 = .ok (.invokevirtual 158, 3) := by decide +kernel
theorem dX8_strengths_117 : decode cX8_strengths 117 = .ok (.istore 6, 2) := by decide +kernel
theorem dX8_strengths_119 : decode cX8_strengths 119 = .ok (.iinc 5 1, 3) := by decide +kernel
theorem dX8_strengths_122 : decode cX8_strengths 122 = .ok (.goto (-55), 3) := by decide +kernel
theorem dX8_strengths_125 : decode cX8_strengths 125 = .ok (.iload_n 3, 1) := by decide +kernel
theorem dX8_strengths_126 : decode cX8_strengths 126 = .ok (.aload_n 0, 1) := by decide +kernel
theorem dX8_strengths_127 : decode cX8_strengths 127 = .ok (.invokevirtual 249, 3) := by decide +kernel
theorem dX8_strengths_130 : decode cX8_strengths 130 = .ok (.ifCond .eq 10, 3) := by decide +kernel
theorem dX8_strengths_133 : decode cX8_strengths 133 = .ok (.iconst 1, 1) := by decide +kernel
theorem dX8_strengths_134 : decode cX8_strengths 134 = .ok (.iload 4, 2) := by decide +kernel
theorem dX8_strengths_136 : decode cX8_strengths 136 = .ok (.ishl, 1) := by decide +kernel
theorem dX8_strengths_137 : decode cX8_strengths 137 = .ok (.goto 4, 3) := by decide +kernel
theorem dX8_strengths_140 : decode cX8_strengths 140 = .ok (.iconst 0, 1) := by decide +kernel
theorem dX8_strengths_141 : decode cX8_strengths 141 = .ok (.ior, 1) := by decide +kernel
theorem dX8_strengths_142 : decode cX8_strengths 142 = .ok (.istore_n 3, 1) := by decide +kernel
theorem dX8_strengths_143 : decode cX8_strengths 143 = .ok (.iinc 4 1, 3) := by decide +kernel
theorem dX8_strengths_146 : decode cX8_strengths 146 = .ok (.goto (-104), 3) := by decide +kernel
theorem dX8_strengths_149 : decode cX8_strengths 149 = .ok (.iload_n 3, 1) := by decide +kernel
theorem dX8_strengths_150 : decode cX8_strengths 150 = .ok (.ireturn, 1) := by decide +kernel
theorem dX8_write_0 : decode cX8_write 0 = .ok (.aload_n 0, 1) := by decide +kernel
theorem dX8_write_1 : decode cX8_write 1 = .ok (.iload_n 1, 1) := by decide +kernel
theorem dX8_write_2 : decode cX8_write 2 = .ok (.invokevirtual 140, 3) := by decide +kernel
theorem dX8_write_5 : decode cX8_write 5 = .ok (.ifCond .ne 6, 3) := by decide +kernel
theorem dX8_write_8 : decode cX8_write 8 = .ok (.ldc 143, 2) := by decide +kernel
theorem dX8_write_10 : decode cX8_write 10 = .ok (.ireturn, 1) := by decide +kernel
theorem dX8_write_11 : decode cX8_write 11 = .ok (.iload_n 2, 1) := by decide +kernel
theorem dX8_write_12 : decode cX8_write 12 = .ok (.i2l, 1) := by decide +kernel
theorem dX8_write_13 : decode cX8_write 13 = .ok (.lconst 0, 1) := by decide +kernel
theorem dX8_write_14 : decode cX8_write 14 = .ok (.ldc2_w 188, 3) := by decide +kernel
theorem dX8_write_17 : decode cX8_write 17 = .ok (.invokestatic 74, 3) := by decide +kernel
theorem dX8_write_20 : decode cX8_write 20 = .ok (.ifCond .ne 6, 3) := by decide +kernel
theorem dX8_write_23 : decode cX8_write 23 = .ok (.ldc 78, 2) := by decide +kernel
theorem dX8_write_25 : decode cX8_write 25 = .ok (.ireturn, 1) := by decide +kernel
theorem dX8_write_26 : decode cX8_write 26 = .ok (.aload_n 0, 1) := by decide +kernel
theorem dX8_write_27 : decode cX8_write 27 = .ok (.getfield 69, 3) := by decide +kernel
theorem dX8_write_30 : decode cX8_write 30 = .ok (.bipush 15, 2) := by decide +kernel
theorem dX8_write_32 : decode cX8_write 32 = .ok (.if_icmp .ne 6, 3) := by decide +kernel
theorem dX8_write_35 : decode cX8_write 35 = .ok (.ldc 82, 2) := by decide +kernel
theorem dX8_write_37 : decode cX8_write 37 = .ok (.ireturn, 1) := by decide +kernel
theorem dX8_write_38 : decode cX8_write 38 = .ok (.aload_n 0, 1) := by decide +kernel
theorem dX8_write_39 : decode cX8_write 39 = .ok (.getfield 39, 3) := by decide +kernel
theorem dX8_write_42 : decode cX8_write 42 = .ok (.iconst 2, 1) := by decide +kernel
theorem dX8_write_43 : decode cX8_write 43 = .ok (.aload_n 0, 1) := by decide +kernel
theorem dX8_write_44 : decode cX8_write 44 = .ok (.getfield 69, 3) := by decide +kernel
theorem dX8_write_47 : decode cX8_write 47 = .ok (.imul, 1) := by decide +kernel
theorem dX8_write_48 : decode cX8_write 48 = .ok (.iload_n 1, 1) := by decide +kernel
theorem dX8_write_49 : decode cX8_write 49 = .ok (.iastore, 1) := by decide +kernel
theorem dX8_write_50 : decode cX8_write 50 = .ok (.aload_n 0, 1) := by decide +kernel
theorem dX8_write_51 : decode cX8_write 51 = .ok (.getfield 39, 3) := by decide +kernel
theorem dX8_write_54 : decode cX8_write 54 = .ok (.iconst 2, 1) := by decide +kernel
theorem dX8_write_55 : decode cX8_write 55 = .ok (.aload_n 0, 1) := by decide +kernel
theorem dX8_write_56 : decode cX8_write 56 = .ok (.getfield 69, 3) := by decide +kernel
theorem dX8_write_59 : decode cX8_write 59 = .ok (.imul, 1) := by decide +kernel
theorem dX8_write_60 : decode cX8_write 60 = .ok (.iconst 1, 1) := by decide +kernel
theorem dX8_write_61 : decode cX8_write 61 = .ok (.iadd, 1) := by decide +kernel
theorem dX8_write_62 : decode cX8_write 62 = .ok (.iload_n 2, 1) := by decide +kernel
theorem dX8_write_63 : decode cX8_write 63 = .ok (.iastore, 1) := by decide +kernel
theorem dX8_write_64 : decode cX8_write 64 = .ok (.aload_n 0, 1) := by decide +kernel
theorem dX8_write_65 : decode cX8_write 65 = .ok (.dup, 1) := by decide +kernel
theorem dX8_write_66 : decode cX8_write 66 = .ok (.getfield 69, 3) := by decide +kernel
theorem dX8_write_69 : decode cX8_write 69 = .ok (.iconst 1, 1) := by decide +kernel
theorem dX8_write_70 : decode cX8_write 70 = .ok (.iadd, 1) := by decide +kernel
theorem dX8_write_71 : decode cX8_write 71 = .ok (.putfield 69, 3) := by decide +kernel
theorem dX8_write_74 : decode cX8_write 74 = .ok (.aload_n 0, 1) := by decide +kernel
theorem dX8_write_75 : decode cX8_write 75 = .ok (.getfield 69, 3) := by decide +kernel
theorem dX8_write_78 : decode cX8_write 78 = .ok (.ireturn, 1) := by decide +kernel
theorem dX8_tear_0 : decode cX8_tear 0 = .ok (.aload_n 0, 1) := by decide +kernel
theorem dX8_tear_1 : decode cX8_tear 1 = .ok (.getfield 66, 3) := by decide +kernel
theorem dX8_tear_4 : decode cX8_tear 4 = .ok (.aload_n 0, 1) := by decide +kernel
theorem dX8_tear_5 : decode cX8_tear 5 = .ok (.getfield 69, 3) := by decide +kernel
theorem dX8_tear_8 : decode cX8_tear 8 = .ok (.iadd, 1) := by decide +kernel
theorem dX8_tear_9 : decode cX8_tear 9 = .ok (.istore_n 1, 1) := by decide +kernel
theorem dX8_tear_10 : decode cX8_tear 10 = .ok (.aload_n 0, 1) := by decide +kernel
theorem dX8_tear_11 : decode cX8_tear 11 = .ok (.iconst 0, 1) := by decide +kernel
theorem dX8_tear_12 : decode cX8_tear 12 = .ok (.putfield 66, 3) := by decide +kernel
theorem dX8_tear_15 : decode cX8_tear 15 = .ok (.aload_n 0, 1) := by decide +kernel
theorem dX8_tear_16 : decode cX8_tear 16 = .ok (.iconst 0, 1) := by decide +kernel
theorem dX8_tear_17 : decode cX8_tear 17 = .ok (.putfield 69, 3) := by decide +kernel
theorem dX8_tear_20 : decode cX8_tear 20 = .ok (.iload_n 1, 1) := by decide +kernel
theorem dX8_tear_21 : decode cX8_tear 21 = .ok (.ireturn, 1) := by decide +kernel
theorem dX8_judge_0 : decode cX8_judge 0 = .ok (.iconst 0, 1) := by decide +kernel
theorem dX8_judge_1 : decode cX8_judge 1 = .ok (.istore_n 1, 1) := by decide +kernel
theorem dX8_judge_2 : decode cX8_judge 2 = .ok (.iload_n 1, 1) := by decide +kernel
theorem dX8_judge_3 : decode cX8_judge 3 = .ok (.aload_n 0, 1) := by decide +kernel
theorem dX8_judge_4 : decode cX8_judge 4 = .ok (.getfield 69, 3) := by decide +kernel
theorem dX8_judge_7 : decode cX8_judge 7 = .ok (.if_icmp .ge 37, 3) := by decide +kernel
theorem dX8_judge_10 : decode cX8_judge 10 = .ok (.aload_n 0, 1) := by decide +kernel
theorem dX8_judge_11 : decode cX8_judge 11 = .ok (.getfield 16, 3) := by decide +kernel
theorem dX8_judge_14 : decode cX8_judge 14 = .ok (.aload_n 0, 1) := by decide +kernel
theorem dX8_judge_15 : decode cX8_judge 15 = .ok (.getfield 39, 3) := by decide +kernel
theorem dX8_judge_18 : decode cX8_judge 18 = .ok (.iconst 2, 1) := by decide +kernel
theorem dX8_judge_19 : decode cX8_judge 19 = .ok (.iload_n 1, 1) := by decide +kernel
theorem dX8_judge_20 : decode cX8_judge 20 = .ok (.imul, 1) := by decide +kernel
theorem dX8_judge_21 : decode cX8_judge 21 = .ok (.iaload, 1) := by decide +kernel
theorem dX8_judge_22 : decode cX8_judge 22 = .ok (.iaload, 1) := by decide +kernel
theorem dX8_judge_23 : decode cX8_judge 23 = .ok (.aload_n 0, 1) := by decide +kernel
theorem dX8_judge_24 : decode cX8_judge 24 = .ok (.getfield 39, 3) := by decide +kernel
theorem dX8_judge_27 : decode cX8_judge 27 = .ok (.iconst 2, 1) := by decide +kernel
theorem dX8_judge_28 : decode cX8_judge 28 = .ok (.iload_n 1, 1) := by decide +kernel
theorem dX8_judge_29 : decode cX8_judge 29 = .ok (.imul, 1) := by decide +kernel
theorem dX8_judge_30 : decode cX8_judge 30 = .ok (.iconst 1, 1) := by decide +kernel
theorem dX8_judge_31 : decode cX8_judge 31 = .ok (.iadd, 1) := by decide +kernel
theorem dX8_judge_32 : decode cX8_judge 32 = .ok (.iaload, 1) := by decide +kernel
theorem dX8_judge_33 : decode cX8_judge 33 = .ok (.if_icmp .eq 5, 3) := by decide +kernel
theorem dX8_judge_36 : decode cX8_judge 36 = .ok (.iload_n 1, 1) := by decide +kernel
theorem dX8_judge_37 : decode cX8_judge 37 = .ok (.ireturn, 1) := by decide +kernel
theorem dX8_judge_38 : decode cX8_judge 38 = .ok (.iinc 1 1, 3) := by decide +kernel
theorem dX8_judge_41 : decode cX8_judge 41 = .ok (.goto (-39), 3) := by decide +kernel
theorem dX8_judge_44 : decode cX8_judge 44 = .ok (.iconst (-1), 1) := by decide +kernel
theorem dX8_judge_45 : decode cX8_judge 45 = .ok (.ireturn, 1) := by decide +kernel
theorem dX8_seed_0 : decode cX8_seed 0 = .ok (.iload_n 1, 1) := by decide +kernel
theorem dX8_seed_1 : decode cX8_seed 1 = .ok (.ifCond .ge 6, 3) := by decide +kernel
theorem dX8_seed_4 : decode cX8_seed 4 = .ok (.ldc 78, 2) := by decide +kernel
theorem dX8_seed_6 : decode cX8_seed 6 = .ok (.ireturn, 1) := by decide +kernel
theorem dX8_seed_7 : decode cX8_seed 7 = .ok (.aload_n 0, 1) := by decide +kernel
theorem dX8_seed_8 : decode cX8_seed 8 = .ok (.getfield 190, 3) := by decide +kernel
theorem dX8_seed_11 : decode cX8_seed 11 = .ok (.l2i, 1) := by decide +kernel
theorem dX8_seed_12 : decode cX8_seed 12 = .ok (.istore_n 2, 1) := by decide +kernel
theorem dX8_seed_13 : decode cX8_seed 13 = .ok (.aload_n 0, 1) := by decide +kernel
theorem dX8_seed_14 : decode cX8_seed 14 = .ok (.iload_n 1, 1) := by decide +kernel
theorem dX8_seed_15 : decode cX8_seed 15 = .ok (.i2l, 1) := by decide +kernel
theorem dX8_seed_16 : decode cX8_seed 16 = .ok (.putfield 190, 3) := by decide +kernel
theorem dX8_seed_19 : decode cX8_seed 19 = .ok (.iload_n 2, 1) := by decide +kernel
theorem dX8_seed_20 : decode cX8_seed 20 = .ok (.ireturn, 1) := by decide +kernel
theorem dX8_keep_0 : decode cX8_keep 0 = .ok (.iload_n 1, 1) := by decide +kernel
theorem dX8_keep_1 : decode cX8_keep 1 = .ok (.i2l, 1) := by decide +kernel
theorem dX8_keep_2 : decode cX8_keep 2 = .ok (.lconst 0, 1) := by decide +kernel
theorem dX8_keep_3 : decode cX8_keep 3 = .ok (.lconst 1, 1) := by decide +kernel
theorem dX8_keep_4 : decode cX8_keep 4 = .ok (.invokestatic 74, 3) := by decide +kernel
theorem dX8_keep_7 : decode cX8_keep 7 = .ok (.ifCond .ne 6, 3) := by decide +kernel
theorem dX8_keep_10 : decode cX8_keep 10 = .ok (.ldc 143, 2) := by decide +kernel
theorem dX8_keep_12 : decode cX8_keep 12 = .ok (.ireturn, 1) := by decide +kernel
theorem dX8_keep_13 : decode cX8_keep 13 = .ok (.aload_n 0, 1) := by decide +kernel
theorem dX8_keep_14 : decode cX8_keep 14 = .ok (.getfield 16, 3) := by decide +kernel
theorem dX8_keep_17 : decode cX8_keep 17 = .ok (.iconst 0, 1) := by decide +kernel
theorem dX8_keep_18 : decode cX8_keep 18 = .ok (.aload_n 0, 1) := by decide +kernel
theorem dX8_keep_19 : decode cX8_keep 19 = .ok (.getfield 22, 3) := by decide +kernel
theorem dX8_keep_22 : decode cX8_keep 22 = .ok (.bipush 18, 2) := by decide +kernel
theorem dX8_keep_24 : decode cX8_keep 24 = .ok (.iload_n 1, 1) := by decide +kernel
theorem dX8_keep_25 : decode cX8_keep 25 = .ok (.imul, 1) := by decide +kernel
theorem dX8_keep_26 : decode cX8_keep 26 = .ok (.bipush 17, 2) := by decide +kernel
theorem dX8_keep_28 : decode cX8_keep 28 = .ok (.invokestatic 165, 3) := by decide +kernel
theorem dX8_keep_31 : decode cX8_keep 31 = .ok (.aload_n 0, 1) := by decide +kernel
theorem dX8_keep_32 : decode cX8_keep 32 = .ok (.getfield 22, 3) := by decide +kernel
theorem dX8_keep_35 : decode cX8_keep 35 = .ok (.bipush 18, 2) := by decide +kernel
theorem dX8_keep_37 : decode cX8_keep 37 = .ok (.iload_n 1, 1) := by decide +kernel
theorem dX8_keep_38 : decode cX8_keep 38 = .ok (.imul, 1) := by decide +kernel
theorem dX8_keep_39 : decode cX8_keep 39 = .ok (.bipush 17, 2) := by decide +kernel
theorem dX8_keep_41 : decode cX8_keep 41 = .ok (.iadd, 1) := by decide +kernel
theorem dX8_keep_42 : decode cX8_keep 42 = .ok (.aload_n 0, 1) := by decide +kernel
theorem dX8_keep_43 : decode cX8_keep 43 = .ok (.getfield 190, 3) := by decide +kernel
theorem dX8_keep_46 : decode cX8_keep 46 = .ok (.l2i, 1) := by decide +kernel
theorem dX8_keep_47 : decode cX8_keep 47 = .ok (.iastore, 1) := by decide +kernel
theorem dX8_keep_48 : decode cX8_keep 48 = .ok (.aload_n 0, 1) := by decide +kernel
theorem dX8_keep_49 : decode cX8_keep 49 = .ok (.getfield 25, 3) := by decide +kernel
theorem dX8_keep_52 : decode cX8_keep 52 = .ok (.iload_n 1, 1) := by decide +kernel
theorem dX8_keep_53 : decode cX8_keep 53 = .ok (.iconst 1, 1) := by decide +kernel
theorem dX8_keep_54 : decode cX8_keep 54 = .ok (.bastore, 1) := by decide +kernel
theorem dX8_keep_55 : decode cX8_keep 55 = .ok (.aload_n 0, 1) := by decide +kernel
theorem dX8_keep_56 : decode cX8_keep 56 = .ok (.iconst 0, 1) := by decide +kernel
theorem dX8_keep_57 : decode cX8_keep 57 = .ok (.putfield 63, 3) := by decide +kernel
theorem dX8_keep_60 : decode cX8_keep 60 = .ok (.iconst 1, 1) := by decide +kernel
theorem dX8_keep_61 : decode cX8_keep 61 = .ok (.ireturn, 1) := by decide +kernel
theorem dX8_goBack_0 : decode cX8_goBack 0 = .ok (.iload_n 1, 1) := by decide +kernel
theorem dX8_goBack_1 : decode cX8_goBack 1 = .ok (.i2l, 1) := by decide +kernel
theorem dX8_goBack_2 : decode cX8_goBack 2 = .ok (.lconst 0, 1) := by decide +kernel
theorem dX8_goBack_3 : decode cX8_goBack 3 = .ok (.lconst 1, 1) := by decide +kernel
theorem dX8_goBack_4 : decode cX8_goBack 4 = .ok (.invokestatic 74, 3) := by decide +kernel
theorem dX8_goBack_7 : decode cX8_goBack 7 = .ok (.ifCond .ne 6, 3) := by decide +kernel
theorem dX8_goBack_10 : decode cX8_goBack 10 = .ok (.ldc 143, 2) := by decide +kernel
theorem dX8_goBack_12 : decode cX8_goBack 12 = .ok (.ireturn, 1) := by decide +kernel
theorem dX8_goBack_13 : decode cX8_goBack 13 = .ok (.aload_n 0, 1) := by decide +kernel
theorem dX8_goBack_14 : decode cX8_goBack 14 = .ok (.getfield 25, 3) := by decide +kernel
theorem dX8_goBack_17 : decode cX8_goBack 17 = .ok (.iload_n 1, 1) := by decide +kernel
theorem dX8_goBack_18 : decode cX8_goBack 18 = .ok (.baload, 1) := by decide +kernel
theorem dX8_goBack_19 : decode cX8_goBack 19 = .ok (.ifCond .ne 6, 3) := by decide +kernel
theorem dX8_goBack_22 : decode cX8_goBack 22 = .ok (.ldc 179, 2) := by decide +kernel
theorem dX8_goBack_24 : decode cX8_goBack 24 = .ok (.ireturn, 1) := by decide +kernel
theorem dX8_goBack_25 : decode cX8_goBack 25 = .ok (.aload_n 0, 1) := by decide +kernel
theorem dX8_goBack_26 : decode cX8_goBack 26 = .ok (.getfield 22, 3) := by decide +kernel
theorem dX8_goBack_29 : decode cX8_goBack 29 = .ok (.bipush 18, 2) := by decide +kernel
theorem dX8_goBack_31 : decode cX8_goBack 31 = .ok (.iload_n 1, 1) := by decide +kernel
theorem dX8_goBack_32 : decode cX8_goBack 32 = .ok (.imul, 1) := by decide +kernel
theorem dX8_goBack_33 : decode cX8_goBack 33 = .ok (.aload_n 0, 1) := by decide +kernel
theorem dX8_goBack_34 : decode cX8_goBack 34 = .ok (.getfield 16, 3) := by decide +kernel
theorem dX8_goBack_37 : decode cX8_goBack 37 = .ok (.iconst 0, 1) := by decide +kernel
theorem dX8_goBack_38 : decode cX8_goBack 38 = .ok (.bipush 17, 2) := by decide +kernel
theorem dX8_goBack_40 : decode cX8_goBack 40 = .ok (.invokestatic 165, 3) := by decide +kernel
theorem dX8_goBack_43 : decode cX8_goBack 43 = .ok (.aload_n 0, 1) := by decide +kernel
theorem dX8_goBack_44 : decode cX8_goBack 44 = .ok (.aload_n 0, 1) := by decide +kernel
theorem dX8_goBack_45 : decode cX8_goBack 45 = .ok (.getfield 22, 3) := by decide +kernel
theorem dX8_goBack_48 : decode cX8_goBack 48 = .ok (.bipush 18, 2) := by decide +kernel
theorem dX8_goBack_50 : decode cX8_goBack 50 = .ok (.iload_n 1, 1) := by decide +kernel
theorem dX8_goBack_51 : decode cX8_goBack 51 = .ok (.imul, 1) := by decide +kernel
theorem dX8_goBack_52 : decode cX8_goBack 52 = .ok (.bipush 17, 2) := by decide +kernel
theorem dX8_goBack_54 : decode cX8_goBack 54 = .ok (.iadd, 1) := by decide +kernel
theorem dX8_goBack_55 : decode cX8_goBack 55 = .ok (.iaload, 1) := by decide +kernel
theorem dX8_goBack_56 : decode cX8_goBack 56 = .ok (.i2l, 1) := by decide +kernel
theorem dX8_goBack_57 : decode cX8_goBack 57 = .ok (.putfield 190, 3) := by decide +kernel
theorem dX8_goBack_60 : decode cX8_goBack 60 = .ok (.aload_n 0, 1) := by decide +kernel
theorem dX8_goBack_61 : decode cX8_goBack 61 = .ok (.iconst 0, 1) := by decide +kernel
theorem dX8_goBack_62 : decode cX8_goBack 62 = .ok (.putfield 63, 3) := by decide +kernel
theorem dX8_goBack_65 : decode cX8_goBack 65 = .ok (.iconst 1, 1) := by decide +kernel
theorem dX8_goBack_66 : decode cX8_goBack 66 = .ok (.ireturn, 1) := by decide +kernel
