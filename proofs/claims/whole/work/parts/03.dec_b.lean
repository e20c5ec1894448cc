theorem dX7_init_0 : decode cX7_init 0 = .ok (.aload_n 0, 1) := by decide +kernel
theorem dX7_init_1 : decode cX7_init 1 = .ok (.invokespecial 1, 3) := by decide +kernel
theorem dX7_init_4 : decode cX7_init 4 = .ok (.aload_n 0, 1) := by decide +kernel
theorem dX7_init_5 : decode cX7_init 5 = .ok (.new 7, 3) := by decide +kernel
theorem dX7_init_8 : decode cX7_init 8 = .ok (.dup, 1) := by decide +kernel
theorem dX7_init_9 : decode cX7_init 9 = .ok (.invokespecial 9, 3) := by decide +kernel
theorem dX7_init_12 : decode cX7_init 12 = .ok (.putfield 10, 3) := by decide +kernel
theorem dX7_init_15 : decode cX7_init 15 = .ok (.aload_n 0, 1) := by decide +kernel
theorem dX7_init_16 : decode cX7_init 16 = .ok (.new 16, 3) := by decide +kernel
theorem dX7_init_19 : decode cX7_init 19 = .ok (.dup, 1) := by decide +kernel
theorem dX7_init_20 : decode cX7_init 20 = .ok (.invokespecial 18, 3) := by decide +kernel
theorem dX7_init_23 : decode cX7_init 23 = .ok (.putfield 19, 3) := by decide +kernel
theorem dX7_init_26 : decode cX7_init 26 = .ok (.aload_n 0, 1) := by decide +kernel
theorem dX7_init_27 : decode cX7_init 27 = .ok (.new 16, 3) := by decide +kernel
theorem dX7_init_30 : decode cX7_init 30 = .ok (.dup, 1) := by decide +kernel
theorem dX7_init_31 : decode cX7_init 31 = .ok (.invokespecial 18, 3) := by decide +kernel
theorem dX7_init_34 : decode cX7_init 34 = .ok (.putfield 23, 3) := by decide +kernel
theorem dX7_init_37 : decode cX7_init 37 = .ok (.aload_n 0, 1) := by decide +kernel
theorem dX7_init_38 : decode cX7_init 38 = .ok (.new 26, 3) := by decide +kernel
theorem dX7_init_41 : decode cX7_init 41 = .ok (.dup, 1) := by decide +kernel
theorem dX7_init_42 : decode cX7_init 42 = .ok (.invokespecial 28, 3) := by decide +kernel
theorem dX7_init_45 : decode cX7_init 45 = .ok (.putfield 29, 3) := by decide +kernel
theorem dX7_init_48 : decode cX7_init 48 = .ok (.aload_n 0, 1) := by decide +kernel
theorem dX7_init_49 : decode cX7_init 49 = .ok (.new 26, 3) := by decide +kernel
theorem dX7_init_52 : decode cX7_init 52 = .ok (.dup, 1) := by decide +kernel
theorem dX7_init_53 : decode cX7_init 53 = .ok (.invokespecial 28, 3) := by decide +kernel
theorem dX7_init_56 : decode cX7_init 56 = .ok (.putfield 33, 3) := by decide +kernel
theorem dX7_init_59 : decode cX7_init 59 = .ok (.aload_n 0, 1) := by decide +kernel
theorem dX7_init_60 : decode cX7_init 60 = .ok (.new 26, 3) := by decide +kernel
theorem dX7_init_63 : decode cX7_init 63 = .ok (.dup, 1) := by decide +kernel
theorem dX7_init_64 : decode cX7_init 64 = .ok (.invokespecial 28, 3) := by decide +kernel
theorem dX7_init_67 : decode cX7_init 67 = .ok (.putfield 36, 3) := by decide +kernel
theorem dX7_init_70 : decode cX7_init 70 = .ok (.aload_n 0, 1) := by decide +kernel
theorem dX7_init_71 : decode cX7_init 71 = .ok (.new 39, 3) := by decide +kernel
theorem dX7_init_74 : decode cX7_init 74 = .ok (.dup, 1) := by decide +kernel
theorem dX7_init_75 : decode cX7_init 75 = .ok (.invokespecial 41, 3) := by decide +kernel
theorem dX7_init_78 : decode cX7_init 78 = .ok (.putfield 42, 3) := by decide +kernel
theorem dX7_init_81 : decode cX7_init 81 = .ok (.aload_n 0, 1) := by decide +kernel
theorem dX7_init_82 : decode cX7_init 82 = .ok (.new 46, 3) := by decide +kernel
theorem dX7_init_85 : decode cX7_init 85 = .ok (.dup, 1) := by decide +kernel
theorem dX7_init_86 : decode cX7_init 86 = .ok (.invokespecial 48, 3) := by decide +kernel
theorem dX7_init_89 : decode cX7_init 89 = .ok (.putfield 49, 3) := by decide +kernel
theorem dX7_init_92 : decode cX7_init 92 = .ok (.aload_n 0, 1) := by decide +kernel
theorem dX7_init_93 : decode cX7_init 93 = .ok (.new 53, 3) := by decide +kernel
theorem dX7_init_96 : decode cX7_init 96 = .ok (.dup, 1) := by decide +kernel
theorem dX7_init_97 : decode cX7_init 97 = .ok (.iconst 2, 1) := by decide +kernel
theorem dX7_init_98 : decode cX7_init 98 = .ok (.invokespecial 55, 3) := by decide +kernel
theorem dX7_init_101 : decode cX7_init 101 = .ok (.putfield 58, 3) := by decide +kernel
theorem dX7_init_104 : decode cX7_init 104 = .ok (.aload_n 0, 1) := by decide +kernel
theorem dX7_init_105 : decode cX7_init 105 = .ok (.iconst 2, 1) := by decide +kernel
theorem dX7_init_106 : decode cX7_init 106 = .ok (.newarray .int, 2) := by decide +kernel
theorem dX7_init_108 : decode cX7_init 108 = .ok (.putfield 62, 3) := by decide +kernel
theorem dX7_init_111 : decode cX7_init 111 = .ok (.aload_n 0, 1) := by decide +kernel
theorem dX7_init_112 : decode cX7_init 112 = .ok (.iconst 0, 1) := by decide +kernel
theorem dX7_init_113 : decode cX7_init 113 = .ok (.putfield 66, 3) := by decide +kernel
theorem dX7_init_116 : decode cX7_init 116 = .ok (.aload_n 0, 1) := by decide +kernel
theorem dX7_init_117 : decode cX7_init 117 = .ok (.iconst 0, 1) := by decide +kernel
theorem dX7_init_118 : decode cX7_init 118 = .ok (.putfield 70, 3) := by decide +kernel
theorem dX7_init_121 : decode cX7_init 121 = .ok (.aload_n 0, 1) := by decide +kernel
theorem dX7_init_122 : decode cX7_init 122 = .ok (.new 73, 3) := by decide +kernel
theorem dX7_init_125 : decode cX7_init 125 = .ok (.dup, 1) := by decide +kernel
theorem dX7_init_126 : decode cX7_init 126 = .ok (.bipush 6, 2) := by decide +kernel
theorem dX7_init_128 : decode cX7_init 128 = .ok (.invokespecial 75, 3) := by decide +kernel
theorem dX7_init_131 : decode cX7_init 131 = .ok (.putfield 76, 3) := by decide +kernel
theorem dX7_init_134 : decode cX7_init 134 = .ok (.aload_n 0, 1) := by decide +kernel
theorem dX7_init_135 : decode cX7_init 135 = .ok (.new 73, 3) := by decide +kernel
theorem dX7_init_138 : decode cX7_init 138 = .ok (.dup, 1) := by decide +kernel
theorem dX7_init_139 : decode cX7_init 139 = .ok (.bipush 15, 2) := by decide +kernel
theorem dX7_init_141 : decode cX7_init 141 = .ok (.invokespecial 75, 3) := by decide +kernel
theorem dX7_init_144 : decode cX7_init 144 = .ok (.putfield 80, 3) := by decide +kernel
theorem dX7_init_147 : decode cX7_init 147 = .ok (.return_, 1) := by decide +kernel
theorem dX7_feed_0 : decode cX7_feed 0 = .ok (.iload_n 1, 1) := by decide +kernel
theorem dX7_feed_1 : decode cX7_feed 1 = .ok (.ifCond .lt 10, 3) := by decide +kernel
theorem dX7_feed_4 : decode cX7_feed 4 = .ok (.iload_n 1, 1) := by decide +kernel
theorem dX7_feed_5 : decode cX7_feed 5 = .ok (.sipush 255, 3) := by decide +kernel
theorem dX7_feed_8 : decode cX7_feed 8 = .ok (.if_icmp .le 6, 3) := by decide +kernel
theorem dX7_feed_11 : decode cX7_feed 11 = .ok (.ldc 83, 2) := by decide +kernel
theorem dX7_feed_13 : decode cX7_feed 13 = .ok (.ireturn, 1) := by decide +kernel
theorem dX7_feed_14 : decode cX7_feed 14 = .ok (.aload_n 0, 1) := by decide +kernel
theorem dX7_feed_15 : decode cX7_feed 15 = .ok (.getfield 10, 3) := by decide +kernel
theorem dX7_feed_18 : decode cX7_feed 18 = .ok (.iload_n 1, 1) := by decide +kernel
theorem dX7_feed_19 : decode cX7_feed 19 = .ok (.invokevirtual 84, 3) := by decide +kernel
theorem dX7_feed_22 : decode cX7_feed 22 = .ok (.ifCond .eq 13, 3) := by decide +kernel
theorem dX7_feed_25 : decode cX7_feed 25 = .ok (.aload_n 0, 1) := by decide +kernel
theorem dX7_feed_26 : decode cX7_feed 26 = .ok (.getfield 10, 3) := by decide +kernel
theorem dX7_feed_29 : decode cX7_feed 29 = .ok (.getfield 88, 3) := by decide +kernel
theorem dX7_feed_32 : decode cX7_feed 32 = .ok (.goto 5, 3) := by decide +kernel
theorem dX7_feed_35 : decode cX7_feed 35 = .ok (.ldc 91, 2) := by decide +kernel
theorem dX7_feed_37 : decode cX7_feed 37 = .ok (.ireturn, 1) := by decide +kernel
theorem dX7_city_0 : decode cX7_city 0 = .ok (.aload_n 0, 1) := by decide +kernel
theorem dX7_city_1 : decode cX7_city 1 = .ok (.getfield 10, 3) := by decide +kernel
theorem dX7_city_4 : decode cX7_city 4 = .ok (.aload_n 0, 1) := by decide +kernel
theorem dX7_city_5 : decode cX7_city 5 = .ok (.getfield 23, 3) := by decide +kernel
theorem dX7_city_8 : decode cX7_city 8 = .ok (.invokevirtual 92, 3) := by decide +kernel
theorem dX7_city_11 : decode cX7_city 11 = .ok (.istore_n 1, 1) := by decide +kernel
theorem dX7_city_12 : decode cX7_city 12 = .ok (.aload_n 0, 1) := by decide +kernel
theorem dX7_city_13 : decode cX7_city 13 = .ok (.getfield 10, 3) := by decide +kernel
theorem dX7_city_16 : decode cX7_city 16 = .ok (.iconst 0, 1) := by decide +kernel
theorem dX7_city_17 : decode cX7_city 17 = .ok (.putfield 88, 3) := by decide +kernel
theorem dX7_city_20 : decode cX7_city 20 = .ok (.iload_n 1, 1) := by decide +kernel
theorem dX7_city_21 : decode cX7_city 21 = .ok (.ifCond .eq 8, 3) := by decide +kernel
theorem dX7_city_24 : decode cX7_city 24 = .ok (.bipush (-10), 2) := by decide +kernel
theorem dX7_city_26 : decode cX7_city 26 = .ok (.iload_n 1, 1) := by decide +kernel
theorem dX7_city_27 : decode cX7_city 27 = .ok (.isub, 1) := by decide +kernel
theorem dX7_city_28 : decode cX7_city 28 = .ok (.ireturn, 1) := by decide +kernel
theorem dX7_city_29 : decode cX7_city 29 = .ok (.aload_n 0, 1) := by decide +kernel
theorem dX7_city_30 : decode cX7_city 30 = .ok (.getfield 19, 3) := by decide +kernel
theorem dX7_city_33 : decode cX7_city 33 = .ok (.aload_n 0, 1) := by decide +kernel
theorem dX7_city_34 : decode cX7_city 34 = .ok (.getfield 23, 3) := by decide +kernel
theorem dX7_city_37 : decode cX7_city 37 = .ok (.invokevirtual 96, 3) := by decide +kernel
theorem dX7_city_40 : decode cX7_city 40 = .ok (.aload_n 0, 1) := by decide +kernel
theorem dX7_city_41 : decode cX7_city 41 = .ok (.getfield 29, 3) := by decide +kernel
theorem dX7_city_44 : decode cX7_city 44 = .ok (.aload_n 0, 1) := by decide +kernel
theorem dX7_city_45 : decode cX7_city 45 = .ok (.getfield 19, 3) := by decide +kernel
theorem dX7_city_48 : decode cX7_city 48 = .ok (.invokevirtual 100, 3) := by decide +kernel
theorem dX7_city_51 : decode cX7_city 51 = .ok (.aload_n 0, 1) := by decide +kernel
theorem dX7_city_52 : decode cX7_city 52 = .ok (.getfield 49, 3) := by decide +kernel
theorem dX7_city_55 : decode cX7_city 55 = .ok (.invokevirtual 103, 3) := by decide +kernel
theorem dX7_city_58 : decode cX7_city 58 = .ok (.aload_n 0, 1) := by decide +kernel
theorem dX7_city_59 : decode cX7_city 59 = .ok (.getfield 76, 3) := by decide +kernel
theorem dX7_city_62 : decode cX7_city 62 = .ok (.invokevirtual 106, 3) := by decide +kernel
theorem dX7_city_65 : decode cX7_city 65 = .ok (.aload_n 0, 1) := by decide +kernel
theorem dX7_city_66 : decode cX7_city 66 = .ok (.getfield 80, 3) := by decide +kernel
theorem dX7_city_69 : decode cX7_city 69 = .ok (.invokevirtual 106, 3) := by decide +kernel
theorem dX7_city_72 : decode cX7_city 72 = .ok (.aload_n 0, 1) := by decide +kernel
theorem dX7_city_73 : decode cX7_city 73 = .ok (.iconst 0, 1) := by decide +kernel
theorem dX7_city_74 : decode cX7_city 74 = .ok (.putfield 66, 3) := by decide +kernel
theorem dX7_city_77 : decode cX7_city 77 = .ok (.aload_n 0, 1) := by decide +kernel
theorem dX7_city_78 : decode cX7_city 78 = .ok (.getfield 19, 3) := by decide +kernel
theorem dX7_city_81 : decode cX7_city 81 = .ok (.getfield 107, 3) := by decide +kernel
theorem dX7_city_84 : decode cX7_city 84 = .ok (.ireturn, 1) := by decide +kernel
theorem dX7_fault_0 : decode cX7_fault 0 = .ok (.aload_n 0, 1) := by decide +kernel
theorem dX7_fault_1 : decode cX7_fault 1 = .ok (.getfield 10, 3) := by decide +kernel
theorem dX7_fault_4 : decode cX7_fault 4 = .ok (.getfield 110, 3) := by decide +kernel
theorem dX7_fault_7 : decode cX7_fault 7 = .ok (.ireturn, 1) := by decide +kernel
theorem dX7_told_0 : decode cX7_told 0 = .ok (.iload_n 1, 1) := by decide +kernel
theorem dX7_told_1 : decode cX7_told 1 = .ok (.tableswitch 175 0 12 #[67, 75, 83, 91, 99, 107, 115, 123, 135, 143, 151, 159, 167], 67) := by decide +kernel
theorem dX7_told_68 : decode cX7_told 68 = .ok (.aload_n 0, 1) := by decide +kernel
theorem dX7_told_69 : decode cX7_told 69 = .ok (.getfield 19, 3) := by decide +kernel
theorem dX7_told_72 : decode cX7_told 72 = .ok (.getfield 113, 3) := by decide +kernel
theorem dX7_told_75 : decode cX7_told 75 = .ok (.ireturn, 1) := by decide +kernel
theorem dX7_told_76 : decode cX7_told 76 = .ok (.aload_n 0, 1) := by decide +kernel
theorem dX7_told_77 : decode cX7_told 77 = .ok (.getfield 19, 3) := by decide +kernel
theorem dX7_told_80 : decode cX7_told 80 = .ok (.getfield 116, 3) := by decide +kernel
theorem dX7_told_83 : decode cX7_told 83 = .ok (.ireturn, 1) := by decide +kernel
theorem dX7_told_84 : decode cX7_told 84 = .ok (.aload_n 0, 1) := by decide +kernel
theorem dX7_told_85 : decode cX7_told 85 = .ok (.getfield 19, 3) := by decide +kernel
theorem dX7_told_88 : decode cX7_told 88 = .ok (.getfield 107, 3) := by decide +kernel
theorem dX7_told_91 : decode cX7_told 91 = .ok (.ireturn, 1) := by decide +kernel
theorem dX7_told_92 : decode cX7_told 92 = .ok (.aload_n 0, 1) := by decide +kernel
theorem dX7_told_93 : decode cX7_told 93 = .ok (.getfield 19, 3) := by decide +kernel
theorem dX7_told_96 : decode cX7_told 96 = .ok (.getfield 119, 3) := by decide +kernel
theorem dX7_told_99 : decode cX7_told 99 = .ok (.ireturn, 1) := by decide +kernel
theorem dX7_told_100 : decode cX7_told 100 = .ok (.aload_n 0, 1) := by decide +kernel
theorem dX7_told_101 : decode cX7_told 101 = .ok (.getfield 10, 3) := by decide +kernel
theorem dX7_told_104 : decode cX7_told 104 = .ok (.getfield 88, 3) := by decide +kernel
theorem dX7_told_107 : decode cX7_told 107 = .ok (.ireturn, 1) := by decide +kernel
theorem dX7_told_108 : decode cX7_told 108 = .ok (.aload_n 0, 1) := by decide +kernel
theorem dX7_told_109 : decode cX7_told 109 = .ok (.getfield 29, 3) := by decide +kernel
theorem dX7_told_112 : decode cX7_told 112 = .ok (.getfield 122, 3) := by decide +kernel
theorem dX7_told_115 : decode cX7_told 115 = .ok (.ireturn, 1) := by decide +kernel
theorem dX7_told_116 : decode cX7_told 116 = .ok (.aload_n 0, 1) := by decide +kernel
theorem dX7_told_117 : decode cX7_told 117 = .ok (.getfield 29, 3) := by decide +kernel
theorem dX7_told_120 : decode cX7_told 120 = .ok (.getfield 125, 3) := by decide +kernel
theorem dX7_told_123 : decode cX7_told 123 = .ok (.ireturn, 1) := by decide +kernel
theorem dX7_told_124 : decode cX7_told 124 = .ok (.aload_n 0, 1) := by decide +kernel
theorem dX7_told_125 : decode cX7_told 125 = .ok (.getfield 29, 3) := by decide +kernel
theorem dX7_told_128 : decode cX7_told 128 = .ok (.aload_n 0, 1) := by decide +kernel
theorem dX7_told_129 : decode cX7_told 129 = .ok (.getfield 19, 3) := by decide +kernel
theorem dX7_told_132 : decode cX7_told 132 = .ok (.invokevirtual 128, 3) := by decide +kernel
theorem dX7_told_135 : decode cX7_told 135 = .ok (.ireturn, 1) := by decide +kernel
theorem dX7_told_136 : decode cX7_told 136 = .ok (.aload_n 0, 1) := by decide +kernel
theorem dX7_told_137 : decode cX7_told 137 = .ok (.getfield 29, 3) := by decide +kernel
theorem dX7_told_140 : decode cX7_told 140 = .ok (.getfield 131, 3) := by decide +kernel
theorem dX7_told_143 : decode cX7_told 143 = .ok (.ireturn, 1) := by decide +kernel
theorem dX7_told_144 : decode cX7_told 144 = .ok (.aload_n 0, 1) := by decide +kernel
theorem dX7_told_145 : decode cX7_told 145 = .ok (.getfield 29, 3) := by decide +kernel
theorem dX7_told_148 : decode cX7_told 148 = .ok (.getfield 134, 3) := by decide +kernel
theorem dX7_told_151 : decode cX7_told 151 = .ok (.ireturn, 1) := by decide +kernel
theorem dX7_told_152 : decode cX7_told 152 = .ok (.aload_n 0, 1) := by decide +kernel
theorem dX7_told_153 : decode cX7_told 153 = .ok (.getfield 76, 3) := by decide +kernel
theorem dX7_told_156 : decode cX7_told 156 = .ok (.getfield 137, 3) := by decide +kernel
theorem dX7_told_159 : decode cX7_told 159 = .ok (.ireturn, 1) := by decide +kernel
theorem dX7_told_160 : decode cX7_told 160 = .ok (.aload_n 0, 1) := by decide +kernel
theorem dX7_told_161 : decode cX7_told 161 = .ok (.getfield 80, 3) := by decide +kernel
theorem dX7_told_164 : decode cX7_told 164 = .ok (.getfield 137, 3) := by decide +kernel
theorem dX7_told_167 : decode cX7_told 167 = .ok (.ireturn, 1) := by decide +kernel
theorem dX7_told_168 : decode cX7_told 168 = .ok (.aload_n 0, 1) := by decide +kernel
theorem dX7_told_169 : decode cX7_told 169 = .ok (.getfield 49, 3) := by decide +kernel
theorem dX7_told_172 : decode cX7_told 172 = .ok (.getfield 138, 3) := by decide +kernel
theorem dX7_told_175 : decode cX7_told 175 = .ok (.ireturn, 1) := by decide +kernel
theorem dX7_told_176 : decode cX7_told 176 = .ok (.ldc 83, 2) := by decide +kernel
theorem dX7_told_178 : decode cX7_told 178 = .ok (.ireturn, 1) := by decide +kernel
theorem dX7_belief_0 : decode cX7_belief 0 = .ok (.aload_n 0, 1) := by decide +kernel
theorem dX7_belief_1 : decode cX7_belief 1 = .ok (.getfield 19, 3) := by decide +kernel
theorem dX7_belief_4 : decode cX7_belief 4 = .ok (.iload_n 1, 1) := by decide +kernel
theorem dX7_belief_5 : decode cX7_belief 5 = .ok (.invokevirtual 139, 3) := by decide +kernel
theorem dX7_belief_8 : decode cX7_belief 8 = .ok (.ifCond .eq 17, 3) := by decide +kernel
theorem dX7_belief_11 : decode cX7_belief 11 = .ok (.aload_n 0, 1) := by decide +kernel
theorem dX7_belief_12 : decode cX7_belief 12 = .ok (.getfield 29, 3) := by decide +kernel
theorem dX7_belief_15 : decode cX7_belief 15 = .ok (.getfield 142, 3) := by decide +kernel
theorem dX7_belief_18 : decode cX7_belief 18 = .ok (.iload_n 1, 1) := by decide +kernel
theorem dX7_belief_19 : decode cX7_belief 19 = .ok (.invokestatic 145, 3) := by decide +kernel
theorem dX7_belief_22 : decode cX7_belief 22 = .ok (.goto 5, 3) := by decide +kernel
theorem dX7_belief_25 : decode cX7_belief 25 = .ok (.ldc 149, 2) := by decide +kernel
theorem dX7_belief_27 : decode cX7_belief 27 = .ok (.ireturn, 1) := by decide +kernel
theorem dX7_fact_0 : decode cX7_fact 0 = .ok (.aload_n 0, 1) := by decide +kernel
theorem dX7_fact_1 : decode cX7_fact 1 = .ok (.getfield 19, 3) := by decide +kernel
theorem dX7_fact_4 : decode cX7_fact 4 = .ok (.iload_n 1, 1) := by decide +kernel
theorem dX7_fact_5 : decode cX7_fact 5 = .ok (.invokevirtual 150, 3) := by decide +kernel
theorem dX7_fact_8 : decode cX7_fact 8 = .ok (.ifCond .ne 6, 3) := by decide +kernel
theorem dX7_fact_11 : decode cX7_fact 11 = .ok (.ldc 149, 2) := by decide +kernel
theorem dX7_fact_13 : decode cX7_fact 13 = .ok (.ireturn, 1) := by decide +kernel
theorem dX7_fact_14 : decode cX7_fact 14 = .ok (.iload_n 2, 1) := by decide +kernel
theorem dX7_fact_15 : decode cX7_fact 15 = .ok (.tableswitch 136 0 6 #[41, 53, 68, 80, 92, 104, 124], 41) := by decide +kernel
theorem dX7_fact_56 : decode cX7_fact 56 = .ok (.aload_n 0, 1) := by decide +kernel
theorem dX7_fact_57 : decode cX7_fact 57 = .ok (.getfield 19, 3) := by decide +kernel
theorem dX7_fact_60 : decode cX7_fact 60 = .ok (.getfield 153, 3) := by decide +kernel
theorem dX7_fact_63 : decode cX7_fact 63 = .ok (.iload_n 1, 1) := by decide +kernel
theorem dX7_fact_64 : decode cX7_fact 64 = .ok (.invokestatic 145, 3) := by decide +kernel
theorem dX7_fact_67 : decode cX7_fact 67 = .ok (.ireturn, 1) := by decide +kernel
theorem dX7_fact_68 : decode cX7_fact 68 = .ok (.aload_n 0, 1) := by decide +kernel
theorem dX7_fact_69 : decode cX7_fact 69 = .ok (.getfield 19, 3) := by decide +kernel
theorem dX7_fact_72 : decode cX7_fact 72 = .ok (.getfield 156, 3) := by decide +kernel
theorem dX7_fact_75 : decode cX7_fact 75 = .ok (.iload_n 1, 1) := by decide +kernel
theorem dX7_fact_76 : decode cX7_fact 76 = .ok (.invokestatic 145, 3) := by decide +kernel
theorem dX7_fact_79 : decode cX7_fact 79 = .ok (.bipush 9, 2) := by decide +kernel
theorem dX7_fact_81 : decode cX7_fact 81 = .ok (.iadd, 1) := by decide +kernel
theorem dX7_fact_82 : decode cX7_fact 82 = .ok (.ireturn, 1) := by decide +kernel
theorem dX7_fact_83 : decode cX7_fact 83 = .ok (.aload_n 0, 1) := by decide +kernel
theorem dX7_fact_84 : decode cX7_fact 84 = .ok (.getfield 19, 3) := by decide +kernel
theorem dX7_fact_87 : decode cX7_fact 87 = .ok (.getfield 159, 3) := by decide +kernel
theorem dX7_fact_90 : decode cX7_fact 90 = .ok (.iload_n 1, 1) := by decide +kernel
theorem dX7_fact_91 : decode cX7_fact 91 = .ok (.invokestatic 145, 3) := by decide +kernel
theorem dX7_fact_94 : decode cX7_fact 94 = .ok (.ireturn, 1) := by decide +kernel
theorem dX7_fact_95 : decode cX7_fact 95 = .ok (.aload_n 0, 1) := by decide +kernel
theorem dX7_fact_96 : decode cX7_fact 96 = .ok (.getfield 19, 3) := by decide +kernel
theorem dX7_fact_99 : decode cX7_fact 99 = .ok (.getfield 162, 3) := by decide +kernel
theorem dX7_fact_102 : decode cX7_fact 102 = .ok (.iload_n 1, 1) := by decide +kernel
theorem dX7_fact_103 : decode cX7_fact 103 = .ok (.invokestatic 145, 3) := by decide +kernel
theorem dX7_fact_106 : decode cX7_fact 106 = .ok (.ireturn, 1) := by decide +kernel
theorem dX7_fact_107 : decode cX7_fact 107 = .ok (.aload_n 0, 1) := by decide +kernel
theorem dX7_fact_108 : decode cX7_fact 108 = .ok (.getfield 19, 3) := by decide +kernel
theorem dX7_fact_111 : decode cX7_fact 111 = .ok (.getfield 165, 3) := by decide +kernel
theorem dX7_fact_114 : decode cX7_fact 114 = .ok (.iload_n 1, 1) := by decide +kernel
theorem dX7_fact_115 : decode cX7_fact 115 = .ok (.invokestatic 145, 3) := by decide +kernel
theorem dX7_fact_118 : decode cX7_fact 118 = .ok (.ireturn, 1) := by decide +kernel
theorem dX7_fact_119 : decode cX7_fact 119 = .ok (.aload_n 0, 1) := by decide +kernel
theorem dX7_fact_120 : decode cX7_fact 120 = .ok (.getfield 29, 3) := by decide +kernel
theorem dX7_fact_123 : decode cX7_fact 123 = .ok (.getfield 131, 3) := by decide +kernel
theorem dX7_fact_126 : decode cX7_fact 126 = .ok (.iload_n 1, 1) := by decide +kernel
theorem dX7_fact_127 : decode cX7_fact 127 = .ok (.invokestatic 168, 3) := by decide +kernel
theorem dX7_fact_130 : decode cX7_fact 130 = .ok (.ifCond .eq 7, 3) := by decide +kernel
theorem dX7_fact_133 : decode cX7_fact 133 = .ok (.iconst 1, 1) := by decide +kernel
theorem dX7_fact_134 : decode cX7_fact 134 = .ok (.goto 4, 3) := by decide +kernel
theorem dX7_fact_137 : decode cX7_fact 137 = .ok (.iconst 0, 1) := by decide +kernel
theorem dX7_fact_138 : decode cX7_fact 138 = .ok (.ireturn, 1) := by decide +kernel
theorem dX7_fact_139 : decode cX7_fact 139 = .ok (.aload_n 0, 1) := by decide +kernel
theorem dX7_fact_140 : decode cX7_fact 140 = .ok (.getfield 29, 3) := by decide +kernel
theorem dX7_fact_143 : decode cX7_fact 143 = .ok (.getfield 172, 3) := by decide +kernel
theorem dX7_fact_146 : decode cX7_fact 146 = .ok (.iload_n 1, 1) := by decide +kernel
theorem dX7_fact_147 : decode cX7_fact 147 = .ok (.invokestatic 145, 3) := by decide +kernel
theorem dX7_fact_150 : decode cX7_fact 150 = .ok (.ireturn, 1) := by decide +kernel
theorem dX7_fact_151 : decode cX7_fact 151 = .ok (.ldc 83, 2) := by decide +kernel
theorem dX7_fact_153 : decode cX7_fact 153 = .ok (.ireturn, 1) := by decide +kernel
theorem dX7_night_0 : decode cX7_night 0 = .ok (.aload_n 0, 1) := by decide +kernel
theorem dX7_night_1 : decode cX7_night 1 = .ok (.getfield 19, 3) := by decide +kernel
theorem dX7_night_4 : decode cX7_night 4 = .ok (.iload_n 1, 1) := by decide +kernel
theorem dX7_night_5 : decode cX7_night 5 = .ok (.invokevirtual 175, 3) := by decide +kernel
theorem dX7_night_8 : decode cX7_night 8 = .ok (.ifCond .ne 6, 3) := by decide +kernel
theorem dX7_night_11 : decode cX7_night 11 = .ok (.ldc 149, 2) := by decide +kernel
theorem dX7_night_13 : decode cX7_night 13 = .ok (.ireturn, 1) := by decide +kernel
theorem dX7_night_14 : decode cX7_night 14 = .ok (.aload_n 0, 1) := by decide +kernel
theorem dX7_night_15 : decode cX7_night 15 = .ok (.iload_n 1, 1) := by decide +kernel
theorem dX7_night_16 : decode cX7_night 16 = .ok (.invokevirtual 178, 3) := by decide +kernel
theorem dX7_night_19 : decode cX7_night 19 = .ok (.ifCond .ne 6, 3) := by decide +kernel
theorem dX7_night_22 : decode cX7_night 22 = .ok (.ldc 181, 2) := by decide +kernel
theorem dX7_night_24 : decode cX7_night 24 = .ok (.ireturn, 1) := by decide +kernel
theorem dX7_night_25 : decode cX7_night 25 = .ok (.aload_n 0, 1) := by decide +kernel
theorem dX7_night_26 : decode cX7_night 26 = .ok (.getfield 29, 3) := by decide +kernel
theorem dX7_night_29 : decode cX7_night 29 = .ok (.getfield 122, 3) := by decide +kernel
theorem dX7_night_32 : decode cX7_night 32 = .ok (.ldc 182, 2) := by decide +kernel
theorem dX7_night_34 : decode cX7_night 34 = .ok (.if_icmp .le 6, 3) := by decide +kernel
theorem dX7_night_37 : decode cX7_night 37 = .ok (.ldc 91, 2) := by decide +kernel
theorem dX7_night_39 : decode cX7_night 39 = .ok (.ireturn, 1) := by decide +kernel
theorem dX7_night_40 : decode cX7_night 40 = .ok (.aload_n 0, 1) := by decide +kernel
theorem dX7_night_41 : decode cX7_night 41 = .ok (.getfield 49, 3) := by decide +kernel
theorem dX7_night_44 : decode cX7_night 44 = .ok (.aload_n 0, 1) := by decide +kernel
theorem dX7_night_45 : decode cX7_night 45 = .ok (.getfield 29, 3) := by decide +kernel
theorem dX7_night_48 : decode cX7_night 48 = .ok (.invokevirtual 183, 3) := by decide +kernel
theorem dX7_night_51 : decode cX7_night 51 = .ok (.aload_n 0, 1) := by decide +kernel
theorem dX7_night_52 : decode cX7_night 52 = .ok (.getfield 29, 3) := by decide +kernel
theorem dX7_night_55 : decode cX7_night 55 = .ok (.aload_n 0, 1) := by decide +kernel
theorem dX7_night_56 : decode cX7_night 56 = .ok (.getfield 19, 3) := by decide +kernel
theorem dX7_night_59 : decode cX7_night 59 = .ok (.iload_n 1, 1) := by decide +kernel
theorem dX7_night_60 : decode cX7_night 60 = .ok (.invokevirtual 187, 3) := by decide +kernel
theorem dX7_night_63 : decode cX7_night 63 = .ok (.aload_n 0, 1) := by decide +kernel
theorem dX7_night_64 : decode cX7_night 64 = .ok (.getfield 29, 3) := by decide +kernel
theorem dX7_night_67 : decode cX7_night 67 = .ok (.getfield 134, 3) := by decide +kernel
theorem dX7_night_70 : decode cX7_night 70 = .ok (.ireturn, 1) := by decide +kernel
theorem dX7_meet_0 : decode cX7_meet 0 = .ok (.aload_n 0, 1) := by decide +kernel
theorem dX7_meet_1 : decode cX7_meet 1 = .ok (.getfield 19, 3) := by decide +kernel
theorem dX7_meet_4 : decode cX7_meet 4 = .ok (.iload_n 1, 1) := by decide +kernel
theorem dX7_meet_5 : decode cX7_meet 5 = .ok (.invokevirtual 139, 3) := by decide +kernel
theorem dX7_meet_8 : decode cX7_meet 8 = .ok (.ifCond .ne 6, 3) := by decide +kernel
theorem dX7_meet_11 : decode cX7_meet 11 = .ok (.ldc 149, 2) := by decide +kernel
theorem dX7_meet_13 : decode cX7_meet 13 = .ok (.ireturn, 1) := by decide +kernel
theorem dX7_meet_14 : decode cX7_meet 14 = .ok (.iload_n 2, 1) := by decide +kernel
theorem dX7_meet_15 : decode cX7_meet 15 = .ok (.invokestatic 191, 3) := by decide +kernel
theorem dX7_meet_18 : decode cX7_meet 18 = .ok (.ifCond .ne 6, 3) := by decide +kernel
theorem dX7_meet_21 : decode cX7_meet 21 = .ok (.ldc 83, 2) := by decide +kernel
theorem dX7_meet_23 : decode cX7_meet 23 = .ok (.ireturn, 1) := by decide +kernel
theorem dX7_meet_24 : decode cX7_meet 24 = .ok (.aload_n 0, 1) := by decide +kernel
theorem dX7_meet_25 : decode cX7_meet 25 = .ok (.getfield 49, 3) := by decide +kernel
theorem dX7_meet_28 : decode cX7_meet 28 = .ok (.aload_n 0, 1) := by decide +kernel
theorem dX7_meet_29 : decode cX7_meet 29 = .ok (.getfield 29, 3) := by decide +kernel
theorem dX7_meet_32 : decode cX7_meet 32 = .ok (.invokevirtual 183, 3) := by decide +kernel
theorem dX7_meet_35 : decode cX7_meet 35 = .ok (.aload_n 0, 1) := by decide +kernel
theorem dX7_meet_36 : decode cX7_meet 36 = .ok (.getfield 29, 3) := by decide +kernel
theorem dX7_meet_39 : decode cX7_meet 39 = .ok (.getfield 142, 3) := by decide +kernel
theorem dX7_meet_42 : decode cX7_meet 42 = .ok (.iload_n 1, 1) := by decide +kernel
theorem dX7_meet_43 : decode cX7_meet 43 = .ok (.invokestatic 145, 3) := by decide +kernel
theorem dX7_meet_46 : decode cX7_meet 46 = .ok (.iload_n 2, 1) := by decide +kernel
theorem dX7_meet_47 : decode cX7_meet 47 = .ok (.invokestatic 194, 3) := by decide +kernel
theorem dX7_meet_50 : decode cX7_meet 50 = .ok (.istore_n 3, 1) := by decide +kernel
theorem dX7_meet_51 : decode cX7_meet 51 = .ok (.aload_n 0, 1) := by decide +kernel
theorem dX7_meet_52 : decode cX7_meet 52 = .ok (.getfield 29, 3) := by decide +kernel
theorem dX7_meet_55 : decode cX7_meet 55 = .ok (.getfield 142, 3) := by decide +kernel
theorem dX7_meet_58 : decode cX7_meet 58 = .ok (.iload_n 1, 1) := by decide +kernel
theorem dX7_meet_59 : decode cX7_meet 59 = .ok (.iload_n 3, 1) := by decide +kernel
theorem dX7_meet_60 : decode cX7_meet 60 = .ok (.invokestatic 198, 3) := by decide +kernel
theorem dX7_meet_63 : decode cX7_meet 63 = .ok (.iload_n 3, 1) := by decide +kernel
theorem dX7_meet_64 : decode cX7_meet 64 = .ok (.ireturn, 1) := by decide +kernel
theorem dX7_make_0 : decode cX7_make 0 = .ok (.aload_n 0, 1) := by decide +kernel
theorem dX7_make_1 : decode cX7_make 1 = .ok (.getfield 19, 3) := by decide +kernel
theorem dX7_make_4 : decode cX7_make 4 = .ok (.iload_n 1, 1) := by decide +kernel
theorem dX7_make_5 : decode cX7_make 5 = .ok (.invokevirtual 150, 3) := by decide +kernel
theorem dX7_make_8 : decode cX7_make 8 = .ok (.ifCond .ne 6, 3) := by decide +kernel
theorem dX7_make_11 : decode cX7_make 11 = .ok (.ldc 149, 2) := by decide +kernel
theorem dX7_make_13 : decode cX7_make 13 = .ok (.ireturn, 1) := by decide +kernel
theorem dX7_make_14 : decode cX7_make 14 = .ok (.aload_n 0, 1) := by decide +kernel
theorem dX7_make_15 : decode cX7_make 15 = .ok (.getfield 29, 3) := by decide +kernel
theorem dX7_make_18 : decode cX7_make 18 = .ok (.getfield 131, 3) := by decide +kernel
theorem dX7_make_21 : decode cX7_make 21 = .ok (.iload_n 1, 1) := by decide +kernel
theorem dX7_make_22 : decode cX7_make 22 = .ok (.invokestatic 168, 3) := by decide +kernel
theorem dX7_make_25 : decode cX7_make 25 = .ok (.ifCond .eq 6, 3) := by decide +kernel
theorem dX7_make_28 : decode cX7_make 28 = .ok (.ldc 181, 2) := by decide +kernel
theorem dX7_make_30 : decode cX7_make 30 = .ok (.ireturn, 1) := by decide +kernel
theorem dX7_make_31 : decode cX7_make 31 = .ok (.aload_n 0, 1) := by decide +kernel
theorem dX7_make_32 : decode cX7_make 32 = .ok (.getfield 49, 3) := by decide +kernel
theorem dX7_make_35 : decode cX7_make 35 = .ok (.aload_n 0, 1) := by decide +kernel
theorem dX7_make_36 : decode cX7_make 36 = .ok (.getfield 29, 3) := by decide +kernel
theorem dX7_make_39 : decode cX7_make 39 = .ok (.invokevirtual 183, 3) := by decide +kernel
theorem dX7_make_42 : decode cX7_make 42 = .ok (.aload_n 0, 1) := by decide +kernel
theorem dX7_make_43 : decode cX7_make 43 = .ok (.getfield 29, 3) := by decide +kernel
theorem dX7_make_46 : decode cX7_make 46 = .ok (.dup, 1) := by decide +kernel
theorem dX7_make_47 : decode cX7_make 47 = .ok (.getfield 131, 3) := by decide +kernel
theorem dX7_make_50 : decode cX7_make 50 = .ok (.iconst 1, 1) := by decide +kernel
theorem dX7_make_51 : decode cX7_make 51 = .ok (.iload_n 1, 1) := by decide +kernel
theorem dX7_make_52 : decode cX7_make 52 = .ok (.ishl, 1) := by decide +kernel
theorem dX7_make_53 : decode cX7_make 53 = .ok (.ior, 1) := by decide +kernel
theorem dX7_make_54 : decode cX7_make 54 = .ok (.putfield 131, 3) := by decide +kernel
theorem dX7_make_57 : decode cX7_make 57 = .ok (.aload_n 0, 1) := by decide +kernel
theorem dX7_make_58 : decode cX7_make 58 = .ok (.getfield 29, 3) := by decide +kernel
theorem dX7_make_61 : decode cX7_make 61 = .ok (.dup, 1) := by decide +kernel
theorem dX7_make_62 : decode cX7_make 62 = .ok (.getfield 125, 3) := by decide +kernel
theorem dX7_make_65 : decode cX7_make 65 = .ok (.aload_n 0, 1) := by decide +kernel
theorem dX7_make_66 : decode cX7_make 66 = .ok (.getfield 19, 3) := by decide +kernel
theorem dX7_make_69 : decode cX7_make 69 = .ok (.getfield 165, 3) := by decide +kernel
theorem dX7_make_72 : decode cX7_make 72 = .ok (.iload_n 1, 1) := by decide +kernel
theorem dX7_make_73 : decode cX7_make 73 = .ok (.invokestatic 145, 3) := by decide +kernel
theorem dX7_make_76 : decode cX7_make 76 = .ok (.iadd, 1) := by decide +kernel
theorem dX7_make_77 : decode cX7_make 77 = .ok (.putfield 125, 3) := by decide +kernel
theorem dX7_make_80 : decode cX7_make 80 = .ok (.aload_n 0, 1) := by decide +kernel
theorem dX7_make_81 : decode cX7_make 81 = .ok (.getfield 29, 3) := by decide +kernel
theorem dX7_make_84 : decode cX7_make 84 = .ok (.getfield 125, 3) := by decide +kernel
theorem dX7_make_87 : decode cX7_make 87 = .ok (.ireturn, 1) := by decide +kernel
theorem dX7_drift_0 : decode cX7_drift 0 = .ok (.iload_n 1, 1) := by decide +kernel
theorem dX7_drift_1 : decode cX7_drift 1 = .ok (.iconst 1, 1) := by decide +kernel
theorem dX7_drift_2 : decode cX7_drift 2 = .ok (.if_icmp .lt 9, 3) := by decide +kernel
theorem dX7_drift_5 : decode cX7_drift 5 = .ok (.iload_n 1, 1) := by decide +kernel
theorem dX7_drift_6 : decode cX7_drift 6 = .ok (.bipush 60, 2) := by decide +kernel
theorem dX7_drift_8 : decode cX7_drift 8 = .ok (.if_icmp .le 6, 3) := by decide +kernel
theorem dX7_drift_11 : decode cX7_drift 11 = .ok (.ldc 83, 2) := by decide +kernel
theorem dX7_drift_13 : decode cX7_drift 13 = .ok (.ireturn, 1) := by decide +kernel
theorem dX7_drift_14 : decode cX7_drift 14 = .ok (.aload_n 0, 1) := by decide +kernel
theorem dX7_drift_15 : decode cX7_drift 15 = .ok (.getfield 19, 3) := by decide +kernel
theorem dX7_drift_18 : decode cX7_drift 18 = .ok (.getfield 116, 3) := by decide +kernel
theorem dX7_drift_21 : decode cX7_drift 21 = .ok (.ifCond .ne 6, 3) := by decide +kernel
theorem dX7_drift_24 : decode cX7_drift 24 = .ok (.ldc 181, 2) := by decide +kernel
theorem dX7_drift_26 : decode cX7_drift 26 = .ok (.ireturn, 1) := by decide +kernel
theorem dX7_drift_27 : decode cX7_drift 27 = .ok (.aload_n 0, 1) := by decide +kernel
theorem dX7_drift_28 : decode cX7_drift 28 = .ok (.getfield 29, 3) := by decide +kernel
theorem dX7_drift_31 : decode cX7_drift 31 = .ok (.getfield 122, 3) := by decide +kernel
theorem dX7_drift_34 : decode cX7_drift 34 = .ok (.ldc 182, 2) := by decide +kernel
theorem dX7_drift_36 : decode cX7_drift 36 = .ok (.if_icmp .le 6, 3) := by decide +kernel
theorem dX7_drift_39 : decode cX7_drift 39 = .ok (.ldc 91, 2) := by decide +kernel
theorem dX7_drift_41 : decode cX7_drift 41 = .ok (.ireturn, 1) := by decide +kernel
theorem dX7_drift_42 : decode cX7_drift 42 = .ok (.aload_n 0, 1) := by decide +kernel
theorem dX7_drift_43 : decode cX7_drift 43 = .ok (.getfield 49, 3) := by decide +kernel
theorem dX7_drift_46 : decode cX7_drift 46 = .ok (.aload_n 0, 1) := by decide +kernel
theorem dX7_drift_47 : decode cX7_drift 47 = .ok (.getfield 29, 3) := by decide +kernel
theorem dX7_drift_50 : decode cX7_drift 50 = .ok (.invokevirtual 183, 3) := by decide +kernel
theorem dX7_drift_53 : decode cX7_drift 53 = .ok (.iconst 0, 1) := by decide +kernel
theorem dX7_drift_54 : decode cX7_drift 54 = .ok (.istore_n 2, 1) := by decide +kernel
theorem dX7_drift_55 : decode cX7_drift 55 = .ok (.iload_n 2, 1) := by decide +kernel
theorem dX7_drift_56 : decode cX7_drift 56 = .ok (.iload_n 1, 1) := by decide +kernel
theorem dX7_drift_57 : decode cX7_drift 57 = .ok (.if_icmp .ge 24, 3) := by decide +kernel
theorem dX7_drift_60 : decode cX7_drift 60 = .ok (.aload_n 0, 1) := by decide +kernel
theorem dX7_drift_61 : decode cX7_drift 61 = .ok (.getfield 29, 3) := by decide +kernel
theorem dX7_drift_64 : decode cX7_drift 64 = .ok (.aload_n 0, 1) := by decide +kernel
theorem dX7_drift_65 : decode cX7_drift 65 = .ok (.getfield 19, 3) := by decide +kernel
theorem dX7_drift_68 : decode cX7_drift 68 = .ok (.aload_n 0, 1) := by decide +kernel
theorem dX7_drift_69 : decode cX7_drift 69 = .ok (.invokevirtual 202, 3) := by decide +kernel
theorem dX7_drift_72 : decode cX7_drift 72 = .ok (.invokevirtual 187, 3) := by decide +kernel
theorem dX7_drift_75 : decode cX7_drift 75 = .ok (.iinc 2 1, 3) := by decide +kernel
theorem dX7_drift_78 : decode cX7_drift 78 = .ok (.goto (-23), 3) := by decide +kernel
theorem dX7_drift_81 : decode cX7_drift 81 = .ok (.aload_n 0, 1) := by decide +kernel
theorem dX7_drift_82 : decode cX7_drift 82 = .ok (.getfield 29, 3) := by decide +kernel
theorem dX7_drift_85 : decode cX7_drift 85 = .ok (.getfield 122, 3) := by decide +kernel
theorem dX7_drift_88 : decode cX7_drift 88 = .ok (.ireturn, 1) := by decide +kernel
theorem dX7_undo_0 : decode cX7_undo 0 = .ok (.aload_n 0, 1) := by decide +kernel
theorem dX7_undo_1 : decode cX7_undo 1 = .ok (.getfield 49, 3) := by decide +kernel
theorem dX7_undo_4 : decode cX7_undo 4 = .ok (.aload_n 0, 1) := by decide +kernel
theorem dX7_undo_5 : decode cX7_undo 5 = .ok (.getfield 29, 3) := by decide +kernel
theorem dX7_undo_8 : decode cX7_undo 8 = .ok (.invokevirtual 206, 3) := by decide +kernel
theorem dX7_undo_11 : decode cX7_undo 11 = .ok (.ifCond .eq 13, 3) := by decide +kernel
theorem dX7_undo_14 : decode cX7_undo 14 = .ok (.aload_n 0, 1) := by decide +kernel
theorem dX7_undo_15 : decode cX7_undo 15 = .ok (.getfield 49, 3) := by decide +kernel
theorem dX7_undo_18 : decode cX7_undo 18 = .ok (.getfield 138, 3) := by decide +kernel
theorem dX7_undo_21 : decode cX7_undo 21 = .ok (.goto 5, 3) := by decide +kernel
theorem dX7_undo_24 : decode cX7_undo 24 = .ok (.ldc 181, 2) := by decide +kernel
theorem dX7_undo_26 : decode cX7_undo 26 = .ok (.ireturn, 1) := by decide +kernel
theorem dX7_thinks_0 : decode cX7_thinks 0 = .ok (.aload_n 0, 1) := by decide +kernel
theorem dX7_thinks_1 : decode cX7_thinks 1 = .ok (.getfield 19, 3) := by decide +kernel
theorem dX7_thinks_4 : decode cX7_thinks 4 = .ok (.iload_n 1, 1) := by decide +kernel
theorem dX7_thinks_5 : decode cX7_thinks 5 = .ok (.invokevirtual 175, 3) := by decide +kernel
theorem dX7_thinks_8 : decode cX7_thinks 8 = .ok (.ifCond .eq 19, 3) := by decide +kernel
theorem dX7_thinks_11 : decode cX7_thinks 11 = .ok (.iload_n 2, 1) := by decide +kernel
theorem dX7_thinks_12 : decode cX7_thinks 12 = .ok (.iconst (-1), 1) := by decide +kernel
theorem dX7_thinks_13 : decode cX7_thinks 13 = .ok (.if_icmp .eq 17, 3) := by decide +kernel
theorem dX7_thinks_16 : decode cX7_thinks 16 = .ok (.aload_n 0, 1) := by decide +kernel
theorem dX7_thinks_17 : decode cX7_thinks 17 = .ok (.getfield 19, 3) := by decide +kernel
theorem dX7_thinks_20 : decode cX7_thinks 20 = .ok (.iload_n 2, 1) := by decide +kernel
theorem dX7_thinks_21 : decode cX7_thinks 21 = .ok (.invokevirtual 139, 3) := by decide +kernel
theorem dX7_thinks_24 : decode cX7_thinks 24 = .ok (.ifCond .ne 6, 3) := by decide +kernel
theorem dX7_thinks_27 : decode cX7_thinks 27 = .ok (.ldc 149, 2) := by decide +kernel
theorem dX7_thinks_29 : decode cX7_thinks 29 = .ok (.ireturn, 1) := by decide +kernel
theorem dX7_thinks_30 : decode cX7_thinks 30 = .ok (.aload_n 0, 1) := by decide +kernel
theorem dX7_thinks_31 : decode cX7_thinks 31 = .ok (.iload_n 1, 1) := by decide +kernel
theorem dX7_thinks_32 : decode cX7_thinks 32 = .ok (.invokevirtual 178, 3) := by decide +kernel
theorem dX7_thinks_35 : decode cX7_thinks 35 = .ok (.ifCond .ne 6, 3) := by decide +kernel
theorem dX7_thinks_38 : decode cX7_thinks 38 = .ok (.ldc 181, 2) := by decide +kernel
theorem dX7_thinks_40 : decode cX7_thinks 40 = .ok (.ireturn, 1) := by decide +kernel
theorem dX7_thinks_41 : decode cX7_thinks 41 = .ok (.aload_n 0, 1) := by decide +kernel
theorem dX7_thinks_42 : decode cX7_thinks 42 = .ok (.getfield 33, 3) := by decide +kernel
theorem dX7_thinks_45 : decode cX7_thinks 45 = .ok (.aload_n 0, 1) := by decide +kernel
theorem dX7_thinks_46 : decode cX7_thinks 46 = .ok (.getfield 29, 3) := by decide +kernel
theorem dX7_thinks_49 : decode cX7_thinks 49 = .ok (.invokevirtual 210, 3) := by decide +kernel
theorem dX7_thinks_52 : decode cX7_thinks 52 = .ok (.aload_n 0, 1) := by decide +kernel
theorem dX7_thinks_53 : decode cX7_thinks 53 = .ok (.getfield 33, 3) := by decide +kernel
theorem dX7_thinks_56 : decode cX7_thinks 56 = .ok (.aload_n 0, 1) := by decide +kernel
theorem dX7_thinks_57 : decode cX7_thinks 57 = .ok (.getfield 19, 3) := by decide +kernel
theorem dX7_thinks_60 : decode cX7_thinks 60 = .ok (.iload_n 1, 1) := by decide +kernel
theorem dX7_thinks_61 : decode cX7_thinks 61 = .ok (.invokevirtual 187, 3) := by decide +kernel
theorem dX7_thinks_64 : decode cX7_thinks 64 = .ok (.iload_n 2, 1) := by decide +kernel
theorem dX7_thinks_65 : decode cX7_thinks 65 = .ok (.iconst (-1), 1) := by decide +kernel
theorem dX7_thinks_66 : decode cX7_thinks 66 = .ok (.if_icmp .ne 13, 3) := by decide +kernel
theorem dX7_thinks_69 : decode cX7_thinks 69 = .ok (.aload_n 0, 1) := by decide +kernel
theorem dX7_thinks_70 : decode cX7_thinks 70 = .ok (.getfield 33, 3) := by decide +kernel
theorem dX7_thinks_73 : decode cX7_thinks 73 = .ok (.getfield 134, 3) := by decide +kernel
theorem dX7_thinks_76 : decode cX7_thinks 76 = .ok (.goto 14, 3) := by decide +kernel
theorem dX7_thinks_79 : decode cX7_thinks 79 = .ok (.aload_n 0, 1) := by decide +kernel
theorem dX7_thinks_80 : decode cX7_thinks 80 = .ok (.getfield 33, 3) := by decide +kernel
theorem dX7_thinks_83 : decode cX7_thinks 83 = .ok (.getfield 142, 3) := by decide +kernel
theorem dX7_thinks_86 : decode cX7_thinks 86 = .ok (.iload_n 2, 1) := by decide +kernel
theorem dX7_thinks_87 : decode cX7_thinks 87 = .ok (.invokestatic 145, 3) := by decide +kernel
theorem dX7_thinks_90 : decode cX7_thinks 90 = .ok (.ireturn, 1) := by decide +kernel
theorem dX7_soonest_0 : decode cX7_soonest 0 = .ok (.aload_n 0, 1) := by decide +kernel
theorem dX7_soonest_1 : decode cX7_soonest 1 = .ok (.getfield 19, 3) := by decide +kernel
theorem dX7_soonest_4 : decode cX7_soonest 4 = .ok (.iload_n 1, 1) := by decide +kernel
theorem dX7_soonest_5 : decode cX7_soonest 5 = .ok (.invokevirtual 212, 3) := by decide +kernel
theorem dX7_soonest_8 : decode cX7_soonest 8 = .ok (.ifCond .eq 14, 3) := by decide +kernel
theorem dX7_soonest_11 : decode cX7_soonest 11 = .ok (.aload_n 0, 1) := by decide +kernel
theorem dX7_soonest_12 : decode cX7_soonest 12 = .ok (.getfield 19, 3) := by decide +kernel
theorem dX7_soonest_15 : decode cX7_soonest 15 = .ok (.iload_n 2, 1) := by decide +kernel
theorem dX7_soonest_16 : decode cX7_soonest 16 = .ok (.invokevirtual 212, 3) := by decide +kernel
theorem dX7_soonest_19 : decode cX7_soonest 19 = .ok (.ifCond .ne 6, 3) := by decide +kernel
theorem dX7_soonest_22 : decode cX7_soonest 22 = .ok (.ldc 149, 2) := by decide +kernel
theorem dX7_soonest_24 : decode cX7_soonest 24 = .ok (.ireturn, 1) := by decide +kernel
theorem dX7_soonest_25 : decode cX7_soonest 25 = .ok (.iload_n 3, 1) := by decide +kernel
theorem dX7_soonest_26 : decode cX7_soonest 26 = .ok (.iconst (-1), 1) := by decide +kernel
theorem dX7_soonest_27 : decode cX7_soonest 27 = .ok (.if_icmp .lt 12, 3) := by decide +kernel
theorem dX7_soonest_30 : decode cX7_soonest 30 = .ok (.aload_n 0, 1) := by decide +kernel
theorem dX7_soonest_31 : decode cX7_soonest 31 = .ok (.iload_n 1, 1) := by decide +kernel
theorem dX7_soonest_32 : decode cX7_soonest 32 = .ok (.iload_n 2, 1) := by decide +kernel
theorem dX7_soonest_33 : decode cX7_soonest 33 = .ok (.invokevirtual 215, 3) := by decide +kernel
theorem dX7_soonest_36 : decode cX7_soonest 36 = .ok (.ifCond .ne 5, 3) := by decide +kernel
theorem dX7_soonest_39 : decode cX7_soonest 39 = .ok (.iconst (-1), 1) := by decide +kernel
theorem dX7_soonest_40 : decode cX7_soonest 40 = .ok (.ireturn, 1) := by decide +kernel
theorem dX7_soonest_41 : decode cX7_soonest 41 = .ok (.iload_n 3, 1) := by decide +kernel
theorem dX7_soonest_42 : decode cX7_soonest 42 = .ok (.iconst (-1), 1) := by decide +kernel
theorem dX7_soonest_43 : decode cX7_soonest 43 = .ok (.if_icmp .ne 11, 3) := by decide +kernel
theorem dX7_soonest_46 : decode cX7_soonest 46 = .ok (.aload_n 0, 1) := by decide +kernel
theorem dX7_soonest_47 : decode cX7_soonest 47 = .ok (.getfield 42, 3) := by decide +kernel
theorem dX7_soonest_50 : decode cX7_soonest 50 = .ok (.getfield 218, 3) := by decide +kernel
theorem dX7_soonest_53 : decode cX7_soonest 53 = .ok (.ireturn, 1) := by decide +kernel
theorem dX7_soonest_54 : decode cX7_soonest 54 = .ok (.iload_n 3, 1) := by decide +kernel
theorem dX7_soonest_55 : decode cX7_soonest 55 = .ok (.aload_n 0, 1) := by decide +kernel
theorem dX7_soonest_56 : decode cX7_soonest 56 = .ok (.getfield 42, 3) := by decide +kernel
theorem dX7_soonest_59 : decode cX7_soonest 59 = .ok (.getfield 218, 3) := by decide +kernel
theorem dX7_soonest_62 : decode cX7_soonest 62 = .ok (.if_icmp .lt 5, 3) := by decide +kernel
theorem dX7_soonest_65 : decode cX7_soonest 65 = .ok (.iconst (-1), 1) := by decide +kernel
theorem dX7_soonest_66 : decode cX7_soonest 66 = .ok (.ireturn, 1) := by decide +kernel
theorem dX7_soonest_67 : decode cX7_soonest 67 = .ok (.iload_n 3, 1) := by decide +kernel
theorem dX7_soonest_68 : decode cX7_soonest 68 = .ok (.ifCond .ne 13, 3) := by decide +kernel
theorem dX7_soonest_71 : decode cX7_soonest 71 = .ok (.aload_n 0, 1) := by decide +kernel
theorem dX7_soonest_72 : decode cX7_soonest 72 = .ok (.getfield 42, 3) := by decide +kernel
theorem dX7_soonest_75 : decode cX7_soonest 75 = .ok (.getfield 219, 3) := by decide +kernel
theorem dX7_soonest_78 : decode cX7_soonest 78 = .ok (.goto 10, 3) := by decide +kernel
theorem dX7_soonest_81 : decode cX7_soonest 81 = .ok (.aload_n 0, 1) := by decide +kernel
theorem dX7_soonest_82 : decode cX7_soonest 82 = .ok (.getfield 42, 3) := by decide +kernel
theorem dX7_soonest_85 : decode cX7_soonest 85 = .ok (.getfield 222, 3) := by decide +kernel
theorem dX7_soonest_88 : decode cX7_soonest 88 = .ok (.ireturn, 1) := by decide +kernel
theorem dX7_cannot_0 : decode cX7_cannot 0 = .ok (.iconst 1, 1) := by decide +kernel
theorem dX7_cannot_1 : decode cX7_cannot 1 = .ok (.aload_n 0, 1) := by decide +kernel
theorem dX7_cannot_2 : decode cX7_cannot 2 = .ok (.getfield 19, 3) := by decide +kernel
theorem dX7_cannot_5 : decode cX7_cannot 5 = .ok (.getfield 116, 3) := by decide +kernel
theorem dX7_cannot_8 : decode cX7_cannot 8 = .ok (.ishl, 1) := by decide +kernel
theorem dX7_cannot_9 : decode cX7_cannot 9 = .ok (.iconst 1, 1) := by decide +kernel
theorem dX7_cannot_10 : decode cX7_cannot 10 = .ok (.isub, 1) := by decide +kernel
theorem dX7_cannot_11 : decode cX7_cannot 11 = .ok (.istore_n 1, 1) := by decide +kernel
theorem dX7_cannot_12 : decode cX7_cannot 12 = .ok (.aload_n 0, 1) := by decide +kernel
theorem dX7_cannot_13 : decode cX7_cannot 13 = .ok (.getfield 29, 3) := by decide +kernel
theorem dX7_cannot_16 : decode cX7_cannot 16 = .ok (.aload_n 0, 1) := by decide +kernel
theorem dX7_cannot_17 : decode cX7_cannot 17 = .ok (.getfield 19, 3) := by decide +kernel
theorem dX7_cannot_20 : decode cX7_cannot 20 = .ok (.invokevirtual 128, 3) := by decide +kernel
theorem dX7_cannot_23 : decode cX7_cannot 23 = .ok (.istore_n 2, 1) := by decide +kernel
theorem dX7_cannot_24 : decode cX7_cannot 24 = .ok (.iconst 0, 1) := by decide +kernel
theorem dX7_cannot_25 : decode cX7_cannot 25 = .ok (.istore_n 3, 1) := by decide +kernel
theorem dX7_cannot_26 : decode cX7_cannot 26 = .ok (.iload_n 3, 1) := by decide +kernel
theorem dX7_cannot_27 : decode cX7_cannot 27 = .ok (.iconst 1, 1) := by decide +kernel
theorem dX7_cannot_28 : decode cX7_cannot 28 = .ok (.aload_n 0, 1) := by decide +kernel
theorem dX7_cannot_29 : decode cX7_cannot 29 = .ok (.getfield 19, 3) := by decide +kernel
theorem dX7_cannot_32 : decode cX7_cannot 32 = .ok (.getfield 107, 3) := by decide +kernel
theorem dX7_cannot_35 : decode cX7_cannot 35 = .ok (.ishl, 1) := by decide +kernel
theorem dX7_cannot_36 : decode cX7_cannot 36 = .ok (.if_icmp .ge 30, 3) := by decide +kernel
theorem dX7_cannot_39 : decode cX7_cannot 39 = .ok (.iload_n 2, 1) := by decide +kernel
theorem dX7_cannot_40 : decode cX7_cannot 40 = .ok (.iload_n 1, 1) := by decide +kernel
theorem dX7_cannot_41 : decode cX7_cannot 41 = .ok (.if_icmp .eq 25, 3) := by decide +kernel
theorem dX7_cannot_44 : decode cX7_cannot 44 = .ok (.aload_n 0, 1) := by decide +kernel
theorem dX7_cannot_45 : decode cX7_cannot 45 = .ok (.iload_n 3, 1) := by decide +kernel
theorem dX7_cannot_46 : decode cX7_cannot 46 = .ok (.invokevirtual 178, 3) := by decide +kernel
theorem dX7_cannot_49 : decode cX7_cannot 49 = .ok (.ifCond .eq 11, 3) := by decide +kernel
theorem dX7_cannot_52 : decode cX7_cannot 52 = .ok (.iload_n 2, 1) := by decide +kernel
theorem dX7_cannot_53 : decode cX7_cannot 53 = .ok (.aload_n 0, 1) := by decide +kernel
theorem dX7_cannot_54 : decode cX7_cannot 54 = .ok (.iload_n 3, 1) := by decide +kernel
theorem dX7_cannot_55 : decode cX7_cannot 55 = .ok (.invokevirtual 225, 3) := by decide +kernel
theorem dX7_cannot_58 : decode cX7_cannot 58 = .ok (.ior, 1) := by decide +kernel
theorem dX7_cannot_59 : decode cX7_cannot 59 = .ok (.istore_n 2, 1) := by decide +kernel
theorem dX7_cannot_60 : decode cX7_cannot 60 = .ok (.iinc 3 1, 3) := by decide +kernel
theorem dX7_cannot_63 : decode cX7_cannot 63 = .ok (.goto (-37), 3) := by decide +kernel
theorem dX7_cannot_66 : decode cX7_cannot 66 = .ok (.iload_n 1, 1) := by decide +kernel
theorem dX7_cannot_67 : decode cX7_cannot 67 = .ok (.iload_n 2, 1) := by decide +kernel
theorem dX7_cannot_68 : decode cX7_cannot 68 = .ok (.iconst (-1), 1) := by decide +kernel
theorem dX7_cannot_69 : decode cX7_cannot 69 = .ok (.ixor, 1) := by decide +kernel
theorem dX7_cannot_70 : decode cX7_cannot 70 = .ok (.iand, 1) := by decide +kernel
theorem dX7_cannot_71 : decode cX7_cannot 71 = .ok (.ireturn, 1) := by decide +kernel
theorem dX7_least_0 : decode cX7_least 0 = .ok (.aload_n 0, 1) := by decide +kernel
theorem dX7_least_1 : decode cX7_least 1 = .ok (.getfield 19, 3) := by decide +kernel
theorem dX7_least_4 : decode cX7_least 4 = .ok (.iload_n 1, 1) := by decide +kernel
theorem dX7_least_5 : decode cX7_least 5 = .ok (.invokevirtual 139, 3) := by decide +kernel
theorem dX7_least_8 : decode cX7_least 8 = .ok (.ifCond .ne 6, 3) := by decide +kernel
theorem dX7_least_11 : decode cX7_least 11 = .ok (.ldc 149, 2) := by decide +kernel
theorem dX7_least_13 : decode cX7_least 13 = .ok (.ireturn, 1) := by decide +kernel
theorem dX7_least_14 : decode cX7_least 14 = .ok (.iload_n 2, 1) := by decide +kernel
theorem dX7_least_15 : decode cX7_least 15 = .ok (.ifCond .lt 8, 3) := by decide +kernel
theorem dX7_least_18 : decode cX7_least 18 = .ok (.iload_n 2, 1) := by decide +kernel
theorem dX7_least_19 : decode cX7_least 19 = .ok (.iconst 1, 1) := by decide +kernel
theorem dX7_least_20 : decode cX7_least 20 = .ok (.if_icmp .le 6, 3) := by decide +kernel
theorem dX7_least_23 : decode cX7_least 23 = .ok (.ldc 83, 2) := by decide +kernel
theorem dX7_least_25 : decode cX7_least 25 = .ok (.ireturn, 1) := by decide +kernel
theorem dX7_least_26 : decode cX7_least 26 = .ok (.iconst (-1), 1) := by decide +kernel
theorem dX7_least_27 : decode cX7_least 27 = .ok (.istore_n 3, 1) := by decide +kernel
theorem dX7_least_28 : decode cX7_least 28 = .ok (.iconst (-1), 1) := by decide +kernel
theorem dX7_least_29 : decode cX7_least 29 = .ok (.istore 4, 2) := by decide +kernel
theorem dX7_least_31 : decode cX7_least 31 = .ok (.iconst 0, 1) := by decide +kernel
theorem dX7_least_32 : decode cX7_least 32 = .ok (.istore 5, 2) := by decide +kernel
theorem dX7_least_34 : decode cX7_least 34 = .ok (.iload 5, 2) := by decide +kernel
theorem dX7_least_36 : decode cX7_least 36 = .ok (.iconst 1, 1) := by decide +kernel
theorem dX7_least_37 : decode cX7_least 37 = .ok (.aload_n 0, 1) := by decide +kernel
theorem dX7_least_38 : decode cX7_least 38 = .ok (.getfield 19, 3) := by decide +kernel
theorem dX7_least_41 : decode cX7_least 41 = .ok (.getfield 107, 3) := by decide +kernel
theorem dX7_least_44 : decode cX7_least 44 = .ok (.ishl, 1) := by decide +kernel
theorem dX7_least_45 : decode cX7_least 45 = .ok (.if_icmp .ge 99, 3) := by decide +kernel
theorem dX7_least_48 : decode cX7_least 48 = .ok (.iload 5, 2) := by decide +kernel
theorem dX7_least_50 : decode cX7_least 50 = .ok (.aload_n 0, 1) := by decide +kernel
theorem dX7_least_51 : decode cX7_least 51 = .ok (.getfield 29, 3) := by decide +kernel
theorem dX7_least_54 : decode cX7_least 54 = .ok (.getfield 131, 3) := by decide +kernel
theorem dX7_least_57 : decode cX7_least 57 = .ok (.iconst (-1), 1) := by decide +kernel
theorem dX7_least_58 : decode cX7_least 58 = .ok (.ixor, 1) := by decide +kernel
theorem dX7_least_59 : decode cX7_least 59 = .ok (.iand, 1) := by decide +kernel
theorem dX7_least_60 : decode cX7_least 60 = .ok (.istore 6, 2) := by decide +kernel
theorem dX7_least_62 : decode cX7_least 62 = .ok (.aload_n 0, 1) := by decide +kernel
theorem dX7_least_63 : decode cX7_least 63 = .ok (.getfield 19, 3) := by decide +kernel
theorem dX7_least_66 : decode cX7_least 66 = .ok (.iload 6, 2) := by decide +kernel
theorem dX7_least_68 : decode cX7_least 68 = .ok (.invokevirtual 229, 3) := by decide +kernel
theorem dX7_least_71 : decode cX7_least 71 = .ok (.istore 7, 2) := by decide +kernel
theorem dX7_least_73 : decode cX7_least 73 = .ok (.iload_n 3, 1) := by decide +kernel
theorem dX7_least_74 : decode cX7_least 74 = .ok (.iconst (-1), 1) := by decide +kernel
theorem dX7_least_75 : decode cX7_least 75 = .ok (.if_icmp .eq 22, 3) := by decide +kernel
theorem dX7_least_78 : decode cX7_least 78 = .ok (.iload 7, 2) := by decide +kernel
theorem dX7_least_80 : decode cX7_least 80 = .ok (.iload_n 3, 1) := by decide +kernel
theorem dX7_least_81 : decode cX7_least 81 = .ok (.if_icmp .lt 16, 3) := by decide +kernel
theorem dX7_least_84 : decode cX7_least 84 = .ok (.iload 7, 2) := by decide +kernel
theorem dX7_least_86 : decode cX7_least 86 = .ok (.iload_n 3, 1) := by decide +kernel
theorem dX7_least_87 : decode cX7_least 87 = .ok (.if_icmp .ne 14, 3) := by decide +kernel
theorem dX7_least_90 : decode cX7_least 90 = .ok (.iload 6, 2) := by decide +kernel
theorem dX7_least_92 : decode cX7_least 92 = .ok (.iload 4, 2) := by decide +kernel
theorem dX7_least_94 : decode cX7_least 94 = .ok (.if_icmp .ge 7, 3) := by decide +kernel
theorem dX7_least_97 : decode cX7_least 97 = .ok (.iconst 1, 1) := by decide +kernel
theorem dX7_least_98 : decode cX7_least 98 = .ok (.goto 4, 3) := by decide +kernel
theorem dX7_least_101 : decode cX7_least 101 = .ok (.iconst 0, 1) := by decide +kernel
theorem dX7_least_102 : decode cX7_least 102 = .ok (.istore 8, 2) := by decide +kernel
theorem dX7_least_104 : decode cX7_least 104 = .ok (.iload 8, 2) := by decide +kernel
theorem dX7_least_106 : decode cX7_least 106 = .ok (.ifCond .eq 32, 3) := by decide +kernel
theorem dX7_least_109 : decode cX7_least 109 = .ok (.aload_n 0, 1) := by decide +kernel
theorem dX7_least_110 : decode cX7_least 110 = .ok (.getfield 19, 3) := by decide +kernel
theorem dX7_least_113 : decode cX7_least 113 = .ok (.iload 5, 2) := by decide +kernel
theorem dX7_least_115 : decode cX7_least 115 = .ok (.invokevirtual 232, 3) := by decide +kernel
theorem dX7_least_118 : decode cX7_least 118 = .ok (.ifCond .eq 20, 3) := by decide +kernel
theorem dX7_least_121 : decode cX7_least 121 = .ok (.aload_n 0, 1) := by decide +kernel
theorem dX7_least_122 : decode cX7_least 122 = .ok (.iload 5, 2) := by decide +kernel
theorem dX7_least_124 : decode cX7_least 124 = .ok (.iload_n 1, 1) := by decide +kernel
theorem dX7_least_125 : decode cX7_least 125 = .ok (.invokevirtual 235, 3) := by decide +kernel
theorem dX7_least_128 : decode cX7_least 128 = .ok (.ifCond .eq 10, 3) := by decide +kernel
theorem dX7_least_131 : decode cX7_least 131 = .ok (.iload 7, 2) := by decide +kernel
theorem dX7_least_133 : decode cX7_least 133 = .ok (.istore_n 3, 1) := by decide +kernel
theorem dX7_least_134 : decode cX7_least 134 = .ok (.iload 6, 2) := by decide +kernel
theorem dX7_least_136 : decode cX7_least 136 = .ok (.istore 4, 2) := by decide +kernel
theorem dX7_least_138 : decode cX7_least 138 = .ok (.iinc 5 1, 3) := by decide +kernel
theorem dX7_least_141 : decode cX7_least 141 = .ok (.goto (-107), 3) := by decide +kernel
theorem dX7_least_144 : decode cX7_least 144 = .ok (.iload_n 2, 1) := by decide +kernel
theorem dX7_least_145 : decode cX7_least 145 = .ok (.ifCond .ne 7, 3) := by decide +kernel
theorem dX7_least_148 : decode cX7_least 148 = .ok (.iload_n 3, 1) := by decide +kernel
theorem dX7_least_149 : decode cX7_least 149 = .ok (.goto 5, 3) := by decide +kernel
theorem dX7_least_152 : decode cX7_least 152 = .ok (.iload 4, 2) := by decide +kernel
theorem dX7_least_154 : decode cX7_least 154 = .ok (.ireturn, 1) := by decide +kernel
theorem dX7_rivals_0 : decode cX7_rivals 0 = .ok (.aload_n 0, 1) := by decide +kernel
theorem dX7_rivals_1 : decode cX7_rivals 1 = .ok (.getfield 19, 3) := by decide +kernel
theorem dX7_rivals_4 : decode cX7_rivals 4 = .ok (.iload_n 1, 1) := by decide +kernel
theorem dX7_rivals_5 : decode cX7_rivals 5 = .ok (.invokevirtual 139, 3) := by decide +kernel
theorem dX7_rivals_8 : decode cX7_rivals 8 = .ok (.ifCond .ne 6, 3) := by decide +kernel
theorem dX7_rivals_11 : decode cX7_rivals 11 = .ok (.ldc 149, 2) := by decide +kernel
theorem dX7_rivals_13 : decode cX7_rivals 13 = .ok (.ireturn, 1) := by decide +kernel
theorem dX7_rivals_14 : decode cX7_rivals 14 = .ok (.iload_n 2, 1) := by decide +kernel
theorem dX7_rivals_15 : decode cX7_rivals 15 = .ok (.iconst 1, 1) := by decide +kernel
theorem dX7_rivals_16 : decode cX7_rivals 16 = .ok (.if_icmp .lt 8, 3) := by decide +kernel
theorem dX7_rivals_19 : decode cX7_rivals 19 = .ok (.iload_n 2, 1) := by decide +kernel
theorem dX7_rivals_20 : decode cX7_rivals 20 = .ok (.iconst 4, 1) := by decide +kernel
theorem dX7_rivals_21 : decode cX7_rivals 21 = .ok (.if_icmp .le 6, 3) := by decide +kernel
theorem dX7_rivals_24 : decode cX7_rivals 24 = .ok (.ldc 83, 2) := by decide +kernel
theorem dX7_rivals_26 : decode cX7_rivals 26 = .ok (.ireturn, 1) := by decide +kernel
theorem dX7_rivals_27 : decode cX7_rivals 27 = .ok (.aload_n 0, 1) := by decide +kernel
theorem dX7_rivals_28 : decode cX7_rivals 28 = .ok (.getfield 33, 3) := by decide +kernel
theorem dX7_rivals_31 : decode cX7_rivals 31 = .ok (.aload_n 0, 1) := by decide +kernel
theorem dX7_rivals_32 : decode cX7_rivals 32 = .ok (.getfield 29, 3) := by decide +kernel
theorem dX7_rivals_35 : decode cX7_rivals 35 = .ok (.invokevirtual 210, 3) := by decide +kernel
theorem dX7_rivals_38 : decode cX7_rivals 38 = .ok (.aload_n 0, 1) := by decide +kernel
theorem dX7_rivals_39 : decode cX7_rivals 39 = .ok (.getfield 19, 3) := by decide +kernel
theorem dX7_rivals_42 : decode cX7_rivals 42 = .ok (.aload_n 0, 1) := by decide +kernel
theorem dX7_rivals_43 : decode cX7_rivals 43 = .ok (.getfield 33, 3) := by decide +kernel
theorem dX7_rivals_46 : decode cX7_rivals 46 = .ok (.iload_n 1, 1) := by decide +kernel
theorem dX7_rivals_47 : decode cX7_rivals 47 = .ok (.iconst 0, 1) := by decide +kernel
theorem dX7_rivals_48 : decode cX7_rivals 48 = .ok (.iload_n 2, 1) := by decide +kernel
theorem dX7_rivals_49 : decode cX7_rivals 49 = .ok (.aload_n 0, 1) := by decide +kernel
theorem dX7_rivals_50 : decode cX7_rivals 50 = .ok (.getfield 29, 3) := by decide +kernel
theorem dX7_rivals_53 : decode cX7_rivals 53 = .ok (.getfield 131, 3) := by decide +kernel
theorem dX7_rivals_56 : decode cX7_rivals 56 = .ok (.invokestatic 238, 3) := by decide +kernel
theorem dX7_rivals_59 : decode cX7_rivals 59 = .ok (.ireturn, 1) := by decide +kernel
theorem dX7_shun_0 : decode cX7_shun 0 = .ok (.aload_n 0, 1) := by decide +kernel
theorem dX7_shun_1 : decode cX7_shun 1 = .ok (.getfield 19, 3) := by decide +kernel
theorem dX7_shun_4 : decode cX7_shun 4 = .ok (.iload_n 1, 1) := by decide +kernel
theorem dX7_shun_5 : decode cX7_shun 5 = .ok (.invokevirtual 139, 3) := by decide +kernel
theorem dX7_shun_8 : decode cX7_shun 8 = .ok (.ifCond .ne 6, 3) := by decide +kernel
theorem dX7_shun_11 : decode cX7_shun 11 = .ok (.ldc 149, 2) := by decide +kernel
theorem dX7_shun_13 : decode cX7_shun 13 = .ok (.ireturn, 1) := by decide +kernel
theorem dX7_shun_14 : decode cX7_shun 14 = .ok (.iload_n 2, 1) := by decide +kernel
theorem dX7_shun_15 : decode cX7_shun 15 = .ok (.ifCond .lt 8, 3) := by decide +kernel
theorem dX7_shun_18 : decode cX7_shun 18 = .ok (.iload_n 2, 1) := by decide +kernel
theorem dX7_shun_19 : decode cX7_shun 19 = .ok (.iconst 1, 1) := by decide +kernel
theorem dX7_shun_20 : decode cX7_shun 20 = .ok (.if_icmp .le 6, 3) := by decide +kernel
theorem dX7_shun_23 : decode cX7_shun 23 = .ok (.ldc 83, 2) := by decide +kernel
theorem dX7_shun_25 : decode cX7_shun 25 = .ok (.ireturn, 1) := by decide +kernel
theorem dX7_shun_26 : decode cX7_shun 26 = .ok (.aload_n 0, 1) := by decide +kernel
theorem dX7_shun_27 : decode cX7_shun 27 = .ok (.getfield 29, 3) := by decide +kernel
theorem dX7_shun_30 : decode cX7_shun 30 = .ok (.getfield 142, 3) := by decide +kernel
theorem dX7_shun_33 : decode cX7_shun 33 = .ok (.iload_n 1, 1) := by decide +kernel
theorem dX7_shun_34 : decode cX7_shun 34 = .ok (.invokestatic 145, 3) := by decide +kernel
theorem dX7_shun_37 : decode cX7_shun 37 = .ok (.istore_n 3, 1) := by decide +kernel
theorem dX7_shun_38 : decode cX7_shun 38 = .ok (.iconst (-1), 1) := by decide +kernel
theorem dX7_shun_39 : decode cX7_shun 39 = .ok (.istore 4, 2) := by decide +kernel
theorem dX7_shun_41 : decode cX7_shun 41 = .ok (.iconst (-1), 1) := by decide +kernel
theorem dX7_shun_42 : decode cX7_shun 42 = .ok (.istore 5, 2) := by decide +kernel
theorem dX7_shun_44 : decode cX7_shun 44 = .ok (.iconst 0, 1) := by decide +kernel
theorem dX7_shun_45 : decode cX7_shun 45 = .ok (.istore 6, 2) := by decide +kernel
theorem dX7_shun_47 : decode cX7_shun 47 = .ok (.iload 6, 2) := by decide +kernel
theorem dX7_shun_49 : decode cX7_shun 49 = .ok (.bipush 20, 2) := by decide +kernel
theorem dX7_shun_51 : decode cX7_shun 51 = .ok (.if_icmp .gt 55, 3) := by decide +kernel
theorem dX7_shun_54 : decode cX7_shun 54 = .ok (.iload_n 3, 1) := by decide +kernel
theorem dX7_shun_55 : decode cX7_shun 55 = .ok (.aload_n 0, 1) := by decide +kernel
theorem dX7_shun_56 : decode cX7_shun 56 = .ok (.getfield 19, 3) := by decide +kernel
theorem dX7_shun_59 : decode cX7_shun 59 = .ok (.getfield 119, 3) := by decide +kernel
theorem dX7_shun_62 : decode cX7_shun 62 = .ok (.if_icmp .lt 44, 3) := by decide +kernel
theorem dX7_shun_65 : decode cX7_shun 65 = .ok (.iload_n 3, 1) := by decide +kernel
theorem dX7_shun_66 : decode cX7_shun 66 = .ok (.iload 6, 2) := by decide +kernel
theorem dX7_shun_68 : decode cX7_shun 68 = .ok (.invokestatic 194, 3) := by decide +kernel
theorem dX7_shun_71 : decode cX7_shun 71 = .ok (.aload_n 0, 1) := by decide +kernel
theorem dX7_shun_72 : decode cX7_shun 72 = .ok (.getfield 19, 3) := by decide +kernel
theorem dX7_shun_75 : decode cX7_shun 75 = .ok (.getfield 119, 3) := by decide +kernel
theorem dX7_shun_78 : decode cX7_shun 78 = .ok (.if_icmp .ge 22, 3) := by decide +kernel
theorem dX7_shun_81 : decode cX7_shun 81 = .ok (.iload 4, 2) := by decide +kernel
theorem dX7_shun_83 : decode cX7_shun 83 = .ok (.iconst (-1), 1) := by decide +kernel
theorem dX7_shun_84 : decode cX7_shun 84 = .ok (.if_icmp .ne 8, 3) := by decide +kernel
theorem dX7_shun_87 : decode cX7_shun 87 = .ok (.iload 6, 2) := by decide +kernel
theorem dX7_shun_89 : decode cX7_shun 89 = .ok (.goto 5, 3) := by decide +kernel
theorem dX7_shun_92 : decode cX7_shun 92 = .ok (.iload 4, 2) := by decide +kernel
theorem dX7_shun_94 : decode cX7_shun 94 = .ok (.istore 4, 2) := by decide +kernel
theorem dX7_shun_96 : decode cX7_shun 96 = .ok (.iload 6, 2) := by decide +kernel
theorem dX7_shun_98 : decode cX7_shun 98 = .ok (.istore 5, 2) := by decide +kernel
theorem dX7_shun_100 : decode cX7_shun 100 = .ok (.iinc 6 1, 3) := by decide +kernel
theorem dX7_shun_103 : decode cX7_shun 103 = .ok (.goto (-56), 3) := by decide +kernel
theorem dX7_shun_106 : decode cX7_shun 106 = .ok (.iload_n 2, 1) := by decide +kernel
theorem dX7_shun_107 : decode cX7_shun 107 = .ok (.ifCond .ne 8, 3) := by decide +kernel
theorem dX7_shun_110 : decode cX7_shun 110 = .ok (.iload 4, 2) := by decide +kernel
theorem dX7_shun_112 : decode cX7_shun 112 = .ok (.goto 5, 3) := by decide +kernel
theorem dX7_shun_115 : decode cX7_shun 115 = .ok (.iload 5, 2) := by decide +kernel
theorem dX7_shun_117 : decode cX7_shun 117 = .ok (.ireturn, 1) := by decide +kernel
theorem dX7_holds_0 : decode cX7_holds 0 = .ok (.iload_n 1, 1) := by decide +kernel
theorem dX7_holds_1 : decode cX7_holds 1 = .ok (.ifCond .lt 19, 3) := by decide +kernel
theorem dX7_holds_4 : decode cX7_holds 4 = .ok (.iload_n 1, 1) := by decide +kernel
theorem dX7_holds_5 : decode cX7_holds 5 = .ok (.bipush 60, 2) := by decide +kernel
theorem dX7_holds_7 : decode cX7_holds 7 = .ok (.if_icmp .gt 13, 3) := by decide +kernel
theorem dX7_holds_10 : decode cX7_holds 10 = .ok (.iload_n 2, 1) := by decide +kernel
theorem dX7_holds_11 : decode cX7_holds 11 = .ok (.ifCond .lt 9, 3) := by decide +kernel
theorem dX7_holds_14 : decode cX7_holds 14 = .ok (.iload_n 2, 1) := by decide +kernel
theorem dX7_holds_15 : decode cX7_holds 15 = .ok (.bipush 100, 2) := by decide +kernel
theorem dX7_holds_17 : decode cX7_holds 17 = .ok (.if_icmp .le 6, 3) := by decide +kernel
theorem dX7_holds_20 : decode cX7_holds 20 = .ok (.ldc 83, 2) := by decide +kernel
theorem dX7_holds_22 : decode cX7_holds 22 = .ok (.ireturn, 1) := by decide +kernel
theorem dX7_holds_23 : decode cX7_holds 23 = .ok (.ldc2_w 242, 3) := by decide +kernel
theorem dX7_holds_26 : decode cX7_holds 26 = .ok (.lstore_n 3, 1) := by decide +kernel
theorem dX7_holds_27 : decode cX7_holds 27 = .ok (.iconst 0, 1) := by decide +kernel
theorem dX7_holds_28 : decode cX7_holds 28 = .ok (.istore 5, 2) := by decide +kernel
theorem dX7_holds_30 : decode cX7_holds 30 = .ok (.iload 5, 2) := by decide +kernel
theorem dX7_holds_32 : decode cX7_holds 32 = .ok (.iload_n 1, 1) := by decide +kernel
theorem dX7_holds_33 : decode cX7_holds 33 = .ok (.if_icmp .ge 21, 3) := by decide +kernel
theorem dX7_holds_36 : decode cX7_holds 36 = .ok (.lload_n 3, 1) := by decide +kernel
theorem dX7_holds_37 : decode cX7_holds 37 = .ok (.bipush 100, 2) := by decide +kernel
theorem dX7_holds_39 : decode cX7_holds 39 = .ok (.iload_n 2, 1) := by decide +kernel
theorem dX7_holds_40 : decode cX7_holds 40 = .ok (.isub, 1) := by decide +kernel
theorem dX7_holds_41 : decode cX7_holds 41 = .ok (.i2l, 1) := by decide +kernel
theorem dX7_holds_42 : decode cX7_holds 42 = .ok (.lmul, 1) := by decide +kernel
theorem dX7_holds_43 : decode cX7_holds 43 = .ok (.ldc2_w 244, 3) := by decide +kernel
theorem dX7_holds_46 : decode cX7_holds 46 = .ok (.ldiv, 1) := by decide +kernel
theorem dX7_holds_47 : decode cX7_holds 47 = .ok (.lstore_n 3, 1) := by decide +kernel
theorem dX7_holds_48 : decode cX7_holds 48 = .ok (.iinc 5 1, 3) := by decide +kernel
theorem dX7_holds_51 : decode cX7_holds 51 = .ok (.goto (-21), 3) := by decide +kernel
theorem dX7_holds_54 : decode cX7_holds 54 = .ok (.lload_n 3, 1) := by decide +kernel
theorem dX7_holds_55 : decode cX7_holds 55 = .ok (.l2i, 1) := by decide +kernel
theorem dX7_holds_56 : decode cX7_holds 56 = .ok (.ireturn, 1) := by decide +kernel
theorem dX7_worn_0 : decode cX7_worn 0 = .ok (.iconst 0, 1) := by decide +kernel
theorem dX7_worn_1 : decode cX7_worn 1 = .ok (.istore_n 1, 1) := by decide +kernel
theorem dX7_worn_2 : decode cX7_worn 2 = .ok (.iconst 0, 1) := by decide +kernel
theorem dX7_worn_3 : decode cX7_worn 3 = .ok (.istore_n 2, 1) := by decide +kernel
theorem dX7_worn_4 : decode cX7_worn 4 = .ok (.iload_n 2, 1) := by decide +kernel
theorem dX7_worn_5 : decode cX7_worn 5 = .ok (.aload_n 0, 1) := by decide +kernel
theorem dX7_worn_6 : decode cX7_worn 6 = .ok (.getfield 19, 3) := by decide +kernel
theorem dX7_worn_9 : decode cX7_worn 9 = .ok (.getfield 107, 3) := by decide +kernel
theorem dX7_worn_12 : decode cX7_worn 12 = .ok (.if_icmp .ge 43, 3) := by decide +kernel
theorem dX7_worn_15 : decode cX7_worn 15 = .ok (.aload_n 0, 1) := by decide +kernel
theorem dX7_worn_16 : decode cX7_worn 16 = .ok (.getfield 19, 3) := by decide +kernel
theorem dX7_worn_19 : decode cX7_worn 19 = .ok (.getfield 156, 3) := by decide +kernel
theorem dX7_worn_22 : decode cX7_worn 22 = .ok (.iload_n 2, 1) := by decide +kernel
theorem dX7_worn_23 : decode cX7_worn 23 = .ok (.invokestatic 145, 3) := by decide +kernel
theorem dX7_worn_26 : decode cX7_worn 26 = .ok (.aload_n 0, 1) := by decide +kernel
theorem dX7_worn_27 : decode cX7_worn 27 = .ok (.getfield 29, 3) := by decide +kernel
theorem dX7_worn_30 : decode cX7_worn 30 = .ok (.getfield 172, 3) := by decide +kernel
theorem dX7_worn_33 : decode cX7_worn 33 = .ok (.iload_n 2, 1) := by decide +kernel
theorem dX7_worn_34 : decode cX7_worn 34 = .ok (.invokestatic 145, 3) := by decide +kernel
theorem dX7_worn_37 : decode cX7_worn 37 = .ok (.invokestatic 246, 3) := by decide +kernel
theorem dX7_worn_40 : decode cX7_worn 40 = .ok (.ifCond .ne 9, 3) := by decide +kernel
theorem dX7_worn_43 : decode cX7_worn 43 = .ok (.iload_n 1, 1) := by decide +kernel
theorem dX7_worn_44 : decode cX7_worn 44 = .ok (.iconst 1, 1) := by decide +kernel
theorem dX7_worn_45 : decode cX7_worn 45 = .ok (.iload_n 2, 1) := by decide +kernel
theorem dX7_worn_46 : decode cX7_worn 46 = .ok (.ishl, 1) := by decide +kernel
theorem dX7_worn_47 : decode cX7_worn 47 = .ok (.ior, 1) := by decide +kernel
theorem dX7_worn_48 : decode cX7_worn 48 = .ok (.istore_n 1, 1) := by decide +kernel
theorem dX7_worn_49 : decode cX7_worn 49 = .ok (.iinc 2 1, 3) := by decide +kernel
theorem dX7_worn_52 : decode cX7_worn 52 = .ok (.goto (-48), 3) := by decide +kernel
theorem dX7_worn_55 : decode cX7_worn 55 = .ok (.iload_n 1, 1) := by decide +kernel
theorem dX7_worn_56 : decode cX7_worn 56 = .ok (.ireturn, 1) := by decide +kernel
theorem dX7_thought_0 : decode cX7_thought 0 = .ok (.aload_n 0, 1) := by decide +kernel
theorem dX7_thought_1 : decode cX7_thought 1 = .ok (.aload_n 0, 1) := by decide +kernel
theorem dX7_thought_2 : decode cX7_thought 2 = .ok (.getfield 76, 3) := by decide +kernel
theorem dX7_thought_5 : decode cX7_thought 5 = .ok (.iload_n 1, 1) := by decide +kernel
theorem dX7_thought_6 : decode cX7_thought 6 = .ok (.iload_n 2, 1) := by decide +kernel
theorem dX7_thought_7 : decode cX7_thought 7 = .ok (.invokevirtual 249, 3) := by decide +kernel
theorem dX7_thought_10 : decode cX7_thought 10 = .ok (.ireturn, 1) := by decide +kernel
theorem dX7_leftOut_0 : decode cX7_leftOut 0 = .ok (.iconst 0, 1) := by decide +kernel
theorem dX7_leftOut_1 : decode cX7_leftOut 1 = .ok (.istore_n 2, 1) := by decide +kernel
theorem dX7_leftOut_2 : decode cX7_leftOut 2 = .ok (.iconst (-1), 1) := by decide +kernel
theorem dX7_leftOut_3 : decode cX7_leftOut 3 = .ok (.istore_n 3, 1) := by decide +kernel
theorem dX7_leftOut_4 : decode cX7_leftOut 4 = .ok (.iconst 0, 1) := by decide +kernel
theorem dX7_leftOut_5 : decode cX7_leftOut 5 = .ok (.istore 4, 2) := by decide +kernel
theorem dX7_leftOut_7 : decode cX7_leftOut 7 = .ok (.iconst 0, 1) := by decide +kernel
theorem dX7_leftOut_8 : decode cX7_leftOut 8 = .ok (.istore 5, 2) := by decide +kernel
theorem dX7_leftOut_10 : decode cX7_leftOut 10 = .ok (.iload 5, 2) := by decide +kernel
theorem dX7_leftOut_12 : decode cX7_leftOut 12 = .ok (.iconst 1, 1) := by decide +kernel
theorem dX7_leftOut_13 : decode cX7_leftOut 13 = .ok (.aload_n 0, 1) := by decide +kernel
theorem dX7_leftOut_14 : decode cX7_leftOut 14 = .ok (.getfield 19, 3) := by decide +kernel
theorem dX7_leftOut_17 : decode cX7_leftOut 17 = .ok (.getfield 107, 3) := by decide +kernel
theorem dX7_leftOut_20 : decode cX7_leftOut 20 = .ok (.ishl, 1) := by decide +kernel
theorem dX7_leftOut_21 : decode cX7_leftOut 21 = .ok (.if_icmp .ge 54, 3) := by decide +kernel
theorem dX7_leftOut_24 : decode cX7_leftOut 24 = .ok (.aload_n 0, 1) := by decide +kernel
theorem dX7_leftOut_25 : decode cX7_leftOut 25 = .ok (.iload 5, 2) := by decide +kernel
theorem dX7_leftOut_27 : decode cX7_leftOut 27 = .ok (.invokevirtual 178, 3) := by decide +kernel
theorem dX7_leftOut_30 : decode cX7_leftOut 30 = .ok (.ifCond .eq 39, 3) := by decide +kernel
theorem dX7_leftOut_33 : decode cX7_leftOut 33 = .ok (.aload_n 0, 1) := by decide +kernel
theorem dX7_leftOut_34 : decode cX7_leftOut 34 = .ok (.aload_n 0, 1) := by decide +kernel
theorem dX7_leftOut_35 : decode cX7_leftOut 35 = .ok (.getfield 19, 3) := by decide +kernel
theorem dX7_leftOut_38 : decode cX7_leftOut 38 = .ok (.iload 5, 2) := by decide +kernel
theorem dX7_leftOut_40 : decode cX7_leftOut 40 = .ok (.invokevirtual 253, 3) := by decide +kernel
theorem dX7_leftOut_43 : decode cX7_leftOut 43 = .ok (.ifCond .eq 26, 3) := by decide +kernel
theorem dX7_leftOut_46 : decode cX7_leftOut 46 = .ok (.iload_n 2, 1) := by decide +kernel
theorem dX7_leftOut_47 : decode cX7_leftOut 47 = .ok (.iload_n 1, 1) := by decide +kernel
theorem dX7_leftOut_48 : decode cX7_leftOut 48 = .ok (.if_icmp .ne 6, 3) := by decide +kernel
theorem dX7_leftOut_51 : decode cX7_leftOut 51 = .ok (.iload 5, 2) := by decide +kernel
theorem dX7_leftOut_53 : decode cX7_leftOut 53 = .ok (.ireturn, 1) := by decide +kernel
theorem dX7_leftOut_54 : decode cX7_leftOut 54 = .ok (.iinc 2 1, 3) := by decide +kernel
theorem dX7_leftOut_57 : decode cX7_leftOut 57 = .ok (.iload_n 3, 1) := by decide +kernel
theorem dX7_leftOut_58 : decode cX7_leftOut 58 = .ok (.iload 5, 2) := by decide +kernel
theorem dX7_leftOut_60 : decode cX7_leftOut 60 = .ok (.iand, 1) := by decide +kernel
theorem dX7_leftOut_61 : decode cX7_leftOut 61 = .ok (.istore_n 3, 1) := by decide +kernel
theorem dX7_leftOut_62 : decode cX7_leftOut 62 = .ok (.iload 4, 2) := by decide +kernel
theorem dX7_leftOut_64 : decode cX7_leftOut 64 = .ok (.iload 5, 2) := by decide +kernel
theorem dX7_leftOut_66 : decode cX7_leftOut 66 = .ok (.ior, 1) := by decide +kernel
theorem dX7_leftOut_67 : decode cX7_leftOut 67 = .ok (.istore 4, 2) := by decide +kernel
theorem dX7_leftOut_69 : decode cX7_leftOut 69 = .ok (.iinc 5 1, 3) := by decide +kernel
theorem dX7_leftOut_72 : decode cX7_leftOut 72 = .ok (.goto (-62), 3) := by decide +kernel
theorem dX7_leftOut_75 : decode cX7_leftOut 75 = .ok (.iload_n 1, 1) := by decide +kernel
theorem dX7_leftOut_76 : decode cX7_leftOut 76 = .ok (.tableswitch 53 (-3) (-1) #[40, 30, 28], 28) := by decide +kernel
theorem dX7_leftOut_104 : decode cX7_leftOut 104 = .ok (.iload_n 2, 1) := by decide +kernel
theorem dX7_leftOut_105 : decode cX7_leftOut 105 = .ok (.ireturn, 1) := by decide +kernel
theorem dX7_leftOut_106 : decode cX7_leftOut 106 = .ok (.iload_n 2, 1) := by decide +kernel
theorem dX7_leftOut_107 : decode cX7_leftOut 107 = .ok (.ifCond .ne 7, 3) := by decide +kernel
theorem dX7_leftOut_110 : decode cX7_leftOut 110 = .ok (.iconst 0, 1) := by decide +kernel
theorem dX7_leftOut_111 : decode cX7_leftOut 111 = .ok (.goto 4, 3) := by decide +kernel
theorem dX7_leftOut_114 : decode cX7_leftOut 114 = .ok (.iload_n 3, 1) := by decide +kernel
theorem dX7_leftOut_115 : decode cX7_leftOut 115 = .ok (.ireturn, 1) := by decide +kernel
theorem dX7_leftOut_116 : decode cX7_leftOut 116 = .ok (.aload_n 0, 1) := by decide +kernel
theorem dX7_leftOut_117 : decode cX7_leftOut 117 = .ok (.getfield 29, 3) := by decide +kernel
theorem dX7_leftOut_120 : decode cX7_leftOut 120 = .ok (.getfield 131, 3) := by decide +kernel
theorem dX7_leftOut_123 : decode cX7_leftOut 123 = .ok (.iload 4, 2) := by decide +kernel
theorem dX7_leftOut_125 : decode cX7_leftOut 125 = .ok (.iconst (-1), 1) := by decide +kernel
theorem dX7_leftOut_126 : decode cX7_leftOut 126 = .ok (.ixor, 1) := by decide +kernel
theorem dX7_leftOut_127 : decode cX7_leftOut 127 = .ok (.iand, 1) := by decide +kernel
theorem dX7_leftOut_128 : decode cX7_leftOut 128 = .ok (.ireturn, 1) := by decide +kernel
theorem dX7_leftOut_129 : decode cX7_leftOut 129 = .ok (.iconst (-1), 1) := by decide +kernel
theorem dX7_leftOut_130 : decode cX7_leftOut 130 = .ok (.ireturn, 1) := by decide +kernel
theorem dX7_strengths_0 : decode cX7_strengths 0 = .ok (.aload_n 0, 1) := by decide +kernel
theorem dX7_strengths_1 : decode cX7_strengths 1 = .ok (.getfield 19, 3) := by decide +kernel
theorem dX7_strengths_4 : decode cX7_strengths 4 = .ok (.iload_n 1, 1) := by decide +kernel
theorem dX7_strengths_5 : decode cX7_strengths 5 = .ok (.invokevirtual 150, 3) := by decide +kernel
theorem dX7_strengths_8 : decode cX7_strengths 8 = .ok (.ifCond .eq 14, 3) := by decide +kernel
theorem dX7_strengths_11 : decode cX7_strengths 11 = .ok (.aload_n 0, 1) := by decide +kernel
theorem dX7_strengths_12 : decode cX7_strengths 12 = .ok (.getfield 19, 3) := by decide +kernel
theorem dX7_strengths_15 : decode cX7_strengths 15 = .ok (.iload_n 2, 1) := by decide +kernel
theorem dX7_strengths_16 : decode cX7_strengths 16 = .ok (.invokevirtual 175, 3) := by decide +kernel
theorem dX7_strengths_19 : decode cX7_strengths 19 = .ok (.ifCond .ne 6, 3) := by decide +kernel
theorem dX7_strengths_22 : decode cX7_strengths 22 = .ok (.ldc 149, 2) := by decide +kernel
theorem dX7_strengths_24 : decode cX7_strengths 24 = .ok (.ireturn, 1) := by decide +kernel
theorem dX7_strengths_25 : decode cX7_strengths 25 = .ok (.aload_n 0, 1) := by decide +kernel
theorem dX7_strengths_26 : decode cX7_strengths 26 = .ok (.iload_n 2, 1) := by decide +kernel
theorem dX7_strengths_27 : decode cX7_strengths 27 = .ok (.invokevirtual 178, 3) := by decide +kernel
theorem dX7_strengths_30 : decode cX7_strengths 30 = .ok (.ifCond .ne 6, 3) := by decide +kernel
theorem dX7_strengths_33 : decode cX7_strengths 33 = .ok (.ldc 181, 2) := by decide +kernel
theorem dX7_strengths_35 : decode cX7_strengths 35 = .ok (.ireturn, 1) := by decide +kernel
theorem dX7_strengths_36 : decode cX7_strengths 36 = .ok (.iconst 0, 1) := by decide +kernel
theorem dX7_strengths_37 : decode cX7_strengths 37 = .ok (.istore_n 3, 1) := by decide +kernel
theorem dX7_strengths_38 : decode cX7_strengths 38 = .ok (.aload_n 0, 1) := by decide +kernel
theorem dX7_strengths_39 : decode cX7_strengths 39 = .ok (.getfield 23, 3) := by decide +kernel
theorem dX7_strengths_42 : decode cX7_strengths 42 = .ok (.aload_n 0, 1) := by decide +kernel
theorem dX7_strengths_43 : decode cX7_strengths 43 = .ok (.getfield 19, 3) := by decide +kernel
theorem dX7_strengths_46 : decode cX7_strengths 46 = .ok (.invokevirtual 96, 3) := by decide +kernel
theorem dX7_strengths_49 : decode cX7_strengths 49 = .ok (.iconst 0, 1) := by decide +kernel
theorem dX7_strengths_50 : decode cX7_strengths 50 = .ok (.istore 4, 2) := by decide +kernel
theorem dX7_strengths_52 : decode cX7_strengths 52 = .ok (.iload 4, 2) := by decide +kernel
theorem dX7_strengths_54 : decode cX7_strengths 54 = .ok (.bipush 18, 2) := by decide +kernel
theorem dX7_strengths_56 : decode cX7_strengths 56 = .ok (.if_icmp .gt 44, 3) := by decide +kernel
theorem dX7_strengths_59 : decode cX7_strengths 59 = .ok (.aload_n 0, 1) := by decide +kernel
theorem dX7_strengths_60 : decode cX7_strengths 60 = .ok (.getfield 23, 3) := by decide +kernel
theorem dX7_strengths_63 : decode cX7_strengths 63 = .ok (.getfield 156, 3) := by decide +kernel
theorem dX7_strengths_66 : decode cX7_strengths 66 = .ok (.iload_n 1, 1) := by decide +kernel
theorem dX7_strengths_67 : decode cX7_strengths 67 = .ok (.iload 4, 2) := by decide +kernel
theorem dX7_strengths_69 : decode cX7_strengths 69 = .ok (.bipush 9, 2) := by decide +kernel
theorem dX7_strengths_71 : decode cX7_strengths 71 = .ok (.isub, 1) := by decide +kernel
theorem dX7_strengths_72 : decode cX7_strengths 72 = .ok (.invokestatic 198, 3) := by decide +kernel
theorem dX7_strengths_75 : decode cX7_strengths 75 = .ok (.aload_n 0, 1) := by decide +kernel
theorem dX7_strengths_76 : decode cX7_strengths 76 = .ok (.aload_n 0, 1) := by decide +kernel
theorem dX7_strengths_77 : decode cX7_strengths 77 = .ok (.getfield 23, 3) := by decide +kernel
theorem dX7_strengths_80 : decode cX7_strengths 80 = .ok (.iload_n 2, 1) := by decide +kernel
theorem dX7_strengths_81 : decode cX7_strengths 81 = .ok (.invokevirtual 253, 3) := by decide +kernel
theorem dX7_strengths_84 : decode cX7_strengths 84 = .ok (.ifCond .eq 10, 3) := by decide +kernel
theorem dX7_strengths_87 : decode cX7_strengths 87 = .ok (.iload_n 3, 1) := by decide +kernel
theorem dX7_strengths_88 : decode cX7_strengths 88 = .ok (.iconst 1, 1) := by decide +kernel
theorem dX7_strengths_89 : decode cX7_strengths 89 = .ok (.iload 4, 2) := by decide +kernel
theorem dX7_strengths_91 : decode cX7_strengths 91 = .ok (.ishl, 1) := by decide +kernel
theorem dX7_strengths_92 : decode cX7_strengths 92 = .ok (.ior, 1) := by decide +kernel
theorem dX7_strengths_93 : decode cX7_strengths 93 = .ok (.istore_n 3, 1) := by decide +kernel
theorem dX7_strengths_94 : decode cX7_strengths 94 = .ok (.iinc 4 1, 3) := by decide +kernel
theorem dX7_strengths_97 : decode cX7_strengths 97 = .ok (.goto (-45), 3) := by decide +kernel
theorem dX7_strengths_100 : decode cX7_strengths 100 = .ok (.iload_n 3, 1) := by decide +kernel
theorem dX7_strengths_101 : decode cX7_strengths 101 = .ok (.ireturn, 1) := by decide +kernel
theorem dX7_write_0 : decode cX7_write 0 = .ok (.aload_n 0, 1) := by decide +kernel
theorem dX7_write_1 : decode cX7_write 1 = .ok (.aload_n 0, 1) := by decide +kernel
theorem dX7_write_2 : decode cX7_write 2 = .ok (.getfield 80, 3) := by decide +kernel
theorem dX7_write_5 : decode cX7_write 5 = .ok (.iload_n 1, 1) := by decide +kernel
theorem dX7_write_6 : decode cX7_write 6 = .ok (.iload_n 2, 1) := by decide +kernel
theorem dX7_write_7 : decode cX7_write 7 = .ok (.invokevirtual 249, 3) := by decide +kernel
theorem dX7_write_10 : decode cX7_write 10 = .ok (.ireturn, 1) := by decide +kernel
theorem dX7_tear_0 : decode cX7_tear 0 = .ok (.aload_n 0, 1) := by decide +kernel
theorem dX7_tear_1 : decode cX7_tear 1 = .ok (.getfield 76, 3) := by decide +kernel
theorem dX7_tear_4 : decode cX7_tear 4 = .ok (.getfield 137, 3) := by decide +kernel
theorem dX7_tear_7 : decode cX7_tear 7 = .ok (.aload_n 0, 1) := by decide +kernel
theorem dX7_tear_8 : decode cX7_tear 8 = .ok (.getfield 80, 3) := by decide +kernel
theorem dX7_tear_11 : decode cX7_tear 11 = .ok (.getfield 137, 3) := by decide +kernel
theorem dX7_tear_14 : decode cX7_tear 14 = .ok (.iadd, 1) := by decide +kernel
theorem dX7_tear_15 : decode cX7_tear 15 = .ok (.istore_n 1, 1) := by decide +kernel
theorem dX7_tear_16 : decode cX7_tear 16 = .ok (.aload_n 0, 1) := by decide +kernel
theorem dX7_tear_17 : decode cX7_tear 17 = .ok (.getfield 76, 3) := by decide +kernel
theorem dX7_tear_20 : decode cX7_tear 20 = .ok (.invokevirtual 106, 3) := by decide +kernel
theorem dX7_tear_23 : decode cX7_tear 23 = .ok (.aload_n 0, 1) := by decide +kernel
theorem dX7_tear_24 : decode cX7_tear 24 = .ok (.getfield 80, 3) := by decide +kernel
theorem dX7_tear_27 : decode cX7_tear 27 = .ok (.invokevirtual 106, 3) := by decide +kernel
theorem dX7_tear_30 : decode cX7_tear 30 = .ok (.iload_n 1, 1) := by decide +kernel
theorem dX7_tear_31 : decode cX7_tear 31 = .ok (.ireturn, 1) := by decide +kernel
theorem dX7_judge_0 : decode cX7_judge 0 = .ok (.aload_n 0, 1) := by decide +kernel
theorem dX7_judge_1 : decode cX7_judge 1 = .ok (.getfield 80, 3) := by decide +kernel
theorem dX7_judge_4 : decode cX7_judge 4 = .ok (.aload_n 0, 1) := by decide +kernel
theorem dX7_judge_5 : decode cX7_judge 5 = .ok (.getfield 29, 3) := by decide +kernel
theorem dX7_judge_8 : decode cX7_judge 8 = .ok (.invokevirtual 257, 3) := by decide +kernel
theorem dX7_judge_11 : decode cX7_judge 11 = .ok (.ireturn, 1) := by decide +kernel
theorem dX7_seed_0 : decode cX7_seed 0 = .ok (.iload_n 1, 1) := by decide +kernel
theorem dX7_seed_1 : decode cX7_seed 1 = .ok (.ifCond .ge 6, 3) := by decide +kernel
theorem dX7_seed_4 : decode cX7_seed 4 = .ok (.ldc 83, 2) := by decide +kernel
theorem dX7_seed_6 : decode cX7_seed 6 = .ok (.ireturn, 1) := by decide +kernel
theorem dX7_seed_7 : decode cX7_seed 7 = .ok (.aload_n 0, 1) := by decide +kernel
theorem dX7_seed_8 : decode cX7_seed 8 = .ok (.getfield 70, 3) := by decide +kernel
theorem dX7_seed_11 : decode cX7_seed 11 = .ok (.istore_n 2, 1) := by decide +kernel
theorem dX7_seed_12 : decode cX7_seed 12 = .ok (.aload_n 0, 1) := by decide +kernel
theorem dX7_seed_13 : decode cX7_seed 13 = .ok (.iload_n 1, 1) := by decide +kernel
theorem dX7_seed_14 : decode cX7_seed 14 = .ok (.putfield 70, 3) := by decide +kernel
theorem dX7_seed_17 : decode cX7_seed 17 = .ok (.iload_n 2, 1) := by decide +kernel
theorem dX7_seed_18 : decode cX7_seed 18 = .ok (.ireturn, 1) := by decide +kernel
theorem dX7_keep_0 : decode cX7_keep 0 = .ok (.iload_n 1, 1) := by decide +kernel
theorem dX7_keep_1 : decode cX7_keep 1 = .ok (.ifCond .lt 8, 3) := by decide +kernel
theorem dX7_keep_4 : decode cX7_keep 4 = .ok (.iload_n 1, 1) := by decide +kernel
theorem dX7_keep_5 : decode cX7_keep 5 = .ok (.iconst 2, 1) := by decide +kernel
theorem dX7_keep_6 : decode cX7_keep 6 = .ok (.if_icmp .lt 6, 3) := by decide +kernel
theorem dX7_keep_9 : decode cX7_keep 9 = .ok (.ldc 149, 2) := by decide +kernel
theorem dX7_keep_11 : decode cX7_keep 11 = .ok (.ireturn, 1) := by decide +kernel
theorem dX7_keep_12 : decode cX7_keep 12 = .ok (.aload_n 0, 1) := by decide +kernel
theorem dX7_keep_13 : decode cX7_keep 13 = .ok (.getfield 58, 3) := by decide +kernel
theorem dX7_keep_16 : decode cX7_keep 16 = .ok (.iload_n 1, 1) := by decide +kernel
theorem dX7_keep_17 : decode cX7_keep 17 = .ok (.aload_n 0, 1) := by decide +kernel
theorem dX7_keep_18 : decode cX7_keep 18 = .ok (.getfield 29, 3) := by decide +kernel
theorem dX7_keep_21 : decode cX7_keep 21 = .ok (.invokevirtual 261, 3) := by decide +kernel
theorem dX7_keep_24 : decode cX7_keep 24 = .ok (.aload_n 0, 1) := by decide +kernel
theorem dX7_keep_25 : decode cX7_keep 25 = .ok (.getfield 62, 3) := by decide +kernel
theorem dX7_keep_28 : decode cX7_keep 28 = .ok (.iload_n 1, 1) := by decide +kernel
theorem dX7_keep_29 : decode cX7_keep 29 = .ok (.aload_n 0, 1) := by decide +kernel
theorem dX7_keep_30 : decode cX7_keep 30 = .ok (.getfield 70, 3) := by decide +kernel
theorem dX7_keep_33 : decode cX7_keep 33 = .ok (.invokestatic 198, 3) := by decide +kernel
theorem dX7_keep_36 : decode cX7_keep 36 = .ok (.aload_n 0, 1) := by decide +kernel
theorem dX7_keep_37 : decode cX7_keep 37 = .ok (.dup, 1) := by decide +kernel
theorem dX7_keep_38 : decode cX7_keep 38 = .ok (.getfield 66, 3) := by decide +kernel
theorem dX7_keep_41 : decode cX7_keep 41 = .ok (.iconst 1, 1) := by decide +kernel
theorem dX7_keep_42 : decode cX7_keep 42 = .ok (.iload_n 1, 1) := by decide +kernel
theorem dX7_keep_43 : decode cX7_keep 43 = .ok (.ishl, 1) := by decide +kernel
theorem dX7_keep_44 : decode cX7_keep 44 = .ok (.ior, 1) := by decide +kernel
theorem dX7_keep_45 : decode cX7_keep 45 = .ok (.putfield 66, 3) := by decide +kernel
theorem dX7_keep_48 : decode cX7_keep 48 = .ok (.aload_n 0, 1) := by decide +kernel
theorem dX7_keep_49 : decode cX7_keep 49 = .ok (.getfield 49, 3) := by decide +kernel
theorem dX7_keep_52 : decode cX7_keep 52 = .ok (.invokevirtual 103, 3) := by decide +kernel
theorem dX7_keep_55 : decode cX7_keep 55 = .ok (.iconst 1, 1) := by decide +kernel
theorem dX7_keep_56 : decode cX7_keep 56 = .ok (.ireturn, 1) := by decide +kernel
theorem dX7_goBack_0 : decode cX7_goBack 0 = .ok (.iload_n 1, 1) := by decide +kernel
theorem dX7_goBack_1 : decode cX7_goBack 1 = .ok (.ifCond .lt 8, 3) := by decide +kernel
theorem dX7_goBack_4 : decode cX7_goBack 4 = .ok (.iload_n 1, 1) := by decide +kernel
theorem dX7_goBack_5 : decode cX7_goBack 5 = .ok (.iconst 2, 1) := by decide +kernel
theorem dX7_goBack_6 : decode cX7_goBack 6 = .ok (.if_icmp .lt 6, 3) := by decide +kernel
theorem dX7_goBack_9 : decode cX7_goBack 9 = .ok (.ldc 149, 2) := by decide +kernel
theorem dX7_goBack_11 : decode cX7_goBack 11 = .ok (.ireturn, 1) := by decide +kernel
theorem dX7_goBack_12 : decode cX7_goBack 12 = .ok (.aload_n 0, 1) := by decide +kernel
theorem dX7_goBack_13 : decode cX7_goBack 13 = .ok (.getfield 66, 3) := by decide +kernel
theorem dX7_goBack_16 : decode cX7_goBack 16 = .ok (.iload_n 1, 1) := by decide +kernel
theorem dX7_goBack_17 : decode cX7_goBack 17 = .ok (.invokestatic 168, 3) := by decide +kernel
theorem dX7_goBack_20 : decode cX7_goBack 20 = .ok (.ifCond .ne 6, 3) := by decide +kernel
theorem dX7_goBack_23 : decode cX7_goBack 23 = .ok (.ldc 181, 2) := by decide +kernel
theorem dX7_goBack_25 : decode cX7_goBack 25 = .ok (.ireturn, 1) := by decide +kernel
theorem dX7_goBack_26 : decode cX7_goBack 26 = .ok (.aload_n 0, 1) := by decide +kernel
theorem dX7_goBack_27 : decode cX7_goBack 27 = .ok (.getfield 58, 3) := by decide +kernel
theorem dX7_goBack_30 : decode cX7_goBack 30 = .ok (.iload_n 1, 1) := by decide +kernel
theorem dX7_goBack_31 : decode cX7_goBack 31 = .ok (.aload_n 0, 1) := by decide +kernel
theorem dX7_goBack_32 : decode cX7_goBack 32 = .ok (.getfield 29, 3) := by decide +kernel
theorem dX7_goBack_35 : decode cX7_goBack 35 = .ok (.invokevirtual 265, 3) := by decide +kernel
theorem dX7_goBack_38 : decode cX7_goBack 38 = .ok (.aload_n 0, 1) := by decide +kernel
theorem dX7_goBack_39 : decode cX7_goBack 39 = .ok (.aload_n 0, 1) := by decide +kernel
theorem dX7_goBack_40 : decode cX7_goBack 40 = .ok (.getfield 62, 3) := by decide +kernel
theorem dX7_goBack_43 : decode cX7_goBack 43 = .ok (.iload_n 1, 1) := by decide +kernel
theorem dX7_goBack_44 : decode cX7_goBack 44 = .ok (.invokestatic 145, 3) := by decide +kernel
theorem dX7_goBack_47 : decode cX7_goBack 47 = .ok (.putfield 70, 3) := by decide +kernel
theorem dX7_goBack_50 : decode cX7_goBack 50 = .ok (.aload_n 0, 1) := by decide +kernel
theorem dX7_goBack_51 : decode cX7_goBack 51 = .ok (.getfield 49, 3) := by decide +kernel
theorem dX7_goBack_54 : decode cX7_goBack 54 = .ok (.invokevirtual 103, 3) := by decide +kernel
theorem dX7_goBack_57 : decode cX7_goBack 57 = .ok (.iconst 1, 1) := by decide +kernel
theorem dX7_goBack_58 : decode cX7_goBack 58 = .ok (.ireturn, 1) := by decide +kernel
theorem dX7_at_0 : decode cX7_at 0 = .ok (.iload_n 1, 1) := by decide +kernel
theorem dX7_at_1 : decode cX7_at 1 = .ok (.ifCond .lt 15, 3) := by decide +kernel
theorem dX7_at_4 : decode cX7_at 4 = .ok (.iload_n 1, 1) := by decide +kernel
theorem dX7_at_5 : decode cX7_at 5 = .ok (.aload_n 0, 1) := by decide +kernel
theorem dX7_at_6 : decode cX7_at 6 = .ok (.arraylength, 1) := by decide +kernel
theorem dX7_at_7 : decode cX7_at 7 = .ok (.if_icmp .ge 9, 3) := by decide +kernel
theorem dX7_at_10 : decode cX7_at 10 = .ok (.aload_n 0, 1) := by decide +kernel
theorem dX7_at_11 : decode cX7_at 11 = .ok (.iload_n 1, 1) := by decide +kernel
theorem dX7_at_12 : decode cX7_at 12 = .ok (.iaload, 1) := by decide +kernel
theorem dX7_at_13 : decode cX7_at 13 = .ok (.goto 4, 3) := by decide +kernel
theorem dX7_at_16 : decode cX7_at 16 = .ok (.iconst 0, 1) := by decide +kernel
theorem dX7_at_17 : decode cX7_at 17 = .ok (.ireturn, 1) := by decide +kernel
theorem dX7_put_0 : decode cX7_put 0 = .ok (.iload_n 1, 1) := by decide +kernel
theorem dX7_put_1 : decode cX7_put 1 = .ok (.ifCond .lt 13, 3) := by decide +kernel
theorem dX7_put_4 : decode cX7_put 4 = .ok (.iload_n 1, 1) := by decide +kernel
theorem dX7_put_5 : decode cX7_put 5 = .ok (.aload_n 0, 1) := by decide +kernel
theorem dX7_put_6 : decode cX7_put 6 = .ok (.arraylength, 1) := by decide +kernel
theorem dX7_put_7 : decode cX7_put 7 = .ok (.if_icmp .ge 7, 3) := by decide +kernel
theorem dX7_put_10 : decode cX7_put 10 = .ok (.aload_n 0, 1) := by decide +kernel
theorem dX7_put_11 : decode cX7_put 11 = .ok (.iload_n 1, 1) := by decide +kernel
theorem dX7_put_12 : decode cX7_put 12 = .ok (.iload_n 2, 1) := by decide +kernel
theorem dX7_put_13 : decode cX7_put 13 = .ok (.iastore, 1) := by decide +kernel
theorem dX7_put_14 : decode cX7_put 14 = .ok (.return_, 1) := by decide +kernel
theorem dX7_has_0 : decode cX7_has 0 = .ok (.iload_n 1, 1) := by decide +kernel
theorem dX7_has_1 : decode cX7_has 1 = .ok (.ifCond .lt 22, 3) := by decide +kernel
theorem dX7_has_4 : decode cX7_has 4 = .ok (.iload_n 1, 1) := by decide +kernel
theorem dX7_has_5 : decode cX7_has 5 = .ok (.bipush 31, 2) := by decide +kernel
theorem dX7_has_7 : decode cX7_has 7 = .ok (.if_icmp .ge 16, 3) := by decide +kernel
theorem dX7_has_10 : decode cX7_has 10 = .ok (.iload_n 0, 1) := by decide +kernel
theorem dX7_has_11 : decode cX7_has 11 = .ok (.iload_n 1, 1) := by decide +kernel
theorem dX7_has_12 : decode cX7_has 12 = .ok (.ishr, 1) := by decide +kernel
theorem dX7_has_13 : decode cX7_has 13 = .ok (.iconst 1, 1) := by decide +kernel
theorem dX7_has_14 : decode cX7_has 14 = .ok (.iand, 1) := by decide +kernel
theorem dX7_has_15 : decode cX7_has 15 = .ok (.iconst 1, 1) := by decide +kernel
theorem dX7_has_16 : decode cX7_has 16 = .ok (.if_icmp .ne 7, 3) := by decide +kernel
theorem dX7_has_19 : decode cX7_has 19 = .ok (.iconst 1, 1) := by decide +kernel
theorem dX7_has_20 : decode cX7_has 20 = .ok (.goto 4, 3) := by decide +kernel
theorem dX7_has_23 : decode cX7_has 23 = .ok (.iconst 0, 1) := by decide +kernel
theorem dX7_has_24 : decode cX7_has 24 = .ok (.ireturn, 1) := by decide +kernel
theorem dX7_isBelief_0 : decode cX7_isBelief 0 = .ok (.iload_n 0, 1) := by decide +kernel
theorem dX7_isBelief_1 : decode cX7_isBelief 1 = .ok (.ifCond .lt 13, 3) := by decide +kernel
theorem dX7_isBelief_4 : decode cX7_isBelief 4 = .ok (.iload_n 0, 1) := by decide +kernel
theorem dX7_isBelief_5 : decode cX7_isBelief 5 = .ok (.bipush 20, 2) := by decide +kernel
theorem dX7_isBelief_7 : decode cX7_isBelief 7 = .ok (.if_icmp .gt 7, 3) := by decide +kernel
theorem dX7_isBelief_10 : decode cX7_isBelief 10 = .ok (.iconst 1, 1) := by decide +kernel
theorem dX7_isBelief_11 : decode cX7_isBelief 11 = .ok (.goto 4, 3) := by decide +kernel
theorem dX7_isBelief_14 : decode cX7_isBelief 14 = .ok (.iconst 0, 1) := by decide +kernel
theorem dX7_isBelief_15 : decode cX7_isBelief 15 = .ok (.ireturn, 1) := by decide +kernel
theorem dX7_behindMeeting_0 : decode cX7_behindMeeting 0 = .ok (.iconst 2, 1) := by decide +kernel
theorem dX7_behindMeeting_1 : decode cX7_behindMeeting 1 = .ok (.iload_n 0, 1) := by decide +kernel
theorem dX7_behindMeeting_2 : decode cX7_behindMeeting 2 = .ok (.imul, 1) := by decide +kernel
theorem dX7_behindMeeting_3 : decode cX7_behindMeeting 3 = .ok (.iload_n 1, 1) := by decide +kernel
theorem dX7_behindMeeting_4 : decode cX7_behindMeeting 4 = .ok (.iadd, 1) := by decide +kernel
theorem dX7_behindMeeting_5 : decode cX7_behindMeeting 5 = .ok (.iconst 3, 1) := by decide +kernel
theorem dX7_behindMeeting_6 : decode cX7_behindMeeting 6 = .ok (.idiv, 1) := by decide +kernel
theorem dX7_behindMeeting_7 : decode cX7_behindMeeting 7 = .ok (.ireturn, 1) := by decide +kernel
theorem dX7_wornMove_0 : decode cX7_wornMove 0 = .ok (.iconst 1, 1) := by decide +kernel
theorem dX7_wornMove_1 : decode cX7_wornMove 1 = .ok (.iload_n 1, 1) := by decide +kernel
theorem dX7_wornMove_2 : decode cX7_wornMove 2 = .ok (.iadd, 1) := by decide +kernel
theorem dX7_wornMove_3 : decode cX7_wornMove 3 = .ok (.istore_n 2, 1) := by decide +kernel
theorem dX7_wornMove_4 : decode cX7_wornMove 4 = .ok (.iload_n 2, 1) := by decide +kernel
theorem dX7_wornMove_5 : decode cX7_wornMove 5 = .ok (.ifCond .le 9, 3) := by decide +kernel
theorem dX7_wornMove_8 : decode cX7_wornMove 8 = .ok (.iload_n 0, 1) := by decide +kernel
theorem dX7_wornMove_9 : decode cX7_wornMove 9 = .ok (.iload_n 2, 1) := by decide +kernel
theorem dX7_wornMove_10 : decode cX7_wornMove 10 = .ok (.idiv, 1) := by decide +kernel
theorem dX7_wornMove_11 : decode cX7_wornMove 11 = .ok (.goto 4, 3) := by decide +kernel
theorem dX7_wornMove_14 : decode cX7_wornMove 14 = .ok (.iconst 0, 1) := by decide +kernel
theorem dX7_wornMove_15 : decode cX7_wornMove 15 = .ok (.ireturn, 1) := by decide +kernel
theorem dX7_mayBe_0 : decode cX7_mayBe 0 = .ok (.aload_n 0, 1) := by decide +kernel
theorem dX7_mayBe_1 : decode cX7_mayBe 1 = .ok (.getfield 19, 3) := by decide +kernel
theorem dX7_mayBe_4 : decode cX7_mayBe 4 = .ok (.getfield 116, 3) := by decide +kernel
theorem dX7_mayBe_7 : decode cX7_mayBe 7 = .ok (.ifCond .le 32, 3) := by decide +kernel
theorem dX7_mayBe_10 : decode cX7_mayBe 10 = .ok (.aload_n 0, 1) := by decide +kernel
theorem dX7_mayBe_11 : decode cX7_mayBe 11 = .ok (.getfield 19, 3) := by decide +kernel
theorem dX7_mayBe_14 : decode cX7_mayBe 14 = .ok (.iload_n 1, 1) := by decide +kernel
theorem dX7_mayBe_15 : decode cX7_mayBe 15 = .ok (.invokevirtual 232, 3) := by decide +kernel
theorem dX7_mayBe_18 : decode cX7_mayBe 18 = .ok (.ifCond .eq 21, 3) := by decide +kernel
theorem dX7_mayBe_21 : decode cX7_mayBe 21 = .ok (.iload_n 1, 1) := by decide +kernel
theorem dX7_mayBe_22 : decode cX7_mayBe 22 = .ok (.aload_n 0, 1) := by decide +kernel
theorem dX7_mayBe_23 : decode cX7_mayBe 23 = .ok (.getfield 29, 3) := by decide +kernel
theorem dX7_mayBe_26 : decode cX7_mayBe 26 = .ok (.getfield 131, 3) := by decide +kernel
theorem dX7_mayBe_29 : decode cX7_mayBe 29 = .ok (.iconst (-1), 1) := by decide +kernel
theorem dX7_mayBe_30 : decode cX7_mayBe 30 = .ok (.ixor, 1) := by decide +kernel
theorem dX7_mayBe_31 : decode cX7_mayBe 31 = .ok (.iand, 1) := by decide +kernel
theorem dX7_mayBe_32 : decode cX7_mayBe 32 = .ok (.ifCond .ne 7, 3) := by decide +kernel
theorem dX7_mayBe_35 : decode cX7_mayBe 35 = .ok (.iconst 1, 1) := by decide +kernel
theorem dX7_mayBe_36 : decode cX7_mayBe 36 = .ok (.goto 4, 3) := by decide +kernel
theorem dX7_mayBe_39 : decode cX7_mayBe 39 = .ok (.iconst 0, 1) := by decide +kernel
theorem dX7_mayBe_40 : decode cX7_mayBe 40 = .ok (.ireturn, 1) := by decide +kernel
theorem dX7_drawOf_0 : decode cX7_drawOf 0 = .ok (.aload_n 0, 1) := by decide +kernel
theorem dX7_drawOf_1 : decode cX7_drawOf 1 = .ok (.aload_n 0, 1) := by decide +kernel
theorem dX7_drawOf_2 : decode cX7_drawOf 2 = .ok (.getfield 70, 3) := by decide +kernel
theorem dX7_drawOf_5 : decode cX7_drawOf 5 = .ok (.i2l, 1) := by decide +kernel
theorem dX7_drawOf_6 : decode cX7_drawOf 6 = .ok (.ldc2_w 268, 3) := by decide +kernel
theorem dX7_drawOf_9 : decode cX7_drawOf 9 = .ok (.lmul, 1) := by decide +kernel
theorem dX7_drawOf_10 : decode cX7_drawOf 10 = .ok (.ldc2_w 270, 3) := by decide +kernel
theorem dX7_drawOf_13 : decode cX7_drawOf 13 = .ok (.ladd, 1) := by decide +kernel
theorem dX7_drawOf_14 : decode cX7_drawOf 14 = .ok (.ldc2_w 272, 3) := by decide +kernel
theorem dX7_drawOf_17 : decode cX7_drawOf 17 = .ok (.land, 1) := by decide +kernel
theorem dX7_drawOf_18 : decode cX7_drawOf 18 = .ok (.l2i, 1) := by decide +kernel
theorem dX7_drawOf_19 : decode cX7_drawOf 19 = .ok (.putfield 70, 3) := by decide +kernel
theorem dX7_drawOf_22 : decode cX7_drawOf 22 = .ok (.iload_n 1, 1) := by decide +kernel
theorem dX7_drawOf_23 : decode cX7_drawOf 23 = .ok (.ifCond .le 16, 3) := by decide +kernel
theorem dX7_drawOf_26 : decode cX7_drawOf 26 = .ok (.aload_n 0, 1) := by decide +kernel
theorem dX7_drawOf_27 : decode cX7_drawOf 27 = .ok (.getfield 70, 3) := by decide +kernel
theorem dX7_drawOf_30 : decode cX7_drawOf 30 = .ok (.ldc_w 274, 3) := by decide +kernel
theorem dX7_drawOf_33 : decode cX7_drawOf 33 = .ok (.idiv, 1) := by decide +kernel
theorem dX7_drawOf_34 : decode cX7_drawOf 34 = .ok (.iload_n 1, 1) := by decide +kernel
theorem dX7_drawOf_35 : decode cX7_drawOf 35 = .ok (.irem, 1) := by decide +kernel
theorem dX7_drawOf_36 : decode cX7_drawOf 36 = .ok (.goto 4, 3) := by decide +kernel
theorem dX7_drawOf_39 : decode cX7_drawOf 39 = .ok (.iconst 0, 1) := by decide +kernel
theorem dX7_drawOf_40 : decode cX7_drawOf 40 = .ok (.ireturn, 1) := by decide +kernel
theorem dX7_drawnSheet_0 : decode cX7_drawnSheet 0 = .ok (.iconst 0, 1) := by decide +kernel
theorem dX7_drawnSheet_1 : decode cX7_drawnSheet 1 = .ok (.istore_n 1, 1) := by decide +kernel
theorem dX7_drawnSheet_2 : decode cX7_drawnSheet 2 = .ok (.iconst 0, 1) := by decide +kernel
theorem dX7_drawnSheet_3 : decode cX7_drawnSheet 3 = .ok (.istore_n 2, 1) := by decide +kernel
theorem dX7_drawnSheet_4 : decode cX7_drawnSheet 4 = .ok (.iconst 0, 1) := by decide +kernel
theorem dX7_drawnSheet_5 : decode cX7_drawnSheet 5 = .ok (.istore_n 3, 1) := by decide +kernel
theorem dX7_drawnSheet_6 : decode cX7_drawnSheet 6 = .ok (.iload_n 3, 1) := by decide +kernel
theorem dX7_drawnSheet_7 : decode cX7_drawnSheet 7 = .ok (.aload_n 0, 1) := by decide +kernel
theorem dX7_drawnSheet_8 : decode cX7_drawnSheet 8 = .ok (.getfield 19, 3) := by decide +kernel
theorem dX7_drawnSheet_11 : decode cX7_drawnSheet 11 = .ok (.getfield 107, 3) := by decide +kernel
theorem dX7_drawnSheet_14 : decode cX7_drawnSheet 14 = .ok (.if_icmp .ge 51, 3) := by decide +kernel
theorem dX7_drawnSheet_17 : decode cX7_drawnSheet 17 = .ok (.aload_n 0, 1) := by decide +kernel
theorem dX7_drawnSheet_18 : decode cX7_drawnSheet 18 = .ok (.getfield 29, 3) := by decide +kernel
theorem dX7_drawnSheet_21 : decode cX7_drawnSheet 21 = .ok (.getfield 131, 3) := by decide +kernel
theorem dX7_drawnSheet_24 : decode cX7_drawnSheet 24 = .ok (.iload_n 3, 1) := by decide +kernel
theorem dX7_drawnSheet_25 : decode cX7_drawnSheet 25 = .ok (.invokestatic 168, 3) := by decide +kernel
theorem dX7_drawnSheet_28 : decode cX7_drawnSheet 28 = .ok (.ifCond .eq 31, 3) := by decide +kernel
theorem dX7_drawnSheet_31 : decode cX7_drawnSheet 31 = .ok (.iload_n 2, 1) := by decide +kernel
theorem dX7_drawnSheet_32 : decode cX7_drawnSheet 32 = .ok (.aload_n 0, 1) := by decide +kernel
theorem dX7_drawnSheet_33 : decode cX7_drawnSheet 33 = .ok (.getfield 19, 3) := by decide +kernel
theorem dX7_drawnSheet_36 : decode cX7_drawnSheet 36 = .ok (.getfield 113, 3) := by decide +kernel
theorem dX7_drawnSheet_39 : decode cX7_drawnSheet 39 = .ok (.if_icmp .ge 20, 3) := by decide +kernel
theorem dX7_drawnSheet_42 : decode cX7_drawnSheet 42 = .ok (.aload_n 0, 1) := by decide +kernel
theorem dX7_drawnSheet_43 : decode cX7_drawnSheet 43 = .ok (.iconst 3, 1) := by decide +kernel
theorem dX7_drawnSheet_44 : decode cX7_drawnSheet 44 = .ok (.invokevirtual 275, 3) := by decide +kernel
theorem dX7_drawnSheet_47 : decode cX7_drawnSheet 47 = .ok (.ifCond .ne 12, 3) := by decide +kernel
theorem dX7_drawnSheet_50 : decode cX7_drawnSheet 50 = .ok (.iload_n 1, 1) := by decide +kernel
theorem dX7_drawnSheet_51 : decode cX7_drawnSheet 51 = .ok (.iconst 1, 1) := by decide +kernel
theorem dX7_drawnSheet_52 : decode cX7_drawnSheet 52 = .ok (.iload_n 3, 1) := by decide +kernel
theorem dX7_drawnSheet_53 : decode cX7_drawnSheet 53 = .ok (.ishl, 1) := by decide +kernel
theorem dX7_drawnSheet_54 : decode cX7_drawnSheet 54 = .ok (.ior, 1) := by decide +kernel
theorem dX7_drawnSheet_55 : decode cX7_drawnSheet 55 = .ok (.istore_n 1, 1) := by decide +kernel
theorem dX7_drawnSheet_56 : decode cX7_drawnSheet 56 = .ok (.iinc 2 1, 3) := by decide +kernel
theorem dX7_drawnSheet_59 : decode cX7_drawnSheet 59 = .ok (.iinc 3 1, 3) := by decide +kernel
theorem dX7_drawnSheet_62 : decode cX7_drawnSheet 62 = .ok (.goto (-56), 3) := by decide +kernel
theorem dX7_drawnSheet_65 : decode cX7_drawnSheet 65 = .ok (.iload_n 1, 1) := by decide +kernel
theorem dX7_drawnSheet_66 : decode cX7_drawnSheet 66 = .ok (.ireturn, 1) := by decide +kernel
theorem dX7_noteIn_0 : decode cX7_noteIn 0 = .ok (.aload_n 0, 1) := by decide +kernel
theorem dX7_noteIn_1 : decode cX7_noteIn 1 = .ok (.getfield 19, 3) := by decide +kernel
theorem dX7_noteIn_4 : decode cX7_noteIn 4 = .ok (.iload_n 2, 1) := by decide +kernel
theorem dX7_noteIn_5 : decode cX7_noteIn 5 = .ok (.invokevirtual 139, 3) := by decide +kernel
theorem dX7_noteIn_8 : decode cX7_noteIn 8 = .ok (.ifCond .ne 6, 3) := by decide +kernel
theorem dX7_noteIn_11 : decode cX7_noteIn 11 = .ok (.ldc 149, 2) := by decide +kernel
theorem dX7_noteIn_13 : decode cX7_noteIn 13 = .ok (.ireturn, 1) := by decide +kernel
theorem dX7_noteIn_14 : decode cX7_noteIn 14 = .ok (.iload_n 3, 1) := by decide +kernel
theorem dX7_noteIn_15 : decode cX7_noteIn 15 = .ok (.invokestatic 191, 3) := by decide +kernel
theorem dX7_noteIn_18 : decode cX7_noteIn 18 = .ok (.ifCond .ne 6, 3) := by decide +kernel
theorem dX7_noteIn_21 : decode cX7_noteIn 21 = .ok (.ldc 83, 2) := by decide +kernel
theorem dX7_noteIn_23 : decode cX7_noteIn 23 = .ok (.ireturn, 1) := by decide +kernel
theorem dX7_noteIn_24 : decode cX7_noteIn 24 = .ok (.aload_n 1, 1) := by decide +kernel
theorem dX7_noteIn_25 : decode cX7_noteIn 25 = .ok (.iload_n 2, 1) := by decide +kernel
theorem dX7_noteIn_26 : decode cX7_noteIn 26 = .ok (.iload_n 3, 1) := by decide +kernel
theorem dX7_noteIn_27 : decode cX7_noteIn 27 = .ok (.invokevirtual 278, 3) := by decide +kernel
theorem dX7_noteIn_30 : decode cX7_noteIn 30 = .ok (.ifCond .eq 10, 3) := by decide +kernel
theorem dX7_noteIn_33 : decode cX7_noteIn 33 = .ok (.aload_n 1, 1) := by decide +kernel
theorem dX7_noteIn_34 : decode cX7_noteIn 34 = .ok (.getfield 137, 3) := by decide +kernel
theorem dX7_noteIn_37 : decode cX7_noteIn 37 = .ok (.goto 5, 3) := by decide +kernel
theorem dX7_noteIn_40 : decode cX7_noteIn 40 = .ok (.ldc 91, 2) := by decide +kernel
theorem dX7_noteIn_42 : decode cX7_noteIn 42 = .ok (.ireturn, 1) := by decide +kernel
theorem dX7_thoughtBehind_0 : decode cX7_thoughtBehind 0 = .ok (.aload_n 0, 1) := by decide +kernel
theorem dX7_thoughtBehind_1 : decode cX7_thoughtBehind 1 = .ok (.getfield 33, 3) := by decide +kernel
theorem dX7_thoughtBehind_4 : decode cX7_thoughtBehind 4 = .ok (.aload_n 0, 1) := by decide +kernel
theorem dX7_thoughtBehind_5 : decode cX7_thoughtBehind 5 = .ok (.getfield 29, 3) := by decide +kernel
theorem dX7_thoughtBehind_8 : decode cX7_thoughtBehind 8 = .ok (.invokevirtual 210, 3) := by decide +kernel
theorem dX7_thoughtBehind_11 : decode cX7_thoughtBehind 11 = .ok (.aload_n 0, 1) := by decide +kernel
theorem dX7_thoughtBehind_12 : decode cX7_thoughtBehind 12 = .ok (.getfield 33, 3) := by decide +kernel
theorem dX7_thoughtBehind_15 : decode cX7_thoughtBehind 15 = .ok (.aload_n 1, 1) := by decide +kernel
theorem dX7_thoughtBehind_16 : decode cX7_thoughtBehind 16 = .ok (.iload_n 2, 1) := by decide +kernel
theorem dX7_thoughtBehind_17 : decode cX7_thoughtBehind 17 = .ok (.invokevirtual 187, 3) := by decide +kernel
theorem dX7_thoughtBehind_20 : decode cX7_thoughtBehind 20 = .ok (.aload_n 0, 1) := by decide +kernel
theorem dX7_thoughtBehind_21 : decode cX7_thoughtBehind 21 = .ok (.getfield 76, 3) := by decide +kernel
theorem dX7_thoughtBehind_24 : decode cX7_thoughtBehind 24 = .ok (.aload_n 0, 1) := by decide +kernel
theorem dX7_thoughtBehind_25 : decode cX7_thoughtBehind 25 = .ok (.getfield 33, 3) := by decide +kernel
theorem dX7_thoughtBehind_28 : decode cX7_thoughtBehind 28 = .ok (.invokevirtual 257, 3) := by decide +kernel
theorem dX7_thoughtBehind_31 : decode cX7_thoughtBehind 31 = .ok (.iconst (-1), 1) := by decide +kernel
theorem dX7_thoughtBehind_32 : decode cX7_thoughtBehind 32 = .ok (.if_icmp .ne 7, 3) := by decide +kernel
theorem dX7_thoughtBehind_35 : decode cX7_thoughtBehind 35 = .ok (.iconst 1, 1) := by decide +kernel
theorem dX7_thoughtBehind_36 : decode cX7_thoughtBehind 36 = .ok (.goto 4, 3) := by decide +kernel
theorem dX7_thoughtBehind_39 : decode cX7_thoughtBehind 39 = .ok (.iconst 0, 1) := by decide +kernel
theorem dX7_thoughtBehind_40 : decode cX7_thoughtBehind 40 = .ok (.ireturn, 1) := by decide +kernel
theorem dX7_convincesOf_0 : decode cX7_convincesOf 0 = .ok (.aload_n 0, 1) := by decide +kernel
theorem dX7_convincesOf_1 : decode cX7_convincesOf 1 = .ok (.getfield 33, 3) := by decide +kernel
theorem dX7_convincesOf_4 : decode cX7_convincesOf 4 = .ok (.aload_n 0, 1) := by decide +kernel
theorem dX7_convincesOf_5 : decode cX7_convincesOf 5 = .ok (.getfield 29, 3) := by decide +kernel
theorem dX7_convincesOf_8 : decode cX7_convincesOf 8 = .ok (.invokevirtual 210, 3) := by decide +kernel
theorem dX7_convincesOf_11 : decode cX7_convincesOf 11 = .ok (.aload_n 0, 1) := by decide +kernel
theorem dX7_convincesOf_12 : decode cX7_convincesOf 12 = .ok (.getfield 33, 3) := by decide +kernel
theorem dX7_convincesOf_15 : decode cX7_convincesOf 15 = .ok (.aload_n 0, 1) := by decide +kernel
theorem dX7_convincesOf_16 : decode cX7_convincesOf 16 = .ok (.getfield 19, 3) := by decide +kernel
theorem dX7_convincesOf_19 : decode cX7_convincesOf 19 = .ok (.iload_n 1, 1) := by decide +kernel
theorem dX7_convincesOf_20 : decode cX7_convincesOf 20 = .ok (.invokevirtual 187, 3) := by decide +kernel
theorem dX7_convincesOf_23 : decode cX7_convincesOf 23 = .ok (.aload_n 0, 1) := by decide +kernel
theorem dX7_convincesOf_24 : decode cX7_convincesOf 24 = .ok (.getfield 33, 3) := by decide +kernel
theorem dX7_convincesOf_27 : decode cX7_convincesOf 27 = .ok (.aload_n 0, 1) := by decide +kernel
theorem dX7_convincesOf_28 : decode cX7_convincesOf 28 = .ok (.getfield 19, 3) := by decide +kernel
theorem dX7_convincesOf_31 : decode cX7_convincesOf 31 = .ok (.invokevirtual 128, 3) := by decide +kernel
theorem dX7_convincesOf_34 : decode cX7_convincesOf 34 = .ok (.iload_n 2, 1) := by decide +kernel
theorem dX7_convincesOf_35 : decode cX7_convincesOf 35 = .ok (.invokestatic 168, 3) := by decide +kernel
theorem dX7_convincesOf_38 : decode cX7_convincesOf 38 = .ok (.ireturn, 1) := by decide +kernel
theorem dX7_reachedBehind_0 : decode cX7_reachedBehind 0 = .ok (.aload_n 0, 1) := by decide +kernel
theorem dX7_reachedBehind_1 : decode cX7_reachedBehind 1 = .ok (.getfield 33, 3) := by decide +kernel
theorem dX7_reachedBehind_4 : decode cX7_reachedBehind 4 = .ok (.aload_n 0, 1) := by decide +kernel
theorem dX7_reachedBehind_5 : decode cX7_reachedBehind 5 = .ok (.getfield 29, 3) := by decide +kernel
theorem dX7_reachedBehind_8 : decode cX7_reachedBehind 8 = .ok (.invokevirtual 210, 3) := by decide +kernel
theorem dX7_reachedBehind_11 : decode cX7_reachedBehind 11 = .ok (.aload_n 0, 1) := by decide +kernel
theorem dX7_reachedBehind_12 : decode cX7_reachedBehind 12 = .ok (.getfield 33, 3) := by decide +kernel
theorem dX7_reachedBehind_15 : decode cX7_reachedBehind 15 = .ok (.aload_n 0, 1) := by decide +kernel
theorem dX7_reachedBehind_16 : decode cX7_reachedBehind 16 = .ok (.getfield 19, 3) := by decide +kernel
theorem dX7_reachedBehind_19 : decode cX7_reachedBehind 19 = .ok (.iload_n 1, 1) := by decide +kernel
theorem dX7_reachedBehind_20 : decode cX7_reachedBehind 20 = .ok (.invokevirtual 187, 3) := by decide +kernel
theorem dX7_reachedBehind_23 : decode cX7_reachedBehind 23 = .ok (.aload_n 0, 1) := by decide +kernel
theorem dX7_reachedBehind_24 : decode cX7_reachedBehind 24 = .ok (.getfield 33, 3) := by decide +kernel
theorem dX7_reachedBehind_27 : decode cX7_reachedBehind 27 = .ok (.aload_n 0, 1) := by decide +kernel
theorem dX7_reachedBehind_28 : decode cX7_reachedBehind 28 = .ok (.getfield 19, 3) := by decide +kernel
theorem dX7_reachedBehind_31 : decode cX7_reachedBehind 31 = .ok (.invokevirtual 128, 3) := by decide +kernel
theorem dX7_reachedBehind_34 : decode cX7_reachedBehind 34 = .ok (.istore_n 2, 1) := by decide +kernel
theorem dX7_reachedBehind_35 : decode cX7_reachedBehind 35 = .ok (.iconst 0, 1) := by decide +kernel
theorem dX7_reachedBehind_36 : decode cX7_reachedBehind 36 = .ok (.istore_n 3, 1) := by decide +kernel
theorem dX7_reachedBehind_37 : decode cX7_reachedBehind 37 = .ok (.iload_n 3, 1) := by decide +kernel
theorem dX7_reachedBehind_38 : decode cX7_reachedBehind 38 = .ok (.iconst 1, 1) := by decide +kernel
theorem dX7_reachedBehind_39 : decode cX7_reachedBehind 39 = .ok (.aload_n 0, 1) := by decide +kernel
theorem dX7_reachedBehind_40 : decode cX7_reachedBehind 40 = .ok (.getfield 19, 3) := by decide +kernel
theorem dX7_reachedBehind_43 : decode cX7_reachedBehind 43 = .ok (.getfield 107, 3) := by decide +kernel
theorem dX7_reachedBehind_46 : decode cX7_reachedBehind 46 = .ok (.ishl, 1) := by decide +kernel
theorem dX7_reachedBehind_47 : decode cX7_reachedBehind 47 = .ok (.if_icmp .ge 54, 3) := by decide +kernel
theorem dX7_reachedBehind_50 : decode cX7_reachedBehind 50 = .ok (.aload_n 0, 1) := by decide +kernel
theorem dX7_reachedBehind_51 : decode cX7_reachedBehind 51 = .ok (.iload_n 3, 1) := by decide +kernel
theorem dX7_reachedBehind_52 : decode cX7_reachedBehind 52 = .ok (.invokevirtual 178, 3) := by decide +kernel
theorem dX7_reachedBehind_55 : decode cX7_reachedBehind 55 = .ok (.ifCond .eq 40, 3) := by decide +kernel
theorem dX7_reachedBehind_58 : decode cX7_reachedBehind 58 = .ok (.aload_n 0, 1) := by decide +kernel
theorem dX7_reachedBehind_59 : decode cX7_reachedBehind 59 = .ok (.getfield 36, 3) := by decide +kernel
theorem dX7_reachedBehind_62 : decode cX7_reachedBehind 62 = .ok (.aload_n 0, 1) := by decide +kernel
theorem dX7_reachedBehind_63 : decode cX7_reachedBehind 63 = .ok (.getfield 33, 3) := by decide +kernel
theorem dX7_reachedBehind_66 : decode cX7_reachedBehind 66 = .ok (.invokevirtual 210, 3) := by decide +kernel
theorem dX7_reachedBehind_69 : decode cX7_reachedBehind 69 = .ok (.aload_n 0, 1) := by decide +kernel
theorem dX7_reachedBehind_70 : decode cX7_reachedBehind 70 = .ok (.getfield 36, 3) := by decide +kernel
theorem dX7_reachedBehind_73 : decode cX7_reachedBehind 73 = .ok (.aload_n 0, 1) := by decide +kernel
theorem dX7_reachedBehind_74 : decode cX7_reachedBehind 74 = .ok (.getfield 19, 3) := by decide +kernel
theorem dX7_reachedBehind_77 : decode cX7_reachedBehind 77 = .ok (.iload_n 3, 1) := by decide +kernel
theorem dX7_reachedBehind_78 : decode cX7_reachedBehind 78 = .ok (.invokevirtual 187, 3) := by decide +kernel
theorem dX7_reachedBehind_81 : decode cX7_reachedBehind 81 = .ok (.iload_n 2, 1) := by decide +kernel
theorem dX7_reachedBehind_82 : decode cX7_reachedBehind 82 = .ok (.aload_n 0, 1) := by decide +kernel
theorem dX7_reachedBehind_83 : decode cX7_reachedBehind 83 = .ok (.getfield 36, 3) := by decide +kernel
theorem dX7_reachedBehind_86 : decode cX7_reachedBehind 86 = .ok (.aload_n 0, 1) := by decide +kernel
theorem dX7_reachedBehind_87 : decode cX7_reachedBehind 87 = .ok (.getfield 19, 3) := by decide +kernel
theorem dX7_reachedBehind_90 : decode cX7_reachedBehind 90 = .ok (.invokevirtual 128, 3) := by decide +kernel
theorem dX7_reachedBehind_93 : decode cX7_reachedBehind 93 = .ok (.ior, 1) := by decide +kernel
theorem dX7_reachedBehind_94 : decode cX7_reachedBehind 94 = .ok (.istore_n 2, 1) := by decide +kernel
theorem dX7_reachedBehind_95 : decode cX7_reachedBehind 95 = .ok (.iinc 3 1, 3) := by decide +kernel
theorem dX7_reachedBehind_98 : decode cX7_reachedBehind 98 = .ok (.goto (-61), 3) := by decide +kernel
theorem dX7_reachedBehind_101 : decode cX7_reachedBehind 101 = .ok (.iload_n 2, 1) := by decide +kernel
theorem dX7_reachedBehind_102 : decode cX7_reachedBehind 102 = .ok (.ireturn, 1) := by decide +kernel
theorem dX7_findSoonest_0 : decode cX7_findSoonest 0 = .ok (.aload_n 0, 1) := by decide +kernel
theorem dX7_findSoonest_1 : decode cX7_findSoonest 1 = .ok (.getfield 29, 3) := by decide +kernel
theorem dX7_findSoonest_4 : decode cX7_findSoonest 4 = .ok (.aload_n 0, 1) := by decide +kernel
theorem dX7_findSoonest_5 : decode cX7_findSoonest 5 = .ok (.getfield 19, 3) := by decide +kernel
theorem dX7_findSoonest_8 : decode cX7_findSoonest 8 = .ok (.iload_n 1, 1) := by decide +kernel
theorem dX7_findSoonest_9 : decode cX7_findSoonest 9 = .ok (.iload_n 2, 1) := by decide +kernel
theorem dX7_findSoonest_10 : decode cX7_findSoonest 10 = .ok (.invokevirtual 280, 3) := by decide +kernel
theorem dX7_findSoonest_13 : decode cX7_findSoonest 13 = .ok (.ifCond .eq 15, 3) := by decide +kernel
theorem dX7_findSoonest_16 : decode cX7_findSoonest 16 = .ok (.aload_n 0, 1) := by decide +kernel
theorem dX7_findSoonest_17 : decode cX7_findSoonest 17 = .ok (.getfield 42, 3) := by decide +kernel
theorem dX7_findSoonest_20 : decode cX7_findSoonest 20 = .ok (.iconst 0, 1) := by decide +kernel
theorem dX7_findSoonest_21 : decode cX7_findSoonest 21 = .ok (.iconst (-1), 1) := by decide +kernel
theorem dX7_findSoonest_22 : decode cX7_findSoonest 22 = .ok (.iconst (-1), 1) := by decide +kernel
theorem dX7_findSoonest_23 : decode cX7_findSoonest 23 = .ok (.invokevirtual 284, 3) := by decide +kernel
theorem dX7_findSoonest_26 : decode cX7_findSoonest 26 = .ok (.iconst 1, 1) := by decide +kernel
theorem dX7_findSoonest_27 : decode cX7_findSoonest 27 = .ok (.ireturn, 1) := by decide +kernel
theorem dX7_findSoonest_28 : decode cX7_findSoonest 28 = .ok (.aload_n 0, 1) := by decide +kernel
theorem dX7_findSoonest_29 : decode cX7_findSoonest 29 = .ok (.aload_n 0, 1) := by decide +kernel
theorem dX7_findSoonest_30 : decode cX7_findSoonest 30 = .ok (.getfield 29, 3) := by decide +kernel
theorem dX7_findSoonest_33 : decode cX7_findSoonest 33 = .ok (.aload_n 0, 1) := by decide +kernel
theorem dX7_findSoonest_34 : decode cX7_findSoonest 34 = .ok (.getfield 33, 3) := by decide +kernel
theorem dX7_findSoonest_37 : decode cX7_findSoonest 37 = .ok (.iload_n 1, 1) := by decide +kernel
theorem dX7_findSoonest_38 : decode cX7_findSoonest 38 = .ok (.iload_n 2, 1) := by decide +kernel
theorem dX7_findSoonest_39 : decode cX7_findSoonest 39 = .ok (.iconst (-1), 1) := by decide +kernel
theorem dX7_findSoonest_40 : decode cX7_findSoonest 40 = .ok (.invokevirtual 288, 3) := by decide +kernel
theorem dX7_findSoonest_43 : decode cX7_findSoonest 43 = .ok (.ifCond .ne 12, 3) := by decide +kernel
theorem dX7_findSoonest_46 : decode cX7_findSoonest 46 = .ok (.aload_n 0, 1) := by decide +kernel
theorem dX7_findSoonest_47 : decode cX7_findSoonest 47 = .ok (.iload_n 1, 1) := by decide +kernel
theorem dX7_findSoonest_48 : decode cX7_findSoonest 48 = .ok (.iload_n 2, 1) := by decide +kernel
theorem dX7_findSoonest_49 : decode cX7_findSoonest 49 = .ok (.invokevirtual 292, 3) := by decide +kernel
theorem dX7_findSoonest_52 : decode cX7_findSoonest 52 = .ok (.ifCond .eq 7, 3) := by decide +kernel
theorem dX7_findSoonest_55 : decode cX7_findSoonest 55 = .ok (.iconst 1, 1) := by decide +kernel
theorem dX7_findSoonest_56 : decode cX7_findSoonest 56 = .ok (.goto 4, 3) := by decide +kernel
theorem dX7_findSoonest_59 : decode cX7_findSoonest 59 = .ok (.iconst 0, 1) := by decide +kernel
theorem dX7_findSoonest_60 : decode cX7_findSoonest 60 = .ok (.ireturn, 1) := by decide +kernel
theorem dX7_findOneNight_0 : decode cX7_findOneNight 0 = .ok (.iconst 0, 1) := by decide +kernel
theorem dX7_findOneNight_1 : decode cX7_findOneNight 1 = .ok (.istore 6, 2) := by decide +kernel
theorem dX7_findOneNight_3 : decode cX7_findOneNight 3 = .ok (.iload 6, 2) := by decide +kernel
theorem dX7_findOneNight_5 : decode cX7_findOneNight 5 = .ok (.iconst 1, 1) := by decide +kernel
theorem dX7_findOneNight_6 : decode cX7_findOneNight 6 = .ok (.aload_n 0, 1) := by decide +kernel
theorem dX7_findOneNight_7 : decode cX7_findOneNight 7 = .ok (.getfield 19, 3) := by decide +kernel
theorem dX7_findOneNight_10 : decode cX7_findOneNight 10 = .ok (.getfield 107, 3) := by decide +kernel
theorem dX7_findOneNight_13 : decode cX7_findOneNight 13 = .ok (.ishl, 1) := by decide +kernel
theorem dX7_findOneNight_14 : decode cX7_findOneNight 14 = .ok (.if_icmp .ge 82, 3) := by decide +kernel
theorem dX7_findOneNight_17 : decode cX7_findOneNight 17 = .ok (.aload_n 0, 1) := by decide +kernel
theorem dX7_findOneNight_18 : decode cX7_findOneNight 18 = .ok (.iload 6, 2) := by decide +kernel
theorem dX7_findOneNight_20 : decode cX7_findOneNight 20 = .ok (.invokevirtual 178, 3) := by decide +kernel
theorem dX7_findOneNight_23 : decode cX7_findOneNight 23 = .ok (.ifCond .eq 67, 3) := by decide +kernel
theorem dX7_findOneNight_26 : decode cX7_findOneNight 26 = .ok (.aload_n 2, 1) := by decide +kernel
theorem dX7_findOneNight_27 : decode cX7_findOneNight 27 = .ok (.aload_n 1, 1) := by decide +kernel
theorem dX7_findOneNight_28 : decode cX7_findOneNight 28 = .ok (.invokevirtual 210, 3) := by decide +kernel
theorem dX7_findOneNight_31 : decode cX7_findOneNight 31 = .ok (.aload_n 2, 1) := by decide +kernel
theorem dX7_findOneNight_32 : decode cX7_findOneNight 32 = .ok (.aload_n 0, 1) := by decide +kernel
theorem dX7_findOneNight_33 : decode cX7_findOneNight 33 = .ok (.getfield 19, 3) := by decide +kernel
theorem dX7_findOneNight_36 : decode cX7_findOneNight 36 = .ok (.iload 6, 2) := by decide +kernel
theorem dX7_findOneNight_38 : decode cX7_findOneNight 38 = .ok (.invokevirtual 187, 3) := by decide +kernel
theorem dX7_findOneNight_41 : decode cX7_findOneNight 41 = .ok (.aload_n 2, 1) := by decide +kernel
theorem dX7_findOneNight_42 : decode cX7_findOneNight 42 = .ok (.aload_n 0, 1) := by decide +kernel
theorem dX7_findOneNight_43 : decode cX7_findOneNight 43 = .ok (.getfield 19, 3) := by decide +kernel
theorem dX7_findOneNight_46 : decode cX7_findOneNight 46 = .ok (.iload_n 3, 1) := by decide +kernel
theorem dX7_findOneNight_47 : decode cX7_findOneNight 47 = .ok (.iload 4, 2) := by decide +kernel
theorem dX7_findOneNight_49 : decode cX7_findOneNight 49 = .ok (.invokevirtual 280, 3) := by decide +kernel
theorem dX7_findOneNight_52 : decode cX7_findOneNight 52 = .ok (.ifCond .eq 38, 3) := by decide +kernel
theorem dX7_findOneNight_55 : decode cX7_findOneNight 55 = .ok (.aload_n 0, 1) := by decide +kernel
theorem dX7_findOneNight_56 : decode cX7_findOneNight 56 = .ok (.getfield 42, 3) := by decide +kernel
theorem dX7_findOneNight_59 : decode cX7_findOneNight 59 = .ok (.iload 5, 2) := by decide +kernel
theorem dX7_findOneNight_61 : decode cX7_findOneNight 61 = .ok (.iconst (-1), 1) := by decide +kernel
theorem dX7_findOneNight_62 : decode cX7_findOneNight 62 = .ok (.if_icmp .ne 7, 3) := by decide +kernel
theorem dX7_findOneNight_65 : decode cX7_findOneNight 65 = .ok (.iconst 1, 1) := by decide +kernel
theorem dX7_findOneNight_66 : decode cX7_findOneNight 66 = .ok (.goto 4, 3) := by decide +kernel
theorem dX7_findOneNight_69 : decode cX7_findOneNight 69 = .ok (.iconst 2, 1) := by decide +kernel
theorem dX7_findOneNight_70 : decode cX7_findOneNight 70 = .ok (.iload 5, 2) := by decide +kernel
theorem dX7_findOneNight_72 : decode cX7_findOneNight 72 = .ok (.iconst (-1), 1) := by decide +kernel
theorem dX7_findOneNight_73 : decode cX7_findOneNight 73 = .ok (.if_icmp .ne 8, 3) := by decide +kernel
theorem dX7_findOneNight_76 : decode cX7_findOneNight 76 = .ok (.iload 6, 2) := by decide +kernel
theorem dX7_findOneNight_78 : decode cX7_findOneNight 78 = .ok (.goto 5, 3) := by decide +kernel
theorem dX7_findOneNight_81 : decode cX7_findOneNight 81 = .ok (.iload 5, 2) := by decide +kernel
theorem dX7_findOneNight_83 : decode cX7_findOneNight 83 = .ok (.iload 6, 2) := by decide +kernel
theorem dX7_findOneNight_85 : decode cX7_findOneNight 85 = .ok (.invokevirtual 284, 3) := by decide +kernel
theorem dX7_findOneNight_88 : decode cX7_findOneNight 88 = .ok (.iconst 1, 1) := by decide +kernel
theorem dX7_findOneNight_89 : decode cX7_findOneNight 89 = .ok (.ireturn, 1) := by decide +kernel
theorem dX7_findOneNight_90 : decode cX7_findOneNight 90 = .ok (.iinc 6 1, 3) := by decide +kernel
theorem dX7_findOneNight_93 : decode cX7_findOneNight 93 = .ok (.goto (-90), 3) := by decide +kernel
theorem dX7_findOneNight_96 : decode cX7_findOneNight 96 = .ok (.iconst 0, 1) := by decide +kernel
theorem dX7_findOneNight_97 : decode cX7_findOneNight 97 = .ok (.ireturn, 1) := by decide +kernel
theorem dX7_findTwoNights_0 : decode cX7_findTwoNights 0 = .ok (.iconst 0, 1) := by decide +kernel
theorem dX7_findTwoNights_1 : decode cX7_findTwoNights 1 = .ok (.istore_n 3, 1) := by decide +kernel
theorem dX7_findTwoNights_2 : decode cX7_findTwoNights 2 = .ok (.iload_n 3, 1) := by decide +kernel
theorem dX7_findTwoNights_3 : decode cX7_findTwoNights 3 = .ok (.iconst 1, 1) := by decide +kernel
theorem dX7_findTwoNights_4 : decode cX7_findTwoNights 4 = .ok (.aload_n 0, 1) := by decide +kernel
theorem dX7_findTwoNights_5 : decode cX7_findTwoNights 5 = .ok (.getfield 19, 3) := by decide +kernel
theorem dX7_findTwoNights_8 : decode cX7_findTwoNights 8 = .ok (.getfield 107, 3) := by decide +kernel
theorem dX7_findTwoNights_11 : decode cX7_findTwoNights 11 = .ok (.ishl, 1) := by decide +kernel
theorem dX7_findTwoNights_12 : decode cX7_findTwoNights 12 = .ok (.if_icmp .ge 60, 3) := by decide +kernel
theorem dX7_findTwoNights_15 : decode cX7_findTwoNights 15 = .ok (.aload_n 0, 1) := by decide +kernel
theorem dX7_findTwoNights_16 : decode cX7_findTwoNights 16 = .ok (.iload_n 3, 1) := by decide +kernel
theorem dX7_findTwoNights_17 : decode cX7_findTwoNights 17 = .ok (.invokevirtual 178, 3) := by decide +kernel
theorem dX7_findTwoNights_20 : decode cX7_findTwoNights 20 = .ok (.ifCond .eq 46, 3) := by decide +kernel
theorem dX7_findTwoNights_23 : decode cX7_findTwoNights 23 = .ok (.aload_n 0, 1) := by decide +kernel
theorem dX7_findTwoNights_24 : decode cX7_findTwoNights 24 = .ok (.getfield 33, 3) := by decide +kernel
theorem dX7_findTwoNights_27 : decode cX7_findTwoNights 27 = .ok (.aload_n 0, 1) := by decide +kernel
theorem dX7_findTwoNights_28 : decode cX7_findTwoNights 28 = .ok (.getfield 29, 3) := by decide +kernel
theorem dX7_findTwoNights_31 : decode cX7_findTwoNights 31 = .ok (.invokevirtual 210, 3) := by decide +kernel
theorem dX7_findTwoNights_34 : decode cX7_findTwoNights 34 = .ok (.aload_n 0, 1) := by decide +kernel
theorem dX7_findTwoNights_35 : decode cX7_findTwoNights 35 = .ok (.getfield 33, 3) := by decide +kernel
theorem dX7_findTwoNights_38 : decode cX7_findTwoNights 38 = .ok (.aload_n 0, 1) := by decide +kernel
theorem dX7_findTwoNights_39 : decode cX7_findTwoNights 39 = .ok (.getfield 19, 3) := by decide +kernel
theorem dX7_findTwoNights_42 : decode cX7_findTwoNights 42 = .ok (.iload_n 3, 1) := by decide +kernel
theorem dX7_findTwoNights_43 : decode cX7_findTwoNights 43 = .ok (.invokevirtual 187, 3) := by decide +kernel
theorem dX7_findTwoNights_46 : decode cX7_findTwoNights 46 = .ok (.aload_n 0, 1) := by decide +kernel
theorem dX7_findTwoNights_47 : decode cX7_findTwoNights 47 = .ok (.aload_n 0, 1) := by decide +kernel
theorem dX7_findTwoNights_48 : decode cX7_findTwoNights 48 = .ok (.getfield 33, 3) := by decide +kernel
theorem dX7_findTwoNights_51 : decode cX7_findTwoNights 51 = .ok (.aload_n 0, 1) := by decide +kernel
theorem dX7_findTwoNights_52 : decode cX7_findTwoNights 52 = .ok (.getfield 36, 3) := by decide +kernel
theorem dX7_findTwoNights_55 : decode cX7_findTwoNights 55 = .ok (.iload_n 1, 1) := by decide +kernel
theorem dX7_findTwoNights_56 : decode cX7_findTwoNights 56 = .ok (.iload_n 2, 1) := by decide +kernel
theorem dX7_findTwoNights_57 : decode cX7_findTwoNights 57 = .ok (.iload_n 3, 1) := by decide +kernel
theorem dX7_findTwoNights_58 : decode cX7_findTwoNights 58 = .ok (.invokevirtual 288, 3) := by decide +kernel
theorem dX7_findTwoNights_61 : decode cX7_findTwoNights 61 = .ok (.ifCond .eq 5, 3) := by decide +kernel
theorem dX7_findTwoNights_64 : decode cX7_findTwoNights 64 = .ok (.iconst 1, 1) := by decide +kernel
theorem dX7_findTwoNights_65 : decode cX7_findTwoNights 65 = .ok (.ireturn, 1) := by decide +kernel
theorem dX7_findTwoNights_66 : decode cX7_findTwoNights 66 = .ok (.iinc 3 1, 3) := by decide +kernel
theorem dX7_findTwoNights_69 : decode cX7_findTwoNights 69 = .ok (.goto (-67), 3) := by decide +kernel
theorem dX7_findTwoNights_72 : decode cX7_findTwoNights 72 = .ok (.iconst 0, 1) := by decide +kernel
theorem dX7_findTwoNights_73 : decode cX7_findTwoNights 73 = .ok (.ireturn, 1) := by decide +kernel
theorem dX7_rivalsEnd_0 : decode cX7_rivalsEnd 0 = .ok (.iload_n 3, 1) := by decide +kernel
theorem dX7_rivalsEnd_1 : decode cX7_rivalsEnd 1 = .ok (.iload 4, 2) := by decide +kernel
theorem dX7_rivalsEnd_3 : decode cX7_rivalsEnd 3 = .ok (.if_icmp .ge 13, 3) := by decide +kernel
theorem dX7_rivalsEnd_6 : decode cX7_rivalsEnd 6 = .ok (.iload_n 3, 1) := by decide +kernel
theorem dX7_rivalsEnd_7 : decode cX7_rivalsEnd 7 = .ok (.iconst 4, 1) := by decide +kernel
theorem dX7_rivalsEnd_8 : decode cX7_rivalsEnd 8 = .ok (.if_icmp .ge 8, 3) := by decide +kernel
theorem dX7_rivalsEnd_11 : decode cX7_rivalsEnd 11 = .ok (.iload 5, 2) := by decide +kernel
theorem dX7_rivalsEnd_13 : decode cX7_rivalsEnd 13 = .ok (.ifCond .ne 12, 3) := by decide +kernel
theorem dX7_rivalsEnd_16 : decode cX7_rivalsEnd 16 = .ok (.aload_n 1, 1) := by decide +kernel
theorem dX7_rivalsEnd_17 : decode cX7_rivalsEnd 17 = .ok (.getfield 142, 3) := by decide +kernel
theorem dX7_rivalsEnd_20 : decode cX7_rivalsEnd 20 = .ok (.iload_n 2, 1) := by decide +kernel
theorem dX7_rivalsEnd_21 : decode cX7_rivalsEnd 21 = .ok (.invokestatic 145, 3) := by decide +kernel
theorem dX7_rivalsEnd_24 : decode cX7_rivalsEnd 24 = .ok (.ireturn, 1) := by decide +kernel
theorem dX7_rivalsEnd_25 : decode cX7_rivalsEnd 25 = .ok (.iload_n 3, 1) := by decide +kernel
theorem dX7_rivalsEnd_26 : decode cX7_rivalsEnd 26 = .ok (.iconst 2, 1) := by decide +kernel
theorem dX7_rivalsEnd_27 : decode cX7_rivalsEnd 27 = .ok (.irem, 1) := by decide +kernel
theorem dX7_rivalsEnd_28 : decode cX7_rivalsEnd 28 = .ok (.ifCond .ne 7, 3) := by decide +kernel
theorem dX7_rivalsEnd_31 : decode cX7_rivalsEnd 31 = .ok (.iconst 1, 1) := by decide +kernel
theorem dX7_rivalsEnd_32 : decode cX7_rivalsEnd 32 = .ok (.goto 4, 3) := by decide +kernel
theorem dX7_rivalsEnd_35 : decode cX7_rivalsEnd 35 = .ok (.iconst 0, 1) := by decide +kernel
theorem dX7_rivalsEnd_36 : decode cX7_rivalsEnd 36 = .ok (.istore 6, 2) := by decide +kernel
theorem dX7_rivalsEnd_38 : decode cX7_rivalsEnd 38 = .ok (.iload 6, 2) := by decide +kernel
theorem dX7_rivalsEnd_40 : decode cX7_rivalsEnd 40 = .ok (.ifCond .eq 7, 3) := by decide +kernel
theorem dX7_rivalsEnd_43 : decode cX7_rivalsEnd 43 = .ok (.iconst (-1), 1) := by decide +kernel
theorem dX7_rivalsEnd_44 : decode cX7_rivalsEnd 44 = .ok (.goto 5, 3) := by decide +kernel
theorem dX7_rivalsEnd_47 : decode cX7_rivalsEnd 47 = .ok (.bipush 21, 2) := by decide +kernel
theorem dX7_rivalsEnd_49 : decode cX7_rivalsEnd 49 = .ok (.istore 7, 2) := by decide +kernel
theorem dX7_rivalsEnd_51 : decode cX7_rivalsEnd 51 = .ok (.iconst 0, 1) := by decide +kernel
theorem dX7_rivalsEnd_52 : decode cX7_rivalsEnd 52 = .ok (.istore 8, 2) := by decide +kernel
theorem dX7_rivalsEnd_54 : decode cX7_rivalsEnd 54 = .ok (.iload 8, 2) := by decide +kernel
theorem dX7_rivalsEnd_56 : decode cX7_rivalsEnd 56 = .ok (.aload_n 0, 1) := by decide +kernel
theorem dX7_rivalsEnd_57 : decode cX7_rivalsEnd 57 = .ok (.getfield 107, 3) := by decide +kernel
theorem dX7_rivalsEnd_60 : decode cX7_rivalsEnd 60 = .ok (.if_icmp .ge 105, 3) := by decide +kernel
theorem dX7_rivalsEnd_63 : decode cX7_rivalsEnd 63 = .ok (.iload 5, 2) := by decide +kernel
theorem dX7_rivalsEnd_65 : decode cX7_rivalsEnd 65 = .ok (.iload 8, 2) := by decide +kernel
theorem dX7_rivalsEnd_67 : decode cX7_rivalsEnd 67 = .ok (.invokestatic 168, 3) := by decide +kernel
theorem dX7_rivalsEnd_70 : decode cX7_rivalsEnd 70 = .ok (.ifCond .eq 89, 3) := by decide +kernel
theorem dX7_rivalsEnd_73 : decode cX7_rivalsEnd 73 = .ok (.aload_n 0, 1) := by decide +kernel
theorem dX7_rivalsEnd_74 : decode cX7_rivalsEnd 74 = .ok (.getfield 153, 3) := by decide +kernel
theorem dX7_rivalsEnd_77 : decode cX7_rivalsEnd 77 = .ok (.iload 8, 2) := by decide +kernel
theorem dX7_rivalsEnd_79 : decode cX7_rivalsEnd 79 = .ok (.invokestatic 145, 3) := by decide +kernel
theorem dX7_rivalsEnd_82 : decode cX7_rivalsEnd 82 = .ok (.istore 9, 2) := by decide +kernel
theorem dX7_rivalsEnd_84 : decode cX7_rivalsEnd 84 = .ok (.aload_n 1, 1) := by decide +kernel
theorem dX7_rivalsEnd_85 : decode cX7_rivalsEnd 85 = .ok (.getfield 142, 3) := by decide +kernel
theorem dX7_rivalsEnd_88 : decode cX7_rivalsEnd 88 = .ok (.iload 9, 2) := by decide +kernel
theorem dX7_rivalsEnd_90 : decode cX7_rivalsEnd 90 = .ok (.invokestatic 145, 3) := by decide +kernel
theorem dX7_rivalsEnd_93 : decode cX7_rivalsEnd 93 = .ok (.istore 10, 2) := by decide +kernel
theorem dX7_rivalsEnd_95 : decode cX7_rivalsEnd 95 = .ok (.aload_n 1, 1) := by decide +kernel
theorem dX7_rivalsEnd_96 : decode cX7_rivalsEnd 96 = .ok (.aload_n 0, 1) := by decide +kernel
theorem dX7_rivalsEnd_97 : decode cX7_rivalsEnd 97 = .ok (.iload 8, 2) := by decide +kernel
theorem dX7_rivalsEnd_99 : decode cX7_rivalsEnd 99 = .ok (.invokevirtual 295, 3) := by decide +kernel
theorem dX7_rivalsEnd_102 : decode cX7_rivalsEnd 102 = .ok (.pop, 1) := by decide +kernel
theorem dX7_rivalsEnd_103 : decode cX7_rivalsEnd 103 = .ok (.aload_n 0, 1) := by decide +kernel
theorem dX7_rivalsEnd_104 : decode cX7_rivalsEnd 104 = .ok (.aload_n 1, 1) := by decide +kernel
theorem dX7_rivalsEnd_105 : decode cX7_rivalsEnd 105 = .ok (.iload_n 2, 1) := by decide +kernel
theorem dX7_rivalsEnd_106 : decode cX7_rivalsEnd 106 = .ok (.iload_n 3, 1) := by decide +kernel
theorem dX7_rivalsEnd_107 : decode cX7_rivalsEnd 107 = .ok (.iconst 1, 1) := by decide +kernel
theorem dX7_rivalsEnd_108 : decode cX7_rivalsEnd 108 = .ok (.iadd, 1) := by decide +kernel
theorem dX7_rivalsEnd_109 : decode cX7_rivalsEnd 109 = .ok (.iload 4, 2) := by decide +kernel
theorem dX7_rivalsEnd_111 : decode cX7_rivalsEnd 111 = .ok (.iload 5, 2) := by decide +kernel
theorem dX7_rivalsEnd_113 : decode cX7_rivalsEnd 113 = .ok (.iconst 1, 1) := by decide +kernel
theorem dX7_rivalsEnd_114 : decode cX7_rivalsEnd 114 = .ok (.iload 8, 2) := by decide +kernel
theorem dX7_rivalsEnd_116 : decode cX7_rivalsEnd 116 = .ok (.ishl, 1) := by decide +kernel
theorem dX7_rivalsEnd_117 : decode cX7_rivalsEnd 117 = .ok (.iconst (-1), 1) := by decide +kernel
theorem dX7_rivalsEnd_118 : decode cX7_rivalsEnd 118 = .ok (.ixor, 1) := by decide +kernel
theorem dX7_rivalsEnd_119 : decode cX7_rivalsEnd 119 = .ok (.iand, 1) := by decide +kernel
theorem dX7_rivalsEnd_120 : decode cX7_rivalsEnd 120 = .ok (.invokestatic 238, 3) := by decide +kernel
theorem dX7_rivalsEnd_123 : decode cX7_rivalsEnd 123 = .ok (.istore 11, 2) := by decide +kernel
theorem dX7_rivalsEnd_125 : decode cX7_rivalsEnd 125 = .ok (.aload_n 1, 1) := by decide +kernel
theorem dX7_rivalsEnd_126 : decode cX7_rivalsEnd 126 = .ok (.iload 8, 2) := by decide +kernel
theorem dX7_rivalsEnd_128 : decode cX7_rivalsEnd 128 = .ok (.iload 9, 2) := by decide +kernel
theorem dX7_rivalsEnd_130 : decode cX7_rivalsEnd 130 = .ok (.iload 10, 2) := by decide +kernel
theorem dX7_rivalsEnd_132 : decode cX7_rivalsEnd 132 = .ok (.invokevirtual 298, 3) := by decide +kernel
theorem dX7_rivalsEnd_135 : decode cX7_rivalsEnd 135 = .ok (.iload 6, 2) := by decide +kernel
theorem dX7_rivalsEnd_137 : decode cX7_rivalsEnd 137 = .ok (.ifCond .eq 13, 3) := by decide +kernel
theorem dX7_rivalsEnd_140 : decode cX7_rivalsEnd 140 = .ok (.iload 7, 2) := by decide +kernel
theorem dX7_rivalsEnd_142 : decode cX7_rivalsEnd 142 = .ok (.iload 11, 2) := by decide +kernel
theorem dX7_rivalsEnd_144 : decode cX7_rivalsEnd 144 = .ok (.invokestatic 301, 3) := by decide +kernel
theorem dX7_rivalsEnd_147 : decode cX7_rivalsEnd 147 = .ok (.goto 10, 3) := by decide +kernel
theorem dX7_rivalsEnd_150 : decode cX7_rivalsEnd 150 = .ok (.iload 7, 2) := by decide +kernel
theorem dX7_rivalsEnd_152 : decode cX7_rivalsEnd 152 = .ok (.iload 11, 2) := by decide +kernel
theorem dX7_rivalsEnd_154 : decode cX7_rivalsEnd 154 = .ok (.invokestatic 306, 3) := by decide +kernel
theorem dX7_rivalsEnd_157 : decode cX7_rivalsEnd 157 = .ok (.istore 7, 2) := by decide +kernel
theorem dX7_rivalsEnd_159 : decode cX7_rivalsEnd 159 = .ok (.iinc 8 1, 3) := by decide +kernel
theorem dX7_rivalsEnd_162 : decode cX7_rivalsEnd 162 = .ok (.goto (-108), 3) := by decide +kernel
theorem dX7_rivalsEnd_165 : decode cX7_rivalsEnd 165 = .ok (.iload 7, 2) := by decide +kernel
theorem dX7_rivalsEnd_167 : decode cX7_rivalsEnd 167 = .ok (.ireturn, 1) := by decide +kernel
