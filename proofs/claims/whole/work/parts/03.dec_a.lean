theorem dX0_init_0 : decode cX0_init 0 = .ok (.aload_n 0, 1) := by decide +kernel
theorem dX0_init_1 : decode cX0_init 1 = .ok (.invokespecial 3, 3) := by decide +kernel
theorem dX0_init_4 : decode cX0_init 4 = .ok (.aload_n 0, 1) := by decide +kernel
theorem dX0_init_5 : decode cX0_init 5 = .ok (.iconst 0, 1) := by decide +kernel
theorem dX0_init_6 : decode cX0_init 6 = .ok (.putfield 9, 3) := by decide +kernel
theorem dX0_init_9 : decode cX0_init 9 = .ok (.aload_n 0, 1) := by decide +kernel
theorem dX0_init_10 : decode cX0_init 10 = .ok (.iconst 0, 1) := by decide +kernel
theorem dX0_init_11 : decode cX0_init 11 = .ok (.iload_n 1, 1) := by decide +kernel
theorem dX0_init_12 : decode cX0_init 12 = .ok (.invokestatic 15, 3) := by decide +kernel
theorem dX0_init_15 : decode cX0_init 15 = .ok (.newarray .int, 2) := by decide +kernel
theorem dX0_init_17 : decode cX0_init 17 = .ok (.putfield 21, 3) := by decide +kernel
theorem dX0_init_20 : decode cX0_init 20 = .ok (.aload_n 0, 1) := by decide +kernel
theorem dX0_init_21 : decode cX0_init 21 = .ok (.iconst 0, 1) := by decide +kernel
theorem dX0_init_22 : decode cX0_init 22 = .ok (.iload_n 1, 1) := by decide +kernel
theorem dX0_init_23 : decode cX0_init 23 = .ok (.invokestatic 15, 3) := by decide +kernel
theorem dX0_init_26 : decode cX0_init 26 = .ok (.newarray .int, 2) := by decide +kernel
theorem dX0_init_28 : decode cX0_init 28 = .ok (.putfield 25, 3) := by decide +kernel
theorem dX0_init_31 : decode cX0_init 31 = .ok (.return_, 1) := by decide +kernel
theorem dX0_clear_0 : decode cX0_clear 0 = .ok (.aload_n 0, 1) := by decide +kernel
theorem dX0_clear_1 : decode cX0_clear 1 = .ok (.iconst 0, 1) := by decide +kernel
theorem dX0_clear_2 : decode cX0_clear 2 = .ok (.putfield 9, 3) := by decide +kernel
theorem dX0_clear_5 : decode cX0_clear 5 = .ok (.return_, 1) := by decide +kernel
theorem dX0_append_0 : decode cX0_append 0 = .ok (.aload_n 0, 1) := by decide +kernel
theorem dX0_append_1 : decode cX0_append 1 = .ok (.getfield 9, 3) := by decide +kernel
theorem dX0_append_4 : decode cX0_append 4 = .ok (.aload_n 0, 1) := by decide +kernel
theorem dX0_append_5 : decode cX0_append 5 = .ok (.getfield 21, 3) := by decide +kernel
theorem dX0_append_8 : decode cX0_append 8 = .ok (.arraylength, 1) := by decide +kernel
theorem dX0_append_9 : decode cX0_append 9 = .ok (.if_icmp .lt 5, 3) := by decide +kernel
theorem dX0_append_12 : decode cX0_append 12 = .ok (.iconst 0, 1) := by decide +kernel
theorem dX0_append_13 : decode cX0_append 13 = .ok (.ireturn, 1) := by decide +kernel
theorem dX0_append_14 : decode cX0_append 14 = .ok (.aload_n 0, 1) := by decide +kernel
theorem dX0_append_15 : decode cX0_append 15 = .ok (.getfield 21, 3) := by decide +kernel
theorem dX0_append_18 : decode cX0_append 18 = .ok (.aload_n 0, 1) := by decide +kernel
theorem dX0_append_19 : decode cX0_append 19 = .ok (.getfield 9, 3) := by decide +kernel
theorem dX0_append_22 : decode cX0_append 22 = .ok (.iload_n 1, 1) := by decide +kernel
theorem dX0_append_23 : decode cX0_append 23 = .ok (.invokestatic 28, 3) := by decide +kernel
theorem dX0_append_26 : decode cX0_append 26 = .ok (.aload_n 0, 1) := by decide +kernel
theorem dX0_append_27 : decode cX0_append 27 = .ok (.getfield 25, 3) := by decide +kernel
theorem dX0_append_30 : decode cX0_append 30 = .ok (.aload_n 0, 1) := by decide +kernel
theorem dX0_append_31 : decode cX0_append 31 = .ok (.getfield 9, 3) := by decide +kernel
theorem dX0_append_34 : decode cX0_append 34 = .ok (.iload_n 2, 1) := by decide +kernel
theorem dX0_append_35 : decode cX0_append 35 = .ok (.invokestatic 28, 3) := by decide +kernel
theorem dX0_append_38 : decode cX0_append 38 = .ok (.aload_n 0, 1) := by decide +kernel
theorem dX0_append_39 : decode cX0_append 39 = .ok (.dup, 1) := by decide +kernel
theorem dX0_append_40 : decode cX0_append 40 = .ok (.getfield 9, 3) := by decide +kernel
theorem dX0_append_43 : decode cX0_append 43 = .ok (.iconst 1, 1) := by decide +kernel
theorem dX0_append_44 : decode cX0_append 44 = .ok (.iadd, 1) := by decide +kernel
theorem dX0_append_45 : decode cX0_append 45 = .ok (.putfield 9, 3) := by decide +kernel
theorem dX0_append_48 : decode cX0_append 48 = .ok (.iconst 1, 1) := by decide +kernel
theorem dX0_append_49 : decode cX0_append 49 = .ok (.ireturn, 1) := by decide +kernel
theorem dX0_firstOtherwise_0 : decode cX0_firstOtherwise 0 = .ok (.iconst 0, 1) := by decide +kernel
theorem dX0_firstOtherwise_1 : decode cX0_firstOtherwise 1 = .ok (.istore_n 2, 1) := by decide +kernel
theorem dX0_firstOtherwise_2 : decode cX0_firstOtherwise 2 = .ok (.iload_n 2, 1) := by decide +kernel
theorem dX0_firstOtherwise_3 : decode cX0_firstOtherwise 3 = .ok (.aload_n 0, 1) := by decide +kernel
theorem dX0_firstOtherwise_4 : decode cX0_firstOtherwise 4 = .ok (.getfield 9, 3) := by decide +kernel
theorem dX0_firstOtherwise_7 : decode cX0_firstOtherwise 7 = .ok (.if_icmp .ge 37, 3) := by decide +kernel
theorem dX0_firstOtherwise_10 : decode cX0_firstOtherwise 10 = .ok (.aload_n 1, 1) := by decide +kernel
theorem dX0_firstOtherwise_11 : decode cX0_firstOtherwise 11 = .ok (.getfield 32, 3) := by decide +kernel
theorem dX0_firstOtherwise_14 : decode cX0_firstOtherwise 14 = .ok (.aload_n 0, 1) := by decide +kernel
theorem dX0_firstOtherwise_15 : decode cX0_firstOtherwise 15 = .ok (.getfield 21, 3) := by decide +kernel
theorem dX0_firstOtherwise_18 : decode cX0_firstOtherwise 18 = .ok (.iload_n 2, 1) := by decide +kernel
theorem dX0_firstOtherwise_19 : decode cX0_firstOtherwise 19 = .ok (.invokestatic 37, 3) := by decide +kernel
theorem dX0_firstOtherwise_22 : decode cX0_firstOtherwise 22 = .ok (.invokestatic 37, 3) := by decide +kernel
theorem dX0_firstOtherwise_25 : decode cX0_firstOtherwise 25 = .ok (.aload_n 0, 1) := by decide +kernel
theorem dX0_firstOtherwise_26 : decode cX0_firstOtherwise 26 = .ok (.getfield 25, 3) := by decide +kernel
theorem dX0_firstOtherwise_29 : decode cX0_firstOtherwise 29 = .ok (.iload_n 2, 1) := by decide +kernel
theorem dX0_firstOtherwise_30 : decode cX0_firstOtherwise 30 = .ok (.invokestatic 37, 3) := by decide +kernel
theorem dX0_firstOtherwise_33 : decode cX0_firstOtherwise 33 = .ok (.if_icmp .eq 5, 3) := by decide +kernel
theorem dX0_firstOtherwise_36 : decode cX0_firstOtherwise 36 = .ok (.iload_n 2, 1) := by decide +kernel
theorem dX0_firstOtherwise_37 : decode cX0_firstOtherwise 37 = .ok (.ireturn, 1) := by decide +kernel
theorem dX0_firstOtherwise_38 : decode cX0_firstOtherwise 38 = .ok (.iinc 2 1, 3) := by decide +kernel
theorem dX0_firstOtherwise_41 : decode cX0_firstOtherwise 41 = .ok (.goto (-39), 3) := by decide +kernel
theorem dX0_firstOtherwise_44 : decode cX0_firstOtherwise 44 = .ok (.iconst (-1), 1) := by decide +kernel
theorem dX0_firstOtherwise_45 : decode cX0_firstOtherwise 45 = .ok (.ireturn, 1) := by decide +kernel
theorem dX1_init_0 : decode cX1_init 0 = .ok (.aload_n 0, 1) := by decide +kernel
theorem dX1_init_1 : decode cX1_init 1 = .ok (.invokespecial 3, 3) := by decide +kernel
theorem dX1_init_4 : decode cX1_init 4 = .ok (.aload_n 0, 1) := by decide +kernel
theorem dX1_init_5 : decode cX1_init 5 = .ok (.bipush 10, 2) := by decide +kernel
theorem dX1_init_7 : decode cX1_init 7 = .ok (.putfield 9, 3) := by decide +kernel
theorem dX1_init_10 : decode cX1_init 10 = .ok (.aload_n 0, 1) := by decide +kernel
theorem dX1_init_11 : decode cX1_init 11 = .ok (.iconst 5, 1) := by decide +kernel
theorem dX1_init_12 : decode cX1_init 12 = .ok (.newarray .int, 2) := by decide +kernel
theorem dX1_init_14 : decode cX1_init 14 = .ok (.putfield 15, 3) := by decide +kernel
theorem dX1_init_17 : decode cX1_init 17 = .ok (.aload_n 0, 1) := by decide +kernel
theorem dX1_init_18 : decode cX1_init 18 = .ok (.bipush 8, 2) := by decide +kernel
theorem dX1_init_20 : decode cX1_init 20 = .ok (.newarray .int, 2) := by decide +kernel
theorem dX1_init_22 : decode cX1_init 22 = .ok (.putfield 19, 3) := by decide +kernel
theorem dX1_init_25 : decode cX1_init 25 = .ok (.aload_n 0, 1) := by decide +kernel
theorem dX1_init_26 : decode cX1_init 26 = .ok (.bipush 8, 2) := by decide +kernel
theorem dX1_init_28 : decode cX1_init 28 = .ok (.newarray .int, 2) := by decide +kernel
theorem dX1_init_30 : decode cX1_init 30 = .ok (.putfield 22, 3) := by decide +kernel
theorem dX1_init_33 : decode cX1_init 33 = .ok (.aload_n 0, 1) := by decide +kernel
theorem dX1_init_34 : decode cX1_init 34 = .ok (.bipush 8, 2) := by decide +kernel
theorem dX1_init_36 : decode cX1_init 36 = .ok (.newarray .int, 2) := by decide +kernel
theorem dX1_init_38 : decode cX1_init 38 = .ok (.putfield 25, 3) := by decide +kernel
theorem dX1_init_41 : decode cX1_init 41 = .ok (.aload_n 0, 1) := by decide +kernel
theorem dX1_init_42 : decode cX1_init 42 = .ok (.bipush 8, 2) := by decide +kernel
theorem dX1_init_44 : decode cX1_init 44 = .ok (.newarray .int, 2) := by decide +kernel
theorem dX1_init_46 : decode cX1_init 46 = .ok (.putfield 28, 3) := by decide +kernel
theorem dX1_init_49 : decode cX1_init 49 = .ok (.aload_n 0, 1) := by decide +kernel
theorem dX1_init_50 : decode cX1_init 50 = .ok (.bipush 8, 2) := by decide +kernel
theorem dX1_init_52 : decode cX1_init 52 = .ok (.newarray .int, 2) := by decide +kernel
theorem dX1_init_54 : decode cX1_init 54 = .ok (.putfield 31, 3) := by decide +kernel
theorem dX1_init_57 : decode cX1_init 57 = .ok (.return_, 1) := by decide +kernel
theorem dX1_clear_0 : decode cX1_clear 0 = .ok (.aload_n 0, 1) := by decide +kernel
theorem dX1_clear_1 : decode cX1_clear 1 = .ok (.iconst 0, 1) := by decide +kernel
theorem dX1_clear_2 : decode cX1_clear 2 = .ok (.putfield 34, 3) := by decide +kernel
theorem dX1_clear_5 : decode cX1_clear 5 = .ok (.aload_n 0, 1) := by decide +kernel
theorem dX1_clear_6 : decode cX1_clear 6 = .ok (.iconst 0, 1) := by decide +kernel
theorem dX1_clear_7 : decode cX1_clear 7 = .ok (.putfield 37, 3) := by decide +kernel
theorem dX1_clear_10 : decode cX1_clear 10 = .ok (.aload_n 0, 1) := by decide +kernel
theorem dX1_clear_11 : decode cX1_clear 11 = .ok (.iconst 0, 1) := by decide +kernel
theorem dX1_clear_12 : decode cX1_clear 12 = .ok (.putfield 40, 3) := by decide +kernel
theorem dX1_clear_15 : decode cX1_clear 15 = .ok (.aload_n 0, 1) := by decide +kernel
theorem dX1_clear_16 : decode cX1_clear 16 = .ok (.bipush 10, 2) := by decide +kernel
theorem dX1_clear_18 : decode cX1_clear 18 = .ok (.putfield 9, 3) := by decide +kernel
theorem dX1_clear_21 : decode cX1_clear 21 = .ok (.return_, 1) := by decide +kernel
theorem dX1_copyFrom_0 : decode cX1_copyFrom 0 = .ok (.aload_n 0, 1) := by decide +kernel
theorem dX1_copyFrom_1 : decode cX1_copyFrom 1 = .ok (.aload_n 1, 1) := by decide +kernel
theorem dX1_copyFrom_2 : decode cX1_copyFrom 2 = .ok (.getfield 34, 3) := by decide +kernel
theorem dX1_copyFrom_5 : decode cX1_copyFrom 5 = .ok (.putfield 34, 3) := by decide +kernel
theorem dX1_copyFrom_8 : decode cX1_copyFrom 8 = .ok (.aload_n 0, 1) := by decide +kernel
theorem dX1_copyFrom_9 : decode cX1_copyFrom 9 = .ok (.aload_n 1, 1) := by decide +kernel
theorem dX1_copyFrom_10 : decode cX1_copyFrom 10 = .ok (.getfield 37, 3) := by decide +kernel
theorem dX1_copyFrom_13 : decode cX1_copyFrom 13 = .ok (.putfield 37, 3) := by decide +kernel
theorem dX1_copyFrom_16 : decode cX1_copyFrom 16 = .ok (.aload_n 0, 1) := by decide +kernel
theorem dX1_copyFrom_17 : decode cX1_copyFrom 17 = .ok (.aload_n 1, 1) := by decide +kernel
theorem dX1_copyFrom_18 : decode cX1_copyFrom 18 = .ok (.getfield 40, 3) := by decide +kernel
theorem dX1_copyFrom_21 : decode cX1_copyFrom 21 = .ok (.putfield 40, 3) := by decide +kernel
theorem dX1_copyFrom_24 : decode cX1_copyFrom 24 = .ok (.aload_n 0, 1) := by decide +kernel
theorem dX1_copyFrom_25 : decode cX1_copyFrom 25 = .ok (.aload_n 1, 1) := by decide +kernel
theorem dX1_copyFrom_26 : decode cX1_copyFrom 26 = .ok (.getfield 9, 3) := by decide +kernel
theorem dX1_copyFrom_29 : decode cX1_copyFrom 29 = .ok (.putfield 9, 3) := by decide +kernel
theorem dX1_copyFrom_32 : decode cX1_copyFrom 32 = .ok (.iconst 0, 1) := by decide +kernel
theorem dX1_copyFrom_33 : decode cX1_copyFrom 33 = .ok (.istore_n 2, 1) := by decide +kernel
theorem dX1_copyFrom_34 : decode cX1_copyFrom 34 = .ok (.iload_n 2, 1) := by decide +kernel
theorem dX1_copyFrom_35 : decode cX1_copyFrom 35 = .ok (.iconst 5, 1) := by decide +kernel
theorem dX1_copyFrom_36 : decode cX1_copyFrom 36 = .ok (.if_icmp .ge 25, 3) := by decide +kernel
theorem dX1_copyFrom_39 : decode cX1_copyFrom 39 = .ok (.aload_n 0, 1) := by decide +kernel
theorem dX1_copyFrom_40 : decode cX1_copyFrom 40 = .ok (.getfield 15, 3) := by decide +kernel
theorem dX1_copyFrom_43 : decode cX1_copyFrom 43 = .ok (.iload_n 2, 1) := by decide +kernel
theorem dX1_copyFrom_44 : decode cX1_copyFrom 44 = .ok (.aload_n 1, 1) := by decide +kernel
theorem dX1_copyFrom_45 : decode cX1_copyFrom 45 = .ok (.getfield 15, 3) := by decide +kernel
theorem dX1_copyFrom_48 : decode cX1_copyFrom 48 = .ok (.iload_n 2, 1) := by decide +kernel
theorem dX1_copyFrom_49 : decode cX1_copyFrom 49 = .ok (.invokestatic 43, 3) := by decide +kernel
theorem dX1_copyFrom_52 : decode cX1_copyFrom 52 = .ok (.invokestatic 47, 3) := by decide +kernel
theorem dX1_copyFrom_55 : decode cX1_copyFrom 55 = .ok (.iinc 2 1, 3) := by decide +kernel
theorem dX1_copyFrom_58 : decode cX1_copyFrom 58 = .ok (.goto (-24), 3) := by decide +kernel
theorem dX1_copyFrom_61 : decode cX1_copyFrom 61 = .ok (.iconst 0, 1) := by decide +kernel
theorem dX1_copyFrom_62 : decode cX1_copyFrom 62 = .ok (.istore_n 2, 1) := by decide +kernel
theorem dX1_copyFrom_63 : decode cX1_copyFrom 63 = .ok (.iload_n 2, 1) := by decide +kernel
theorem dX1_copyFrom_64 : decode cX1_copyFrom 64 = .ok (.bipush 8, 2) := by decide +kernel
theorem dX1_copyFrom_66 : decode cX1_copyFrom 66 = .ok (.if_icmp .ge 89, 3) := by decide +kernel
theorem dX1_copyFrom_69 : decode cX1_copyFrom 69 = .ok (.aload_n 0, 1) := by decide +kernel
theorem dX1_copyFrom_70 : decode cX1_copyFrom 70 = .ok (.getfield 19, 3) := by decide +kernel
theorem dX1_copyFrom_73 : decode cX1_copyFrom 73 = .ok (.iload_n 2, 1) := by decide +kernel
theorem dX1_copyFrom_74 : decode cX1_copyFrom 74 = .ok (.aload_n 1, 1) := by decide +kernel
theorem dX1_copyFrom_75 : decode cX1_copyFrom 75 = .ok (.getfield 19, 3) := by decide +kernel
theorem dX1_copyFrom_78 : decode cX1_copyFrom 78 = .ok (.iload_n 2, 1) := by decide +kernel
theorem dX1_copyFrom_79 : decode cX1_copyFrom 79 = .ok (.invokestatic 43, 3) := by decide +kernel
theorem dX1_copyFrom_82 : decode cX1_copyFrom 82 = .ok (.invokestatic 47, 3) := by decide +kernel
theorem dX1_copyFrom_85 : decode cX1_copyFrom 85 = .ok (.aload_n 0, 1) := by decide +kernel
theorem dX1_copyFrom_86 : decode cX1_copyFrom 86 = .ok (.getfield 22, 3) := by decide +kernel
theorem dX1_copyFrom_89 : decode cX1_copyFrom 89 = .ok (.iload_n 2, 1) := by decide +kernel
theorem dX1_copyFrom_90 : decode cX1_copyFrom 90 = .ok (.aload_n 1, 1) := by decide +kernel
theorem dX1_copyFrom_91 : decode cX1_copyFrom 91 = .ok (.getfield 22, 3) := by decide +kernel
theorem dX1_copyFrom_94 : decode cX1_copyFrom 94 = .ok (.iload_n 2, 1) := by decide +kernel
theorem dX1_copyFrom_95 : decode cX1_copyFrom 95 = .ok (.invokestatic 43, 3) := by decide +kernel
theorem dX1_copyFrom_98 : decode cX1_copyFrom 98 = .ok (.invokestatic 47, 3) := by decide +kernel
theorem dX1_copyFrom_101 : decode cX1_copyFrom 101 = .ok (.aload_n 0, 1) := by decide +kernel
theorem dX1_copyFrom_102 : decode cX1_copyFrom 102 = .ok (.getfield 25, 3) := by decide +kernel
theorem dX1_copyFrom_105 : decode cX1_copyFrom 105 = .ok (.iload_n 2, 1) := by decide +kernel
theorem dX1_copyFrom_106 : decode cX1_copyFrom 106 = .ok (.aload_n 1, 1) := by decide +kernel
theorem dX1_copyFrom_107 : decode cX1_copyFrom 107 = .ok (.getfield 25, 3) := by decide +kernel
theorem dX1_copyFrom_110 : decode cX1_copyFrom 110 = .ok (.iload_n 2, 1) := by decide +kernel
theorem dX1_copyFrom_111 : decode cX1_copyFrom 111 = .ok (.invokestatic 43, 3) := by decide +kernel
theorem dX1_copyFrom_114 : decode cX1_copyFrom 114 = .ok (.invokestatic 47, 3) := by decide +kernel
theorem dX1_copyFrom_117 : decode cX1_copyFrom 117 = .ok (.aload_n 0, 1) := by decide +kernel
theorem dX1_copyFrom_118 : decode cX1_copyFrom 118 = .ok (.getfield 28, 3) := by decide +kernel
theorem dX1_copyFrom_121 : decode cX1_copyFrom 121 = .ok (.iload_n 2, 1) := by decide +kernel
theorem dX1_copyFrom_122 : decode cX1_copyFrom 122 = .ok (.aload_n 1, 1) := by decide +kernel
theorem dX1_copyFrom_123 : decode cX1_copyFrom 123 = .ok (.getfield 28, 3) := by decide +kernel
theorem dX1_copyFrom_126 : decode cX1_copyFrom 126 = .ok (.iload_n 2, 1) := by decide +kernel
theorem dX1_copyFrom_127 : decode cX1_copyFrom 127 = .ok (.invokestatic 43, 3) := by decide +kernel
theorem dX1_copyFrom_130 : decode cX1_copyFrom 130 = .ok (.invokestatic 47, 3) := by decide +kernel
theorem dX1_copyFrom_133 : decode cX1_copyFrom 133 = .ok (.aload_n 0, 1) := by decide +kernel
theorem dX1_copyFrom_134 : decode cX1_copyFrom 134 = .ok (.getfield 31, 3) := by decide +kernel
theorem dX1_copyFrom_137 : decode cX1_copyFrom 137 = .ok (.iload_n 2, 1) := by decide +kernel
theorem dX1_copyFrom_138 : decode cX1_copyFrom 138 = .ok (.aload_n 1, 1) := by decide +kernel
theorem dX1_copyFrom_139 : decode cX1_copyFrom 139 = .ok (.getfield 31, 3) := by decide +kernel
theorem dX1_copyFrom_142 : decode cX1_copyFrom 142 = .ok (.iload_n 2, 1) := by decide +kernel
theorem dX1_copyFrom_143 : decode cX1_copyFrom 143 = .ok (.invokestatic 43, 3) := by decide +kernel
theorem dX1_copyFrom_146 : decode cX1_copyFrom 146 = .ok (.invokestatic 47, 3) := by decide +kernel
theorem dX1_copyFrom_149 : decode cX1_copyFrom 149 = .ok (.iinc 2 1, 3) := by decide +kernel
theorem dX1_copyFrom_152 : decode cX1_copyFrom 152 = .ok (.goto (-89), 3) := by decide +kernel
theorem dX1_copyFrom_155 : decode cX1_copyFrom 155 = .ok (.return_, 1) := by decide +kernel
theorem dX1_hasOpinion_0 : decode cX1_hasOpinion 0 = .ok (.iload_n 1, 1) := by decide +kernel
theorem dX1_hasOpinion_1 : decode cX1_hasOpinion 1 = .ok (.ifCond .lt 15, 3) := by decide +kernel
theorem dX1_hasOpinion_4 : decode cX1_hasOpinion 4 = .ok (.iload_n 1, 1) := by decide +kernel
theorem dX1_hasOpinion_5 : decode cX1_hasOpinion 5 = .ok (.aload_n 0, 1) := by decide +kernel
theorem dX1_hasOpinion_6 : decode cX1_hasOpinion 6 = .ok (.getfield 37, 3) := by decide +kernel
theorem dX1_hasOpinion_9 : decode cX1_hasOpinion 9 = .ok (.if_icmp .ge 7, 3) := by decide +kernel
theorem dX1_hasOpinion_12 : decode cX1_hasOpinion 12 = .ok (.iconst 1, 1) := by decide +kernel
theorem dX1_hasOpinion_13 : decode cX1_hasOpinion 13 = .ok (.goto 4, 3) := by decide +kernel
theorem dX1_hasOpinion_16 : decode cX1_hasOpinion 16 = .ok (.iconst 0, 1) := by decide +kernel
theorem dX1_hasOpinion_17 : decode cX1_hasOpinion 17 = .ok (.ireturn, 1) := by decide +kernel
theorem dX1_hasFact_0 : decode cX1_hasFact 0 = .ok (.iload_n 1, 1) := by decide +kernel
theorem dX1_hasFact_1 : decode cX1_hasFact 1 = .ok (.ifCond .lt 15, 3) := by decide +kernel
theorem dX1_hasFact_4 : decode cX1_hasFact 4 = .ok (.iload_n 1, 1) := by decide +kernel
theorem dX1_hasFact_5 : decode cX1_hasFact 5 = .ok (.aload_n 0, 1) := by decide +kernel
theorem dX1_hasFact_6 : decode cX1_hasFact 6 = .ok (.getfield 40, 3) := by decide +kernel
theorem dX1_hasFact_9 : decode cX1_hasFact 9 = .ok (.if_icmp .ge 7, 3) := by decide +kernel
theorem dX1_hasFact_12 : decode cX1_hasFact 12 = .ok (.iconst 1, 1) := by decide +kernel
theorem dX1_hasFact_13 : decode cX1_hasFact 13 = .ok (.goto 4, 3) := by decide +kernel
theorem dX1_hasFact_16 : decode cX1_hasFact 16 = .ok (.iconst 0, 1) := by decide +kernel
theorem dX1_hasFact_17 : decode cX1_hasFact 17 = .ok (.ireturn, 1) := by decide +kernel
theorem dX1_hasOpinions_0 : decode cX1_hasOpinions 0 = .ok (.iload_n 1, 1) := by decide +kernel
theorem dX1_hasOpinions_1 : decode cX1_hasOpinions 1 = .ok (.iconst 1, 1) := by decide +kernel
theorem dX1_hasOpinions_2 : decode cX1_hasOpinions 2 = .ok (.aload_n 0, 1) := by decide +kernel
theorem dX1_hasOpinions_3 : decode cX1_hasOpinions 3 = .ok (.getfield 37, 3) := by decide +kernel
theorem dX1_hasOpinions_6 : decode cX1_hasOpinions 6 = .ok (.ishl, 1) := by decide +kernel
theorem dX1_hasOpinions_7 : decode cX1_hasOpinions 7 = .ok (.ineg, 1) := by decide +kernel
theorem dX1_hasOpinions_8 : decode cX1_hasOpinions 8 = .ok (.iand, 1) := by decide +kernel
theorem dX1_hasOpinions_9 : decode cX1_hasOpinions 9 = .ok (.ifCond .ne 7, 3) := by decide +kernel
theorem dX1_hasOpinions_12 : decode cX1_hasOpinions 12 = .ok (.iconst 1, 1) := by decide +kernel
theorem dX1_hasOpinions_13 : decode cX1_hasOpinions 13 = .ok (.goto 4, 3) := by decide +kernel
theorem dX1_hasOpinions_16 : decode cX1_hasOpinions 16 = .ok (.iconst 0, 1) := by decide +kernel
theorem dX1_hasOpinions_17 : decode cX1_hasOpinions 17 = .ok (.ireturn, 1) := by decide +kernel
theorem dX1_hasFacts_0 : decode cX1_hasFacts 0 = .ok (.iload_n 1, 1) := by decide +kernel
theorem dX1_hasFacts_1 : decode cX1_hasFacts 1 = .ok (.iconst 1, 1) := by decide +kernel
theorem dX1_hasFacts_2 : decode cX1_hasFacts 2 = .ok (.aload_n 0, 1) := by decide +kernel
theorem dX1_hasFacts_3 : decode cX1_hasFacts 3 = .ok (.getfield 40, 3) := by decide +kernel
theorem dX1_hasFacts_6 : decode cX1_hasFacts 6 = .ok (.ishl, 1) := by decide +kernel
theorem dX1_hasFacts_7 : decode cX1_hasFacts 7 = .ok (.ineg, 1) := by decide +kernel
theorem dX1_hasFacts_8 : decode cX1_hasFacts 8 = .ok (.iand, 1) := by decide +kernel
theorem dX1_hasFacts_9 : decode cX1_hasFacts 9 = .ok (.ifCond .ne 7, 3) := by decide +kernel
theorem dX1_hasFacts_12 : decode cX1_hasFacts 12 = .ok (.iconst 1, 1) := by decide +kernel
theorem dX1_hasFacts_13 : decode cX1_hasFacts 13 = .ok (.goto 4, 3) := by decide +kernel
theorem dX1_hasFacts_16 : decode cX1_hasFacts 16 = .ok (.iconst 0, 1) := by decide +kernel
theorem dX1_hasFacts_17 : decode cX1_hasFacts 17 = .ok (.ireturn, 1) := by decide +kernel
theorem dX1_fits_0 : decode cX1_fits 0 = .ok (.iload_n 1, 1) := by decide +kernel
theorem dX1_fits_1 : decode cX1_fits 1 = .ok (.invokestatic 51, 3) := by decide +kernel
theorem dX1_fits_4 : decode cX1_fits 4 = .ok (.aload_n 0, 1) := by decide +kernel
theorem dX1_fits_5 : decode cX1_fits 5 = .ok (.getfield 34, 3) := by decide +kernel
theorem dX1_fits_8 : decode cX1_fits 8 = .ok (.if_icmp .gt 7, 3) := by decide +kernel
theorem dX1_fits_11 : decode cX1_fits 11 = .ok (.iconst 1, 1) := by decide +kernel
theorem dX1_fits_12 : decode cX1_fits 12 = .ok (.goto 4, 3) := by decide +kernel
theorem dX1_fits_15 : decode cX1_fits 15 = .ok (.iconst 0, 1) := by decide +kernel
theorem dX1_fits_16 : decode cX1_fits 16 = .ok (.ireturn, 1) := by decide +kernel
theorem dX1_costOf_0 : decode cX1_costOf 0 = .ok (.iconst 0, 1) := by decide +kernel
theorem dX1_costOf_1 : decode cX1_costOf 1 = .ok (.istore_n 2, 1) := by decide +kernel
theorem dX1_costOf_2 : decode cX1_costOf 2 = .ok (.iconst 0, 1) := by decide +kernel
theorem dX1_costOf_3 : decode cX1_costOf 3 = .ok (.istore_n 3, 1) := by decide +kernel
theorem dX1_costOf_4 : decode cX1_costOf 4 = .ok (.iload_n 3, 1) := by decide +kernel
theorem dX1_costOf_5 : decode cX1_costOf 5 = .ok (.aload_n 0, 1) := by decide +kernel
theorem dX1_costOf_6 : decode cX1_costOf 6 = .ok (.getfield 40, 3) := by decide +kernel
theorem dX1_costOf_9 : decode cX1_costOf 9 = .ok (.if_icmp .ge 32, 3) := by decide +kernel
theorem dX1_costOf_12 : decode cX1_costOf 12 = .ok (.iload_n 2, 1) := by decide +kernel
theorem dX1_costOf_13 : decode cX1_costOf 13 = .ok (.iload_n 1, 1) := by decide +kernel
theorem dX1_costOf_14 : decode cX1_costOf 14 = .ok (.iload_n 3, 1) := by decide +kernel
theorem dX1_costOf_15 : decode cX1_costOf 15 = .ok (.invokestatic 57, 3) := by decide +kernel
theorem dX1_costOf_18 : decode cX1_costOf 18 = .ok (.ifCond .eq 14, 3) := by decide +kernel
theorem dX1_costOf_21 : decode cX1_costOf 21 = .ok (.aload_n 0, 1) := by decide +kernel
theorem dX1_costOf_22 : decode cX1_costOf 22 = .ok (.getfield 31, 3) := by decide +kernel
theorem dX1_costOf_25 : decode cX1_costOf 25 = .ok (.iload_n 3, 1) := by decide +kernel
theorem dX1_costOf_26 : decode cX1_costOf 26 = .ok (.invokestatic 43, 3) := by decide +kernel
theorem dX1_costOf_29 : decode cX1_costOf 29 = .ok (.goto 4, 3) := by decide +kernel
theorem dX1_costOf_32 : decode cX1_costOf 32 = .ok (.iconst 0, 1) := by decide +kernel
theorem dX1_costOf_33 : decode cX1_costOf 33 = .ok (.iadd, 1) := by decide +kernel
theorem dX1_costOf_34 : decode cX1_costOf 34 = .ok (.istore_n 2, 1) := by decide +kernel
theorem dX1_costOf_35 : decode cX1_costOf 35 = .ok (.iinc 3 1, 3) := by decide +kernel
theorem dX1_costOf_38 : decode cX1_costOf 38 = .ok (.goto (-34), 3) := by decide +kernel
theorem dX1_costOf_41 : decode cX1_costOf 41 = .ok (.iload_n 2, 1) := by decide +kernel
theorem dX1_costOf_42 : decode cX1_costOf 42 = .ok (.ireturn, 1) := by decide +kernel
theorem dX2_init_0 : decode cX2_init 0 = .ok (.aload_n 0, 1) := by decide +kernel
theorem dX2_init_1 : decode cX2_init 1 = .ok (.invokespecial 3, 3) := by decide +kernel
theorem dX2_init_4 : decode cX2_init 4 = .ok (.aload_n 0, 1) := by decide +kernel
theorem dX2_init_5 : decode cX2_init 5 = .ok (.sipush 240, 3) := by decide +kernel
theorem dX2_init_8 : decode cX2_init 8 = .ok (.newarray .int, 2) := by decide +kernel
theorem dX2_init_10 : decode cX2_init 10 = .ok (.putfield 9, 3) := by decide +kernel
theorem dX2_init_13 : decode cX2_init 13 = .ok (.aload_n 0, 1) := by decide +kernel
theorem dX2_init_14 : decode cX2_init 14 = .ok (.iconst 0, 1) := by decide +kernel
theorem dX2_init_15 : decode cX2_init 15 = .ok (.putfield 15, 3) := by decide +kernel
theorem dX2_init_18 : decode cX2_init 18 = .ok (.aload_n 0, 1) := by decide +kernel
theorem dX2_init_19 : decode cX2_init 19 = .ok (.iconst 0, 1) := by decide +kernel
theorem dX2_init_20 : decode cX2_init 20 = .ok (.putfield 19, 3) := by decide +kernel
theorem dX2_init_23 : decode cX2_init 23 = .ok (.aload_n 0, 1) := by decide +kernel
theorem dX2_init_24 : decode cX2_init 24 = .ok (.iconst (-1), 1) := by decide +kernel
theorem dX2_init_25 : decode cX2_init 25 = .ok (.putfield 22, 3) := by decide +kernel
theorem dX2_init_28 : decode cX2_init 28 = .ok (.return_, 1) := by decide +kernel
theorem dX2_append_0 : decode cX2_append 0 = .ok (.aload_n 0, 1) := by decide +kernel
theorem dX2_append_1 : decode cX2_append 1 = .ok (.getfield 15, 3) := by decide +kernel
theorem dX2_append_4 : decode cX2_append 4 = .ok (.sipush 240, 3) := by decide +kernel
theorem dX2_append_7 : decode cX2_append 7 = .ok (.if_icmp .lt 5, 3) := by decide +kernel
theorem dX2_append_10 : decode cX2_append 10 = .ok (.iconst 0, 1) := by decide +kernel
theorem dX2_append_11 : decode cX2_append 11 = .ok (.ireturn, 1) := by decide +kernel
theorem dX2_append_12 : decode cX2_append 12 = .ok (.aload_n 0, 1) := by decide +kernel
theorem dX2_append_13 : decode cX2_append 13 = .ok (.getfield 9, 3) := by decide +kernel
theorem dX2_append_16 : decode cX2_append 16 = .ok (.aload_n 0, 1) := by decide +kernel
theorem dX2_append_17 : decode cX2_append 17 = .ok (.getfield 15, 3) := by decide +kernel
theorem dX2_append_20 : decode cX2_append 20 = .ok (.iload_n 1, 1) := by decide +kernel
theorem dX2_append_21 : decode cX2_append 21 = .ok (.invokestatic 25, 3) := by decide +kernel
theorem dX2_append_24 : decode cX2_append 24 = .ok (.aload_n 0, 1) := by decide +kernel
theorem dX2_append_25 : decode cX2_append 25 = .ok (.dup, 1) := by decide +kernel
theorem dX2_append_26 : decode cX2_append 26 = .ok (.getfield 15, 3) := by decide +kernel
theorem dX2_append_29 : decode cX2_append 29 = .ok (.iconst 1, 1) := by decide +kernel
theorem dX2_append_30 : decode cX2_append 30 = .ok (.iadd, 1) := by decide +kernel
theorem dX2_append_31 : decode cX2_append 31 = .ok (.putfield 15, 3) := by decide +kernel
theorem dX2_append_34 : decode cX2_append 34 = .ok (.iconst 1, 1) := by decide +kernel
theorem dX2_append_35 : decode cX2_append 35 = .ok (.ireturn, 1) := by decide +kernel
theorem dX2_readInto_0 : decode cX2_readInto 0 = .ok (.aload_n 1, 1) := by decide +kernel
theorem dX2_readInto_1 : decode cX2_readInto 1 = .ok (.invokevirtual 29, 3) := by decide +kernel
theorem dX2_readInto_4 : decode cX2_readInto 4 = .ok (.aload_n 0, 1) := by decide +kernel
theorem dX2_readInto_5 : decode cX2_readInto 5 = .ok (.iconst 0, 1) := by decide +kernel
theorem dX2_readInto_6 : decode cX2_readInto 6 = .ok (.putfield 34, 3) := by decide +kernel
theorem dX2_readInto_9 : decode cX2_readInto 9 = .ok (.aload_n 0, 1) := by decide +kernel
theorem dX2_readInto_10 : decode cX2_readInto 10 = .ok (.iconst 0, 1) := by decide +kernel
theorem dX2_readInto_11 : decode cX2_readInto 11 = .ok (.putfield 19, 3) := by decide +kernel
theorem dX2_readInto_14 : decode cX2_readInto 14 = .ok (.aload_n 0, 1) := by decide +kernel
theorem dX2_readInto_15 : decode cX2_readInto 15 = .ok (.iconst (-1), 1) := by decide +kernel
theorem dX2_readInto_16 : decode cX2_readInto 16 = .ok (.putfield 22, 3) := by decide +kernel
theorem dX2_readInto_19 : decode cX2_readInto 19 = .ok (.aload_n 0, 1) := by decide +kernel
theorem dX2_readInto_20 : decode cX2_readInto 20 = .ok (.iconst 0, 1) := by decide +kernel
theorem dX2_readInto_21 : decode cX2_readInto 21 = .ok (.putfield 37, 3) := by decide +kernel
theorem dX2_readInto_24 : decode cX2_readInto 24 = .ok (.aload_n 0, 1) := by decide +kernel
theorem dX2_readInto_25 : decode cX2_readInto 25 = .ok (.invokevirtual 41, 3) := by decide +kernel
theorem dX2_readInto_28 : decode cX2_readInto 28 = .ok (.iconst 0, 1) := by decide +kernel
theorem dX2_readInto_29 : decode cX2_readInto 29 = .ok (.istore_n 2, 1) := by decide +kernel
theorem dX2_readInto_30 : decode cX2_readInto 30 = .ok (.iload_n 2, 1) := by decide +kernel
theorem dX2_readInto_31 : decode cX2_readInto 31 = .ok (.sipush 240, 3) := by decide +kernel
theorem dX2_readInto_34 : decode cX2_readInto 34 = .ok (.if_icmp .ge 33, 3) := by decide +kernel
theorem dX2_readInto_37 : decode cX2_readInto 37 = .ok (.aload_n 0, 1) := by decide +kernel
theorem dX2_readInto_38 : decode cX2_readInto 38 = .ok (.invokevirtual 44, 3) := by decide +kernel
theorem dX2_readInto_41 : decode cX2_readInto 41 = .ok (.iconst (-1), 1) := by decide +kernel
theorem dX2_readInto_42 : decode cX2_readInto 42 = .ok (.if_icmp .eq 25, 3) := by decide +kernel
theorem dX2_readInto_45 : decode cX2_readInto 45 = .ok (.aload_n 0, 1) := by decide +kernel
theorem dX2_readInto_46 : decode cX2_readInto 46 = .ok (.getfield 19, 3) := by decide +kernel
theorem dX2_readInto_49 : decode cX2_readInto 49 = .ok (.ifCond .ne 18, 3) := by decide +kernel
theorem dX2_readInto_52 : decode cX2_readInto 52 = .ok (.aload_n 0, 1) := by decide +kernel
theorem dX2_readInto_53 : decode cX2_readInto 53 = .ok (.aload_n 1, 1) := by decide +kernel
theorem dX2_readInto_54 : decode cX2_readInto 54 = .ok (.invokevirtual 48, 3) := by decide +kernel
theorem dX2_readInto_57 : decode cX2_readInto 57 = .ok (.aload_n 0, 1) := by decide +kernel
theorem dX2_readInto_58 : decode cX2_readInto 58 = .ok (.invokevirtual 41, 3) := by decide +kernel
theorem dX2_readInto_61 : decode cX2_readInto 61 = .ok (.iinc 2 1, 3) := by decide +kernel
theorem dX2_readInto_64 : decode cX2_readInto 64 = .ok (.goto (-34), 3) := by decide +kernel
theorem dX2_readInto_67 : decode cX2_readInto 67 = .ok (.aload_n 0, 1) := by decide +kernel
theorem dX2_readInto_68 : decode cX2_readInto 68 = .ok (.getfield 19, 3) := by decide +kernel
theorem dX2_readInto_71 : decode cX2_readInto 71 = .ok (.ireturn, 1) := by decide +kernel
theorem dX2_next_0 : decode cX2_next 0 = .ok (.aload_n 0, 1) := by decide +kernel
theorem dX2_next_1 : decode cX2_next 1 = .ok (.getfield 34, 3) := by decide +kernel
theorem dX2_next_4 : decode cX2_next 4 = .ok (.aload_n 0, 1) := by decide +kernel
theorem dX2_next_5 : decode cX2_next 5 = .ok (.getfield 15, 3) := by decide +kernel
theorem dX2_next_8 : decode cX2_next 8 = .ok (.if_icmp .ge 17, 3) := by decide +kernel
theorem dX2_next_11 : decode cX2_next 11 = .ok (.aload_n 0, 1) := by decide +kernel
theorem dX2_next_12 : decode cX2_next 12 = .ok (.getfield 9, 3) := by decide +kernel
theorem dX2_next_15 : decode cX2_next 15 = .ok (.aload_n 0, 1) := by decide +kernel
theorem dX2_next_16 : decode cX2_next 16 = .ok (.getfield 34, 3) := by decide +kernel
theorem dX2_next_19 : decode cX2_next 19 = .ok (.invokestatic 52, 3) := by decide +kernel
theorem dX2_next_22 : decode cX2_next 22 = .ok (.goto 4, 3) := by decide +kernel
theorem dX2_next_25 : decode cX2_next 25 = .ok (.iconst (-1), 1) := by decide +kernel
theorem dX2_next_26 : decode cX2_next 26 = .ok (.ireturn, 1) := by decide +kernel
theorem dX2_skipBlanks_0 : decode cX2_skipBlanks 0 = .ok (.iconst 0, 1) := by decide +kernel
theorem dX2_skipBlanks_1 : decode cX2_skipBlanks 1 = .ok (.istore_n 1, 1) := by decide +kernel
theorem dX2_skipBlanks_2 : decode cX2_skipBlanks 2 = .ok (.iload_n 1, 1) := by decide +kernel
theorem dX2_skipBlanks_3 : decode cX2_skipBlanks 3 = .ok (.sipush 240, 3) := by decide +kernel
theorem dX2_skipBlanks_6 : decode cX2_skipBlanks 6 = .ok (.if_icmp .ge 28, 3) := by decide +kernel
theorem dX2_skipBlanks_9 : decode cX2_skipBlanks 9 = .ok (.aload_n 0, 1) := by decide +kernel
theorem dX2_skipBlanks_10 : decode cX2_skipBlanks 10 = .ok (.invokevirtual 44, 3) := by decide +kernel
theorem dX2_skipBlanks_13 : decode cX2_skipBlanks 13 = .ok (.bipush 32, 2) := by decide +kernel
theorem dX2_skipBlanks_15 : decode cX2_skipBlanks 15 = .ok (.if_icmp .ne 19, 3) := by decide +kernel
theorem dX2_skipBlanks_18 : decode cX2_skipBlanks 18 = .ok (.aload_n 0, 1) := by decide +kernel
theorem dX2_skipBlanks_19 : decode cX2_skipBlanks 19 = .ok (.dup, 1) := by decide +kernel
theorem dX2_skipBlanks_20 : decode cX2_skipBlanks 20 = .ok (.getfield 34, 3) := by decide +kernel
theorem dX2_skipBlanks_23 : decode cX2_skipBlanks 23 = .ok (.iconst 1, 1) := by decide +kernel
theorem dX2_skipBlanks_24 : decode cX2_skipBlanks 24 = .ok (.iadd, 1) := by decide +kernel
theorem dX2_skipBlanks_25 : decode cX2_skipBlanks 25 = .ok (.putfield 34, 3) := by decide +kernel
theorem dX2_skipBlanks_28 : decode cX2_skipBlanks 28 = .ok (.iinc 1 1, 3) := by decide +kernel
theorem dX2_skipBlanks_31 : decode cX2_skipBlanks 31 = .ok (.goto (-29), 3) := by decide +kernel
theorem dX2_skipBlanks_34 : decode cX2_skipBlanks 34 = .ok (.return_, 1) := by decide +kernel
theorem dX2_atFigure_0 : decode cX2_atFigure 0 = .ok (.aload_n 0, 1) := by decide +kernel
theorem dX2_atFigure_1 : decode cX2_atFigure 1 = .ok (.invokevirtual 44, 3) := by decide +kernel
theorem dX2_atFigure_4 : decode cX2_atFigure 4 = .ok (.bipush 48, 2) := by decide +kernel
theorem dX2_atFigure_6 : decode cX2_atFigure 6 = .ok (.if_icmp .lt 16, 3) := by decide +kernel
theorem dX2_atFigure_9 : decode cX2_atFigure 9 = .ok (.aload_n 0, 1) := by decide +kernel
theorem dX2_atFigure_10 : decode cX2_atFigure 10 = .ok (.invokevirtual 44, 3) := by decide +kernel
theorem dX2_atFigure_13 : decode cX2_atFigure 13 = .ok (.bipush 57, 2) := by decide +kernel
theorem dX2_atFigure_15 : decode cX2_atFigure 15 = .ok (.if_icmp .gt 7, 3) := by decide +kernel
theorem dX2_atFigure_18 : decode cX2_atFigure 18 = .ok (.iconst 1, 1) := by decide +kernel
theorem dX2_atFigure_19 : decode cX2_atFigure 19 = .ok (.goto 4, 3) := by decide +kernel
theorem dX2_atFigure_22 : decode cX2_atFigure 22 = .ok (.iconst 0, 1) := by decide +kernel
theorem dX2_atFigure_23 : decode cX2_atFigure 23 = .ok (.ireturn, 1) := by decide +kernel
theorem dX2_mark_0 : decode cX2_mark 0 = .ok (.aload_n 0, 1) := by decide +kernel
theorem dX2_mark_1 : decode cX2_mark 1 = .ok (.getfield 19, 3) := by decide +kernel
theorem dX2_mark_4 : decode cX2_mark 4 = .ok (.ifCond .ne 13, 3) := by decide +kernel
theorem dX2_mark_7 : decode cX2_mark 7 = .ok (.aload_n 0, 1) := by decide +kernel
theorem dX2_mark_8 : decode cX2_mark 8 = .ok (.iload_n 1, 1) := by decide +kernel
theorem dX2_mark_9 : decode cX2_mark 9 = .ok (.putfield 19, 3) := by decide +kernel
theorem dX2_mark_12 : decode cX2_mark 12 = .ok (.aload_n 0, 1) := by decide +kernel
theorem dX2_mark_13 : decode cX2_mark 13 = .ok (.iload_n 2, 1) := by decide +kernel
theorem dX2_mark_14 : decode cX2_mark 14 = .ok (.putfield 22, 3) := by decide +kernel
theorem dX2_mark_17 : decode cX2_mark 17 = .ok (.return_, 1) := by decide +kernel
theorem dX2_readClause_0 : decode cX2_readClause 0 = .ok (.aload_n 0, 1) := by decide +kernel
theorem dX2_readClause_1 : decode cX2_readClause 1 = .ok (.invokevirtual 44, 3) := by decide +kernel
theorem dX2_readClause_4 : decode cX2_readClause 4 = .ok (.istore_n 2, 1) := by decide +kernel
theorem dX2_readClause_5 : decode cX2_readClause 5 = .ok (.iload_n 2, 1) := by decide +kernel
theorem dX2_readClause_6 : decode cX2_readClause 6 = .ok (.bipush 114, 2) := by decide +kernel
theorem dX2_readClause_8 : decode cX2_readClause 8 = .ok (.if_icmp .eq 32, 3) := by decide +kernel
theorem dX2_readClause_11 : decode cX2_readClause 11 = .ok (.aload_n 1, 1) := by decide +kernel
theorem dX2_readClause_12 : decode cX2_readClause 12 = .ok (.getfield 56, 3) := by decide +kernel
theorem dX2_readClause_15 : decode cX2_readClause 15 = .ok (.ifCond .eq 15, 3) := by decide +kernel
theorem dX2_readClause_18 : decode cX2_readClause 18 = .ok (.iload_n 2, 1) := by decide +kernel
theorem dX2_readClause_19 : decode cX2_readClause 19 = .ok (.bipush 102, 2) := by decide +kernel
theorem dX2_readClause_21 : decode cX2_readClause 21 = .ok (.if_icmp .eq 19, 3) := by decide +kernel
theorem dX2_readClause_24 : decode cX2_readClause 24 = .ok (.iload_n 2, 1) := by decide +kernel
theorem dX2_readClause_25 : decode cX2_readClause 25 = .ok (.bipush 104, 2) := by decide +kernel
theorem dX2_readClause_27 : decode cX2_readClause 27 = .ok (.if_icmp .eq 13, 3) := by decide +kernel
theorem dX2_readClause_30 : decode cX2_readClause 30 = .ok (.aload_n 0, 1) := by decide +kernel
theorem dX2_readClause_31 : decode cX2_readClause 31 = .ok (.iconst 1, 1) := by decide +kernel
theorem dX2_readClause_32 : decode cX2_readClause 32 = .ok (.aload_n 0, 1) := by decide +kernel
theorem dX2_readClause_33 : decode cX2_readClause 33 = .ok (.getfield 34, 3) := by decide +kernel
theorem dX2_readClause_36 : decode cX2_readClause 36 = .ok (.invokevirtual 59, 3) := by decide +kernel
theorem dX2_readClause_39 : decode cX2_readClause 39 = .ok (.return_, 1) := by decide +kernel
theorem dX2_readClause_40 : decode cX2_readClause 40 = .ok (.aload_n 0, 1) := by decide +kernel
theorem dX2_readClause_41 : decode cX2_readClause 41 = .ok (.aload_n 1, 1) := by decide +kernel
theorem dX2_readClause_42 : decode cX2_readClause 42 = .ok (.iload_n 2, 1) := by decide +kernel
theorem dX2_readClause_43 : decode cX2_readClause 43 = .ok (.invokevirtual 63, 3) := by decide +kernel
theorem dX2_readClause_46 : decode cX2_readClause 46 = .ok (.ifCond .eq 13, 3) := by decide +kernel
theorem dX2_readClause_49 : decode cX2_readClause 49 = .ok (.aload_n 0, 1) := by decide +kernel
theorem dX2_readClause_50 : decode cX2_readClause 50 = .ok (.iconst 3, 1) := by decide +kernel
theorem dX2_readClause_51 : decode cX2_readClause 51 = .ok (.aload_n 0, 1) := by decide +kernel
theorem dX2_readClause_52 : decode cX2_readClause 52 = .ok (.getfield 34, 3) := by decide +kernel
theorem dX2_readClause_55 : decode cX2_readClause 55 = .ok (.invokevirtual 59, 3) := by decide +kernel
theorem dX2_readClause_58 : decode cX2_readClause 58 = .ok (.return_, 1) := by decide +kernel
theorem dX2_readClause_59 : decode cX2_readClause 59 = .ok (.aload_n 0, 1) := by decide +kernel
theorem dX2_readClause_60 : decode cX2_readClause 60 = .ok (.dup, 1) := by decide +kernel
theorem dX2_readClause_61 : decode cX2_readClause 61 = .ok (.getfield 34, 3) := by decide +kernel
theorem dX2_readClause_64 : decode cX2_readClause 64 = .ok (.iconst 1, 1) := by decide +kernel
theorem dX2_readClause_65 : decode cX2_readClause 65 = .ok (.iadd, 1) := by decide +kernel
theorem dX2_readClause_66 : decode cX2_readClause 66 = .ok (.putfield 34, 3) := by decide +kernel
theorem dX2_readClause_69 : decode cX2_readClause 69 = .ok (.iload_n 2, 1) := by decide +kernel
theorem dX2_readClause_70 : decode cX2_readClause 70 = .ok (.lookupswitch 42 #[(102, 34), (114, 26)], 26) := by decide +kernel
theorem dX2_readClause_96 : decode cX2_readClause 96 = .ok (.aload_n 0, 1) := by decide +kernel
theorem dX2_readClause_97 : decode cX2_readClause 97 = .ok (.aload_n 1, 1) := by decide +kernel
theorem dX2_readClause_98 : decode cX2_readClause 98 = .ok (.invokevirtual 67, 3) := by decide +kernel
theorem dX2_readClause_101 : decode cX2_readClause 101 = .ok (.goto 27, 3) := by decide +kernel
theorem dX2_readClause_104 : decode cX2_readClause 104 = .ok (.aload_n 0, 1) := by decide +kernel
theorem dX2_readClause_105 : decode cX2_readClause 105 = .ok (.aload_n 1, 1) := by decide +kernel
theorem dX2_readClause_106 : decode cX2_readClause 106 = .ok (.invokevirtual 70, 3) := by decide +kernel
theorem dX2_readClause_109 : decode cX2_readClause 109 = .ok (.goto 19, 3) := by decide +kernel
theorem dX2_readClause_112 : decode cX2_readClause 112 = .ok (.aload_n 1, 1) := by decide +kernel
theorem dX2_readClause_113 : decode cX2_readClause 113 = .ok (.aload_n 0, 1) := by decide +kernel
theorem dX2_readClause_114 : decode cX2_readClause 114 = .ok (.iconst 1, 1) := by decide +kernel
theorem dX2_readClause_115 : decode cX2_readClause 115 = .ok (.bipush 20, 2) := by decide +kernel
theorem dX2_readClause_117 : decode cX2_readClause 117 = .ok (.invokevirtual 73, 3) := by decide +kernel
theorem dX2_readClause_120 : decode cX2_readClause 120 = .ok (.putfield 77, 3) := by decide +kernel
theorem dX2_readClause_123 : decode cX2_readClause 123 = .ok (.aload_n 0, 1) := by decide +kernel
theorem dX2_readClause_124 : decode cX2_readClause 124 = .ok (.iconst 1, 1) := by decide +kernel
theorem dX2_readClause_125 : decode cX2_readClause 125 = .ok (.putfield 37, 3) := by decide +kernel
theorem dX2_readClause_128 : decode cX2_readClause 128 = .ok (.aload_n 0, 1) := by decide +kernel
theorem dX2_readClause_129 : decode cX2_readClause 129 = .ok (.bipush 59, 2) := by decide +kernel
theorem dX2_readClause_131 : decode cX2_readClause 131 = .ok (.invokevirtual 80, 3) := by decide +kernel
theorem dX2_readClause_134 : decode cX2_readClause 134 = .ok (.ifCond .ne 12, 3) := by decide +kernel
theorem dX2_readClause_137 : decode cX2_readClause 137 = .ok (.aload_n 0, 1) := by decide +kernel
theorem dX2_readClause_138 : decode cX2_readClause 138 = .ok (.iconst 1, 1) := by decide +kernel
theorem dX2_readClause_139 : decode cX2_readClause 139 = .ok (.aload_n 0, 1) := by decide +kernel
theorem dX2_readClause_140 : decode cX2_readClause 140 = .ok (.getfield 34, 3) := by decide +kernel
theorem dX2_readClause_143 : decode cX2_readClause 143 = .ok (.invokevirtual 59, 3) := by decide +kernel
theorem dX2_readClause_146 : decode cX2_readClause 146 = .ok (.return_, 1) := by decide +kernel
theorem dX2_toldAlready_0 : decode cX2_toldAlready 0 = .ok (.iload_n 2, 1) := by decide +kernel
theorem dX2_toldAlready_1 : decode cX2_toldAlready 1 = .ok (.lookupswitch 55 #[(102, 40), (114, 27)], 27) := by decide +kernel
theorem dX2_toldAlready_28 : decode cX2_toldAlready 28 = .ok (.aload_n 1, 1) := by decide +kernel
theorem dX2_toldAlready_29 : decode cX2_toldAlready 29 = .ok (.getfield 56, 3) := by decide +kernel
theorem dX2_toldAlready_32 : decode cX2_toldAlready 32 = .ok (.ifCond .le 7, 3) := by decide +kernel
theorem dX2_toldAlready_35 : decode cX2_toldAlready 35 = .ok (.iconst 1, 1) := by decide +kernel
theorem dX2_toldAlready_36 : decode cX2_toldAlready 36 = .ok (.goto 4, 3) := by decide +kernel
theorem dX2_toldAlready_39 : decode cX2_toldAlready 39 = .ok (.iconst 0, 1) := by decide +kernel
theorem dX2_toldAlready_40 : decode cX2_toldAlready 40 = .ok (.ireturn, 1) := by decide +kernel
theorem dX2_toldAlready_41 : decode cX2_toldAlready 41 = .ok (.aload_n 1, 1) := by decide +kernel
theorem dX2_toldAlready_42 : decode cX2_toldAlready 42 = .ok (.getfield 84, 3) := by decide +kernel
theorem dX2_toldAlready_45 : decode cX2_toldAlready 45 = .ok (.bipush 8, 2) := by decide +kernel
theorem dX2_toldAlready_47 : decode cX2_toldAlready 47 = .ok (.if_icmp .lt 7, 3) := by decide +kernel
theorem dX2_toldAlready_50 : decode cX2_toldAlready 50 = .ok (.iconst 1, 1) := by decide +kernel
theorem dX2_toldAlready_51 : decode cX2_toldAlready 51 = .ok (.goto 4, 3) := by decide +kernel
theorem dX2_toldAlready_54 : decode cX2_toldAlready 54 = .ok (.iconst 0, 1) := by decide +kernel
theorem dX2_toldAlready_55 : decode cX2_toldAlready 55 = .ok (.ireturn, 1) := by decide +kernel
theorem dX2_toldAlready_56 : decode cX2_toldAlready 56 = .ok (.aload_n 0, 1) := by decide +kernel
theorem dX2_toldAlready_57 : decode cX2_toldAlready 57 = .ok (.getfield 37, 3) := by decide +kernel
theorem dX2_toldAlready_60 : decode cX2_toldAlready 60 = .ok (.ireturn, 1) := by decide +kernel
theorem dX2_readReader_0 : decode cX2_readReader 0 = .ok (.aload_n 1, 1) := by decide +kernel
theorem dX2_readReader_1 : decode cX2_readReader 1 = .ok (.aload_n 0, 1) := by decide +kernel
theorem dX2_readReader_2 : decode cX2_readReader 2 = .ok (.iconst 1, 1) := by decide +kernel
theorem dX2_readReader_3 : decode cX2_readReader 3 = .ok (.iconst 3, 1) := by decide +kernel
theorem dX2_readReader_4 : decode cX2_readReader 4 = .ok (.invokevirtual 73, 3) := by decide +kernel
theorem dX2_readReader_7 : decode cX2_readReader 7 = .ok (.putfield 87, 3) := by decide +kernel
theorem dX2_readReader_10 : decode cX2_readReader 10 = .ok (.iconst 0, 1) := by decide +kernel
theorem dX2_readReader_11 : decode cX2_readReader 11 = .ok (.istore_n 2, 1) := by decide +kernel
theorem dX2_readReader_12 : decode cX2_readReader 12 = .ok (.iload_n 2, 1) := by decide +kernel
theorem dX2_readReader_13 : decode cX2_readReader 13 = .ok (.iconst 5, 1) := by decide +kernel
theorem dX2_readReader_14 : decode cX2_readReader 14 = .ok (.if_icmp .ge 47, 3) := by decide +kernel
theorem dX2_readReader_17 : decode cX2_readReader 17 = .ok (.iload_n 2, 1) := by decide +kernel
theorem dX2_readReader_18 : decode cX2_readReader 18 = .ok (.ifCond .eq 12, 3) := by decide +kernel
theorem dX2_readReader_21 : decode cX2_readReader 21 = .ok (.aload_n 0, 1) := by decide +kernel
theorem dX2_readReader_22 : decode cX2_readReader 22 = .ok (.bipush 44, 2) := by decide +kernel
theorem dX2_readReader_24 : decode cX2_readReader 24 = .ok (.invokevirtual 80, 3) := by decide +kernel
theorem dX2_readReader_27 : decode cX2_readReader 27 = .ok (.ifCond .eq 34, 3) := by decide +kernel
theorem dX2_readReader_30 : decode cX2_readReader 30 = .ok (.aload_n 1, 1) := by decide +kernel
theorem dX2_readReader_31 : decode cX2_readReader 31 = .ok (.getfield 90, 3) := by decide +kernel
theorem dX2_readReader_34 : decode cX2_readReader 34 = .ok (.iload_n 2, 1) := by decide +kernel
theorem dX2_readReader_35 : decode cX2_readReader 35 = .ok (.aload_n 0, 1) := by decide +kernel
theorem dX2_readReader_36 : decode cX2_readReader 36 = .ok (.iconst 0, 1) := by decide +kernel
theorem dX2_readReader_37 : decode cX2_readReader 37 = .ok (.bipush 20, 2) := by decide +kernel
theorem dX2_readReader_39 : decode cX2_readReader 39 = .ok (.invokevirtual 73, 3) := by decide +kernel
theorem dX2_readReader_42 : decode cX2_readReader 42 = .ok (.invokestatic 25, 3) := by decide +kernel
theorem dX2_readReader_45 : decode cX2_readReader 45 = .ok (.aload_n 1, 1) := by decide +kernel
theorem dX2_readReader_46 : decode cX2_readReader 46 = .ok (.dup, 1) := by decide +kernel
theorem dX2_readReader_47 : decode cX2_readReader 47 = .ok (.getfield 56, 3) := by decide +kernel
theorem dX2_readReader_50 : decode cX2_readReader 50 = .ok (.iconst 1, 1) := by decide +kernel
theorem dX2_readReader_51 : decode cX2_readReader 51 = .ok (.iadd, 1) := by decide +kernel
theorem dX2_readReader_52 : decode cX2_readReader 52 = .ok (.putfield 56, 3) := by decide +kernel
theorem dX2_readReader_55 : decode cX2_readReader 55 = .ok (.iinc 2 1, 3) := by decide +kernel
theorem dX2_readReader_58 : decode cX2_readReader 58 = .ok (.goto (-46), 3) := by decide +kernel
theorem dX2_readReader_61 : decode cX2_readReader 61 = .ok (.return_, 1) := by decide +kernel
theorem dX2_readFactOf_0 : decode cX2_readFactOf 0 = .ok (.aload_n 1, 1) := by decide +kernel
theorem dX2_readFactOf_1 : decode cX2_readFactOf 1 = .ok (.getfield 84, 3) := by decide +kernel
theorem dX2_readFactOf_4 : decode cX2_readFactOf 4 = .ok (.istore_n 2, 1) := by decide +kernel
theorem dX2_readFactOf_5 : decode cX2_readFactOf 5 = .ok (.aload_n 1, 1) := by decide +kernel
theorem dX2_readFactOf_6 : decode cX2_readFactOf 6 = .ok (.getfield 93, 3) := by decide +kernel
theorem dX2_readFactOf_9 : decode cX2_readFactOf 9 = .ok (.iload_n 2, 1) := by decide +kernel
theorem dX2_readFactOf_10 : decode cX2_readFactOf 10 = .ok (.aload_n 0, 1) := by decide +kernel
theorem dX2_readFactOf_11 : decode cX2_readFactOf 11 = .ok (.iconst 0, 1) := by decide +kernel
theorem dX2_readFactOf_12 : decode cX2_readFactOf 12 = .ok (.aload_n 1, 1) := by decide +kernel
theorem dX2_readFactOf_13 : decode cX2_readFactOf 13 = .ok (.getfield 56, 3) := by decide +kernel
theorem dX2_readFactOf_16 : decode cX2_readFactOf 16 = .ok (.iconst 1, 1) := by decide +kernel
theorem dX2_readFactOf_17 : decode cX2_readFactOf 17 = .ok (.isub, 1) := by decide +kernel
theorem dX2_readFactOf_18 : decode cX2_readFactOf 18 = .ok (.invokevirtual 73, 3) := by decide +kernel
theorem dX2_readFactOf_21 : decode cX2_readFactOf 21 = .ok (.invokestatic 25, 3) := by decide +kernel
theorem dX2_readFactOf_24 : decode cX2_readFactOf 24 = .ok (.aload_n 1, 1) := by decide +kernel
theorem dX2_readFactOf_25 : decode cX2_readFactOf 25 = .ok (.getfield 96, 3) := by decide +kernel
theorem dX2_readFactOf_28 : decode cX2_readFactOf 28 = .ok (.iload_n 2, 1) := by decide +kernel
theorem dX2_readFactOf_29 : decode cX2_readFactOf 29 = .ok (.aload_n 0, 1) := by decide +kernel
theorem dX2_readFactOf_30 : decode cX2_readFactOf 30 = .ok (.iconst 0, 1) := by decide +kernel
theorem dX2_readFactOf_31 : decode cX2_readFactOf 31 = .ok (.bipush 18, 2) := by decide +kernel
theorem dX2_readFactOf_33 : decode cX2_readFactOf 33 = .ok (.invokevirtual 73, 3) := by decide +kernel
theorem dX2_readFactOf_36 : decode cX2_readFactOf 36 = .ok (.bipush 9, 2) := by decide +kernel
theorem dX2_readFactOf_38 : decode cX2_readFactOf 38 = .ok (.isub, 1) := by decide +kernel
theorem dX2_readFactOf_39 : decode cX2_readFactOf 39 = .ok (.invokestatic 25, 3) := by decide +kernel
theorem dX2_readFactOf_42 : decode cX2_readFactOf 42 = .ok (.aload_n 0, 1) := by decide +kernel
theorem dX2_readFactOf_43 : decode cX2_readFactOf 43 = .ok (.iconst 0, 1) := by decide +kernel
theorem dX2_readFactOf_44 : decode cX2_readFactOf 44 = .ok (.bipush 9, 2) := by decide +kernel
theorem dX2_readFactOf_46 : decode cX2_readFactOf 46 = .ok (.invokevirtual 73, 3) := by decide +kernel
theorem dX2_readFactOf_49 : decode cX2_readFactOf 49 = .ok (.istore_n 3, 1) := by decide +kernel
theorem dX2_readFactOf_50 : decode cX2_readFactOf 50 = .ok (.iload_n 3, 1) := by decide +kernel
theorem dX2_readFactOf_51 : decode cX2_readFactOf 51 = .ok (.bipush 9, 2) := by decide +kernel
theorem dX2_readFactOf_53 : decode cX2_readFactOf 53 = .ok (.if_icmp .eq 20, 3) := by decide +kernel
theorem dX2_readFactOf_56 : decode cX2_readFactOf 56 = .ok (.aload_n 1, 1) := by decide +kernel
theorem dX2_readFactOf_57 : decode cX2_readFactOf 57 = .ok (.iload_n 3, 1) := by decide +kernel
theorem dX2_readFactOf_58 : decode cX2_readFactOf 58 = .ok (.invokevirtual 99, 3) := by decide +kernel
theorem dX2_readFactOf_61 : decode cX2_readFactOf 61 = .ok (.ifCond .ne 12, 3) := by decide +kernel
theorem dX2_readFactOf_64 : decode cX2_readFactOf 64 = .ok (.aload_n 0, 1) := by decide +kernel
theorem dX2_readFactOf_65 : decode cX2_readFactOf 65 = .ok (.iconst 2, 1) := by decide +kernel
theorem dX2_readFactOf_66 : decode cX2_readFactOf 66 = .ok (.aload_n 0, 1) := by decide +kernel
theorem dX2_readFactOf_67 : decode cX2_readFactOf 67 = .ok (.getfield 102, 3) := by decide +kernel
theorem dX2_readFactOf_70 : decode cX2_readFactOf 70 = .ok (.invokevirtual 59, 3) := by decide +kernel
theorem dX2_readFactOf_73 : decode cX2_readFactOf 73 = .ok (.aload_n 1, 1) := by decide +kernel
theorem dX2_readFactOf_74 : decode cX2_readFactOf 74 = .ok (.getfield 105, 3) := by decide +kernel
theorem dX2_readFactOf_77 : decode cX2_readFactOf 77 = .ok (.iload_n 2, 1) := by decide +kernel
theorem dX2_readFactOf_78 : decode cX2_readFactOf 78 = .ok (.iload_n 3, 1) := by decide +kernel
theorem dX2_readFactOf_79 : decode cX2_readFactOf 79 = .ok (.bipush 9, 2) := by decide +kernel
theorem dX2_readFactOf_81 : decode cX2_readFactOf 81 = .ok (.if_icmp .ne 7, 3) := by decide +kernel
theorem dX2_readFactOf_84 : decode cX2_readFactOf 84 = .ok (.iconst (-1), 1) := by decide +kernel
theorem dX2_readFactOf_85 : decode cX2_readFactOf 85 = .ok (.goto 4, 3) := by decide +kernel
theorem dX2_readFactOf_88 : decode cX2_readFactOf 88 = .ok (.iload_n 3, 1) := by decide +kernel
theorem dX2_readFactOf_89 : decode cX2_readFactOf 89 = .ok (.invokestatic 25, 3) := by decide +kernel
theorem dX2_readFactOf_92 : decode cX2_readFactOf 92 = .ok (.aload_n 1, 1) := by decide +kernel
theorem dX2_readFactOf_93 : decode cX2_readFactOf 93 = .ok (.getfield 108, 3) := by decide +kernel
theorem dX2_readFactOf_96 : decode cX2_readFactOf 96 = .ok (.iload_n 2, 1) := by decide +kernel
theorem dX2_readFactOf_97 : decode cX2_readFactOf 97 = .ok (.aload_n 0, 1) := by decide +kernel
theorem dX2_readFactOf_98 : decode cX2_readFactOf 98 = .ok (.iconst 0, 1) := by decide +kernel
theorem dX2_readFactOf_99 : decode cX2_readFactOf 99 = .ok (.bipush 20, 2) := by decide +kernel
theorem dX2_readFactOf_101 : decode cX2_readFactOf 101 = .ok (.invokevirtual 73, 3) := by decide +kernel
theorem dX2_readFactOf_104 : decode cX2_readFactOf 104 = .ok (.invokestatic 25, 3) := by decide +kernel
theorem dX2_readFactOf_107 : decode cX2_readFactOf 107 = .ok (.aload_n 1, 1) := by decide +kernel
theorem dX2_readFactOf_108 : decode cX2_readFactOf 108 = .ok (.getfield 111, 3) := by decide +kernel
theorem dX2_readFactOf_111 : decode cX2_readFactOf 111 = .ok (.iload_n 2, 1) := by decide +kernel
theorem dX2_readFactOf_112 : decode cX2_readFactOf 112 = .ok (.aload_n 0, 1) := by decide +kernel
theorem dX2_readFactOf_113 : decode cX2_readFactOf 113 = .ok (.iconst 0, 1) := by decide +kernel
theorem dX2_readFactOf_114 : decode cX2_readFactOf 114 = .ok (.bipush 9, 2) := by decide +kernel
theorem dX2_readFactOf_116 : decode cX2_readFactOf 116 = .ok (.invokevirtual 73, 3) := by decide +kernel
theorem dX2_readFactOf_119 : decode cX2_readFactOf 119 = .ok (.invokestatic 25, 3) := by decide +kernel
theorem dX2_readFactOf_122 : decode cX2_readFactOf 122 = .ok (.aload_n 1, 1) := by decide +kernel
theorem dX2_readFactOf_123 : decode cX2_readFactOf 123 = .ok (.dup, 1) := by decide +kernel
theorem dX2_readFactOf_124 : decode cX2_readFactOf 124 = .ok (.getfield 84, 3) := by decide +kernel
theorem dX2_readFactOf_127 : decode cX2_readFactOf 127 = .ok (.iconst 1, 1) := by decide +kernel
theorem dX2_readFactOf_128 : decode cX2_readFactOf 128 = .ok (.iadd, 1) := by decide +kernel
theorem dX2_readFactOf_129 : decode cX2_readFactOf 129 = .ok (.putfield 84, 3) := by decide +kernel
theorem dX2_readFactOf_132 : decode cX2_readFactOf 132 = .ok (.return_, 1) := by decide +kernel
theorem dX2_takes_0 : decode cX2_takes 0 = .ok (.aload_n 0, 1) := by decide +kernel
theorem dX2_takes_1 : decode cX2_takes 1 = .ok (.invokevirtual 41, 3) := by decide +kernel
theorem dX2_takes_4 : decode cX2_takes 4 = .ok (.aload_n 0, 1) := by decide +kernel
theorem dX2_takes_5 : decode cX2_takes 5 = .ok (.getfield 19, 3) := by decide +kernel
theorem dX2_takes_8 : decode cX2_takes 8 = .ok (.ifCond .ne 11, 3) := by decide +kernel
theorem dX2_takes_11 : decode cX2_takes 11 = .ok (.aload_n 0, 1) := by decide +kernel
theorem dX2_takes_12 : decode cX2_takes 12 = .ok (.invokevirtual 44, 3) := by decide +kernel
theorem dX2_takes_15 : decode cX2_takes 15 = .ok (.iload_n 1, 1) := by decide +kernel
theorem dX2_takes_16 : decode cX2_takes 16 = .ok (.if_icmp .eq 5, 3) := by decide +kernel
theorem dX2_takes_19 : decode cX2_takes 19 = .ok (.iconst 0, 1) := by decide +kernel
theorem dX2_takes_20 : decode cX2_takes 20 = .ok (.ireturn, 1) := by decide +kernel
theorem dX2_takes_21 : decode cX2_takes 21 = .ok (.aload_n 0, 1) := by decide +kernel
theorem dX2_takes_22 : decode cX2_takes 22 = .ok (.dup, 1) := by decide +kernel
theorem dX2_takes_23 : decode cX2_takes 23 = .ok (.getfield 34, 3) := by decide +kernel
theorem dX2_takes_26 : decode cX2_takes 26 = .ok (.iconst 1, 1) := by decide +kernel
theorem dX2_takes_27 : decode cX2_takes 27 = .ok (.iadd, 1) := by decide +kernel
theorem dX2_takes_28 : decode cX2_takes 28 = .ok (.putfield 34, 3) := by decide +kernel
theorem dX2_takes_31 : decode cX2_takes 31 = .ok (.iconst 1, 1) := by decide +kernel
theorem dX2_takes_32 : decode cX2_takes 32 = .ok (.ireturn, 1) := by decide +kernel
theorem dX2_readNumber_0 : decode cX2_readNumber 0 = .ok (.aload_n 0, 1) := by decide +kernel
theorem dX2_readNumber_1 : decode cX2_readNumber 1 = .ok (.invokevirtual 41, 3) := by decide +kernel
theorem dX2_readNumber_4 : decode cX2_readNumber 4 = .ok (.aload_n 0, 1) := by decide +kernel
theorem dX2_readNumber_5 : decode cX2_readNumber 5 = .ok (.aload_n 0, 1) := by decide +kernel
theorem dX2_readNumber_6 : decode cX2_readNumber 6 = .ok (.getfield 34, 3) := by decide +kernel
theorem dX2_readNumber_9 : decode cX2_readNumber 9 = .ok (.putfield 102, 3) := by decide +kernel
theorem dX2_readNumber_12 : decode cX2_readNumber 12 = .ok (.aload_n 0, 1) := by decide +kernel
theorem dX2_readNumber_13 : decode cX2_readNumber 13 = .ok (.getfield 19, 3) := by decide +kernel
theorem dX2_readNumber_16 : decode cX2_readNumber 16 = .ok (.ifCond .ne 10, 3) := by decide +kernel
theorem dX2_readNumber_19 : decode cX2_readNumber 19 = .ok (.aload_n 0, 1) := by decide +kernel
theorem dX2_readNumber_20 : decode cX2_readNumber 20 = .ok (.invokevirtual 114, 3) := by decide +kernel
theorem dX2_readNumber_23 : decode cX2_readNumber 23 = .ok (.ifCond .ne 14, 3) := by decide +kernel
theorem dX2_readNumber_26 : decode cX2_readNumber 26 = .ok (.aload_n 0, 1) := by decide +kernel
theorem dX2_readNumber_27 : decode cX2_readNumber 27 = .ok (.iconst 1, 1) := by decide +kernel
theorem dX2_readNumber_28 : decode cX2_readNumber 28 = .ok (.aload_n 0, 1) := by decide +kernel
theorem dX2_readNumber_29 : decode cX2_readNumber 29 = .ok (.getfield 34, 3) := by decide +kernel
theorem dX2_readNumber_32 : decode cX2_readNumber 32 = .ok (.invokevirtual 59, 3) := by decide +kernel
theorem dX2_readNumber_35 : decode cX2_readNumber 35 = .ok (.iload_n 1, 1) := by decide +kernel
theorem dX2_readNumber_36 : decode cX2_readNumber 36 = .ok (.ireturn, 1) := by decide +kernel
theorem dX2_readNumber_37 : decode cX2_readNumber 37 = .ok (.iconst 0, 1) := by decide +kernel
theorem dX2_readNumber_38 : decode cX2_readNumber 38 = .ok (.istore_n 3, 1) := by decide +kernel
theorem dX2_readNumber_39 : decode cX2_readNumber 39 = .ok (.iconst 0, 1) := by decide +kernel
theorem dX2_readNumber_40 : decode cX2_readNumber 40 = .ok (.istore 4, 2) := by decide +kernel
theorem dX2_readNumber_42 : decode cX2_readNumber 42 = .ok (.iload 4, 2) := by decide +kernel
theorem dX2_readNumber_44 : decode cX2_readNumber 44 = .ok (.sipush 240, 3) := by decide +kernel
theorem dX2_readNumber_47 : decode cX2_readNumber 47 = .ok (.if_icmp .ge 45, 3) := by decide +kernel
theorem dX2_readNumber_50 : decode cX2_readNumber 50 = .ok (.aload_n 0, 1) := by decide +kernel
theorem dX2_readNumber_51 : decode cX2_readNumber 51 = .ok (.invokevirtual 114, 3) := by decide +kernel
theorem dX2_readNumber_54 : decode cX2_readNumber 54 = .ok (.ifCond .eq 38, 3) := by decide +kernel
theorem dX2_readNumber_57 : decode cX2_readNumber 57 = .ok (.sipush 1000, 3) := by decide +kernel
theorem dX2_readNumber_60 : decode cX2_readNumber 60 = .ok (.iload_n 3, 1) := by decide +kernel
theorem dX2_readNumber_61 : decode cX2_readNumber 61 = .ok (.bipush 10, 2) := by decide +kernel
theorem dX2_readNumber_63 : decode cX2_readNumber 63 = .ok (.imul, 1) := by decide +kernel
theorem dX2_readNumber_64 : decode cX2_readNumber 64 = .ok (.aload_n 0, 1) := by decide +kernel
theorem dX2_readNumber_65 : decode cX2_readNumber 65 = .ok (.invokevirtual 44, 3) := by decide +kernel
theorem dX2_readNumber_68 : decode cX2_readNumber 68 = .ok (.iadd, 1) := by decide +kernel
theorem dX2_readNumber_69 : decode cX2_readNumber 69 = .ok (.bipush 48, 2) := by decide +kernel
theorem dX2_readNumber_71 : decode cX2_readNumber 71 = .ok (.isub, 1) := by decide +kernel
theorem dX2_readNumber_72 : decode cX2_readNumber 72 = .ok (.invokestatic 118, 3) := by decide +kernel
theorem dX2_readNumber_75 : decode cX2_readNumber 75 = .ok (.istore_n 3, 1) := by decide +kernel
theorem dX2_readNumber_76 : decode cX2_readNumber 76 = .ok (.aload_n 0, 1) := by decide +kernel
theorem dX2_readNumber_77 : decode cX2_readNumber 77 = .ok (.dup, 1) := by decide +kernel
theorem dX2_readNumber_78 : decode cX2_readNumber 78 = .ok (.getfield 34, 3) := by decide +kernel
theorem dX2_readNumber_81 : decode cX2_readNumber 81 = .ok (.iconst 1, 1) := by decide +kernel
theorem dX2_readNumber_82 : decode cX2_readNumber 82 = .ok (.iadd, 1) := by decide +kernel
theorem dX2_readNumber_83 : decode cX2_readNumber 83 = .ok (.putfield 34, 3) := by decide +kernel
theorem dX2_readNumber_86 : decode cX2_readNumber 86 = .ok (.iinc 4 1, 3) := by decide +kernel
theorem dX2_readNumber_89 : decode cX2_readNumber 89 = .ok (.goto (-47), 3) := by decide +kernel
theorem dX2_readNumber_92 : decode cX2_readNumber 92 = .ok (.aload_n 0, 1) := by decide +kernel
theorem dX2_readNumber_93 : decode cX2_readNumber 93 = .ok (.getfield 34, 3) := by decide +kernel
theorem dX2_readNumber_96 : decode cX2_readNumber 96 = .ok (.aload_n 0, 1) := by decide +kernel
theorem dX2_readNumber_97 : decode cX2_readNumber 97 = .ok (.getfield 102, 3) := by decide +kernel
theorem dX2_readNumber_100 : decode cX2_readNumber 100 = .ok (.isub, 1) := by decide +kernel
theorem dX2_readNumber_101 : decode cX2_readNumber 101 = .ok (.iconst 3, 1) := by decide +kernel
theorem dX2_readNumber_102 : decode cX2_readNumber 102 = .ok (.if_icmp .gt 13, 3) := by decide +kernel
theorem dX2_readNumber_105 : decode cX2_readNumber 105 = .ok (.iload_n 3, 1) := by decide +kernel
theorem dX2_readNumber_106 : decode cX2_readNumber 106 = .ok (.iload_n 1, 1) := by decide +kernel
theorem dX2_readNumber_107 : decode cX2_readNumber 107 = .ok (.if_icmp .lt 8, 3) := by decide +kernel
theorem dX2_readNumber_110 : decode cX2_readNumber 110 = .ok (.iload_n 3, 1) := by decide +kernel
theorem dX2_readNumber_111 : decode cX2_readNumber 111 = .ok (.iload_n 2, 1) := by decide +kernel
theorem dX2_readNumber_112 : decode cX2_readNumber 112 = .ok (.if_icmp .le 14, 3) := by decide +kernel
theorem dX2_readNumber_115 : decode cX2_readNumber 115 = .ok (.aload_n 0, 1) := by decide +kernel
theorem dX2_readNumber_116 : decode cX2_readNumber 116 = .ok (.iconst 2, 1) := by decide +kernel
theorem dX2_readNumber_117 : decode cX2_readNumber 117 = .ok (.aload_n 0, 1) := by decide +kernel
theorem dX2_readNumber_118 : decode cX2_readNumber 118 = .ok (.getfield 102, 3) := by decide +kernel
theorem dX2_readNumber_121 : decode cX2_readNumber 121 = .ok (.invokevirtual 59, 3) := by decide +kernel
theorem dX2_readNumber_124 : decode cX2_readNumber 124 = .ok (.iload_n 1, 1) := by decide +kernel
theorem dX2_readNumber_125 : decode cX2_readNumber 125 = .ok (.ireturn, 1) := by decide +kernel
theorem dX2_readNumber_126 : decode cX2_readNumber 126 = .ok (.iload_n 3, 1) := by decide +kernel
theorem dX2_readNumber_127 : decode cX2_readNumber 127 = .ok (.ireturn, 1) := by decide +kernel
theorem dX3_init_0 : decode cX3_init 0 = .ok (.aload_n 0, 1) := by decide +kernel
theorem dX3_init_1 : decode cX3_init 1 = .ok (.invokespecial 3, 3) := by decide +kernel
theorem dX3_init_4 : decode cX3_init 4 = .ok (.aload_n 0, 1) := by decide +kernel
theorem dX3_init_5 : decode cX3_init 5 = .ok (.iconst 5, 1) := by decide +kernel
theorem dX3_init_6 : decode cX3_init 6 = .ok (.newarray .int, 2) := by decide +kernel
theorem dX3_init_8 : decode cX3_init 8 = .ok (.putfield 9, 3) := by decide +kernel
theorem dX3_init_11 : decode cX3_init 11 = .ok (.aload_n 0, 1) := by decide +kernel
theorem dX3_init_12 : decode cX3_init 12 = .ok (.bipush 8, 2) := by decide +kernel
theorem dX3_init_14 : decode cX3_init 14 = .ok (.newarray .int, 2) := by decide +kernel
theorem dX3_init_16 : decode cX3_init 16 = .ok (.putfield 15, 3) := by decide +kernel
theorem dX3_init_19 : decode cX3_init 19 = .ok (.aload_n 0, 1) := by decide +kernel
theorem dX3_init_20 : decode cX3_init 20 = .ok (.iconst (-1), 1) := by decide +kernel
theorem dX3_init_21 : decode cX3_init 21 = .ok (.putfield 18, 3) := by decide +kernel
theorem dX3_init_24 : decode cX3_init 24 = .ok (.return_, 1) := by decide +kernel
theorem dX3_begin_0 : decode cX3_begin 0 = .ok (.aload_n 0, 1) := by decide +kernel
theorem dX3_begin_1 : decode cX3_begin 1 = .ok (.iconst 0, 1) := by decide +kernel
theorem dX3_begin_2 : decode cX3_begin 2 = .ok (.putfield 22, 3) := by decide +kernel
theorem dX3_begin_5 : decode cX3_begin 5 = .ok (.aload_n 0, 1) := by decide +kernel
theorem dX3_begin_6 : decode cX3_begin 6 = .ok (.iconst 0, 1) := by decide +kernel
theorem dX3_begin_7 : decode cX3_begin 7 = .ok (.putfield 25, 3) := by decide +kernel
theorem dX3_begin_10 : decode cX3_begin 10 = .ok (.aload_n 0, 1) := by decide +kernel
theorem dX3_begin_11 : decode cX3_begin 11 = .ok (.iconst 0, 1) := by decide +kernel
theorem dX3_begin_12 : decode cX3_begin 12 = .ok (.putfield 28, 3) := by decide +kernel
theorem dX3_begin_15 : decode cX3_begin 15 = .ok (.aload_n 0, 1) := by decide +kernel
theorem dX3_begin_16 : decode cX3_begin 16 = .ok (.iconst (-1), 1) := by decide +kernel
theorem dX3_begin_17 : decode cX3_begin 17 = .ok (.putfield 18, 3) := by decide +kernel
theorem dX3_begin_20 : decode cX3_begin 20 = .ok (.iconst 0, 1) := by decide +kernel
theorem dX3_begin_21 : decode cX3_begin 21 = .ok (.istore_n 2, 1) := by decide +kernel
theorem dX3_begin_22 : decode cX3_begin 22 = .ok (.iload_n 2, 1) := by decide +kernel
theorem dX3_begin_23 : decode cX3_begin 23 = .ok (.iconst 5, 1) := by decide +kernel
theorem dX3_begin_24 : decode cX3_begin 24 = .ok (.if_icmp .ge 37, 3) := by decide +kernel
theorem dX3_begin_27 : decode cX3_begin 27 = .ok (.aload_n 0, 1) := by decide +kernel
theorem dX3_begin_28 : decode cX3_begin 28 = .ok (.getfield 9, 3) := by decide +kernel
theorem dX3_begin_31 : decode cX3_begin 31 = .ok (.iload_n 2, 1) := by decide +kernel
theorem dX3_begin_32 : decode cX3_begin 32 = .ok (.aload_n 1, 1) := by decide +kernel
theorem dX3_begin_33 : decode cX3_begin 33 = .ok (.iload_n 2, 1) := by decide +kernel
theorem dX3_begin_34 : decode cX3_begin 34 = .ok (.invokevirtual 31, 3) := by decide +kernel
theorem dX3_begin_37 : decode cX3_begin 37 = .ok (.ifCond .eq 14, 3) := by decide +kernel
theorem dX3_begin_40 : decode cX3_begin 40 = .ok (.aload_n 1, 1) := by decide +kernel
theorem dX3_begin_41 : decode cX3_begin 41 = .ok (.getfield 37, 3) := by decide +kernel
theorem dX3_begin_44 : decode cX3_begin 44 = .ok (.iload_n 2, 1) := by decide +kernel
theorem dX3_begin_45 : decode cX3_begin 45 = .ok (.invokestatic 40, 3) := by decide +kernel
theorem dX3_begin_48 : decode cX3_begin 48 = .ok (.goto 4, 3) := by decide +kernel
theorem dX3_begin_51 : decode cX3_begin 51 = .ok (.iconst 0, 1) := by decide +kernel
theorem dX3_begin_52 : decode cX3_begin 52 = .ok (.invokestatic 44, 3) := by decide +kernel
theorem dX3_begin_55 : decode cX3_begin 55 = .ok (.iinc 2 1, 3) := by decide +kernel
theorem dX3_begin_58 : decode cX3_begin 58 = .ok (.goto (-36), 3) := by decide +kernel
theorem dX3_begin_61 : decode cX3_begin 61 = .ok (.iconst 0, 1) := by decide +kernel
theorem dX3_begin_62 : decode cX3_begin 62 = .ok (.istore_n 2, 1) := by decide +kernel
theorem dX3_begin_63 : decode cX3_begin 63 = .ok (.iload_n 2, 1) := by decide +kernel
theorem dX3_begin_64 : decode cX3_begin 64 = .ok (.bipush 8, 2) := by decide +kernel
theorem dX3_begin_66 : decode cX3_begin 66 = .ok (.if_icmp .ge 53, 3) := by decide +kernel
theorem dX3_begin_69 : decode cX3_begin 69 = .ok (.aload_n 0, 1) := by decide +kernel
theorem dX3_begin_70 : decode cX3_begin 70 = .ok (.getfield 15, 3) := by decide +kernel
theorem dX3_begin_73 : decode cX3_begin 73 = .ok (.iload_n 2, 1) := by decide +kernel
theorem dX3_begin_74 : decode cX3_begin 74 = .ok (.iconst 0, 1) := by decide +kernel
theorem dX3_begin_75 : decode cX3_begin 75 = .ok (.invokestatic 44, 3) := by decide +kernel
theorem dX3_begin_78 : decode cX3_begin 78 = .ok (.aload_n 0, 1) := by decide +kernel
theorem dX3_begin_79 : decode cX3_begin 79 = .ok (.dup, 1) := by decide +kernel
theorem dX3_begin_80 : decode cX3_begin 80 = .ok (.getfield 22, 3) := by decide +kernel
theorem dX3_begin_83 : decode cX3_begin 83 = .ok (.aload_n 1, 1) := by decide +kernel
theorem dX3_begin_84 : decode cX3_begin 84 = .ok (.iload_n 2, 1) := by decide +kernel
theorem dX3_begin_85 : decode cX3_begin 85 = .ok (.invokevirtual 48, 3) := by decide +kernel
theorem dX3_begin_88 : decode cX3_begin 88 = .ok (.ifCond .eq 20, 3) := by decide +kernel
theorem dX3_begin_91 : decode cX3_begin 91 = .ok (.aload_n 1, 1) := by decide +kernel
theorem dX3_begin_92 : decode cX3_begin 92 = .ok (.getfield 51, 3) := by decide +kernel
theorem dX3_begin_95 : decode cX3_begin 95 = .ok (.iload_n 2, 1) := by decide +kernel
theorem dX3_begin_96 : decode cX3_begin 96 = .ok (.invokestatic 40, 3) := by decide +kernel
theorem dX3_begin_99 : decode cX3_begin 99 = .ok (.ifCond .ne 9, 3) := by decide +kernel
theorem dX3_begin_102 : decode cX3_begin 102 = .ok (.iconst 1, 1) := by decide +kernel
theorem dX3_begin_103 : decode cX3_begin 103 = .ok (.iload_n 2, 1) := by decide +kernel
theorem dX3_begin_104 : decode cX3_begin 104 = .ok (.ishl, 1) := by decide +kernel
theorem dX3_begin_105 : decode cX3_begin 105 = .ok (.goto 4, 3) := by decide +kernel
theorem dX3_begin_108 : decode cX3_begin 108 = .ok (.iconst 0, 1) := by decide +kernel
theorem dX3_begin_109 : decode cX3_begin 109 = .ok (.ior, 1) := by decide +kernel
theorem dX3_begin_110 : decode cX3_begin 110 = .ok (.putfield 22, 3) := by decide +kernel
theorem dX3_begin_113 : decode cX3_begin 113 = .ok (.iinc 2 1, 3) := by decide +kernel
theorem dX3_begin_116 : decode cX3_begin 116 = .ok (.goto (-53), 3) := by decide +kernel
theorem dX3_begin_119 : decode cX3_begin 119 = .ok (.return_, 1) := by decide +kernel
theorem dX3_copyFrom_0 : decode cX3_copyFrom 0 = .ok (.aload_n 0, 1) := by decide +kernel
theorem dX3_copyFrom_1 : decode cX3_copyFrom 1 = .ok (.aload_n 1, 1) := by decide +kernel
theorem dX3_copyFrom_2 : decode cX3_copyFrom 2 = .ok (.getfield 22, 3) := by decide +kernel
theorem dX3_copyFrom_5 : decode cX3_copyFrom 5 = .ok (.putfield 22, 3) := by decide +kernel
theorem dX3_copyFrom_8 : decode cX3_copyFrom 8 = .ok (.aload_n 0, 1) := by decide +kernel
theorem dX3_copyFrom_9 : decode cX3_copyFrom 9 = .ok (.aload_n 1, 1) := by decide +kernel
theorem dX3_copyFrom_10 : decode cX3_copyFrom 10 = .ok (.getfield 25, 3) := by decide +kernel
theorem dX3_copyFrom_13 : decode cX3_copyFrom 13 = .ok (.putfield 25, 3) := by decide +kernel
theorem dX3_copyFrom_16 : decode cX3_copyFrom 16 = .ok (.aload_n 0, 1) := by decide +kernel
theorem dX3_copyFrom_17 : decode cX3_copyFrom 17 = .ok (.aload_n 1, 1) := by decide +kernel
theorem dX3_copyFrom_18 : decode cX3_copyFrom 18 = .ok (.getfield 28, 3) := by decide +kernel
theorem dX3_copyFrom_21 : decode cX3_copyFrom 21 = .ok (.putfield 28, 3) := by decide +kernel
theorem dX3_copyFrom_24 : decode cX3_copyFrom 24 = .ok (.aload_n 0, 1) := by decide +kernel
theorem dX3_copyFrom_25 : decode cX3_copyFrom 25 = .ok (.aload_n 1, 1) := by decide +kernel
theorem dX3_copyFrom_26 : decode cX3_copyFrom 26 = .ok (.getfield 18, 3) := by decide +kernel
theorem dX3_copyFrom_29 : decode cX3_copyFrom 29 = .ok (.putfield 18, 3) := by decide +kernel
theorem dX3_copyFrom_32 : decode cX3_copyFrom 32 = .ok (.iconst 0, 1) := by decide +kernel
theorem dX3_copyFrom_33 : decode cX3_copyFrom 33 = .ok (.istore_n 2, 1) := by decide +kernel
theorem dX3_copyFrom_34 : decode cX3_copyFrom 34 = .ok (.iload_n 2, 1) := by decide +kernel
theorem dX3_copyFrom_35 : decode cX3_copyFrom 35 = .ok (.iconst 5, 1) := by decide +kernel
theorem dX3_copyFrom_36 : decode cX3_copyFrom 36 = .ok (.if_icmp .ge 25, 3) := by decide +kernel
theorem dX3_copyFrom_39 : decode cX3_copyFrom 39 = .ok (.aload_n 0, 1) := by decide +kernel
theorem dX3_copyFrom_40 : decode cX3_copyFrom 40 = .ok (.getfield 9, 3) := by decide +kernel
theorem dX3_copyFrom_43 : decode cX3_copyFrom 43 = .ok (.iload_n 2, 1) := by decide +kernel
theorem dX3_copyFrom_44 : decode cX3_copyFrom 44 = .ok (.aload_n 1, 1) := by decide +kernel
theorem dX3_copyFrom_45 : decode cX3_copyFrom 45 = .ok (.getfield 9, 3) := by decide +kernel
theorem dX3_copyFrom_48 : decode cX3_copyFrom 48 = .ok (.iload_n 2, 1) := by decide +kernel
theorem dX3_copyFrom_49 : decode cX3_copyFrom 49 = .ok (.invokestatic 40, 3) := by decide +kernel
theorem dX3_copyFrom_52 : decode cX3_copyFrom 52 = .ok (.invokestatic 44, 3) := by decide +kernel
theorem dX3_copyFrom_55 : decode cX3_copyFrom 55 = .ok (.iinc 2 1, 3) := by decide +kernel
theorem dX3_copyFrom_58 : decode cX3_copyFrom 58 = .ok (.goto (-24), 3) := by decide +kernel
theorem dX3_copyFrom_61 : decode cX3_copyFrom 61 = .ok (.iconst 0, 1) := by decide +kernel
theorem dX3_copyFrom_62 : decode cX3_copyFrom 62 = .ok (.istore_n 2, 1) := by decide +kernel
theorem dX3_copyFrom_63 : decode cX3_copyFrom 63 = .ok (.iload_n 2, 1) := by decide +kernel
theorem dX3_copyFrom_64 : decode cX3_copyFrom 64 = .ok (.bipush 8, 2) := by decide +kernel
theorem dX3_copyFrom_66 : decode cX3_copyFrom 66 = .ok (.if_icmp .ge 25, 3) := by decide +kernel
theorem dX3_copyFrom_69 : decode cX3_copyFrom 69 = .ok (.aload_n 0, 1) := by decide +kernel
theorem dX3_copyFrom_70 : decode cX3_copyFrom 70 = .ok (.getfield 15, 3) := by decide +kernel
theorem dX3_copyFrom_73 : decode cX3_copyFrom 73 = .ok (.iload_n 2, 1) := by decide +kernel
theorem dX3_copyFrom_74 : decode cX3_copyFrom 74 = .ok (.aload_n 1, 1) := by decide +kernel
theorem dX3_copyFrom_75 : decode cX3_copyFrom 75 = .ok (.getfield 15, 3) := by decide +kernel
theorem dX3_copyFrom_78 : decode cX3_copyFrom 78 = .ok (.iload_n 2, 1) := by decide +kernel
theorem dX3_copyFrom_79 : decode cX3_copyFrom 79 = .ok (.invokestatic 40, 3) := by decide +kernel
theorem dX3_copyFrom_82 : decode cX3_copyFrom 82 = .ok (.invokestatic 44, 3) := by decide +kernel
theorem dX3_copyFrom_85 : decode cX3_copyFrom 85 = .ok (.iinc 2 1, 3) := by decide +kernel
theorem dX3_copyFrom_88 : decode cX3_copyFrom 88 = .ok (.goto (-25), 3) := by decide +kernel
theorem dX3_copyFrom_91 : decode cX3_copyFrom 91 = .ok (.return_, 1) := by decide +kernel
theorem dX3_convincedOf_0 : decode cX3_convincedOf 0 = .ok (.iconst 0, 1) := by decide +kernel
theorem dX3_convincedOf_1 : decode cX3_convincedOf 1 = .ok (.istore_n 2, 1) := by decide +kernel
theorem dX3_convincedOf_2 : decode cX3_convincedOf 2 = .ok (.iconst 0, 1) := by decide +kernel
theorem dX3_convincedOf_3 : decode cX3_convincedOf 3 = .ok (.istore_n 3, 1) := by decide +kernel
theorem dX3_convincedOf_4 : decode cX3_convincedOf 4 = .ok (.iload_n 3, 1) := by decide +kernel
theorem dX3_convincedOf_5 : decode cX3_convincedOf 5 = .ok (.aload_n 1, 1) := by decide +kernel
theorem dX3_convincedOf_6 : decode cX3_convincedOf 6 = .ok (.getfield 54, 3) := by decide +kernel
theorem dX3_convincedOf_9 : decode cX3_convincedOf 9 = .ok (.if_icmp .ge 34, 3) := by decide +kernel
theorem dX3_convincedOf_12 : decode cX3_convincedOf 12 = .ok (.iload_n 2, 1) := by decide +kernel
theorem dX3_convincedOf_13 : decode cX3_convincedOf 13 = .ok (.aload_n 0, 1) := by decide +kernel
theorem dX3_convincedOf_14 : decode cX3_convincedOf 14 = .ok (.getfield 9, 3) := by decide +kernel
theorem dX3_convincedOf_17 : decode cX3_convincedOf 17 = .ok (.iload_n 3, 1) := by decide +kernel
theorem dX3_convincedOf_18 : decode cX3_convincedOf 18 = .ok (.invokestatic 40, 3) := by decide +kernel
theorem dX3_convincedOf_21 : decode cX3_convincedOf 21 = .ok (.aload_n 1, 1) := by decide +kernel
theorem dX3_convincedOf_22 : decode cX3_convincedOf 22 = .ok (.getfield 57, 3) := by decide +kernel
theorem dX3_convincedOf_25 : decode cX3_convincedOf 25 = .ok (.if_icmp .lt 9, 3) := by decide +kernel
theorem dX3_convincedOf_28 : decode cX3_convincedOf 28 = .ok (.iconst 1, 1) := by decide +kernel
theorem dX3_convincedOf_29 : decode cX3_convincedOf 29 = .ok (.iload_n 3, 1) := by decide +kernel
theorem dX3_convincedOf_30 : decode cX3_convincedOf 30 = .ok (.ishl, 1) := by decide +kernel
theorem dX3_convincedOf_31 : decode cX3_convincedOf 31 = .ok (.goto 4, 3) := by decide +kernel
theorem dX3_convincedOf_34 : decode cX3_convincedOf 34 = .ok (.iconst 0, 1) := by decide +kernel
theorem dX3_convincedOf_35 : decode cX3_convincedOf 35 = .ok (.ior, 1) := by decide +kernel
theorem dX3_convincedOf_36 : decode cX3_convincedOf 36 = .ok (.istore_n 2, 1) := by decide +kernel
theorem dX3_convincedOf_37 : decode cX3_convincedOf 37 = .ok (.iinc 3 1, 3) := by decide +kernel
theorem dX3_convincedOf_40 : decode cX3_convincedOf 40 = .ok (.goto (-36), 3) := by decide +kernel
theorem dX3_convincedOf_43 : decode cX3_convincedOf 43 = .ok (.iload_n 2, 1) := by decide +kernel
theorem dX3_convincedOf_44 : decode cX3_convincedOf 44 = .ok (.ireturn, 1) := by decide +kernel
theorem dX3_isConvinced_0 : decode cX3_isConvinced 0 = .ok (.aload_n 0, 1) := by decide +kernel
theorem dX3_isConvinced_1 : decode cX3_isConvinced 1 = .ok (.aload_n 1, 1) := by decide +kernel
theorem dX3_isConvinced_2 : decode cX3_isConvinced 2 = .ok (.invokevirtual 60, 3) := by decide +kernel
theorem dX3_isConvinced_5 : decode cX3_isConvinced 5 = .ok (.istore 4, 2) := by decide +kernel
theorem dX3_isConvinced_7 : decode cX3_isConvinced 7 = .ok (.iload 4, 2) := by decide +kernel
theorem dX3_isConvinced_9 : decode cX3_isConvinced 9 = .ok (.iload_n 2, 1) := by decide +kernel
theorem dX3_isConvinced_10 : decode cX3_isConvinced 10 = .ok (.iand, 1) := by decide +kernel
theorem dX3_isConvinced_11 : decode cX3_isConvinced 11 = .ok (.iload_n 2, 1) := by decide +kernel
theorem dX3_isConvinced_12 : decode cX3_isConvinced 12 = .ok (.if_icmp .ne 14, 3) := by decide +kernel
theorem dX3_isConvinced_15 : decode cX3_isConvinced 15 = .ok (.iload 4, 2) := by decide +kernel
theorem dX3_isConvinced_17 : decode cX3_isConvinced 17 = .ok (.iload_n 3, 1) := by decide +kernel
theorem dX3_isConvinced_18 : decode cX3_isConvinced 18 = .ok (.iand, 1) := by decide +kernel
theorem dX3_isConvinced_19 : decode cX3_isConvinced 19 = .ok (.ifCond .ne 7, 3) := by decide +kernel
theorem dX3_isConvinced_22 : decode cX3_isConvinced 22 = .ok (.iconst 1, 1) := by decide +kernel
theorem dX3_isConvinced_23 : decode cX3_isConvinced 23 = .ok (.goto 4, 3) := by decide +kernel
theorem dX3_isConvinced_26 : decode cX3_isConvinced 26 = .ok (.iconst 0, 1) := by decide +kernel
theorem dX3_isConvinced_27 : decode cX3_isConvinced 27 = .ok (.ireturn, 1) := by decide +kernel
theorem dX3_readFact_0 : decode cX3_readFact 0 = .ok (.aload_n 1, 1) := by decide +kernel
theorem dX3_readFact_1 : decode cX3_readFact 1 = .ok (.getfield 64, 3) := by decide +kernel
theorem dX3_readFact_4 : decode cX3_readFact 4 = .ok (.iload_n 2, 1) := by decide +kernel
theorem dX3_readFact_5 : decode cX3_readFact 5 = .ok (.invokestatic 40, 3) := by decide +kernel
theorem dX3_readFact_8 : decode cX3_readFact 8 = .ok (.istore_n 3, 1) := by decide +kernel
theorem dX3_readFact_9 : decode cX3_readFact 9 = .ok (.aload_n 0, 1) := by decide +kernel
theorem dX3_readFact_10 : decode cX3_readFact 10 = .ok (.getfield 9, 3) := by decide +kernel
theorem dX3_readFact_13 : decode cX3_readFact 13 = .ok (.iload_n 3, 1) := by decide +kernel
theorem dX3_readFact_14 : decode cX3_readFact 14 = .ok (.invokestatic 40, 3) := by decide +kernel
theorem dX3_readFact_17 : decode cX3_readFact 17 = .ok (.istore 4, 2) := by decide +kernel
theorem dX3_readFact_19 : decode cX3_readFact 19 = .ok (.iload 4, 2) := by decide +kernel
theorem dX3_readFact_21 : decode cX3_readFact 21 = .ok (.istore 5, 2) := by decide +kernel
theorem dX3_readFact_23 : decode cX3_readFact 23 = .ok (.aload_n 0, 1) := by decide +kernel
theorem dX3_readFact_24 : decode cX3_readFact 24 = .ok (.getfield 15, 3) := by decide +kernel
theorem dX3_readFact_27 : decode cX3_readFact 27 = .ok (.iload_n 2, 1) := by decide +kernel
theorem dX3_readFact_28 : decode cX3_readFact 28 = .ok (.invokestatic 40, 3) := by decide +kernel
theorem dX3_readFact_31 : decode cX3_readFact 31 = .ok (.istore 6, 2) := by decide +kernel
theorem dX3_readFact_33 : decode cX3_readFact 33 = .ok (.aload_n 1, 1) := by decide +kernel
theorem dX3_readFact_34 : decode cX3_readFact 34 = .ok (.getfield 67, 3) := by decide +kernel
theorem dX3_readFact_37 : decode cX3_readFact 37 = .ok (.iload_n 2, 1) := by decide +kernel
theorem dX3_readFact_38 : decode cX3_readFact 38 = .ok (.invokestatic 40, 3) := by decide +kernel
theorem dX3_readFact_41 : decode cX3_readFact 41 = .ok (.istore 7, 2) := by decide +kernel
theorem dX3_readFact_43 : decode cX3_readFact 43 = .ok (.iload 7, 2) := by decide +kernel
theorem dX3_readFact_45 : decode cX3_readFact 45 = .ok (.iconst (-1), 1) := by decide +kernel
theorem dX3_readFact_46 : decode cX3_readFact 46 = .ok (.if_icmp .eq 23, 3) := by decide +kernel
theorem dX3_readFact_49 : decode cX3_readFact 49 = .ok (.aload_n 0, 1) := by decide +kernel
theorem dX3_readFact_50 : decode cX3_readFact 50 = .ok (.getfield 9, 3) := by decide +kernel
theorem dX3_readFact_53 : decode cX3_readFact 53 = .ok (.iload 7, 2) := by decide +kernel
theorem dX3_readFact_55 : decode cX3_readFact 55 = .ok (.invokestatic 40, 3) := by decide +kernel
theorem dX3_readFact_58 : decode cX3_readFact 58 = .ok (.aload_n 1, 1) := by decide +kernel
theorem dX3_readFact_59 : decode cX3_readFact 59 = .ok (.getfield 70, 3) := by decide +kernel
theorem dX3_readFact_62 : decode cX3_readFact 62 = .ok (.iload_n 2, 1) := by decide +kernel
theorem dX3_readFact_63 : decode cX3_readFact 63 = .ok (.invokestatic 40, 3) := by decide +kernel
theorem dX3_readFact_66 : decode cX3_readFact 66 = .ok (.if_icmp .lt 30, 3) := by decide +kernel
theorem dX3_readFact_69 : decode cX3_readFact 69 = .ok (.iconst 0, 1) := by decide +kernel
theorem dX3_readFact_70 : decode cX3_readFact 70 = .ok (.bipush 20, 2) := by decide +kernel
theorem dX3_readFact_72 : decode cX3_readFact 72 = .ok (.iload 4, 2) := by decide +kernel
theorem dX3_readFact_74 : decode cX3_readFact 74 = .ok (.aload_n 1, 1) := by decide +kernel
theorem dX3_readFact_75 : decode cX3_readFact 75 = .ok (.getfield 73, 3) := by decide +kernel
theorem dX3_readFact_78 : decode cX3_readFact 78 = .ok (.iload_n 2, 1) := by decide +kernel
theorem dX3_readFact_79 : decode cX3_readFact 79 = .ok (.invokestatic 40, 3) := by decide +kernel
theorem dX3_readFact_82 : decode cX3_readFact 82 = .ok (.iload 6, 2) := by decide +kernel
theorem dX3_readFact_84 : decode cX3_readFact 84 = .ok (.invokestatic 76, 3) := by decide +kernel
theorem dX3_readFact_87 : decode cX3_readFact 87 = .ok (.iadd, 1) := by decide +kernel
theorem dX3_readFact_88 : decode cX3_readFact 88 = .ok (.invokestatic 80, 3) := by decide +kernel
theorem dX3_readFact_91 : decode cX3_readFact 91 = .ok (.invokestatic 85, 3) := by decide +kernel
theorem dX3_readFact_94 : decode cX3_readFact 94 = .ok (.istore 5, 2) := by decide +kernel
theorem dX3_readFact_96 : decode cX3_readFact 96 = .ok (.aload_n 0, 1) := by decide +kernel
theorem dX3_readFact_97 : decode cX3_readFact 97 = .ok (.getfield 9, 3) := by decide +kernel
theorem dX3_readFact_100 : decode cX3_readFact 100 = .ok (.iload_n 3, 1) := by decide +kernel
theorem dX3_readFact_101 : decode cX3_readFact 101 = .ok (.iload 5, 2) := by decide +kernel
theorem dX3_readFact_103 : decode cX3_readFact 103 = .ok (.invokestatic 44, 3) := by decide +kernel
theorem dX3_readFact_106 : decode cX3_readFact 106 = .ok (.aload_n 0, 1) := by decide +kernel
theorem dX3_readFact_107 : decode cX3_readFact 107 = .ok (.getfield 15, 3) := by decide +kernel
theorem dX3_readFact_110 : decode cX3_readFact 110 = .ok (.iload_n 2, 1) := by decide +kernel
theorem dX3_readFact_111 : decode cX3_readFact 111 = .ok (.iload 6, 2) := by decide +kernel
theorem dX3_readFact_113 : decode cX3_readFact 113 = .ok (.iconst 1, 1) := by decide +kernel
theorem dX3_readFact_114 : decode cX3_readFact 114 = .ok (.iadd, 1) := by decide +kernel
theorem dX3_readFact_115 : decode cX3_readFact 115 = .ok (.invokestatic 44, 3) := by decide +kernel
theorem dX3_readFact_118 : decode cX3_readFact 118 = .ok (.iload 4, 2) := by decide +kernel
theorem dX3_readFact_120 : decode cX3_readFact 120 = .ok (.aload_n 1, 1) := by decide +kernel
theorem dX3_readFact_121 : decode cX3_readFact 121 = .ok (.getfield 57, 3) := by decide +kernel
theorem dX3_readFact_124 : decode cX3_readFact 124 = .ok (.if_icmp .ge 16, 3) := by decide +kernel
theorem dX3_readFact_127 : decode cX3_readFact 127 = .ok (.iload 5, 2) := by decide +kernel
theorem dX3_readFact_129 : decode cX3_readFact 129 = .ok (.aload_n 1, 1) := by decide +kernel
theorem dX3_readFact_130 : decode cX3_readFact 130 = .ok (.getfield 57, 3) := by decide +kernel
theorem dX3_readFact_133 : decode cX3_readFact 133 = .ok (.if_icmp .lt 7, 3) := by decide +kernel
theorem dX3_readFact_136 : decode cX3_readFact 136 = .ok (.iconst 1, 1) := by decide +kernel
theorem dX3_readFact_137 : decode cX3_readFact 137 = .ok (.goto 4, 3) := by decide +kernel
theorem dX3_readFact_140 : decode cX3_readFact 140 = .ok (.iconst 0, 1) := by decide +kernel
theorem dX3_readFact_141 : decode cX3_readFact 141 = .ok (.ireturn, 1) := by decide +kernel
theorem dX3_unread_0 : decode cX3_unread 0 = .ok (.aload_n 0, 1) := by decide +kernel
theorem dX3_unread_1 : decode cX3_unread 1 = .ok (.getfield 9, 3) := by decide +kernel
theorem dX3_unread_4 : decode cX3_unread 4 = .ok (.iload_n 2, 1) := by decide +kernel
theorem dX3_unread_5 : decode cX3_unread 5 = .ok (.iload_n 3, 1) := by decide +kernel
theorem dX3_unread_6 : decode cX3_unread 6 = .ok (.invokestatic 44, 3) := by decide +kernel
theorem dX3_unread_9 : decode cX3_unread 9 = .ok (.aload_n 0, 1) := by decide +kernel
theorem dX3_unread_10 : decode cX3_unread 10 = .ok (.getfield 15, 3) := by decide +kernel
theorem dX3_unread_13 : decode cX3_unread 13 = .ok (.iload_n 1, 1) := by decide +kernel
theorem dX3_unread_14 : decode cX3_unread 14 = .ok (.aload_n 0, 1) := by decide +kernel
theorem dX3_unread_15 : decode cX3_unread 15 = .ok (.getfield 15, 3) := by decide +kernel
theorem dX3_unread_18 : decode cX3_unread 18 = .ok (.iload_n 1, 1) := by decide +kernel
theorem dX3_unread_19 : decode cX3_unread 19 = .ok (.invokestatic 40, 3) := by decide +kernel
theorem dX3_unread_22 : decode cX3_unread 22 = .ok (.iconst 1, 1) := by decide +kernel
theorem dX3_unread_23 : decode cX3_unread 23 = .ok (.isub, 1) := by decide +kernel
theorem dX3_unread_24 : decode cX3_unread 24 = .ok (.invokestatic 44, 3) := by decide +kernel
theorem dX3_unread_27 : decode cX3_unread 27 = .ok (.return_, 1) := by decide +kernel
theorem dX3_spendNight_0 : decode cX3_spendNight 0 = .ok (.aload_n 0, 1) := by decide +kernel
theorem dX3_spendNight_1 : decode cX3_spendNight 1 = .ok (.iconst (-1), 1) := by decide +kernel
theorem dX3_spendNight_2 : decode cX3_spendNight 2 = .ok (.putfield 18, 3) := by decide +kernel
theorem dX3_spendNight_5 : decode cX3_spendNight 5 = .ok (.iconst 0, 1) := by decide +kernel
theorem dX3_spendNight_6 : decode cX3_spendNight 6 = .ok (.istore_n 3, 1) := by decide +kernel
theorem dX3_spendNight_7 : decode cX3_spendNight 7 = .ok (.iload_n 3, 1) := by decide +kernel
theorem dX3_spendNight_8 : decode cX3_spendNight 8 = .ok (.aload_n 1, 1) := by decide +kernel
theorem dX3_spendNight_9 : decode cX3_spendNight 9 = .ok (.getfield 88, 3) := by decide +kernel
theorem dX3_spendNight_12 : decode cX3_spendNight 12 = .ok (.if_icmp .ge 39, 3) := by decide +kernel
theorem dX3_spendNight_15 : decode cX3_spendNight 15 = .ok (.iload_n 2, 1) := by decide +kernel
theorem dX3_spendNight_16 : decode cX3_spendNight 16 = .ok (.iload_n 3, 1) := by decide +kernel
theorem dX3_spendNight_17 : decode cX3_spendNight 17 = .ok (.invokestatic 91, 3) := by decide +kernel
theorem dX3_spendNight_20 : decode cX3_spendNight 20 = .ok (.ifCond .eq 25, 3) := by decide +kernel
theorem dX3_spendNight_23 : decode cX3_spendNight 23 = .ok (.aload_n 0, 1) := by decide +kernel
theorem dX3_spendNight_24 : decode cX3_spendNight 24 = .ok (.aload_n 1, 1) := by decide +kernel
theorem dX3_spendNight_25 : decode cX3_spendNight 25 = .ok (.iload_n 3, 1) := by decide +kernel
theorem dX3_spendNight_26 : decode cX3_spendNight 26 = .ok (.invokevirtual 95, 3) := by decide +kernel
theorem dX3_spendNight_29 : decode cX3_spendNight 29 = .ok (.ifCond .eq 16, 3) := by decide +kernel
theorem dX3_spendNight_32 : decode cX3_spendNight 32 = .ok (.aload_n 0, 1) := by decide +kernel
theorem dX3_spendNight_33 : decode cX3_spendNight 33 = .ok (.getfield 18, 3) := by decide +kernel
theorem dX3_spendNight_36 : decode cX3_spendNight 36 = .ok (.iconst (-1), 1) := by decide +kernel
theorem dX3_spendNight_37 : decode cX3_spendNight 37 = .ok (.if_icmp .ne 8, 3) := by decide +kernel
theorem dX3_spendNight_40 : decode cX3_spendNight 40 = .ok (.aload_n 0, 1) := by decide +kernel
theorem dX3_spendNight_41 : decode cX3_spendNight 41 = .ok (.iload_n 3, 1) := by decide +kernel
theorem dX3_spendNight_42 : decode cX3_spendNight 42 = .ok (.putfield 18, 3) := by decide +kernel
theorem dX3_spendNight_45 : decode cX3_spendNight 45 = .ok (.iinc 3 1, 3) := by decide +kernel
theorem dX3_spendNight_48 : decode cX3_spendNight 48 = .ok (.goto (-41), 3) := by decide +kernel
theorem dX3_spendNight_51 : decode cX3_spendNight 51 = .ok (.aload_n 0, 1) := by decide +kernel
theorem dX3_spendNight_52 : decode cX3_spendNight 52 = .ok (.dup, 1) := by decide +kernel
theorem dX3_spendNight_53 : decode cX3_spendNight 53 = .ok (.getfield 25, 3) := by decide +kernel
theorem dX3_spendNight_56 : decode cX3_spendNight 56 = .ok (.iconst 1, 1) := by decide +kernel
theorem dX3_spendNight_57 : decode cX3_spendNight 57 = .ok (.iadd, 1) := by decide +kernel
theorem dX3_spendNight_58 : decode cX3_spendNight 58 = .ok (.putfield 25, 3) := by decide +kernel
theorem dX3_spendNight_61 : decode cX3_spendNight 61 = .ok (.return_, 1) := by decide +kernel
theorem dX4_init_0 : decode cX4_init 0 = .ok (.aload_n 0, 1) := by decide +kernel
theorem dX4_init_1 : decode cX4_init 1 = .ok (.invokespecial 3, 3) := by decide +kernel
theorem dX4_init_4 : decode cX4_init 4 = .ok (.aload_n 0, 1) := by decide +kernel
theorem dX4_init_5 : decode cX4_init 5 = .ok (.new 9, 3) := by decide +kernel
theorem dX4_init_8 : decode cX4_init 8 = .ok (.dup, 1) := by decide +kernel
theorem dX4_init_9 : decode cX4_init 9 = .ok (.bipush 20, 2) := by decide +kernel
theorem dX4_init_11 : decode cX4_init 11 = .ok (.invokespecial 11, 3) := by decide +kernel
theorem dX4_init_14 : decode cX4_init 14 = .ok (.putfield 14, 3) := by decide +kernel
theorem dX4_init_17 : decode cX4_init 17 = .ok (.aload_n 0, 1) := by decide +kernel
theorem dX4_init_18 : decode cX4_init 18 = .ok (.iconst 0, 1) := by decide +kernel
theorem dX4_init_19 : decode cX4_init 19 = .ok (.putfield 20, 3) := by decide +kernel
theorem dX4_init_22 : decode cX4_init 22 = .ok (.aload_n 0, 1) := by decide +kernel
theorem dX4_init_23 : decode cX4_init 23 = .ok (.iconst 0, 1) := by decide +kernel
theorem dX4_init_24 : decode cX4_init 24 = .ok (.putfield 24, 3) := by decide +kernel
theorem dX4_init_27 : decode cX4_init 27 = .ok (.return_, 1) := by decide +kernel
theorem dX4_clear_0 : decode cX4_clear 0 = .ok (.aload_n 0, 1) := by decide +kernel
theorem dX4_clear_1 : decode cX4_clear 1 = .ok (.iconst 0, 1) := by decide +kernel
theorem dX4_clear_2 : decode cX4_clear 2 = .ok (.putfield 24, 3) := by decide +kernel
theorem dX4_clear_5 : decode cX4_clear 5 = .ok (.return_, 1) := by decide +kernel
theorem dX4_push_0 : decode cX4_push 0 = .ok (.aload_n 0, 1) := by decide +kernel
theorem dX4_push_1 : decode cX4_push 1 = .ok (.getfield 14, 3) := by decide +kernel
theorem dX4_push_4 : decode cX4_push 4 = .ok (.aload_n 0, 1) := by decide +kernel
theorem dX4_push_5 : decode cX4_push 5 = .ok (.getfield 20, 3) := by decide +kernel
theorem dX4_push_8 : decode cX4_push 8 = .ok (.aload_n 1, 1) := by decide +kernel
theorem dX4_push_9 : decode cX4_push 9 = .ok (.invokevirtual 27, 3) := by decide +kernel
theorem dX4_push_12 : decode cX4_push 12 = .ok (.aload_n 0, 1) := by decide +kernel
theorem dX4_push_13 : decode cX4_push 13 = .ok (.aload_n 0, 1) := by decide +kernel
theorem dX4_push_14 : decode cX4_push 14 = .ok (.getfield 20, 3) := by decide +kernel
theorem dX4_push_17 : decode cX4_push 17 = .ok (.iconst 1, 1) := by decide +kernel
theorem dX4_push_18 : decode cX4_push 18 = .ok (.iadd, 1) := by decide +kernel
theorem dX4_push_19 : decode cX4_push 19 = .ok (.bipush 20, 2) := by decide +kernel
theorem dX4_push_21 : decode cX4_push 21 = .ok (.irem, 1) := by decide +kernel
theorem dX4_push_22 : decode cX4_push 22 = .ok (.putfield 20, 3) := by decide +kernel
theorem dX4_push_25 : decode cX4_push 25 = .ok (.aload_n 0, 1) := by decide +kernel
theorem dX4_push_26 : decode cX4_push 26 = .ok (.bipush 20, 2) := by decide +kernel
theorem dX4_push_28 : decode cX4_push 28 = .ok (.aload_n 0, 1) := by decide +kernel
theorem dX4_push_29 : decode cX4_push 29 = .ok (.getfield 24, 3) := by decide +kernel
theorem dX4_push_32 : decode cX4_push 32 = .ok (.iconst 1, 1) := by decide +kernel
theorem dX4_push_33 : decode cX4_push 33 = .ok (.iadd, 1) := by decide +kernel
theorem dX4_push_34 : decode cX4_push 34 = .ok (.invokestatic 31, 3) := by decide +kernel
theorem dX4_push_37 : decode cX4_push 37 = .ok (.putfield 24, 3) := by decide +kernel
theorem dX4_push_40 : decode cX4_push 40 = .ok (.return_, 1) := by decide +kernel
theorem dX4_pop_0 : decode cX4_pop 0 = .ok (.aload_n 0, 1) := by decide +kernel
theorem dX4_pop_1 : decode cX4_pop 1 = .ok (.getfield 24, 3) := by decide +kernel
theorem dX4_pop_4 : decode cX4_pop 4 = .ok (.ifCond .ne 5, 3) := by decide +kernel
theorem dX4_pop_7 : decode cX4_pop 7 = .ok (.iconst 0, 1) := by decide +kernel
theorem dX4_pop_8 : decode cX4_pop 8 = .ok (.ireturn, 1) := by decide +kernel
theorem dX4_pop_9 : decode cX4_pop 9 = .ok (.aload_n 0, 1) := by decide +kernel
theorem dX4_pop_10 : decode cX4_pop 10 = .ok (.aload_n 0, 1) := by decide +kernel
theorem dX4_pop_11 : decode cX4_pop 11 = .ok (.getfield 20, 3) := by decide +kernel
theorem dX4_pop_14 : decode cX4_pop 14 = .ok (.bipush 20, 2) := by decide +kernel
theorem dX4_pop_16 : decode cX4_pop 16 = .ok (.iadd, 1) := by decide +kernel
theorem dX4_pop_17 : decode cX4_pop 17 = .ok (.iconst 1, 1) := by decide +kernel
theorem dX4_pop_18 : decode cX4_pop 18 = .ok (.isub, 1) := by decide +kernel
theorem dX4_pop_19 : decode cX4_pop 19 = .ok (.bipush 20, 2) := by decide +kernel
theorem dX4_pop_21 : decode cX4_pop 21 = .ok (.irem, 1) := by decide +kernel
theorem dX4_pop_22 : decode cX4_pop 22 = .ok (.putfield 20, 3) := by decide +kernel
theorem dX4_pop_25 : decode cX4_pop 25 = .ok (.aload_n 0, 1) := by decide +kernel
theorem dX4_pop_26 : decode cX4_pop 26 = .ok (.dup, 1) := by decide +kernel
theorem dX4_pop_27 : decode cX4_pop 27 = .ok (.getfield 24, 3) := by decide +kernel
theorem dX4_pop_30 : decode cX4_pop 30 = .ok (.iconst 1, 1) := by decide +kernel
theorem dX4_pop_31 : decode cX4_pop 31 = .ok (.isub, 1) := by decide +kernel
theorem dX4_pop_32 : decode cX4_pop 32 = .ok (.putfield 24, 3) := by decide +kernel
theorem dX4_pop_35 : decode cX4_pop 35 = .ok (.aload_n 0, 1) := by decide +kernel
theorem dX4_pop_36 : decode cX4_pop 36 = .ok (.getfield 14, 3) := by decide +kernel
theorem dX4_pop_39 : decode cX4_pop 39 = .ok (.aload_n 0, 1) := by decide +kernel
theorem dX4_pop_40 : decode cX4_pop 40 = .ok (.getfield 20, 3) := by decide +kernel
theorem dX4_pop_43 : decode cX4_pop 43 = .ok (.aload_n 1, 1) := by decide +kernel
theorem dX4_pop_44 : decode cX4_pop 44 = .ok (.invokevirtual 37, 3) := by decide +kernel
theorem dX4_pop_47 : decode cX4_pop 47 = .ok (.iconst 1, 1) := by decide +kernel
theorem dX4_pop_48 : decode cX4_pop 48 = .ok (.ireturn, 1) := by decide +kernel
theorem dX5_init_0 : decode cX5_init 0 = .ok (.aload_n 0, 1) := by decide +kernel
theorem dX5_init_1 : decode cX5_init 1 = .ok (.invokespecial 1, 3) := by decide +kernel
theorem dX5_init_4 : decode cX5_init 4 = .ok (.return_, 1) := by decide +kernel
theorem dX5_become_0 : decode cX5_become 0 = .ok (.aload_n 0, 1) := by decide +kernel
theorem dX5_become_1 : decode cX5_become 1 = .ok (.iload_n 1, 1) := by decide +kernel
theorem dX5_become_2 : decode cX5_become 2 = .ok (.putfield 7, 3) := by decide +kernel
theorem dX5_become_5 : decode cX5_become 5 = .ok (.aload_n 0, 1) := by decide +kernel
theorem dX5_become_6 : decode cX5_become 6 = .ok (.iload_n 2, 1) := by decide +kernel
theorem dX5_become_7 : decode cX5_become 7 = .ok (.putfield 13, 3) := by decide +kernel
theorem dX5_become_10 : decode cX5_become 10 = .ok (.aload_n 0, 1) := by decide +kernel
theorem dX5_become_11 : decode cX5_become 11 = .ok (.iload_n 3, 1) := by decide +kernel
theorem dX5_become_12 : decode cX5_become 12 = .ok (.putfield 16, 3) := by decide +kernel
theorem dX5_become_15 : decode cX5_become 15 = .ok (.return_, 1) := by decide +kernel
theorem dX6_init_0 : decode cX6_init 0 = .ok (.aload_n 0, 1) := by decide +kernel
theorem dX6_init_1 : decode cX6_init 1 = .ok (.invokespecial 5, 3) := by decide +kernel
theorem dX6_init_4 : decode cX6_init 4 = .ok (.aload_n 0, 1) := by decide +kernel
theorem dX6_init_5 : decode cX6_init 5 = .ok (.iconst 0, 1) := by decide +kernel
theorem dX6_init_6 : decode cX6_init 6 = .ok (.bipush 20, 2) := by decide +kernel
theorem dX6_init_8 : decode cX6_init 8 = .ok (.iload_n 1, 1) := by decide +kernel
theorem dX6_init_9 : decode cX6_init 9 = .ok (.invokestatic 11, 3) := by decide +kernel
theorem dX6_init_12 : decode cX6_init 12 = .ok (.invokestatic 17, 3) := by decide +kernel
theorem dX6_init_15 : decode cX6_init 15 = .ok (.bipush 17, 2) := by decide +kernel
theorem dX6_init_17 : decode cX6_init 17 = .ok (.imul, 1) := by decide +kernel
theorem dX6_init_18 : decode cX6_init 18 = .ok (.newarray .int, 2) := by decide +kernel
theorem dX6_init_20 : decode cX6_init 20 = .ok (.putfield 20, 3) := by decide +kernel
theorem dX6_init_23 : decode cX6_init 23 = .ok (.return_, 1) := by decide +kernel
theorem dX6_store_0 : decode cX6_store 0 = .ok (.iload_n 1, 1) := by decide +kernel
theorem dX6_store_1 : decode cX6_store 1 = .ok (.bipush 17, 2) := by decide +kernel
theorem dX6_store_3 : decode cX6_store 3 = .ok (.imul, 1) := by decide +kernel
theorem dX6_store_4 : decode cX6_store 4 = .ok (.istore_n 3, 1) := by decide +kernel
theorem dX6_store_5 : decode cX6_store 5 = .ok (.iconst 0, 1) := by decide +kernel
theorem dX6_store_6 : decode cX6_store 6 = .ok (.istore 4, 2) := by decide +kernel
theorem dX6_store_8 : decode cX6_store 8 = .ok (.iload 4, 2) := by decide +kernel
theorem dX6_store_10 : decode cX6_store 10 = .ok (.iconst 5, 1) := by decide +kernel
theorem dX6_store_11 : decode cX6_store 11 = .ok (.if_icmp .ge 29, 3) := by decide +kernel
theorem dX6_store_14 : decode cX6_store 14 = .ok (.aload_n 0, 1) := by decide +kernel
theorem dX6_store_15 : decode cX6_store 15 = .ok (.getfield 20, 3) := by decide +kernel
theorem dX6_store_18 : decode cX6_store 18 = .ok (.iload_n 3, 1) := by decide +kernel
theorem dX6_store_19 : decode cX6_store 19 = .ok (.iload 4, 2) := by decide +kernel
theorem dX6_store_21 : decode cX6_store 21 = .ok (.iadd, 1) := by decide +kernel
theorem dX6_store_22 : decode cX6_store 22 = .ok (.aload_n 2, 1) := by decide +kernel
theorem dX6_store_23 : decode cX6_store 23 = .ok (.getfield 24, 3) := by decide +kernel
theorem dX6_store_26 : decode cX6_store 26 = .ok (.iload 4, 2) := by decide +kernel
theorem dX6_store_28 : decode cX6_store 28 = .ok (.invokestatic 29, 3) := by decide +kernel
theorem dX6_store_31 : decode cX6_store 31 = .ok (.invokestatic 33, 3) := by decide +kernel
theorem dX6_store_34 : decode cX6_store 34 = .ok (.iinc 4 1, 3) := by decide +kernel
theorem dX6_store_37 : decode cX6_store 37 = .ok (.goto (-29), 3) := by decide +kernel
theorem dX6_store_40 : decode cX6_store 40 = .ok (.iconst 0, 1) := by decide +kernel
theorem dX6_store_41 : decode cX6_store 41 = .ok (.istore 4, 2) := by decide +kernel
theorem dX6_store_43 : decode cX6_store 43 = .ok (.iload 4, 2) := by decide +kernel
theorem dX6_store_45 : decode cX6_store 45 = .ok (.bipush 8, 2) := by decide +kernel
theorem dX6_store_47 : decode cX6_store 47 = .ok (.if_icmp .ge 31, 3) := by decide +kernel
theorem dX6_store_50 : decode cX6_store 50 = .ok (.aload_n 0, 1) := by decide +kernel
theorem dX6_store_51 : decode cX6_store 51 = .ok (.getfield 20, 3) := by decide +kernel
theorem dX6_store_54 : decode cX6_store 54 = .ok (.iload_n 3, 1) := by decide +kernel
theorem dX6_store_55 : decode cX6_store 55 = .ok (.iconst 5, 1) := by decide +kernel
theorem dX6_store_56 : decode cX6_store 56 = .ok (.iadd, 1) := by decide +kernel
theorem dX6_store_57 : decode cX6_store 57 = .ok (.iload 4, 2) := by decide +kernel
theorem dX6_store_59 : decode cX6_store 59 = .ok (.iadd, 1) := by decide +kernel
theorem dX6_store_60 : decode cX6_store 60 = .ok (.aload_n 2, 1) := by decide +kernel
theorem dX6_store_61 : decode cX6_store 61 = .ok (.getfield 37, 3) := by decide +kernel
theorem dX6_store_64 : decode cX6_store 64 = .ok (.iload 4, 2) := by decide +kernel
theorem dX6_store_66 : decode cX6_store 66 = .ok (.invokestatic 29, 3) := by decide +kernel
theorem dX6_store_69 : decode cX6_store 69 = .ok (.invokestatic 33, 3) := by decide +kernel
theorem dX6_store_72 : decode cX6_store 72 = .ok (.iinc 4 1, 3) := by decide +kernel
theorem dX6_store_75 : decode cX6_store 75 = .ok (.goto (-32), 3) := by decide +kernel
theorem dX6_store_78 : decode cX6_store 78 = .ok (.aload_n 0, 1) := by decide +kernel
theorem dX6_store_79 : decode cX6_store 79 = .ok (.getfield 20, 3) := by decide +kernel
theorem dX6_store_82 : decode cX6_store 82 = .ok (.iload_n 3, 1) := by decide +kernel
theorem dX6_store_83 : decode cX6_store 83 = .ok (.bipush 13, 2) := by decide +kernel
theorem dX6_store_85 : decode cX6_store 85 = .ok (.iadd, 1) := by decide +kernel
theorem dX6_store_86 : decode cX6_store 86 = .ok (.aload_n 2, 1) := by decide +kernel
theorem dX6_store_87 : decode cX6_store 87 = .ok (.getfield 40, 3) := by decide +kernel
theorem dX6_store_90 : decode cX6_store 90 = .ok (.invokestatic 33, 3) := by decide +kernel
theorem dX6_store_93 : decode cX6_store 93 = .ok (.aload_n 0, 1) := by decide +kernel
theorem dX6_store_94 : decode cX6_store 94 = .ok (.getfield 20, 3) := by decide +kernel
theorem dX6_store_97 : decode cX6_store 97 = .ok (.iload_n 3, 1) := by decide +kernel
theorem dX6_store_98 : decode cX6_store 98 = .ok (.bipush 14, 2) := by decide +kernel
theorem dX6_store_100 : decode cX6_store 100 = .ok (.iadd, 1) := by decide +kernel
theorem dX6_store_101 : decode cX6_store 101 = .ok (.aload_n 2, 1) := by decide +kernel
theorem dX6_store_102 : decode cX6_store 102 = .ok (.getfield 44, 3) := by decide +kernel
theorem dX6_store_105 : decode cX6_store 105 = .ok (.invokestatic 33, 3) := by decide +kernel
theorem dX6_store_108 : decode cX6_store 108 = .ok (.aload_n 0, 1) := by decide +kernel
theorem dX6_store_109 : decode cX6_store 109 = .ok (.getfield 20, 3) := by decide +kernel
theorem dX6_store_112 : decode cX6_store 112 = .ok (.iload_n 3, 1) := by decide +kernel
theorem dX6_store_113 : decode cX6_store 113 = .ok (.bipush 15, 2) := by decide +kernel
theorem dX6_store_115 : decode cX6_store 115 = .ok (.iadd, 1) := by decide +kernel
theorem dX6_store_116 : decode cX6_store 116 = .ok (.aload_n 2, 1) := by decide +kernel
theorem dX6_store_117 : decode cX6_store 117 = .ok (.getfield 47, 3) := by decide +kernel
theorem dX6_store_120 : decode cX6_store 120 = .ok (.invokestatic 33, 3) := by decide +kernel
theorem dX6_store_123 : decode cX6_store 123 = .ok (.aload_n 0, 1) := by decide +kernel
theorem dX6_store_124 : decode cX6_store 124 = .ok (.getfield 20, 3) := by decide +kernel
theorem dX6_store_127 : decode cX6_store 127 = .ok (.iload_n 3, 1) := by decide +kernel
theorem dX6_store_128 : decode cX6_store 128 = .ok (.bipush 16, 2) := by decide +kernel
theorem dX6_store_130 : decode cX6_store 130 = .ok (.iadd, 1) := by decide +kernel
theorem dX6_store_131 : decode cX6_store 131 = .ok (.aload_n 2, 1) := by decide +kernel
theorem dX6_store_132 : decode cX6_store 132 = .ok (.getfield 50, 3) := by decide +kernel
theorem dX6_store_135 : decode cX6_store 135 = .ok (.invokestatic 33, 3) := by decide +kernel
theorem dX6_store_138 : decode cX6_store 138 = .ok (.return_, 1) := by decide +kernel
theorem dX6_fetch_0 : decode cX6_fetch 0 = .ok (.iload_n 1, 1) := by decide +kernel
theorem dX6_fetch_1 : decode cX6_fetch 1 = .ok (.bipush 17, 2) := by decide +kernel
theorem dX6_fetch_3 : decode cX6_fetch 3 = .ok (.imul, 1) := by decide +kernel
theorem dX6_fetch_4 : decode cX6_fetch 4 = .ok (.istore_n 3, 1) := by decide +kernel
theorem dX6_fetch_5 : decode cX6_fetch 5 = .ok (.iconst 0, 1) := by decide +kernel
theorem dX6_fetch_6 : decode cX6_fetch 6 = .ok (.istore 4, 2) := by decide +kernel
theorem dX6_fetch_8 : decode cX6_fetch 8 = .ok (.iload 4, 2) := by decide +kernel
theorem dX6_fetch_10 : decode cX6_fetch 10 = .ok (.iconst 5, 1) := by decide +kernel
theorem dX6_fetch_11 : decode cX6_fetch 11 = .ok (.if_icmp .ge 29, 3) := by decide +kernel
theorem dX6_fetch_14 : decode cX6_fetch 14 = .ok (.aload_n 2, 1) := by decide +kernel
theorem dX6_fetch_15 : decode cX6_fetch 15 = .ok (.getfield 24, 3) := by decide +kernel
theorem dX6_fetch_18 : decode cX6_fetch 18 = .ok (.iload 4, 2) := by decide +kernel
theorem dX6_fetch_20 : decode cX6_fetch 20 = .ok (.aload_n 0, 1) := by decide +kernel
theorem dX6_fetch_21 : decode cX6_fetch 21 = .ok (.getfield 20, 3) := by decide +kernel
theorem dX6_fetch_24 : decode cX6_fetch 24 = .ok (.iload_n 3, 1) := by decide +kernel
theorem dX6_fetch_25 : decode cX6_fetch 25 = .ok (.iload 4, 2) := by decide +kernel
theorem dX6_fetch_27 : decode cX6_fetch 27 = .ok (.iadd, 1) := by decide +kernel
theorem dX6_fetch_28 : decode cX6_fetch 28 = .ok (.invokestatic 29, 3) := by decide +kernel
theorem dX6_fetch_31 : decode cX6_fetch 31 = .ok (.invokestatic 33, 3) := by decide +kernel
theorem dX6_fetch_34 : decode cX6_fetch 34 = .ok (.iinc 4 1, 3) := by decide +kernel
theorem dX6_fetch_37 : decode cX6_fetch 37 = .ok (.goto (-29), 3) := by decide +kernel
theorem dX6_fetch_40 : decode cX6_fetch 40 = .ok (.iconst 0, 1) := by decide +kernel
theorem dX6_fetch_41 : decode cX6_fetch 41 = .ok (.istore 4, 2) := by decide +kernel
theorem dX6_fetch_43 : decode cX6_fetch 43 = .ok (.iload 4, 2) := by decide +kernel
theorem dX6_fetch_45 : decode cX6_fetch 45 = .ok (.bipush 8, 2) := by decide +kernel
theorem dX6_fetch_47 : decode cX6_fetch 47 = .ok (.if_icmp .ge 31, 3) := by decide +kernel
theorem dX6_fetch_50 : decode cX6_fetch 50 = .ok (.aload_n 2, 1) := by decide +kernel
theorem dX6_fetch_51 : decode cX6_fetch 51 = .ok (.getfield 37, 3) := by decide +kernel
theorem dX6_fetch_54 : decode cX6_fetch 54 = .ok (.iload 4, 2) := by decide +kernel
theorem dX6_fetch_56 : decode cX6_fetch 56 = .ok (.aload_n 0, 1) := by decide +kernel
theorem dX6_fetch_57 : decode cX6_fetch 57 = .ok (.getfield 20, 3) := by decide +kernel
theorem dX6_fetch_60 : decode cX6_fetch 60 = .ok (.iload_n 3, 1) := by decide +kernel
theorem dX6_fetch_61 : decode cX6_fetch 61 = .ok (.iconst 5, 1) := by decide +kernel
theorem dX6_fetch_62 : decode cX6_fetch 62 = .ok (.iadd, 1) := by decide +kernel
theorem dX6_fetch_63 : decode cX6_fetch 63 = .ok (.iload 4, 2) := by decide +kernel
theorem dX6_fetch_65 : decode cX6_fetch 65 = .ok (.iadd, 1) := by decide +kernel
theorem dX6_fetch_66 : decode cX6_fetch 66 = .ok (.invokestatic 29, 3) := by decide +kernel
theorem dX6_fetch_69 : decode cX6_fetch 69 = .ok (.invokestatic 33, 3) := by decide +kernel
theorem dX6_fetch_72 : decode cX6_fetch 72 = .ok (.iinc 4 1, 3) := by decide +kernel
theorem dX6_fetch_75 : decode cX6_fetch 75 = .ok (.goto (-32), 3) := by decide +kernel
theorem dX6_fetch_78 : decode cX6_fetch 78 = .ok (.aload_n 2, 1) := by decide +kernel
theorem dX6_fetch_79 : decode cX6_fetch 79 = .ok (.aload_n 0, 1) := by decide +kernel
theorem dX6_fetch_80 : decode cX6_fetch 80 = .ok (.getfield 20, 3) := by decide +kernel
theorem dX6_fetch_83 : decode cX6_fetch 83 = .ok (.iload_n 3, 1) := by decide +kernel
theorem dX6_fetch_84 : decode cX6_fetch 84 = .ok (.bipush 13, 2) := by decide +kernel
theorem dX6_fetch_86 : decode cX6_fetch 86 = .ok (.iadd, 1) := by decide +kernel
theorem dX6_fetch_87 : decode cX6_fetch 87 = .ok (.invokestatic 29, 3) := by decide +kernel
theorem dX6_fetch_90 : decode cX6_fetch 90 = .ok (.putfield 40, 3) := by decide +kernel
theorem dX6_fetch_93 : decode cX6_fetch 93 = .ok (.aload_n 2, 1) := by decide +kernel
theorem dX6_fetch_94 : decode cX6_fetch 94 = .ok (.aload_n 0, 1) := by decide +kernel
theorem dX6_fetch_95 : decode cX6_fetch 95 = .ok (.getfield 20, 3) := by decide +kernel
theorem dX6_fetch_98 : decode cX6_fetch 98 = .ok (.iload_n 3, 1) := by decide +kernel
theorem dX6_fetch_99 : decode cX6_fetch 99 = .ok (.bipush 14, 2) := by decide +kernel
theorem dX6_fetch_101 : decode cX6_fetch 101 = .ok (.iadd, 1) := by decide +kernel
theorem dX6_fetch_102 : decode cX6_fetch 102 = .ok (.invokestatic 29, 3) := by decide +kernel
theorem dX6_fetch_105 : decode cX6_fetch 105 = .ok (.putfield 44, 3) := by decide +kernel
theorem dX6_fetch_108 : decode cX6_fetch 108 = .ok (.aload_n 2, 1) := by decide +kernel
theorem dX6_fetch_109 : decode cX6_fetch 109 = .ok (.aload_n 0, 1) := by decide +kernel
theorem dX6_fetch_110 : decode cX6_fetch 110 = .ok (.getfield 20, 3) := by decide +kernel
theorem dX6_fetch_113 : decode cX6_fetch 113 = .ok (.iload_n 3, 1) := by decide +kernel
theorem dX6_fetch_114 : decode cX6_fetch 114 = .ok (.bipush 15, 2) := by decide +kernel
theorem dX6_fetch_116 : decode cX6_fetch 116 = .ok (.iadd, 1) := by decide +kernel
theorem dX6_fetch_117 : decode cX6_fetch 117 = .ok (.invokestatic 29, 3) := by decide +kernel
theorem dX6_fetch_120 : decode cX6_fetch 120 = .ok (.putfield 47, 3) := by decide +kernel
theorem dX6_fetch_123 : decode cX6_fetch 123 = .ok (.aload_n 2, 1) := by decide +kernel
theorem dX6_fetch_124 : decode cX6_fetch 124 = .ok (.aload_n 0, 1) := by decide +kernel
theorem dX6_fetch_125 : decode cX6_fetch 125 = .ok (.getfield 20, 3) := by decide +kernel
theorem dX6_fetch_128 : decode cX6_fetch 128 = .ok (.iload_n 3, 1) := by decide +kernel
theorem dX6_fetch_129 : decode cX6_fetch 129 = .ok (.bipush 16, 2) := by decide +kernel
theorem dX6_fetch_131 : decode cX6_fetch 131 = .ok (.iadd, 1) := by decide +kernel
theorem dX6_fetch_132 : decode cX6_fetch 132 = .ok (.invokestatic 29, 3) := by decide +kernel
theorem dX6_fetch_135 : decode cX6_fetch 135 = .ok (.putfield 50, 3) := by decide +kernel
theorem dX6_fetch_138 : decode cX6_fetch 138 = .ok (.return_, 1) := by decide +kernel
