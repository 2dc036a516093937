theorem d_Law_into_12 : decode b_Law_into 12 = .ok (.astore 4, 2) := by decide +kernel
theorem d_Law_into_14 : decode b_Law_into 14 = .ok (.iconst 1, 1) := by decide +kernel
theorem d_Law_into_15 : decode b_Law_into 15 = .ok (.ireturn, 1) := by decide +kernel
theorem d_Law_into_16 : decode b_Law_into 16 = .ok (.iconst 0, 1) := by decide +kernel
theorem d_Law_into_17 : decode b_Law_into 17 = .ok (.ireturn, 1) := by decide +kernel
theorem d_CB_into_0 : decode b_CB_into 0 = .ok (.iload_n 1, 1) := by decide +kernel
theorem d_CB_into_1 : decode b_CB_into 1 = .ok (.invokestatic 27, 3) := by decide +kernel
theorem d_CB_into_4 : decode b_CB_into 4 = .ok (.iload_n 2, 1) := by decide +kernel
theorem d_CB_into_5 : decode b_CB_into 5 = .ok (.invokestatic 27, 3) := by decide +kernel
theorem d_CB_into_8 : decode b_CB_into 8 = .ok (.aload_n 0, 1) := by decide +kernel
theorem d_CB_into_9 : decode b_CB_into 9 = .ok (.getfield 19, 3) := by decide +kernel
theorem d_CB_into_12 : decode b_CB_into 12 = .ok (.aload_n 0, 1) := by decide +kernel
theorem d_CB_into_13 : decode b_CB_into 13 = .ok (.getfield 11, 3) := by decide +kernel
theorem d_CB_into_16 : decode b_CB_into 16 = .ok (.iload_n 1, 1) := by decide +kernel
theorem d_CB_into_17 : decode b_CB_into 17 = .ok (.aaload, 1) := by decide +kernel
theorem d_CB_into_18 : decode b_CB_into 18 = .ok (.aload_n 0, 1) := by decide +kernel
theorem d_CB_into_19 : decode b_CB_into 19 = .ok (.getfield 11, 3) := by decide +kernel
theorem d_CB_into_22 : decode b_CB_into 22 = .ok (.iload_n 2, 1) := by decide +kernel
theorem d_CB_into_23 : decode b_CB_into 23 = .ok (.aaload, 1) := by decide +kernel
theorem d_CB_into_24 : decode b_CB_into 24 = .ok (.invokevirtual 86, 3) := by decide +kernel
theorem d_CB_into_27 : decode b_CB_into 27 = .ok (.iconst 0, 1) := by decide +kernel
theorem d_CB_into_28 : decode b_CB_into 28 = .ok (.istore_n 3, 1) := by decide +kernel
theorem d_CB_into_29 : decode b_CB_into 29 = .ok (.ldc2_w 99, 3) := by decide +kernel
theorem d_CB_into_32 : decode b_CB_into 32 = .ok (.lstore 4, 2) := by decide +kernel
theorem d_CB_into_34 : decode b_CB_into 34 = .ok (.lconst 0, 1) := by decide +kernel
theorem d_CB_into_35 : decode b_CB_into 35 = .ok (.lstore 6, 2) := by decide +kernel
theorem d_CB_into_37 : decode b_CB_into 37 = .ok (.iconst 0, 1) := by decide +kernel
theorem d_CB_into_38 : decode b_CB_into 38 = .ok (.istore 8, 2) := by decide +kernel
theorem d_CB_into_40 : decode b_CB_into 40 = .ok (.iload 8, 2) := by decide +kernel
theorem d_CB_into_42 : decode b_CB_into 42 = .ok (.aload_n 0, 1) := by decide +kernel
theorem d_CB_into_43 : decode b_CB_into 43 = .ok (.getfield 19, 3) := by decide +kernel
theorem d_CB_into_46 : decode b_CB_into 46 = .ok (.getfield 90, 3) := by decide +kernel
theorem d_CB_into_49 : decode b_CB_into 49 = .ok (.if_icmp .ge 90, 3) := by decide +kernel
theorem d_CB_into_52 : decode b_CB_into 52 = .ok (.aload_n 0, 1) := by decide +kernel
theorem d_CB_into_53 : decode b_CB_into 53 = .ok (.getfield 19, 3) := by decide +kernel
theorem d_CB_into_56 : decode b_CB_into 56 = .ok (.getfield 91, 3) := by decide +kernel
theorem d_CB_into_59 : decode b_CB_into 59 = .ok (.iload 8, 2) := by decide +kernel
theorem d_CB_into_61 : decode b_CB_into 61 = .ok (.laload, 1) := by decide +kernel
theorem d_CB_into_62 : decode b_CB_into 62 = .ok (.lstore 9, 2) := by decide +kernel
theorem d_CB_into_64 : decode b_CB_into 64 = .ok (.aload_n 0, 1) := by decide +kernel
theorem d_CB_into_65 : decode b_CB_into 65 = .ok (.getfield 19, 3) := by decide +kernel
theorem d_CB_into_68 : decode b_CB_into 68 = .ok (.getfield 94, 3) := by decide +kernel
theorem d_CB_into_71 : decode b_CB_into 71 = .ok (.iload 8, 2) := by decide +kernel
theorem d_CB_into_73 : decode b_CB_into 73 = .ok (.laload, 1) := by decide +kernel
theorem d_CB_into_74 : decode b_CB_into 74 = .ok (.lstore 11, 2) := by decide +kernel
theorem d_CB_into_76 : decode b_CB_into 76 = .ok (.lload 11, 2) := by decide +kernel
theorem d_CB_into_78 : decode b_CB_into 78 = .ok (.lconst 0, 1) := by decide +kernel
theorem d_CB_into_79 : decode b_CB_into 79 = .ok (.lcmp, 1) := by decide +kernel
theorem d_CB_into_80 : decode b_CB_into 80 = .ok (.ifCond .le 22, 3) := by decide +kernel
theorem d_CB_into_83 : decode b_CB_into 83 = .ok (.iconst 1, 1) := by decide +kernel
theorem d_CB_into_84 : decode b_CB_into 84 = .ok (.istore_n 3, 1) := by decide +kernel
theorem d_CB_into_85 : decode b_CB_into 85 = .ok (.lload 4, 2) := by decide +kernel
theorem d_CB_into_87 : decode b_CB_into 87 = .ok (.lload 9, 2) := by decide +kernel
theorem d_CB_into_89 : decode b_CB_into 89 = .ok (.lload 11, 2) := by decide +kernel
theorem d_CB_into_91 : decode b_CB_into 91 = .ok (.invokestatic 101, 3) := by decide +kernel
theorem d_CB_into_94 : decode b_CB_into 94 = .ok (.invokestatic 107, 3) := by decide +kernel
theorem d_CB_into_97 : decode b_CB_into 97 = .ok (.lstore 4, 2) := by decide +kernel
theorem d_CB_into_99 : decode b_CB_into 99 = .ok (.goto 34, 3) := by decide +kernel
theorem d_CB_into_102 : decode b_CB_into 102 = .ok (.lload 9, 2) := by decide +kernel
theorem d_CB_into_104 : decode b_CB_into 104 = .ok (.lload 11, 2) := by decide +kernel
theorem d_CB_into_106 : decode b_CB_into 106 = .ok (.invokestatic 110, 3) := by decide +kernel
theorem d_CB_into_109 : decode b_CB_into 109 = .ok (.lstore 13, 2) := by decide +kernel
theorem d_CB_into_111 : decode b_CB_into 111 = .ok (.lload 13, 2) := by decide +kernel
theorem d_CB_into_113 : decode b_CB_into 113 = .ok (.ldc2_w 113, 3) := by decide +kernel
theorem d_CB_into_116 : decode b_CB_into 116 = .ok (.lcmp, 1) := by decide +kernel
theorem d_CB_into_117 : decode b_CB_into 117 = .ok (.ifCond .ne 7, 3) := by decide +kernel
theorem d_CB_into_120 : decode b_CB_into 120 = .ok (.ldc2_w 113, 3) := by decide +kernel
theorem d_CB_into_123 : decode b_CB_into 123 = .ok (.lreturn, 1) := by decide +kernel
theorem d_CB_into_124 : decode b_CB_into 124 = .ok (.lload 6, 2) := by decide +kernel
theorem d_CB_into_126 : decode b_CB_into 126 = .ok (.lload 13, 2) := by decide +kernel
theorem d_CB_into_128 : decode b_CB_into 128 = .ok (.invokestatic 115, 3) := by decide +kernel
theorem d_CB_into_131 : decode b_CB_into 131 = .ok (.lstore 6, 2) := by decide +kernel
theorem d_CB_into_133 : decode b_CB_into 133 = .ok (.iinc 8 1, 3) := by decide +kernel
theorem d_CB_into_136 : decode b_CB_into 136 = .ok (.goto (-96), 3) := by decide +kernel
theorem d_CB_into_139 : decode b_CB_into 139 = .ok (.iload_n 3, 1) := by decide +kernel
theorem d_CB_into_140 : decode b_CB_into 140 = .ok (.ifCond .eq 16, 3) := by decide +kernel
theorem d_CB_into_143 : decode b_CB_into 143 = .ok (.lload 6, 2) := by decide +kernel
theorem d_CB_into_145 : decode b_CB_into 145 = .ok (.lload 4, 2) := by decide +kernel
theorem d_CB_into_147 : decode b_CB_into 147 = .ok (.lcmp, 1) := by decide +kernel
theorem d_CB_into_148 : decode b_CB_into 148 = .ok (.ifCond .gt 8, 3) := by decide +kernel
theorem d_CB_into_151 : decode b_CB_into 151 = .ok (.lload 4, 2) := by decide +kernel
theorem d_CB_into_153 : decode b_CB_into 153 = .ok (.goto 6, 3) := by decide +kernel
theorem d_CB_into_156 : decode b_CB_into 156 = .ok (.ldc2_w 113, 3) := by decide +kernel
theorem d_CB_into_159 : decode b_CB_into 159 = .ok (.lreturn, 1) := by decide +kernel
theorem d_JM_floorDiv_0 : decode b_JM_floorDiv 0 = .ok (.lload_n 0, 1) := by decide +kernel
theorem d_JM_floorDiv_1 : decode b_JM_floorDiv 1 = .ok (.lload_n 2, 1) := by decide +kernel
theorem d_JM_floorDiv_2 : decode b_JM_floorDiv 2 = .ok (.ldiv, 1) := by decide +kernel
theorem d_JM_floorDiv_3 : decode b_JM_floorDiv 3 = .ok (.lstore 4, 2) := by decide +kernel
theorem d_JM_floorDiv_5 : decode b_JM_floorDiv 5 = .ok (.lload_n 0, 1) := by decide +kernel
theorem d_JM_floorDiv_6 : decode b_JM_floorDiv 6 = .ok (.lload_n 2, 1) := by decide +kernel
theorem d_JM_floorDiv_7 : decode b_JM_floorDiv 7 = .ok (.lxor, 1) := by decide +kernel
theorem d_JM_floorDiv_8 : decode b_JM_floorDiv 8 = .ok (.lconst 0, 1) := by decide +kernel
theorem d_JM_floorDiv_9 : decode b_JM_floorDiv 9 = .ok (.lcmp, 1) := by decide +kernel
theorem d_JM_floorDiv_10 : decode b_JM_floorDiv 10 = .ok (.ifCond .ge 17, 3) := by decide +kernel
theorem d_JM_floorDiv_13 : decode b_JM_floorDiv 13 = .ok (.lload 4, 2) := by decide +kernel
theorem d_JM_floorDiv_15 : decode b_JM_floorDiv 15 = .ok (.lload_n 2, 1) := by decide +kernel
theorem d_JM_floorDiv_16 : decode b_JM_floorDiv 16 = .ok (.lmul, 1) := by decide +kernel
theorem d_JM_floorDiv_17 : decode b_JM_floorDiv 17 = .ok (.lload_n 0, 1) := by decide +kernel
theorem d_JM_floorDiv_18 : decode b_JM_floorDiv 18 = .ok (.lcmp, 1) := by decide +kernel
theorem d_JM_floorDiv_19 : decode b_JM_floorDiv 19 = .ok (.ifCond .eq 8, 3) := by decide +kernel
theorem d_JM_floorDiv_22 : decode b_JM_floorDiv 22 = .ok (.lload 4, 2) := by decide +kernel
theorem d_JM_floorDiv_24 : decode b_JM_floorDiv 24 = .ok (.lconst 1, 1) := by decide +kernel
theorem d_JM_floorDiv_25 : decode b_JM_floorDiv 25 = .ok (.lsub, 1) := by decide +kernel
theorem d_JM_floorDiv_26 : decode b_JM_floorDiv 26 = .ok (.lreturn, 1) := by decide +kernel
theorem d_JM_floorDiv_27 : decode b_JM_floorDiv 27 = .ok (.lload 4, 2) := by decide +kernel
theorem d_JM_floorDiv_29 : decode b_JM_floorDiv 29 = .ok (.lreturn, 1) := by decide +kernel
theorem d_CB_fewestTimes_0 : decode b_CB_fewestTimes 0 = .ok (.lload_n 0, 1) := by decide +kernel
theorem d_CB_fewestTimes_1 : decode b_CB_fewestTimes 1 = .ok (.lconst 0, 1) := by decide +kernel
theorem d_CB_fewestTimes_2 : decode b_CB_fewestTimes 2 = .ok (.lcmp, 1) := by decide +kernel
theorem d_CB_fewestTimes_3 : decode b_CB_fewestTimes 3 = .ok (.ifCond .lt 5, 3) := by decide +kernel
theorem d_CB_fewestTimes_6 : decode b_CB_fewestTimes 6 = .ok (.lconst 0, 1) := by decide +kernel
theorem d_CB_fewestTimes_7 : decode b_CB_fewestTimes 7 = .ok (.lreturn, 1) := by decide +kernel
theorem d_CB_fewestTimes_8 : decode b_CB_fewestTimes 8 = .ok (.lload_n 2, 1) := by decide +kernel
theorem d_CB_fewestTimes_9 : decode b_CB_fewestTimes 9 = .ok (.lconst 0, 1) := by decide +kernel
theorem d_CB_fewestTimes_10 : decode b_CB_fewestTimes 10 = .ok (.lcmp, 1) := by decide +kernel
theorem d_CB_fewestTimes_11 : decode b_CB_fewestTimes 11 = .ok (.ifCond .eq 19, 3) := by decide +kernel
theorem d_CB_fewestTimes_14 : decode b_CB_fewestTimes 14 = .ok (.lload_n 2, 1) := by decide +kernel
theorem d_CB_fewestTimes_15 : decode b_CB_fewestTimes 15 = .ok (.ldc2_w 113, 3) := by decide +kernel
theorem d_CB_fewestTimes_18 : decode b_CB_fewestTimes 18 = .ok (.lcmp, 1) := by decide +kernel
theorem d_CB_fewestTimes_19 : decode b_CB_fewestTimes 19 = .ok (.ifCond .ne 15, 3) := by decide +kernel
theorem d_CB_fewestTimes_22 : decode b_CB_fewestTimes 22 = .ok (.lload_n 0, 1) := by decide +kernel
theorem d_CB_fewestTimes_23 : decode b_CB_fewestTimes 23 = .ok (.ldc2_w 148, 3) := by decide +kernel
theorem d_CB_fewestTimes_26 : decode b_CB_fewestTimes 26 = .ok (.lcmp, 1) := by decide +kernel
theorem d_CB_fewestTimes_27 : decode b_CB_fewestTimes 27 = .ok (.ifCond .ne 7, 3) := by decide +kernel
theorem d_CB_fewestTimes_30 : decode b_CB_fewestTimes 30 = .ok (.ldc2_w 113, 3) := by decide +kernel
theorem d_CB_fewestTimes_33 : decode b_CB_fewestTimes 33 = .ok (.lreturn, 1) := by decide +kernel
theorem d_CB_fewestTimes_34 : decode b_CB_fewestTimes 34 = .ok (.lload_n 0, 1) := by decide +kernel
theorem d_CB_fewestTimes_35 : decode b_CB_fewestTimes 35 = .ok (.lload_n 2, 1) := by decide +kernel
theorem d_CB_fewestTimes_36 : decode b_CB_fewestTimes 36 = .ok (.ldiv, 1) := by decide +kernel
theorem d_CB_fewestTimes_37 : decode b_CB_fewestTimes 37 = .ok (.lstore 4, 2) := by decide +kernel
theorem d_CB_fewestTimes_39 : decode b_CB_fewestTimes 39 = .ok (.lload_n 0, 1) := by decide +kernel
theorem d_CB_fewestTimes_40 : decode b_CB_fewestTimes 40 = .ok (.lload_n 2, 1) := by decide +kernel
theorem d_CB_fewestTimes_41 : decode b_CB_fewestTimes 41 = .ok (.lrem, 1) := by decide +kernel
theorem d_CB_fewestTimes_42 : decode b_CB_fewestTimes 42 = .ok (.lconst 0, 1) := by decide +kernel
theorem d_CB_fewestTimes_43 : decode b_CB_fewestTimes 43 = .ok (.lcmp, 1) := by decide +kernel
theorem d_CB_fewestTimes_44 : decode b_CB_fewestTimes 44 = .ok (.ifCond .ne 8, 3) := by decide +kernel
theorem d_CB_fewestTimes_47 : decode b_CB_fewestTimes 47 = .ok (.lload 4, 2) := by decide +kernel
theorem d_CB_fewestTimes_49 : decode b_CB_fewestTimes 49 = .ok (.goto 7, 3) := by decide +kernel
theorem d_CB_fewestTimes_52 : decode b_CB_fewestTimes 52 = .ok (.lload 4, 2) := by decide +kernel
theorem d_CB_fewestTimes_54 : decode b_CB_fewestTimes 54 = .ok (.lconst 1, 1) := by decide +kernel
theorem d_CB_fewestTimes_55 : decode b_CB_fewestTimes 55 = .ok (.ladd, 1) := by decide +kernel
theorem d_CB_fewestTimes_56 : decode b_CB_fewestTimes 56 = .ok (.lreturn, 1) := by decide +kernel
theorem d_JM_max_0 : decode b_JM_max 0 = .ok (.lload_n 0, 1) := by decide +kernel
theorem d_JM_max_1 : decode b_JM_max 1 = .ok (.lload_n 2, 1) := by decide +kernel
theorem d_JM_max_2 : decode b_JM_max 2 = .ok (.lcmp, 1) := by decide +kernel
theorem d_JM_max_3 : decode b_JM_max 3 = .ok (.ifCond .lt 7, 3) := by decide +kernel
theorem d_JM_max_6 : decode b_JM_max 6 = .ok (.lload_n 0, 1) := by decide +kernel
theorem d_JM_max_7 : decode b_JM_max 7 = .ok (.goto 4, 3) := by decide +kernel
theorem d_JM_max_10 : decode b_JM_max 10 = .ok (.lload_n 2, 1) := by decide +kernel
theorem d_JM_max_11 : decode b_JM_max 11 = .ok (.lreturn, 1) := by decide +kernel
theorem d_Law_look_0 : decode b_Law_look 0 = .ok (.aload_n 3, 1) := by decide +kernel
theorem d_Law_look_1 : decode b_Law_look 1 = .ok (.iconst 0, 1) := by decide +kernel
theorem d_Law_look_2 : decode b_Law_look 2 = .ok (.aload_n 0, 1) := by decide +kernel
theorem d_Law_look_3 : decode b_Law_look 3 = .ok (.iload_n 1, 1) := by decide +kernel
theorem d_Law_look_4 : decode b_Law_look 4 = .ok (.iload_n 2, 1) := by decide +kernel
theorem d_Law_look_5 : decode b_Law_look 5 = .ok (.invokevirtual 65, 3) := by decide +kernel
theorem d_Law_look_8 : decode b_Law_look 8 = .ok (.i2l, 1) := by decide +kernel
theorem d_Law_look_9 : decode b_Law_look 9 = .ok (.lastore, 1) := by decide +kernel
theorem d_Law_look_10 : decode b_Law_look 10 = .ok (.goto 7, 3) := by decide +kernel
theorem d_Law_look_13 : decode b_Law_look 13 = .ok (.astore 4, 2) := by decide +kernel
theorem d_Law_look_15 : decode b_Law_look 15 = .ok (.iconst 1, 1) := by decide +kernel
theorem d_Law_look_16 : decode b_Law_look 16 = .ok (.ireturn, 1) := by decide +kernel
theorem d_Law_look_17 : decode b_Law_look 17 = .ok (.iconst 0, 1) := by decide +kernel
theorem d_Law_look_18 : decode b_Law_look 18 = .ok (.ireturn, 1) := by decide +kernel
theorem d_CB_look_0 : decode b_CB_look 0 = .ok (.iload_n 1, 1) := by decide +kernel
theorem d_CB_look_1 : decode b_CB_look 1 = .ok (.invokestatic 27, 3) := by decide +kernel
theorem d_CB_look_4 : decode b_CB_look 4 = .ok (.iload_n 2, 1) := by decide +kernel
theorem d_CB_look_5 : decode b_CB_look 5 = .ok (.tableswitch 57 0 2 #[27, 37, 47], 27) := by decide +kernel
theorem d_CB_look_32 : decode b_CB_look 32 = .ok (.aload_n 0, 1) := by decide +kernel
theorem d_CB_look_33 : decode b_CB_look 33 = .ok (.getfield 11, 3) := by decide +kernel
theorem d_CB_look_36 : decode b_CB_look 36 = .ok (.iload_n 1, 1) := by decide +kernel
theorem d_CB_look_37 : decode b_CB_look 37 = .ok (.aaload, 1) := by decide +kernel
theorem d_CB_look_38 : decode b_CB_look 38 = .ok (.invokevirtual 118, 3) := by decide +kernel
theorem d_CB_look_41 : decode b_CB_look 41 = .ok (.ireturn, 1) := by decide +kernel
theorem d_CB_look_42 : decode b_CB_look 42 = .ok (.aload_n 0, 1) := by decide +kernel
theorem d_CB_look_43 : decode b_CB_look 43 = .ok (.getfield 11, 3) := by decide +kernel
theorem d_CB_look_46 : decode b_CB_look 46 = .ok (.iload_n 1, 1) := by decide +kernel
theorem d_CB_look_47 : decode b_CB_look 47 = .ok (.aaload, 1) := by decide +kernel
theorem d_CB_look_48 : decode b_CB_look 48 = .ok (.invokevirtual 122, 3) := by decide +kernel
theorem d_CB_look_51 : decode b_CB_look 51 = .ok (.ireturn, 1) := by decide +kernel
theorem d_CB_look_52 : decode b_CB_look 52 = .ok (.aload_n 0, 1) := by decide +kernel
theorem d_CB_look_53 : decode b_CB_look 53 = .ok (.getfield 11, 3) := by decide +kernel
theorem d_CB_look_56 : decode b_CB_look 56 = .ok (.iload_n 1, 1) := by decide +kernel
theorem d_CB_look_57 : decode b_CB_look 57 = .ok (.aaload, 1) := by decide +kernel
theorem d_CB_look_58 : decode b_CB_look 58 = .ok (.invokevirtual 125, 3) := by decide +kernel
theorem d_CB_look_61 : decode b_CB_look 61 = .ok (.ireturn, 1) := by decide +kernel
theorem d_CB_look_62 : decode b_CB_look 62 = .ok (.iconst (-1), 1) := by decide +kernel
theorem d_CB_look_63 : decode b_CB_look 63 = .ok (.ireturn, 1) := by decide +kernel
theorem d_Bag_countPolicies_0 : decode b_Bag_countPolicies 0 = .ok (.iconst 0, 1) := by decide +kernel
theorem d_Bag_countPolicies_1 : decode b_Bag_countPolicies 1 = .ok (.istore_n 1, 1) := by decide +kernel
theorem d_Bag_countPolicies_2 : decode b_Bag_countPolicies 2 = .ok (.iconst 0, 1) := by decide +kernel
theorem d_Bag_countPolicies_3 : decode b_Bag_countPolicies 3 = .ok (.istore_n 2, 1) := by decide +kernel
theorem d_Bag_countPolicies_4 : decode b_Bag_countPolicies 4 = .ok (.iload_n 2, 1) := by decide +kernel
theorem d_Bag_countPolicies_5 : decode b_Bag_countPolicies 5 = .ok (.aload_n 0, 1) := by decide +kernel
theorem d_Bag_countPolicies_6 : decode b_Bag_countPolicies 6 = .ok (.getfield 22, 3) := by decide +kernel
theorem d_Bag_countPolicies_9 : decode b_Bag_countPolicies 9 = .ok (.if_icmp .ge 33, 3) := by decide +kernel
theorem d_Bag_countPolicies_12 : decode b_Bag_countPolicies 12 = .ok (.iload_n 2, 1) := by decide +kernel
theorem d_Bag_countPolicies_13 : decode b_Bag_countPolicies 13 = .ok (.ifCond .eq 20, 3) := by decide +kernel
theorem d_Bag_countPolicies_16 : decode b_Bag_countPolicies 16 = .ok (.aload_n 0, 1) := by decide +kernel
theorem d_Bag_countPolicies_17 : decode b_Bag_countPolicies 17 = .ok (.getfield 9, 3) := by decide +kernel
theorem d_Bag_countPolicies_20 : decode b_Bag_countPolicies 20 = .ok (.iload_n 2, 1) := by decide +kernel
theorem d_Bag_countPolicies_21 : decode b_Bag_countPolicies 21 = .ok (.iaload, 1) := by decide +kernel
theorem d_Bag_countPolicies_22 : decode b_Bag_countPolicies 22 = .ok (.aload_n 0, 1) := by decide +kernel
theorem d_Bag_countPolicies_23 : decode b_Bag_countPolicies 23 = .ok (.getfield 9, 3) := by decide +kernel
theorem d_Bag_countPolicies_26 : decode b_Bag_countPolicies 26 = .ok (.iload_n 2, 1) := by decide +kernel
theorem d_Bag_countPolicies_27 : decode b_Bag_countPolicies 27 = .ok (.iconst 1, 1) := by decide +kernel
theorem d_Bag_countPolicies_28 : decode b_Bag_countPolicies 28 = .ok (.isub, 1) := by decide +kernel
theorem d_Bag_countPolicies_29 : decode b_Bag_countPolicies 29 = .ok (.iaload, 1) := by decide +kernel
theorem d_Bag_countPolicies_30 : decode b_Bag_countPolicies 30 = .ok (.if_icmp .eq 6, 3) := by decide +kernel
theorem d_Bag_countPolicies_33 : decode b_Bag_countPolicies 33 = .ok (.iinc 1 1, 3) := by decide +kernel
theorem d_Bag_countPolicies_36 : decode b_Bag_countPolicies 36 = .ok (.iinc 2 1, 3) := by decide +kernel
theorem d_Bag_countPolicies_39 : decode b_Bag_countPolicies 39 = .ok (.goto (-35), 3) := by decide +kernel
theorem d_Bag_countPolicies_42 : decode b_Bag_countPolicies 42 = .ok (.iload_n 1, 1) := by decide +kernel
theorem d_Bag_countPolicies_43 : decode b_Bag_countPolicies 43 = .ok (.ireturn, 1) := by decide +kernel
theorem d_Bag_countBelowZero_0 : decode b_Bag_countBelowZero 0 = .ok (.iconst 0, 1) := by decide +kernel
theorem d_Bag_countBelowZero_1 : decode b_Bag_countBelowZero 1 = .ok (.istore_n 1, 1) := by decide +kernel
theorem d_Bag_countBelowZero_2 : decode b_Bag_countBelowZero 2 = .ok (.iconst 0, 1) := by decide +kernel
theorem d_Bag_countBelowZero_3 : decode b_Bag_countBelowZero 3 = .ok (.istore_n 2, 1) := by decide +kernel
theorem d_Bag_countBelowZero_4 : decode b_Bag_countBelowZero 4 = .ok (.iload_n 2, 1) := by decide +kernel
theorem d_Bag_countBelowZero_5 : decode b_Bag_countBelowZero 5 = .ok (.aload_n 0, 1) := by decide +kernel
theorem d_Bag_countBelowZero_6 : decode b_Bag_countBelowZero 6 = .ok (.getfield 22, 3) := by decide +kernel
theorem d_Bag_countBelowZero_9 : decode b_Bag_countBelowZero 9 = .ok (.if_icmp .ge 23, 3) := by decide +kernel
theorem d_Bag_countBelowZero_12 : decode b_Bag_countBelowZero 12 = .ok (.aload_n 0, 1) := by decide +kernel
theorem d_Bag_countBelowZero_13 : decode b_Bag_countBelowZero 13 = .ok (.getfield 19, 3) := by decide +kernel
theorem d_Bag_countBelowZero_16 : decode b_Bag_countBelowZero 16 = .ok (.iload_n 2, 1) := by decide +kernel
theorem d_Bag_countBelowZero_17 : decode b_Bag_countBelowZero 17 = .ok (.laload, 1) := by decide +kernel
theorem d_Bag_countBelowZero_18 : decode b_Bag_countBelowZero 18 = .ok (.lconst 0, 1) := by decide +kernel
theorem d_Bag_countBelowZero_19 : decode b_Bag_countBelowZero 19 = .ok (.lcmp, 1) := by decide +kernel
theorem d_Bag_countBelowZero_20 : decode b_Bag_countBelowZero 20 = .ok (.ifCond .ge 6, 3) := by decide +kernel
theorem d_Bag_countBelowZero_23 : decode b_Bag_countBelowZero 23 = .ok (.iinc 1 1, 3) := by decide +kernel
theorem d_Bag_countBelowZero_26 : decode b_Bag_countBelowZero 26 = .ok (.iinc 2 1, 3) := by decide +kernel
theorem d_Bag_countBelowZero_29 : decode b_Bag_countBelowZero 29 = .ok (.goto (-25), 3) := by decide +kernel
theorem d_Bag_countBelowZero_32 : decode b_Bag_countBelowZero 32 = .ok (.iload_n 1, 1) := by decide +kernel
theorem d_Bag_countBelowZero_33 : decode b_Bag_countBelowZero 33 = .ok (.ireturn, 1) := by decide +kernel
theorem d_Bag_placeOfGreatest_0 : decode b_Bag_placeOfGreatest 0 = .ok (.iconst (-1), 1) := by decide +kernel
theorem d_Bag_placeOfGreatest_1 : decode b_Bag_placeOfGreatest 1 = .ok (.istore_n 1, 1) := by decide +kernel
theorem d_Bag_placeOfGreatest_2 : decode b_Bag_placeOfGreatest 2 = .ok (.iconst 0, 1) := by decide +kernel
theorem d_Bag_placeOfGreatest_3 : decode b_Bag_placeOfGreatest 3 = .ok (.istore_n 2, 1) := by decide +kernel
theorem d_Bag_placeOfGreatest_4 : decode b_Bag_placeOfGreatest 4 = .ok (.iload_n 2, 1) := by decide +kernel
theorem d_Bag_placeOfGreatest_5 : decode b_Bag_placeOfGreatest 5 = .ok (.aload_n 0, 1) := by decide +kernel
theorem d_Bag_placeOfGreatest_6 : decode b_Bag_placeOfGreatest 6 = .ok (.getfield 22, 3) := by decide +kernel
theorem d_Bag_placeOfGreatest_9 : decode b_Bag_placeOfGreatest 9 = .ok (.if_icmp .ge 32, 3) := by decide +kernel
theorem d_Bag_placeOfGreatest_12 : decode b_Bag_placeOfGreatest 12 = .ok (.iload_n 1, 1) := by decide +kernel
theorem d_Bag_placeOfGreatest_13 : decode b_Bag_placeOfGreatest 13 = .ok (.iconst (-1), 1) := by decide +kernel
theorem d_Bag_placeOfGreatest_14 : decode b_Bag_placeOfGreatest 14 = .ok (.if_icmp .eq 19, 3) := by decide +kernel
theorem d_Bag_placeOfGreatest_17 : decode b_Bag_placeOfGreatest 17 = .ok (.aload_n 0, 1) := by decide +kernel
theorem d_Bag_placeOfGreatest_18 : decode b_Bag_placeOfGreatest 18 = .ok (.getfield 19, 3) := by decide +kernel
theorem d_Bag_placeOfGreatest_21 : decode b_Bag_placeOfGreatest 21 = .ok (.iload_n 2, 1) := by decide +kernel
theorem d_Bag_placeOfGreatest_22 : decode b_Bag_placeOfGreatest 22 = .ok (.laload, 1) := by decide +kernel
theorem d_Bag_placeOfGreatest_23 : decode b_Bag_placeOfGreatest 23 = .ok (.aload_n 0, 1) := by decide +kernel
theorem d_Bag_placeOfGreatest_24 : decode b_Bag_placeOfGreatest 24 = .ok (.getfield 19, 3) := by decide +kernel
theorem d_Bag_placeOfGreatest_27 : decode b_Bag_placeOfGreatest 27 = .ok (.iload_n 1, 1) := by decide +kernel
theorem d_Bag_placeOfGreatest_28 : decode b_Bag_placeOfGreatest 28 = .ok (.laload, 1) := by decide +kernel
theorem d_Bag_placeOfGreatest_29 : decode b_Bag_placeOfGreatest 29 = .ok (.lcmp, 1) := by decide +kernel
theorem d_Bag_placeOfGreatest_30 : decode b_Bag_placeOfGreatest 30 = .ok (.ifCond .le 5, 3) := by decide +kernel
theorem d_Bag_placeOfGreatest_33 : decode b_Bag_placeOfGreatest 33 = .ok (.iload_n 2, 1) := by decide +kernel
theorem d_Bag_placeOfGreatest_34 : decode b_Bag_placeOfGreatest 34 = .ok (.istore_n 1, 1) := by decide +kernel
theorem d_Bag_placeOfGreatest_35 : decode b_Bag_placeOfGreatest 35 = .ok (.iinc 2 1, 3) := by decide +kernel
theorem d_Bag_placeOfGreatest_38 : decode b_Bag_placeOfGreatest 38 = .ok (.goto (-34), 3) := by decide +kernel
theorem d_Bag_placeOfGreatest_41 : decode b_Bag_placeOfGreatest 41 = .ok (.iload_n 1, 1) := by decide +kernel
theorem d_Bag_placeOfGreatest_42 : decode b_Bag_placeOfGreatest 42 = .ok (.ireturn, 1) := by decide +kernel
theorem d_Mod_init_0 : decode b_Mod_init 0 = .ok (.aload_n 0, 1) := by decide +kernel
theorem d_Mod_init_1 : decode b_Mod_init 1 = .ok (.invokespecial 1, 3) := by decide +kernel
theorem d_Mod_init_4 : decode b_Mod_init 4 = .ok (.aload_n 0, 1) := by decide +kernel
theorem d_Mod_init_5 : decode b_Mod_init 5 = .ok (.bipush 8, 2) := by decide +kernel
theorem d_Mod_init_7 : decode b_Mod_init 7 = .ok (.newarray .int, 2) := by decide +kernel
theorem d_Mod_init_9 : decode b_Mod_init 9 = .ok (.putfield 7, 3) := by decide +kernel
theorem d_Mod_init_12 : decode b_Mod_init 12 = .ok (.aload_n 0, 1) := by decide +kernel
theorem d_Mod_init_13 : decode b_Mod_init 13 = .ok (.sipush 512, 3) := by decide +kernel
theorem d_Mod_init_16 : decode b_Mod_init 16 = .ok (.newarray .int, 2) := by decide +kernel
theorem d_Mod_init_18 : decode b_Mod_init 18 = .ok (.putfield 13, 3) := by decide +kernel
theorem d_Mod_init_21 : decode b_Mod_init 21 = .ok (.aload_n 0, 1) := by decide +kernel
theorem d_Mod_init_22 : decode b_Mod_init 22 = .ok (.sipush 512, 3) := by decide +kernel
theorem d_Mod_init_25 : decode b_Mod_init 25 = .ok (.newarray .long, 2) := by decide +kernel
theorem d_Mod_init_27 : decode b_Mod_init 27 = .ok (.putfield 16, 3) := by decide +kernel
theorem d_Mod_init_30 : decode b_Mod_init 30 = .ok (.aload_n 0, 1) := by decide +kernel
theorem d_Mod_init_31 : decode b_Mod_init 31 = .ok (.sipush 512, 3) := by decide +kernel
theorem d_Mod_init_34 : decode b_Mod_init 34 = .ok (.newarray .long, 2) := by decide +kernel
theorem d_Mod_init_36 : decode b_Mod_init 36 = .ok (.putfield 20, 3) := by decide +kernel
theorem d_Mod_init_39 : decode b_Mod_init 39 = .ok (.aload_n 0, 1) := by decide +kernel
theorem d_Mod_init_40 : decode b_Mod_init 40 = .ok (.sipush 130, 3) := by decide +kernel
theorem d_Mod_init_43 : decode b_Mod_init 43 = .ok (.newarray .int, 2) := by decide +kernel
theorem d_Mod_init_45 : decode b_Mod_init 45 = .ok (.putfield 23, 3) := by decide +kernel
theorem d_Mod_init_48 : decode b_Mod_init 48 = .ok (.aload_n 0, 1) := by decide +kernel
theorem d_Mod_init_49 : decode b_Mod_init 49 = .ok (.sipush 130, 3) := by decide +kernel
theorem d_Mod_init_52 : decode b_Mod_init 52 = .ok (.newarray .long, 2) := by decide +kernel
theorem d_Mod_init_54 : decode b_Mod_init 54 = .ok (.putfield 26, 3) := by decide +kernel
theorem d_Mod_init_57 : decode b_Mod_init 57 = .ok (.aload_n 0, 1) := by decide +kernel
theorem d_Mod_init_58 : decode b_Mod_init 58 = .ok (.sipush 130, 3) := by decide +kernel
theorem d_Mod_init_61 : decode b_Mod_init 61 = .ok (.newarray .long, 2) := by decide +kernel
theorem d_Mod_init_63 : decode b_Mod_init 63 = .ok (.putfield 29, 3) := by decide +kernel
theorem d_Mod_init_66 : decode b_Mod_init 66 = .ok (.return_, 1) := by decide +kernel
theorem d_Mod_thrown_0 : decode b_Mod_thrown 0 = .ok (.aload_n 0, 1) := by decide +kernel
theorem d_Mod_thrown_1 : decode b_Mod_thrown 1 = .ok (.getfield 32, 3) := by decide +kernel
theorem d_Mod_thrown_4 : decode b_Mod_thrown 4 = .ok (.ireturn, 1) := by decide +kernel
theorem d_Mod_set_0 : decode b_Mod_set 0 = .ok (.aload_n 0, 1) := by decide +kernel
theorem d_Mod_set_1 : decode b_Mod_set 1 = .ok (.aload_n 0, 1) := by decide +kernel
theorem d_Mod_set_2 : decode b_Mod_set 2 = .ok (.iload_n 1, 1) := by decide +kernel
theorem d_Mod_set_3 : decode b_Mod_set 3 = .ok (.iconst 0, 1) := by decide +kernel
theorem d_Mod_set_4 : decode b_Mod_set 4 = .ok (.iconst 0, 1) := by decide +kernel
theorem d_Mod_set_5 : decode b_Mod_set 5 = .ok (.iload_n 2, 1) := by decide +kernel
theorem d_Mod_set_6 : decode b_Mod_set 6 = .ok (.invokevirtual 85, 3) := by decide +kernel
theorem d_Mod_set_9 : decode b_Mod_set 9 = .ok (.putfield 32, 3) := by decide +kernel
theorem d_Mod_set_12 : decode b_Mod_set 12 = .ok (.aload_n 0, 1) := by decide +kernel
theorem d_Mod_set_13 : decode b_Mod_set 13 = .ok (.getfield 32, 3) := by decide +kernel
theorem d_Mod_set_16 : decode b_Mod_set 16 = .ok (.ifCond .ne 19, 3) := by decide +kernel
theorem d_Mod_set_19 : decode b_Mod_set 19 = .ok (.aload_n 0, 1) := by decide +kernel
theorem d_Mod_set_20 : decode b_Mod_set 20 = .ok (.iload_n 1, 1) := by decide +kernel
theorem d_Mod_set_21 : decode b_Mod_set 21 = .ok (.iload_n 2, 1) := by decide +kernel
theorem d_Mod_set_22 : decode b_Mod_set 22 = .ok (.lload_n 3, 1) := by decide +kernel
theorem d_Mod_set_23 : decode b_Mod_set 23 = .ok (.lload 5, 2) := by decide +kernel
theorem d_Mod_set_25 : decode b_Mod_set 25 = .ok (.invokevirtual 89, 3) := by decide +kernel
theorem d_Mod_set_28 : decode b_Mod_set 28 = .ok (.ifCond .eq 7, 3) := by decide +kernel
theorem d_Mod_set_31 : decode b_Mod_set 31 = .ok (.iconst 1, 1) := by decide +kernel
theorem d_Mod_set_32 : decode b_Mod_set 32 = .ok (.goto 4, 3) := by decide +kernel
theorem d_Mod_set_35 : decode b_Mod_set 35 = .ok (.iconst 0, 1) := by decide +kernel
theorem d_Mod_set_36 : decode b_Mod_set 36 = .ok (.ireturn, 1) := by decide +kernel
theorem d_Mod_wrong_0 : decode b_Mod_wrong 0 = .ok (.iload_n 1, 1) := by decide +kernel
theorem d_Mod_wrong_1 : decode b_Mod_wrong 1 = .ok (.invokestatic 78, 3) := by decide +kernel
theorem d_Mod_wrong_4 : decode b_Mod_wrong 4 = .ok (.ifCond .eq 17, 3) := by decide +kernel
theorem d_Mod_wrong_7 : decode b_Mod_wrong 7 = .ok (.iload_n 2, 1) := by decide +kernel
theorem d_Mod_wrong_8 : decode b_Mod_wrong 8 = .ok (.invokestatic 78, 3) := by decide +kernel
theorem d_Mod_wrong_11 : decode b_Mod_wrong 11 = .ok (.ifCond .eq 10, 3) := by decide +kernel
theorem d_Mod_wrong_14 : decode b_Mod_wrong 14 = .ok (.iload_n 3, 1) := by decide +kernel
theorem d_Mod_wrong_15 : decode b_Mod_wrong 15 = .ok (.invokestatic 78, 3) := by decide +kernel
theorem d_Mod_wrong_18 : decode b_Mod_wrong 18 = .ok (.ifCond .ne 7, 3) := by decide +kernel
theorem d_Mod_wrong_21 : decode b_Mod_wrong 21 = .ok (.iconst 1, 1) := by decide +kernel
theorem d_Mod_wrong_22 : decode b_Mod_wrong 22 = .ok (.goto 16, 3) := by decide +kernel
theorem d_Mod_wrong_25 : decode b_Mod_wrong 25 = .ok (.iload 4, 2) := by decide +kernel
theorem d_Mod_wrong_27 : decode b_Mod_wrong 27 = .ok (.invokestatic 82, 3) := by decide +kernel
theorem d_Mod_wrong_30 : decode b_Mod_wrong 30 = .ok (.ifCond .ne 7, 3) := by decide +kernel
theorem d_Mod_wrong_33 : decode b_Mod_wrong 33 = .ok (.iconst 2, 1) := by decide +kernel
theorem d_Mod_wrong_34 : decode b_Mod_wrong 34 = .ok (.goto 4, 3) := by decide +kernel
theorem d_Mod_wrong_37 : decode b_Mod_wrong 37 = .ok (.iconst 0, 1) := by decide +kernel
theorem d_Mod_wrong_38 : decode b_Mod_wrong 38 = .ok (.ireturn, 1) := by decide +kernel
theorem d_Mod_isBag_0 : decode b_Mod_isBag 0 = .ok (.iload_n 0, 1) := by decide +kernel
theorem d_Mod_isBag_1 : decode b_Mod_isBag 1 = .ok (.ifCond .lt 13, 3) := by decide +kernel
theorem d_Mod_isBag_4 : decode b_Mod_isBag 4 = .ok (.iload_n 0, 1) := by decide +kernel
theorem d_Mod_isBag_5 : decode b_Mod_isBag 5 = .ok (.bipush 8, 2) := by decide +kernel
theorem d_Mod_isBag_7 : decode b_Mod_isBag 7 = .ok (.if_icmp .ge 7, 3) := by decide +kernel
theorem d_Mod_isBag_10 : decode b_Mod_isBag 10 = .ok (.iconst 1, 1) := by decide +kernel
theorem d_Mod_isBag_11 : decode b_Mod_isBag 11 = .ok (.goto 4, 3) := by decide +kernel
theorem d_Mod_isBag_14 : decode b_Mod_isBag 14 = .ok (.iconst 0, 1) := by decide +kernel
theorem d_Mod_isBag_15 : decode b_Mod_isBag 15 = .ok (.ireturn, 1) := by decide +kernel
theorem d_Mod_isPolicy_0 : decode b_Mod_isPolicy 0 = .ok (.iload_n 0, 1) := by decide +kernel
theorem d_Mod_isPolicy_1 : decode b_Mod_isPolicy 1 = .ok (.ifCond .lt 13, 3) := by decide +kernel
theorem d_Mod_isPolicy_4 : decode b_Mod_isPolicy 4 = .ok (.iload_n 0, 1) := by decide +kernel
theorem d_Mod_isPolicy_5 : decode b_Mod_isPolicy 5 = .ok (.ldc 36, 2) := by decide +kernel
theorem d_Mod_isPolicy_7 : decode b_Mod_isPolicy 7 = .ok (.if_icmp .ge 7, 3) := by decide +kernel
theorem d_Mod_isPolicy_10 : decode b_Mod_isPolicy 10 = .ok (.iconst 1, 1) := by decide +kernel
theorem d_Mod_isPolicy_11 : decode b_Mod_isPolicy 11 = .ok (.goto 4, 3) := by decide +kernel
theorem d_Mod_isPolicy_14 : decode b_Mod_isPolicy 14 = .ok (.iconst 0, 1) := by decide +kernel
theorem d_Mod_isPolicy_15 : decode b_Mod_isPolicy 15 = .ok (.ireturn, 1) := by decide +kernel
theorem d_Mod_store_0 : decode b_Mod_store 0 = .ok (.aload_n 0, 1) := by decide +kernel
theorem d_Mod_store_1 : decode b_Mod_store 1 = .ok (.iload_n 1, 1) := by decide +kernel
theorem d_Mod_store_2 : decode b_Mod_store 2 = .ok (.iload_n 2, 1) := by decide +kernel
theorem d_Mod_store_3 : decode b_Mod_store 3 = .ok (.lload_n 3, 1) := by decide +kernel
theorem d_Mod_store_4 : decode b_Mod_store 4 = .ok (.invokevirtual 37, 3) := by decide +kernel
theorem d_Mod_store_7 : decode b_Mod_store 7 = .ok (.istore 7, 2) := by decide +kernel
theorem d_Mod_store_9 : decode b_Mod_store 9 = .ok (.iload 7, 2) := by decide +kernel
theorem d_Mod_store_11 : decode b_Mod_store 11 = .ok (.ifCond .ge 12, 3) := by decide +kernel
theorem d_Mod_store_14 : decode b_Mod_store 14 = .ok (.lload 5, 2) := by decide +kernel
theorem d_Mod_store_16 : decode b_Mod_store 16 = .ok (.lconst 0, 1) := by decide +kernel
theorem d_Mod_store_17 : decode b_Mod_store 17 = .ok (.lcmp, 1) := by decide +kernel
theorem d_Mod_store_18 : decode b_Mod_store 18 = .ok (.ifCond .ne 5, 3) := by decide +kernel
theorem d_Mod_store_21 : decode b_Mod_store 21 = .ok (.iconst 1, 1) := by decide +kernel
theorem d_Mod_store_22 : decode b_Mod_store 22 = .ok (.ireturn, 1) := by decide +kernel
theorem d_Mod_store_23 : decode b_Mod_store 23 = .ok (.iload 7, 2) := by decide +kernel
theorem d_Mod_store_25 : decode b_Mod_store 25 = .ok (.ifCond .ge 34, 3) := by decide +kernel
theorem d_Mod_store_28 : decode b_Mod_store 28 = .ok (.aload_n 0, 1) := by decide +kernel
theorem d_Mod_store_29 : decode b_Mod_store 29 = .ok (.getfield 7, 3) := by decide +kernel
theorem d_Mod_store_32 : decode b_Mod_store 32 = .ok (.iload_n 1, 1) := by decide +kernel
theorem d_Mod_store_33 : decode b_Mod_store 33 = .ok (.iaload, 1) := by decide +kernel
theorem d_Mod_store_34 : decode b_Mod_store 34 = .ok (.bipush 64, 2) := by decide +kernel
theorem d_Mod_store_36 : decode b_Mod_store 36 = .ok (.if_icmp .ne 5, 3) := by decide +kernel
theorem d_Mod_store_39 : decode b_Mod_store 39 = .ok (.iconst 0, 1) := by decide +kernel
theorem d_Mod_store_40 : decode b_Mod_store 40 = .ok (.ireturn, 1) := by decide +kernel
theorem d_Mod_store_41 : decode b_Mod_store 41 = .ok (.aload_n 0, 1) := by decide +kernel
theorem d_Mod_store_42 : decode b_Mod_store 42 = .ok (.getfield 7, 3) := by decide +kernel
theorem d_Mod_store_45 : decode b_Mod_store 45 = .ok (.iload_n 1, 1) := by decide +kernel
theorem d_Mod_store_46 : decode b_Mod_store 46 = .ok (.iaload, 1) := by decide +kernel
theorem d_Mod_store_47 : decode b_Mod_store 47 = .ok (.istore 7, 2) := by decide +kernel
theorem d_Mod_store_49 : decode b_Mod_store 49 = .ok (.aload_n 0, 1) := by decide +kernel
theorem d_Mod_store_50 : decode b_Mod_store 50 = .ok (.getfield 7, 3) := by decide +kernel
theorem d_Mod_store_53 : decode b_Mod_store 53 = .ok (.iload_n 1, 1) := by decide +kernel
theorem d_Mod_store_54 : decode b_Mod_store 54 = .ok (.dup2, 1) := by decide +kernel
theorem d_Mod_store_55 : decode b_Mod_store 55 = .ok (.iaload, 1) := by decide +kernel
theorem d_Mod_store_56 : decode b_Mod_store 56 = .ok (.iconst 1, 1) := by decide +kernel
theorem d_Mod_store_57 : decode b_Mod_store 57 = .ok (.iadd, 1) := by decide +kernel
theorem d_Mod_store_58 : decode b_Mod_store 58 = .ok (.iastore, 1) := by decide +kernel
theorem d_Mod_store_59 : decode b_Mod_store 59 = .ok (.bipush 64, 2) := by decide +kernel
theorem d_Mod_store_61 : decode b_Mod_store 61 = .ok (.iload_n 1, 1) := by decide +kernel
theorem d_Mod_store_62 : decode b_Mod_store 62 = .ok (.imul, 1) := by decide +kernel
theorem d_Mod_store_63 : decode b_Mod_store 63 = .ok (.iload 7, 2) := by decide +kernel
theorem d_Mod_store_65 : decode b_Mod_store 65 = .ok (.iadd, 1) := by decide +kernel
theorem d_Mod_store_66 : decode b_Mod_store 66 = .ok (.istore 8, 2) := by decide +kernel
theorem d_Mod_store_68 : decode b_Mod_store 68 = .ok (.aload_n 0, 1) := by decide +kernel
theorem d_Mod_store_69 : decode b_Mod_store 69 = .ok (.getfield 13, 3) := by decide +kernel
theorem d_Mod_store_72 : decode b_Mod_store 72 = .ok (.iload 8, 2) := by decide +kernel
theorem d_Mod_store_74 : decode b_Mod_store 74 = .ok (.iload_n 2, 1) := by decide +kernel
theorem d_Mod_store_75 : decode b_Mod_store 75 = .ok (.iastore, 1) := by decide +kernel
theorem d_Mod_store_76 : decode b_Mod_store 76 = .ok (.aload_n 0, 1) := by decide +kernel
theorem d_Mod_store_77 : decode b_Mod_store 77 = .ok (.getfield 16, 3) := by decide +kernel
theorem d_Mod_store_80 : decode b_Mod_store 80 = .ok (.iload 8, 2) := by decide +kernel
theorem d_Mod_store_82 : decode b_Mod_store 82 = .ok (.lload_n 3, 1) := by decide +kernel
theorem d_Mod_store_83 : decode b_Mod_store 83 = .ok (.lastore, 1) := by decide +kernel
theorem d_Mod_store_84 : decode b_Mod_store 84 = .ok (.aload_n 0, 1) := by decide +kernel
theorem d_Mod_store_85 : decode b_Mod_store 85 = .ok (.getfield 20, 3) := by decide +kernel
theorem d_Mod_store_88 : decode b_Mod_store 88 = .ok (.iload 8, 2) := by decide +kernel
theorem d_Mod_store_90 : decode b_Mod_store 90 = .ok (.lload 5, 2) := by decide +kernel
theorem d_Mod_store_92 : decode b_Mod_store 92 = .ok (.lastore, 1) := by decide +kernel
theorem d_Mod_store_93 : decode b_Mod_store 93 = .ok (.lload 5, 2) := by decide +kernel
theorem d_Mod_store_95 : decode b_Mod_store 95 = .ok (.lconst 0, 1) := by decide +kernel
theorem d_Mod_store_96 : decode b_Mod_store 96 = .ok (.lcmp, 1) := by decide +kernel
theorem d_Mod_store_97 : decode b_Mod_store 97 = .ok (.ifCond .ne 68, 3) := by decide +kernel
theorem d_Mod_store_100 : decode b_Mod_store 100 = .ok (.aload_n 0, 1) := by decide +kernel
theorem d_Mod_store_101 : decode b_Mod_store 101 = .ok (.getfield 7, 3) := by decide +kernel
theorem d_Mod_store_104 : decode b_Mod_store 104 = .ok (.iload_n 1, 1) := by decide +kernel
theorem d_Mod_store_105 : decode b_Mod_store 105 = .ok (.dup2, 1) := by decide +kernel
theorem d_Mod_store_106 : decode b_Mod_store 106 = .ok (.iaload, 1) := by decide +kernel
theorem d_Mod_store_107 : decode b_Mod_store 107 = .ok (.iconst 1, 1) := by decide +kernel
theorem d_Mod_store_108 : decode b_Mod_store 108 = .ok (.isub, 1) := by decide +kernel
theorem d_Mod_store_109 : decode b_Mod_store 109 = .ok (.iastore, 1) := by decide +kernel
theorem d_Mod_store_110 : decode b_Mod_store 110 = .ok (.bipush 64, 2) := by decide +kernel
theorem d_Mod_store_112 : decode b_Mod_store 112 = .ok (.iload_n 1, 1) := by decide +kernel
theorem d_Mod_store_113 : decode b_Mod_store 113 = .ok (.imul, 1) := by decide +kernel
theorem d_Mod_store_114 : decode b_Mod_store 114 = .ok (.aload_n 0, 1) := by decide +kernel
theorem d_Mod_store_115 : decode b_Mod_store 115 = .ok (.getfield 7, 3) := by decide +kernel
theorem d_Mod_store_118 : decode b_Mod_store 118 = .ok (.iload_n 1, 1) := by decide +kernel
theorem d_Mod_store_119 : decode b_Mod_store 119 = .ok (.iaload, 1) := by decide +kernel
theorem d_Mod_store_120 : decode b_Mod_store 120 = .ok (.iadd, 1) := by decide +kernel
theorem d_Mod_store_121 : decode b_Mod_store 121 = .ok (.istore 9, 2) := by decide +kernel
theorem d_Mod_store_123 : decode b_Mod_store 123 = .ok (.aload_n 0, 1) := by decide +kernel
theorem d_Mod_store_124 : decode b_Mod_store 124 = .ok (.getfield 13, 3) := by decide +kernel
theorem d_Mod_store_127 : decode b_Mod_store 127 = .ok (.iload 8, 2) := by decide +kernel
theorem d_Mod_store_129 : decode b_Mod_store 129 = .ok (.aload_n 0, 1) := by decide +kernel
theorem d_Mod_store_130 : decode b_Mod_store 130 = .ok (.getfield 13, 3) := by decide +kernel
theorem d_Mod_store_133 : decode b_Mod_store 133 = .ok (.iload 9, 2) := by decide +kernel
theorem d_Mod_store_135 : decode b_Mod_store 135 = .ok (.iaload, 1) := by decide +kernel
theorem d_Mod_store_136 : decode b_Mod_store 136 = .ok (.iastore, 1) := by decide +kernel
theorem d_Mod_store_137 : decode b_Mod_store 137 = .ok (.aload_n 0, 1) := by decide +kernel
theorem d_Mod_store_138 : decode b_Mod_store 138 = .ok (.getfield 16, 3) := by decide +kernel
theorem d_Mod_store_141 : decode b_Mod_store 141 = .ok (.iload 8, 2) := by decide +kernel
theorem d_Mod_store_143 : decode b_Mod_store 143 = .ok (.aload_n 0, 1) := by decide +kernel
theorem d_Mod_store_144 : decode b_Mod_store 144 = .ok (.getfield 16, 3) := by decide +kernel
theorem d_Mod_store_147 : decode b_Mod_store 147 = .ok (.iload 9, 2) := by decide +kernel
theorem d_Mod_store_149 : decode b_Mod_store 149 = .ok (.laload, 1) := by decide +kernel
theorem d_Mod_store_150 : decode b_Mod_store 150 = .ok (.lastore, 1) := by decide +kernel
theorem d_Mod_store_151 : decode b_Mod_store 151 = .ok (.aload_n 0, 1) := by decide +kernel
theorem d_Mod_store_152 : decode b_Mod_store 152 = .ok (.getfield 20, 3) := by decide +kernel
theorem d_Mod_store_155 : decode b_Mod_store 155 = .ok (.iload 8, 2) := by decide +kernel
theorem d_Mod_store_157 : decode b_Mod_store 157 = .ok (.aload_n 0, 1) := by decide +kernel
theorem d_Mod_store_158 : decode b_Mod_store 158 = .ok (.getfield 20, 3) := by decide +kernel
theorem d_Mod_store_161 : decode b_Mod_store 161 = .ok (.iload 9, 2) := by decide +kernel
theorem d_Mod_store_163 : decode b_Mod_store 163 = .ok (.laload, 1) := by decide +kernel
theorem d_Mod_store_164 : decode b_Mod_store 164 = .ok (.lastore, 1) := by decide +kernel
theorem d_Mod_store_165 : decode b_Mod_store 165 = .ok (.iconst 1, 1) := by decide +kernel
theorem d_Mod_store_166 : decode b_Mod_store 166 = .ok (.ireturn, 1) := by decide +kernel
theorem d_Mod_find_0 : decode b_Mod_find 0 = .ok (.iconst 0, 1) := by decide +kernel
theorem d_Mod_find_1 : decode b_Mod_find 1 = .ok (.istore 5, 2) := by decide +kernel
theorem d_Mod_find_3 : decode b_Mod_find 3 = .ok (.iload 5, 2) := by decide +kernel
theorem d_Mod_find_5 : decode b_Mod_find 5 = .ok (.aload_n 0, 1) := by decide +kernel
theorem d_Mod_find_6 : decode b_Mod_find 6 = .ok (.getfield 7, 3) := by decide +kernel
theorem d_Mod_find_9 : decode b_Mod_find 9 = .ok (.iload_n 1, 1) := by decide +kernel
theorem d_Mod_find_10 : decode b_Mod_find 10 = .ok (.iaload, 1) := by decide +kernel
theorem d_Mod_find_11 : decode b_Mod_find 11 = .ok (.if_icmp .ge 45, 3) := by decide +kernel
theorem d_Mod_find_14 : decode b_Mod_find 14 = .ok (.aload_n 0, 1) := by decide +kernel
theorem d_Mod_find_15 : decode b_Mod_find 15 = .ok (.getfield 13, 3) := by decide +kernel
theorem d_Mod_find_18 : decode b_Mod_find 18 = .ok (.bipush 64, 2) := by decide +kernel
theorem d_Mod_find_20 : decode b_Mod_find 20 = .ok (.iload_n 1, 1) := by decide +kernel
theorem d_Mod_find_21 : decode b_Mod_find 21 = .ok (.imul, 1) := by decide +kernel
theorem d_Mod_find_22 : decode b_Mod_find 22 = .ok (.iload 5, 2) := by decide +kernel
theorem d_Mod_find_24 : decode b_Mod_find 24 = .ok (.iadd, 1) := by decide +kernel
theorem d_Mod_find_25 : decode b_Mod_find 25 = .ok (.iaload, 1) := by decide +kernel
theorem d_Mod_find_26 : decode b_Mod_find 26 = .ok (.iload_n 2, 1) := by decide +kernel
theorem d_Mod_find_27 : decode b_Mod_find 27 = .ok (.if_icmp .ne 23, 3) := by decide +kernel
theorem d_Mod_find_30 : decode b_Mod_find 30 = .ok (.aload_n 0, 1) := by decide +kernel
theorem d_Mod_find_31 : decode b_Mod_find 31 = .ok (.getfield 16, 3) := by decide +kernel
theorem d_Mod_find_34 : decode b_Mod_find 34 = .ok (.bipush 64, 2) := by decide +kernel
theorem d_Mod_find_36 : decode b_Mod_find 36 = .ok (.iload_n 1, 1) := by decide +kernel
theorem d_Mod_find_37 : decode b_Mod_find 37 = .ok (.imul, 1) := by decide +kernel
theorem d_Mod_find_38 : decode b_Mod_find 38 = .ok (.iload 5, 2) := by decide +kernel
theorem d_Mod_find_40 : decode b_Mod_find 40 = .ok (.iadd, 1) := by decide +kernel
theorem d_Mod_find_41 : decode b_Mod_find 41 = .ok (.laload, 1) := by decide +kernel
theorem d_Mod_find_42 : decode b_Mod_find 42 = .ok (.lload_n 3, 1) := by decide +kernel
theorem d_Mod_find_43 : decode b_Mod_find 43 = .ok (.lcmp, 1) := by decide +kernel
theorem d_Mod_find_44 : decode b_Mod_find 44 = .ok (.ifCond .ne 6, 3) := by decide +kernel
theorem d_Mod_find_47 : decode b_Mod_find 47 = .ok (.iload 5, 2) := by decide +kernel
theorem d_Mod_find_49 : decode b_Mod_find 49 = .ok (.ireturn, 1) := by decide +kernel
theorem d_Mod_find_50 : decode b_Mod_find 50 = .ok (.iinc 5 1, 3) := by decide +kernel
theorem d_Mod_find_53 : decode b_Mod_find 53 = .ok (.goto (-50), 3) := by decide +kernel
theorem d_Mod_find_56 : decode b_Mod_find 56 = .ok (.iconst (-1), 1) := by decide +kernel
theorem d_Mod_find_57 : decode b_Mod_find 57 = .ok (.ireturn, 1) := by decide +kernel
theorem d_Mod_put_0 : decode b_Mod_put 0 = .ok (.aload_n 0, 1) := by decide +kernel
theorem d_Mod_put_1 : decode b_Mod_put 1 = .ok (.aload_n 0, 1) := by decide +kernel
theorem d_Mod_put_2 : decode b_Mod_put 2 = .ok (.iload_n 1, 1) := by decide +kernel
theorem d_Mod_put_3 : decode b_Mod_put 3 = .ok (.iconst 0, 1) := by decide +kernel
theorem d_Mod_put_4 : decode b_Mod_put 4 = .ok (.iconst 0, 1) := by decide +kernel
theorem d_Mod_put_5 : decode b_Mod_put 5 = .ok (.iload_n 2, 1) := by decide +kernel
theorem d_Mod_put_6 : decode b_Mod_put 6 = .ok (.invokevirtual 85, 3) := by decide +kernel
theorem d_Mod_put_9 : decode b_Mod_put 9 = .ok (.putfield 32, 3) := by decide +kernel
theorem d_Mod_put_12 : decode b_Mod_put 12 = .ok (.aload_n 0, 1) := by decide +kernel
theorem d_Mod_put_13 : decode b_Mod_put 13 = .ok (.getfield 32, 3) := by decide +kernel
theorem d_Mod_put_16 : decode b_Mod_put 16 = .ok (.ifCond .le 5, 3) := by decide +kernel
theorem d_Mod_put_19 : decode b_Mod_put 19 = .ok (.iconst 0, 1) := by decide +kernel
theorem d_Mod_put_20 : decode b_Mod_put 20 = .ok (.ireturn, 1) := by decide +kernel
theorem d_Mod_put_21 : decode b_Mod_put 21 = .ok (.aload_n 0, 1) := by decide +kernel
theorem d_Mod_put_22 : decode b_Mod_put 22 = .ok (.iconst 0, 1) := by decide +kernel
theorem d_Mod_put_23 : decode b_Mod_put 23 = .ok (.putfield 52, 3) := by decide +kernel
theorem d_Mod_put_26 : decode b_Mod_put 26 = .ok (.aload_n 0, 1) := by decide +kernel
theorem d_Mod_put_27 : decode b_Mod_put 27 = .ok (.aload_n 0, 1) := by decide +kernel
theorem d_Mod_put_28 : decode b_Mod_put 28 = .ok (.iload_n 1, 1) := by decide +kernel
theorem d_Mod_put_29 : decode b_Mod_put 29 = .ok (.iload_n 2, 1) := by decide +kernel
theorem d_Mod_put_30 : decode b_Mod_put 30 = .ok (.lload_n 3, 1) := by decide +kernel
theorem d_Mod_put_31 : decode b_Mod_put 31 = .ok (.invokevirtual 63, 3) := by decide +kernel
theorem d_Mod_put_34 : decode b_Mod_put 34 = .ok (.lload 5, 2) := by decide +kernel
theorem d_Mod_put_36 : decode b_Mod_put 36 = .ok (.invokevirtual 67, 3) := by decide +kernel
theorem d_Mod_put_39 : decode b_Mod_put 39 = .ok (.lstore 7, 2) := by decide +kernel
theorem d_Mod_put_41 : decode b_Mod_put 41 = .ok (.aload_n 0, 1) := by decide +kernel
theorem d_Mod_put_42 : decode b_Mod_put 42 = .ok (.getfield 52, 3) := by decide +kernel
theorem d_Mod_put_45 : decode b_Mod_put 45 = .ok (.ifCond .ne 19, 3) := by decide +kernel
theorem d_Mod_put_48 : decode b_Mod_put 48 = .ok (.aload_n 0, 1) := by decide +kernel
theorem d_Mod_put_49 : decode b_Mod_put 49 = .ok (.iload_n 1, 1) := by decide +kernel
theorem d_Mod_put_50 : decode b_Mod_put 50 = .ok (.iload_n 2, 1) := by decide +kernel
theorem d_Mod_put_51 : decode b_Mod_put 51 = .ok (.lload_n 3, 1) := by decide +kernel
theorem d_Mod_put_52 : decode b_Mod_put 52 = .ok (.lload 7, 2) := by decide +kernel
theorem d_Mod_put_54 : decode b_Mod_put 54 = .ok (.invokevirtual 89, 3) := by decide +kernel
theorem d_Mod_put_57 : decode b_Mod_put 57 = .ok (.ifCond .eq 7, 3) := by decide +kernel
theorem d_Mod_put_60 : decode b_Mod_put 60 = .ok (.iconst 1, 1) := by decide +kernel
theorem d_Mod_put_61 : decode b_Mod_put 61 = .ok (.goto 4, 3) := by decide +kernel
theorem d_Mod_put_64 : decode b_Mod_put 64 = .ok (.iconst 0, 1) := by decide +kernel
theorem d_Mod_put_65 : decode b_Mod_put 65 = .ok (.ireturn, 1) := by decide +kernel
theorem d_Mod_valueOf_0 : decode b_Mod_valueOf 0 = .ok (.aload_n 0, 1) := by decide +kernel
theorem d_Mod_valueOf_1 : decode b_Mod_valueOf 1 = .ok (.iload_n 1, 1) := by decide +kernel
theorem d_Mod_valueOf_2 : decode b_Mod_valueOf 2 = .ok (.iload_n 2, 1) := by decide +kernel
theorem d_Mod_valueOf_3 : decode b_Mod_valueOf 3 = .ok (.lload_n 3, 1) := by decide +kernel
theorem d_Mod_valueOf_4 : decode b_Mod_valueOf 4 = .ok (.invokevirtual 37, 3) := by decide +kernel
theorem d_Mod_valueOf_7 : decode b_Mod_valueOf 7 = .ok (.istore 5, 2) := by decide +kernel
theorem d_Mod_valueOf_9 : decode b_Mod_valueOf 9 = .ok (.iload 5, 2) := by decide +kernel
theorem d_Mod_valueOf_11 : decode b_Mod_valueOf 11 = .ok (.ifCond .ge 7, 3) := by decide +kernel
theorem d_Mod_valueOf_14 : decode b_Mod_valueOf 14 = .ok (.lconst 0, 1) := by decide +kernel
theorem d_Mod_valueOf_15 : decode b_Mod_valueOf 15 = .ok (.goto 15, 3) := by decide +kernel
theorem d_Mod_valueOf_18 : decode b_Mod_valueOf 18 = .ok (.aload_n 0, 1) := by decide +kernel
theorem d_Mod_valueOf_19 : decode b_Mod_valueOf 19 = .ok (.getfield 20, 3) := by decide +kernel
theorem d_Mod_valueOf_22 : decode b_Mod_valueOf 22 = .ok (.bipush 64, 2) := by decide +kernel
theorem d_Mod_valueOf_24 : decode b_Mod_valueOf 24 = .ok (.iload_n 1, 1) := by decide +kernel
theorem d_Mod_valueOf_25 : decode b_Mod_valueOf 25 = .ok (.imul, 1) := by decide +kernel
theorem d_Mod_valueOf_26 : decode b_Mod_valueOf 26 = .ok (.iload 5, 2) := by decide +kernel
theorem d_Mod_valueOf_28 : decode b_Mod_valueOf 28 = .ok (.iadd, 1) := by decide +kernel
theorem d_Mod_valueOf_29 : decode b_Mod_valueOf 29 = .ok (.laload, 1) := by decide +kernel
theorem d_Mod_valueOf_30 : decode b_Mod_valueOf 30 = .ok (.lreturn, 1) := by decide +kernel
theorem d_Mod_added_0 : decode b_Mod_added 0 = .ok (.aload_n 0, 1) := by decide +kernel
theorem d_Mod_added_1 : decode b_Mod_added 1 = .ok (.aload_n 0, 1) := by decide +kernel
theorem d_Mod_added_2 : decode b_Mod_added 2 = .ok (.getfield 52, 3) := by decide +kernel
theorem d_Mod_added_5 : decode b_Mod_added 5 = .ok (.ifCond .ne 32, 3) := by decide +kernel
theorem d_Mod_added_8 : decode b_Mod_added 8 = .ok (.lload_n 3, 1) := by decide +kernel
theorem d_Mod_added_9 : decode b_Mod_added 9 = .ok (.lconst 0, 1) := by decide +kernel
theorem d_Mod_added_10 : decode b_Mod_added 10 = .ok (.lcmp, 1) := by decide +kernel
theorem d_Mod_added_11 : decode b_Mod_added 11 = .ok (.ifCond .le 16, 3) := by decide +kernel
theorem d_Mod_added_14 : decode b_Mod_added 14 = .ok (.lload_n 1, 1) := by decide +kernel
theorem d_Mod_added_15 : decode b_Mod_added 15 = .ok (.ldc2_w 56, 3) := by decide +kernel
theorem d_Mod_added_18 : decode b_Mod_added 18 = .ok (.lload_n 3, 1) := by decide +kernel
theorem d_Mod_added_19 : decode b_Mod_added 19 = .ok (.lsub, 1) := by decide +kernel
theorem d_Mod_added_20 : decode b_Mod_added 20 = .ok (.lcmp, 1) := by decide +kernel
theorem d_Mod_added_21 : decode b_Mod_added 21 = .ok (.ifCond .le 20, 3) := by decide +kernel
theorem d_Mod_added_24 : decode b_Mod_added 24 = .ok (.goto 13, 3) := by decide +kernel
theorem d_Mod_added_27 : decode b_Mod_added 27 = .ok (.lload_n 1, 1) := by decide +kernel
theorem d_Mod_added_28 : decode b_Mod_added 28 = .ok (.ldc2_w 43, 3) := by decide +kernel
theorem d_Mod_added_31 : decode b_Mod_added 31 = .ok (.lload_n 3, 1) := by decide +kernel
theorem d_Mod_added_32 : decode b_Mod_added 32 = .ok (.lsub, 1) := by decide +kernel
theorem d_Mod_added_33 : decode b_Mod_added 33 = .ok (.lcmp, 1) := by decide +kernel
theorem d_Mod_added_34 : decode b_Mod_added 34 = .ok (.ifCond .ge 7, 3) := by decide +kernel
theorem d_Mod_added_37 : decode b_Mod_added 37 = .ok (.iconst 1, 1) := by decide +kernel
theorem d_Mod_added_38 : decode b_Mod_added 38 = .ok (.goto 4, 3) := by decide +kernel
theorem d_Mod_added_41 : decode b_Mod_added 41 = .ok (.iconst 0, 1) := by decide +kernel
theorem d_Mod_added_42 : decode b_Mod_added 42 = .ok (.putfield 52, 3) := by decide +kernel
theorem d_Mod_added_45 : decode b_Mod_added 45 = .ok (.lload_n 1, 1) := by decide +kernel
theorem d_Mod_added_46 : decode b_Mod_added 46 = .ok (.lload_n 3, 1) := by decide +kernel
theorem d_Mod_added_47 : decode b_Mod_added 47 = .ok (.ladd, 1) := by decide +kernel
theorem d_Mod_added_48 : decode b_Mod_added 48 = .ok (.lreturn, 1) := by decide +kernel
theorem d_Mod_sum_0 : decode b_Mod_sum 0 = .ok (.aload_n 0, 1) := by decide +kernel
theorem d_Mod_sum_1 : decode b_Mod_sum 1 = .ok (.aload_n 0, 1) := by decide +kernel
theorem d_Mod_sum_2 : decode b_Mod_sum 2 = .ok (.iload_n 1, 1) := by decide +kernel
theorem d_Mod_sum_3 : decode b_Mod_sum 3 = .ok (.iload_n 2, 1) := by decide +kernel
theorem d_Mod_sum_4 : decode b_Mod_sum 4 = .ok (.iload_n 3, 1) := by decide +kernel
theorem d_Mod_sum_5 : decode b_Mod_sum 5 = .ok (.iconst 0, 1) := by decide +kernel
theorem d_Mod_sum_6 : decode b_Mod_sum 6 = .ok (.invokevirtual 85, 3) := by decide +kernel
theorem d_Mod_sum_9 : decode b_Mod_sum 9 = .ok (.putfield 32, 3) := by decide +kernel
theorem d_Mod_sum_12 : decode b_Mod_sum 12 = .ok (.aload_n 0, 1) := by decide +kernel
theorem d_Mod_sum_13 : decode b_Mod_sum 13 = .ok (.getfield 32, 3) := by decide +kernel
theorem d_Mod_sum_16 : decode b_Mod_sum 16 = .ok (.ifCond .le 5, 3) := by decide +kernel
theorem d_Mod_sum_19 : decode b_Mod_sum 19 = .ok (.iconst 0, 1) := by decide +kernel
theorem d_Mod_sum_20 : decode b_Mod_sum 20 = .ok (.ireturn, 1) := by decide +kernel
theorem d_Mod_sum_21 : decode b_Mod_sum 21 = .ok (.aload_n 0, 1) := by decide +kernel
theorem d_Mod_sum_22 : decode b_Mod_sum 22 = .ok (.iload_n 1, 1) := by decide +kernel
theorem d_Mod_sum_23 : decode b_Mod_sum 23 = .ok (.iload_n 2, 1) := by decide +kernel
theorem d_Mod_sum_24 : decode b_Mod_sum 24 = .ok (.iconst 0, 1) := by decide +kernel
theorem d_Mod_sum_25 : decode b_Mod_sum 25 = .ok (.invokevirtual 93, 3) := by decide +kernel
theorem d_Mod_sum_28 : decode b_Mod_sum 28 = .ok (.aload_n 0, 1) := by decide +kernel
theorem d_Mod_sum_29 : decode b_Mod_sum 29 = .ok (.iload_n 3, 1) := by decide +kernel
theorem d_Mod_sum_30 : decode b_Mod_sum 30 = .ok (.invokevirtual 97, 3) := by decide +kernel
theorem d_Mod_sum_33 : decode b_Mod_sum 33 = .ok (.ireturn, 1) := by decide +kernel
theorem d_Mod_both_0 : decode b_Mod_both 0 = .ok (.aload_n 0, 1) := by decide +kernel
theorem d_Mod_both_1 : decode b_Mod_both 1 = .ok (.invokevirtual 60, 3) := by decide +kernel
theorem d_Mod_both_4 : decode b_Mod_both 4 = .ok (.iconst 0, 1) := by decide +kernel
theorem d_Mod_both_5 : decode b_Mod_both 5 = .ok (.istore 4, 2) := by decide +kernel
theorem d_Mod_both_7 : decode b_Mod_both 7 = .ok (.iload 4, 2) := by decide +kernel
theorem d_Mod_both_9 : decode b_Mod_both 9 = .ok (.iconst 2, 1) := by decide +kernel
theorem d_Mod_both_10 : decode b_Mod_both 10 = .ok (.if_icmp .ge 165, 3) := by decide +kernel
theorem d_Mod_both_13 : decode b_Mod_both 13 = .ok (.iload 4, 2) := by decide +kernel
theorem d_Mod_both_15 : decode b_Mod_both 15 = .ok (.ifCond .ne 7, 3) := by decide +kernel
theorem d_Mod_both_18 : decode b_Mod_both 18 = .ok (.iload_n 1, 1) := by decide +kernel
theorem d_Mod_both_19 : decode b_Mod_both 19 = .ok (.goto 4, 3) := by decide +kernel
theorem d_Mod_both_22 : decode b_Mod_both 22 = .ok (.iload_n 2, 1) := by decide +kernel
theorem d_Mod_both_23 : decode b_Mod_both 23 = .ok (.istore 5, 2) := by decide +kernel
theorem d_Mod_both_25 : decode b_Mod_both 25 = .ok (.iconst 0, 1) := by decide +kernel
theorem d_Mod_both_26 : decode b_Mod_both 26 = .ok (.istore 6, 2) := by decide +kernel
theorem d_Mod_both_28 : decode b_Mod_both 28 = .ok (.iload 6, 2) := by decide +kernel
theorem d_Mod_both_30 : decode b_Mod_both 30 = .ok (.aload_n 0, 1) := by decide +kernel
theorem d_Mod_both_31 : decode b_Mod_both 31 = .ok (.getfield 7, 3) := by decide +kernel
theorem d_Mod_both_34 : decode b_Mod_both 34 = .ok (.iload 5, 2) := by decide +kernel
theorem d_Mod_both_36 : decode b_Mod_both 36 = .ok (.iaload, 1) := by decide +kernel
theorem d_Mod_both_37 : decode b_Mod_both 37 = .ok (.if_icmp .ge 132, 3) := by decide +kernel
theorem d_Mod_both_40 : decode b_Mod_both 40 = .ok (.aload_n 0, 1) := by decide +kernel
theorem d_Mod_both_41 : decode b_Mod_both 41 = .ok (.getfield 13, 3) := by decide +kernel
theorem d_Mod_both_44 : decode b_Mod_both 44 = .ok (.bipush 64, 2) := by decide +kernel
theorem d_Mod_both_46 : decode b_Mod_both 46 = .ok (.iload 5, 2) := by decide +kernel
theorem d_Mod_both_48 : decode b_Mod_both 48 = .ok (.imul, 1) := by decide +kernel
theorem d_Mod_both_49 : decode b_Mod_both 49 = .ok (.iload 6, 2) := by decide +kernel
theorem d_Mod_both_51 : decode b_Mod_both 51 = .ok (.iadd, 1) := by decide +kernel
theorem d_Mod_both_52 : decode b_Mod_both 52 = .ok (.iaload, 1) := by decide +kernel
theorem d_Mod_both_53 : decode b_Mod_both 53 = .ok (.istore 7, 2) := by decide +kernel
theorem d_Mod_both_55 : decode b_Mod_both 55 = .ok (.aload_n 0, 1) := by decide +kernel
theorem d_Mod_both_56 : decode b_Mod_both 56 = .ok (.getfield 16, 3) := by decide +kernel
theorem d_Mod_both_59 : decode b_Mod_both 59 = .ok (.bipush 64, 2) := by decide +kernel
theorem d_Mod_both_61 : decode b_Mod_both 61 = .ok (.iload 5, 2) := by decide +kernel
theorem d_Mod_both_63 : decode b_Mod_both 63 = .ok (.imul, 1) := by decide +kernel
theorem d_Mod_both_64 : decode b_Mod_both 64 = .ok (.iload 6, 2) := by decide +kernel
theorem d_Mod_both_66 : decode b_Mod_both 66 = .ok (.iadd, 1) := by decide +kernel
theorem d_Mod_both_67 : decode b_Mod_both 67 = .ok (.laload, 1) := by decide +kernel
theorem d_Mod_both_68 : decode b_Mod_both 68 = .ok (.lstore 8, 2) := by decide +kernel
theorem d_Mod_both_70 : decode b_Mod_both 70 = .ok (.iload 4, 2) := by decide +kernel
theorem d_Mod_both_72 : decode b_Mod_both 72 = .ok (.ifCond .eq 15, 3) := by decide +kernel
theorem d_Mod_both_75 : decode b_Mod_both 75 = .ok (.aload_n 0, 1) := by decide +kernel
theorem d_Mod_both_76 : decode b_Mod_both 76 = .ok (.iload_n 1, 1) := by decide +kernel
theorem d_Mod_both_77 : decode b_Mod_both 77 = .ok (.iload 7, 2) := by decide +kernel
theorem d_Mod_both_79 : decode b_Mod_both 79 = .ok (.lload 8, 2) := by decide +kernel
theorem d_Mod_both_81 : decode b_Mod_both 81 = .ok (.invokevirtual 37, 3) := by decide +kernel
theorem d_Mod_both_84 : decode b_Mod_both 84 = .ok (.ifCond .ge 79, 3) := by decide +kernel
theorem d_Mod_both_87 : decode b_Mod_both 87 = .ok (.aload_n 0, 1) := by decide +kernel
theorem d_Mod_both_88 : decode b_Mod_both 88 = .ok (.iload_n 1, 1) := by decide +kernel
theorem d_Mod_both_89 : decode b_Mod_both 89 = .ok (.iload 7, 2) := by decide +kernel
theorem d_Mod_both_91 : decode b_Mod_both 91 = .ok (.lload 8, 2) := by decide +kernel
theorem d_Mod_both_93 : decode b_Mod_both 93 = .ok (.invokevirtual 63, 3) := by decide +kernel
theorem d_Mod_both_96 : decode b_Mod_both 96 = .ok (.lstore 10, 2) := by decide +kernel
theorem d_Mod_both_98 : decode b_Mod_both 98 = .ok (.aload_n 0, 1) := by decide +kernel
theorem d_Mod_both_99 : decode b_Mod_both 99 = .ok (.iload_n 2, 1) := by decide +kernel
theorem d_Mod_both_100 : decode b_Mod_both 100 = .ok (.iload 7, 2) := by decide +kernel
theorem d_Mod_both_102 : decode b_Mod_both 102 = .ok (.lload 8, 2) := by decide +kernel
theorem d_Mod_both_104 : decode b_Mod_both 104 = .ok (.invokevirtual 63, 3) := by decide +kernel
theorem d_Mod_both_107 : decode b_Mod_both 107 = .ok (.lstore 12, 2) := by decide +kernel
theorem d_Mod_both_109 : decode b_Mod_both 109 = .ok (.aload_n 0, 1) := by decide +kernel
theorem d_Mod_both_110 : decode b_Mod_both 110 = .ok (.iload 7, 2) := by decide +kernel
theorem d_Mod_both_112 : decode b_Mod_both 112 = .ok (.lload 8, 2) := by decide +kernel
theorem d_Mod_both_114 : decode b_Mod_both 114 = .ok (.iload_n 3, 1) := by decide +kernel
theorem d_Mod_both_115 : decode b_Mod_both 115 = .ok (.ifCond .ne 14, 3) := by decide +kernel
theorem d_Mod_both_118 : decode b_Mod_both 118 = .ok (.aload_n 0, 1) := by decide +kernel
theorem d_Mod_both_119 : decode b_Mod_both 119 = .ok (.lload 10, 2) := by decide +kernel
theorem d_Mod_both_121 : decode b_Mod_both 121 = .ok (.lload 12, 2) := by decide +kernel
theorem d_Mod_both_123 : decode b_Mod_both 123 = .ok (.invokevirtual 67, 3) := by decide +kernel
theorem d_Mod_both_126 : decode b_Mod_both 126 = .ok (.goto 34, 3) := by decide +kernel
theorem d_Mod_both_129 : decode b_Mod_both 129 = .ok (.iload_n 3, 1) := by decide +kernel
theorem d_Mod_both_130 : decode b_Mod_both 130 = .ok (.iconst 1, 1) := by decide +kernel
theorem d_Mod_both_131 : decode b_Mod_both 131 = .ok (.if_icmp .ne 14, 3) := by decide +kernel
theorem d_Mod_both_134 : decode b_Mod_both 134 = .ok (.aload_n 0, 1) := by decide +kernel
theorem d_Mod_both_135 : decode b_Mod_both 135 = .ok (.lload 10, 2) := by decide +kernel
theorem d_Mod_both_137 : decode b_Mod_both 137 = .ok (.lload 12, 2) := by decide +kernel
theorem d_Mod_both_139 : decode b_Mod_both 139 = .ok (.invokevirtual 71, 3) := by decide +kernel
theorem d_Mod_both_142 : decode b_Mod_both 142 = .ok (.goto 18, 3) := by decide +kernel
theorem d_Mod_both_145 : decode b_Mod_both 145 = .ok (.lload 10, 2) := by decide +kernel
theorem d_Mod_both_147 : decode b_Mod_both 147 = .ok (.lload 12, 2) := by decide +kernel
theorem d_Mod_both_149 : decode b_Mod_both 149 = .ok (.lcmp, 1) := by decide +kernel
theorem d_Mod_both_150 : decode b_Mod_both 150 = .ok (.ifCond .ge 8, 3) := by decide +kernel
theorem d_Mod_both_153 : decode b_Mod_both 153 = .ok (.lload 10, 2) := by decide +kernel
theorem d_Mod_both_155 : decode b_Mod_both 155 = .ok (.goto 5, 3) := by decide +kernel
theorem d_Mod_both_158 : decode b_Mod_both 158 = .ok (.lload 12, 2) := by decide +kernel
theorem d_Mod_both_160 : decode b_Mod_both 160 = .ok (.invokevirtual 74, 3) := by decide +kernel
theorem d_Mod_both_163 : decode b_Mod_both 163 = .ok (.iinc 6 1, 3) := by decide +kernel
theorem d_Mod_both_166 : decode b_Mod_both 166 = .ok (.goto (-138), 3) := by decide +kernel
theorem d_Mod_both_169 : decode b_Mod_both 169 = .ok (.iinc 4 1, 3) := by decide +kernel
theorem d_Mod_both_172 : decode b_Mod_both 172 = .ok (.goto (-165), 3) := by decide +kernel
theorem d_Mod_both_175 : decode b_Mod_both 175 = .ok (.return_, 1) := by decide +kernel
theorem d_Mod_begin_0 : decode b_Mod_begin 0 = .ok (.aload_n 0, 1) := by decide +kernel
theorem d_Mod_begin_1 : decode b_Mod_begin 1 = .ok (.iconst 0, 1) := by decide +kernel
theorem d_Mod_begin_2 : decode b_Mod_begin 2 = .ok (.putfield 49, 3) := by decide +kernel
theorem d_Mod_begin_5 : decode b_Mod_begin 5 = .ok (.aload_n 0, 1) := by decide +kernel
theorem d_Mod_begin_6 : decode b_Mod_begin 6 = .ok (.iconst 0, 1) := by decide +kernel
theorem d_Mod_begin_7 : decode b_Mod_begin 7 = .ok (.putfield 52, 3) := by decide +kernel
theorem d_Mod_begin_10 : decode b_Mod_begin 10 = .ok (.return_, 1) := by decide +kernel
theorem d_Mod_subtracted_0 : decode b_Mod_subtracted 0 = .ok (.aload_n 0, 1) := by decide +kernel
theorem d_Mod_subtracted_1 : decode b_Mod_subtracted 1 = .ok (.aload_n 0, 1) := by decide +kernel
theorem d_Mod_subtracted_2 : decode b_Mod_subtracted 2 = .ok (.getfield 52, 3) := by decide +kernel
theorem d_Mod_subtracted_5 : decode b_Mod_subtracted 5 = .ok (.ifCond .ne 32, 3) := by decide +kernel
theorem d_Mod_subtracted_8 : decode b_Mod_subtracted 8 = .ok (.lload_n 3, 1) := by decide +kernel
theorem d_Mod_subtracted_9 : decode b_Mod_subtracted 9 = .ok (.lconst 0, 1) := by decide +kernel
theorem d_Mod_subtracted_10 : decode b_Mod_subtracted 10 = .ok (.lcmp, 1) := by decide +kernel
theorem d_Mod_subtracted_11 : decode b_Mod_subtracted 11 = .ok (.ifCond .ge 16, 3) := by decide +kernel
theorem d_Mod_subtracted_14 : decode b_Mod_subtracted 14 = .ok (.lload_n 1, 1) := by decide +kernel
theorem d_Mod_subtracted_15 : decode b_Mod_subtracted 15 = .ok (.ldc2_w 56, 3) := by decide +kernel
theorem d_Mod_subtracted_18 : decode b_Mod_subtracted 18 = .ok (.lload_n 3, 1) := by decide +kernel
theorem d_Mod_subtracted_19 : decode b_Mod_subtracted 19 = .ok (.ladd, 1) := by decide +kernel
theorem d_Mod_subtracted_20 : decode b_Mod_subtracted 20 = .ok (.lcmp, 1) := by decide +kernel
theorem d_Mod_subtracted_21 : decode b_Mod_subtracted 21 = .ok (.ifCond .le 20, 3) := by decide +kernel
theorem d_Mod_subtracted_24 : decode b_Mod_subtracted 24 = .ok (.goto 13, 3) := by decide +kernel
theorem d_Mod_subtracted_27 : decode b_Mod_subtracted 27 = .ok (.lload_n 1, 1) := by decide +kernel
theorem d_Mod_subtracted_28 : decode b_Mod_subtracted 28 = .ok (.ldc2_w 43, 3) := by decide +kernel
theorem d_Mod_subtracted_31 : decode b_Mod_subtracted 31 = .ok (.lload_n 3, 1) := by decide +kernel
theorem d_Mod_subtracted_32 : decode b_Mod_subtracted 32 = .ok (.ladd, 1) := by decide +kernel
theorem d_Mod_subtracted_33 : decode b_Mod_subtracted 33 = .ok (.lcmp, 1) := by decide +kernel
theorem d_Mod_subtracted_34 : decode b_Mod_subtracted 34 = .ok (.ifCond .ge 7, 3) := by decide +kernel
theorem d_Mod_subtracted_37 : decode b_Mod_subtracted 37 = .ok (.iconst 1, 1) := by decide +kernel
theorem d_Mod_subtracted_38 : decode b_Mod_subtracted 38 = .ok (.goto 4, 3) := by decide +kernel
theorem d_Mod_subtracted_41 : decode b_Mod_subtracted 41 = .ok (.iconst 0, 1) := by decide +kernel
theorem d_Mod_subtracted_42 : decode b_Mod_subtracted 42 = .ok (.putfield 52, 3) := by decide +kernel
theorem d_Mod_subtracted_45 : decode b_Mod_subtracted 45 = .ok (.lload_n 1, 1) := by decide +kernel
theorem d_Mod_subtracted_46 : decode b_Mod_subtracted 46 = .ok (.lload_n 3, 1) := by decide +kernel
theorem d_Mod_subtracted_47 : decode b_Mod_subtracted 47 = .ok (.lsub, 1) := by decide +kernel
theorem d_Mod_subtracted_48 : decode b_Mod_subtracted 48 = .ok (.lreturn, 1) := by decide +kernel
theorem d_Mod_lay_0 : decode b_Mod_lay 0 = .ok (.lload 4, 2) := by decide +kernel
theorem d_Mod_lay_2 : decode b_Mod_lay 2 = .ok (.lconst 0, 1) := by decide +kernel
theorem d_Mod_lay_3 : decode b_Mod_lay 3 = .ok (.lcmp, 1) := by decide +kernel
theorem d_Mod_lay_4 : decode b_Mod_lay 4 = .ok (.ifCond .eq 44, 3) := by decide +kernel
theorem d_Mod_lay_7 : decode b_Mod_lay 7 = .ok (.aload_n 0, 1) := by decide +kernel
theorem d_Mod_lay_8 : decode b_Mod_lay 8 = .ok (.getfield 23, 3) := by decide +kernel
theorem d_Mod_lay_11 : decode b_Mod_lay 11 = .ok (.aload_n 0, 1) := by decide +kernel
theorem d_Mod_lay_12 : decode b_Mod_lay 12 = .ok (.getfield 49, 3) := by decide +kernel
theorem d_Mod_lay_15 : decode b_Mod_lay 15 = .ok (.iload_n 1, 1) := by decide +kernel
theorem d_Mod_lay_16 : decode b_Mod_lay 16 = .ok (.iastore, 1) := by decide +kernel
theorem d_Mod_lay_17 : decode b_Mod_lay 17 = .ok (.aload_n 0, 1) := by decide +kernel
theorem d_Mod_lay_18 : decode b_Mod_lay 18 = .ok (.getfield 26, 3) := by decide +kernel
theorem d_Mod_lay_21 : decode b_Mod_lay 21 = .ok (.aload_n 0, 1) := by decide +kernel
theorem d_Mod_lay_22 : decode b_Mod_lay 22 = .ok (.getfield 49, 3) := by decide +kernel
theorem d_Mod_lay_25 : decode b_Mod_lay 25 = .ok (.lload_n 2, 1) := by decide +kernel
theorem d_Mod_lay_26 : decode b_Mod_lay 26 = .ok (.lastore, 1) := by decide +kernel
theorem d_Mod_lay_27 : decode b_Mod_lay 27 = .ok (.aload_n 0, 1) := by decide +kernel
theorem d_Mod_lay_28 : decode b_Mod_lay 28 = .ok (.getfield 29, 3) := by decide +kernel
theorem d_Mod_lay_31 : decode b_Mod_lay 31 = .ok (.aload_n 0, 1) := by decide +kernel
theorem d_Mod_lay_32 : decode b_Mod_lay 32 = .ok (.getfield 49, 3) := by decide +kernel
theorem d_Mod_lay_35 : decode b_Mod_lay 35 = .ok (.lload 4, 2) := by decide +kernel
theorem d_Mod_lay_37 : decode b_Mod_lay 37 = .ok (.lastore, 1) := by decide +kernel
theorem d_Mod_lay_38 : decode b_Mod_lay 38 = .ok (.aload_n 0, 1) := by decide +kernel
theorem d_Mod_lay_39 : decode b_Mod_lay 39 = .ok (.dup, 1) := by decide +kernel
theorem d_Mod_lay_40 : decode b_Mod_lay 40 = .ok (.getfield 49, 3) := by decide +kernel
theorem d_Mod_lay_43 : decode b_Mod_lay 43 = .ok (.iconst 1, 1) := by decide +kernel
theorem d_Mod_lay_44 : decode b_Mod_lay 44 = .ok (.iadd, 1) := by decide +kernel
theorem d_Mod_lay_45 : decode b_Mod_lay 45 = .ok (.putfield 49, 3) := by decide +kernel
theorem d_Mod_lay_48 : decode b_Mod_lay 48 = .ok (.return_, 1) := by decide +kernel
theorem d_Mod_becomes_0 : decode b_Mod_becomes 0 = .ok (.aload_n 0, 1) := by decide +kernel
theorem d_Mod_becomes_1 : decode b_Mod_becomes 1 = .ok (.getfield 52, 3) := by decide +kernel
theorem d_Mod_becomes_4 : decode b_Mod_becomes 4 = .ok (.ifCond .ne 12, 3) := by decide +kernel
theorem d_Mod_becomes_7 : decode b_Mod_becomes 7 = .ok (.aload_n 0, 1) := by decide +kernel
theorem d_Mod_becomes_8 : decode b_Mod_becomes 8 = .ok (.getfield 49, 3) := by decide +kernel
theorem d_Mod_becomes_11 : decode b_Mod_becomes 11 = .ok (.bipush 64, 2) := by decide +kernel
theorem d_Mod_becomes_13 : decode b_Mod_becomes 13 = .ok (.if_icmp .le 5, 3) := by decide +kernel
theorem d_Mod_becomes_16 : decode b_Mod_becomes 16 = .ok (.iconst 0, 1) := by decide +kernel
theorem d_Mod_becomes_17 : decode b_Mod_becomes 17 = .ok (.ireturn, 1) := by decide +kernel
theorem d_Mod_becomes_18 : decode b_Mod_becomes 18 = .ok (.aload_n 0, 1) := by decide +kernel
theorem d_Mod_becomes_19 : decode b_Mod_becomes 19 = .ok (.getfield 7, 3) := by decide +kernel
theorem d_Mod_becomes_22 : decode b_Mod_becomes 22 = .ok (.iload_n 1, 1) := by decide +kernel
theorem d_Mod_becomes_23 : decode b_Mod_becomes 23 = .ok (.aload_n 0, 1) := by decide +kernel
theorem d_Mod_becomes_24 : decode b_Mod_becomes 24 = .ok (.getfield 49, 3) := by decide +kernel
theorem d_Mod_becomes_27 : decode b_Mod_becomes 27 = .ok (.iastore, 1) := by decide +kernel
theorem d_Mod_becomes_28 : decode b_Mod_becomes 28 = .ok (.iconst 0, 1) := by decide +kernel
theorem d_Mod_becomes_29 : decode b_Mod_becomes 29 = .ok (.istore_n 2, 1) := by decide +kernel
theorem d_Mod_becomes_30 : decode b_Mod_becomes 30 = .ok (.iload_n 2, 1) := by decide +kernel
theorem d_Mod_becomes_31 : decode b_Mod_becomes 31 = .ok (.aload_n 0, 1) := by decide +kernel
theorem d_Mod_becomes_32 : decode b_Mod_becomes 32 = .ok (.getfield 49, 3) := by decide +kernel
theorem d_Mod_becomes_35 : decode b_Mod_becomes 35 = .ok (.if_icmp .ge 60, 3) := by decide +kernel
theorem d_Mod_becomes_38 : decode b_Mod_becomes 38 = .ok (.aload_n 0, 1) := by decide +kernel
theorem d_Mod_becomes_39 : decode b_Mod_becomes 39 = .ok (.getfield 13, 3) := by decide +kernel
theorem d_Mod_becomes_42 : decode b_Mod_becomes 42 = .ok (.bipush 64, 2) := by decide +kernel
theorem d_Mod_becomes_44 : decode b_Mod_becomes 44 = .ok (.iload_n 1, 1) := by decide +kernel
theorem d_Mod_becomes_45 : decode b_Mod_becomes 45 = .ok (.imul, 1) := by decide +kernel
theorem d_Mod_becomes_46 : decode b_Mod_becomes 46 = .ok (.iload_n 2, 1) := by decide +kernel
theorem d_Mod_becomes_47 : decode b_Mod_becomes 47 = .ok (.iadd, 1) := by decide +kernel
theorem d_Mod_becomes_48 : decode b_Mod_becomes 48 = .ok (.aload_n 0, 1) := by decide +kernel
theorem d_Mod_becomes_49 : decode b_Mod_becomes 49 = .ok (.getfield 23, 3) := by decide +kernel
theorem d_Mod_becomes_52 : decode b_Mod_becomes 52 = .ok (.iload_n 2, 1) := by decide +kernel
theorem d_Mod_becomes_53 : decode b_Mod_becomes 53 = .ok (.iaload, 1) := by decide +kernel
theorem d_Mod_becomes_54 : decode b_Mod_becomes 54 = .ok (.iastore, 1) := by decide +kernel
theorem d_Mod_becomes_55 : decode b_Mod_becomes 55 = .ok (.aload_n 0, 1) := by decide +kernel
theorem d_Mod_becomes_56 : decode b_Mod_becomes 56 = .ok (.getfield 16, 3) := by decide +kernel
theorem d_Mod_becomes_59 : decode b_Mod_becomes 59 = .ok (.bipush 64, 2) := by decide +kernel
theorem d_Mod_becomes_61 : decode b_Mod_becomes 61 = .ok (.iload_n 1, 1) := by decide +kernel
theorem d_Mod_becomes_62 : decode b_Mod_becomes 62 = .ok (.imul, 1) := by decide +kernel
theorem d_Mod_becomes_63 : decode b_Mod_becomes 63 = .ok (.iload_n 2, 1) := by decide +kernel
theorem d_Mod_becomes_64 : decode b_Mod_becomes 64 = .ok (.iadd, 1) := by decide +kernel
theorem d_Mod_becomes_65 : decode b_Mod_becomes 65 = .ok (.aload_n 0, 1) := by decide +kernel
theorem d_Mod_becomes_66 : decode b_Mod_becomes 66 = .ok (.getfield 26, 3) := by decide +kernel
theorem d_Mod_becomes_69 : decode b_Mod_becomes 69 = .ok (.iload_n 2, 1) := by decide +kernel
theorem d_Mod_becomes_70 : decode b_Mod_becomes 70 = .ok (.laload, 1) := by decide +kernel
theorem d_Mod_becomes_71 : decode b_Mod_becomes 71 = .ok (.lastore, 1) := by decide +kernel
theorem d_Mod_becomes_72 : decode b_Mod_becomes 72 = .ok (.aload_n 0, 1) := by decide +kernel
theorem d_Mod_becomes_73 : decode b_Mod_becomes 73 = .ok (.getfield 20, 3) := by decide +kernel
theorem d_Mod_becomes_76 : decode b_Mod_becomes 76 = .ok (.bipush 64, 2) := by decide +kernel
theorem d_Mod_becomes_78 : decode b_Mod_becomes 78 = .ok (.iload_n 1, 1) := by decide +kernel
theorem d_Mod_becomes_79 : decode b_Mod_becomes 79 = .ok (.imul, 1) := by decide +kernel
theorem d_Mod_becomes_80 : decode b_Mod_becomes 80 = .ok (.iload_n 2, 1) := by decide +kernel
theorem d_Mod_becomes_81 : decode b_Mod_becomes 81 = .ok (.iadd, 1) := by decide +kernel
theorem d_Mod_becomes_82 : decode b_Mod_becomes 82 = .ok (.aload_n 0, 1) := by decide +kernel
theorem d_Mod_becomes_83 : decode b_Mod_becomes 83 = .ok (.getfield 29, 3) := by decide +kernel
theorem d_Mod_becomes_86 : decode b_Mod_becomes 86 = .ok (.iload_n 2, 1) := by decide +kernel
theorem d_Mod_becomes_87 : decode b_Mod_becomes 87 = .ok (.laload, 1) := by decide +kernel
theorem d_Mod_becomes_88 : decode b_Mod_becomes 88 = .ok (.lastore, 1) := by decide +kernel
theorem d_Mod_becomes_89 : decode b_Mod_becomes 89 = .ok (.iinc 2 1, 3) := by decide +kernel
theorem d_Mod_becomes_92 : decode b_Mod_becomes 92 = .ok (.goto (-62), 3) := by decide +kernel
theorem d_Mod_becomes_95 : decode b_Mod_becomes 95 = .ok (.iconst 1, 1) := by decide +kernel
theorem d_Mod_becomes_96 : decode b_Mod_becomes 96 = .ok (.ireturn, 1) := by decide +kernel
theorem d_Mod_less_0 : decode b_Mod_less 0 = .ok (.aload_n 0, 1) := by decide +kernel
theorem d_Mod_less_1 : decode b_Mod_less 1 = .ok (.aload_n 0, 1) := by decide +kernel
theorem d_Mod_less_2 : decode b_Mod_less 2 = .ok (.iload_n 1, 1) := by decide +kernel
theorem d_Mod_less_3 : decode b_Mod_less 3 = .ok (.iload_n 2, 1) := by decide +kernel
theorem d_Mod_less_4 : decode b_Mod_less 4 = .ok (.iload_n 3, 1) := by decide +kernel
theorem d_Mod_less_5 : decode b_Mod_less 5 = .ok (.iconst 0, 1) := by decide +kernel
theorem d_Mod_less_6 : decode b_Mod_less 6 = .ok (.invokevirtual 85, 3) := by decide +kernel
theorem d_Mod_less_9 : decode b_Mod_less 9 = .ok (.putfield 32, 3) := by decide +kernel
theorem d_Mod_less_12 : decode b_Mod_less 12 = .ok (.aload_n 0, 1) := by decide +kernel
theorem d_Mod_less_13 : decode b_Mod_less 13 = .ok (.getfield 32, 3) := by decide +kernel
theorem d_Mod_less_16 : decode b_Mod_less 16 = .ok (.ifCond .le 5, 3) := by decide +kernel
theorem d_Mod_less_19 : decode b_Mod_less 19 = .ok (.iconst 0, 1) := by decide +kernel
theorem d_Mod_less_20 : decode b_Mod_less 20 = .ok (.ireturn, 1) := by decide +kernel
theorem d_Mod_less_21 : decode b_Mod_less 21 = .ok (.aload_n 0, 1) := by decide +kernel
theorem d_Mod_less_22 : decode b_Mod_less 22 = .ok (.iload_n 1, 1) := by decide +kernel
theorem d_Mod_less_23 : decode b_Mod_less 23 = .ok (.iload_n 2, 1) := by decide +kernel
theorem d_Mod_less_24 : decode b_Mod_less 24 = .ok (.iconst 1, 1) := by decide +kernel
theorem d_Mod_less_25 : decode b_Mod_less 25 = .ok (.invokevirtual 93, 3) := by decide +kernel
theorem d_Mod_less_28 : decode b_Mod_less 28 = .ok (.aload_n 0, 1) := by decide +kernel
theorem d_Mod_less_29 : decode b_Mod_less 29 = .ok (.iload_n 3, 1) := by decide +kernel
theorem d_Mod_less_30 : decode b_Mod_less 30 = .ok (.invokevirtual 97, 3) := by decide +kernel
theorem d_Mod_less_33 : decode b_Mod_less 33 = .ok (.ireturn, 1) := by decide +kernel
theorem d_Mod_times_0 : decode b_Mod_times 0 = .ok (.aload_n 0, 1) := by decide +kernel
theorem d_Mod_times_1 : decode b_Mod_times 1 = .ok (.aload_n 0, 1) := by decide +kernel
theorem d_Mod_times_2 : decode b_Mod_times 2 = .ok (.iload_n 1, 1) := by decide +kernel
theorem d_Mod_times_3 : decode b_Mod_times 3 = .ok (.iload 4, 2) := by decide +kernel
theorem d_Mod_times_5 : decode b_Mod_times 5 = .ok (.iconst 0, 1) := by decide +kernel
theorem d_Mod_times_6 : decode b_Mod_times 6 = .ok (.iconst 0, 1) := by decide +kernel
theorem d_Mod_times_7 : decode b_Mod_times 7 = .ok (.invokevirtual 85, 3) := by decide +kernel
theorem d_Mod_times_10 : decode b_Mod_times 10 = .ok (.putfield 32, 3) := by decide +kernel
theorem d_Mod_times_13 : decode b_Mod_times 13 = .ok (.aload_n 0, 1) := by decide +kernel
theorem d_Mod_times_14 : decode b_Mod_times 14 = .ok (.getfield 32, 3) := by decide +kernel
theorem d_Mod_times_17 : decode b_Mod_times 17 = .ok (.ifCond .le 5, 3) := by decide +kernel
theorem d_Mod_times_20 : decode b_Mod_times 20 = .ok (.iconst 0, 1) := by decide +kernel
theorem d_Mod_times_21 : decode b_Mod_times 21 = .ok (.ireturn, 1) := by decide +kernel
theorem d_Mod_times_22 : decode b_Mod_times 22 = .ok (.aload_n 0, 1) := by decide +kernel
theorem d_Mod_times_23 : decode b_Mod_times 23 = .ok (.invokevirtual 60, 3) := by decide +kernel
theorem d_Mod_times_26 : decode b_Mod_times 26 = .ok (.bipush 64, 2) := by decide +kernel
theorem d_Mod_times_28 : decode b_Mod_times 28 = .ok (.iload_n 1, 1) := by decide +kernel
theorem d_Mod_times_29 : decode b_Mod_times 29 = .ok (.imul, 1) := by decide +kernel
theorem d_Mod_times_30 : decode b_Mod_times 30 = .ok (.istore 5, 2) := by decide +kernel
theorem d_Mod_times_32 : decode b_Mod_times 32 = .ok (.iload 5, 2) := by decide +kernel
theorem d_Mod_times_34 : decode b_Mod_times 34 = .ok (.bipush 64, 2) := by decide +kernel
theorem d_Mod_times_36 : decode b_Mod_times 36 = .ok (.iload_n 1, 1) := by decide +kernel
theorem d_Mod_times_37 : decode b_Mod_times 37 = .ok (.imul, 1) := by decide +kernel
theorem d_Mod_times_38 : decode b_Mod_times 38 = .ok (.aload_n 0, 1) := by decide +kernel
theorem d_Mod_times_39 : decode b_Mod_times 39 = .ok (.getfield 7, 3) := by decide +kernel
theorem d_Mod_times_42 : decode b_Mod_times 42 = .ok (.iload_n 1, 1) := by decide +kernel
theorem d_Mod_times_43 : decode b_Mod_times 43 = .ok (.iaload, 1) := by decide +kernel
theorem d_Mod_times_44 : decode b_Mod_times 44 = .ok (.iadd, 1) := by decide +kernel
theorem d_Mod_times_45 : decode b_Mod_times 45 = .ok (.if_icmp .ge 39, 3) := by decide +kernel
theorem d_Mod_times_48 : decode b_Mod_times 48 = .ok (.aload_n 0, 1) := by decide +kernel
theorem d_Mod_times_49 : decode b_Mod_times 49 = .ok (.aload_n 0, 1) := by decide +kernel
theorem d_Mod_times_50 : decode b_Mod_times 50 = .ok (.getfield 13, 3) := by decide +kernel
theorem d_Mod_times_53 : decode b_Mod_times 53 = .ok (.iload 5, 2) := by decide +kernel
theorem d_Mod_times_55 : decode b_Mod_times 55 = .ok (.iaload, 1) := by decide +kernel
theorem d_Mod_times_56 : decode b_Mod_times 56 = .ok (.aload_n 0, 1) := by decide +kernel
theorem d_Mod_times_57 : decode b_Mod_times 57 = .ok (.getfield 16, 3) := by decide +kernel
theorem d_Mod_times_60 : decode b_Mod_times 60 = .ok (.iload 5, 2) := by decide +kernel
theorem d_Mod_times_62 : decode b_Mod_times 62 = .ok (.laload, 1) := by decide +kernel
theorem d_Mod_times_63 : decode b_Mod_times 63 = .ok (.aload_n 0, 1) := by decide +kernel
theorem d_Mod_times_64 : decode b_Mod_times 64 = .ok (.aload_n 0, 1) := by decide +kernel
theorem d_Mod_times_65 : decode b_Mod_times 65 = .ok (.getfield 20, 3) := by decide +kernel
theorem d_Mod_times_68 : decode b_Mod_times 68 = .ok (.iload 5, 2) := by decide +kernel
theorem d_Mod_times_70 : decode b_Mod_times 70 = .ok (.laload, 1) := by decide +kernel
theorem d_Mod_times_71 : decode b_Mod_times 71 = .ok (.lload_n 2, 1) := by decide +kernel
theorem d_Mod_times_72 : decode b_Mod_times 72 = .ok (.invokevirtual 100, 3) := by decide +kernel
theorem d_Mod_times_75 : decode b_Mod_times 75 = .ok (.invokevirtual 74, 3) := by decide +kernel
theorem d_Mod_times_78 : decode b_Mod_times 78 = .ok (.iinc 5 1, 3) := by decide +kernel
theorem d_Mod_times_81 : decode b_Mod_times 81 = .ok (.goto (-49), 3) := by decide +kernel
theorem d_Mod_times_84 : decode b_Mod_times 84 = .ok (.aload_n 0, 1) := by decide +kernel
theorem d_Mod_times_85 : decode b_Mod_times 85 = .ok (.iload 4, 2) := by decide +kernel
theorem d_Mod_times_87 : decode b_Mod_times 87 = .ok (.invokevirtual 97, 3) := by decide +kernel
theorem d_Mod_times_90 : decode b_Mod_times 90 = .ok (.ireturn, 1) := by decide +kernel
theorem d_Mod_multiplied_0 : decode b_Mod_multiplied 0 = .ok (.lload_n 1, 1) := by decide +kernel
theorem d_Mod_multiplied_1 : decode b_Mod_multiplied 1 = .ok (.ldc2_w 43, 3) := by decide +kernel
theorem d_Mod_multiplied_4 : decode b_Mod_multiplied 4 = .ok (.lcmp, 1) := by decide +kernel
theorem d_Mod_multiplied_5 : decode b_Mod_multiplied 5 = .ok (.ifCond .ne 11, 3) := by decide +kernel
theorem d_Mod_multiplied_8 : decode b_Mod_multiplied 8 = .ok (.lload_n 3, 1) := by decide +kernel
theorem d_Mod_multiplied_9 : decode b_Mod_multiplied 9 = .ok (.ldc2_w 58, 3) := by decide +kernel
theorem d_Mod_multiplied_12 : decode b_Mod_multiplied 12 = .ok (.lcmp, 1) := by decide +kernel
theorem d_Mod_multiplied_13 : decode b_Mod_multiplied 13 = .ok (.ifCond .eq 19, 3) := by decide +kernel
theorem d_Mod_multiplied_16 : decode b_Mod_multiplied 16 = .ok (.lload_n 3, 1) := by decide +kernel
theorem d_Mod_multiplied_17 : decode b_Mod_multiplied 17 = .ok (.ldc2_w 43, 3) := by decide +kernel
theorem d_Mod_multiplied_20 : decode b_Mod_multiplied 20 = .ok (.lcmp, 1) := by decide +kernel
theorem d_Mod_multiplied_21 : decode b_Mod_multiplied 21 = .ok (.ifCond .ne 15, 3) := by decide +kernel
theorem d_Mod_multiplied_24 : decode b_Mod_multiplied 24 = .ok (.lload_n 1, 1) := by decide +kernel
theorem d_Mod_multiplied_25 : decode b_Mod_multiplied 25 = .ok (.ldc2_w 58, 3) := by decide +kernel
theorem d_Mod_multiplied_28 : decode b_Mod_multiplied 28 = .ok (.lcmp, 1) := by decide +kernel
theorem d_Mod_multiplied_29 : decode b_Mod_multiplied 29 = .ok (.ifCond .ne 7, 3) := by decide +kernel
theorem d_Mod_multiplied_32 : decode b_Mod_multiplied 32 = .ok (.iconst 1, 1) := by decide +kernel
theorem d_Mod_multiplied_33 : decode b_Mod_multiplied 33 = .ok (.goto 4, 3) := by decide +kernel
theorem d_Mod_multiplied_36 : decode b_Mod_multiplied 36 = .ok (.iconst 0, 1) := by decide +kernel
theorem d_Mod_multiplied_37 : decode b_Mod_multiplied 37 = .ok (.istore 5, 2) := by decide +kernel
theorem d_Mod_multiplied_39 : decode b_Mod_multiplied 39 = .ok (.aload_n 0, 1) := by decide +kernel
theorem d_Mod_multiplied_40 : decode b_Mod_multiplied 40 = .ok (.aload_n 0, 1) := by decide +kernel
theorem d_Mod_multiplied_41 : decode b_Mod_multiplied 41 = .ok (.getfield 52, 3) := by decide +kernel
theorem d_Mod_multiplied_44 : decode b_Mod_multiplied 44 = .ok (.ifCond .ne 24, 3) := by decide +kernel
theorem d_Mod_multiplied_47 : decode b_Mod_multiplied 47 = .ok (.iload 5, 2) := by decide +kernel
theorem d_Mod_multiplied_49 : decode b_Mod_multiplied 49 = .ok (.ifCond .ne 19, 3) := by decide +kernel
theorem d_Mod_multiplied_52 : decode b_Mod_multiplied 52 = .ok (.lload_n 1, 1) := by decide +kernel
theorem d_Mod_multiplied_53 : decode b_Mod_multiplied 53 = .ok (.lconst 0, 1) := by decide +kernel
theorem d_Mod_multiplied_54 : decode b_Mod_multiplied 54 = .ok (.lcmp, 1) := by decide +kernel
theorem d_Mod_multiplied_55 : decode b_Mod_multiplied 55 = .ok (.ifCond .eq 17, 3) := by decide +kernel
theorem d_Mod_multiplied_58 : decode b_Mod_multiplied 58 = .ok (.lload_n 1, 1) := by decide +kernel
theorem d_Mod_multiplied_59 : decode b_Mod_multiplied 59 = .ok (.lload_n 3, 1) := by decide +kernel
theorem d_Mod_multiplied_60 : decode b_Mod_multiplied 60 = .ok (.lmul, 1) := by decide +kernel
theorem d_Mod_multiplied_61 : decode b_Mod_multiplied 61 = .ok (.lload_n 1, 1) := by decide +kernel
theorem d_Mod_multiplied_62 : decode b_Mod_multiplied 62 = .ok (.ldiv, 1) := by decide +kernel
theorem d_Mod_multiplied_63 : decode b_Mod_multiplied 63 = .ok (.lload_n 3, 1) := by decide +kernel
theorem d_Mod_multiplied_64 : decode b_Mod_multiplied 64 = .ok (.lcmp, 1) := by decide +kernel
theorem d_Mod_multiplied_65 : decode b_Mod_multiplied 65 = .ok (.ifCond .eq 7, 3) := by decide +kernel
theorem d_Mod_multiplied_68 : decode b_Mod_multiplied 68 = .ok (.iconst 1, 1) := by decide +kernel
theorem d_Mod_multiplied_69 : decode b_Mod_multiplied 69 = .ok (.goto 4, 3) := by decide +kernel
theorem d_Mod_multiplied_72 : decode b_Mod_multiplied 72 = .ok (.iconst 0, 1) := by decide +kernel
theorem d_Mod_multiplied_73 : decode b_Mod_multiplied 73 = .ok (.putfield 52, 3) := by decide +kernel
theorem d_Mod_multiplied_76 : decode b_Mod_multiplied 76 = .ok (.lload_n 1, 1) := by decide +kernel
theorem d_Mod_multiplied_77 : decode b_Mod_multiplied 77 = .ok (.lload_n 3, 1) := by decide +kernel
theorem d_Mod_multiplied_78 : decode b_Mod_multiplied 78 = .ok (.lmul, 1) := by decide +kernel
theorem d_Mod_multiplied_79 : decode b_Mod_multiplied 79 = .ok (.lreturn, 1) := by decide +kernel
theorem d_Mod_only_0 : decode b_Mod_only 0 = .ok (.aload_n 0, 1) := by decide +kernel
theorem d_Mod_only_1 : decode b_Mod_only 1 = .ok (.aload_n 0, 1) := by decide +kernel
theorem d_Mod_only_2 : decode b_Mod_only 2 = .ok (.iload_n 1, 1) := by decide +kernel
theorem d_Mod_only_3 : decode b_Mod_only 3 = .ok (.iload 4, 2) := by decide +kernel
theorem d_Mod_only_5 : decode b_Mod_only 5 = .ok (.iconst 0, 1) := by decide +kernel
theorem d_Mod_only_6 : decode b_Mod_only 6 = .ok (.iload_n 2, 1) := by decide +kernel
theorem d_Mod_only_7 : decode b_Mod_only 7 = .ok (.invokevirtual 85, 3) := by decide +kernel
theorem d_Mod_only_10 : decode b_Mod_only 10 = .ok (.putfield 32, 3) := by decide +kernel
theorem d_Mod_only_13 : decode b_Mod_only 13 = .ok (.aload_n 0, 1) := by decide +kernel
theorem d_Mod_only_14 : decode b_Mod_only 14 = .ok (.getfield 32, 3) := by decide +kernel
theorem d_Mod_only_17 : decode b_Mod_only 17 = .ok (.ifCond .le 4, 3) := by decide +kernel
theorem d_Mod_only_20 : decode b_Mod_only 20 = .ok (.return_, 1) := by decide +kernel
theorem d_Mod_only_21 : decode b_Mod_only 21 = .ok (.aload_n 0, 1) := by decide +kernel
theorem d_Mod_only_22 : decode b_Mod_only 22 = .ok (.invokevirtual 60, 3) := by decide +kernel
theorem d_Mod_only_25 : decode b_Mod_only 25 = .ok (.bipush 64, 2) := by decide +kernel
theorem d_Mod_only_27 : decode b_Mod_only 27 = .ok (.iload_n 1, 1) := by decide +kernel
theorem d_Mod_only_28 : decode b_Mod_only 28 = .ok (.imul, 1) := by decide +kernel
theorem d_Mod_only_29 : decode b_Mod_only 29 = .ok (.istore 5, 2) := by decide +kernel
theorem d_Mod_only_31 : decode b_Mod_only 31 = .ok (.iload 5, 2) := by decide +kernel
theorem d_Mod_only_33 : decode b_Mod_only 33 = .ok (.bipush 64, 2) := by decide +kernel
theorem d_Mod_only_35 : decode b_Mod_only 35 = .ok (.iload_n 1, 1) := by decide +kernel
theorem d_Mod_only_36 : decode b_Mod_only 36 = .ok (.imul, 1) := by decide +kernel
theorem d_Mod_only_37 : decode b_Mod_only 37 = .ok (.aload_n 0, 1) := by decide +kernel
theorem d_Mod_only_38 : decode b_Mod_only 38 = .ok (.getfield 7, 3) := by decide +kernel
theorem d_Mod_only_41 : decode b_Mod_only 41 = .ok (.iload_n 1, 1) := by decide +kernel
theorem d_Mod_only_42 : decode b_Mod_only 42 = .ok (.iaload, 1) := by decide +kernel
theorem d_Mod_only_43 : decode b_Mod_only 43 = .ok (.iadd, 1) := by decide +kernel
theorem d_Mod_only_44 : decode b_Mod_only 44 = .ok (.if_icmp .ge 54, 3) := by decide +kernel
theorem d_Mod_only_47 : decode b_Mod_only 47 = .ok (.aload_n 0, 1) := by decide +kernel
theorem d_Mod_only_48 : decode b_Mod_only 48 = .ok (.getfield 13, 3) := by decide +kernel
theorem d_Mod_only_51 : decode b_Mod_only 51 = .ok (.iload 5, 2) := by decide +kernel
theorem d_Mod_only_53 : decode b_Mod_only 53 = .ok (.iaload, 1) := by decide +kernel
theorem d_Mod_only_54 : decode b_Mod_only 54 = .ok (.iload_n 2, 1) := by decide +kernel
theorem d_Mod_only_55 : decode b_Mod_only 55 = .ok (.if_icmp .ne 7, 3) := by decide +kernel
theorem d_Mod_only_58 : decode b_Mod_only 58 = .ok (.iconst 1, 1) := by decide +kernel
theorem d_Mod_only_59 : decode b_Mod_only 59 = .ok (.goto 4, 3) := by decide +kernel
theorem d_Mod_only_62 : decode b_Mod_only 62 = .ok (.iconst 0, 1) := by decide +kernel
theorem d_Mod_only_63 : decode b_Mod_only 63 = .ok (.iload_n 3, 1) := by decide +kernel
theorem d_Mod_only_64 : decode b_Mod_only 64 = .ok (.if_icmp .ne 28, 3) := by decide +kernel
theorem d_Mod_only_67 : decode b_Mod_only 67 = .ok (.aload_n 0, 1) := by decide +kernel
theorem d_Mod_only_68 : decode b_Mod_only 68 = .ok (.aload_n 0, 1) := by decide +kernel
theorem d_Mod_only_69 : decode b_Mod_only 69 = .ok (.getfield 13, 3) := by decide +kernel
theorem d_Mod_only_72 : decode b_Mod_only 72 = .ok (.iload 5, 2) := by decide +kernel
theorem d_Mod_only_74 : decode b_Mod_only 74 = .ok (.iaload, 1) := by decide +kernel
theorem d_Mod_only_75 : decode b_Mod_only 75 = .ok (.aload_n 0, 1) := by decide +kernel
theorem d_Mod_only_76 : decode b_Mod_only 76 = .ok (.getfield 16, 3) := by decide +kernel
theorem d_Mod_only_79 : decode b_Mod_only 79 = .ok (.iload 5, 2) := by decide +kernel
theorem d_Mod_only_81 : decode b_Mod_only 81 = .ok (.laload, 1) := by decide +kernel
theorem d_Mod_only_82 : decode b_Mod_only 82 = .ok (.aload_n 0, 1) := by decide +kernel
theorem d_Mod_only_83 : decode b_Mod_only 83 = .ok (.getfield 20, 3) := by decide +kernel
theorem d_Mod_only_86 : decode b_Mod_only 86 = .ok (.iload 5, 2) := by decide +kernel
theorem d_Mod_only_88 : decode b_Mod_only 88 = .ok (.laload, 1) := by decide +kernel
theorem d_Mod_only_89 : decode b_Mod_only 89 = .ok (.invokevirtual 74, 3) := by decide +kernel
theorem d_Mod_only_92 : decode b_Mod_only 92 = .ok (.iinc 5 1, 3) := by decide +kernel
theorem d_Mod_only_95 : decode b_Mod_only 95 = .ok (.goto (-64), 3) := by decide +kernel
theorem d_Mod_only_98 : decode b_Mod_only 98 = .ok (.aload_n 0, 1) := by decide +kernel
theorem d_Mod_only_99 : decode b_Mod_only 99 = .ok (.iload 4, 2) := by decide +kernel
theorem d_Mod_only_101 : decode b_Mod_only 101 = .ok (.invokevirtual 97, 3) := by decide +kernel
theorem d_Mod_only_104 : decode b_Mod_only 104 = .ok (.istore 5, 2) := by decide +kernel
theorem d_Mod_only_106 : decode b_Mod_only 106 = .ok (.return_, 1) := by decide +kernel
theorem d_Mod_part_0 : decode b_Mod_part 0 = .ok (.aload_n 0, 1) := by decide +kernel
theorem d_Mod_part_1 : decode b_Mod_part 1 = .ok (.aload_n 0, 1) := by decide +kernel
theorem d_Mod_part_2 : decode b_Mod_part 2 = .ok (.iload_n 1, 1) := by decide +kernel
theorem d_Mod_part_3 : decode b_Mod_part 3 = .ok (.iload_n 3, 1) := by decide +kernel
theorem d_Mod_part_4 : decode b_Mod_part 4 = .ok (.iconst 0, 1) := by decide +kernel
theorem d_Mod_part_5 : decode b_Mod_part 5 = .ok (.iconst 0, 1) := by decide +kernel
theorem d_Mod_part_6 : decode b_Mod_part 6 = .ok (.invokevirtual 85, 3) := by decide +kernel
theorem d_Mod_part_9 : decode b_Mod_part 9 = .ok (.putfield 32, 3) := by decide +kernel
theorem d_Mod_part_12 : decode b_Mod_part 12 = .ok (.aload_n 0, 1) := by decide +kernel
theorem d_Mod_part_13 : decode b_Mod_part 13 = .ok (.getfield 32, 3) := by decide +kernel
theorem d_Mod_part_16 : decode b_Mod_part 16 = .ok (.ifCond .gt 13, 3) := by decide +kernel
theorem d_Mod_part_19 : decode b_Mod_part 19 = .ok (.iload_n 2, 1) := by decide +kernel
theorem d_Mod_part_20 : decode b_Mod_part 20 = .ok (.iconst 1, 1) := by decide +kernel
theorem d_Mod_part_21 : decode b_Mod_part 21 = .ok (.if_icmp .eq 10, 3) := by decide +kernel
theorem d_Mod_part_24 : decode b_Mod_part 24 = .ok (.iload_n 2, 1) := by decide +kernel
theorem d_Mod_part_25 : decode b_Mod_part 25 = .ok (.iconst (-1), 1) := by decide +kernel
theorem d_Mod_part_26 : decode b_Mod_part 26 = .ok (.if_icmp .eq 5, 3) := by decide +kernel
theorem d_Mod_part_29 : decode b_Mod_part 29 = .ok (.iconst 0, 1) := by decide +kernel
theorem d_Mod_part_30 : decode b_Mod_part 30 = .ok (.ireturn, 1) := by decide +kernel
theorem d_Mod_part_31 : decode b_Mod_part 31 = .ok (.aload_n 0, 1) := by decide +kernel
theorem d_Mod_part_32 : decode b_Mod_part 32 = .ok (.invokevirtual 60, 3) := by decide +kernel
theorem d_Mod_part_35 : decode b_Mod_part 35 = .ok (.bipush 64, 2) := by decide +kernel
theorem d_Mod_part_37 : decode b_Mod_part 37 = .ok (.iload_n 1, 1) := by decide +kernel
theorem d_Mod_part_38 : decode b_Mod_part 38 = .ok (.imul, 1) := by decide +kernel
theorem d_Mod_part_39 : decode b_Mod_part 39 = .ok (.istore 4, 2) := by decide +kernel
theorem d_Mod_part_41 : decode b_Mod_part 41 = .ok (.iload 4, 2) := by decide +kernel
theorem d_Mod_part_43 : decode b_Mod_part 43 = .ok (.bipush 64, 2) := by decide +kernel
theorem d_Mod_part_45 : decode b_Mod_part 45 = .ok (.iload_n 1, 1) := by decide +kernel
theorem d_Mod_part_46 : decode b_Mod_part 46 = .ok (.imul, 1) := by decide +kernel
theorem d_Mod_part_47 : decode b_Mod_part 47 = .ok (.aload_n 0, 1) := by decide +kernel
theorem d_Mod_part_48 : decode b_Mod_part 48 = .ok (.getfield 7, 3) := by decide +kernel
theorem d_Mod_part_51 : decode b_Mod_part 51 = .ok (.iload_n 1, 1) := by decide +kernel
theorem d_Mod_part_52 : decode b_Mod_part 52 = .ok (.iaload, 1) := by decide +kernel
theorem d_Mod_part_53 : decode b_Mod_part 53 = .ok (.iadd, 1) := by decide +kernel
theorem d_Mod_part_54 : decode b_Mod_part 54 = .ok (.if_icmp .ge 70, 3) := by decide +kernel
theorem d_Mod_part_57 : decode b_Mod_part 57 = .ok (.aload_n 0, 1) := by decide +kernel
theorem d_Mod_part_58 : decode b_Mod_part 58 = .ok (.getfield 20, 3) := by decide +kernel
theorem d_Mod_part_61 : decode b_Mod_part 61 = .ok (.iload 4, 2) := by decide +kernel
theorem d_Mod_part_63 : decode b_Mod_part 63 = .ok (.laload, 1) := by decide +kernel
theorem d_Mod_part_64 : decode b_Mod_part 64 = .ok (.lconst 0, 1) := by decide +kernel
theorem d_Mod_part_65 : decode b_Mod_part 65 = .ok (.lcmp, 1) := by decide +kernel
theorem d_Mod_part_66 : decode b_Mod_part 66 = .ok (.ifCond .le 7, 3) := by decide +kernel
theorem d_Mod_part_69 : decode b_Mod_part 69 = .ok (.iconst 1, 1) := by decide +kernel
theorem d_Mod_part_70 : decode b_Mod_part 70 = .ok (.goto 4, 3) := by decide +kernel
theorem d_Mod_part_73 : decode b_Mod_part 73 = .ok (.iconst 0, 1) := by decide +kernel
theorem d_Mod_part_74 : decode b_Mod_part 74 = .ok (.iload_n 2, 1) := by decide +kernel
theorem d_Mod_part_75 : decode b_Mod_part 75 = .ok (.iconst 1, 1) := by decide +kernel
theorem d_Mod_part_76 : decode b_Mod_part 76 = .ok (.if_icmp .ne 7, 3) := by decide +kernel
theorem d_Mod_part_79 : decode b_Mod_part 79 = .ok (.iconst 1, 1) := by decide +kernel
theorem d_Mod_part_80 : decode b_Mod_part 80 = .ok (.goto 4, 3) := by decide +kernel
theorem d_Mod_part_83 : decode b_Mod_part 83 = .ok (.iconst 0, 1) := by decide +kernel
theorem d_Mod_part_84 : decode b_Mod_part 84 = .ok (.if_icmp .ne 34, 3) := by decide +kernel
theorem d_Mod_part_87 : decode b_Mod_part 87 = .ok (.aload_n 0, 1) := by decide +kernel
theorem d_Mod_part_88 : decode b_Mod_part 88 = .ok (.aload_n 0, 1) := by decide +kernel
theorem d_Mod_part_89 : decode b_Mod_part 89 = .ok (.getfield 13, 3) := by decide +kernel
theorem d_Mod_part_92 : decode b_Mod_part 92 = .ok (.iload 4, 2) := by decide +kernel
theorem d_Mod_part_94 : decode b_Mod_part 94 = .ok (.iaload, 1) := by decide +kernel
theorem d_Mod_part_95 : decode b_Mod_part 95 = .ok (.aload_n 0, 1) := by decide +kernel
theorem d_Mod_part_96 : decode b_Mod_part 96 = .ok (.getfield 16, 3) := by decide +kernel
theorem d_Mod_part_99 : decode b_Mod_part 99 = .ok (.iload 4, 2) := by decide +kernel
theorem d_Mod_part_101 : decode b_Mod_part 101 = .ok (.laload, 1) := by decide +kernel
theorem d_Mod_part_102 : decode b_Mod_part 102 = .ok (.aload_n 0, 1) := by decide +kernel
theorem d_Mod_part_103 : decode b_Mod_part 103 = .ok (.aload_n 0, 1) := by decide +kernel
theorem d_Mod_part_104 : decode b_Mod_part 104 = .ok (.getfield 20, 3) := by decide +kernel
theorem d_Mod_part_107 : decode b_Mod_part 107 = .ok (.iload 4, 2) := by decide +kernel
theorem d_Mod_part_109 : decode b_Mod_part 109 = .ok (.laload, 1) := by decide +kernel
theorem d_Mod_part_110 : decode b_Mod_part 110 = .ok (.iload_n 2, 1) := by decide +kernel
theorem d_Mod_part_111 : decode b_Mod_part 111 = .ok (.i2l, 1) := by decide +kernel
theorem d_Mod_part_112 : decode b_Mod_part 112 = .ok (.invokevirtual 100, 3) := by decide +kernel
theorem d_Mod_part_115 : decode b_Mod_part 115 = .ok (.invokevirtual 74, 3) := by decide +kernel
theorem d_Mod_part_118 : decode b_Mod_part 118 = .ok (.iinc 4 1, 3) := by decide +kernel
theorem d_Mod_part_121 : decode b_Mod_part 121 = .ok (.goto (-80), 3) := by decide +kernel
theorem d_Mod_part_124 : decode b_Mod_part 124 = .ok (.aload_n 0, 1) := by decide +kernel
theorem d_Mod_part_125 : decode b_Mod_part 125 = .ok (.iload_n 3, 1) := by decide +kernel
theorem d_Mod_part_126 : decode b_Mod_part 126 = .ok (.invokevirtual 97, 3) := by decide +kernel
theorem d_Mod_part_129 : decode b_Mod_part 129 = .ok (.ireturn, 1) := by decide +kernel
theorem d_Mod_clear_0 : decode b_Mod_clear 0 = .ok (.aload_n 0, 1) := by decide +kernel
theorem d_Mod_clear_1 : decode b_Mod_clear 1 = .ok (.iload_n 1, 1) := by decide +kernel
theorem d_Mod_clear_2 : decode b_Mod_clear 2 = .ok (.invokestatic 78, 3) := by decide +kernel
theorem d_Mod_clear_5 : decode b_Mod_clear 5 = .ok (.ifCond .eq 7, 3) := by decide +kernel
theorem d_Mod_clear_8 : decode b_Mod_clear 8 = .ok (.iconst 0, 1) := by decide +kernel
theorem d_Mod_clear_9 : decode b_Mod_clear 9 = .ok (.goto 4, 3) := by decide +kernel
theorem d_Mod_clear_12 : decode b_Mod_clear 12 = .ok (.iconst 1, 1) := by decide +kernel
theorem d_Mod_clear_13 : decode b_Mod_clear 13 = .ok (.putfield 32, 3) := by decide +kernel
theorem d_Mod_clear_16 : decode b_Mod_clear 16 = .ok (.aload_n 0, 1) := by decide +kernel
theorem d_Mod_clear_17 : decode b_Mod_clear 17 = .ok (.getfield 32, 3) := by decide +kernel
theorem d_Mod_clear_20 : decode b_Mod_clear 20 = .ok (.ifCond .ne 10, 3) := by decide +kernel
theorem d_Mod_clear_23 : decode b_Mod_clear 23 = .ok (.aload_n 0, 1) := by decide +kernel
theorem d_Mod_clear_24 : decode b_Mod_clear 24 = .ok (.getfield 7, 3) := by decide +kernel
theorem d_Mod_clear_27 : decode b_Mod_clear 27 = .ok (.iload_n 1, 1) := by decide +kernel
theorem d_Mod_clear_28 : decode b_Mod_clear 28 = .ok (.iconst 0, 1) := by decide +kernel
theorem d_Mod_clear_29 : decode b_Mod_clear 29 = .ok (.iastore, 1) := by decide +kernel
theorem d_Mod_clear_30 : decode b_Mod_clear 30 = .ok (.return_, 1) := by decide +kernel
theorem d_Mod_least_0 : decode b_Mod_least 0 = .ok (.aload_n 0, 1) := by decide +kernel
theorem d_Mod_least_1 : decode b_Mod_least 1 = .ok (.aload_n 0, 1) := by decide +kernel
theorem d_Mod_least_2 : decode b_Mod_least 2 = .ok (.iload_n 1, 1) := by decide +kernel
theorem d_Mod_least_3 : decode b_Mod_least 3 = .ok (.iload_n 2, 1) := by decide +kernel
theorem d_Mod_least_4 : decode b_Mod_least 4 = .ok (.iload_n 3, 1) := by decide +kernel
theorem d_Mod_least_5 : decode b_Mod_least 5 = .ok (.iconst 0, 1) := by decide +kernel
theorem d_Mod_least_6 : decode b_Mod_least 6 = .ok (.invokevirtual 85, 3) := by decide +kernel
theorem d_Mod_least_9 : decode b_Mod_least 9 = .ok (.putfield 32, 3) := by decide +kernel
theorem d_Mod_least_12 : decode b_Mod_least 12 = .ok (.aload_n 0, 1) := by decide +kernel
theorem d_Mod_least_13 : decode b_Mod_least 13 = .ok (.getfield 32, 3) := by decide +kernel
theorem d_Mod_least_16 : decode b_Mod_least 16 = .ok (.ifCond .le 5, 3) := by decide +kernel
theorem d_Mod_least_19 : decode b_Mod_least 19 = .ok (.iconst 0, 1) := by decide +kernel
theorem d_Mod_least_20 : decode b_Mod_least 20 = .ok (.ireturn, 1) := by decide +kernel
theorem d_Mod_least_21 : decode b_Mod_least 21 = .ok (.aload_n 0, 1) := by decide +kernel
theorem d_Mod_least_22 : decode b_Mod_least 22 = .ok (.iload_n 1, 1) := by decide +kernel
theorem d_Mod_least_23 : decode b_Mod_least 23 = .ok (.iload_n 2, 1) := by decide +kernel
theorem d_Mod_least_24 : decode b_Mod_least 24 = .ok (.iconst 2, 1) := by decide +kernel
theorem d_Mod_least_25 : decode b_Mod_least 25 = .ok (.invokevirtual 93, 3) := by decide +kernel
theorem d_Mod_least_28 : decode b_Mod_least 28 = .ok (.aload_n 0, 1) := by decide +kernel
theorem d_Mod_least_29 : decode b_Mod_least 29 = .ok (.iload_n 3, 1) := by decide +kernel
theorem d_Mod_least_30 : decode b_Mod_least 30 = .ok (.invokevirtual 97, 3) := by decide +kernel
theorem d_Mod_least_33 : decode b_Mod_least 33 = .ok (.ireturn, 1) := by decide +kernel
theorem d_Mod_amount_0 : decode b_Mod_amount 0 = .ok (.aload_n 0, 1) := by decide +kernel
theorem d_Mod_amount_1 : decode b_Mod_amount 1 = .ok (.aload_n 0, 1) := by decide +kernel
theorem d_Mod_amount_2 : decode b_Mod_amount 2 = .ok (.iload_n 1, 1) := by decide +kernel
theorem d_Mod_amount_3 : decode b_Mod_amount 3 = .ok (.iconst 0, 1) := by decide +kernel
theorem d_Mod_amount_4 : decode b_Mod_amount 4 = .ok (.iconst 0, 1) := by decide +kernel
theorem d_Mod_amount_5 : decode b_Mod_amount 5 = .ok (.iload_n 2, 1) := by decide +kernel
theorem d_Mod_amount_6 : decode b_Mod_amount 6 = .ok (.invokevirtual 85, 3) := by decide +kernel
theorem d_Mod_amount_9 : decode b_Mod_amount 9 = .ok (.putfield 32, 3) := by decide +kernel
theorem d_Mod_amount_12 : decode b_Mod_amount 12 = .ok (.aload_n 0, 1) := by decide +kernel
theorem d_Mod_amount_13 : decode b_Mod_amount 13 = .ok (.getfield 32, 3) := by decide +kernel
theorem d_Mod_amount_16 : decode b_Mod_amount 16 = .ok (.ifCond .le 7, 3) := by decide +kernel
theorem d_Mod_amount_19 : decode b_Mod_amount 19 = .ok (.lconst 0, 1) := by decide +kernel
theorem d_Mod_amount_20 : decode b_Mod_amount 20 = .ok (.goto 10, 3) := by decide +kernel
theorem d_Mod_amount_23 : decode b_Mod_amount 23 = .ok (.aload_n 0, 1) := by decide +kernel
theorem d_Mod_amount_24 : decode b_Mod_amount 24 = .ok (.iload_n 1, 1) := by decide +kernel
theorem d_Mod_amount_25 : decode b_Mod_amount 25 = .ok (.iload_n 2, 1) := by decide +kernel
theorem d_Mod_amount_26 : decode b_Mod_amount 26 = .ok (.lload_n 3, 1) := by decide +kernel
theorem d_Mod_amount_27 : decode b_Mod_amount 27 = .ok (.invokevirtual 63, 3) := by decide +kernel
theorem d_Mod_amount_30 : decode b_Mod_amount 30 = .ok (.lreturn, 1) := by decide +kernel
theorem d_Mod_size_0 : decode b_Mod_size 0 = .ok (.aload_n 0, 1) := by decide +kernel
theorem d_Mod_size_1 : decode b_Mod_size 1 = .ok (.iload_n 1, 1) := by decide +kernel
theorem d_Mod_size_2 : decode b_Mod_size 2 = .ok (.invokestatic 78, 3) := by decide +kernel
theorem d_Mod_size_5 : decode b_Mod_size 5 = .ok (.ifCond .eq 7, 3) := by decide +kernel
theorem d_Mod_size_8 : decode b_Mod_size 8 = .ok (.iconst 0, 1) := by decide +kernel
theorem d_Mod_size_9 : decode b_Mod_size 9 = .ok (.goto 4, 3) := by decide +kernel
theorem d_Mod_size_12 : decode b_Mod_size 12 = .ok (.iconst 1, 1) := by decide +kernel
theorem d_Mod_size_13 : decode b_Mod_size 13 = .ok (.putfield 32, 3) := by decide +kernel
theorem d_Mod_size_16 : decode b_Mod_size 16 = .ok (.aload_n 0, 1) := by decide +kernel
theorem d_Mod_size_17 : decode b_Mod_size 17 = .ok (.getfield 32, 3) := by decide +kernel
theorem d_Mod_size_20 : decode b_Mod_size 20 = .ok (.ifCond .le 7, 3) := by decide +kernel
theorem d_Mod_size_23 : decode b_Mod_size 23 = .ok (.iconst 0, 1) := by decide +kernel
theorem d_Mod_size_24 : decode b_Mod_size 24 = .ok (.goto 9, 3) := by decide +kernel
theorem d_Mod_size_27 : decode b_Mod_size 27 = .ok (.aload_n 0, 1) := by decide +kernel
theorem d_Mod_size_28 : decode b_Mod_size 28 = .ok (.getfield 7, 3) := by decide +kernel
theorem d_Mod_size_31 : decode b_Mod_size 31 = .ok (.iload_n 1, 1) := by decide +kernel
theorem d_Mod_size_32 : decode b_Mod_size 32 = .ok (.iaload, 1) := by decide +kernel
theorem d_Mod_size_33 : decode b_Mod_size 33 = .ok (.ireturn, 1) := by decide +kernel
theorem d_Mod_at_0 : decode b_Mod_at 0 = .ok (.aload_n 0, 1) := by decide +kernel
theorem d_Mod_at_1 : decode b_Mod_at 1 = .ok (.iload_n 1, 1) := by decide +kernel
theorem d_Mod_at_2 : decode b_Mod_at 2 = .ok (.invokestatic 78, 3) := by decide +kernel
theorem d_Mod_at_5 : decode b_Mod_at 5 = .ok (.ifCond .ne 7, 3) := by decide +kernel
theorem d_Mod_at_8 : decode b_Mod_at 8 = .ok (.iconst 1, 1) := by decide +kernel
theorem d_Mod_at_9 : decode b_Mod_at 9 = .ok (.goto 31, 3) := by decide +kernel
theorem d_Mod_at_12 : decode b_Mod_at 12 = .ok (.iload_n 2, 1) := by decide +kernel
theorem d_Mod_at_13 : decode b_Mod_at 13 = .ok (.ifCond .lt 22, 3) := by decide +kernel
theorem d_Mod_at_16 : decode b_Mod_at 16 = .ok (.iload_n 2, 1) := by decide +kernel
theorem d_Mod_at_17 : decode b_Mod_at 17 = .ok (.aload_n 0, 1) := by decide +kernel
theorem d_Mod_at_18 : decode b_Mod_at 18 = .ok (.getfield 7, 3) := by decide +kernel
theorem d_Mod_at_21 : decode b_Mod_at 21 = .ok (.iload_n 1, 1) := by decide +kernel
theorem d_Mod_at_22 : decode b_Mod_at 22 = .ok (.iaload, 1) := by decide +kernel
theorem d_Mod_at_23 : decode b_Mod_at 23 = .ok (.if_icmp .ge 12, 3) := by decide +kernel
theorem d_Mod_at_26 : decode b_Mod_at 26 = .ok (.iload_n 3, 1) := by decide +kernel
theorem d_Mod_at_27 : decode b_Mod_at 27 = .ok (.ifCond .lt 8, 3) := by decide +kernel
theorem d_Mod_at_30 : decode b_Mod_at 30 = .ok (.iload_n 3, 1) := by decide +kernel
theorem d_Mod_at_31 : decode b_Mod_at 31 = .ok (.iconst 2, 1) := by decide +kernel
theorem d_Mod_at_32 : decode b_Mod_at 32 = .ok (.if_icmp .le 7, 3) := by decide +kernel
theorem d_Mod_at_35 : decode b_Mod_at 35 = .ok (.iconst 1, 1) := by decide +kernel
theorem d_Mod_at_36 : decode b_Mod_at 36 = .ok (.goto 4, 3) := by decide +kernel
theorem d_Mod_at_39 : decode b_Mod_at 39 = .ok (.iconst 0, 1) := by decide +kernel
theorem d_Mod_at_40 : decode b_Mod_at 40 = .ok (.putfield 32, 3) := by decide +kernel
theorem d_Mod_at_43 : decode b_Mod_at 43 = .ok (.aload_n 0, 1) := by decide +kernel
theorem d_Mod_at_44 : decode b_Mod_at 44 = .ok (.getfield 32, 3) := by decide +kernel
theorem d_Mod_at_47 : decode b_Mod_at 47 = .ok (.ifCond .le 5, 3) := by decide +kernel
theorem d_Mod_at_50 : decode b_Mod_at 50 = .ok (.lconst 0, 1) := by decide +kernel
theorem d_Mod_at_51 : decode b_Mod_at 51 = .ok (.lreturn, 1) := by decide +kernel
theorem d_Mod_at_52 : decode b_Mod_at 52 = .ok (.bipush 64, 2) := by decide +kernel
theorem d_Mod_at_54 : decode b_Mod_at 54 = .ok (.iload_n 1, 1) := by decide +kernel
theorem d_Mod_at_55 : decode b_Mod_at 55 = .ok (.imul, 1) := by decide +kernel
theorem d_Mod_at_56 : decode b_Mod_at 56 = .ok (.aload_n 0, 1) := by decide +kernel
theorem d_Mod_at_57 : decode b_Mod_at 57 = .ok (.iload_n 1, 1) := by decide +kernel
theorem d_Mod_at_58 : decode b_Mod_at 58 = .ok (.iload_n 2, 1) := by decide +kernel
theorem d_Mod_at_59 : decode b_Mod_at 59 = .ok (.invokevirtual 103, 3) := by decide +kernel
theorem d_Mod_at_62 : decode b_Mod_at 62 = .ok (.iadd, 1) := by decide +kernel
theorem d_Mod_at_63 : decode b_Mod_at 63 = .ok (.istore 4, 2) := by decide +kernel
theorem d_Mod_at_65 : decode b_Mod_at 65 = .ok (.iload_n 3, 1) := by decide +kernel
theorem d_Mod_at_66 : decode b_Mod_at 66 = .ok (.ifCond .ne 14, 3) := by decide +kernel
theorem d_Mod_at_69 : decode b_Mod_at 69 = .ok (.aload_n 0, 1) := by decide +kernel
theorem d_Mod_at_70 : decode b_Mod_at 70 = .ok (.getfield 13, 3) := by decide +kernel
theorem d_Mod_at_73 : decode b_Mod_at 73 = .ok (.iload 4, 2) := by decide +kernel
theorem d_Mod_at_75 : decode b_Mod_at 75 = .ok (.iaload, 1) := by decide +kernel
theorem d_Mod_at_76 : decode b_Mod_at 76 = .ok (.i2l, 1) := by decide +kernel
theorem d_Mod_at_77 : decode b_Mod_at 77 = .ok (.goto 25, 3) := by decide +kernel
theorem d_Mod_at_80 : decode b_Mod_at 80 = .ok (.iload_n 3, 1) := by decide +kernel
theorem d_Mod_at_81 : decode b_Mod_at 81 = .ok (.iconst 1, 1) := by decide +kernel
theorem d_Mod_at_82 : decode b_Mod_at 82 = .ok (.if_icmp .ne 13, 3) := by decide +kernel
theorem d_Mod_at_85 : decode b_Mod_at 85 = .ok (.aload_n 0, 1) := by decide +kernel
theorem d_Mod_at_86 : decode b_Mod_at 86 = .ok (.getfield 16, 3) := by decide +kernel
theorem d_Mod_at_89 : decode b_Mod_at 89 = .ok (.iload 4, 2) := by decide +kernel
theorem d_Mod_at_91 : decode b_Mod_at 91 = .ok (.laload, 1) := by decide +kernel
theorem d_Mod_at_92 : decode b_Mod_at 92 = .ok (.goto 10, 3) := by decide +kernel
theorem d_Mod_at_95 : decode b_Mod_at 95 = .ok (.aload_n 0, 1) := by decide +kernel
theorem d_Mod_at_96 : decode b_Mod_at 96 = .ok (.getfield 20, 3) := by decide +kernel
theorem d_Mod_at_99 : decode b_Mod_at 99 = .ok (.iload 4, 2) := by decide +kernel
theorem d_Mod_at_101 : decode b_Mod_at 101 = .ok (.laload, 1) := by decide +kernel
theorem d_Mod_at_102 : decode b_Mod_at 102 = .ok (.lreturn, 1) := by decide +kernel
theorem d_Mod_inOrder_0 : decode b_Mod_inOrder 0 = .ok (.iconst (-1), 1) := by decide +kernel
theorem d_Mod_inOrder_1 : decode b_Mod_inOrder 1 = .ok (.istore_n 3, 1) := by decide +kernel
theorem d_Mod_inOrder_2 : decode b_Mod_inOrder 2 = .ok (.iconst 0, 1) := by decide +kernel
theorem d_Mod_inOrder_3 : decode b_Mod_inOrder 3 = .ok (.istore 4, 2) := by decide +kernel
theorem d_Mod_inOrder_5 : decode b_Mod_inOrder 5 = .ok (.iload 4, 2) := by decide +kernel
theorem d_Mod_inOrder_7 : decode b_Mod_inOrder 7 = .ok (.aload_n 0, 1) := by decide +kernel
theorem d_Mod_inOrder_8 : decode b_Mod_inOrder 8 = .ok (.getfield 7, 3) := by decide +kernel
theorem d_Mod_inOrder_11 : decode b_Mod_inOrder 11 = .ok (.iload_n 1, 1) := by decide +kernel
theorem d_Mod_inOrder_12 : decode b_Mod_inOrder 12 = .ok (.iaload, 1) := by decide +kernel
theorem d_Mod_inOrder_13 : decode b_Mod_inOrder 13 = .ok (.if_icmp .ge 67, 3) := by decide +kernel
theorem d_Mod_inOrder_16 : decode b_Mod_inOrder 16 = .ok (.iconst 0, 1) := by decide +kernel
theorem d_Mod_inOrder_17 : decode b_Mod_inOrder 17 = .ok (.istore 5, 2) := by decide +kernel
theorem d_Mod_inOrder_19 : decode b_Mod_inOrder 19 = .ok (.iconst 0, 1) := by decide +kernel
theorem d_Mod_inOrder_20 : decode b_Mod_inOrder 20 = .ok (.istore 6, 2) := by decide +kernel
theorem d_Mod_inOrder_22 : decode b_Mod_inOrder 22 = .ok (.iload 6, 2) := by decide +kernel
theorem d_Mod_inOrder_24 : decode b_Mod_inOrder 24 = .ok (.aload_n 0, 1) := by decide +kernel
theorem d_Mod_inOrder_25 : decode b_Mod_inOrder 25 = .ok (.getfield 7, 3) := by decide +kernel
theorem d_Mod_inOrder_28 : decode b_Mod_inOrder 28 = .ok (.iload_n 1, 1) := by decide +kernel
theorem d_Mod_inOrder_29 : decode b_Mod_inOrder 29 = .ok (.iaload, 1) := by decide +kernel
theorem d_Mod_inOrder_30 : decode b_Mod_inOrder 30 = .ok (.if_icmp .ge 31, 3) := by decide +kernel
theorem d_Mod_inOrder_33 : decode b_Mod_inOrder 33 = .ok (.iload 5, 2) := by decide +kernel
theorem d_Mod_inOrder_35 : decode b_Mod_inOrder 35 = .ok (.aload_n 0, 1) := by decide +kernel
theorem d_Mod_inOrder_36 : decode b_Mod_inOrder 36 = .ok (.iload_n 1, 1) := by decide +kernel
theorem d_Mod_inOrder_37 : decode b_Mod_inOrder 37 = .ok (.iload 6, 2) := by decide +kernel
theorem d_Mod_inOrder_39 : decode b_Mod_inOrder 39 = .ok (.iload 4, 2) := by decide +kernel
theorem d_Mod_inOrder_41 : decode b_Mod_inOrder 41 = .ok (.invokevirtual 45, 3) := by decide +kernel
theorem d_Mod_inOrder_44 : decode b_Mod_inOrder 44 = .ok (.ifCond .eq 7, 3) := by decide +kernel
theorem d_Mod_inOrder_47 : decode b_Mod_inOrder 47 = .ok (.iconst 1, 1) := by decide +kernel
theorem d_Mod_inOrder_48 : decode b_Mod_inOrder 48 = .ok (.goto 4, 3) := by decide +kernel
theorem d_Mod_inOrder_51 : decode b_Mod_inOrder 51 = .ok (.iconst 0, 1) := by decide +kernel
theorem d_Mod_inOrder_52 : decode b_Mod_inOrder 52 = .ok (.iadd, 1) := by decide +kernel
theorem d_Mod_inOrder_53 : decode b_Mod_inOrder 53 = .ok (.istore 5, 2) := by decide +kernel
theorem d_Mod_inOrder_55 : decode b_Mod_inOrder 55 = .ok (.iinc 6 1, 3) := by decide +kernel
theorem d_Mod_inOrder_58 : decode b_Mod_inOrder 58 = .ok (.goto (-36), 3) := by decide +kernel
theorem d_Mod_inOrder_61 : decode b_Mod_inOrder 61 = .ok (.iload 5, 2) := by decide +kernel
theorem d_Mod_inOrder_63 : decode b_Mod_inOrder 63 = .ok (.iload_n 2, 1) := by decide +kernel
theorem d_Mod_inOrder_64 : decode b_Mod_inOrder 64 = .ok (.if_icmp .ne 8, 3) := by decide +kernel
theorem d_Mod_inOrder_67 : decode b_Mod_inOrder 67 = .ok (.iload 4, 2) := by decide +kernel
theorem d_Mod_inOrder_69 : decode b_Mod_inOrder 69 = .ok (.goto 4, 3) := by decide +kernel
theorem d_Mod_inOrder_72 : decode b_Mod_inOrder 72 = .ok (.iload_n 3, 1) := by decide +kernel
theorem d_Mod_inOrder_73 : decode b_Mod_inOrder 73 = .ok (.istore_n 3, 1) := by decide +kernel
theorem d_Mod_inOrder_74 : decode b_Mod_inOrder 74 = .ok (.iinc 4 1, 3) := by decide +kernel
theorem d_Mod_inOrder_77 : decode b_Mod_inOrder 77 = .ok (.goto (-72), 3) := by decide +kernel
theorem d_Mod_inOrder_80 : decode b_Mod_inOrder 80 = .ok (.iload_n 3, 1) := by decide +kernel
theorem d_Mod_inOrder_81 : decode b_Mod_inOrder 81 = .ok (.ireturn, 1) := by decide +kernel
theorem d_Mod_isBefore_0 : decode b_Mod_isBefore 0 = .ok (.bipush 64, 2) := by decide +kernel
theorem d_Mod_isBefore_2 : decode b_Mod_isBefore 2 = .ok (.iload_n 1, 1) := by decide +kernel
theorem d_Mod_isBefore_3 : decode b_Mod_isBefore 3 = .ok (.imul, 1) := by decide +kernel
theorem d_Mod_isBefore_4 : decode b_Mod_isBefore 4 = .ok (.iload_n 2, 1) := by decide +kernel
theorem d_Mod_isBefore_5 : decode b_Mod_isBefore 5 = .ok (.iadd, 1) := by decide +kernel
theorem d_Mod_isBefore_6 : decode b_Mod_isBefore 6 = .ok (.istore 4, 2) := by decide +kernel
theorem d_Mod_isBefore_8 : decode b_Mod_isBefore 8 = .ok (.bipush 64, 2) := by decide +kernel
theorem d_Mod_isBefore_10 : decode b_Mod_isBefore 10 = .ok (.iload_n 1, 1) := by decide +kernel
theorem d_Mod_isBefore_11 : decode b_Mod_isBefore 11 = .ok (.imul, 1) := by decide +kernel
theorem d_Mod_isBefore_12 : decode b_Mod_isBefore 12 = .ok (.iload_n 3, 1) := by decide +kernel
theorem d_Mod_isBefore_13 : decode b_Mod_isBefore 13 = .ok (.iadd, 1) := by decide +kernel
theorem d_Mod_isBefore_14 : decode b_Mod_isBefore 14 = .ok (.istore 5, 2) := by decide +kernel
theorem d_Mod_isBefore_16 : decode b_Mod_isBefore 16 = .ok (.aload_n 0, 1) := by decide +kernel
theorem d_Mod_isBefore_17 : decode b_Mod_isBefore 17 = .ok (.getfield 13, 3) := by decide +kernel
theorem d_Mod_isBefore_20 : decode b_Mod_isBefore 20 = .ok (.iload 4, 2) := by decide +kernel
theorem d_Mod_isBefore_22 : decode b_Mod_isBefore 22 = .ok (.iaload, 1) := by decide +kernel
theorem d_Mod_isBefore_23 : decode b_Mod_isBefore 23 = .ok (.aload_n 0, 1) := by decide +kernel
theorem d_Mod_isBefore_24 : decode b_Mod_isBefore 24 = .ok (.getfield 13, 3) := by decide +kernel
theorem d_Mod_isBefore_27 : decode b_Mod_isBefore 27 = .ok (.iload 5, 2) := by decide +kernel
theorem d_Mod_isBefore_29 : decode b_Mod_isBefore 29 = .ok (.iaload, 1) := by decide +kernel
theorem d_Mod_isBefore_30 : decode b_Mod_isBefore 30 = .ok (.if_icmp .lt 46, 3) := by decide +kernel
theorem d_Mod_isBefore_33 : decode b_Mod_isBefore 33 = .ok (.aload_n 0, 1) := by decide +kernel
theorem d_Mod_isBefore_34 : decode b_Mod_isBefore 34 = .ok (.getfield 13, 3) := by decide +kernel
theorem d_Mod_isBefore_37 : decode b_Mod_isBefore 37 = .ok (.iload 4, 2) := by decide +kernel
theorem d_Mod_isBefore_39 : decode b_Mod_isBefore 39 = .ok (.iaload, 1) := by decide +kernel
theorem d_Mod_isBefore_40 : decode b_Mod_isBefore 40 = .ok (.aload_n 0, 1) := by decide +kernel
theorem d_Mod_isBefore_41 : decode b_Mod_isBefore 41 = .ok (.getfield 13, 3) := by decide +kernel
theorem d_Mod_isBefore_44 : decode b_Mod_isBefore 44 = .ok (.iload 5, 2) := by decide +kernel
theorem d_Mod_isBefore_46 : decode b_Mod_isBefore 46 = .ok (.iaload, 1) := by decide +kernel
theorem d_Mod_isBefore_47 : decode b_Mod_isBefore 47 = .ok (.if_icmp .ne 33, 3) := by decide +kernel
theorem d_Mod_isBefore_50 : decode b_Mod_isBefore 50 = .ok (.aload_n 0, 1) := by decide +kernel
theorem d_Mod_isBefore_51 : decode b_Mod_isBefore 51 = .ok (.getfield 16, 3) := by decide +kernel
theorem d_Mod_isBefore_54 : decode b_Mod_isBefore 54 = .ok (.iload 4, 2) := by decide +kernel
theorem d_Mod_isBefore_56 : decode b_Mod_isBefore 56 = .ok (.laload, 1) := by decide +kernel
theorem d_Mod_isBefore_57 : decode b_Mod_isBefore 57 = .ok (.ldc2_w 43, 3) := by decide +kernel
theorem d_Mod_isBefore_60 : decode b_Mod_isBefore 60 = .ok (.ladd, 1) := by decide +kernel
theorem d_Mod_isBefore_61 : decode b_Mod_isBefore 61 = .ok (.aload_n 0, 1) := by decide +kernel
theorem d_Mod_isBefore_62 : decode b_Mod_isBefore 62 = .ok (.getfield 16, 3) := by decide +kernel
theorem d_Mod_isBefore_65 : decode b_Mod_isBefore 65 = .ok (.iload 5, 2) := by decide +kernel
theorem d_Mod_isBefore_67 : decode b_Mod_isBefore 67 = .ok (.laload, 1) := by decide +kernel
theorem d_Mod_isBefore_68 : decode b_Mod_isBefore 68 = .ok (.ldc2_w 43, 3) := by decide +kernel
theorem d_Mod_isBefore_71 : decode b_Mod_isBefore 71 = .ok (.ladd, 1) := by decide +kernel
theorem d_Mod_isBefore_72 : decode b_Mod_isBefore 72 = .ok (.lcmp, 1) := by decide +kernel
theorem d_Mod_isBefore_73 : decode b_Mod_isBefore 73 = .ok (.ifCond .ge 7, 3) := by decide +kernel
theorem d_Mod_isBefore_76 : decode b_Mod_isBefore 76 = .ok (.iconst 1, 1) := by decide +kernel
theorem d_Mod_isBefore_77 : decode b_Mod_isBefore 77 = .ok (.goto 4, 3) := by decide +kernel
theorem d_Mod_isBefore_80 : decode b_Mod_isBefore 80 = .ok (.iconst 0, 1) := by decide +kernel
theorem d_Mod_isBefore_81 : decode b_Mod_isBefore 81 = .ok (.ireturn, 1) := by decide +kernel
theorem d_Mod_compare_0 : decode b_Mod_compare 0 = .ok (.aload_n 0, 1) := by decide +kernel
theorem d_Mod_compare_1 : decode b_Mod_compare 1 = .ok (.aload_n 0, 1) := by decide +kernel
theorem d_Mod_compare_2 : decode b_Mod_compare 2 = .ok (.iload_n 1, 1) := by decide +kernel
theorem d_Mod_compare_3 : decode b_Mod_compare 3 = .ok (.iload_n 2, 1) := by decide +kernel
theorem d_Mod_compare_4 : decode b_Mod_compare 4 = .ok (.iconst 0, 1) := by decide +kernel
theorem d_Mod_compare_5 : decode b_Mod_compare 5 = .ok (.iconst 0, 1) := by decide +kernel
theorem d_Mod_compare_6 : decode b_Mod_compare 6 = .ok (.invokevirtual 85, 3) := by decide +kernel
theorem d_Mod_compare_9 : decode b_Mod_compare 9 = .ok (.putfield 32, 3) := by decide +kernel
theorem d_Mod_compare_12 : decode b_Mod_compare 12 = .ok (.aload_n 0, 1) := by decide +kernel
theorem d_Mod_compare_13 : decode b_Mod_compare 13 = .ok (.getfield 32, 3) := by decide +kernel
theorem d_Mod_compare_16 : decode b_Mod_compare 16 = .ok (.ifCond .le 5, 3) := by decide +kernel
theorem d_Mod_compare_19 : decode b_Mod_compare 19 = .ok (.iconst 0, 1) := by decide +kernel
theorem d_Mod_compare_20 : decode b_Mod_compare 20 = .ok (.ireturn, 1) := by decide +kernel
theorem d_Mod_compare_21 : decode b_Mod_compare 21 = .ok (.iconst 0, 1) := by decide +kernel
theorem d_Mod_compare_22 : decode b_Mod_compare 22 = .ok (.istore_n 3, 1) := by decide +kernel
theorem d_Mod_compare_23 : decode b_Mod_compare 23 = .ok (.iconst 0, 1) := by decide +kernel
theorem d_Mod_compare_24 : decode b_Mod_compare 24 = .ok (.istore 4, 2) := by decide +kernel
theorem d_Mod_compare_26 : decode b_Mod_compare 26 = .ok (.iconst 0, 1) := by decide +kernel
theorem d_Mod_compare_27 : decode b_Mod_compare 27 = .ok (.istore 5, 2) := by decide +kernel
theorem d_Mod_compare_29 : decode b_Mod_compare 29 = .ok (.iload 5, 2) := by decide +kernel
theorem d_Mod_compare_31 : decode b_Mod_compare 31 = .ok (.iconst 2, 1) := by decide +kernel
theorem d_Mod_compare_32 : decode b_Mod_compare 32 = .ok (.if_icmp .ge 132, 3) := by decide +kernel
theorem d_Mod_compare_35 : decode b_Mod_compare 35 = .ok (.iload 5, 2) := by decide +kernel
theorem d_Mod_compare_37 : decode b_Mod_compare 37 = .ok (.ifCond .ne 7, 3) := by decide +kernel
theorem d_Mod_compare_40 : decode b_Mod_compare 40 = .ok (.iload_n 1, 1) := by decide +kernel
theorem d_Mod_compare_41 : decode b_Mod_compare 41 = .ok (.goto 4, 3) := by decide +kernel
theorem d_Mod_compare_44 : decode b_Mod_compare 44 = .ok (.iload_n 2, 1) := by decide +kernel
