theorem d_CB_init_0 : decode b_CB_init 0 = .ok (.aload_n 0, 1) := by decide +kernel
theorem d_CB_init_1 : decode b_CB_init 1 = .ok (.invokespecial 1, 3) := by decide +kernel
theorem d_CB_init_4 : decode b_CB_init 4 = .ok (.aload_n 0, 1) := by decide +kernel
theorem d_CB_init_5 : decode b_CB_init 5 = .ok (.bipush 8, 2) := by decide +kernel
theorem d_CB_init_7 : decode b_CB_init 7 = .ok (.anewarray 9, 3) := by decide +kernel
theorem d_CB_init_10 : decode b_CB_init 10 = .ok (.putfield 11, 3) := by decide +kernel
theorem d_CB_init_13 : decode b_CB_init 13 = .ok (.iconst 0, 1) := by decide +kernel
theorem d_CB_init_14 : decode b_CB_init 14 = .ok (.istore_n 1, 1) := by decide +kernel
theorem d_CB_init_15 : decode b_CB_init 15 = .ok (.iload_n 1, 1) := by decide +kernel
theorem d_CB_init_16 : decode b_CB_init 16 = .ok (.bipush 8, 2) := by decide +kernel
theorem d_CB_init_18 : decode b_CB_init 18 = .ok (.if_icmp .ge 22, 3) := by decide +kernel
theorem d_CB_init_21 : decode b_CB_init 21 = .ok (.aload_n 0, 1) := by decide +kernel
theorem d_CB_init_22 : decode b_CB_init 22 = .ok (.getfield 11, 3) := by decide +kernel
theorem d_CB_init_25 : decode b_CB_init 25 = .ok (.iload_n 1, 1) := by decide +kernel
theorem d_CB_init_26 : decode b_CB_init 26 = .ok (.new 9, 3) := by decide +kernel
theorem d_CB_init_29 : decode b_CB_init 29 = .ok (.dup, 1) := by decide +kernel
theorem d_CB_init_30 : decode b_CB_init 30 = .ok (.invokespecial 15, 3) := by decide +kernel
theorem d_CB_init_33 : decode b_CB_init 33 = .ok (.aastore, 1) := by decide +kernel
theorem d_CB_init_34 : decode b_CB_init 34 = .ok (.iinc 1 1, 3) := by decide +kernel
theorem d_CB_init_37 : decode b_CB_init 37 = .ok (.goto (-22), 3) := by decide +kernel
theorem d_CB_init_40 : decode b_CB_init 40 = .ok (.aload_n 0, 1) := by decide +kernel
theorem d_CB_init_41 : decode b_CB_init 41 = .ok (.new 16, 3) := by decide +kernel
theorem d_CB_init_44 : decode b_CB_init 44 = .ok (.dup, 1) := by decide +kernel
theorem d_CB_init_45 : decode b_CB_init 45 = .ok (.invokespecial 18, 3) := by decide +kernel
theorem d_CB_init_48 : decode b_CB_init 48 = .ok (.putfield 19, 3) := by decide +kernel
theorem d_CB_init_51 : decode b_CB_init 51 = .ok (.aload_n 0, 1) := by decide +kernel
theorem d_CB_init_52 : decode b_CB_init 52 = .ok (.new 9, 3) := by decide +kernel
theorem d_CB_init_55 : decode b_CB_init 55 = .ok (.dup, 1) := by decide +kernel
theorem d_CB_init_56 : decode b_CB_init 56 = .ok (.invokespecial 15, 3) := by decide +kernel
theorem d_CB_init_59 : decode b_CB_init 59 = .ok (.putfield 23, 3) := by decide +kernel
theorem d_CB_init_62 : decode b_CB_init 62 = .ok (.return_, 1) := by decide +kernel
theorem d_Bag_init_0 : decode b_Bag_init 0 = .ok (.aload_n 0, 1) := by decide +kernel
theorem d_Bag_init_1 : decode b_Bag_init 1 = .ok (.invokespecial 3, 3) := by decide +kernel
theorem d_Bag_init_4 : decode b_Bag_init 4 = .ok (.aload_n 0, 1) := by decide +kernel
theorem d_Bag_init_5 : decode b_Bag_init 5 = .ok (.bipush 64, 2) := by decide +kernel
theorem d_Bag_init_7 : decode b_Bag_init 7 = .ok (.newarray .int, 2) := by decide +kernel
theorem d_Bag_init_9 : decode b_Bag_init 9 = .ok (.putfield 9, 3) := by decide +kernel
theorem d_Bag_init_12 : decode b_Bag_init 12 = .ok (.aload_n 0, 1) := by decide +kernel
theorem d_Bag_init_13 : decode b_Bag_init 13 = .ok (.bipush 64, 2) := by decide +kernel
theorem d_Bag_init_15 : decode b_Bag_init 15 = .ok (.newarray .long, 2) := by decide +kernel
theorem d_Bag_init_17 : decode b_Bag_init 17 = .ok (.putfield 15, 3) := by decide +kernel
theorem d_Bag_init_20 : decode b_Bag_init 20 = .ok (.aload_n 0, 1) := by decide +kernel
theorem d_Bag_init_21 : decode b_Bag_init 21 = .ok (.bipush 64, 2) := by decide +kernel
theorem d_Bag_init_23 : decode b_Bag_init 23 = .ok (.newarray .long, 2) := by decide +kernel
theorem d_Bag_init_25 : decode b_Bag_init 25 = .ok (.putfield 19, 3) := by decide +kernel
theorem d_Bag_init_28 : decode b_Bag_init 28 = .ok (.aload_n 0, 1) := by decide +kernel
theorem d_Bag_init_29 : decode b_Bag_init 29 = .ok (.iconst 0, 1) := by decide +kernel
theorem d_Bag_init_30 : decode b_Bag_init 30 = .ok (.putfield 22, 3) := by decide +kernel
theorem d_Bag_init_33 : decode b_Bag_init 33 = .ok (.return_, 1) := by decide +kernel
theorem d_Prs_init_0 : decode b_Prs_init 0 = .ok (.aload_n 0, 1) := by decide +kernel
theorem d_Prs_init_1 : decode b_Prs_init 1 = .ok (.invokespecial 3, 3) := by decide +kernel
theorem d_Prs_init_4 : decode b_Prs_init 4 = .ok (.aload_n 0, 1) := by decide +kernel
theorem d_Prs_init_5 : decode b_Prs_init 5 = .ok (.sipush 128, 3) := by decide +kernel
theorem d_Prs_init_8 : decode b_Prs_init 8 = .ok (.newarray .int, 2) := by decide +kernel
theorem d_Prs_init_10 : decode b_Prs_init 10 = .ok (.putfield 11, 3) := by decide +kernel
theorem d_Prs_init_13 : decode b_Prs_init 13 = .ok (.aload_n 0, 1) := by decide +kernel
theorem d_Prs_init_14 : decode b_Prs_init 14 = .ok (.sipush 128, 3) := by decide +kernel
theorem d_Prs_init_17 : decode b_Prs_init 17 = .ok (.newarray .long, 2) := by decide +kernel
theorem d_Prs_init_19 : decode b_Prs_init 19 = .ok (.putfield 15, 3) := by decide +kernel
theorem d_Prs_init_22 : decode b_Prs_init 22 = .ok (.aload_n 0, 1) := by decide +kernel
theorem d_Prs_init_23 : decode b_Prs_init 23 = .ok (.sipush 128, 3) := by decide +kernel
theorem d_Prs_init_26 : decode b_Prs_init 26 = .ok (.newarray .long, 2) := by decide +kernel
theorem d_Prs_init_28 : decode b_Prs_init 28 = .ok (.putfield 19, 3) := by decide +kernel
theorem d_Prs_init_31 : decode b_Prs_init 31 = .ok (.aload_n 0, 1) := by decide +kernel
theorem d_Prs_init_32 : decode b_Prs_init 32 = .ok (.sipush 128, 3) := by decide +kernel
theorem d_Prs_init_35 : decode b_Prs_init 35 = .ok (.newarray .long, 2) := by decide +kernel
theorem d_Prs_init_37 : decode b_Prs_init 37 = .ok (.putfield 22, 3) := by decide +kernel
theorem d_Prs_init_40 : decode b_Prs_init 40 = .ok (.aload_n 0, 1) := by decide +kernel
theorem d_Prs_init_41 : decode b_Prs_init 41 = .ok (.iconst 0, 1) := by decide +kernel
theorem d_Prs_init_42 : decode b_Prs_init 42 = .ok (.putfield 25, 3) := by decide +kernel
theorem d_Prs_init_45 : decode b_Prs_init 45 = .ok (.return_, 1) := by decide +kernel
theorem d_Law_set_0 : decode b_Law_set 0 = .ok (.aload 7, 2) := by decide +kernel
theorem d_Law_set_2 : decode b_Law_set 2 = .ok (.iconst 0, 1) := by decide +kernel
theorem d_Law_set_3 : decode b_Law_set 3 = .ok (.aload_n 0, 1) := by decide +kernel
theorem d_Law_set_4 : decode b_Law_set 4 = .ok (.iload_n 1, 1) := by decide +kernel
theorem d_Law_set_5 : decode b_Law_set 5 = .ok (.iload_n 2, 1) := by decide +kernel
theorem d_Law_set_6 : decode b_Law_set 6 = .ok (.lload_n 3, 1) := by decide +kernel
theorem d_Law_set_7 : decode b_Law_set 7 = .ok (.lload 5, 2) := by decide +kernel
theorem d_Law_set_9 : decode b_Law_set 9 = .ok (.invokevirtual 7, 3) := by decide +kernel
theorem d_Law_set_12 : decode b_Law_set 12 = .ok (.ifCond .eq 7, 3) := by decide +kernel
theorem d_Law_set_15 : decode b_Law_set 15 = .ok (.lconst 1, 1) := by decide +kernel
theorem d_Law_set_16 : decode b_Law_set 16 = .ok (.goto 4, 3) := by decide +kernel
theorem d_Law_set_19 : decode b_Law_set 19 = .ok (.lconst 0, 1) := by decide +kernel
theorem d_Law_set_20 : decode b_Law_set 20 = .ok (.lastore, 1) := by decide +kernel
theorem d_Law_set_21 : decode b_Law_set 21 = .ok (.goto 11, 3) := by decide +kernel
theorem d_Law_set_24 : decode b_Law_set 24 = .ok (.astore 8, 2) := by decide +kernel
theorem d_Law_set_26 : decode b_Law_set 26 = .ok (.iconst 1, 1) := by decide +kernel
theorem d_Law_set_27 : decode b_Law_set 27 = .ok (.ireturn, 1) := by decide +kernel
theorem d_Law_set_28 : decode b_Law_set 28 = .ok (.astore 8, 2) := by decide +kernel
theorem d_Law_set_30 : decode b_Law_set 30 = .ok (.iconst 2, 1) := by decide +kernel
theorem d_Law_set_31 : decode b_Law_set 31 = .ok (.ireturn, 1) := by decide +kernel
theorem d_Law_set_32 : decode b_Law_set 32 = .ok (.iconst 0, 1) := by decide +kernel
theorem d_Law_set_33 : decode b_Law_set 33 = .ok (.ireturn, 1) := by decide +kernel
theorem d_CB_set_0 : decode b_CB_set 0 = .ok (.iload_n 1, 1) := by decide +kernel
theorem d_CB_set_1 : decode b_CB_set 1 = .ok (.invokestatic 27, 3) := by decide +kernel
theorem d_CB_set_4 : decode b_CB_set 4 = .ok (.iload_n 2, 1) := by decide +kernel
theorem d_CB_set_5 : decode b_CB_set 5 = .ok (.invokestatic 31, 3) := by decide +kernel
theorem d_CB_set_8 : decode b_CB_set 8 = .ok (.aload_n 0, 1) := by decide +kernel
theorem d_CB_set_9 : decode b_CB_set 9 = .ok (.getfield 11, 3) := by decide +kernel
theorem d_CB_set_12 : decode b_CB_set 12 = .ok (.iload_n 1, 1) := by decide +kernel
theorem d_CB_set_13 : decode b_CB_set 13 = .ok (.aaload, 1) := by decide +kernel
theorem d_CB_set_14 : decode b_CB_set 14 = .ok (.iload_n 2, 1) := by decide +kernel
theorem d_CB_set_15 : decode b_CB_set 15 = .ok (.lload_n 3, 1) := by decide +kernel
theorem d_CB_set_16 : decode b_CB_set 16 = .ok (.lload 5, 2) := by decide +kernel
theorem d_CB_set_18 : decode b_CB_set 18 = .ok (.invokevirtual 34, 3) := by decide +kernel
theorem d_CB_set_21 : decode b_CB_set 21 = .ok (.ireturn, 1) := by decide +kernel
theorem d_CB_requireBag_0 : decode b_CB_requireBag 0 = .ok (.iload_n 0, 1) := by decide +kernel
theorem d_CB_requireBag_1 : decode b_CB_requireBag 1 = .ok (.ifCond .lt 9, 3) := by decide +kernel
theorem d_CB_requireBag_4 : decode b_CB_requireBag 4 = .ok (.iload_n 0, 1) := by decide +kernel
theorem d_CB_requireBag_5 : decode b_CB_requireBag 5 = .ok (.bipush 8, 2) := by decide +kernel
theorem d_CB_requireBag_7 : decode b_CB_requireBag 7 = .ok (.if_icmp .lt 13, 3) := by decide +kernel
theorem d_CB_requireBag_10 : decode b_CB_requireBag 10 = .ok (.new 77, 3) := by decide +kernel
theorem d_CB_requireBag_13 : decode b_CB_requireBag 13 = .ok (.dup, 1) := by decide +kernel
theorem d_CB_requireBag_14 : decode b_CB_requireBag 14 = .ok (.ldc 128, 2) := by decide +kernel
theorem d_CB_requireBag_16 : decode b_CB_requireBag 16 = .ok (.invokespecial 81, 3) := by decide +kernel
theorem d_CB_requireBag_19 : decode b_CB_requireBag 19 = .ok (.athrow, 1) := by decide +kernel
theorem d_CB_requireBag_20 : decode b_CB_requireBag 20 = .ok (.return_, 1) := by decide +kernel
theorem d_CB_requirePolicy_0 : decode b_CB_requirePolicy 0 = .ok (.iload_n 0, 1) := by decide +kernel
theorem d_CB_requirePolicy_1 : decode b_CB_requirePolicy 1 = .ok (.ifCond .lt 9, 3) := by decide +kernel
theorem d_CB_requirePolicy_4 : decode b_CB_requirePolicy 4 = .ok (.iload_n 0, 1) := by decide +kernel
theorem d_CB_requirePolicy_5 : decode b_CB_requirePolicy 5 = .ok (.ldc 130, 2) := by decide +kernel
theorem d_CB_requirePolicy_7 : decode b_CB_requirePolicy 7 = .ok (.if_icmp .lt 13, 3) := by decide +kernel
theorem d_CB_requirePolicy_10 : decode b_CB_requirePolicy 10 = .ok (.new 131, 3) := by decide +kernel
theorem d_CB_requirePolicy_13 : decode b_CB_requirePolicy 13 = .ok (.dup, 1) := by decide +kernel
theorem d_CB_requirePolicy_14 : decode b_CB_requirePolicy 14 = .ok (.ldc 133, 2) := by decide +kernel
theorem d_CB_requirePolicy_16 : decode b_CB_requirePolicy 16 = .ok (.invokespecial 135, 3) := by decide +kernel
theorem d_CB_requirePolicy_19 : decode b_CB_requirePolicy 19 = .ok (.athrow, 1) := by decide +kernel
theorem d_CB_requirePolicy_20 : decode b_CB_requirePolicy 20 = .ok (.return_, 1) := by decide +kernel
theorem d_Bag_store_0 : decode b_Bag_store 0 = .ok (.aload_n 0, 1) := by decide +kernel
theorem d_Bag_store_1 : decode b_Bag_store 1 = .ok (.iload_n 1, 1) := by decide +kernel
theorem d_Bag_store_2 : decode b_Bag_store 2 = .ok (.lload_n 2, 1) := by decide +kernel
theorem d_Bag_store_3 : decode b_Bag_store 3 = .ok (.invokevirtual 26, 3) := by decide +kernel
theorem d_Bag_store_6 : decode b_Bag_store 6 = .ok (.istore 6, 2) := by decide +kernel
theorem d_Bag_store_8 : decode b_Bag_store 8 = .ok (.aload_n 0, 1) := by decide +kernel
theorem d_Bag_store_9 : decode b_Bag_store 9 = .ok (.iload 6, 2) := by decide +kernel
theorem d_Bag_store_11 : decode b_Bag_store 11 = .ok (.iload_n 1, 1) := by decide +kernel
theorem d_Bag_store_12 : decode b_Bag_store 12 = .ok (.lload_n 2, 1) := by decide +kernel
theorem d_Bag_store_13 : decode b_Bag_store 13 = .ok (.invokevirtual 30, 3) := by decide +kernel
theorem d_Bag_store_16 : decode b_Bag_store 16 = .ok (.istore 7, 2) := by decide +kernel
theorem d_Bag_store_18 : decode b_Bag_store 18 = .ok (.lload 4, 2) := by decide +kernel
theorem d_Bag_store_20 : decode b_Bag_store 20 = .ok (.lconst 0, 1) := by decide +kernel
theorem d_Bag_store_21 : decode b_Bag_store 21 = .ok (.lcmp, 1) := by decide +kernel
theorem d_Bag_store_22 : decode b_Bag_store 22 = .ok (.ifCond .ne 16, 3) := by decide +kernel
theorem d_Bag_store_25 : decode b_Bag_store 25 = .ok (.iload 7, 2) := by decide +kernel
theorem d_Bag_store_27 : decode b_Bag_store 27 = .ok (.ifCond .eq 9, 3) := by decide +kernel
theorem d_Bag_store_30 : decode b_Bag_store 30 = .ok (.aload_n 0, 1) := by decide +kernel
theorem d_Bag_store_31 : decode b_Bag_store 31 = .ok (.iload 6, 2) := by decide +kernel
theorem d_Bag_store_33 : decode b_Bag_store 33 = .ok (.invokevirtual 34, 3) := by decide +kernel
theorem d_Bag_store_36 : decode b_Bag_store 36 = .ok (.iconst 1, 1) := by decide +kernel
theorem d_Bag_store_37 : decode b_Bag_store 37 = .ok (.ireturn, 1) := by decide +kernel
theorem d_Bag_store_38 : decode b_Bag_store 38 = .ok (.iload 7, 2) := by decide +kernel
theorem d_Bag_store_40 : decode b_Bag_store 40 = .ok (.ifCond .ne 36, 3) := by decide +kernel
theorem d_Bag_store_43 : decode b_Bag_store 43 = .ok (.aload_n 0, 1) := by decide +kernel
theorem d_Bag_store_44 : decode b_Bag_store 44 = .ok (.getfield 22, 3) := by decide +kernel
theorem d_Bag_store_47 : decode b_Bag_store 47 = .ok (.bipush 64, 2) := by decide +kernel
theorem d_Bag_store_49 : decode b_Bag_store 49 = .ok (.if_icmp .lt 5, 3) := by decide +kernel
theorem d_Bag_store_52 : decode b_Bag_store 52 = .ok (.iconst 0, 1) := by decide +kernel
theorem d_Bag_store_53 : decode b_Bag_store 53 = .ok (.ireturn, 1) := by decide +kernel
theorem d_Bag_store_54 : decode b_Bag_store 54 = .ok (.aload_n 0, 1) := by decide +kernel
theorem d_Bag_store_55 : decode b_Bag_store 55 = .ok (.iload 6, 2) := by decide +kernel
theorem d_Bag_store_57 : decode b_Bag_store 57 = .ok (.invokevirtual 38, 3) := by decide +kernel
theorem d_Bag_store_60 : decode b_Bag_store 60 = .ok (.aload_n 0, 1) := by decide +kernel
theorem d_Bag_store_61 : decode b_Bag_store 61 = .ok (.getfield 9, 3) := by decide +kernel
theorem d_Bag_store_64 : decode b_Bag_store 64 = .ok (.iload 6, 2) := by decide +kernel
theorem d_Bag_store_66 : decode b_Bag_store 66 = .ok (.iload_n 1, 1) := by decide +kernel
theorem d_Bag_store_67 : decode b_Bag_store 67 = .ok (.iastore, 1) := by decide +kernel
theorem d_Bag_store_68 : decode b_Bag_store 68 = .ok (.aload_n 0, 1) := by decide +kernel
theorem d_Bag_store_69 : decode b_Bag_store 69 = .ok (.getfield 15, 3) := by decide +kernel
theorem d_Bag_store_72 : decode b_Bag_store 72 = .ok (.iload 6, 2) := by decide +kernel
theorem d_Bag_store_74 : decode b_Bag_store 74 = .ok (.lload_n 2, 1) := by decide +kernel
theorem d_Bag_store_75 : decode b_Bag_store 75 = .ok (.lastore, 1) := by decide +kernel
theorem d_Bag_store_76 : decode b_Bag_store 76 = .ok (.aload_n 0, 1) := by decide +kernel
theorem d_Bag_store_77 : decode b_Bag_store 77 = .ok (.getfield 19, 3) := by decide +kernel
theorem d_Bag_store_80 : decode b_Bag_store 80 = .ok (.iload 6, 2) := by decide +kernel
theorem d_Bag_store_82 : decode b_Bag_store 82 = .ok (.lload 4, 2) := by decide +kernel
theorem d_Bag_store_84 : decode b_Bag_store 84 = .ok (.lastore, 1) := by decide +kernel
theorem d_Bag_store_85 : decode b_Bag_store 85 = .ok (.iconst 1, 1) := by decide +kernel
theorem d_Bag_store_86 : decode b_Bag_store 86 = .ok (.ireturn, 1) := by decide +kernel
theorem d_Bag_placeFor_0 : decode b_Bag_placeFor 0 = .ok (.iconst 0, 1) := by decide +kernel
theorem d_Bag_placeFor_1 : decode b_Bag_placeFor 1 = .ok (.istore 4, 2) := by decide +kernel
theorem d_Bag_placeFor_3 : decode b_Bag_placeFor 3 = .ok (.iload 4, 2) := by decide +kernel
theorem d_Bag_placeFor_5 : decode b_Bag_placeFor 5 = .ok (.aload_n 0, 1) := by decide +kernel
theorem d_Bag_placeFor_6 : decode b_Bag_placeFor 6 = .ok (.getfield 22, 3) := by decide +kernel
theorem d_Bag_placeFor_9 : decode b_Bag_placeFor 9 = .ok (.if_icmp .ge 34, 3) := by decide +kernel
theorem d_Bag_placeFor_12 : decode b_Bag_placeFor 12 = .ok (.aload_n 0, 1) := by decide +kernel
theorem d_Bag_placeFor_13 : decode b_Bag_placeFor 13 = .ok (.getfield 9, 3) := by decide +kernel
theorem d_Bag_placeFor_16 : decode b_Bag_placeFor 16 = .ok (.iload 4, 2) := by decide +kernel
theorem d_Bag_placeFor_18 : decode b_Bag_placeFor 18 = .ok (.iaload, 1) := by decide +kernel
theorem d_Bag_placeFor_19 : decode b_Bag_placeFor 19 = .ok (.aload_n 0, 1) := by decide +kernel
theorem d_Bag_placeFor_20 : decode b_Bag_placeFor 20 = .ok (.getfield 15, 3) := by decide +kernel
theorem d_Bag_placeFor_23 : decode b_Bag_placeFor 23 = .ok (.iload 4, 2) := by decide +kernel
theorem d_Bag_placeFor_25 : decode b_Bag_placeFor 25 = .ok (.laload, 1) := by decide +kernel
theorem d_Bag_placeFor_26 : decode b_Bag_placeFor 26 = .ok (.iload_n 1, 1) := by decide +kernel
theorem d_Bag_placeFor_27 : decode b_Bag_placeFor 27 = .ok (.lload_n 2, 1) := by decide +kernel
theorem d_Bag_placeFor_28 : decode b_Bag_placeFor 28 = .ok (.invokestatic 41, 3) := by decide +kernel
theorem d_Bag_placeFor_31 : decode b_Bag_placeFor 31 = .ok (.ifCond .lt 6, 3) := by decide +kernel
theorem d_Bag_placeFor_34 : decode b_Bag_placeFor 34 = .ok (.iload 4, 2) := by decide +kernel
theorem d_Bag_placeFor_36 : decode b_Bag_placeFor 36 = .ok (.ireturn, 1) := by decide +kernel
theorem d_Bag_placeFor_37 : decode b_Bag_placeFor 37 = .ok (.iinc 4 1, 3) := by decide +kernel
theorem d_Bag_placeFor_40 : decode b_Bag_placeFor 40 = .ok (.goto (-37), 3) := by decide +kernel
theorem d_Bag_placeFor_43 : decode b_Bag_placeFor 43 = .ok (.aload_n 0, 1) := by decide +kernel
theorem d_Bag_placeFor_44 : decode b_Bag_placeFor 44 = .ok (.getfield 22, 3) := by decide +kernel
theorem d_Bag_placeFor_47 : decode b_Bag_placeFor 47 = .ok (.ireturn, 1) := by decide +kernel
theorem d_CB_orderOf_0 : decode b_CB_orderOf 0 = .ok (.iload_n 0, 1) := by decide +kernel
theorem d_CB_orderOf_1 : decode b_CB_orderOf 1 = .ok (.iload_n 3, 1) := by decide +kernel
theorem d_CB_orderOf_2 : decode b_CB_orderOf 2 = .ok (.if_icmp .eq 9, 3) := by decide +kernel
theorem d_CB_orderOf_5 : decode b_CB_orderOf 5 = .ok (.iload_n 0, 1) := by decide +kernel
theorem d_CB_orderOf_6 : decode b_CB_orderOf 6 = .ok (.iload_n 3, 1) := by decide +kernel
theorem d_CB_orderOf_7 : decode b_CB_orderOf 7 = .ok (.invokestatic 150, 3) := by decide +kernel
theorem d_CB_orderOf_10 : decode b_CB_orderOf 10 = .ok (.ireturn, 1) := by decide +kernel
theorem d_CB_orderOf_11 : decode b_CB_orderOf 11 = .ok (.lload_n 1, 1) := by decide +kernel
theorem d_CB_orderOf_12 : decode b_CB_orderOf 12 = .ok (.lload 4, 2) := by decide +kernel
theorem d_CB_orderOf_14 : decode b_CB_orderOf 14 = .ok (.invokestatic 156, 3) := by decide +kernel
theorem d_CB_orderOf_17 : decode b_CB_orderOf 17 = .ok (.ireturn, 1) := by decide +kernel
theorem d_JI_compare_0 : decode b_JI_compare 0 = .ok (.iload_n 0, 1) := by decide +kernel
theorem d_JI_compare_1 : decode b_JI_compare 1 = .ok (.iload_n 1, 1) := by decide +kernel
theorem d_JI_compare_2 : decode b_JI_compare 2 = .ok (.if_icmp .ge 7, 3) := by decide +kernel
theorem d_JI_compare_5 : decode b_JI_compare 5 = .ok (.iconst (-1), 1) := by decide +kernel
theorem d_JI_compare_6 : decode b_JI_compare 6 = .ok (.goto 13, 3) := by decide +kernel
theorem d_JI_compare_9 : decode b_JI_compare 9 = .ok (.iload_n 0, 1) := by decide +kernel
theorem d_JI_compare_10 : decode b_JI_compare 10 = .ok (.iload_n 1, 1) := by decide +kernel
theorem d_JI_compare_11 : decode b_JI_compare 11 = .ok (.if_icmp .ne 7, 3) := by decide +kernel
theorem d_JI_compare_14 : decode b_JI_compare 14 = .ok (.iconst 0, 1) := by decide +kernel
theorem d_JI_compare_15 : decode b_JI_compare 15 = .ok (.goto 4, 3) := by decide +kernel
theorem d_JI_compare_18 : decode b_JI_compare 18 = .ok (.iconst 1, 1) := by decide +kernel
theorem d_JI_compare_19 : decode b_JI_compare 19 = .ok (.ireturn, 1) := by decide +kernel
theorem d_JL_compareUnsigned_0 : decode b_JL_compareUnsigned 0 = .ok (.lload_n 0, 1) := by decide +kernel
theorem d_JL_compareUnsigned_1 : decode b_JL_compareUnsigned 1 = .ok (.ldc2_w 168, 3) := by decide +kernel
theorem d_JL_compareUnsigned_4 : decode b_JL_compareUnsigned 4 = .ok (.ladd, 1) := by decide +kernel
theorem d_JL_compareUnsigned_5 : decode b_JL_compareUnsigned 5 = .ok (.lload_n 2, 1) := by decide +kernel
theorem d_JL_compareUnsigned_6 : decode b_JL_compareUnsigned 6 = .ok (.ldc2_w 168, 3) := by decide +kernel
theorem d_JL_compareUnsigned_9 : decode b_JL_compareUnsigned 9 = .ok (.ladd, 1) := by decide +kernel
theorem d_JL_compareUnsigned_10 : decode b_JL_compareUnsigned 10 = .ok (.invokestatic 302, 3) := by decide +kernel
theorem d_JL_compareUnsigned_13 : decode b_JL_compareUnsigned 13 = .ok (.ireturn, 1) := by decide +kernel
theorem d_JL_compare_0 : decode b_JL_compare 0 = .ok (.lload_n 0, 1) := by decide +kernel
theorem d_JL_compare_1 : decode b_JL_compare 1 = .ok (.lload_n 2, 1) := by decide +kernel
theorem d_JL_compare_2 : decode b_JL_compare 2 = .ok (.lcmp, 1) := by decide +kernel
theorem d_JL_compare_3 : decode b_JL_compare 3 = .ok (.ifCond .ge 7, 3) := by decide +kernel
theorem d_JL_compare_6 : decode b_JL_compare 6 = .ok (.iconst (-1), 1) := by decide +kernel
theorem d_JL_compare_7 : decode b_JL_compare 7 = .ok (.goto 14, 3) := by decide +kernel
theorem d_JL_compare_10 : decode b_JL_compare 10 = .ok (.lload_n 0, 1) := by decide +kernel
theorem d_JL_compare_11 : decode b_JL_compare 11 = .ok (.lload_n 2, 1) := by decide +kernel
theorem d_JL_compare_12 : decode b_JL_compare 12 = .ok (.lcmp, 1) := by decide +kernel
theorem d_JL_compare_13 : decode b_JL_compare 13 = .ok (.ifCond .ne 7, 3) := by decide +kernel
theorem d_JL_compare_16 : decode b_JL_compare 16 = .ok (.iconst 0, 1) := by decide +kernel
theorem d_JL_compare_17 : decode b_JL_compare 17 = .ok (.goto 4, 3) := by decide +kernel
theorem d_JL_compare_20 : decode b_JL_compare 20 = .ok (.iconst 1, 1) := by decide +kernel
theorem d_JL_compare_21 : decode b_JL_compare 21 = .ok (.ireturn, 1) := by decide +kernel
theorem d_Bag_holdsAt_0 : decode b_Bag_holdsAt 0 = .ok (.iload_n 1, 1) := by decide +kernel
theorem d_Bag_holdsAt_1 : decode b_Bag_holdsAt 1 = .ok (.aload_n 0, 1) := by decide +kernel
theorem d_Bag_holdsAt_2 : decode b_Bag_holdsAt 2 = .ok (.getfield 22, 3) := by decide +kernel
theorem d_Bag_holdsAt_5 : decode b_Bag_holdsAt 5 = .ok (.if_icmp .ge 28, 3) := by decide +kernel
theorem d_Bag_holdsAt_8 : decode b_Bag_holdsAt 8 = .ok (.aload_n 0, 1) := by decide +kernel
theorem d_Bag_holdsAt_9 : decode b_Bag_holdsAt 9 = .ok (.getfield 9, 3) := by decide +kernel
theorem d_Bag_holdsAt_12 : decode b_Bag_holdsAt 12 = .ok (.iload_n 1, 1) := by decide +kernel
theorem d_Bag_holdsAt_13 : decode b_Bag_holdsAt 13 = .ok (.iaload, 1) := by decide +kernel
theorem d_Bag_holdsAt_14 : decode b_Bag_holdsAt 14 = .ok (.iload_n 2, 1) := by decide +kernel
theorem d_Bag_holdsAt_15 : decode b_Bag_holdsAt 15 = .ok (.if_icmp .ne 18, 3) := by decide +kernel
theorem d_Bag_holdsAt_18 : decode b_Bag_holdsAt 18 = .ok (.aload_n 0, 1) := by decide +kernel
theorem d_Bag_holdsAt_19 : decode b_Bag_holdsAt 19 = .ok (.getfield 15, 3) := by decide +kernel
theorem d_Bag_holdsAt_22 : decode b_Bag_holdsAt 22 = .ok (.iload_n 1, 1) := by decide +kernel
theorem d_Bag_holdsAt_23 : decode b_Bag_holdsAt 23 = .ok (.laload, 1) := by decide +kernel
theorem d_Bag_holdsAt_24 : decode b_Bag_holdsAt 24 = .ok (.lload_n 3, 1) := by decide +kernel
theorem d_Bag_holdsAt_25 : decode b_Bag_holdsAt 25 = .ok (.lcmp, 1) := by decide +kernel
theorem d_Bag_holdsAt_26 : decode b_Bag_holdsAt 26 = .ok (.ifCond .ne 7, 3) := by decide +kernel
theorem d_Bag_holdsAt_29 : decode b_Bag_holdsAt 29 = .ok (.iconst 1, 1) := by decide +kernel
theorem d_Bag_holdsAt_30 : decode b_Bag_holdsAt 30 = .ok (.goto 4, 3) := by decide +kernel
theorem d_Bag_holdsAt_33 : decode b_Bag_holdsAt 33 = .ok (.iconst 0, 1) := by decide +kernel
theorem d_Bag_holdsAt_34 : decode b_Bag_holdsAt 34 = .ok (.ireturn, 1) := by decide +kernel
theorem d_Bag_removeAt_0 : decode b_Bag_removeAt 0 = .ok (.aload_n 0, 1) := by decide +kernel
theorem d_Bag_removeAt_1 : decode b_Bag_removeAt 1 = .ok (.getfield 22, 3) := by decide +kernel
theorem d_Bag_removeAt_4 : decode b_Bag_removeAt 4 = .ok (.iload_n 1, 1) := by decide +kernel
theorem d_Bag_removeAt_5 : decode b_Bag_removeAt 5 = .ok (.isub, 1) := by decide +kernel
theorem d_Bag_removeAt_6 : decode b_Bag_removeAt 6 = .ok (.iconst 1, 1) := by decide +kernel
theorem d_Bag_removeAt_7 : decode b_Bag_removeAt 7 = .ok (.isub, 1) := by decide +kernel
theorem d_Bag_removeAt_8 : decode b_Bag_removeAt 8 = .ok (.istore_n 2, 1) := by decide +kernel
theorem d_Bag_removeAt_9 : decode b_Bag_removeAt 9 = .ok (.aload_n 0, 1) := by decide +kernel
theorem d_Bag_removeAt_10 : decode b_Bag_removeAt 10 = .ok (.getfield 9, 3) := by decide +kernel
theorem d_Bag_removeAt_13 : decode b_Bag_removeAt 13 = .ok (.iload_n 1, 1) := by decide +kernel
theorem d_Bag_removeAt_14 : decode b_Bag_removeAt 14 = .ok (.iconst 1, 1) := by decide +kernel
theorem d_Bag_removeAt_15 : decode b_Bag_removeAt 15 = .ok (.iadd, 1) := by decide +kernel
theorem d_Bag_removeAt_16 : decode b_Bag_removeAt 16 = .ok (.aload_n 0, 1) := by decide +kernel
theorem d_Bag_removeAt_17 : decode b_Bag_removeAt 17 = .ok (.getfield 9, 3) := by decide +kernel
theorem d_Bag_removeAt_20 : decode b_Bag_removeAt 20 = .ok (.iload_n 1, 1) := by decide +kernel
theorem d_Bag_removeAt_21 : decode b_Bag_removeAt 21 = .ok (.iload_n 2, 1) := by decide +kernel
theorem d_Bag_removeAt_22 : decode b_Bag_removeAt 22 = .ok (.invokestatic 45, 3) := by decide +kernel
theorem d_Bag_removeAt_25 : decode b_Bag_removeAt 25 = .ok (.aload_n 0, 1) := by decide +kernel
theorem d_Bag_removeAt_26 : decode b_Bag_removeAt 26 = .ok (.getfield 15, 3) := by decide +kernel
theorem d_Bag_removeAt_29 : decode b_Bag_removeAt 29 = .ok (.iload_n 1, 1) := by decide +kernel
theorem d_Bag_removeAt_30 : decode b_Bag_removeAt 30 = .ok (.iconst 1, 1) := by decide +kernel
theorem d_Bag_removeAt_31 : decode b_Bag_removeAt 31 = .ok (.iadd, 1) := by decide +kernel
theorem d_Bag_removeAt_32 : decode b_Bag_removeAt 32 = .ok (.aload_n 0, 1) := by decide +kernel
theorem d_Bag_removeAt_33 : decode b_Bag_removeAt 33 = .ok (.getfield 15, 3) := by decide +kernel
theorem d_Bag_removeAt_36 : decode b_Bag_removeAt 36 = .ok (.iload_n 1, 1) := by decide +kernel
theorem d_Bag_removeAt_37 : decode b_Bag_removeAt 37 = .ok (.iload_n 2, 1) := by decide +kernel
theorem d_Bag_removeAt_38 : decode b_Bag_removeAt 38 = .ok (.invokestatic 45, 3) := by decide +kernel
theorem d_Bag_removeAt_41 : decode b_Bag_removeAt 41 = .ok (.aload_n 0, 1) := by decide +kernel
theorem d_Bag_removeAt_42 : decode b_Bag_removeAt 42 = .ok (.getfield 19, 3) := by decide +kernel
theorem d_Bag_removeAt_45 : decode b_Bag_removeAt 45 = .ok (.iload_n 1, 1) := by decide +kernel
theorem d_Bag_removeAt_46 : decode b_Bag_removeAt 46 = .ok (.iconst 1, 1) := by decide +kernel
theorem d_Bag_removeAt_47 : decode b_Bag_removeAt 47 = .ok (.iadd, 1) := by decide +kernel
theorem d_Bag_removeAt_48 : decode b_Bag_removeAt 48 = .ok (.aload_n 0, 1) := by decide +kernel
theorem d_Bag_removeAt_49 : decode b_Bag_removeAt 49 = .ok (.getfield 19, 3) := by decide +kernel
theorem d_Bag_removeAt_52 : decode b_Bag_removeAt 52 = .ok (.iload_n 1, 1) := by decide +kernel
theorem d_Bag_removeAt_53 : decode b_Bag_removeAt 53 = .ok (.iload_n 2, 1) := by decide +kernel
theorem d_Bag_removeAt_54 : decode b_Bag_removeAt 54 = .ok (.invokestatic 45, 3) := by decide +kernel
theorem d_Bag_removeAt_57 : decode b_Bag_removeAt 57 = .ok (.aload_n 0, 1) := by decide +kernel
theorem d_Bag_removeAt_58 : decode b_Bag_removeAt 58 = .ok (.dup, 1) := by decide +kernel
theorem d_Bag_removeAt_59 : decode b_Bag_removeAt 59 = .ok (.getfield 22, 3) := by decide +kernel
theorem d_Bag_removeAt_62 : decode b_Bag_removeAt 62 = .ok (.iconst 1, 1) := by decide +kernel
theorem d_Bag_removeAt_63 : decode b_Bag_removeAt 63 = .ok (.isub, 1) := by decide +kernel
theorem d_Bag_removeAt_64 : decode b_Bag_removeAt 64 = .ok (.putfield 22, 3) := by decide +kernel
theorem d_Bag_removeAt_67 : decode b_Bag_removeAt 67 = .ok (.return_, 1) := by decide +kernel
theorem d_Bag_makeRoomAt_0 : decode b_Bag_makeRoomAt 0 = .ok (.aload_n 0, 1) := by decide +kernel
theorem d_Bag_makeRoomAt_1 : decode b_Bag_makeRoomAt 1 = .ok (.getfield 22, 3) := by decide +kernel
theorem d_Bag_makeRoomAt_4 : decode b_Bag_makeRoomAt 4 = .ok (.iload_n 1, 1) := by decide +kernel
theorem d_Bag_makeRoomAt_5 : decode b_Bag_makeRoomAt 5 = .ok (.isub, 1) := by decide +kernel
theorem d_Bag_makeRoomAt_6 : decode b_Bag_makeRoomAt 6 = .ok (.istore_n 2, 1) := by decide +kernel
theorem d_Bag_makeRoomAt_7 : decode b_Bag_makeRoomAt 7 = .ok (.aload_n 0, 1) := by decide +kernel
theorem d_Bag_makeRoomAt_8 : decode b_Bag_makeRoomAt 8 = .ok (.getfield 9, 3) := by decide +kernel
theorem d_Bag_makeRoomAt_11 : decode b_Bag_makeRoomAt 11 = .ok (.iload_n 1, 1) := by decide +kernel
theorem d_Bag_makeRoomAt_12 : decode b_Bag_makeRoomAt 12 = .ok (.aload_n 0, 1) := by decide +kernel
theorem d_Bag_makeRoomAt_13 : decode b_Bag_makeRoomAt 13 = .ok (.getfield 9, 3) := by decide +kernel
theorem d_Bag_makeRoomAt_16 : decode b_Bag_makeRoomAt 16 = .ok (.iload_n 1, 1) := by decide +kernel
theorem d_Bag_makeRoomAt_17 : decode b_Bag_makeRoomAt 17 = .ok (.iconst 1, 1) := by decide +kernel
theorem d_Bag_makeRoomAt_18 : decode b_Bag_makeRoomAt 18 = .ok (.iadd, 1) := by decide +kernel
theorem d_Bag_makeRoomAt_19 : decode b_Bag_makeRoomAt 19 = .ok (.iload_n 2, 1) := by decide +kernel
theorem d_Bag_makeRoomAt_20 : decode b_Bag_makeRoomAt 20 = .ok (.invokestatic 45, 3) := by decide +kernel
theorem d_Bag_makeRoomAt_23 : decode b_Bag_makeRoomAt 23 = .ok (.aload_n 0, 1) := by decide +kernel
theorem d_Bag_makeRoomAt_24 : decode b_Bag_makeRoomAt 24 = .ok (.getfield 15, 3) := by decide +kernel
theorem d_Bag_makeRoomAt_27 : decode b_Bag_makeRoomAt 27 = .ok (.iload_n 1, 1) := by decide +kernel
theorem d_Bag_makeRoomAt_28 : decode b_Bag_makeRoomAt 28 = .ok (.aload_n 0, 1) := by decide +kernel
theorem d_Bag_makeRoomAt_29 : decode b_Bag_makeRoomAt 29 = .ok (.getfield 15, 3) := by decide +kernel
theorem d_Bag_makeRoomAt_32 : decode b_Bag_makeRoomAt 32 = .ok (.iload_n 1, 1) := by decide +kernel
theorem d_Bag_makeRoomAt_33 : decode b_Bag_makeRoomAt 33 = .ok (.iconst 1, 1) := by decide +kernel
theorem d_Bag_makeRoomAt_34 : decode b_Bag_makeRoomAt 34 = .ok (.iadd, 1) := by decide +kernel
theorem d_Bag_makeRoomAt_35 : decode b_Bag_makeRoomAt 35 = .ok (.iload_n 2, 1) := by decide +kernel
theorem d_Bag_makeRoomAt_36 : decode b_Bag_makeRoomAt 36 = .ok (.invokestatic 45, 3) := by decide +kernel
theorem d_Bag_makeRoomAt_39 : decode b_Bag_makeRoomAt 39 = .ok (.aload_n 0, 1) := by decide +kernel
theorem d_Bag_makeRoomAt_40 : decode b_Bag_makeRoomAt 40 = .ok (.getfield 19, 3) := by decide +kernel
theorem d_Bag_makeRoomAt_43 : decode b_Bag_makeRoomAt 43 = .ok (.iload_n 1, 1) := by decide +kernel
theorem d_Bag_makeRoomAt_44 : decode b_Bag_makeRoomAt 44 = .ok (.aload_n 0, 1) := by decide +kernel
theorem d_Bag_makeRoomAt_45 : decode b_Bag_makeRoomAt 45 = .ok (.getfield 19, 3) := by decide +kernel
theorem d_Bag_makeRoomAt_48 : decode b_Bag_makeRoomAt 48 = .ok (.iload_n 1, 1) := by decide +kernel
theorem d_Bag_makeRoomAt_49 : decode b_Bag_makeRoomAt 49 = .ok (.iconst 1, 1) := by decide +kernel
theorem d_Bag_makeRoomAt_50 : decode b_Bag_makeRoomAt 50 = .ok (.iadd, 1) := by decide +kernel
theorem d_Bag_makeRoomAt_51 : decode b_Bag_makeRoomAt 51 = .ok (.iload_n 2, 1) := by decide +kernel
theorem d_Bag_makeRoomAt_52 : decode b_Bag_makeRoomAt 52 = .ok (.invokestatic 45, 3) := by decide +kernel
theorem d_Bag_makeRoomAt_55 : decode b_Bag_makeRoomAt 55 = .ok (.aload_n 0, 1) := by decide +kernel
theorem d_Bag_makeRoomAt_56 : decode b_Bag_makeRoomAt 56 = .ok (.dup, 1) := by decide +kernel
theorem d_Bag_makeRoomAt_57 : decode b_Bag_makeRoomAt 57 = .ok (.getfield 22, 3) := by decide +kernel
theorem d_Bag_makeRoomAt_60 : decode b_Bag_makeRoomAt 60 = .ok (.iconst 1, 1) := by decide +kernel
theorem d_Bag_makeRoomAt_61 : decode b_Bag_makeRoomAt 61 = .ok (.iadd, 1) := by decide +kernel
theorem d_Bag_makeRoomAt_62 : decode b_Bag_makeRoomAt 62 = .ok (.putfield 22, 3) := by decide +kernel
theorem d_Bag_makeRoomAt_65 : decode b_Bag_makeRoomAt 65 = .ok (.return_, 1) := by decide +kernel
theorem d_Law_put_0 : decode b_Law_put 0 = .ok (.aload 7, 2) := by decide +kernel
theorem d_Law_put_2 : decode b_Law_put 2 = .ok (.iconst 0, 1) := by decide +kernel
theorem d_Law_put_3 : decode b_Law_put 3 = .ok (.aload_n 0, 1) := by decide +kernel
theorem d_Law_put_4 : decode b_Law_put 4 = .ok (.iload_n 1, 1) := by decide +kernel
theorem d_Law_put_5 : decode b_Law_put 5 = .ok (.iload_n 2, 1) := by decide +kernel
theorem d_Law_put_6 : decode b_Law_put 6 = .ok (.lload_n 3, 1) := by decide +kernel
theorem d_Law_put_7 : decode b_Law_put 7 = .ok (.lload 5, 2) := by decide +kernel
theorem d_Law_put_9 : decode b_Law_put 9 = .ok (.invokevirtual 17, 3) := by decide +kernel
theorem d_Law_put_12 : decode b_Law_put 12 = .ok (.ifCond .eq 7, 3) := by decide +kernel
theorem d_Law_put_15 : decode b_Law_put 15 = .ok (.lconst 1, 1) := by decide +kernel
theorem d_Law_put_16 : decode b_Law_put 16 = .ok (.goto 4, 3) := by decide +kernel
theorem d_Law_put_19 : decode b_Law_put 19 = .ok (.lconst 0, 1) := by decide +kernel
theorem d_Law_put_20 : decode b_Law_put 20 = .ok (.lastore, 1) := by decide +kernel
theorem d_Law_put_21 : decode b_Law_put 21 = .ok (.goto 11, 3) := by decide +kernel
theorem d_Law_put_24 : decode b_Law_put 24 = .ok (.astore 8, 2) := by decide +kernel
theorem d_Law_put_26 : decode b_Law_put 26 = .ok (.iconst 1, 1) := by decide +kernel
theorem d_Law_put_27 : decode b_Law_put 27 = .ok (.ireturn, 1) := by decide +kernel
theorem d_Law_put_28 : decode b_Law_put 28 = .ok (.astore 8, 2) := by decide +kernel
theorem d_Law_put_30 : decode b_Law_put 30 = .ok (.iconst 2, 1) := by decide +kernel
theorem d_Law_put_31 : decode b_Law_put 31 = .ok (.ireturn, 1) := by decide +kernel
theorem d_Law_put_32 : decode b_Law_put 32 = .ok (.iconst 0, 1) := by decide +kernel
theorem d_Law_put_33 : decode b_Law_put 33 = .ok (.ireturn, 1) := by decide +kernel
theorem d_CB_put_0 : decode b_CB_put 0 = .ok (.iload_n 1, 1) := by decide +kernel
theorem d_CB_put_1 : decode b_CB_put 1 = .ok (.invokestatic 27, 3) := by decide +kernel
theorem d_CB_put_4 : decode b_CB_put 4 = .ok (.iload_n 2, 1) := by decide +kernel
theorem d_CB_put_5 : decode b_CB_put 5 = .ok (.invokestatic 31, 3) := by decide +kernel
theorem d_CB_put_8 : decode b_CB_put 8 = .ok (.aload_n 0, 1) := by decide +kernel
theorem d_CB_put_9 : decode b_CB_put 9 = .ok (.getfield 11, 3) := by decide +kernel
theorem d_CB_put_12 : decode b_CB_put 12 = .ok (.iload_n 1, 1) := by decide +kernel
theorem d_CB_put_13 : decode b_CB_put 13 = .ok (.aaload, 1) := by decide +kernel
theorem d_CB_put_14 : decode b_CB_put 14 = .ok (.iload_n 2, 1) := by decide +kernel
theorem d_CB_put_15 : decode b_CB_put 15 = .ok (.lload_n 3, 1) := by decide +kernel
theorem d_CB_put_16 : decode b_CB_put 16 = .ok (.invokevirtual 38, 3) := by decide +kernel
theorem d_CB_put_19 : decode b_CB_put 19 = .ok (.lstore 7, 2) := by decide +kernel
theorem d_CB_put_21 : decode b_CB_put 21 = .ok (.lload 7, 2) := by decide +kernel
theorem d_CB_put_23 : decode b_CB_put 23 = .ok (.lload 5, 2) := by decide +kernel
theorem d_CB_put_25 : decode b_CB_put 25 = .ok (.invokestatic 42, 3) := by decide +kernel
theorem d_CB_put_28 : decode b_CB_put 28 = .ok (.ifCond .ne 5, 3) := by decide +kernel
theorem d_CB_put_31 : decode b_CB_put 31 = .ok (.iconst 0, 1) := by decide +kernel
theorem d_CB_put_32 : decode b_CB_put 32 = .ok (.ireturn, 1) := by decide +kernel
theorem d_CB_put_33 : decode b_CB_put 33 = .ok (.aload_n 0, 1) := by decide +kernel
theorem d_CB_put_34 : decode b_CB_put 34 = .ok (.getfield 11, 3) := by decide +kernel
theorem d_CB_put_37 : decode b_CB_put 37 = .ok (.iload_n 1, 1) := by decide +kernel
theorem d_CB_put_38 : decode b_CB_put 38 = .ok (.aaload, 1) := by decide +kernel
theorem d_CB_put_39 : decode b_CB_put 39 = .ok (.iload_n 2, 1) := by decide +kernel
theorem d_CB_put_40 : decode b_CB_put 40 = .ok (.lload_n 3, 1) := by decide +kernel
theorem d_CB_put_41 : decode b_CB_put 41 = .ok (.lload 7, 2) := by decide +kernel
theorem d_CB_put_43 : decode b_CB_put 43 = .ok (.lload 5, 2) := by decide +kernel
theorem d_CB_put_45 : decode b_CB_put 45 = .ok (.ladd, 1) := by decide +kernel
theorem d_CB_put_46 : decode b_CB_put 46 = .ok (.invokevirtual 34, 3) := by decide +kernel
theorem d_CB_put_49 : decode b_CB_put 49 = .ok (.ireturn, 1) := by decide +kernel
theorem d_Bag_amountOf_0 : decode b_Bag_amountOf 0 = .ok (.aload_n 0, 1) := by decide +kernel
theorem d_Bag_amountOf_1 : decode b_Bag_amountOf 1 = .ok (.iload_n 1, 1) := by decide +kernel
theorem d_Bag_amountOf_2 : decode b_Bag_amountOf 2 = .ok (.lload_n 2, 1) := by decide +kernel
theorem d_Bag_amountOf_3 : decode b_Bag_amountOf 3 = .ok (.invokevirtual 26, 3) := by decide +kernel
theorem d_Bag_amountOf_6 : decode b_Bag_amountOf 6 = .ok (.istore 4, 2) := by decide +kernel
theorem d_Bag_amountOf_8 : decode b_Bag_amountOf 8 = .ok (.aload_n 0, 1) := by decide +kernel
theorem d_Bag_amountOf_9 : decode b_Bag_amountOf 9 = .ok (.iload 4, 2) := by decide +kernel
theorem d_Bag_amountOf_11 : decode b_Bag_amountOf 11 = .ok (.iload_n 1, 1) := by decide +kernel
theorem d_Bag_amountOf_12 : decode b_Bag_amountOf 12 = .ok (.lload_n 2, 1) := by decide +kernel
theorem d_Bag_amountOf_13 : decode b_Bag_amountOf 13 = .ok (.invokevirtual 30, 3) := by decide +kernel
theorem d_Bag_amountOf_16 : decode b_Bag_amountOf 16 = .ok (.ifCond .eq 13, 3) := by decide +kernel
theorem d_Bag_amountOf_19 : decode b_Bag_amountOf 19 = .ok (.aload_n 0, 1) := by decide +kernel
theorem d_Bag_amountOf_20 : decode b_Bag_amountOf 20 = .ok (.getfield 19, 3) := by decide +kernel
theorem d_Bag_amountOf_23 : decode b_Bag_amountOf 23 = .ok (.iload 4, 2) := by decide +kernel
theorem d_Bag_amountOf_25 : decode b_Bag_amountOf 25 = .ok (.laload, 1) := by decide +kernel
theorem d_Bag_amountOf_26 : decode b_Bag_amountOf 26 = .ok (.goto 4, 3) := by decide +kernel
theorem d_Bag_amountOf_29 : decode b_Bag_amountOf 29 = .ok (.lconst 0, 1) := by decide +kernel
theorem d_Bag_amountOf_30 : decode b_Bag_amountOf 30 = .ok (.lreturn, 1) := by decide +kernel
theorem d_CB_sumFits_0 : decode b_CB_sumFits 0 = .ok (.lload_n 2, 1) := by decide +kernel
theorem d_CB_sumFits_1 : decode b_CB_sumFits 1 = .ok (.lconst 0, 1) := by decide +kernel
theorem d_CB_sumFits_2 : decode b_CB_sumFits 2 = .ok (.lcmp, 1) := by decide +kernel
theorem d_CB_sumFits_3 : decode b_CB_sumFits 3 = .ok (.ifCond .lt 21, 3) := by decide +kernel
theorem d_CB_sumFits_6 : decode b_CB_sumFits 6 = .ok (.lload_n 0, 1) := by decide +kernel
theorem d_CB_sumFits_7 : decode b_CB_sumFits 7 = .ok (.ldc2_w 99, 3) := by decide +kernel
theorem d_CB_sumFits_10 : decode b_CB_sumFits 10 = .ok (.lload_n 2, 1) := by decide +kernel
theorem d_CB_sumFits_11 : decode b_CB_sumFits 11 = .ok (.lsub, 1) := by decide +kernel
theorem d_CB_sumFits_12 : decode b_CB_sumFits 12 = .ok (.lcmp, 1) := by decide +kernel
theorem d_CB_sumFits_13 : decode b_CB_sumFits 13 = .ok (.ifCond .gt 7, 3) := by decide +kernel
theorem d_CB_sumFits_16 : decode b_CB_sumFits 16 = .ok (.iconst 1, 1) := by decide +kernel
theorem d_CB_sumFits_17 : decode b_CB_sumFits 17 = .ok (.goto 22, 3) := by decide +kernel
theorem d_CB_sumFits_20 : decode b_CB_sumFits 20 = .ok (.iconst 0, 1) := by decide +kernel
theorem d_CB_sumFits_21 : decode b_CB_sumFits 21 = .ok (.goto 18, 3) := by decide +kernel
theorem d_CB_sumFits_24 : decode b_CB_sumFits 24 = .ok (.lload_n 0, 1) := by decide +kernel
theorem d_CB_sumFits_25 : decode b_CB_sumFits 25 = .ok (.ldc2_w 148, 3) := by decide +kernel
theorem d_CB_sumFits_28 : decode b_CB_sumFits 28 = .ok (.lload_n 2, 1) := by decide +kernel
theorem d_CB_sumFits_29 : decode b_CB_sumFits 29 = .ok (.lsub, 1) := by decide +kernel
theorem d_CB_sumFits_30 : decode b_CB_sumFits 30 = .ok (.lcmp, 1) := by decide +kernel
theorem d_CB_sumFits_31 : decode b_CB_sumFits 31 = .ok (.ifCond .lt 7, 3) := by decide +kernel
theorem d_CB_sumFits_34 : decode b_CB_sumFits 34 = .ok (.iconst 1, 1) := by decide +kernel
theorem d_CB_sumFits_35 : decode b_CB_sumFits 35 = .ok (.goto 4, 3) := by decide +kernel
theorem d_CB_sumFits_38 : decode b_CB_sumFits 38 = .ok (.iconst 0, 1) := by decide +kernel
theorem d_CB_sumFits_39 : decode b_CB_sumFits 39 = .ok (.ireturn, 1) := by decide +kernel
theorem d_Law_sum_0 : decode b_Law_sum 0 = .ok (.aload 4, 2) := by decide +kernel
theorem d_Law_sum_2 : decode b_Law_sum 2 = .ok (.iconst 0, 1) := by decide +kernel
theorem d_Law_sum_3 : decode b_Law_sum 3 = .ok (.aload_n 0, 1) := by decide +kernel
theorem d_Law_sum_4 : decode b_Law_sum 4 = .ok (.iload_n 1, 1) := by decide +kernel
theorem d_Law_sum_5 : decode b_Law_sum 5 = .ok (.iload_n 2, 1) := by decide +kernel
theorem d_Law_sum_6 : decode b_Law_sum 6 = .ok (.iload_n 3, 1) := by decide +kernel
theorem d_Law_sum_7 : decode b_Law_sum 7 = .ok (.invokevirtual 20, 3) := by decide +kernel
theorem d_Law_sum_10 : decode b_Law_sum 10 = .ok (.ifCond .eq 7, 3) := by decide +kernel
theorem d_Law_sum_13 : decode b_Law_sum 13 = .ok (.lconst 1, 1) := by decide +kernel
theorem d_Law_sum_14 : decode b_Law_sum 14 = .ok (.goto 4, 3) := by decide +kernel
theorem d_Law_sum_17 : decode b_Law_sum 17 = .ok (.lconst 0, 1) := by decide +kernel
theorem d_Law_sum_18 : decode b_Law_sum 18 = .ok (.lastore, 1) := by decide +kernel
theorem d_Law_sum_19 : decode b_Law_sum 19 = .ok (.goto 7, 3) := by decide +kernel
theorem d_Law_sum_22 : decode b_Law_sum 22 = .ok (.astore 5, 2) := by decide +kernel
theorem d_Law_sum_24 : decode b_Law_sum 24 = .ok (.iconst 1, 1) := by decide +kernel
theorem d_Law_sum_25 : decode b_Law_sum 25 = .ok (.ireturn, 1) := by decide +kernel
theorem d_Law_sum_26 : decode b_Law_sum 26 = .ok (.iconst 0, 1) := by decide +kernel
theorem d_Law_sum_27 : decode b_Law_sum 27 = .ok (.ireturn, 1) := by decide +kernel
theorem d_CB_sum_0 : decode b_CB_sum 0 = .ok (.aload_n 0, 1) := by decide +kernel
theorem d_CB_sum_1 : decode b_CB_sum 1 = .ok (.iload_n 1, 1) := by decide +kernel
theorem d_CB_sum_2 : decode b_CB_sum 2 = .ok (.iload_n 2, 1) := by decide +kernel
theorem d_CB_sum_3 : decode b_CB_sum 3 = .ok (.iload_n 3, 1) := by decide +kernel
theorem d_CB_sum_4 : decode b_CB_sum 4 = .ok (.iconst 0, 1) := by decide +kernel
theorem d_CB_sum_5 : decode b_CB_sum 5 = .ok (.invokevirtual 46, 3) := by decide +kernel
theorem d_CB_sum_8 : decode b_CB_sum 8 = .ok (.ireturn, 1) := by decide +kernel
theorem d_CB_combine_0 : decode b_CB_combine 0 = .ok (.iload_n 1, 1) := by decide +kernel
theorem d_CB_combine_1 : decode b_CB_combine 1 = .ok (.invokestatic 27, 3) := by decide +kernel
theorem d_CB_combine_4 : decode b_CB_combine 4 = .ok (.iload_n 2, 1) := by decide +kernel
theorem d_CB_combine_5 : decode b_CB_combine 5 = .ok (.invokestatic 27, 3) := by decide +kernel
theorem d_CB_combine_8 : decode b_CB_combine 8 = .ok (.iload_n 3, 1) := by decide +kernel
theorem d_CB_combine_9 : decode b_CB_combine 9 = .ok (.invokestatic 27, 3) := by decide +kernel
theorem d_CB_combine_12 : decode b_CB_combine 12 = .ok (.aload_n 0, 1) := by decide +kernel
theorem d_CB_combine_13 : decode b_CB_combine 13 = .ok (.getfield 19, 3) := by decide +kernel
theorem d_CB_combine_16 : decode b_CB_combine 16 = .ok (.aload_n 0, 1) := by decide +kernel
theorem d_CB_combine_17 : decode b_CB_combine 17 = .ok (.getfield 11, 3) := by decide +kernel
theorem d_CB_combine_20 : decode b_CB_combine 20 = .ok (.iload_n 1, 1) := by decide +kernel
theorem d_CB_combine_21 : decode b_CB_combine 21 = .ok (.aaload, 1) := by decide +kernel
theorem d_CB_combine_22 : decode b_CB_combine 22 = .ok (.aload_n 0, 1) := by decide +kernel
theorem d_CB_combine_23 : decode b_CB_combine 23 = .ok (.getfield 11, 3) := by decide +kernel
theorem d_CB_combine_26 : decode b_CB_combine 26 = .ok (.iload_n 2, 1) := by decide +kernel
theorem d_CB_combine_27 : decode b_CB_combine 27 = .ok (.aaload, 1) := by decide +kernel
theorem d_CB_combine_28 : decode b_CB_combine 28 = .ok (.invokevirtual 86, 3) := by decide +kernel
theorem d_CB_combine_31 : decode b_CB_combine 31 = .ok (.aload_n 0, 1) := by decide +kernel
theorem d_CB_combine_32 : decode b_CB_combine 32 = .ok (.getfield 23, 3) := by decide +kernel
theorem d_CB_combine_35 : decode b_CB_combine 35 = .ok (.invokevirtual 50, 3) := by decide +kernel
theorem d_CB_combine_38 : decode b_CB_combine 38 = .ok (.iconst 0, 1) := by decide +kernel
theorem d_CB_combine_39 : decode b_CB_combine 39 = .ok (.istore 5, 2) := by decide +kernel
theorem d_CB_combine_41 : decode b_CB_combine 41 = .ok (.iload 5, 2) := by decide +kernel
theorem d_CB_combine_43 : decode b_CB_combine 43 = .ok (.aload_n 0, 1) := by decide +kernel
theorem d_CB_combine_44 : decode b_CB_combine 44 = .ok (.getfield 19, 3) := by decide +kernel
theorem d_CB_combine_47 : decode b_CB_combine 47 = .ok (.getfield 90, 3) := by decide +kernel
theorem d_CB_combine_50 : decode b_CB_combine 50 = .ok (.if_icmp .ge 88, 3) := by decide +kernel
theorem d_CB_combine_53 : decode b_CB_combine 53 = .ok (.aload_n 0, 1) := by decide +kernel
theorem d_CB_combine_54 : decode b_CB_combine 54 = .ok (.getfield 19, 3) := by decide +kernel
theorem d_CB_combine_57 : decode b_CB_combine 57 = .ok (.getfield 91, 3) := by decide +kernel
theorem d_CB_combine_60 : decode b_CB_combine 60 = .ok (.iload 5, 2) := by decide +kernel
theorem d_CB_combine_62 : decode b_CB_combine 62 = .ok (.laload, 1) := by decide +kernel
theorem d_CB_combine_63 : decode b_CB_combine 63 = .ok (.lstore 6, 2) := by decide +kernel
theorem d_CB_combine_65 : decode b_CB_combine 65 = .ok (.aload_n 0, 1) := by decide +kernel
theorem d_CB_combine_66 : decode b_CB_combine 66 = .ok (.getfield 19, 3) := by decide +kernel
theorem d_CB_combine_69 : decode b_CB_combine 69 = .ok (.getfield 94, 3) := by decide +kernel
theorem d_CB_combine_72 : decode b_CB_combine 72 = .ok (.iload 5, 2) := by decide +kernel
theorem d_CB_combine_74 : decode b_CB_combine 74 = .ok (.laload, 1) := by decide +kernel
theorem d_CB_combine_75 : decode b_CB_combine 75 = .ok (.lstore 8, 2) := by decide +kernel
theorem d_CB_combine_77 : decode b_CB_combine 77 = .ok (.iload 4, 2) := by decide +kernel
theorem d_CB_combine_79 : decode b_CB_combine 79 = .ok (.lload 6, 2) := by decide +kernel
theorem d_CB_combine_81 : decode b_CB_combine 81 = .ok (.lload 8, 2) := by decide +kernel
theorem d_CB_combine_83 : decode b_CB_combine 83 = .ok (.invokestatic 136, 3) := by decide +kernel
theorem d_CB_combine_86 : decode b_CB_combine 86 = .ok (.ifCond .ne 5, 3) := by decide +kernel
theorem d_CB_combine_89 : decode b_CB_combine 89 = .ok (.iconst 0, 1) := by decide +kernel
theorem d_CB_combine_90 : decode b_CB_combine 90 = .ok (.ireturn, 1) := by decide +kernel
theorem d_CB_combine_91 : decode b_CB_combine 91 = .ok (.aload_n 0, 1) := by decide +kernel
theorem d_CB_combine_92 : decode b_CB_combine 92 = .ok (.getfield 23, 3) := by decide +kernel
theorem d_CB_combine_95 : decode b_CB_combine 95 = .ok (.aload_n 0, 1) := by decide +kernel
theorem d_CB_combine_96 : decode b_CB_combine 96 = .ok (.getfield 19, 3) := by decide +kernel
theorem d_CB_combine_99 : decode b_CB_combine 99 = .ok (.getfield 139, 3) := by decide +kernel
theorem d_CB_combine_102 : decode b_CB_combine 102 = .ok (.iload 5, 2) := by decide +kernel
theorem d_CB_combine_104 : decode b_CB_combine 104 = .ok (.iaload, 1) := by decide +kernel
theorem d_CB_combine_105 : decode b_CB_combine 105 = .ok (.aload_n 0, 1) := by decide +kernel
theorem d_CB_combine_106 : decode b_CB_combine 106 = .ok (.getfield 19, 3) := by decide +kernel
theorem d_CB_combine_109 : decode b_CB_combine 109 = .ok (.getfield 140, 3) := by decide +kernel
theorem d_CB_combine_112 : decode b_CB_combine 112 = .ok (.iload 5, 2) := by decide +kernel
theorem d_CB_combine_114 : decode b_CB_combine 114 = .ok (.laload, 1) := by decide +kernel
theorem d_CB_combine_115 : decode b_CB_combine 115 = .ok (.iload 4, 2) := by decide +kernel
theorem d_CB_combine_117 : decode b_CB_combine 117 = .ok (.lload 6, 2) := by decide +kernel
theorem d_CB_combine_119 : decode b_CB_combine 119 = .ok (.lload 8, 2) := by decide +kernel
theorem d_CB_combine_121 : decode b_CB_combine 121 = .ok (.invokestatic 141, 3) := by decide +kernel
theorem d_CB_combine_124 : decode b_CB_combine 124 = .ok (.invokevirtual 71, 3) := by decide +kernel
theorem d_CB_combine_127 : decode b_CB_combine 127 = .ok (.ifCond .ne 5, 3) := by decide +kernel
theorem d_CB_combine_130 : decode b_CB_combine 130 = .ok (.iconst 0, 1) := by decide +kernel
theorem d_CB_combine_131 : decode b_CB_combine 131 = .ok (.ireturn, 1) := by decide +kernel
theorem d_CB_combine_132 : decode b_CB_combine 132 = .ok (.iinc 5 1, 3) := by decide +kernel
theorem d_CB_combine_135 : decode b_CB_combine 135 = .ok (.goto (-94), 3) := by decide +kernel
theorem d_CB_combine_138 : decode b_CB_combine 138 = .ok (.aload_n 0, 1) := by decide +kernel
theorem d_CB_combine_139 : decode b_CB_combine 139 = .ok (.iload_n 3, 1) := by decide +kernel
theorem d_CB_combine_140 : decode b_CB_combine 140 = .ok (.invokevirtual 74, 3) := by decide +kernel
theorem d_CB_combine_143 : decode b_CB_combine 143 = .ok (.iconst 1, 1) := by decide +kernel
theorem d_CB_combine_144 : decode b_CB_combine 144 = .ok (.ireturn, 1) := by decide +kernel
theorem d_Prs_align_0 : decode b_Prs_align 0 = .ok (.iconst 0, 1) := by decide +kernel
theorem d_Prs_align_1 : decode b_Prs_align 1 = .ok (.istore_n 3, 1) := by decide +kernel
theorem d_Prs_align_2 : decode b_Prs_align 2 = .ok (.iconst 0, 1) := by decide +kernel
theorem d_Prs_align_3 : decode b_Prs_align 3 = .ok (.istore 4, 2) := by decide +kernel
theorem d_Prs_align_5 : decode b_Prs_align 5 = .ok (.aload_n 0, 1) := by decide +kernel
theorem d_Prs_align_6 : decode b_Prs_align 6 = .ok (.iconst 0, 1) := by decide +kernel
theorem d_Prs_align_7 : decode b_Prs_align 7 = .ok (.putfield 25, 3) := by decide +kernel
theorem d_Prs_align_10 : decode b_Prs_align 10 = .ok (.aload_n 0, 1) := by decide +kernel
theorem d_Prs_align_11 : decode b_Prs_align 11 = .ok (.getfield 25, 3) := by decide +kernel
theorem d_Prs_align_14 : decode b_Prs_align 14 = .ok (.sipush 128, 3) := by decide +kernel
theorem d_Prs_align_17 : decode b_Prs_align 17 = .ok (.if_icmp .ge 179, 3) := by decide +kernel
theorem d_Prs_align_20 : decode b_Prs_align 20 = .ok (.iload_n 3, 1) := by decide +kernel
theorem d_Prs_align_21 : decode b_Prs_align 21 = .ok (.aload_n 1, 1) := by decide +kernel
theorem d_Prs_align_22 : decode b_Prs_align 22 = .ok (.getfield 29, 3) := by decide +kernel
theorem d_Prs_align_25 : decode b_Prs_align 25 = .ok (.if_icmp .lt 12, 3) := by decide +kernel
theorem d_Prs_align_28 : decode b_Prs_align 28 = .ok (.iload 4, 2) := by decide +kernel
theorem d_Prs_align_30 : decode b_Prs_align 30 = .ok (.aload_n 2, 1) := by decide +kernel
theorem d_Prs_align_31 : decode b_Prs_align 31 = .ok (.getfield 29, 3) := by decide +kernel
theorem d_Prs_align_34 : decode b_Prs_align 34 = .ok (.if_icmp .ge 162, 3) := by decide +kernel
theorem d_Prs_align_37 : decode b_Prs_align 37 = .ok (.aload_n 1, 1) := by decide +kernel
theorem d_Prs_align_38 : decode b_Prs_align 38 = .ok (.iload_n 3, 1) := by decide +kernel
theorem d_Prs_align_39 : decode b_Prs_align 39 = .ok (.aload_n 2, 1) := by decide +kernel
theorem d_Prs_align_40 : decode b_Prs_align 40 = .ok (.iload 4, 2) := by decide +kernel
theorem d_Prs_align_42 : decode b_Prs_align 42 = .ok (.invokestatic 32, 3) := by decide +kernel
theorem d_Prs_align_45 : decode b_Prs_align 45 = .ok (.istore 5, 2) := by decide +kernel
theorem d_Prs_align_47 : decode b_Prs_align 47 = .ok (.iload 5, 2) := by decide +kernel
theorem d_Prs_align_49 : decode b_Prs_align 49 = .ok (.ifCond .gt 7, 3) := by decide +kernel
theorem d_Prs_align_52 : decode b_Prs_align 52 = .ok (.aload_n 1, 1) := by decide +kernel
theorem d_Prs_align_53 : decode b_Prs_align 53 = .ok (.goto 4, 3) := by decide +kernel
theorem d_Prs_align_56 : decode b_Prs_align 56 = .ok (.aload_n 2, 1) := by decide +kernel
theorem d_Prs_align_57 : decode b_Prs_align 57 = .ok (.astore 6, 2) := by decide +kernel
theorem d_Prs_align_59 : decode b_Prs_align 59 = .ok (.iload 5, 2) := by decide +kernel
theorem d_Prs_align_61 : decode b_Prs_align 61 = .ok (.ifCond .gt 7, 3) := by decide +kernel
theorem d_Prs_align_64 : decode b_Prs_align 64 = .ok (.iload_n 3, 1) := by decide +kernel
theorem d_Prs_align_65 : decode b_Prs_align 65 = .ok (.goto 5, 3) := by decide +kernel
theorem d_Prs_align_68 : decode b_Prs_align 68 = .ok (.iload 4, 2) := by decide +kernel
theorem d_Prs_align_70 : decode b_Prs_align 70 = .ok (.istore 7, 2) := by decide +kernel
theorem d_Prs_align_72 : decode b_Prs_align 72 = .ok (.aload_n 0, 1) := by decide +kernel
theorem d_Prs_align_73 : decode b_Prs_align 73 = .ok (.getfield 11, 3) := by decide +kernel
theorem d_Prs_align_76 : decode b_Prs_align 76 = .ok (.aload_n 0, 1) := by decide +kernel
theorem d_Prs_align_77 : decode b_Prs_align 77 = .ok (.getfield 25, 3) := by decide +kernel
theorem d_Prs_align_80 : decode b_Prs_align 80 = .ok (.aload 6, 2) := by decide +kernel
theorem d_Prs_align_82 : decode b_Prs_align 82 = .ok (.getfield 36, 3) := by decide +kernel
theorem d_Prs_align_85 : decode b_Prs_align 85 = .ok (.iload 7, 2) := by decide +kernel
theorem d_Prs_align_87 : decode b_Prs_align 87 = .ok (.iaload, 1) := by decide +kernel
theorem d_Prs_align_88 : decode b_Prs_align 88 = .ok (.iastore, 1) := by decide +kernel
theorem d_Prs_align_89 : decode b_Prs_align 89 = .ok (.aload_n 0, 1) := by decide +kernel
theorem d_Prs_align_90 : decode b_Prs_align 90 = .ok (.getfield 15, 3) := by decide +kernel
theorem d_Prs_align_93 : decode b_Prs_align 93 = .ok (.aload_n 0, 1) := by decide +kernel
theorem d_Prs_align_94 : decode b_Prs_align 94 = .ok (.getfield 25, 3) := by decide +kernel
theorem d_Prs_align_97 : decode b_Prs_align 97 = .ok (.aload 6, 2) := by decide +kernel
theorem d_Prs_align_99 : decode b_Prs_align 99 = .ok (.getfield 37, 3) := by decide +kernel
theorem d_Prs_align_102 : decode b_Prs_align 102 = .ok (.iload 7, 2) := by decide +kernel
theorem d_Prs_align_104 : decode b_Prs_align 104 = .ok (.laload, 1) := by decide +kernel
theorem d_Prs_align_105 : decode b_Prs_align 105 = .ok (.lastore, 1) := by decide +kernel
theorem d_Prs_align_106 : decode b_Prs_align 106 = .ok (.aload_n 0, 1) := by decide +kernel
theorem d_Prs_align_107 : decode b_Prs_align 107 = .ok (.getfield 19, 3) := by decide +kernel
theorem d_Prs_align_110 : decode b_Prs_align 110 = .ok (.aload_n 0, 1) := by decide +kernel
theorem d_Prs_align_111 : decode b_Prs_align 111 = .ok (.getfield 25, 3) := by decide +kernel
theorem d_Prs_align_114 : decode b_Prs_align 114 = .ok (.iload 5, 2) := by decide +kernel
theorem d_Prs_align_116 : decode b_Prs_align 116 = .ok (.ifCond .gt 12, 3) := by decide +kernel
theorem d_Prs_align_119 : decode b_Prs_align 119 = .ok (.aload_n 1, 1) := by decide +kernel
theorem d_Prs_align_120 : decode b_Prs_align 120 = .ok (.getfield 38, 3) := by decide +kernel
theorem d_Prs_align_123 : decode b_Prs_align 123 = .ok (.iload_n 3, 1) := by decide +kernel
theorem d_Prs_align_124 : decode b_Prs_align 124 = .ok (.laload, 1) := by decide +kernel
theorem d_Prs_align_125 : decode b_Prs_align 125 = .ok (.goto 4, 3) := by decide +kernel
theorem d_Prs_align_128 : decode b_Prs_align 128 = .ok (.lconst 0, 1) := by decide +kernel
theorem d_Prs_align_129 : decode b_Prs_align 129 = .ok (.lastore, 1) := by decide +kernel
theorem d_Prs_align_130 : decode b_Prs_align 130 = .ok (.aload_n 0, 1) := by decide +kernel
theorem d_Prs_align_131 : decode b_Prs_align 131 = .ok (.getfield 22, 3) := by decide +kernel
theorem d_Prs_align_134 : decode b_Prs_align 134 = .ok (.aload_n 0, 1) := by decide +kernel
theorem d_Prs_align_135 : decode b_Prs_align 135 = .ok (.getfield 25, 3) := by decide +kernel
theorem d_Prs_align_138 : decode b_Prs_align 138 = .ok (.iload 5, 2) := by decide +kernel
theorem d_Prs_align_140 : decode b_Prs_align 140 = .ok (.ifCond .lt 13, 3) := by decide +kernel
theorem d_Prs_align_143 : decode b_Prs_align 143 = .ok (.aload_n 2, 1) := by decide +kernel
theorem d_Prs_align_144 : decode b_Prs_align 144 = .ok (.getfield 38, 3) := by decide +kernel
theorem d_Prs_align_147 : decode b_Prs_align 147 = .ok (.iload 4, 2) := by decide +kernel
theorem d_Prs_align_149 : decode b_Prs_align 149 = .ok (.laload, 1) := by decide +kernel
theorem d_Prs_align_150 : decode b_Prs_align 150 = .ok (.goto 4, 3) := by decide +kernel
theorem d_Prs_align_153 : decode b_Prs_align 153 = .ok (.lconst 0, 1) := by decide +kernel
theorem d_Prs_align_154 : decode b_Prs_align 154 = .ok (.lastore, 1) := by decide +kernel
theorem d_Prs_align_155 : decode b_Prs_align 155 = .ok (.iload_n 3, 1) := by decide +kernel
theorem d_Prs_align_156 : decode b_Prs_align 156 = .ok (.iload 5, 2) := by decide +kernel
theorem d_Prs_align_158 : decode b_Prs_align 158 = .ok (.ifCond .gt 7, 3) := by decide +kernel
theorem d_Prs_align_161 : decode b_Prs_align 161 = .ok (.iconst 1, 1) := by decide +kernel
theorem d_Prs_align_162 : decode b_Prs_align 162 = .ok (.goto 4, 3) := by decide +kernel
theorem d_Prs_align_165 : decode b_Prs_align 165 = .ok (.iconst 0, 1) := by decide +kernel
theorem d_Prs_align_166 : decode b_Prs_align 166 = .ok (.iadd, 1) := by decide +kernel
theorem d_Prs_align_167 : decode b_Prs_align 167 = .ok (.istore_n 3, 1) := by decide +kernel
theorem d_Prs_align_168 : decode b_Prs_align 168 = .ok (.iload 4, 2) := by decide +kernel
theorem d_Prs_align_170 : decode b_Prs_align 170 = .ok (.iload 5, 2) := by decide +kernel
theorem d_Prs_align_172 : decode b_Prs_align 172 = .ok (.ifCond .lt 7, 3) := by decide +kernel
theorem d_Prs_align_175 : decode b_Prs_align 175 = .ok (.iconst 1, 1) := by decide +kernel
theorem d_Prs_align_176 : decode b_Prs_align 176 = .ok (.goto 4, 3) := by decide +kernel
theorem d_Prs_align_179 : decode b_Prs_align 179 = .ok (.iconst 0, 1) := by decide +kernel
theorem d_Prs_align_180 : decode b_Prs_align 180 = .ok (.iadd, 1) := by decide +kernel
theorem d_Prs_align_181 : decode b_Prs_align 181 = .ok (.istore 4, 2) := by decide +kernel
theorem d_Prs_align_183 : decode b_Prs_align 183 = .ok (.aload_n 0, 1) := by decide +kernel
theorem d_Prs_align_184 : decode b_Prs_align 184 = .ok (.dup, 1) := by decide +kernel
theorem d_Prs_align_185 : decode b_Prs_align 185 = .ok (.getfield 25, 3) := by decide +kernel
theorem d_Prs_align_188 : decode b_Prs_align 188 = .ok (.iconst 1, 1) := by decide +kernel
theorem d_Prs_align_189 : decode b_Prs_align 189 = .ok (.iadd, 1) := by decide +kernel
theorem d_Prs_align_190 : decode b_Prs_align 190 = .ok (.putfield 25, 3) := by decide +kernel
theorem d_Prs_align_193 : decode b_Prs_align 193 = .ok (.goto (-183), 3) := by decide +kernel
theorem d_Prs_align_196 : decode b_Prs_align 196 = .ok (.return_, 1) := by decide +kernel
theorem d_Prs_orderOfNext_0 : decode b_Prs_orderOfNext 0 = .ok (.iload_n 1, 1) := by decide +kernel
theorem d_Prs_orderOfNext_1 : decode b_Prs_orderOfNext 1 = .ok (.aload_n 0, 1) := by decide +kernel
theorem d_Prs_orderOfNext_2 : decode b_Prs_orderOfNext 2 = .ok (.getfield 29, 3) := by decide +kernel
theorem d_Prs_orderOfNext_5 : decode b_Prs_orderOfNext 5 = .ok (.if_icmp .lt 5, 3) := by decide +kernel
theorem d_Prs_orderOfNext_8 : decode b_Prs_orderOfNext 8 = .ok (.iconst 1, 1) := by decide +kernel
theorem d_Prs_orderOfNext_9 : decode b_Prs_orderOfNext 9 = .ok (.ireturn, 1) := by decide +kernel
theorem d_Prs_orderOfNext_10 : decode b_Prs_orderOfNext 10 = .ok (.iload_n 3, 1) := by decide +kernel
theorem d_Prs_orderOfNext_11 : decode b_Prs_orderOfNext 11 = .ok (.aload_n 2, 1) := by decide +kernel
theorem d_Prs_orderOfNext_12 : decode b_Prs_orderOfNext 12 = .ok (.getfield 29, 3) := by decide +kernel
theorem d_Prs_orderOfNext_15 : decode b_Prs_orderOfNext 15 = .ok (.if_icmp .lt 5, 3) := by decide +kernel
theorem d_Prs_orderOfNext_18 : decode b_Prs_orderOfNext 18 = .ok (.iconst (-1), 1) := by decide +kernel
theorem d_Prs_orderOfNext_19 : decode b_Prs_orderOfNext 19 = .ok (.ireturn, 1) := by decide +kernel
theorem d_Prs_orderOfNext_20 : decode b_Prs_orderOfNext 20 = .ok (.aload_n 0, 1) := by decide +kernel
theorem d_Prs_orderOfNext_21 : decode b_Prs_orderOfNext 21 = .ok (.getfield 36, 3) := by decide +kernel
theorem d_Prs_orderOfNext_24 : decode b_Prs_orderOfNext 24 = .ok (.iload_n 1, 1) := by decide +kernel
theorem d_Prs_orderOfNext_25 : decode b_Prs_orderOfNext 25 = .ok (.iaload, 1) := by decide +kernel
theorem d_Prs_orderOfNext_26 : decode b_Prs_orderOfNext 26 = .ok (.aload_n 0, 1) := by decide +kernel
theorem d_Prs_orderOfNext_27 : decode b_Prs_orderOfNext 27 = .ok (.getfield 37, 3) := by decide +kernel
theorem d_Prs_orderOfNext_30 : decode b_Prs_orderOfNext 30 = .ok (.iload_n 1, 1) := by decide +kernel
theorem d_Prs_orderOfNext_31 : decode b_Prs_orderOfNext 31 = .ok (.laload, 1) := by decide +kernel
theorem d_Prs_orderOfNext_32 : decode b_Prs_orderOfNext 32 = .ok (.aload_n 2, 1) := by decide +kernel
theorem d_Prs_orderOfNext_33 : decode b_Prs_orderOfNext 33 = .ok (.getfield 36, 3) := by decide +kernel
theorem d_Prs_orderOfNext_36 : decode b_Prs_orderOfNext 36 = .ok (.iload_n 3, 1) := by decide +kernel
theorem d_Prs_orderOfNext_37 : decode b_Prs_orderOfNext 37 = .ok (.iaload, 1) := by decide +kernel
theorem d_Prs_orderOfNext_38 : decode b_Prs_orderOfNext 38 = .ok (.aload_n 2, 1) := by decide +kernel
theorem d_Prs_orderOfNext_39 : decode b_Prs_orderOfNext 39 = .ok (.getfield 37, 3) := by decide +kernel
theorem d_Prs_orderOfNext_42 : decode b_Prs_orderOfNext 42 = .ok (.iload_n 3, 1) := by decide +kernel
theorem d_Prs_orderOfNext_43 : decode b_Prs_orderOfNext 43 = .ok (.laload, 1) := by decide +kernel
theorem d_Prs_orderOfNext_44 : decode b_Prs_orderOfNext 44 = .ok (.invokestatic 41, 3) := by decide +kernel
theorem d_Prs_orderOfNext_47 : decode b_Prs_orderOfNext 47 = .ok (.ireturn, 1) := by decide +kernel
theorem d_Bag_empty_0 : decode b_Bag_empty 0 = .ok (.aload_n 0, 1) := by decide +kernel
theorem d_Bag_empty_1 : decode b_Bag_empty 1 = .ok (.iconst 0, 1) := by decide +kernel
theorem d_Bag_empty_2 : decode b_Bag_empty 2 = .ok (.putfield 22, 3) := by decide +kernel
theorem d_Bag_empty_5 : decode b_Bag_empty 5 = .ok (.return_, 1) := by decide +kernel
theorem d_CB_fits_0 : decode b_CB_fits 0 = .ok (.iload_n 0, 1) := by decide +kernel
theorem d_CB_fits_1 : decode b_CB_fits 1 = .ok (.lookupswitch 39 #[(0, 27), (1, 33)], 27) := by decide +kernel
theorem d_CB_fits_28 : decode b_CB_fits 28 = .ok (.lload_n 1, 1) := by decide +kernel
theorem d_CB_fits_29 : decode b_CB_fits 29 = .ok (.lload_n 3, 1) := by decide +kernel
theorem d_CB_fits_30 : decode b_CB_fits 30 = .ok (.invokestatic 42, 3) := by decide +kernel
theorem d_CB_fits_33 : decode b_CB_fits 33 = .ok (.ireturn, 1) := by decide +kernel
theorem d_CB_fits_34 : decode b_CB_fits 34 = .ok (.lload_n 1, 1) := by decide +kernel
theorem d_CB_fits_35 : decode b_CB_fits 35 = .ok (.lload_n 3, 1) := by decide +kernel
theorem d_CB_fits_36 : decode b_CB_fits 36 = .ok (.invokestatic 145, 3) := by decide +kernel
theorem d_CB_fits_39 : decode b_CB_fits 39 = .ok (.ireturn, 1) := by decide +kernel
theorem d_CB_fits_40 : decode b_CB_fits 40 = .ok (.iconst 1, 1) := by decide +kernel
theorem d_CB_fits_41 : decode b_CB_fits 41 = .ok (.ireturn, 1) := by decide +kernel
theorem d_CB_differenceFits_0 : decode b_CB_differenceFits 0 = .ok (.lload_n 2, 1) := by decide +kernel
theorem d_CB_differenceFits_1 : decode b_CB_differenceFits 1 = .ok (.lconst 0, 1) := by decide +kernel
theorem d_CB_differenceFits_2 : decode b_CB_differenceFits 2 = .ok (.lcmp, 1) := by decide +kernel
theorem d_CB_differenceFits_3 : decode b_CB_differenceFits 3 = .ok (.ifCond .lt 21, 3) := by decide +kernel
theorem d_CB_differenceFits_6 : decode b_CB_differenceFits 6 = .ok (.lload_n 0, 1) := by decide +kernel
theorem d_CB_differenceFits_7 : decode b_CB_differenceFits 7 = .ok (.ldc2_w 148, 3) := by decide +kernel
theorem d_CB_differenceFits_10 : decode b_CB_differenceFits 10 = .ok (.lload_n 2, 1) := by decide +kernel
theorem d_CB_differenceFits_11 : decode b_CB_differenceFits 11 = .ok (.ladd, 1) := by decide +kernel
theorem d_CB_differenceFits_12 : decode b_CB_differenceFits 12 = .ok (.lcmp, 1) := by decide +kernel
theorem d_CB_differenceFits_13 : decode b_CB_differenceFits 13 = .ok (.ifCond .lt 7, 3) := by decide +kernel
theorem d_CB_differenceFits_16 : decode b_CB_differenceFits 16 = .ok (.iconst 1, 1) := by decide +kernel
theorem d_CB_differenceFits_17 : decode b_CB_differenceFits 17 = .ok (.goto 22, 3) := by decide +kernel
theorem d_CB_differenceFits_20 : decode b_CB_differenceFits 20 = .ok (.iconst 0, 1) := by decide +kernel
theorem d_CB_differenceFits_21 : decode b_CB_differenceFits 21 = .ok (.goto 18, 3) := by decide +kernel
theorem d_CB_differenceFits_24 : decode b_CB_differenceFits 24 = .ok (.lload_n 0, 1) := by decide +kernel
theorem d_CB_differenceFits_25 : decode b_CB_differenceFits 25 = .ok (.ldc2_w 99, 3) := by decide +kernel
theorem d_CB_differenceFits_28 : decode b_CB_differenceFits 28 = .ok (.lload_n 2, 1) := by decide +kernel
theorem d_CB_differenceFits_29 : decode b_CB_differenceFits 29 = .ok (.ladd, 1) := by decide +kernel
theorem d_CB_differenceFits_30 : decode b_CB_differenceFits 30 = .ok (.lcmp, 1) := by decide +kernel
theorem d_CB_differenceFits_31 : decode b_CB_differenceFits 31 = .ok (.ifCond .gt 7, 3) := by decide +kernel
theorem d_CB_differenceFits_34 : decode b_CB_differenceFits 34 = .ok (.iconst 1, 1) := by decide +kernel
theorem d_CB_differenceFits_35 : decode b_CB_differenceFits 35 = .ok (.goto 4, 3) := by decide +kernel
theorem d_CB_differenceFits_38 : decode b_CB_differenceFits 38 = .ok (.iconst 0, 1) := by decide +kernel
theorem d_CB_differenceFits_39 : decode b_CB_differenceFits 39 = .ok (.ireturn, 1) := by decide +kernel
theorem d_CB_combined_0 : decode b_CB_combined 0 = .ok (.iload_n 0, 1) := by decide +kernel
theorem d_CB_combined_1 : decode b_CB_combined 1 = .ok (.lookupswitch 35 #[(0, 27), (1, 31)], 27) := by decide +kernel
theorem d_CB_combined_28 : decode b_CB_combined 28 = .ok (.lload_n 1, 1) := by decide +kernel
theorem d_CB_combined_29 : decode b_CB_combined 29 = .ok (.lload_n 3, 1) := by decide +kernel
theorem d_CB_combined_30 : decode b_CB_combined 30 = .ok (.ladd, 1) := by decide +kernel
theorem d_CB_combined_31 : decode b_CB_combined 31 = .ok (.lreturn, 1) := by decide +kernel
theorem d_CB_combined_32 : decode b_CB_combined 32 = .ok (.lload_n 1, 1) := by decide +kernel
theorem d_CB_combined_33 : decode b_CB_combined 33 = .ok (.lload_n 3, 1) := by decide +kernel
theorem d_CB_combined_34 : decode b_CB_combined 34 = .ok (.lsub, 1) := by decide +kernel
theorem d_CB_combined_35 : decode b_CB_combined 35 = .ok (.lreturn, 1) := by decide +kernel
theorem d_CB_combined_36 : decode b_CB_combined 36 = .ok (.lload_n 1, 1) := by decide +kernel
theorem d_CB_combined_37 : decode b_CB_combined 37 = .ok (.lload_n 3, 1) := by decide +kernel
theorem d_CB_combined_38 : decode b_CB_combined 38 = .ok (.invokestatic 107, 3) := by decide +kernel
theorem d_CB_combined_41 : decode b_CB_combined 41 = .ok (.lreturn, 1) := by decide +kernel
theorem d_JM_min_0 : decode b_JM_min 0 = .ok (.lload_n 0, 1) := by decide +kernel
theorem d_JM_min_1 : decode b_JM_min 1 = .ok (.lload_n 2, 1) := by decide +kernel
theorem d_JM_min_2 : decode b_JM_min 2 = .ok (.lcmp, 1) := by decide +kernel
theorem d_JM_min_3 : decode b_JM_min 3 = .ok (.ifCond .gt 7, 3) := by decide +kernel
theorem d_JM_min_6 : decode b_JM_min 6 = .ok (.lload_n 0, 1) := by decide +kernel
theorem d_JM_min_7 : decode b_JM_min 7 = .ok (.goto 4, 3) := by decide +kernel
theorem d_JM_min_10 : decode b_JM_min 10 = .ok (.lload_n 2, 1) := by decide +kernel
theorem d_JM_min_11 : decode b_JM_min 11 = .ok (.lreturn, 1) := by decide +kernel
theorem d_Bag_append_0 : decode b_Bag_append 0 = .ok (.lload 4, 2) := by decide +kernel
theorem d_Bag_append_2 : decode b_Bag_append 2 = .ok (.lconst 0, 1) := by decide +kernel
theorem d_Bag_append_3 : decode b_Bag_append 3 = .ok (.lcmp, 1) := by decide +kernel
theorem d_Bag_append_4 : decode b_Bag_append 4 = .ok (.ifCond .ne 5, 3) := by decide +kernel
theorem d_Bag_append_7 : decode b_Bag_append 7 = .ok (.iconst 1, 1) := by decide +kernel
theorem d_Bag_append_8 : decode b_Bag_append 8 = .ok (.ireturn, 1) := by decide +kernel
theorem d_Bag_append_9 : decode b_Bag_append 9 = .ok (.aload_n 0, 1) := by decide +kernel
theorem d_Bag_append_10 : decode b_Bag_append 10 = .ok (.getfield 22, 3) := by decide +kernel
theorem d_Bag_append_13 : decode b_Bag_append 13 = .ok (.bipush 64, 2) := by decide +kernel
theorem d_Bag_append_15 : decode b_Bag_append 15 = .ok (.if_icmp .lt 5, 3) := by decide +kernel
theorem d_Bag_append_18 : decode b_Bag_append 18 = .ok (.iconst 0, 1) := by decide +kernel
theorem d_Bag_append_19 : decode b_Bag_append 19 = .ok (.ireturn, 1) := by decide +kernel
theorem d_Bag_append_20 : decode b_Bag_append 20 = .ok (.aload_n 0, 1) := by decide +kernel
theorem d_Bag_append_21 : decode b_Bag_append 21 = .ok (.getfield 9, 3) := by decide +kernel
theorem d_Bag_append_24 : decode b_Bag_append 24 = .ok (.aload_n 0, 1) := by decide +kernel
theorem d_Bag_append_25 : decode b_Bag_append 25 = .ok (.getfield 22, 3) := by decide +kernel
theorem d_Bag_append_28 : decode b_Bag_append 28 = .ok (.iload_n 1, 1) := by decide +kernel
theorem d_Bag_append_29 : decode b_Bag_append 29 = .ok (.iastore, 1) := by decide +kernel
theorem d_Bag_append_30 : decode b_Bag_append 30 = .ok (.aload_n 0, 1) := by decide +kernel
theorem d_Bag_append_31 : decode b_Bag_append 31 = .ok (.getfield 15, 3) := by decide +kernel
theorem d_Bag_append_34 : decode b_Bag_append 34 = .ok (.aload_n 0, 1) := by decide +kernel
theorem d_Bag_append_35 : decode b_Bag_append 35 = .ok (.getfield 22, 3) := by decide +kernel
theorem d_Bag_append_38 : decode b_Bag_append 38 = .ok (.lload_n 2, 1) := by decide +kernel
theorem d_Bag_append_39 : decode b_Bag_append 39 = .ok (.lastore, 1) := by decide +kernel
theorem d_Bag_append_40 : decode b_Bag_append 40 = .ok (.aload_n 0, 1) := by decide +kernel
theorem d_Bag_append_41 : decode b_Bag_append 41 = .ok (.getfield 19, 3) := by decide +kernel
theorem d_Bag_append_44 : decode b_Bag_append 44 = .ok (.aload_n 0, 1) := by decide +kernel
theorem d_Bag_append_45 : decode b_Bag_append 45 = .ok (.getfield 22, 3) := by decide +kernel
theorem d_Bag_append_48 : decode b_Bag_append 48 = .ok (.lload 4, 2) := by decide +kernel
theorem d_Bag_append_50 : decode b_Bag_append 50 = .ok (.lastore, 1) := by decide +kernel
theorem d_Bag_append_51 : decode b_Bag_append 51 = .ok (.aload_n 0, 1) := by decide +kernel
theorem d_Bag_append_52 : decode b_Bag_append 52 = .ok (.dup, 1) := by decide +kernel
theorem d_Bag_append_53 : decode b_Bag_append 53 = .ok (.getfield 22, 3) := by decide +kernel
theorem d_Bag_append_56 : decode b_Bag_append 56 = .ok (.iconst 1, 1) := by decide +kernel
theorem d_Bag_append_57 : decode b_Bag_append 57 = .ok (.iadd, 1) := by decide +kernel
theorem d_Bag_append_58 : decode b_Bag_append 58 = .ok (.putfield 22, 3) := by decide +kernel
theorem d_Bag_append_61 : decode b_Bag_append 61 = .ok (.iconst 1, 1) := by decide +kernel
theorem d_Bag_append_62 : decode b_Bag_append 62 = .ok (.ireturn, 1) := by decide +kernel
theorem d_CB_exchangeSpare_0 : decode b_CB_exchangeSpare 0 = .ok (.aload_n 0, 1) := by decide +kernel
theorem d_CB_exchangeSpare_1 : decode b_CB_exchangeSpare 1 = .ok (.getfield 11, 3) := by decide +kernel
theorem d_CB_exchangeSpare_4 : decode b_CB_exchangeSpare 4 = .ok (.iload_n 1, 1) := by decide +kernel
theorem d_CB_exchangeSpare_5 : decode b_CB_exchangeSpare 5 = .ok (.aaload, 1) := by decide +kernel
theorem d_CB_exchangeSpare_6 : decode b_CB_exchangeSpare 6 = .ok (.astore_n 2, 1) := by decide +kernel
theorem d_CB_exchangeSpare_7 : decode b_CB_exchangeSpare 7 = .ok (.aload_n 0, 1) := by decide +kernel
theorem d_CB_exchangeSpare_8 : decode b_CB_exchangeSpare 8 = .ok (.getfield 11, 3) := by decide +kernel
theorem d_CB_exchangeSpare_11 : decode b_CB_exchangeSpare 11 = .ok (.iload_n 1, 1) := by decide +kernel
theorem d_CB_exchangeSpare_12 : decode b_CB_exchangeSpare 12 = .ok (.aload_n 0, 1) := by decide +kernel
theorem d_CB_exchangeSpare_13 : decode b_CB_exchangeSpare 13 = .ok (.getfield 23, 3) := by decide +kernel
theorem d_CB_exchangeSpare_16 : decode b_CB_exchangeSpare 16 = .ok (.aastore, 1) := by decide +kernel
theorem d_CB_exchangeSpare_17 : decode b_CB_exchangeSpare 17 = .ok (.aload_n 0, 1) := by decide +kernel
theorem d_CB_exchangeSpare_18 : decode b_CB_exchangeSpare 18 = .ok (.aload_n 2, 1) := by decide +kernel
theorem d_CB_exchangeSpare_19 : decode b_CB_exchangeSpare 19 = .ok (.putfield 23, 3) := by decide +kernel
theorem d_CB_exchangeSpare_22 : decode b_CB_exchangeSpare 22 = .ok (.return_, 1) := by decide +kernel
theorem d_Law_less_0 : decode b_Law_less 0 = .ok (.aload 4, 2) := by decide +kernel
theorem d_Law_less_2 : decode b_Law_less 2 = .ok (.iconst 0, 1) := by decide +kernel
theorem d_Law_less_3 : decode b_Law_less 3 = .ok (.aload_n 0, 1) := by decide +kernel
theorem d_Law_less_4 : decode b_Law_less 4 = .ok (.iload_n 1, 1) := by decide +kernel
theorem d_Law_less_5 : decode b_Law_less 5 = .ok (.iload_n 2, 1) := by decide +kernel
theorem d_Law_less_6 : decode b_Law_less 6 = .ok (.iload_n 3, 1) := by decide +kernel
theorem d_Law_less_7 : decode b_Law_less 7 = .ok (.invokevirtual 24, 3) := by decide +kernel
theorem d_Law_less_10 : decode b_Law_less 10 = .ok (.ifCond .eq 7, 3) := by decide +kernel
theorem d_Law_less_13 : decode b_Law_less 13 = .ok (.lconst 1, 1) := by decide +kernel
theorem d_Law_less_14 : decode b_Law_less 14 = .ok (.goto 4, 3) := by decide +kernel
theorem d_Law_less_17 : decode b_Law_less 17 = .ok (.lconst 0, 1) := by decide +kernel
theorem d_Law_less_18 : decode b_Law_less 18 = .ok (.lastore, 1) := by decide +kernel
theorem d_Law_less_19 : decode b_Law_less 19 = .ok (.goto 7, 3) := by decide +kernel
theorem d_Law_less_22 : decode b_Law_less 22 = .ok (.astore 5, 2) := by decide +kernel
theorem d_Law_less_24 : decode b_Law_less 24 = .ok (.iconst 1, 1) := by decide +kernel
theorem d_Law_less_25 : decode b_Law_less 25 = .ok (.ireturn, 1) := by decide +kernel
theorem d_Law_less_26 : decode b_Law_less 26 = .ok (.iconst 0, 1) := by decide +kernel
theorem d_Law_less_27 : decode b_Law_less 27 = .ok (.ireturn, 1) := by decide +kernel
theorem d_CB_less_0 : decode b_CB_less 0 = .ok (.aload_n 0, 1) := by decide +kernel
theorem d_CB_less_1 : decode b_CB_less 1 = .ok (.iload_n 1, 1) := by decide +kernel
theorem d_CB_less_2 : decode b_CB_less 2 = .ok (.iload_n 2, 1) := by decide +kernel
theorem d_CB_less_3 : decode b_CB_less 3 = .ok (.iload_n 3, 1) := by decide +kernel
theorem d_CB_less_4 : decode b_CB_less 4 = .ok (.iconst 1, 1) := by decide +kernel
theorem d_CB_less_5 : decode b_CB_less 5 = .ok (.invokevirtual 46, 3) := by decide +kernel
theorem d_CB_less_8 : decode b_CB_less 8 = .ok (.ireturn, 1) := by decide +kernel
theorem d_Law_times_0 : decode b_Law_times 0 = .ok (.aload 5, 2) := by decide +kernel
theorem d_Law_times_2 : decode b_Law_times 2 = .ok (.iconst 0, 1) := by decide +kernel
theorem d_Law_times_3 : decode b_Law_times 3 = .ok (.aload_n 0, 1) := by decide +kernel
theorem d_Law_times_4 : decode b_Law_times 4 = .ok (.iload_n 1, 1) := by decide +kernel
theorem d_Law_times_5 : decode b_Law_times 5 = .ok (.lload_n 2, 1) := by decide +kernel
theorem d_Law_times_6 : decode b_Law_times 6 = .ok (.iload 4, 2) := by decide +kernel
theorem d_Law_times_8 : decode b_Law_times 8 = .ok (.invokevirtual 27, 3) := by decide +kernel
theorem d_Law_times_11 : decode b_Law_times 11 = .ok (.ifCond .eq 7, 3) := by decide +kernel
theorem d_Law_times_14 : decode b_Law_times 14 = .ok (.lconst 1, 1) := by decide +kernel
theorem d_Law_times_15 : decode b_Law_times 15 = .ok (.goto 4, 3) := by decide +kernel
theorem d_Law_times_18 : decode b_Law_times 18 = .ok (.lconst 0, 1) := by decide +kernel
theorem d_Law_times_19 : decode b_Law_times 19 = .ok (.lastore, 1) := by decide +kernel
theorem d_Law_times_20 : decode b_Law_times 20 = .ok (.goto 7, 3) := by decide +kernel
theorem d_Law_times_23 : decode b_Law_times 23 = .ok (.astore 6, 2) := by decide +kernel
theorem d_Law_times_25 : decode b_Law_times 25 = .ok (.iconst 1, 1) := by decide +kernel
theorem d_Law_times_26 : decode b_Law_times 26 = .ok (.ireturn, 1) := by decide +kernel
theorem d_Law_times_27 : decode b_Law_times 27 = .ok (.iconst 0, 1) := by decide +kernel
theorem d_Law_times_28 : decode b_Law_times 28 = .ok (.ireturn, 1) := by decide +kernel
theorem d_CB_times_0 : decode b_CB_times 0 = .ok (.iload_n 1, 1) := by decide +kernel
theorem d_CB_times_1 : decode b_CB_times 1 = .ok (.invokestatic 27, 3) := by decide +kernel
theorem d_CB_times_4 : decode b_CB_times 4 = .ok (.iload 4, 2) := by decide +kernel
theorem d_CB_times_6 : decode b_CB_times 6 = .ok (.invokestatic 27, 3) := by decide +kernel
theorem d_CB_times_9 : decode b_CB_times 9 = .ok (.aload_n 0, 1) := by decide +kernel
theorem d_CB_times_10 : decode b_CB_times 10 = .ok (.getfield 11, 3) := by decide +kernel
theorem d_CB_times_13 : decode b_CB_times 13 = .ok (.iload_n 1, 1) := by decide +kernel
theorem d_CB_times_14 : decode b_CB_times 14 = .ok (.aaload, 1) := by decide +kernel
theorem d_CB_times_15 : decode b_CB_times 15 = .ok (.astore 5, 2) := by decide +kernel
theorem d_CB_times_17 : decode b_CB_times 17 = .ok (.aload_n 0, 1) := by decide +kernel
theorem d_CB_times_18 : decode b_CB_times 18 = .ok (.getfield 23, 3) := by decide +kernel
theorem d_CB_times_21 : decode b_CB_times 21 = .ok (.invokevirtual 50, 3) := by decide +kernel
theorem d_CB_times_24 : decode b_CB_times 24 = .ok (.iconst 0, 1) := by decide +kernel
theorem d_CB_times_25 : decode b_CB_times 25 = .ok (.istore 6, 2) := by decide +kernel
theorem d_CB_times_27 : decode b_CB_times 27 = .ok (.iload 6, 2) := by decide +kernel
theorem d_CB_times_29 : decode b_CB_times 29 = .ok (.aload 5, 2) := by decide +kernel
theorem d_CB_times_31 : decode b_CB_times 31 = .ok (.getfield 53, 3) := by decide +kernel
theorem d_CB_times_34 : decode b_CB_times 34 = .ok (.if_icmp .ge 60, 3) := by decide +kernel
theorem d_CB_times_37 : decode b_CB_times 37 = .ok (.aload 5, 2) := by decide +kernel
theorem d_CB_times_39 : decode b_CB_times 39 = .ok (.getfield 57, 3) := by decide +kernel
theorem d_CB_times_42 : decode b_CB_times 42 = .ok (.iload 6, 2) := by decide +kernel
theorem d_CB_times_44 : decode b_CB_times 44 = .ok (.laload, 1) := by decide +kernel
theorem d_CB_times_45 : decode b_CB_times 45 = .ok (.lload_n 2, 1) := by decide +kernel
theorem d_CB_times_46 : decode b_CB_times 46 = .ok (.invokestatic 61, 3) := by decide +kernel
theorem d_CB_times_49 : decode b_CB_times 49 = .ok (.ifCond .ne 5, 3) := by decide +kernel
theorem d_CB_times_52 : decode b_CB_times 52 = .ok (.iconst 0, 1) := by decide +kernel
theorem d_CB_times_53 : decode b_CB_times 53 = .ok (.ireturn, 1) := by decide +kernel
theorem d_CB_times_54 : decode b_CB_times 54 = .ok (.aload_n 0, 1) := by decide +kernel
theorem d_CB_times_55 : decode b_CB_times 55 = .ok (.getfield 23, 3) := by decide +kernel
theorem d_CB_times_58 : decode b_CB_times 58 = .ok (.aload 5, 2) := by decide +kernel
theorem d_CB_times_60 : decode b_CB_times 60 = .ok (.getfield 64, 3) := by decide +kernel
theorem d_CB_times_63 : decode b_CB_times 63 = .ok (.iload 6, 2) := by decide +kernel
theorem d_CB_times_65 : decode b_CB_times 65 = .ok (.iaload, 1) := by decide +kernel
theorem d_CB_times_66 : decode b_CB_times 66 = .ok (.aload 5, 2) := by decide +kernel
theorem d_CB_times_68 : decode b_CB_times 68 = .ok (.getfield 68, 3) := by decide +kernel
theorem d_CB_times_71 : decode b_CB_times 71 = .ok (.iload 6, 2) := by decide +kernel
theorem d_CB_times_73 : decode b_CB_times 73 = .ok (.laload, 1) := by decide +kernel
theorem d_CB_times_74 : decode b_CB_times 74 = .ok (.aload 5, 2) := by decide +kernel
theorem d_CB_times_76 : decode b_CB_times 76 = .ok (.getfield 57, 3) := by decide +kernel
theorem d_CB_times_79 : decode b_CB_times 79 = .ok (.iload 6, 2) := by decide +kernel
theorem d_CB_times_81 : decode b_CB_times 81 = .ok (.laload, 1) := by decide +kernel
theorem d_CB_times_82 : decode b_CB_times 82 = .ok (.lload_n 2, 1) := by decide +kernel
theorem d_CB_times_83 : decode b_CB_times 83 = .ok (.lmul, 1) := by decide +kernel
theorem d_CB_times_84 : decode b_CB_times 84 = .ok (.invokevirtual 71, 3) := by decide +kernel
theorem d_CB_times_87 : decode b_CB_times 87 = .ok (.pop, 1) := by decide +kernel
theorem d_CB_times_88 : decode b_CB_times 88 = .ok (.iinc 6 1, 3) := by decide +kernel
theorem d_CB_times_91 : decode b_CB_times 91 = .ok (.goto (-64), 3) := by decide +kernel
theorem d_CB_times_94 : decode b_CB_times 94 = .ok (.aload_n 0, 1) := by decide +kernel
theorem d_CB_times_95 : decode b_CB_times 95 = .ok (.iload 4, 2) := by decide +kernel
theorem d_CB_times_97 : decode b_CB_times 97 = .ok (.invokevirtual 74, 3) := by decide +kernel
theorem d_CB_times_100 : decode b_CB_times 100 = .ok (.iconst 1, 1) := by decide +kernel
theorem d_CB_times_101 : decode b_CB_times 101 = .ok (.ireturn, 1) := by decide +kernel
theorem d_CB_productFits_0 : decode b_CB_productFits 0 = .ok (.lload_n 2, 1) := by decide +kernel
theorem d_CB_productFits_1 : decode b_CB_productFits 1 = .ok (.lconst 0, 1) := by decide +kernel
theorem d_CB_productFits_2 : decode b_CB_productFits 2 = .ok (.lcmp, 1) := by decide +kernel
theorem d_CB_productFits_3 : decode b_CB_productFits 3 = .ok (.ifCond .ne 5, 3) := by decide +kernel
theorem d_CB_productFits_6 : decode b_CB_productFits 6 = .ok (.iconst 1, 1) := by decide +kernel
theorem d_CB_productFits_7 : decode b_CB_productFits 7 = .ok (.ireturn, 1) := by decide +kernel
theorem d_CB_productFits_8 : decode b_CB_productFits 8 = .ok (.lload_n 2, 1) := by decide +kernel
theorem d_CB_productFits_9 : decode b_CB_productFits 9 = .ok (.ldc2_w 113, 3) := by decide +kernel
theorem d_CB_productFits_12 : decode b_CB_productFits 12 = .ok (.lcmp, 1) := by decide +kernel
theorem d_CB_productFits_13 : decode b_CB_productFits 13 = .ok (.ifCond .ne 17, 3) := by decide +kernel
theorem d_CB_productFits_16 : decode b_CB_productFits 16 = .ok (.lload_n 0, 1) := by decide +kernel
theorem d_CB_productFits_17 : decode b_CB_productFits 17 = .ok (.ldc2_w 148, 3) := by decide +kernel
theorem d_CB_productFits_20 : decode b_CB_productFits 20 = .ok (.lcmp, 1) := by decide +kernel
theorem d_CB_productFits_21 : decode b_CB_productFits 21 = .ok (.ifCond .eq 7, 3) := by decide +kernel
theorem d_CB_productFits_24 : decode b_CB_productFits 24 = .ok (.iconst 1, 1) := by decide +kernel
theorem d_CB_productFits_25 : decode b_CB_productFits 25 = .ok (.goto 4, 3) := by decide +kernel
theorem d_CB_productFits_28 : decode b_CB_productFits 28 = .ok (.iconst 0, 1) := by decide +kernel
theorem d_CB_productFits_29 : decode b_CB_productFits 29 = .ok (.ireturn, 1) := by decide +kernel
theorem d_CB_productFits_30 : decode b_CB_productFits 30 = .ok (.lload_n 0, 1) := by decide +kernel
theorem d_CB_productFits_31 : decode b_CB_productFits 31 = .ok (.lload_n 2, 1) := by decide +kernel
theorem d_CB_productFits_32 : decode b_CB_productFits 32 = .ok (.lmul, 1) := by decide +kernel
theorem d_CB_productFits_33 : decode b_CB_productFits 33 = .ok (.lload_n 2, 1) := by decide +kernel
theorem d_CB_productFits_34 : decode b_CB_productFits 34 = .ok (.ldiv, 1) := by decide +kernel
theorem d_CB_productFits_35 : decode b_CB_productFits 35 = .ok (.lload_n 0, 1) := by decide +kernel
theorem d_CB_productFits_36 : decode b_CB_productFits 36 = .ok (.lcmp, 1) := by decide +kernel
theorem d_CB_productFits_37 : decode b_CB_productFits 37 = .ok (.ifCond .ne 7, 3) := by decide +kernel
theorem d_CB_productFits_40 : decode b_CB_productFits 40 = .ok (.iconst 1, 1) := by decide +kernel
theorem d_CB_productFits_41 : decode b_CB_productFits 41 = .ok (.goto 4, 3) := by decide +kernel
theorem d_CB_productFits_44 : decode b_CB_productFits 44 = .ok (.iconst 0, 1) := by decide +kernel
theorem d_CB_productFits_45 : decode b_CB_productFits 45 = .ok (.ireturn, 1) := by decide +kernel
theorem d_Law_only_0 : decode b_Law_only 0 = .ok (.aload_n 0, 1) := by decide +kernel
theorem d_Law_only_1 : decode b_Law_only 1 = .ok (.iload_n 1, 1) := by decide +kernel
theorem d_Law_only_2 : decode b_Law_only 2 = .ok (.iload_n 2, 1) := by decide +kernel
theorem d_Law_only_3 : decode b_Law_only 3 = .ok (.iload_n 3, 1) := by decide +kernel
theorem d_Law_only_4 : decode b_Law_only 4 = .ok (.iload 4, 2) := by decide +kernel
theorem d_Law_only_6 : decode b_Law_only 6 = .ok (.invokevirtual 31, 3) := by decide +kernel
theorem d_Law_only_9 : decode b_Law_only 9 = .ok (.goto 11, 3) := by decide +kernel
theorem d_Law_only_12 : decode b_Law_only 12 = .ok (.astore 5, 2) := by decide +kernel
theorem d_Law_only_14 : decode b_Law_only 14 = .ok (.iconst 1, 1) := by decide +kernel
theorem d_Law_only_15 : decode b_Law_only 15 = .ok (.ireturn, 1) := by decide +kernel
theorem d_Law_only_16 : decode b_Law_only 16 = .ok (.astore 5, 2) := by decide +kernel
theorem d_Law_only_18 : decode b_Law_only 18 = .ok (.iconst 2, 1) := by decide +kernel
theorem d_Law_only_19 : decode b_Law_only 19 = .ok (.ireturn, 1) := by decide +kernel
theorem d_Law_only_20 : decode b_Law_only 20 = .ok (.iconst 0, 1) := by decide +kernel
theorem d_Law_only_21 : decode b_Law_only 21 = .ok (.ireturn, 1) := by decide +kernel
theorem d_CB_only_0 : decode b_CB_only 0 = .ok (.iload_n 1, 1) := by decide +kernel
theorem d_CB_only_1 : decode b_CB_only 1 = .ok (.invokestatic 27, 3) := by decide +kernel
theorem d_CB_only_4 : decode b_CB_only 4 = .ok (.iload 4, 2) := by decide +kernel
theorem d_CB_only_6 : decode b_CB_only 6 = .ok (.invokestatic 27, 3) := by decide +kernel
theorem d_CB_only_9 : decode b_CB_only 9 = .ok (.iload_n 2, 1) := by decide +kernel
theorem d_CB_only_10 : decode b_CB_only 10 = .ok (.invokestatic 31, 3) := by decide +kernel
theorem d_CB_only_13 : decode b_CB_only 13 = .ok (.aload_n 0, 1) := by decide +kernel
theorem d_CB_only_14 : decode b_CB_only 14 = .ok (.getfield 11, 3) := by decide +kernel
theorem d_CB_only_17 : decode b_CB_only 17 = .ok (.iload_n 1, 1) := by decide +kernel
theorem d_CB_only_18 : decode b_CB_only 18 = .ok (.aaload, 1) := by decide +kernel
theorem d_CB_only_19 : decode b_CB_only 19 = .ok (.astore 5, 2) := by decide +kernel
theorem d_CB_only_21 : decode b_CB_only 21 = .ok (.aload_n 0, 1) := by decide +kernel
theorem d_CB_only_22 : decode b_CB_only 22 = .ok (.getfield 23, 3) := by decide +kernel
theorem d_CB_only_25 : decode b_CB_only 25 = .ok (.invokevirtual 50, 3) := by decide +kernel
theorem d_CB_only_28 : decode b_CB_only 28 = .ok (.iconst 0, 1) := by decide +kernel
theorem d_CB_only_29 : decode b_CB_only 29 = .ok (.istore 6, 2) := by decide +kernel
theorem d_CB_only_31 : decode b_CB_only 31 = .ok (.iload 6, 2) := by decide +kernel
theorem d_CB_only_33 : decode b_CB_only 33 = .ok (.aload 5, 2) := by decide +kernel
theorem d_CB_only_35 : decode b_CB_only 35 = .ok (.getfield 53, 3) := by decide +kernel
theorem d_CB_only_38 : decode b_CB_only 38 = .ok (.if_icmp .ge 62, 3) := by decide +kernel
theorem d_CB_only_41 : decode b_CB_only 41 = .ok (.aload 5, 2) := by decide +kernel
theorem d_CB_only_43 : decode b_CB_only 43 = .ok (.getfield 64, 3) := by decide +kernel
theorem d_CB_only_46 : decode b_CB_only 46 = .ok (.iload 6, 2) := by decide +kernel
theorem d_CB_only_48 : decode b_CB_only 48 = .ok (.iaload, 1) := by decide +kernel
theorem d_CB_only_49 : decode b_CB_only 49 = .ok (.iload_n 2, 1) := by decide +kernel
theorem d_CB_only_50 : decode b_CB_only 50 = .ok (.if_icmp .ne 7, 3) := by decide +kernel
theorem d_CB_only_53 : decode b_CB_only 53 = .ok (.iconst 1, 1) := by decide +kernel
theorem d_CB_only_54 : decode b_CB_only 54 = .ok (.goto 4, 3) := by decide +kernel
theorem d_CB_only_57 : decode b_CB_only 57 = .ok (.iconst 0, 1) := by decide +kernel
theorem d_CB_only_58 : decode b_CB_only 58 = .ok (.iload_n 3, 1) := by decide +kernel
theorem d_CB_only_59 : decode b_CB_only 59 = .ok (.if_icmp .ne 35, 3) := by decide +kernel
theorem d_CB_only_62 : decode b_CB_only 62 = .ok (.aload_n 0, 1) := by decide +kernel
theorem d_CB_only_63 : decode b_CB_only 63 = .ok (.getfield 23, 3) := by decide +kernel
theorem d_CB_only_66 : decode b_CB_only 66 = .ok (.aload 5, 2) := by decide +kernel
theorem d_CB_only_68 : decode b_CB_only 68 = .ok (.getfield 64, 3) := by decide +kernel
theorem d_CB_only_71 : decode b_CB_only 71 = .ok (.iload 6, 2) := by decide +kernel
theorem d_CB_only_73 : decode b_CB_only 73 = .ok (.iaload, 1) := by decide +kernel
theorem d_CB_only_74 : decode b_CB_only 74 = .ok (.aload 5, 2) := by decide +kernel
theorem d_CB_only_76 : decode b_CB_only 76 = .ok (.getfield 68, 3) := by decide +kernel
theorem d_CB_only_79 : decode b_CB_only 79 = .ok (.iload 6, 2) := by decide +kernel
theorem d_CB_only_81 : decode b_CB_only 81 = .ok (.laload, 1) := by decide +kernel
theorem d_CB_only_82 : decode b_CB_only 82 = .ok (.aload 5, 2) := by decide +kernel
theorem d_CB_only_84 : decode b_CB_only 84 = .ok (.getfield 57, 3) := by decide +kernel
theorem d_CB_only_87 : decode b_CB_only 87 = .ok (.iload 6, 2) := by decide +kernel
theorem d_CB_only_89 : decode b_CB_only 89 = .ok (.laload, 1) := by decide +kernel
theorem d_CB_only_90 : decode b_CB_only 90 = .ok (.invokevirtual 71, 3) := by decide +kernel
theorem d_CB_only_93 : decode b_CB_only 93 = .ok (.pop, 1) := by decide +kernel
theorem d_CB_only_94 : decode b_CB_only 94 = .ok (.iinc 6 1, 3) := by decide +kernel
theorem d_CB_only_97 : decode b_CB_only 97 = .ok (.goto (-66), 3) := by decide +kernel
theorem d_CB_only_100 : decode b_CB_only 100 = .ok (.aload_n 0, 1) := by decide +kernel
theorem d_CB_only_101 : decode b_CB_only 101 = .ok (.iload 4, 2) := by decide +kernel
theorem d_CB_only_103 : decode b_CB_only 103 = .ok (.invokevirtual 74, 3) := by decide +kernel
theorem d_CB_only_106 : decode b_CB_only 106 = .ok (.return_, 1) := by decide +kernel
theorem d_Law_part_0 : decode b_Law_part 0 = .ok (.aload 4, 2) := by decide +kernel
theorem d_Law_part_2 : decode b_Law_part 2 = .ok (.iconst 0, 1) := by decide +kernel
theorem d_Law_part_3 : decode b_Law_part 3 = .ok (.aload_n 0, 1) := by decide +kernel
theorem d_Law_part_4 : decode b_Law_part 4 = .ok (.iload_n 1, 1) := by decide +kernel
theorem d_Law_part_5 : decode b_Law_part 5 = .ok (.iload_n 2, 1) := by decide +kernel
theorem d_Law_part_6 : decode b_Law_part 6 = .ok (.iload_n 3, 1) := by decide +kernel
theorem d_Law_part_7 : decode b_Law_part 7 = .ok (.invokevirtual 35, 3) := by decide +kernel
theorem d_Law_part_10 : decode b_Law_part 10 = .ok (.ifCond .eq 7, 3) := by decide +kernel
theorem d_Law_part_13 : decode b_Law_part 13 = .ok (.lconst 1, 1) := by decide +kernel
theorem d_Law_part_14 : decode b_Law_part 14 = .ok (.goto 4, 3) := by decide +kernel
theorem d_Law_part_17 : decode b_Law_part 17 = .ok (.lconst 0, 1) := by decide +kernel
theorem d_Law_part_18 : decode b_Law_part 18 = .ok (.lastore, 1) := by decide +kernel
theorem d_Law_part_19 : decode b_Law_part 19 = .ok (.goto 7, 3) := by decide +kernel
theorem d_Law_part_22 : decode b_Law_part 22 = .ok (.astore 5, 2) := by decide +kernel
theorem d_Law_part_24 : decode b_Law_part 24 = .ok (.iconst 1, 1) := by decide +kernel
theorem d_Law_part_25 : decode b_Law_part 25 = .ok (.ireturn, 1) := by decide +kernel
theorem d_Law_part_26 : decode b_Law_part 26 = .ok (.iconst 0, 1) := by decide +kernel
theorem d_Law_part_27 : decode b_Law_part 27 = .ok (.ireturn, 1) := by decide +kernel
theorem d_CB_part_0 : decode b_CB_part 0 = .ok (.iload_n 1, 1) := by decide +kernel
theorem d_CB_part_1 : decode b_CB_part 1 = .ok (.invokestatic 27, 3) := by decide +kernel
theorem d_CB_part_4 : decode b_CB_part 4 = .ok (.iload_n 3, 1) := by decide +kernel
theorem d_CB_part_5 : decode b_CB_part 5 = .ok (.invokestatic 27, 3) := by decide +kernel
theorem d_CB_part_8 : decode b_CB_part 8 = .ok (.iload_n 2, 1) := by decide +kernel
theorem d_CB_part_9 : decode b_CB_part 9 = .ok (.iconst 1, 1) := by decide +kernel
theorem d_CB_part_10 : decode b_CB_part 10 = .ok (.if_icmp .eq 10, 3) := by decide +kernel
theorem d_CB_part_13 : decode b_CB_part 13 = .ok (.iload_n 2, 1) := by decide +kernel
theorem d_CB_part_14 : decode b_CB_part 14 = .ok (.iconst (-1), 1) := by decide +kernel
theorem d_CB_part_15 : decode b_CB_part 15 = .ok (.if_icmp .eq 5, 3) := by decide +kernel
theorem d_CB_part_18 : decode b_CB_part 18 = .ok (.iconst 0, 1) := by decide +kernel
theorem d_CB_part_19 : decode b_CB_part 19 = .ok (.ireturn, 1) := by decide +kernel
theorem d_CB_part_20 : decode b_CB_part 20 = .ok (.aload_n 0, 1) := by decide +kernel
theorem d_CB_part_21 : decode b_CB_part 21 = .ok (.getfield 11, 3) := by decide +kernel
theorem d_CB_part_24 : decode b_CB_part 24 = .ok (.iload_n 1, 1) := by decide +kernel
theorem d_CB_part_25 : decode b_CB_part 25 = .ok (.aaload, 1) := by decide +kernel
theorem d_CB_part_26 : decode b_CB_part 26 = .ok (.astore 4, 2) := by decide +kernel
theorem d_CB_part_28 : decode b_CB_part 28 = .ok (.aload_n 0, 1) := by decide +kernel
theorem d_CB_part_29 : decode b_CB_part 29 = .ok (.getfield 23, 3) := by decide +kernel
theorem d_CB_part_32 : decode b_CB_part 32 = .ok (.invokevirtual 50, 3) := by decide +kernel
theorem d_CB_part_35 : decode b_CB_part 35 = .ok (.iconst 0, 1) := by decide +kernel
theorem d_CB_part_36 : decode b_CB_part 36 = .ok (.istore 5, 2) := by decide +kernel
theorem d_CB_part_38 : decode b_CB_part 38 = .ok (.iload 5, 2) := by decide +kernel
theorem d_CB_part_40 : decode b_CB_part 40 = .ok (.aload 4, 2) := by decide +kernel
theorem d_CB_part_42 : decode b_CB_part 42 = .ok (.getfield 53, 3) := by decide +kernel
theorem d_CB_part_45 : decode b_CB_part 45 = .ok (.if_icmp .ge 84, 3) := by decide +kernel
theorem d_CB_part_48 : decode b_CB_part 48 = .ok (.aload 4, 2) := by decide +kernel
theorem d_CB_part_50 : decode b_CB_part 50 = .ok (.getfield 57, 3) := by decide +kernel
theorem d_CB_part_53 : decode b_CB_part 53 = .ok (.iload 5, 2) := by decide +kernel
theorem d_CB_part_55 : decode b_CB_part 55 = .ok (.laload, 1) := by decide +kernel
theorem d_CB_part_56 : decode b_CB_part 56 = .ok (.lstore 6, 2) := by decide +kernel
theorem d_CB_part_58 : decode b_CB_part 58 = .ok (.lload 6, 2) := by decide +kernel
theorem d_CB_part_60 : decode b_CB_part 60 = .ok (.lconst 0, 1) := by decide +kernel
theorem d_CB_part_61 : decode b_CB_part 61 = .ok (.lcmp, 1) := by decide +kernel
theorem d_CB_part_62 : decode b_CB_part 62 = .ok (.ifCond .le 7, 3) := by decide +kernel
theorem d_CB_part_65 : decode b_CB_part 65 = .ok (.iconst 1, 1) := by decide +kernel
theorem d_CB_part_66 : decode b_CB_part 66 = .ok (.goto 4, 3) := by decide +kernel
theorem d_CB_part_69 : decode b_CB_part 69 = .ok (.iconst 0, 1) := by decide +kernel
theorem d_CB_part_70 : decode b_CB_part 70 = .ok (.iload_n 2, 1) := by decide +kernel
theorem d_CB_part_71 : decode b_CB_part 71 = .ok (.ifCond .le 7, 3) := by decide +kernel
theorem d_CB_part_74 : decode b_CB_part 74 = .ok (.iconst 1, 1) := by decide +kernel
theorem d_CB_part_75 : decode b_CB_part 75 = .ok (.goto 4, 3) := by decide +kernel
theorem d_CB_part_78 : decode b_CB_part 78 = .ok (.iconst 0, 1) := by decide +kernel
theorem d_CB_part_79 : decode b_CB_part 79 = .ok (.if_icmp .ne 44, 3) := by decide +kernel
theorem d_CB_part_82 : decode b_CB_part 82 = .ok (.lload 6, 2) := by decide +kernel
theorem d_CB_part_84 : decode b_CB_part 84 = .ok (.iload_n 2, 1) := by decide +kernel
theorem d_CB_part_85 : decode b_CB_part 85 = .ok (.i2l, 1) := by decide +kernel
theorem d_CB_part_86 : decode b_CB_part 86 = .ok (.invokestatic 61, 3) := by decide +kernel
theorem d_CB_part_89 : decode b_CB_part 89 = .ok (.ifCond .ne 5, 3) := by decide +kernel
theorem d_CB_part_92 : decode b_CB_part 92 = .ok (.iconst 0, 1) := by decide +kernel
theorem d_CB_part_93 : decode b_CB_part 93 = .ok (.ireturn, 1) := by decide +kernel
theorem d_CB_part_94 : decode b_CB_part 94 = .ok (.aload_n 0, 1) := by decide +kernel
theorem d_CB_part_95 : decode b_CB_part 95 = .ok (.getfield 23, 3) := by decide +kernel
theorem d_CB_part_98 : decode b_CB_part 98 = .ok (.aload 4, 2) := by decide +kernel
theorem d_CB_part_100 : decode b_CB_part 100 = .ok (.getfield 64, 3) := by decide +kernel
theorem d_CB_part_103 : decode b_CB_part 103 = .ok (.iload 5, 2) := by decide +kernel
theorem d_CB_part_105 : decode b_CB_part 105 = .ok (.iaload, 1) := by decide +kernel
theorem d_CB_part_106 : decode b_CB_part 106 = .ok (.aload 4, 2) := by decide +kernel
theorem d_CB_part_108 : decode b_CB_part 108 = .ok (.getfield 68, 3) := by decide +kernel
theorem d_CB_part_111 : decode b_CB_part 111 = .ok (.iload 5, 2) := by decide +kernel
theorem d_CB_part_113 : decode b_CB_part 113 = .ok (.laload, 1) := by decide +kernel
theorem d_CB_part_114 : decode b_CB_part 114 = .ok (.lload 6, 2) := by decide +kernel
theorem d_CB_part_116 : decode b_CB_part 116 = .ok (.iload_n 2, 1) := by decide +kernel
theorem d_CB_part_117 : decode b_CB_part 117 = .ok (.i2l, 1) := by decide +kernel
theorem d_CB_part_118 : decode b_CB_part 118 = .ok (.lmul, 1) := by decide +kernel
theorem d_CB_part_119 : decode b_CB_part 119 = .ok (.invokevirtual 71, 3) := by decide +kernel
theorem d_CB_part_122 : decode b_CB_part 122 = .ok (.pop, 1) := by decide +kernel
theorem d_CB_part_123 : decode b_CB_part 123 = .ok (.iinc 5 1, 3) := by decide +kernel
theorem d_CB_part_126 : decode b_CB_part 126 = .ok (.goto (-88), 3) := by decide +kernel
theorem d_CB_part_129 : decode b_CB_part 129 = .ok (.aload_n 0, 1) := by decide +kernel
theorem d_CB_part_130 : decode b_CB_part 130 = .ok (.iload_n 3, 1) := by decide +kernel
theorem d_CB_part_131 : decode b_CB_part 131 = .ok (.invokevirtual 74, 3) := by decide +kernel
theorem d_CB_part_134 : decode b_CB_part 134 = .ok (.iconst 1, 1) := by decide +kernel
theorem d_CB_part_135 : decode b_CB_part 135 = .ok (.ireturn, 1) := by decide +kernel
theorem d_Law_clear_0 : decode b_Law_clear 0 = .ok (.aload_n 0, 1) := by decide +kernel
theorem d_Law_clear_1 : decode b_Law_clear 1 = .ok (.iload_n 1, 1) := by decide +kernel
theorem d_Law_clear_2 : decode b_Law_clear 2 = .ok (.invokevirtual 38, 3) := by decide +kernel
theorem d_Law_clear_5 : decode b_Law_clear 5 = .ok (.goto 6, 3) := by decide +kernel
theorem d_Law_clear_8 : decode b_Law_clear 8 = .ok (.astore_n 2, 1) := by decide +kernel
theorem d_Law_clear_9 : decode b_Law_clear 9 = .ok (.iconst 1, 1) := by decide +kernel
theorem d_Law_clear_10 : decode b_Law_clear 10 = .ok (.ireturn, 1) := by decide +kernel
theorem d_Law_clear_11 : decode b_Law_clear 11 = .ok (.iconst 0, 1) := by decide +kernel
theorem d_Law_clear_12 : decode b_Law_clear 12 = .ok (.ireturn, 1) := by decide +kernel
theorem d_CB_clear_0 : decode b_CB_clear 0 = .ok (.iload_n 1, 1) := by decide +kernel
theorem d_CB_clear_1 : decode b_CB_clear 1 = .ok (.invokestatic 27, 3) := by decide +kernel
theorem d_CB_clear_4 : decode b_CB_clear 4 = .ok (.aload_n 0, 1) := by decide +kernel
theorem d_CB_clear_5 : decode b_CB_clear 5 = .ok (.getfield 11, 3) := by decide +kernel
theorem d_CB_clear_8 : decode b_CB_clear 8 = .ok (.iload_n 1, 1) := by decide +kernel
theorem d_CB_clear_9 : decode b_CB_clear 9 = .ok (.aaload, 1) := by decide +kernel
theorem d_CB_clear_10 : decode b_CB_clear 10 = .ok (.invokevirtual 50, 3) := by decide +kernel
theorem d_CB_clear_13 : decode b_CB_clear 13 = .ok (.return_, 1) := by decide +kernel
theorem d_Law_amount_0 : decode b_Law_amount 0 = .ok (.aload 5, 2) := by decide +kernel
theorem d_Law_amount_2 : decode b_Law_amount 2 = .ok (.iconst 0, 1) := by decide +kernel
theorem d_Law_amount_3 : decode b_Law_amount 3 = .ok (.aload_n 0, 1) := by decide +kernel
theorem d_Law_amount_4 : decode b_Law_amount 4 = .ok (.iload_n 1, 1) := by decide +kernel
theorem d_Law_amount_5 : decode b_Law_amount 5 = .ok (.iload_n 2, 1) := by decide +kernel
theorem d_Law_amount_6 : decode b_Law_amount 6 = .ok (.lload_n 3, 1) := by decide +kernel
theorem d_Law_amount_7 : decode b_Law_amount 7 = .ok (.invokevirtual 42, 3) := by decide +kernel
theorem d_Law_amount_10 : decode b_Law_amount 10 = .ok (.lastore, 1) := by decide +kernel
theorem d_Law_amount_11 : decode b_Law_amount 11 = .ok (.goto 11, 3) := by decide +kernel
theorem d_Law_amount_14 : decode b_Law_amount 14 = .ok (.astore 6, 2) := by decide +kernel
theorem d_Law_amount_16 : decode b_Law_amount 16 = .ok (.iconst 1, 1) := by decide +kernel
theorem d_Law_amount_17 : decode b_Law_amount 17 = .ok (.ireturn, 1) := by decide +kernel
theorem d_Law_amount_18 : decode b_Law_amount 18 = .ok (.astore 6, 2) := by decide +kernel
theorem d_Law_amount_20 : decode b_Law_amount 20 = .ok (.iconst 2, 1) := by decide +kernel
theorem d_Law_amount_21 : decode b_Law_amount 21 = .ok (.ireturn, 1) := by decide +kernel
theorem d_Law_amount_22 : decode b_Law_amount 22 = .ok (.iconst 0, 1) := by decide +kernel
theorem d_Law_amount_23 : decode b_Law_amount 23 = .ok (.ireturn, 1) := by decide +kernel
theorem d_CB_amount_0 : decode b_CB_amount 0 = .ok (.iload_n 1, 1) := by decide +kernel
theorem d_CB_amount_1 : decode b_CB_amount 1 = .ok (.invokestatic 27, 3) := by decide +kernel
theorem d_CB_amount_4 : decode b_CB_amount 4 = .ok (.iload_n 2, 1) := by decide +kernel
theorem d_CB_amount_5 : decode b_CB_amount 5 = .ok (.invokestatic 31, 3) := by decide +kernel
theorem d_CB_amount_8 : decode b_CB_amount 8 = .ok (.aload_n 0, 1) := by decide +kernel
theorem d_CB_amount_9 : decode b_CB_amount 9 = .ok (.getfield 11, 3) := by decide +kernel
theorem d_CB_amount_12 : decode b_CB_amount 12 = .ok (.iload_n 1, 1) := by decide +kernel
theorem d_CB_amount_13 : decode b_CB_amount 13 = .ok (.aaload, 1) := by decide +kernel
theorem d_CB_amount_14 : decode b_CB_amount 14 = .ok (.iload_n 2, 1) := by decide +kernel
theorem d_CB_amount_15 : decode b_CB_amount 15 = .ok (.lload_n 3, 1) := by decide +kernel
theorem d_CB_amount_16 : decode b_CB_amount 16 = .ok (.invokevirtual 38, 3) := by decide +kernel
theorem d_CB_amount_19 : decode b_CB_amount 19 = .ok (.lreturn, 1) := by decide +kernel
theorem d_Law_size_0 : decode b_Law_size 0 = .ok (.aload_n 2, 1) := by decide +kernel
theorem d_Law_size_1 : decode b_Law_size 1 = .ok (.iconst 0, 1) := by decide +kernel
theorem d_Law_size_2 : decode b_Law_size 2 = .ok (.aload_n 0, 1) := by decide +kernel
theorem d_Law_size_3 : decode b_Law_size 3 = .ok (.iload_n 1, 1) := by decide +kernel
theorem d_Law_size_4 : decode b_Law_size 4 = .ok (.invokevirtual 46, 3) := by decide +kernel
theorem d_Law_size_7 : decode b_Law_size 7 = .ok (.i2l, 1) := by decide +kernel
theorem d_Law_size_8 : decode b_Law_size 8 = .ok (.lastore, 1) := by decide +kernel
theorem d_Law_size_9 : decode b_Law_size 9 = .ok (.goto 6, 3) := by decide +kernel
theorem d_Law_size_12 : decode b_Law_size 12 = .ok (.astore_n 3, 1) := by decide +kernel
theorem d_Law_size_13 : decode b_Law_size 13 = .ok (.iconst 1, 1) := by decide +kernel
theorem d_Law_size_14 : decode b_Law_size 14 = .ok (.ireturn, 1) := by decide +kernel
theorem d_Law_size_15 : decode b_Law_size 15 = .ok (.iconst 0, 1) := by decide +kernel
theorem d_Law_size_16 : decode b_Law_size 16 = .ok (.ireturn, 1) := by decide +kernel
theorem d_CB_size_0 : decode b_CB_size 0 = .ok (.iload_n 1, 1) := by decide +kernel
theorem d_CB_size_1 : decode b_CB_size 1 = .ok (.invokestatic 27, 3) := by decide +kernel
theorem d_CB_size_4 : decode b_CB_size 4 = .ok (.aload_n 0, 1) := by decide +kernel
theorem d_CB_size_5 : decode b_CB_size 5 = .ok (.getfield 11, 3) := by decide +kernel
theorem d_CB_size_8 : decode b_CB_size 8 = .ok (.iload_n 1, 1) := by decide +kernel
theorem d_CB_size_9 : decode b_CB_size 9 = .ok (.aaload, 1) := by decide +kernel
theorem d_CB_size_10 : decode b_CB_size 10 = .ok (.getfield 53, 3) := by decide +kernel
theorem d_CB_size_13 : decode b_CB_size 13 = .ok (.ireturn, 1) := by decide +kernel
theorem d_Law_at_0 : decode b_Law_at 0 = .ok (.aload 4, 2) := by decide +kernel
theorem d_Law_at_2 : decode b_Law_at 2 = .ok (.iconst 0, 1) := by decide +kernel
theorem d_Law_at_3 : decode b_Law_at 3 = .ok (.aload_n 0, 1) := by decide +kernel
theorem d_Law_at_4 : decode b_Law_at 4 = .ok (.iload_n 1, 1) := by decide +kernel
theorem d_Law_at_5 : decode b_Law_at 5 = .ok (.iload_n 2, 1) := by decide +kernel
theorem d_Law_at_6 : decode b_Law_at 6 = .ok (.iload_n 3, 1) := by decide +kernel
theorem d_Law_at_7 : decode b_Law_at 7 = .ok (.invokevirtual 50, 3) := by decide +kernel
theorem d_Law_at_10 : decode b_Law_at 10 = .ok (.lastore, 1) := by decide +kernel
theorem d_Law_at_11 : decode b_Law_at 11 = .ok (.goto 7, 3) := by decide +kernel
theorem d_Law_at_14 : decode b_Law_at 14 = .ok (.astore 5, 2) := by decide +kernel
theorem d_Law_at_16 : decode b_Law_at 16 = .ok (.iconst 1, 1) := by decide +kernel
theorem d_Law_at_17 : decode b_Law_at 17 = .ok (.ireturn, 1) := by decide +kernel
theorem d_Law_at_18 : decode b_Law_at 18 = .ok (.iconst 0, 1) := by decide +kernel
theorem d_Law_at_19 : decode b_Law_at 19 = .ok (.ireturn, 1) := by decide +kernel
theorem d_CB_at_0 : decode b_CB_at 0 = .ok (.iload_n 1, 1) := by decide +kernel
theorem d_CB_at_1 : decode b_CB_at 1 = .ok (.invokestatic 27, 3) := by decide +kernel
theorem d_CB_at_4 : decode b_CB_at 4 = .ok (.aload_n 0, 1) := by decide +kernel
theorem d_CB_at_5 : decode b_CB_at 5 = .ok (.getfield 11, 3) := by decide +kernel
theorem d_CB_at_8 : decode b_CB_at 8 = .ok (.iload_n 1, 1) := by decide +kernel
theorem d_CB_at_9 : decode b_CB_at 9 = .ok (.aaload, 1) := by decide +kernel
theorem d_CB_at_10 : decode b_CB_at 10 = .ok (.astore 4, 2) := by decide +kernel
theorem d_CB_at_12 : decode b_CB_at 12 = .ok (.iload_n 2, 1) := by decide +kernel
theorem d_CB_at_13 : decode b_CB_at 13 = .ok (.ifCond .lt 12, 3) := by decide +kernel
theorem d_CB_at_16 : decode b_CB_at 16 = .ok (.iload_n 2, 1) := by decide +kernel
theorem d_CB_at_17 : decode b_CB_at 17 = .ok (.aload 4, 2) := by decide +kernel
theorem d_CB_at_19 : decode b_CB_at 19 = .ok (.getfield 53, 3) := by decide +kernel
theorem d_CB_at_22 : decode b_CB_at 22 = .ok (.if_icmp .lt 13, 3) := by decide +kernel
theorem d_CB_at_25 : decode b_CB_at 25 = .ok (.new 77, 3) := by decide +kernel
theorem d_CB_at_28 : decode b_CB_at 28 = .ok (.dup, 1) := by decide +kernel
theorem d_CB_at_29 : decode b_CB_at 29 = .ok (.ldc 79, 2) := by decide +kernel
theorem d_CB_at_31 : decode b_CB_at 31 = .ok (.invokespecial 81, 3) := by decide +kernel
theorem d_CB_at_34 : decode b_CB_at 34 = .ok (.athrow, 1) := by decide +kernel
theorem d_CB_at_35 : decode b_CB_at 35 = .ok (.iload_n 3, 1) := by decide +kernel
theorem d_CB_at_36 : decode b_CB_at 36 = .ok (.tableswitch 53 0 2 #[28, 37, 45], 28) := by decide +kernel
theorem d_CB_at_64 : decode b_CB_at 64 = .ok (.aload 4, 2) := by decide +kernel
theorem d_CB_at_66 : decode b_CB_at 66 = .ok (.getfield 64, 3) := by decide +kernel
theorem d_CB_at_69 : decode b_CB_at 69 = .ok (.iload_n 2, 1) := by decide +kernel
theorem d_CB_at_70 : decode b_CB_at 70 = .ok (.iaload, 1) := by decide +kernel
theorem d_CB_at_71 : decode b_CB_at 71 = .ok (.i2l, 1) := by decide +kernel
theorem d_CB_at_72 : decode b_CB_at 72 = .ok (.lreturn, 1) := by decide +kernel
theorem d_CB_at_73 : decode b_CB_at 73 = .ok (.aload 4, 2) := by decide +kernel
theorem d_CB_at_75 : decode b_CB_at 75 = .ok (.getfield 68, 3) := by decide +kernel
theorem d_CB_at_78 : decode b_CB_at 78 = .ok (.iload_n 2, 1) := by decide +kernel
theorem d_CB_at_79 : decode b_CB_at 79 = .ok (.laload, 1) := by decide +kernel
theorem d_CB_at_80 : decode b_CB_at 80 = .ok (.lreturn, 1) := by decide +kernel
theorem d_CB_at_81 : decode b_CB_at 81 = .ok (.aload 4, 2) := by decide +kernel
theorem d_CB_at_83 : decode b_CB_at 83 = .ok (.getfield 57, 3) := by decide +kernel
theorem d_CB_at_86 : decode b_CB_at 86 = .ok (.iload_n 2, 1) := by decide +kernel
theorem d_CB_at_87 : decode b_CB_at 87 = .ok (.laload, 1) := by decide +kernel
theorem d_CB_at_88 : decode b_CB_at 88 = .ok (.lreturn, 1) := by decide +kernel
theorem d_CB_at_89 : decode b_CB_at 89 = .ok (.new 77, 3) := by decide +kernel
theorem d_CB_at_92 : decode b_CB_at 92 = .ok (.dup, 1) := by decide +kernel
theorem d_CB_at_93 : decode b_CB_at 93 = .ok (.ldc 84, 2) := by decide +kernel
theorem d_CB_at_95 : decode b_CB_at 95 = .ok (.invokespecial 81, 3) := by decide +kernel
theorem d_CB_at_98 : decode b_CB_at 98 = .ok (.athrow, 1) := by decide +kernel
theorem d_Law_compare_0 : decode b_Law_compare 0 = .ok (.aload_n 3, 1) := by decide +kernel
theorem d_Law_compare_1 : decode b_Law_compare 1 = .ok (.iconst 0, 1) := by decide +kernel
theorem d_Law_compare_2 : decode b_Law_compare 2 = .ok (.aload_n 0, 1) := by decide +kernel
theorem d_Law_compare_3 : decode b_Law_compare 3 = .ok (.iload_n 1, 1) := by decide +kernel
theorem d_Law_compare_4 : decode b_Law_compare 4 = .ok (.iload_n 2, 1) := by decide +kernel
theorem d_Law_compare_5 : decode b_Law_compare 5 = .ok (.invokevirtual 54, 3) := by decide +kernel
theorem d_Law_compare_8 : decode b_Law_compare 8 = .ok (.i2l, 1) := by decide +kernel
theorem d_Law_compare_9 : decode b_Law_compare 9 = .ok (.lastore, 1) := by decide +kernel
theorem d_Law_compare_10 : decode b_Law_compare 10 = .ok (.goto 7, 3) := by decide +kernel
theorem d_Law_compare_13 : decode b_Law_compare 13 = .ok (.astore 4, 2) := by decide +kernel
theorem d_Law_compare_15 : decode b_Law_compare 15 = .ok (.iconst 1, 1) := by decide +kernel
theorem d_Law_compare_16 : decode b_Law_compare 16 = .ok (.ireturn, 1) := by decide +kernel
theorem d_Law_compare_17 : decode b_Law_compare 17 = .ok (.iconst 0, 1) := by decide +kernel
theorem d_Law_compare_18 : decode b_Law_compare 18 = .ok (.ireturn, 1) := by decide +kernel
theorem d_CB_compare_0 : decode b_CB_compare 0 = .ok (.iload_n 1, 1) := by decide +kernel
theorem d_CB_compare_1 : decode b_CB_compare 1 = .ok (.invokestatic 27, 3) := by decide +kernel
theorem d_CB_compare_4 : decode b_CB_compare 4 = .ok (.iload_n 2, 1) := by decide +kernel
theorem d_CB_compare_5 : decode b_CB_compare 5 = .ok (.invokestatic 27, 3) := by decide +kernel
theorem d_CB_compare_8 : decode b_CB_compare 8 = .ok (.aload_n 0, 1) := by decide +kernel
theorem d_CB_compare_9 : decode b_CB_compare 9 = .ok (.getfield 19, 3) := by decide +kernel
theorem d_CB_compare_12 : decode b_CB_compare 12 = .ok (.aload_n 0, 1) := by decide +kernel
theorem d_CB_compare_13 : decode b_CB_compare 13 = .ok (.getfield 11, 3) := by decide +kernel
theorem d_CB_compare_16 : decode b_CB_compare 16 = .ok (.iload_n 1, 1) := by decide +kernel
theorem d_CB_compare_17 : decode b_CB_compare 17 = .ok (.aaload, 1) := by decide +kernel
theorem d_CB_compare_18 : decode b_CB_compare 18 = .ok (.aload_n 0, 1) := by decide +kernel
theorem d_CB_compare_19 : decode b_CB_compare 19 = .ok (.getfield 11, 3) := by decide +kernel
theorem d_CB_compare_22 : decode b_CB_compare 22 = .ok (.iload_n 2, 1) := by decide +kernel
theorem d_CB_compare_23 : decode b_CB_compare 23 = .ok (.aaload, 1) := by decide +kernel
theorem d_CB_compare_24 : decode b_CB_compare 24 = .ok (.invokevirtual 86, 3) := by decide +kernel
theorem d_CB_compare_27 : decode b_CB_compare 27 = .ok (.iconst 0, 1) := by decide +kernel
theorem d_CB_compare_28 : decode b_CB_compare 28 = .ok (.istore_n 3, 1) := by decide +kernel
theorem d_CB_compare_29 : decode b_CB_compare 29 = .ok (.iconst 0, 1) := by decide +kernel
theorem d_CB_compare_30 : decode b_CB_compare 30 = .ok (.istore 4, 2) := by decide +kernel
theorem d_CB_compare_32 : decode b_CB_compare 32 = .ok (.iconst 0, 1) := by decide +kernel
theorem d_CB_compare_33 : decode b_CB_compare 33 = .ok (.istore 5, 2) := by decide +kernel
theorem d_CB_compare_35 : decode b_CB_compare 35 = .ok (.iload 5, 2) := by decide +kernel
theorem d_CB_compare_37 : decode b_CB_compare 37 = .ok (.aload_n 0, 1) := by decide +kernel
theorem d_CB_compare_38 : decode b_CB_compare 38 = .ok (.getfield 19, 3) := by decide +kernel
theorem d_CB_compare_41 : decode b_CB_compare 41 = .ok (.getfield 90, 3) := by decide +kernel
theorem d_CB_compare_44 : decode b_CB_compare 44 = .ok (.if_icmp .ge 79, 3) := by decide +kernel
theorem d_CB_compare_47 : decode b_CB_compare 47 = .ok (.iload_n 3, 1) := by decide +kernel
theorem d_CB_compare_48 : decode b_CB_compare 48 = .ok (.ifCond .ne 27, 3) := by decide +kernel
theorem d_CB_compare_51 : decode b_CB_compare 51 = .ok (.aload_n 0, 1) := by decide +kernel
theorem d_CB_compare_52 : decode b_CB_compare 52 = .ok (.getfield 19, 3) := by decide +kernel
theorem d_CB_compare_55 : decode b_CB_compare 55 = .ok (.getfield 91, 3) := by decide +kernel
theorem d_CB_compare_58 : decode b_CB_compare 58 = .ok (.iload 5, 2) := by decide +kernel
theorem d_CB_compare_60 : decode b_CB_compare 60 = .ok (.laload, 1) := by decide +kernel
theorem d_CB_compare_61 : decode b_CB_compare 61 = .ok (.aload_n 0, 1) := by decide +kernel
theorem d_CB_compare_62 : decode b_CB_compare 62 = .ok (.getfield 19, 3) := by decide +kernel
theorem d_CB_compare_65 : decode b_CB_compare 65 = .ok (.getfield 94, 3) := by decide +kernel
theorem d_CB_compare_68 : decode b_CB_compare 68 = .ok (.iload 5, 2) := by decide +kernel
theorem d_CB_compare_70 : decode b_CB_compare 70 = .ok (.laload, 1) := by decide +kernel
theorem d_CB_compare_71 : decode b_CB_compare 71 = .ok (.lcmp, 1) := by decide +kernel
theorem d_CB_compare_72 : decode b_CB_compare 72 = .ok (.ifCond .le 7, 3) := by decide +kernel
theorem d_CB_compare_75 : decode b_CB_compare 75 = .ok (.iconst 1, 1) := by decide +kernel
theorem d_CB_compare_76 : decode b_CB_compare 76 = .ok (.goto 4, 3) := by decide +kernel
theorem d_CB_compare_79 : decode b_CB_compare 79 = .ok (.iconst 0, 1) := by decide +kernel
theorem d_CB_compare_80 : decode b_CB_compare 80 = .ok (.istore_n 3, 1) := by decide +kernel
theorem d_CB_compare_81 : decode b_CB_compare 81 = .ok (.iload 4, 2) := by decide +kernel
theorem d_CB_compare_83 : decode b_CB_compare 83 = .ok (.ifCond .ne 27, 3) := by decide +kernel
theorem d_CB_compare_86 : decode b_CB_compare 86 = .ok (.aload_n 0, 1) := by decide +kernel
theorem d_CB_compare_87 : decode b_CB_compare 87 = .ok (.getfield 19, 3) := by decide +kernel
theorem d_CB_compare_90 : decode b_CB_compare 90 = .ok (.getfield 91, 3) := by decide +kernel
theorem d_CB_compare_93 : decode b_CB_compare 93 = .ok (.iload 5, 2) := by decide +kernel
theorem d_CB_compare_95 : decode b_CB_compare 95 = .ok (.laload, 1) := by decide +kernel
theorem d_CB_compare_96 : decode b_CB_compare 96 = .ok (.aload_n 0, 1) := by decide +kernel
theorem d_CB_compare_97 : decode b_CB_compare 97 = .ok (.getfield 19, 3) := by decide +kernel
theorem d_CB_compare_100 : decode b_CB_compare 100 = .ok (.getfield 94, 3) := by decide +kernel
theorem d_CB_compare_103 : decode b_CB_compare 103 = .ok (.iload 5, 2) := by decide +kernel
theorem d_CB_compare_105 : decode b_CB_compare 105 = .ok (.laload, 1) := by decide +kernel
theorem d_CB_compare_106 : decode b_CB_compare 106 = .ok (.lcmp, 1) := by decide +kernel
theorem d_CB_compare_107 : decode b_CB_compare 107 = .ok (.ifCond .ge 7, 3) := by decide +kernel
theorem d_CB_compare_110 : decode b_CB_compare 110 = .ok (.iconst 1, 1) := by decide +kernel
theorem d_CB_compare_111 : decode b_CB_compare 111 = .ok (.goto 4, 3) := by decide +kernel
theorem d_CB_compare_114 : decode b_CB_compare 114 = .ok (.iconst 0, 1) := by decide +kernel
theorem d_CB_compare_115 : decode b_CB_compare 115 = .ok (.istore 4, 2) := by decide +kernel
theorem d_CB_compare_117 : decode b_CB_compare 117 = .ok (.iinc 5 1, 3) := by decide +kernel
theorem d_CB_compare_120 : decode b_CB_compare 120 = .ok (.goto (-85), 3) := by decide +kernel
theorem d_CB_compare_123 : decode b_CB_compare 123 = .ok (.iload_n 3, 1) := by decide +kernel
theorem d_CB_compare_124 : decode b_CB_compare 124 = .ok (.ifCond .eq 14, 3) := by decide +kernel
theorem d_CB_compare_127 : decode b_CB_compare 127 = .ok (.iload 4, 2) := by decide +kernel
theorem d_CB_compare_129 : decode b_CB_compare 129 = .ok (.ifCond .eq 7, 3) := by decide +kernel
theorem d_CB_compare_132 : decode b_CB_compare 132 = .ok (.iconst 3, 1) := by decide +kernel
theorem d_CB_compare_133 : decode b_CB_compare 133 = .ok (.goto 4, 3) := by decide +kernel
theorem d_CB_compare_136 : decode b_CB_compare 136 = .ok (.iconst 1, 1) := by decide +kernel
theorem d_CB_compare_137 : decode b_CB_compare 137 = .ok (.ireturn, 1) := by decide +kernel
theorem d_CB_compare_138 : decode b_CB_compare 138 = .ok (.iload 4, 2) := by decide +kernel
theorem d_CB_compare_140 : decode b_CB_compare 140 = .ok (.ifCond .eq 7, 3) := by decide +kernel
theorem d_CB_compare_143 : decode b_CB_compare 143 = .ok (.iconst 2, 1) := by decide +kernel
theorem d_CB_compare_144 : decode b_CB_compare 144 = .ok (.goto 4, 3) := by decide +kernel
theorem d_CB_compare_147 : decode b_CB_compare 147 = .ok (.iconst 0, 1) := by decide +kernel
theorem d_CB_compare_148 : decode b_CB_compare 148 = .ok (.ireturn, 1) := by decide +kernel
theorem d_Law_least_0 : decode b_Law_least 0 = .ok (.aload 4, 2) := by decide +kernel
theorem d_Law_least_2 : decode b_Law_least 2 = .ok (.iconst 0, 1) := by decide +kernel
theorem d_Law_least_3 : decode b_Law_least 3 = .ok (.aload_n 0, 1) := by decide +kernel
theorem d_Law_least_4 : decode b_Law_least 4 = .ok (.iload_n 1, 1) := by decide +kernel
theorem d_Law_least_5 : decode b_Law_least 5 = .ok (.iload_n 2, 1) := by decide +kernel
theorem d_Law_least_6 : decode b_Law_least 6 = .ok (.iload_n 3, 1) := by decide +kernel
theorem d_Law_least_7 : decode b_Law_least 7 = .ok (.invokevirtual 58, 3) := by decide +kernel
theorem d_Law_least_10 : decode b_Law_least 10 = .ok (.ifCond .eq 7, 3) := by decide +kernel
theorem d_Law_least_13 : decode b_Law_least 13 = .ok (.lconst 1, 1) := by decide +kernel
theorem d_Law_least_14 : decode b_Law_least 14 = .ok (.goto 4, 3) := by decide +kernel
theorem d_Law_least_17 : decode b_Law_least 17 = .ok (.lconst 0, 1) := by decide +kernel
theorem d_Law_least_18 : decode b_Law_least 18 = .ok (.lastore, 1) := by decide +kernel
theorem d_Law_least_19 : decode b_Law_least 19 = .ok (.goto 7, 3) := by decide +kernel
theorem d_Law_least_22 : decode b_Law_least 22 = .ok (.astore 5, 2) := by decide +kernel
theorem d_Law_least_24 : decode b_Law_least 24 = .ok (.iconst 1, 1) := by decide +kernel
theorem d_Law_least_25 : decode b_Law_least 25 = .ok (.ireturn, 1) := by decide +kernel
theorem d_Law_least_26 : decode b_Law_least 26 = .ok (.iconst 0, 1) := by decide +kernel
theorem d_Law_least_27 : decode b_Law_least 27 = .ok (.ireturn, 1) := by decide +kernel
theorem d_CB_least_0 : decode b_CB_least 0 = .ok (.aload_n 0, 1) := by decide +kernel
theorem d_CB_least_1 : decode b_CB_least 1 = .ok (.iload_n 1, 1) := by decide +kernel
theorem d_CB_least_2 : decode b_CB_least 2 = .ok (.iload_n 2, 1) := by decide +kernel
theorem d_CB_least_3 : decode b_CB_least 3 = .ok (.iload_n 3, 1) := by decide +kernel
theorem d_CB_least_4 : decode b_CB_least 4 = .ok (.iconst 2, 1) := by decide +kernel
theorem d_CB_least_5 : decode b_CB_least 5 = .ok (.invokevirtual 46, 3) := by decide +kernel
theorem d_CB_least_8 : decode b_CB_least 8 = .ok (.ireturn, 1) := by decide +kernel
theorem d_Law_into_0 : decode b_Law_into 0 = .ok (.aload_n 3, 1) := by decide +kernel
theorem d_Law_into_1 : decode b_Law_into 1 = .ok (.iconst 0, 1) := by decide +kernel
theorem d_Law_into_2 : decode b_Law_into 2 = .ok (.aload_n 0, 1) := by decide +kernel
theorem d_Law_into_3 : decode b_Law_into 3 = .ok (.iload_n 1, 1) := by decide +kernel
theorem d_Law_into_4 : decode b_Law_into 4 = .ok (.iload_n 2, 1) := by decide +kernel
theorem d_Law_into_5 : decode b_Law_into 5 = .ok (.invokevirtual 61, 3) := by decide +kernel
theorem d_Law_into_8 : decode b_Law_into 8 = .ok (.lastore, 1) := by decide +kernel
theorem d_Law_into_9 : decode b_Law_into 9 = .ok (.goto 7, 3) := by decide +kernel
