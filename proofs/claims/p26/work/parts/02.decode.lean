theorem dX0_init_0 : decode cX0_init 0 = .ok (.aload_n 0, 1) := by decide +kernel
theorem dX0_init_1 : decode cX0_init 1 = .ok (.invokespecial 3, 3) := by decide +kernel
theorem dX0_init_4 : decode cX0_init 4 = .ok (.aload_n 0, 1) := by decide +kernel
theorem dX0_init_5 : decode cX0_init 5 = .ok (.sipush 128, 3) := by decide +kernel
theorem dX0_init_8 : decode cX0_init 8 = .ok (.newarray .int, 2) := by decide +kernel
theorem dX0_init_10 : decode cX0_init 10 = .ok (.putfield 9, 3) := by decide +kernel
theorem dX0_init_13 : decode cX0_init 13 = .ok (.aload_n 0, 1) := by decide +kernel
theorem dX0_init_14 : decode cX0_init 14 = .ok (.sipush 128, 3) := by decide +kernel
theorem dX0_init_17 : decode cX0_init 17 = .ok (.newarray .int, 2) := by decide +kernel
theorem dX0_init_19 : decode cX0_init 19 = .ok (.putfield 15, 3) := by decide +kernel
theorem dX0_init_22 : decode cX0_init 22 = .ok (.aload_n 0, 1) := by decide +kernel
theorem dX0_init_23 : decode cX0_init 23 = .ok (.sipush 128, 3) := by decide +kernel
theorem dX0_init_26 : decode cX0_init 26 = .ok (.newarray .int, 2) := by decide +kernel
theorem dX0_init_28 : decode cX0_init 28 = .ok (.putfield 18, 3) := by decide +kernel
theorem dX0_init_31 : decode cX0_init 31 = .ok (.aload_n 0, 1) := by decide +kernel
theorem dX0_init_32 : decode cX0_init 32 = .ok (.sipush 256, 3) := by decide +kernel
theorem dX0_init_35 : decode cX0_init 35 = .ok (.newarray .int, 2) := by decide +kernel
theorem dX0_init_37 : decode cX0_init 37 = .ok (.putfield 21, 3) := by decide +kernel
theorem dX0_init_40 : decode cX0_init 40 = .ok (.aload_n 0, 1) := by decide +kernel
theorem dX0_init_41 : decode cX0_init 41 = .ok (.sipush 256, 3) := by decide +kernel
theorem dX0_init_44 : decode cX0_init 44 = .ok (.newarray .int, 2) := by decide +kernel
theorem dX0_init_46 : decode cX0_init 46 = .ok (.putfield 24, 3) := by decide +kernel
theorem dX0_init_49 : decode cX0_init 49 = .ok (.aload_n 0, 1) := by decide +kernel
theorem dX0_init_50 : decode cX0_init 50 = .ok (.iconst 0, 1) := by decide +kernel
theorem dX0_init_51 : decode cX0_init 51 = .ok (.putfield 27, 3) := by decide +kernel
theorem dX0_init_54 : decode cX0_init 54 = .ok (.aload_n 0, 1) := by decide +kernel
theorem dX0_init_55 : decode cX0_init 55 = .ok (.iconst 1, 1) := by decide +kernel
theorem dX0_init_56 : decode cX0_init 56 = .ok (.putfield 31, 3) := by decide +kernel
theorem dX0_init_59 : decode cX0_init 59 = .ok (.return_, 1) := by decide +kernel
theorem dX0_forget_0 : decode cX0_forget 0 = .ok (.aload_n 0, 1) := by decide +kernel
theorem dX0_forget_1 : decode cX0_forget 1 = .ok (.iconst 1, 1) := by decide +kernel
theorem dX0_forget_2 : decode cX0_forget 2 = .ok (.putfield 31, 3) := by decide +kernel
theorem dX0_forget_5 : decode cX0_forget 5 = .ok (.return_, 1) := by decide +kernel
theorem dX0_follow_0 : decode cX0_follow 0 = .ok (.iload_n 2, 1) := by decide +kernel
theorem dX0_follow_1 : decode cX0_follow 1 = .ok (.ifCond .ne 7, 3) := by decide +kernel
theorem dX0_follow_4 : decode cX0_follow 4 = .ok (.iconst 1, 1) := by decide +kernel
theorem dX0_follow_5 : decode cX0_follow 5 = .ok (.goto 4, 3) := by decide +kernel
theorem dX0_follow_8 : decode cX0_follow 8 = .ok (.iconst 0, 1) := by decide +kernel
theorem dX0_follow_9 : decode cX0_follow 9 = .ok (.iload_n 3, 1) := by decide +kernel
theorem dX0_follow_10 : decode cX0_follow 10 = .ok (.ifCond .ne 7, 3) := by decide +kernel
theorem dX0_follow_13 : decode cX0_follow 13 = .ok (.iconst 1, 1) := by decide +kernel
theorem dX0_follow_14 : decode cX0_follow 14 = .ok (.goto 4, 3) := by decide +kernel
theorem dX0_follow_17 : decode cX0_follow 17 = .ok (.iconst 0, 1) := by decide +kernel
theorem dX0_follow_18 : decode cX0_follow 18 = .ok (.if_icmp .eq 8, 3) := by decide +kernel
theorem dX0_follow_21 : decode cX0_follow 21 = .ok (.aload_n 0, 1) := by decide +kernel
theorem dX0_follow_22 : decode cX0_follow 22 = .ok (.iconst 1, 1) := by decide +kernel
theorem dX0_follow_23 : decode cX0_follow 23 = .ok (.putfield 31, 3) := by decide +kernel
theorem dX0_follow_26 : decode cX0_follow 26 = .ok (.aload_n 0, 1) := by decide +kernel
theorem dX0_follow_27 : decode cX0_follow 27 = .ok (.getfield 31, 3) := by decide +kernel
theorem dX0_follow_30 : decode cX0_follow 30 = .ok (.ifCond .ne 14, 3) := by decide +kernel
theorem dX0_follow_33 : decode cX0_follow 33 = .ok (.iload_n 1, 1) := by decide +kernel
theorem dX0_follow_34 : decode cX0_follow 34 = .ok (.ifCond .lt 10, 3) := by decide +kernel
theorem dX0_follow_37 : decode cX0_follow 37 = .ok (.iload_n 1, 1) := by decide +kernel
theorem dX0_follow_38 : decode cX0_follow 38 = .ok (.sipush 256, 3) := by decide +kernel
theorem dX0_follow_41 : decode cX0_follow 41 = .ok (.if_icmp .lt 4, 3) := by decide +kernel
theorem dX0_follow_44 : decode cX0_follow 44 = .ok (.return_, 1) := by decide +kernel
theorem dX0_follow_45 : decode cX0_follow 45 = .ok (.aload_n 0, 1) := by decide +kernel
theorem dX0_follow_46 : decode cX0_follow 46 = .ok (.getfield 21, 3) := by decide +kernel
theorem dX0_follow_49 : decode cX0_follow 49 = .ok (.iload_n 1, 1) := by decide +kernel
theorem dX0_follow_50 : decode cX0_follow 50 = .ok (.iaload, 1) := by decide +kernel
theorem dX0_follow_51 : decode cX0_follow 51 = .ok (.istore 4, 2) := by decide +kernel
theorem dX0_follow_53 : decode cX0_follow 53 = .ok (.iload 4, 2) := by decide +kernel
theorem dX0_follow_55 : decode cX0_follow 55 = .ok (.ifCond .lt 24, 3) := by decide +kernel
theorem dX0_follow_58 : decode cX0_follow 58 = .ok (.iload 4, 2) := by decide +kernel
theorem dX0_follow_60 : decode cX0_follow 60 = .ok (.sipush 128, 3) := by decide +kernel
theorem dX0_follow_63 : decode cX0_follow 63 = .ok (.if_icmp .ge 16, 3) := by decide +kernel
theorem dX0_follow_66 : decode cX0_follow 66 = .ok (.aload_n 0, 1) := by decide +kernel
theorem dX0_follow_67 : decode cX0_follow 67 = .ok (.getfield 9, 3) := by decide +kernel
theorem dX0_follow_70 : decode cX0_follow 70 = .ok (.iload 4, 2) := by decide +kernel
theorem dX0_follow_72 : decode cX0_follow 72 = .ok (.dup2, 1) := by decide +kernel
theorem dX0_follow_73 : decode cX0_follow 73 = .ok (.iaload, 1) := by decide +kernel
theorem dX0_follow_74 : decode cX0_follow 74 = .ok (.iload_n 3, 1) := by decide +kernel
theorem dX0_follow_75 : decode cX0_follow 75 = .ok (.iload_n 2, 1) := by decide +kernel
theorem dX0_follow_76 : decode cX0_follow 76 = .ok (.isub, 1) := by decide +kernel
theorem dX0_follow_77 : decode cX0_follow 77 = .ok (.iadd, 1) := by decide +kernel
theorem dX0_follow_78 : decode cX0_follow 78 = .ok (.iastore, 1) := by decide +kernel
theorem dX0_follow_79 : decode cX0_follow 79 = .ok (.return_, 1) := by decide +kernel
theorem dX0_numberIn_0 : decode cX0_numberIn 0 = .ok (.aload_n 0, 1) := by decide +kernel
theorem dX0_numberIn_1 : decode cX0_numberIn 1 = .ok (.getfield 31, 3) := by decide +kernel
theorem dX0_numberIn_4 : decode cX0_numberIn 4 = .ok (.ifCond .ne 8, 3) := by decide +kernel
theorem dX0_numberIn_7 : decode cX0_numberIn 7 = .ok (.aload_n 0, 1) := by decide +kernel
theorem dX0_numberIn_8 : decode cX0_numberIn 8 = .ok (.getfield 27, 3) := by decide +kernel
theorem dX0_numberIn_11 : decode cX0_numberIn 11 = .ok (.ireturn, 1) := by decide +kernel
theorem dX0_numberIn_12 : decode cX0_numberIn 12 = .ok (.aload_n 0, 1) := by decide +kernel
theorem dX0_numberIn_13 : decode cX0_numberIn 13 = .ok (.getfield 21, 3) := by decide +kernel
theorem dX0_numberIn_16 : decode cX0_numberIn 16 = .ok (.iconst (-1), 1) := by decide +kernel
theorem dX0_numberIn_17 : decode cX0_numberIn 17 = .ok (.invokestatic 35, 3) := by decide +kernel
theorem dX0_numberIn_20 : decode cX0_numberIn 20 = .ok (.aload_n 0, 1) := by decide +kernel
theorem dX0_numberIn_21 : decode cX0_numberIn 21 = .ok (.iconst 0, 1) := by decide +kernel
theorem dX0_numberIn_22 : decode cX0_numberIn 22 = .ok (.putfield 27, 3) := by decide +kernel
theorem dX0_numberIn_25 : decode cX0_numberIn 25 = .ok (.iconst 0, 1) := by decide +kernel
theorem dX0_numberIn_26 : decode cX0_numberIn 26 = .ok (.istore_n 2, 1) := by decide +kernel
theorem dX0_numberIn_27 : decode cX0_numberIn 27 = .ok (.iload_n 2, 1) := by decide +kernel
theorem dX0_numberIn_28 : decode cX0_numberIn 28 = .ok (.sipush 256, 3) := by decide +kernel
theorem dX0_numberIn_31 : decode cX0_numberIn 31 = .ok (.if_icmp .ge 60, 3) := by decide +kernel
theorem dX0_numberIn_34 : decode cX0_numberIn 34 = .ok (.iload_n 2, 1) := by decide +kernel
theorem dX0_numberIn_35 : decode cX0_numberIn 35 = .ok (.aload_n 1, 1) := by decide +kernel
theorem dX0_numberIn_36 : decode cX0_numberIn 36 = .ok (.arraylength, 1) := by decide +kernel
theorem dX0_numberIn_37 : decode cX0_numberIn 37 = .ok (.if_icmp .ge 54, 3) := by decide +kernel
theorem dX0_numberIn_40 : decode cX0_numberIn 40 = .ok (.aload_n 1, 1) := by decide +kernel
theorem dX0_numberIn_41 : decode cX0_numberIn 41 = .ok (.iload_n 2, 1) := by decide +kernel
theorem dX0_numberIn_42 : decode cX0_numberIn 42 = .ok (.iaload, 1) := by decide +kernel
theorem dX0_numberIn_43 : decode cX0_numberIn 43 = .ok (.ifCond .le 42, 3) := by decide +kernel
theorem dX0_numberIn_46 : decode cX0_numberIn 46 = .ok (.aload_n 0, 1) := by decide +kernel
theorem dX0_numberIn_47 : decode cX0_numberIn 47 = .ok (.getfield 21, 3) := by decide +kernel
theorem dX0_numberIn_50 : decode cX0_numberIn 50 = .ok (.iload_n 2, 1) := by decide +kernel
theorem dX0_numberIn_51 : decode cX0_numberIn 51 = .ok (.iaload, 1) := by decide +kernel
theorem dX0_numberIn_52 : decode cX0_numberIn 52 = .ok (.ifCond .ge 33, 3) := by decide +kernel
theorem dX0_numberIn_55 : decode cX0_numberIn 55 = .ok (.aload_n 0, 1) := by decide +kernel
theorem dX0_numberIn_56 : decode cX0_numberIn 56 = .ok (.getfield 27, 3) := by decide +kernel
theorem dX0_numberIn_59 : decode cX0_numberIn 59 = .ok (.sipush 128, 3) := by decide +kernel
theorem dX0_numberIn_62 : decode cX0_numberIn 62 = .ok (.if_icmp .ge 23, 3) := by decide +kernel
theorem dX0_numberIn_65 : decode cX0_numberIn 65 = .ok (.aload_n 0, 1) := by decide +kernel
theorem dX0_numberIn_66 : decode cX0_numberIn 66 = .ok (.aload_n 1, 1) := by decide +kernel
theorem dX0_numberIn_67 : decode cX0_numberIn 67 = .ok (.iload_n 2, 1) := by decide +kernel
theorem dX0_numberIn_68 : decode cX0_numberIn 68 = .ok (.aload_n 0, 1) := by decide +kernel
theorem dX0_numberIn_69 : decode cX0_numberIn 69 = .ok (.getfield 27, 3) := by decide +kernel
theorem dX0_numberIn_72 : decode cX0_numberIn 72 = .ok (.invokevirtual 41, 3) := by decide +kernel
theorem dX0_numberIn_75 : decode cX0_numberIn 75 = .ok (.aload_n 0, 1) := by decide +kernel
theorem dX0_numberIn_76 : decode cX0_numberIn 76 = .ok (.dup, 1) := by decide +kernel
theorem dX0_numberIn_77 : decode cX0_numberIn 77 = .ok (.getfield 27, 3) := by decide +kernel
theorem dX0_numberIn_80 : decode cX0_numberIn 80 = .ok (.iconst 1, 1) := by decide +kernel
theorem dX0_numberIn_81 : decode cX0_numberIn 81 = .ok (.iadd, 1) := by decide +kernel
theorem dX0_numberIn_82 : decode cX0_numberIn 82 = .ok (.putfield 27, 3) := by decide +kernel
theorem dX0_numberIn_85 : decode cX0_numberIn 85 = .ok (.iinc 2 1, 3) := by decide +kernel
theorem dX0_numberIn_88 : decode cX0_numberIn 88 = .ok (.goto (-61), 3) := by decide +kernel
theorem dX0_numberIn_91 : decode cX0_numberIn 91 = .ok (.aload_n 0, 1) := by decide +kernel
theorem dX0_numberIn_92 : decode cX0_numberIn 92 = .ok (.iconst 0, 1) := by decide +kernel
theorem dX0_numberIn_93 : decode cX0_numberIn 93 = .ok (.putfield 31, 3) := by decide +kernel
theorem dX0_numberIn_96 : decode cX0_numberIn 96 = .ok (.aload_n 0, 1) := by decide +kernel
theorem dX0_numberIn_97 : decode cX0_numberIn 97 = .ok (.getfield 27, 3) := by decide +kernel
theorem dX0_numberIn_100 : decode cX0_numberIn 100 = .ok (.ireturn, 1) := by decide +kernel
theorem dX0_findHeap_0 : decode cX0_findHeap 0 = .ok (.iload_n 3, 1) := by decide +kernel
theorem dX0_findHeap_1 : decode cX0_findHeap 1 = .ok (.ifCond .lt 10, 3) := by decide +kernel
theorem dX0_findHeap_4 : decode cX0_findHeap 4 = .ok (.iload_n 3, 1) := by decide +kernel
theorem dX0_findHeap_5 : decode cX0_findHeap 5 = .ok (.sipush 128, 3) := by decide +kernel
theorem dX0_findHeap_8 : decode cX0_findHeap 8 = .ok (.if_icmp .lt 4, 3) := by decide +kernel
theorem dX0_findHeap_11 : decode cX0_findHeap 11 = .ok (.return_, 1) := by decide +kernel
theorem dX0_findHeap_12 : decode cX0_findHeap 12 = .ok (.aload_n 0, 1) := by decide +kernel
theorem dX0_findHeap_13 : decode cX0_findHeap 13 = .ok (.getfield 9, 3) := by decide +kernel
theorem dX0_findHeap_16 : decode cX0_findHeap 16 = .ok (.iload_n 3, 1) := by decide +kernel
theorem dX0_findHeap_17 : decode cX0_findHeap 17 = .ok (.iconst 0, 1) := by decide +kernel
theorem dX0_findHeap_18 : decode cX0_findHeap 18 = .ok (.iastore, 1) := by decide +kernel
theorem dX0_findHeap_19 : decode cX0_findHeap 19 = .ok (.aload_n 0, 1) := by decide +kernel
theorem dX0_findHeap_20 : decode cX0_findHeap 20 = .ok (.getfield 15, 3) := by decide +kernel
theorem dX0_findHeap_23 : decode cX0_findHeap 23 = .ok (.iload_n 3, 1) := by decide +kernel
theorem dX0_findHeap_24 : decode cX0_findHeap 24 = .ok (.iconst 0, 1) := by decide +kernel
theorem dX0_findHeap_25 : decode cX0_findHeap 25 = .ok (.iastore, 1) := by decide +kernel
theorem dX0_findHeap_26 : decode cX0_findHeap 26 = .ok (.aload_n 0, 1) := by decide +kernel
theorem dX0_findHeap_27 : decode cX0_findHeap 27 = .ok (.getfield 18, 3) := by decide +kernel
theorem dX0_findHeap_30 : decode cX0_findHeap 30 = .ok (.iload_n 3, 1) := by decide +kernel
theorem dX0_findHeap_31 : decode cX0_findHeap 31 = .ok (.iload_n 2, 1) := by decide +kernel
theorem dX0_findHeap_32 : decode cX0_findHeap 32 = .ok (.iastore, 1) := by decide +kernel
theorem dX0_findHeap_33 : decode cX0_findHeap 33 = .ok (.aload_n 0, 1) := by decide +kernel
theorem dX0_findHeap_34 : decode cX0_findHeap 34 = .ok (.aload_n 1, 1) := by decide +kernel
theorem dX0_findHeap_35 : decode cX0_findHeap 35 = .ok (.iload_n 2, 1) := by decide +kernel
theorem dX0_findHeap_36 : decode cX0_findHeap 36 = .ok (.iload_n 3, 1) := by decide +kernel
theorem dX0_findHeap_37 : decode cX0_findHeap 37 = .ok (.invokevirtual 45, 3) := by decide +kernel
theorem dX0_findHeap_40 : decode cX0_findHeap 40 = .ok (.iconst 0, 1) := by decide +kernel
theorem dX0_findHeap_41 : decode cX0_findHeap 41 = .ok (.istore 4, 2) := by decide +kernel
theorem dX0_findHeap_43 : decode cX0_findHeap 43 = .ok (.iload 4, 2) := by decide +kernel
theorem dX0_findHeap_45 : decode cX0_findHeap 45 = .ok (.aload_n 0, 1) := by decide +kernel
theorem dX0_findHeap_46 : decode cX0_findHeap 46 = .ok (.getfield 15, 3) := by decide +kernel
theorem dX0_findHeap_49 : decode cX0_findHeap 49 = .ok (.iload_n 3, 1) := by decide +kernel
theorem dX0_findHeap_50 : decode cX0_findHeap 50 = .ok (.iaload, 1) := by decide +kernel
theorem dX0_findHeap_51 : decode cX0_findHeap 51 = .ok (.if_icmp .ge 50, 3) := by decide +kernel
theorem dX0_findHeap_54 : decode cX0_findHeap 54 = .ok (.iload 4, 2) := by decide +kernel
theorem dX0_findHeap_56 : decode cX0_findHeap 56 = .ok (.sipush 256, 3) := by decide +kernel
theorem dX0_findHeap_59 : decode cX0_findHeap 59 = .ok (.if_icmp .ge 42, 3) := by decide +kernel
theorem dX0_findHeap_62 : decode cX0_findHeap 62 = .ok (.iconst 0, 1) := by decide +kernel
theorem dX0_findHeap_63 : decode cX0_findHeap 63 = .ok (.istore 5, 2) := by decide +kernel
theorem dX0_findHeap_65 : decode cX0_findHeap 65 = .ok (.iload 5, 2) := by decide +kernel
theorem dX0_findHeap_67 : decode cX0_findHeap 67 = .ok (.iconst 3, 1) := by decide +kernel
theorem dX0_findHeap_68 : decode cX0_findHeap 68 = .ok (.if_icmp .gt 27, 3) := by decide +kernel
theorem dX0_findHeap_71 : decode cX0_findHeap 71 = .ok (.aload_n 0, 1) := by decide +kernel
theorem dX0_findHeap_72 : decode cX0_findHeap 72 = .ok (.aload_n 1, 1) := by decide +kernel
theorem dX0_findHeap_73 : decode cX0_findHeap 73 = .ok (.aload_n 0, 1) := by decide +kernel
theorem dX0_findHeap_74 : decode cX0_findHeap 74 = .ok (.getfield 24, 3) := by decide +kernel
theorem dX0_findHeap_77 : decode cX0_findHeap 77 = .ok (.iload 4, 2) := by decide +kernel
theorem dX0_findHeap_79 : decode cX0_findHeap 79 = .ok (.iaload, 1) := by decide +kernel
theorem dX0_findHeap_80 : decode cX0_findHeap 80 = .ok (.iload 5, 2) := by decide +kernel
theorem dX0_findHeap_82 : decode cX0_findHeap 82 = .ok (.invokestatic 48, 3) := by decide +kernel
theorem dX0_findHeap_85 : decode cX0_findHeap 85 = .ok (.iload_n 3, 1) := by decide +kernel
theorem dX0_findHeap_86 : decode cX0_findHeap 86 = .ok (.invokevirtual 45, 3) := by decide +kernel
theorem dX0_findHeap_89 : decode cX0_findHeap 89 = .ok (.iinc 5 1, 3) := by decide +kernel
theorem dX0_findHeap_92 : decode cX0_findHeap 92 = .ok (.goto (-27), 3) := by decide +kernel
theorem dX0_findHeap_95 : decode cX0_findHeap 95 = .ok (.iinc 4 1, 3) := by decide +kernel
theorem dX0_findHeap_98 : decode cX0_findHeap 98 = .ok (.goto (-55), 3) := by decide +kernel
theorem dX0_findHeap_101 : decode cX0_findHeap 101 = .ok (.return_, 1) := by decide +kernel
theorem dX0_addCell_0 : decode cX0_addCell 0 = .ok (.iload_n 2, 1) := by decide +kernel
theorem dX0_addCell_1 : decode cX0_addCell 1 = .ok (.ifCond .lt 27, 3) := by decide +kernel
theorem dX0_addCell_4 : decode cX0_addCell 4 = .ok (.iload_n 2, 1) := by decide +kernel
theorem dX0_addCell_5 : decode cX0_addCell 5 = .ok (.sipush 256, 3) := by decide +kernel
theorem dX0_addCell_8 : decode cX0_addCell 8 = .ok (.if_icmp .ge 20, 3) := by decide +kernel
theorem dX0_addCell_11 : decode cX0_addCell 11 = .ok (.iload_n 2, 1) := by decide +kernel
theorem dX0_addCell_12 : decode cX0_addCell 12 = .ok (.aload_n 1, 1) := by decide +kernel
theorem dX0_addCell_13 : decode cX0_addCell 13 = .ok (.arraylength, 1) := by decide +kernel
theorem dX0_addCell_14 : decode cX0_addCell 14 = .ok (.if_icmp .ge 14, 3) := by decide +kernel
theorem dX0_addCell_17 : decode cX0_addCell 17 = .ok (.iload_n 3, 1) := by decide +kernel
theorem dX0_addCell_18 : decode cX0_addCell 18 = .ok (.ifCond .lt 10, 3) := by decide +kernel
theorem dX0_addCell_21 : decode cX0_addCell 21 = .ok (.iload_n 3, 1) := by decide +kernel
theorem dX0_addCell_22 : decode cX0_addCell 22 = .ok (.sipush 128, 3) := by decide +kernel
theorem dX0_addCell_25 : decode cX0_addCell 25 = .ok (.if_icmp .lt 4, 3) := by decide +kernel
theorem dX0_addCell_28 : decode cX0_addCell 28 = .ok (.return_, 1) := by decide +kernel
theorem dX0_addCell_29 : decode cX0_addCell 29 = .ok (.aload_n 0, 1) := by decide +kernel
theorem dX0_addCell_30 : decode cX0_addCell 30 = .ok (.getfield 15, 3) := by decide +kernel
theorem dX0_addCell_33 : decode cX0_addCell 33 = .ok (.iload_n 3, 1) := by decide +kernel
theorem dX0_addCell_34 : decode cX0_addCell 34 = .ok (.iaload, 1) := by decide +kernel
theorem dX0_addCell_35 : decode cX0_addCell 35 = .ok (.istore 4, 2) := by decide +kernel
theorem dX0_addCell_37 : decode cX0_addCell 37 = .ok (.aload_n 1, 1) := by decide +kernel
theorem dX0_addCell_38 : decode cX0_addCell 38 = .ok (.iload_n 2, 1) := by decide +kernel
theorem dX0_addCell_39 : decode cX0_addCell 39 = .ok (.iaload, 1) := by decide +kernel
theorem dX0_addCell_40 : decode cX0_addCell 40 = .ok (.ifCond .le 62, 3) := by decide +kernel
theorem dX0_addCell_43 : decode cX0_addCell 43 = .ok (.aload_n 0, 1) := by decide +kernel
theorem dX0_addCell_44 : decode cX0_addCell 44 = .ok (.getfield 21, 3) := by decide +kernel
theorem dX0_addCell_47 : decode cX0_addCell 47 = .ok (.iload_n 2, 1) := by decide +kernel
theorem dX0_addCell_48 : decode cX0_addCell 48 = .ok (.iaload, 1) := by decide +kernel
theorem dX0_addCell_49 : decode cX0_addCell 49 = .ok (.ifCond .ge 53, 3) := by decide +kernel
theorem dX0_addCell_52 : decode cX0_addCell 52 = .ok (.iload 4, 2) := by decide +kernel
theorem dX0_addCell_54 : decode cX0_addCell 54 = .ok (.ifCond .lt 48, 3) := by decide +kernel
theorem dX0_addCell_57 : decode cX0_addCell 57 = .ok (.iload 4, 2) := by decide +kernel
theorem dX0_addCell_59 : decode cX0_addCell 59 = .ok (.sipush 256, 3) := by decide +kernel
theorem dX0_addCell_62 : decode cX0_addCell 62 = .ok (.if_icmp .ge 40, 3) := by decide +kernel
theorem dX0_addCell_65 : decode cX0_addCell 65 = .ok (.aload_n 0, 1) := by decide +kernel
theorem dX0_addCell_66 : decode cX0_addCell 66 = .ok (.getfield 21, 3) := by decide +kernel
theorem dX0_addCell_69 : decode cX0_addCell 69 = .ok (.iload_n 2, 1) := by decide +kernel
theorem dX0_addCell_70 : decode cX0_addCell 70 = .ok (.iload_n 3, 1) := by decide +kernel
theorem dX0_addCell_71 : decode cX0_addCell 71 = .ok (.iastore, 1) := by decide +kernel
theorem dX0_addCell_72 : decode cX0_addCell 72 = .ok (.aload_n 0, 1) := by decide +kernel
theorem dX0_addCell_73 : decode cX0_addCell 73 = .ok (.getfield 24, 3) := by decide +kernel
theorem dX0_addCell_76 : decode cX0_addCell 76 = .ok (.iload 4, 2) := by decide +kernel
theorem dX0_addCell_78 : decode cX0_addCell 78 = .ok (.iload_n 2, 1) := by decide +kernel
theorem dX0_addCell_79 : decode cX0_addCell 79 = .ok (.iastore, 1) := by decide +kernel
theorem dX0_addCell_80 : decode cX0_addCell 80 = .ok (.aload_n 0, 1) := by decide +kernel
theorem dX0_addCell_81 : decode cX0_addCell 81 = .ok (.getfield 15, 3) := by decide +kernel
theorem dX0_addCell_84 : decode cX0_addCell 84 = .ok (.iload_n 3, 1) := by decide +kernel
theorem dX0_addCell_85 : decode cX0_addCell 85 = .ok (.iload 4, 2) := by decide +kernel
theorem dX0_addCell_87 : decode cX0_addCell 87 = .ok (.iconst 1, 1) := by decide +kernel
theorem dX0_addCell_88 : decode cX0_addCell 88 = .ok (.iadd, 1) := by decide +kernel
theorem dX0_addCell_89 : decode cX0_addCell 89 = .ok (.iastore, 1) := by decide +kernel
theorem dX0_addCell_90 : decode cX0_addCell 90 = .ok (.aload_n 0, 1) := by decide +kernel
theorem dX0_addCell_91 : decode cX0_addCell 91 = .ok (.getfield 9, 3) := by decide +kernel
theorem dX0_addCell_94 : decode cX0_addCell 94 = .ok (.iload_n 3, 1) := by decide +kernel
theorem dX0_addCell_95 : decode cX0_addCell 95 = .ok (.dup2, 1) := by decide +kernel
theorem dX0_addCell_96 : decode cX0_addCell 96 = .ok (.iaload, 1) := by decide +kernel
theorem dX0_addCell_97 : decode cX0_addCell 97 = .ok (.aload_n 1, 1) := by decide +kernel
theorem dX0_addCell_98 : decode cX0_addCell 98 = .ok (.iload_n 2, 1) := by decide +kernel
theorem dX0_addCell_99 : decode cX0_addCell 99 = .ok (.iaload, 1) := by decide +kernel
theorem dX0_addCell_100 : decode cX0_addCell 100 = .ok (.iadd, 1) := by decide +kernel
theorem dX0_addCell_101 : decode cX0_addCell 101 = .ok (.iastore, 1) := by decide +kernel
theorem dX0_addCell_102 : decode cX0_addCell 102 = .ok (.return_, 1) := by decide +kernel
theorem dX0_neighbour_0 : decode cX0_neighbour 0 = .ok (.iload_n 0, 1) := by decide +kernel
theorem dX0_neighbour_1 : decode cX0_neighbour 1 = .ok (.bipush 16, 2) := by decide +kernel
theorem dX0_neighbour_3 : decode cX0_neighbour 3 = .ok (.irem, 1) := by decide +kernel
theorem dX0_neighbour_4 : decode cX0_neighbour 4 = .ok (.istore_n 2, 1) := by decide +kernel
theorem dX0_neighbour_5 : decode cX0_neighbour 5 = .ok (.iload_n 1, 1) := by decide +kernel
theorem dX0_neighbour_6 : decode cX0_neighbour 6 = .ok (.tableswitch 71 0 2 #[26, 41, 55], 26) := by decide +kernel
theorem dX0_neighbour_32 : decode cX0_neighbour 32 = .ok (.iload_n 0, 1) := by decide +kernel
theorem dX0_neighbour_33 : decode cX0_neighbour 33 = .ok (.bipush 16, 2) := by decide +kernel
theorem dX0_neighbour_35 : decode cX0_neighbour 35 = .ok (.if_icmp .lt 10, 3) := by decide +kernel
theorem dX0_neighbour_38 : decode cX0_neighbour 38 = .ok (.iload_n 0, 1) := by decide +kernel
theorem dX0_neighbour_39 : decode cX0_neighbour 39 = .ok (.bipush 16, 2) := by decide +kernel
theorem dX0_neighbour_41 : decode cX0_neighbour 41 = .ok (.isub, 1) := by decide +kernel
theorem dX0_neighbour_42 : decode cX0_neighbour 42 = .ok (.goto 4, 3) := by decide +kernel
theorem dX0_neighbour_45 : decode cX0_neighbour 45 = .ok (.iconst (-1), 1) := by decide +kernel
theorem dX0_neighbour_46 : decode cX0_neighbour 46 = .ok (.ireturn, 1) := by decide +kernel
theorem dX0_neighbour_47 : decode cX0_neighbour 47 = .ok (.iload_n 2, 1) := by decide +kernel
theorem dX0_neighbour_48 : decode cX0_neighbour 48 = .ok (.bipush 15, 2) := by decide +kernel
theorem dX0_neighbour_50 : decode cX0_neighbour 50 = .ok (.if_icmp .ge 9, 3) := by decide +kernel
theorem dX0_neighbour_53 : decode cX0_neighbour 53 = .ok (.iload_n 0, 1) := by decide +kernel
theorem dX0_neighbour_54 : decode cX0_neighbour 54 = .ok (.iconst 1, 1) := by decide +kernel
theorem dX0_neighbour_55 : decode cX0_neighbour 55 = .ok (.iadd, 1) := by decide +kernel
theorem dX0_neighbour_56 : decode cX0_neighbour 56 = .ok (.goto 4, 3) := by decide +kernel
theorem dX0_neighbour_59 : decode cX0_neighbour 59 = .ok (.iconst (-1), 1) := by decide +kernel
theorem dX0_neighbour_60 : decode cX0_neighbour 60 = .ok (.ireturn, 1) := by decide +kernel
theorem dX0_neighbour_61 : decode cX0_neighbour 61 = .ok (.iload_n 0, 1) := by decide +kernel
theorem dX0_neighbour_62 : decode cX0_neighbour 62 = .ok (.sipush 240, 3) := by decide +kernel
theorem dX0_neighbour_65 : decode cX0_neighbour 65 = .ok (.if_icmp .ge 10, 3) := by decide +kernel
theorem dX0_neighbour_68 : decode cX0_neighbour 68 = .ok (.iload_n 0, 1) := by decide +kernel
theorem dX0_neighbour_69 : decode cX0_neighbour 69 = .ok (.bipush 16, 2) := by decide +kernel
theorem dX0_neighbour_71 : decode cX0_neighbour 71 = .ok (.iadd, 1) := by decide +kernel
theorem dX0_neighbour_72 : decode cX0_neighbour 72 = .ok (.goto 4, 3) := by decide +kernel
theorem dX0_neighbour_75 : decode cX0_neighbour 75 = .ok (.iconst (-1), 1) := by decide +kernel
theorem dX0_neighbour_76 : decode cX0_neighbour 76 = .ok (.ireturn, 1) := by decide +kernel
theorem dX0_neighbour_77 : decode cX0_neighbour 77 = .ok (.iload_n 2, 1) := by decide +kernel
theorem dX0_neighbour_78 : decode cX0_neighbour 78 = .ok (.ifCond .le 9, 3) := by decide +kernel
theorem dX0_neighbour_81 : decode cX0_neighbour 81 = .ok (.iload_n 0, 1) := by decide +kernel
theorem dX0_neighbour_82 : decode cX0_neighbour 82 = .ok (.iconst 1, 1) := by decide +kernel
theorem dX0_neighbour_83 : decode cX0_neighbour 83 = .ok (.isub, 1) := by decide +kernel
theorem dX0_neighbour_84 : decode cX0_neighbour 84 = .ok (.goto 4, 3) := by decide +kernel
theorem dX0_neighbour_87 : decode cX0_neighbour 87 = .ok (.iconst (-1), 1) := by decide +kernel
theorem dX0_neighbour_88 : decode cX0_neighbour 88 = .ok (.ireturn, 1) := by decide +kernel
theorem dX0_heapWith_0 : decode cX0_heapWith 0 = .ok (.iload_n 1, 1) := by decide +kernel
theorem dX0_heapWith_1 : decode cX0_heapWith 1 = .ok (.ifCond .lt 19, 3) := by decide +kernel
theorem dX0_heapWith_4 : decode cX0_heapWith 4 = .ok (.iload_n 1, 1) := by decide +kernel
theorem dX0_heapWith_5 : decode cX0_heapWith 5 = .ok (.sipush 256, 3) := by decide +kernel
theorem dX0_heapWith_8 : decode cX0_heapWith 8 = .ok (.if_icmp .ge 12, 3) := by decide +kernel
theorem dX0_heapWith_11 : decode cX0_heapWith 11 = .ok (.aload_n 0, 1) := by decide +kernel
theorem dX0_heapWith_12 : decode cX0_heapWith 12 = .ok (.getfield 21, 3) := by decide +kernel
theorem dX0_heapWith_15 : decode cX0_heapWith 15 = .ok (.iload_n 1, 1) := by decide +kernel
theorem dX0_heapWith_16 : decode cX0_heapWith 16 = .ok (.iaload, 1) := by decide +kernel
theorem dX0_heapWith_17 : decode cX0_heapWith 17 = .ok (.goto 4, 3) := by decide +kernel
theorem dX0_heapWith_20 : decode cX0_heapWith 20 = .ok (.iconst (-1), 1) := by decide +kernel
theorem dX0_heapWith_21 : decode cX0_heapWith 21 = .ok (.ireturn, 1) := by decide +kernel
theorem dX0_placeOf_0 : decode cX0_placeOf 0 = .ok (.iconst 0, 1) := by decide +kernel
theorem dX0_placeOf_1 : decode cX0_placeOf 1 = .ok (.istore_n 2, 1) := by decide +kernel
theorem dX0_placeOf_2 : decode cX0_placeOf 2 = .ok (.iconst 0, 1) := by decide +kernel
theorem dX0_placeOf_3 : decode cX0_placeOf 3 = .ok (.istore_n 3, 1) := by decide +kernel
theorem dX0_placeOf_4 : decode cX0_placeOf 4 = .ok (.iload_n 3, 1) := by decide +kernel
theorem dX0_placeOf_5 : decode cX0_placeOf 5 = .ok (.aload_n 0, 1) := by decide +kernel
theorem dX0_placeOf_6 : decode cX0_placeOf 6 = .ok (.getfield 27, 3) := by decide +kernel
theorem dX0_placeOf_9 : decode cX0_placeOf 9 = .ok (.if_icmp .ge 21, 3) := by decide +kernel
theorem dX0_placeOf_12 : decode cX0_placeOf 12 = .ok (.aload_n 0, 1) := by decide +kernel
theorem dX0_placeOf_13 : decode cX0_placeOf 13 = .ok (.iload_n 3, 1) := by decide +kernel
theorem dX0_placeOf_14 : decode cX0_placeOf 14 = .ok (.iload_n 1, 1) := by decide +kernel
theorem dX0_placeOf_15 : decode cX0_placeOf 15 = .ok (.invokevirtual 52, 3) := by decide +kernel
theorem dX0_placeOf_18 : decode cX0_placeOf 18 = .ok (.ifCond .eq 6, 3) := by decide +kernel
theorem dX0_placeOf_21 : decode cX0_placeOf 21 = .ok (.iinc 2 1, 3) := by decide +kernel
theorem dX0_placeOf_24 : decode cX0_placeOf 24 = .ok (.iinc 3 1, 3) := by decide +kernel
theorem dX0_placeOf_27 : decode cX0_placeOf 27 = .ok (.goto (-23), 3) := by decide +kernel
theorem dX0_placeOf_30 : decode cX0_placeOf 30 = .ok (.iload_n 2, 1) := by decide +kernel
theorem dX0_placeOf_31 : decode cX0_placeOf 31 = .ok (.ireturn, 1) := by decide +kernel
theorem dX0_heapAt_0 : decode cX0_heapAt 0 = .ok (.iconst 0, 1) := by decide +kernel
theorem dX0_heapAt_1 : decode cX0_heapAt 1 = .ok (.istore_n 2, 1) := by decide +kernel
theorem dX0_heapAt_2 : decode cX0_heapAt 2 = .ok (.iload_n 2, 1) := by decide +kernel
theorem dX0_heapAt_3 : decode cX0_heapAt 3 = .ok (.aload_n 0, 1) := by decide +kernel
theorem dX0_heapAt_4 : decode cX0_heapAt 4 = .ok (.getfield 27, 3) := by decide +kernel
theorem dX0_heapAt_7 : decode cX0_heapAt 7 = .ok (.if_icmp .ge 20, 3) := by decide +kernel
theorem dX0_heapAt_10 : decode cX0_heapAt 10 = .ok (.aload_n 0, 1) := by decide +kernel
theorem dX0_heapAt_11 : decode cX0_heapAt 11 = .ok (.iload_n 2, 1) := by decide +kernel
theorem dX0_heapAt_12 : decode cX0_heapAt 12 = .ok (.invokevirtual 56, 3) := by decide +kernel
theorem dX0_heapAt_15 : decode cX0_heapAt 15 = .ok (.iload_n 1, 1) := by decide +kernel
theorem dX0_heapAt_16 : decode cX0_heapAt 16 = .ok (.if_icmp .ne 5, 3) := by decide +kernel
theorem dX0_heapAt_19 : decode cX0_heapAt 19 = .ok (.iload_n 2, 1) := by decide +kernel
theorem dX0_heapAt_20 : decode cX0_heapAt 20 = .ok (.ireturn, 1) := by decide +kernel
theorem dX0_heapAt_21 : decode cX0_heapAt 21 = .ok (.iinc 2 1, 3) := by decide +kernel
theorem dX0_heapAt_24 : decode cX0_heapAt 24 = .ok (.goto (-22), 3) := by decide +kernel
theorem dX0_heapAt_27 : decode cX0_heapAt 27 = .ok (.iconst (-1), 1) := by decide +kernel
theorem dX0_heapAt_28 : decode cX0_heapAt 28 = .ok (.ireturn, 1) := by decide +kernel
theorem dX0_isGreatest_0 : decode cX0_isGreatest 0 = .ok (.iconst 0, 1) := by decide +kernel
theorem dX0_isGreatest_1 : decode cX0_isGreatest 1 = .ok (.istore_n 2, 1) := by decide +kernel
theorem dX0_isGreatest_2 : decode cX0_isGreatest 2 = .ok (.iload_n 2, 1) := by decide +kernel
theorem dX0_isGreatest_3 : decode cX0_isGreatest 3 = .ok (.aload_n 0, 1) := by decide +kernel
theorem dX0_isGreatest_4 : decode cX0_isGreatest 4 = .ok (.getfield 27, 3) := by decide +kernel
theorem dX0_isGreatest_7 : decode cX0_isGreatest 7 = .ok (.if_icmp .ge 20, 3) := by decide +kernel
theorem dX0_isGreatest_10 : decode cX0_isGreatest 10 = .ok (.aload_n 0, 1) := by decide +kernel
theorem dX0_isGreatest_11 : decode cX0_isGreatest 11 = .ok (.iload_n 2, 1) := by decide +kernel
theorem dX0_isGreatest_12 : decode cX0_isGreatest 12 = .ok (.iload_n 1, 1) := by decide +kernel
theorem dX0_isGreatest_13 : decode cX0_isGreatest 13 = .ok (.invokevirtual 52, 3) := by decide +kernel
theorem dX0_isGreatest_16 : decode cX0_isGreatest 16 = .ok (.ifCond .eq 5, 3) := by decide +kernel
theorem dX0_isGreatest_19 : decode cX0_isGreatest 19 = .ok (.iconst 0, 1) := by decide +kernel
theorem dX0_isGreatest_20 : decode cX0_isGreatest 20 = .ok (.ireturn, 1) := by decide +kernel
theorem dX0_isGreatest_21 : decode cX0_isGreatest 21 = .ok (.iinc 2 1, 3) := by decide +kernel
theorem dX0_isGreatest_24 : decode cX0_isGreatest 24 = .ok (.goto (-22), 3) := by decide +kernel
theorem dX0_isGreatest_27 : decode cX0_isGreatest 27 = .ok (.iload_n 1, 1) := by decide +kernel
theorem dX0_isGreatest_28 : decode cX0_isGreatest 28 = .ok (.ifCond .lt 7, 3) := by decide +kernel
theorem dX0_isGreatest_31 : decode cX0_isGreatest 31 = .ok (.iconst 1, 1) := by decide +kernel
theorem dX0_isGreatest_32 : decode cX0_isGreatest 32 = .ok (.goto 4, 3) := by decide +kernel
theorem dX0_isGreatest_35 : decode cX0_isGreatest 35 = .ok (.iconst 0, 1) := by decide +kernel
theorem dX0_isGreatest_36 : decode cX0_isGreatest 36 = .ok (.ireturn, 1) := by decide +kernel
theorem dX0_mostChips_0 : decode cX0_mostChips 0 = .ok (.iconst 0, 1) := by decide +kernel
theorem dX0_mostChips_1 : decode cX0_mostChips 1 = .ok (.istore_n 3, 1) := by decide +kernel
theorem dX0_mostChips_2 : decode cX0_mostChips 2 = .ok (.iconst 0, 1) := by decide +kernel
theorem dX0_mostChips_3 : decode cX0_mostChips 3 = .ok (.istore 4, 2) := by decide +kernel
theorem dX0_mostChips_5 : decode cX0_mostChips 5 = .ok (.iload 4, 2) := by decide +kernel
theorem dX0_mostChips_7 : decode cX0_mostChips 7 = .ok (.sipush 256, 3) := by decide +kernel
theorem dX0_mostChips_10 : decode cX0_mostChips 10 = .ok (.if_icmp .ge 36, 3) := by decide +kernel
theorem dX0_mostChips_13 : decode cX0_mostChips 13 = .ok (.iload 4, 2) := by decide +kernel
theorem dX0_mostChips_15 : decode cX0_mostChips 15 = .ok (.aload_n 1, 1) := by decide +kernel
theorem dX0_mostChips_16 : decode cX0_mostChips 16 = .ok (.arraylength, 1) := by decide +kernel
theorem dX0_mostChips_17 : decode cX0_mostChips 17 = .ok (.if_icmp .ge 29, 3) := by decide +kernel
theorem dX0_mostChips_20 : decode cX0_mostChips 20 = .ok (.aload_n 0, 1) := by decide +kernel
theorem dX0_mostChips_21 : decode cX0_mostChips 21 = .ok (.getfield 21, 3) := by decide +kernel
theorem dX0_mostChips_24 : decode cX0_mostChips 24 = .ok (.iload 4, 2) := by decide +kernel
theorem dX0_mostChips_26 : decode cX0_mostChips 26 = .ok (.iaload, 1) := by decide +kernel
theorem dX0_mostChips_27 : decode cX0_mostChips 27 = .ok (.iload_n 2, 1) := by decide +kernel
theorem dX0_mostChips_28 : decode cX0_mostChips 28 = .ok (.if_icmp .ne 12, 3) := by decide +kernel
theorem dX0_mostChips_31 : decode cX0_mostChips 31 = .ok (.iload_n 3, 1) := by decide +kernel
theorem dX0_mostChips_32 : decode cX0_mostChips 32 = .ok (.aload_n 1, 1) := by decide +kernel
theorem dX0_mostChips_33 : decode cX0_mostChips 33 = .ok (.iload 4, 2) := by decide +kernel
theorem dX0_mostChips_35 : decode cX0_mostChips 35 = .ok (.iaload, 1) := by decide +kernel
theorem dX0_mostChips_36 : decode cX0_mostChips 36 = .ok (.invokestatic 60, 3) := by decide +kernel
theorem dX0_mostChips_39 : decode cX0_mostChips 39 = .ok (.istore_n 3, 1) := by decide +kernel
theorem dX0_mostChips_40 : decode cX0_mostChips 40 = .ok (.iinc 4 1, 3) := by decide +kernel
theorem dX0_mostChips_43 : decode cX0_mostChips 43 = .ok (.goto (-38), 3) := by decide +kernel
theorem dX0_mostChips_46 : decode cX0_mostChips 46 = .ok (.iload_n 3, 1) := by decide +kernel
theorem dX0_mostChips_47 : decode cX0_mostChips 47 = .ok (.ireturn, 1) := by decide +kernel
theorem dX0_comesAhead_0 : decode cX0_comesAhead 0 = .ok (.iload_n 1, 1) := by decide +kernel
theorem dX0_comesAhead_1 : decode cX0_comesAhead 1 = .ok (.ifCond .lt 21, 3) := by decide +kernel
theorem dX0_comesAhead_4 : decode cX0_comesAhead 4 = .ok (.iload_n 1, 1) := by decide +kernel
theorem dX0_comesAhead_5 : decode cX0_comesAhead 5 = .ok (.sipush 128, 3) := by decide +kernel
theorem dX0_comesAhead_8 : decode cX0_comesAhead 8 = .ok (.if_icmp .ge 14, 3) := by decide +kernel
theorem dX0_comesAhead_11 : decode cX0_comesAhead 11 = .ok (.iload_n 2, 1) := by decide +kernel
theorem dX0_comesAhead_12 : decode cX0_comesAhead 12 = .ok (.ifCond .lt 10, 3) := by decide +kernel
theorem dX0_comesAhead_15 : decode cX0_comesAhead 15 = .ok (.iload_n 2, 1) := by decide +kernel
theorem dX0_comesAhead_16 : decode cX0_comesAhead 16 = .ok (.sipush 128, 3) := by decide +kernel
theorem dX0_comesAhead_19 : decode cX0_comesAhead 19 = .ok (.if_icmp .lt 5, 3) := by decide +kernel
theorem dX0_comesAhead_22 : decode cX0_comesAhead 22 = .ok (.iconst 0, 1) := by decide +kernel
theorem dX0_comesAhead_23 : decode cX0_comesAhead 23 = .ok (.ireturn, 1) := by decide +kernel
theorem dX0_comesAhead_24 : decode cX0_comesAhead 24 = .ok (.aload_n 0, 1) := by decide +kernel
theorem dX0_comesAhead_25 : decode cX0_comesAhead 25 = .ok (.getfield 9, 3) := by decide +kernel
theorem dX0_comesAhead_28 : decode cX0_comesAhead 28 = .ok (.iload_n 1, 1) := by decide +kernel
theorem dX0_comesAhead_29 : decode cX0_comesAhead 29 = .ok (.iaload, 1) := by decide +kernel
theorem dX0_comesAhead_30 : decode cX0_comesAhead 30 = .ok (.aload_n 0, 1) := by decide +kernel
theorem dX0_comesAhead_31 : decode cX0_comesAhead 31 = .ok (.getfield 9, 3) := by decide +kernel
theorem dX0_comesAhead_34 : decode cX0_comesAhead 34 = .ok (.iload_n 2, 1) := by decide +kernel
theorem dX0_comesAhead_35 : decode cX0_comesAhead 35 = .ok (.iaload, 1) := by decide +kernel
theorem dX0_comesAhead_36 : decode cX0_comesAhead 36 = .ok (.if_icmp .eq 24, 3) := by decide +kernel
theorem dX0_comesAhead_39 : decode cX0_comesAhead 39 = .ok (.aload_n 0, 1) := by decide +kernel
theorem dX0_comesAhead_40 : decode cX0_comesAhead 40 = .ok (.getfield 9, 3) := by decide +kernel
theorem dX0_comesAhead_43 : decode cX0_comesAhead 43 = .ok (.iload_n 1, 1) := by decide +kernel
theorem dX0_comesAhead_44 : decode cX0_comesAhead 44 = .ok (.iaload, 1) := by decide +kernel
theorem dX0_comesAhead_45 : decode cX0_comesAhead 45 = .ok (.aload_n 0, 1) := by decide +kernel
theorem dX0_comesAhead_46 : decode cX0_comesAhead 46 = .ok (.getfield 9, 3) := by decide +kernel
theorem dX0_comesAhead_49 : decode cX0_comesAhead 49 = .ok (.iload_n 2, 1) := by decide +kernel
theorem dX0_comesAhead_50 : decode cX0_comesAhead 50 = .ok (.iaload, 1) := by decide +kernel
theorem dX0_comesAhead_51 : decode cX0_comesAhead 51 = .ok (.if_icmp .le 7, 3) := by decide +kernel
theorem dX0_comesAhead_54 : decode cX0_comesAhead 54 = .ok (.iconst 1, 1) := by decide +kernel
theorem dX0_comesAhead_55 : decode cX0_comesAhead 55 = .ok (.goto 4, 3) := by decide +kernel
theorem dX0_comesAhead_58 : decode cX0_comesAhead 58 = .ok (.iconst 0, 1) := by decide +kernel
theorem dX0_comesAhead_59 : decode cX0_comesAhead 59 = .ok (.ireturn, 1) := by decide +kernel
theorem dX0_comesAhead_60 : decode cX0_comesAhead 60 = .ok (.aload_n 0, 1) := by decide +kernel
theorem dX0_comesAhead_61 : decode cX0_comesAhead 61 = .ok (.getfield 15, 3) := by decide +kernel
theorem dX0_comesAhead_64 : decode cX0_comesAhead 64 = .ok (.iload_n 1, 1) := by decide +kernel
theorem dX0_comesAhead_65 : decode cX0_comesAhead 65 = .ok (.iaload, 1) := by decide +kernel
theorem dX0_comesAhead_66 : decode cX0_comesAhead 66 = .ok (.aload_n 0, 1) := by decide +kernel
theorem dX0_comesAhead_67 : decode cX0_comesAhead 67 = .ok (.getfield 15, 3) := by decide +kernel
theorem dX0_comesAhead_70 : decode cX0_comesAhead 70 = .ok (.iload_n 2, 1) := by decide +kernel
theorem dX0_comesAhead_71 : decode cX0_comesAhead 71 = .ok (.iaload, 1) := by decide +kernel
theorem dX0_comesAhead_72 : decode cX0_comesAhead 72 = .ok (.if_icmp .eq 24, 3) := by decide +kernel
theorem dX0_comesAhead_75 : decode cX0_comesAhead 75 = .ok (.aload_n 0, 1) := by decide +kernel
theorem dX0_comesAhead_76 : decode cX0_comesAhead 76 = .ok (.getfield 15, 3) := by decide +kernel
theorem dX0_comesAhead_79 : decode cX0_comesAhead 79 = .ok (.iload_n 1, 1) := by decide +kernel
theorem dX0_comesAhead_80 : decode cX0_comesAhead 80 = .ok (.iaload, 1) := by decide +kernel
theorem dX0_comesAhead_81 : decode cX0_comesAhead 81 = .ok (.aload_n 0, 1) := by decide +kernel
theorem dX0_comesAhead_82 : decode cX0_comesAhead 82 = .ok (.getfield 15, 3) := by decide +kernel
theorem dX0_comesAhead_85 : decode cX0_comesAhead 85 = .ok (.iload_n 2, 1) := by decide +kernel
theorem dX0_comesAhead_86 : decode cX0_comesAhead 86 = .ok (.iaload, 1) := by decide +kernel
theorem dX0_comesAhead_87 : decode cX0_comesAhead 87 = .ok (.if_icmp .ge 7, 3) := by decide +kernel
theorem dX0_comesAhead_90 : decode cX0_comesAhead 90 = .ok (.iconst 1, 1) := by decide +kernel
theorem dX0_comesAhead_91 : decode cX0_comesAhead 91 = .ok (.goto 4, 3) := by decide +kernel
theorem dX0_comesAhead_94 : decode cX0_comesAhead 94 = .ok (.iconst 0, 1) := by decide +kernel
theorem dX0_comesAhead_95 : decode cX0_comesAhead 95 = .ok (.ireturn, 1) := by decide +kernel
theorem dX0_comesAhead_96 : decode cX0_comesAhead 96 = .ok (.iload_n 1, 1) := by decide +kernel
theorem dX0_comesAhead_97 : decode cX0_comesAhead 97 = .ok (.iload_n 2, 1) := by decide +kernel
theorem dX0_comesAhead_98 : decode cX0_comesAhead 98 = .ok (.if_icmp .ge 7, 3) := by decide +kernel
theorem dX0_comesAhead_101 : decode cX0_comesAhead 101 = .ok (.iconst 1, 1) := by decide +kernel
theorem dX0_comesAhead_102 : decode cX0_comesAhead 102 = .ok (.goto 4, 3) := by decide +kernel
theorem dX0_comesAhead_105 : decode cX0_comesAhead 105 = .ok (.iconst 0, 1) := by decide +kernel
theorem dX0_comesAhead_106 : decode cX0_comesAhead 106 = .ok (.ireturn, 1) := by decide +kernel
theorem dX1_init_0 : decode cX1_init 0 = .ok (.aload_n 0, 1) := by decide +kernel
theorem dX1_init_1 : decode cX1_init 1 = .ok (.invokespecial 3, 3) := by decide +kernel
theorem dX1_init_4 : decode cX1_init 4 = .ok (.aload_n 0, 1) := by decide +kernel
theorem dX1_init_5 : decode cX1_init 5 = .ok (.iconst 5, 1) := by decide +kernel
theorem dX1_init_6 : decode cX1_init 6 = .ok (.anewarray 9, 3) := by decide +kernel
theorem dX1_init_9 : decode cX1_init 9 = .ok (.putfield 11, 3) := by decide +kernel
theorem dX1_init_12 : decode cX1_init 12 = .ok (.aload_n 0, 1) := by decide +kernel
theorem dX1_init_13 : decode cX1_init 13 = .ok (.iconst 0, 1) := by decide +kernel
theorem dX1_init_14 : decode cX1_init 14 = .ok (.putfield 17, 3) := by decide +kernel
theorem dX1_init_17 : decode cX1_init 17 = .ok (.iconst 0, 1) := by decide +kernel
theorem dX1_init_18 : decode cX1_init 18 = .ok (.istore_n 1, 1) := by decide +kernel
theorem dX1_init_19 : decode cX1_init 19 = .ok (.iload_n 1, 1) := by decide +kernel
theorem dX1_init_20 : decode cX1_init 20 = .ok (.iconst 5, 1) := by decide +kernel
theorem dX1_init_21 : decode cX1_init 21 = .ok (.if_icmp .ge 22, 3) := by decide +kernel
theorem dX1_init_24 : decode cX1_init 24 = .ok (.aload_n 0, 1) := by decide +kernel
theorem dX1_init_25 : decode cX1_init 25 = .ok (.getfield 11, 3) := by decide +kernel
theorem dX1_init_28 : decode cX1_init 28 = .ok (.iload_n 1, 1) := by decide +kernel
theorem dX1_init_29 : decode cX1_init 29 = .ok (.new 9, 3) := by decide +kernel
theorem dX1_init_32 : decode cX1_init 32 = .ok (.dup, 1) := by decide +kernel
theorem dX1_init_33 : decode cX1_init 33 = .ok (.invokespecial 21, 3) := by decide +kernel
theorem dX1_init_36 : decode cX1_init 36 = .ok (.aastore, 1) := by decide +kernel
theorem dX1_init_37 : decode cX1_init 37 = .ok (.iinc 1 1, 3) := by decide +kernel
theorem dX1_init_40 : decode cX1_init 40 = .ok (.goto (-21), 3) := by decide +kernel
theorem dX1_init_43 : decode cX1_init 43 = .ok (.return_, 1) := by decide +kernel
theorem dX1_record_0 : decode cX1_record 0 = .ok (.aload_n 0, 1) := by decide +kernel
theorem dX1_record_1 : decode cX1_record 1 = .ok (.getfield 17, 3) := by decide +kernel
theorem dX1_record_4 : decode cX1_record 4 = .ok (.iconst 5, 1) := by decide +kernel
theorem dX1_record_5 : decode cX1_record 5 = .ok (.if_icmp .lt 7, 3) := by decide +kernel
theorem dX1_record_8 : decode cX1_record 8 = .ok (.aload_n 0, 1) := by decide +kernel
theorem dX1_record_9 : decode cX1_record 9 = .ok (.invokevirtual 22, 3) := by decide +kernel
theorem dX1_record_12 : decode cX1_record 12 = .ok (.aload_n 0, 1) := by decide +kernel
theorem dX1_record_13 : decode cX1_record 13 = .ok (.aload_n 0, 1) := by decide +kernel
theorem dX1_record_14 : decode cX1_record 14 = .ok (.getfield 17, 3) := by decide +kernel
theorem dX1_record_17 : decode cX1_record 17 = .ok (.invokevirtual 25, 3) := by decide +kernel
theorem dX1_record_20 : decode cX1_record 20 = .ok (.astore_n 2, 1) := by decide +kernel
theorem dX1_record_21 : decode cX1_record 21 = .ok (.aload_n 2, 1) := by decide +kernel
theorem dX1_record_22 : decode cX1_record 22 = .ok (.ifnull 18, 3) := by decide +kernel
theorem dX1_record_25 : decode cX1_record 25 = .ok (.aload_n 2, 1) := by decide +kernel
theorem dX1_record_26 : decode cX1_record 26 = .ok (.aload_n 1, 1) := by decide +kernel
theorem dX1_record_27 : decode cX1_record 27 = .ok (.invokevirtual 29, 3) := by decide +kernel
theorem dX1_record_30 : decode cX1_record 30 = .ok (.aload_n 0, 1) := by decide +kernel
theorem dX1_record_31 : decode cX1_record 31 = .ok (.dup, 1) := by decide +kernel
theorem dX1_record_32 : decode cX1_record 32 = .ok (.getfield 17, 3) := by decide +kernel
theorem dX1_record_35 : decode cX1_record 35 = .ok (.iconst 1, 1) := by decide +kernel
theorem dX1_record_36 : decode cX1_record 36 = .ok (.iadd, 1) := by decide +kernel
theorem dX1_record_37 : decode cX1_record 37 = .ok (.putfield 17, 3) := by decide +kernel
theorem dX1_record_40 : decode cX1_record 40 = .ok (.return_, 1) := by decide +kernel
theorem dX1_takeLatest_0 : decode cX1_takeLatest 0 = .ok (.aload_n 0, 1) := by decide +kernel
theorem dX1_takeLatest_1 : decode cX1_takeLatest 1 = .ok (.aload_n 0, 1) := by decide +kernel
theorem dX1_takeLatest_2 : decode cX1_takeLatest 2 = .ok (.getfield 17, 3) := by decide +kernel
theorem dX1_takeLatest_5 : decode cX1_takeLatest 5 = .ok (.iconst 1, 1) := by decide +kernel
theorem dX1_takeLatest_6 : decode cX1_takeLatest 6 = .ok (.isub, 1) := by decide +kernel
theorem dX1_takeLatest_7 : decode cX1_takeLatest 7 = .ok (.invokevirtual 25, 3) := by decide +kernel
theorem dX1_takeLatest_10 : decode cX1_takeLatest 10 = .ok (.astore_n 1, 1) := by decide +kernel
theorem dX1_takeLatest_11 : decode cX1_takeLatest 11 = .ok (.aload_n 1, 1) := by decide +kernel
theorem dX1_takeLatest_12 : decode cX1_takeLatest 12 = .ok (.ifnull 13, 3) := by decide +kernel
theorem dX1_takeLatest_15 : decode cX1_takeLatest 15 = .ok (.aload_n 0, 1) := by decide +kernel
theorem dX1_takeLatest_16 : decode cX1_takeLatest 16 = .ok (.dup, 1) := by decide +kernel
theorem dX1_takeLatest_17 : decode cX1_takeLatest 17 = .ok (.getfield 17, 3) := by decide +kernel
theorem dX1_takeLatest_20 : decode cX1_takeLatest 20 = .ok (.iconst 1, 1) := by decide +kernel
theorem dX1_takeLatest_21 : decode cX1_takeLatest 21 = .ok (.isub, 1) := by decide +kernel
theorem dX1_takeLatest_22 : decode cX1_takeLatest 22 = .ok (.putfield 17, 3) := by decide +kernel
theorem dX1_takeLatest_25 : decode cX1_takeLatest 25 = .ok (.aload_n 1, 1) := by decide +kernel
theorem dX1_takeLatest_26 : decode cX1_takeLatest 26 = .ok (.areturn, 1) := by decide +kernel
theorem dX1_dropOldest_0 : decode cX1_dropOldest 0 = .ok (.aload_n 0, 1) := by decide +kernel
theorem dX1_dropOldest_1 : decode cX1_dropOldest 1 = .ok (.getfield 11, 3) := by decide +kernel
theorem dX1_dropOldest_4 : decode cX1_dropOldest 4 = .ok (.iconst 0, 1) := by decide +kernel
theorem dX1_dropOldest_5 : decode cX1_dropOldest 5 = .ok (.aaload, 1) := by decide +kernel
theorem dX1_dropOldest_6 : decode cX1_dropOldest 6 = .ok (.astore_n 1, 1) := by decide +kernel
theorem dX1_dropOldest_7 : decode cX1_dropOldest 7 = .ok (.iconst 1, 1) := by decide +kernel
theorem dX1_dropOldest_8 : decode cX1_dropOldest 8 = .ok (.istore_n 2, 1) := by decide +kernel
theorem dX1_dropOldest_9 : decode cX1_dropOldest 9 = .ok (.iload_n 2, 1) := by decide +kernel
theorem dX1_dropOldest_10 : decode cX1_dropOldest 10 = .ok (.iconst 5, 1) := by decide +kernel
theorem dX1_dropOldest_11 : decode cX1_dropOldest 11 = .ok (.if_icmp .ge 23, 3) := by decide +kernel
theorem dX1_dropOldest_14 : decode cX1_dropOldest 14 = .ok (.aload_n 0, 1) := by decide +kernel
theorem dX1_dropOldest_15 : decode cX1_dropOldest 15 = .ok (.getfield 11, 3) := by decide +kernel
theorem dX1_dropOldest_18 : decode cX1_dropOldest 18 = .ok (.iload_n 2, 1) := by decide +kernel
theorem dX1_dropOldest_19 : decode cX1_dropOldest 19 = .ok (.iconst 1, 1) := by decide +kernel
theorem dX1_dropOldest_20 : decode cX1_dropOldest 20 = .ok (.isub, 1) := by decide +kernel
theorem dX1_dropOldest_21 : decode cX1_dropOldest 21 = .ok (.aload_n 0, 1) := by decide +kernel
theorem dX1_dropOldest_22 : decode cX1_dropOldest 22 = .ok (.getfield 11, 3) := by decide +kernel
theorem dX1_dropOldest_25 : decode cX1_dropOldest 25 = .ok (.iload_n 2, 1) := by decide +kernel
theorem dX1_dropOldest_26 : decode cX1_dropOldest 26 = .ok (.aaload, 1) := by decide +kernel
theorem dX1_dropOldest_27 : decode cX1_dropOldest 27 = .ok (.aastore, 1) := by decide +kernel
theorem dX1_dropOldest_28 : decode cX1_dropOldest 28 = .ok (.iinc 2 1, 3) := by decide +kernel
theorem dX1_dropOldest_31 : decode cX1_dropOldest 31 = .ok (.goto (-22), 3) := by decide +kernel
theorem dX1_dropOldest_34 : decode cX1_dropOldest 34 = .ok (.aload_n 0, 1) := by decide +kernel
theorem dX1_dropOldest_35 : decode cX1_dropOldest 35 = .ok (.getfield 11, 3) := by decide +kernel
theorem dX1_dropOldest_38 : decode cX1_dropOldest 38 = .ok (.iconst 4, 1) := by decide +kernel
theorem dX1_dropOldest_39 : decode cX1_dropOldest 39 = .ok (.aload_n 1, 1) := by decide +kernel
theorem dX1_dropOldest_40 : decode cX1_dropOldest 40 = .ok (.aastore, 1) := by decide +kernel
theorem dX1_dropOldest_41 : decode cX1_dropOldest 41 = .ok (.aload_n 0, 1) := by decide +kernel
theorem dX1_dropOldest_42 : decode cX1_dropOldest 42 = .ok (.iconst 4, 1) := by decide +kernel
theorem dX1_dropOldest_43 : decode cX1_dropOldest 43 = .ok (.putfield 17, 3) := by decide +kernel
theorem dX1_dropOldest_46 : decode cX1_dropOldest 46 = .ok (.return_, 1) := by decide +kernel
theorem dX1_stateAt_0 : decode cX1_stateAt 0 = .ok (.iload_n 1, 1) := by decide +kernel
theorem dX1_stateAt_1 : decode cX1_stateAt 1 = .ok (.ifCond .lt 12, 3) := by decide +kernel
theorem dX1_stateAt_4 : decode cX1_stateAt 4 = .ok (.iload_n 1, 1) := by decide +kernel
theorem dX1_stateAt_5 : decode cX1_stateAt 5 = .ok (.aload_n 0, 1) := by decide +kernel
theorem dX1_stateAt_6 : decode cX1_stateAt 6 = .ok (.getfield 11, 3) := by decide +kernel
theorem dX1_stateAt_9 : decode cX1_stateAt 9 = .ok (.arraylength, 1) := by decide +kernel
theorem dX1_stateAt_10 : decode cX1_stateAt 10 = .ok (.if_icmp .lt 5, 3) := by decide +kernel
theorem dX1_stateAt_13 : decode cX1_stateAt 13 = .ok (.aconst_null, 1) := by decide +kernel
theorem dX1_stateAt_14 : decode cX1_stateAt 14 = .ok (.areturn, 1) := by decide +kernel
theorem dX1_stateAt_15 : decode cX1_stateAt 15 = .ok (.aload_n 0, 1) := by decide +kernel
theorem dX1_stateAt_16 : decode cX1_stateAt 16 = .ok (.getfield 11, 3) := by decide +kernel
theorem dX1_stateAt_19 : decode cX1_stateAt 19 = .ok (.iload_n 1, 1) := by decide +kernel
theorem dX1_stateAt_20 : decode cX1_stateAt 20 = .ok (.aaload, 1) := by decide +kernel
theorem dX1_stateAt_21 : decode cX1_stateAt 21 = .ok (.areturn, 1) := by decide +kernel
theorem dX2_init_0 : decode cX2_init 0 = .ok (.aload_n 0, 1) := by decide +kernel
theorem dX2_init_1 : decode cX2_init 1 = .ok (.invokespecial 3, 3) := by decide +kernel
theorem dX2_init_4 : decode cX2_init 4 = .ok (.aload_n 0, 1) := by decide +kernel
theorem dX2_init_5 : decode cX2_init 5 = .ok (.bipush 40, 2) := by decide +kernel
theorem dX2_init_7 : decode cX2_init 7 = .ok (.newarray .char, 2) := by decide +kernel
theorem dX2_init_9 : decode cX2_init 9 = .ok (.putfield 9, 3) := by decide +kernel
theorem dX2_init_12 : decode cX2_init 12 = .ok (.aload_n 0, 1) := by decide +kernel
theorem dX2_init_13 : decode cX2_init 13 = .ok (.iconst 0, 1) := by decide +kernel
theorem dX2_init_14 : decode cX2_init 14 = .ok (.putfield 15, 3) := by decide +kernel
theorem dX2_init_17 : decode cX2_init 17 = .ok (.aload_n 0, 1) := by decide +kernel
theorem dX2_init_18 : decode cX2_init 18 = .ok (.bipush 40, 2) := by decide +kernel
theorem dX2_init_20 : decode cX2_init 20 = .ok (.newarray .char, 2) := by decide +kernel
theorem dX2_init_22 : decode cX2_init 22 = .ok (.putfield 19, 3) := by decide +kernel
theorem dX2_init_25 : decode cX2_init 25 = .ok (.aload_n 0, 1) := by decide +kernel
theorem dX2_init_26 : decode cX2_init 26 = .ok (.bipush 40, 2) := by decide +kernel
theorem dX2_init_28 : decode cX2_init 28 = .ok (.newarray .int, 2) := by decide +kernel
theorem dX2_init_30 : decode cX2_init 30 = .ok (.putfield 22, 3) := by decide +kernel
theorem dX2_init_33 : decode cX2_init 33 = .ok (.aload_n 0, 1) := by decide +kernel
theorem dX2_init_34 : decode cX2_init 34 = .ok (.iconst 0, 1) := by decide +kernel
theorem dX2_init_35 : decode cX2_init 35 = .ok (.putfield 26, 3) := by decide +kernel
theorem dX2_init_38 : decode cX2_init 38 = .ok (.aload_n 0, 1) := by decide +kernel
theorem dX2_init_39 : decode cX2_init 39 = .ok (.iconst 0, 1) := by decide +kernel
theorem dX2_init_40 : decode cX2_init 40 = .ok (.putfield 29, 3) := by decide +kernel
theorem dX2_init_43 : decode cX2_init 43 = .ok (.return_, 1) := by decide +kernel
theorem dX2_append_0 : decode cX2_append 0 = .ok (.aload_n 0, 1) := by decide +kernel
theorem dX2_append_1 : decode cX2_append 1 = .ok (.getfield 15, 3) := by decide +kernel
theorem dX2_append_4 : decode cX2_append 4 = .ok (.ifCond .lt 15, 3) := by decide +kernel
theorem dX2_append_7 : decode cX2_append 7 = .ok (.aload_n 0, 1) := by decide +kernel
theorem dX2_append_8 : decode cX2_append 8 = .ok (.getfield 15, 3) := by decide +kernel
theorem dX2_append_11 : decode cX2_append 11 = .ok (.aload_n 0, 1) := by decide +kernel
theorem dX2_append_12 : decode cX2_append 12 = .ok (.getfield 9, 3) := by decide +kernel
theorem dX2_append_15 : decode cX2_append 15 = .ok (.arraylength, 1) := by decide +kernel
theorem dX2_append_16 : decode cX2_append 16 = .ok (.if_icmp .lt 5, 3) := by decide +kernel
theorem dX2_append_19 : decode cX2_append 19 = .ok (.iconst 0, 1) := by decide +kernel
theorem dX2_append_20 : decode cX2_append 20 = .ok (.ireturn, 1) := by decide +kernel
theorem dX2_append_21 : decode cX2_append 21 = .ok (.aload_n 0, 1) := by decide +kernel
theorem dX2_append_22 : decode cX2_append 22 = .ok (.getfield 9, 3) := by decide +kernel
theorem dX2_append_25 : decode cX2_append 25 = .ok (.aload_n 0, 1) := by decide +kernel
theorem dX2_append_26 : decode cX2_append 26 = .ok (.getfield 15, 3) := by decide +kernel
theorem dX2_append_29 : decode cX2_append 29 = .ok (.iload_n 1, 1) := by decide +kernel
theorem dX2_append_30 : decode cX2_append 30 = .ok (.castore, 1) := by decide +kernel
theorem dX2_append_31 : decode cX2_append 31 = .ok (.aload_n 0, 1) := by decide +kernel
theorem dX2_append_32 : decode cX2_append 32 = .ok (.dup, 1) := by decide +kernel
theorem dX2_append_33 : decode cX2_append 33 = .ok (.getfield 15, 3) := by decide +kernel
theorem dX2_append_36 : decode cX2_append 36 = .ok (.iconst 1, 1) := by decide +kernel
theorem dX2_append_37 : decode cX2_append 37 = .ok (.iadd, 1) := by decide +kernel
theorem dX2_append_38 : decode cX2_append 38 = .ok (.putfield 15, 3) := by decide +kernel
theorem dX2_append_41 : decode cX2_append 41 = .ok (.iconst 1, 1) := by decide +kernel
theorem dX2_append_42 : decode cX2_append 42 = .ok (.ireturn, 1) := by decide +kernel
theorem dX2_readOrders_0 : decode cX2_readOrders 0 = .ok (.aload_n 0, 1) := by decide +kernel
theorem dX2_readOrders_1 : decode cX2_readOrders 1 = .ok (.iconst 0, 1) := by decide +kernel
theorem dX2_readOrders_2 : decode cX2_readOrders 2 = .ok (.putfield 26, 3) := by decide +kernel
theorem dX2_readOrders_5 : decode cX2_readOrders 5 = .ok (.aload_n 0, 1) := by decide +kernel
theorem dX2_readOrders_6 : decode cX2_readOrders 6 = .ok (.iconst 0, 1) := by decide +kernel
theorem dX2_readOrders_7 : decode cX2_readOrders 7 = .ok (.putfield 29, 3) := by decide +kernel
theorem dX2_readOrders_10 : decode cX2_readOrders 10 = .ok (.iconst 0, 1) := by decide +kernel
theorem dX2_readOrders_11 : decode cX2_readOrders 11 = .ok (.istore_n 2, 1) := by decide +kernel
theorem dX2_readOrders_12 : decode cX2_readOrders 12 = .ok (.iload_n 2, 1) := by decide +kernel
theorem dX2_readOrders_13 : decode cX2_readOrders 13 = .ok (.aload_n 0, 1) := by decide +kernel
theorem dX2_readOrders_14 : decode cX2_readOrders 14 = .ok (.getfield 15, 3) := by decide +kernel
theorem dX2_readOrders_17 : decode cX2_readOrders 17 = .ok (.if_icmp .ge 34, 3) := by decide +kernel
theorem dX2_readOrders_20 : decode cX2_readOrders 20 = .ok (.iload_n 2, 1) := by decide +kernel
theorem dX2_readOrders_21 : decode cX2_readOrders 21 = .ok (.aload_n 0, 1) := by decide +kernel
theorem dX2_readOrders_22 : decode cX2_readOrders 22 = .ok (.getfield 9, 3) := by decide +kernel
theorem dX2_readOrders_25 : decode cX2_readOrders 25 = .ok (.arraylength, 1) := by decide +kernel
theorem dX2_readOrders_26 : decode cX2_readOrders 26 = .ok (.if_icmp .ge 25, 3) := by decide +kernel
theorem dX2_readOrders_29 : decode cX2_readOrders 29 = .ok (.aload_n 0, 1) := by decide +kernel
theorem dX2_readOrders_30 : decode cX2_readOrders 30 = .ok (.aload_n 0, 1) := by decide +kernel
theorem dX2_readOrders_31 : decode cX2_readOrders 31 = .ok (.getfield 9, 3) := by decide +kernel
theorem dX2_readOrders_34 : decode cX2_readOrders 34 = .ok (.iload_n 2, 1) := by decide +kernel
theorem dX2_readOrders_35 : decode cX2_readOrders 35 = .ok (.caload, 1) := by decide +kernel
theorem dX2_readOrders_36 : decode cX2_readOrders 36 = .ok (.iload_n 1, 1) := by decide +kernel
theorem dX2_readOrders_37 : decode cX2_readOrders 37 = .ok (.invokevirtual 33, 3) := by decide +kernel
theorem dX2_readOrders_40 : decode cX2_readOrders 40 = .ok (.ifCond .ne 5, 3) := by decide +kernel
theorem dX2_readOrders_43 : decode cX2_readOrders 43 = .ok (.iload_n 2, 1) := by decide +kernel
theorem dX2_readOrders_44 : decode cX2_readOrders 44 = .ok (.ireturn, 1) := by decide +kernel
theorem dX2_readOrders_45 : decode cX2_readOrders 45 = .ok (.iinc 2 1, 3) := by decide +kernel
theorem dX2_readOrders_48 : decode cX2_readOrders 48 = .ok (.goto (-36), 3) := by decide +kernel
theorem dX2_readOrders_51 : decode cX2_readOrders 51 = .ok (.aload_n 0, 1) := by decide +kernel
theorem dX2_readOrders_52 : decode cX2_readOrders 52 = .ok (.getfield 15, 3) := by decide +kernel
theorem dX2_readOrders_55 : decode cX2_readOrders 55 = .ok (.ifCond .eq 10, 3) := by decide +kernel
theorem dX2_readOrders_58 : decode cX2_readOrders 58 = .ok (.aload_n 0, 1) := by decide +kernel
theorem dX2_readOrders_59 : decode cX2_readOrders 59 = .ok (.getfield 29, 3) := by decide +kernel
theorem dX2_readOrders_62 : decode cX2_readOrders 62 = .ok (.ifCond .eq 10, 3) := by decide +kernel
theorem dX2_readOrders_65 : decode cX2_readOrders 65 = .ok (.aload_n 0, 1) := by decide +kernel
theorem dX2_readOrders_66 : decode cX2_readOrders 66 = .ok (.getfield 15, 3) := by decide +kernel
theorem dX2_readOrders_69 : decode cX2_readOrders 69 = .ok (.goto 4, 3) := by decide +kernel
theorem dX2_readOrders_72 : decode cX2_readOrders 72 = .ok (.iconst (-1), 1) := by decide +kernel
theorem dX2_readOrders_73 : decode cX2_readOrders 73 = .ok (.ireturn, 1) := by decide +kernel
theorem dX2_takes_0 : decode cX2_takes 0 = .ok (.iload_n 1, 1) := by decide +kernel
theorem dX2_takes_1 : decode cX2_takes 1 = .ok (.bipush 48, 2) := by decide +kernel
theorem dX2_takes_3 : decode cX2_takes 3 = .ok (.if_icmp .lt 13, 3) := by decide +kernel
theorem dX2_takes_6 : decode cX2_takes 6 = .ok (.iload_n 1, 1) := by decide +kernel
theorem dX2_takes_7 : decode cX2_takes 7 = .ok (.bipush 57, 2) := by decide +kernel
theorem dX2_takes_9 : decode cX2_takes 9 = .ok (.if_icmp .gt 7, 3) := by decide +kernel
theorem dX2_takes_12 : decode cX2_takes 12 = .ok (.iconst 1, 1) := by decide +kernel
theorem dX2_takes_13 : decode cX2_takes 13 = .ok (.goto 4, 3) := by decide +kernel
theorem dX2_takes_16 : decode cX2_takes 16 = .ok (.iconst 0, 1) := by decide +kernel
theorem dX2_takes_17 : decode cX2_takes 17 = .ok (.istore_n 3, 1) := by decide +kernel
theorem dX2_takes_18 : decode cX2_takes 18 = .ok (.aload_n 0, 1) := by decide +kernel
theorem dX2_takes_19 : decode cX2_takes 19 = .ok (.getfield 29, 3) := by decide +kernel
theorem dX2_takes_22 : decode cX2_takes 22 = .ok (.ifCond .eq 30, 3) := by decide +kernel
theorem dX2_takes_25 : decode cX2_takes 25 = .ok (.aload_n 0, 1) := by decide +kernel
theorem dX2_takes_26 : decode cX2_takes 26 = .ok (.iconst 0, 1) := by decide +kernel
theorem dX2_takes_27 : decode cX2_takes 27 = .ok (.putfield 29, 3) := by decide +kernel
theorem dX2_takes_30 : decode cX2_takes 30 = .ok (.iload_n 3, 1) := by decide +kernel
theorem dX2_takes_31 : decode cX2_takes 31 = .ok (.ifCond .eq 19, 3) := by decide +kernel
theorem dX2_takes_34 : decode cX2_takes 34 = .ok (.aload_n 0, 1) := by decide +kernel
theorem dX2_takes_35 : decode cX2_takes 35 = .ok (.iload_n 1, 1) := by decide +kernel
theorem dX2_takes_36 : decode cX2_takes 36 = .ok (.bipush 48, 2) := by decide +kernel
theorem dX2_takes_38 : decode cX2_takes 38 = .ok (.isub, 1) := by decide +kernel
theorem dX2_takes_39 : decode cX2_takes 39 = .ok (.iload_n 2, 1) := by decide +kernel
theorem dX2_takes_40 : decode cX2_takes 40 = .ok (.invokevirtual 37, 3) := by decide +kernel
theorem dX2_takes_43 : decode cX2_takes 43 = .ok (.ifCond .eq 7, 3) := by decide +kernel
theorem dX2_takes_46 : decode cX2_takes 46 = .ok (.iconst 1, 1) := by decide +kernel
theorem dX2_takes_47 : decode cX2_takes 47 = .ok (.goto 4, 3) := by decide +kernel
theorem dX2_takes_50 : decode cX2_takes 50 = .ok (.iconst 0, 1) := by decide +kernel
theorem dX2_takes_51 : decode cX2_takes 51 = .ok (.ireturn, 1) := by decide +kernel
theorem dX2_takes_52 : decode cX2_takes 52 = .ok (.iload_n 3, 1) := by decide +kernel
theorem dX2_takes_53 : decode cX2_takes 53 = .ok (.ifCond .eq 14, 3) := by decide +kernel
theorem dX2_takes_56 : decode cX2_takes 56 = .ok (.aload_n 0, 1) := by decide +kernel
theorem dX2_takes_57 : decode cX2_takes 57 = .ok (.iload_n 1, 1) := by decide +kernel
theorem dX2_takes_58 : decode cX2_takes 58 = .ok (.bipush 48, 2) := by decide +kernel
theorem dX2_takes_60 : decode cX2_takes 60 = .ok (.isub, 1) := by decide +kernel
theorem dX2_takes_61 : decode cX2_takes 61 = .ok (.invokevirtual 41, 3) := by decide +kernel
theorem dX2_takes_64 : decode cX2_takes 64 = .ok (.goto 9, 3) := by decide +kernel
theorem dX2_takes_67 : decode cX2_takes 67 = .ok (.aload_n 0, 1) := by decide +kernel
theorem dX2_takes_68 : decode cX2_takes 68 = .ok (.iload_n 1, 1) := by decide +kernel
theorem dX2_takes_69 : decode cX2_takes 69 = .ok (.iload_n 2, 1) := by decide +kernel
theorem dX2_takes_70 : decode cX2_takes 70 = .ok (.invokevirtual 45, 3) := by decide +kernel
theorem dX2_takes_73 : decode cX2_takes 73 = .ok (.ireturn, 1) := by decide +kernel
theorem dX2_takesWalker_0 : decode cX2_takesWalker 0 = .ok (.aload_n 0, 1) := by decide +kernel
theorem dX2_takesWalker_1 : decode cX2_takesWalker 1 = .ok (.getfield 26, 3) := by decide +kernel
theorem dX2_takesWalker_4 : decode cX2_takesWalker 4 = .ok (.iconst 1, 1) := by decide +kernel
theorem dX2_takesWalker_5 : decode cX2_takesWalker 5 = .ok (.isub, 1) := by decide +kernel
theorem dX2_takesWalker_6 : decode cX2_takesWalker 6 = .ok (.istore_n 3, 1) := by decide +kernel
theorem dX2_takesWalker_7 : decode cX2_takesWalker 7 = .ok (.iload_n 1, 1) := by decide +kernel
theorem dX2_takesWalker_8 : decode cX2_takesWalker 8 = .ok (.iload_n 2, 1) := by decide +kernel
theorem dX2_takesWalker_9 : decode cX2_takesWalker 9 = .ok (.if_icmp .ge 16, 3) := by decide +kernel
theorem dX2_takesWalker_12 : decode cX2_takesWalker 12 = .ok (.iload_n 3, 1) := by decide +kernel
theorem dX2_takesWalker_13 : decode cX2_takesWalker 13 = .ok (.ifCond .lt 12, 3) := by decide +kernel
theorem dX2_takesWalker_16 : decode cX2_takesWalker 16 = .ok (.iload_n 3, 1) := by decide +kernel
theorem dX2_takesWalker_17 : decode cX2_takesWalker 17 = .ok (.aload_n 0, 1) := by decide +kernel
theorem dX2_takesWalker_18 : decode cX2_takesWalker 18 = .ok (.getfield 22, 3) := by decide +kernel
theorem dX2_takesWalker_21 : decode cX2_takesWalker 21 = .ok (.arraylength, 1) := by decide +kernel
theorem dX2_takesWalker_22 : decode cX2_takesWalker 22 = .ok (.if_icmp .lt 5, 3) := by decide +kernel
theorem dX2_takesWalker_25 : decode cX2_takesWalker 25 = .ok (.iconst 0, 1) := by decide +kernel
theorem dX2_takesWalker_26 : decode cX2_takesWalker 26 = .ok (.ireturn, 1) := by decide +kernel
theorem dX2_takesWalker_27 : decode cX2_takesWalker 27 = .ok (.aload_n 0, 1) := by decide +kernel
theorem dX2_takesWalker_28 : decode cX2_takesWalker 28 = .ok (.getfield 22, 3) := by decide +kernel
theorem dX2_takesWalker_31 : decode cX2_takesWalker 31 = .ok (.iload_n 3, 1) := by decide +kernel
theorem dX2_takesWalker_32 : decode cX2_takesWalker 32 = .ok (.iload_n 1, 1) := by decide +kernel
theorem dX2_takesWalker_33 : decode cX2_takesWalker 33 = .ok (.iastore, 1) := by decide +kernel
theorem dX2_takesWalker_34 : decode cX2_takesWalker 34 = .ok (.iconst 1, 1) := by decide +kernel
theorem dX2_takesWalker_35 : decode cX2_takesWalker 35 = .ok (.ireturn, 1) := by decide +kernel
theorem dX2_takesDigit_0 : decode cX2_takesDigit 0 = .ok (.aload_n 0, 1) := by decide +kernel
theorem dX2_takesDigit_1 : decode cX2_takesDigit 1 = .ok (.getfield 26, 3) := by decide +kernel
theorem dX2_takesDigit_4 : decode cX2_takesDigit 4 = .ok (.iconst 1, 1) := by decide +kernel
theorem dX2_takesDigit_5 : decode cX2_takesDigit 5 = .ok (.isub, 1) := by decide +kernel
theorem dX2_takesDigit_6 : decode cX2_takesDigit 6 = .ok (.istore_n 2, 1) := by decide +kernel
theorem dX2_takesDigit_7 : decode cX2_takesDigit 7 = .ok (.iload_n 2, 1) := by decide +kernel
theorem dX2_takesDigit_8 : decode cX2_takesDigit 8 = .ok (.ifCond .lt 23, 3) := by decide +kernel
theorem dX2_takesDigit_11 : decode cX2_takesDigit 11 = .ok (.iload_n 2, 1) := by decide +kernel
theorem dX2_takesDigit_12 : decode cX2_takesDigit 12 = .ok (.aload_n 0, 1) := by decide +kernel
theorem dX2_takesDigit_13 : decode cX2_takesDigit 13 = .ok (.getfield 22, 3) := by decide +kernel
theorem dX2_takesDigit_16 : decode cX2_takesDigit 16 = .ok (.arraylength, 1) := by decide +kernel
theorem dX2_takesDigit_17 : decode cX2_takesDigit 17 = .ok (.if_icmp .ge 14, 3) := by decide +kernel
theorem dX2_takesDigit_20 : decode cX2_takesDigit 20 = .ok (.aload_n 0, 1) := by decide +kernel
theorem dX2_takesDigit_21 : decode cX2_takesDigit 21 = .ok (.getfield 19, 3) := by decide +kernel
theorem dX2_takesDigit_24 : decode cX2_takesDigit 24 = .ok (.iload_n 2, 1) := by decide +kernel
theorem dX2_takesDigit_25 : decode cX2_takesDigit 25 = .ok (.caload, 1) := by decide +kernel
theorem dX2_takesDigit_26 : decode cX2_takesDigit 26 = .ok (.bipush 35, 2) := by decide +kernel
theorem dX2_takesDigit_28 : decode cX2_takesDigit 28 = .ok (.if_icmp .ne 5, 3) := by decide +kernel
theorem dX2_takesDigit_31 : decode cX2_takesDigit 31 = .ok (.iconst 0, 1) := by decide +kernel
theorem dX2_takesDigit_32 : decode cX2_takesDigit 32 = .ok (.ireturn, 1) := by decide +kernel
theorem dX2_takesDigit_33 : decode cX2_takesDigit 33 = .ok (.aload_n 0, 1) := by decide +kernel
theorem dX2_takesDigit_34 : decode cX2_takesDigit 34 = .ok (.getfield 22, 3) := by decide +kernel
theorem dX2_takesDigit_37 : decode cX2_takesDigit 37 = .ok (.iload_n 2, 1) := by decide +kernel
theorem dX2_takesDigit_38 : decode cX2_takesDigit 38 = .ok (.iaload, 1) := by decide +kernel
theorem dX2_takesDigit_39 : decode cX2_takesDigit 39 = .ok (.bipush 10, 2) := by decide +kernel
theorem dX2_takesDigit_41 : decode cX2_takesDigit 41 = .ok (.imul, 1) := by decide +kernel
theorem dX2_takesDigit_42 : decode cX2_takesDigit 42 = .ok (.iload_n 1, 1) := by decide +kernel
theorem dX2_takesDigit_43 : decode cX2_takesDigit 43 = .ok (.iadd, 1) := by decide +kernel
theorem dX2_takesDigit_44 : decode cX2_takesDigit 44 = .ok (.istore_n 3, 1) := by decide +kernel
theorem dX2_takesDigit_45 : decode cX2_takesDigit 45 = .ok (.iload_n 3, 1) := by decide +kernel
theorem dX2_takesDigit_46 : decode cX2_takesDigit 46 = .ok (.iconst 1, 1) := by decide +kernel
theorem dX2_takesDigit_47 : decode cX2_takesDigit 47 = .ok (.bipush 50, 2) := by decide +kernel
theorem dX2_takesDigit_49 : decode cX2_takesDigit 49 = .ok (.invokestatic 48, 3) := by decide +kernel
theorem dX2_takesDigit_52 : decode cX2_takesDigit 52 = .ok (.ifCond .ne 5, 3) := by decide +kernel
theorem dX2_takesDigit_55 : decode cX2_takesDigit 55 = .ok (.iconst 0, 1) := by decide +kernel
theorem dX2_takesDigit_56 : decode cX2_takesDigit 56 = .ok (.ireturn, 1) := by decide +kernel
theorem dX2_takesDigit_57 : decode cX2_takesDigit 57 = .ok (.aload_n 0, 1) := by decide +kernel
theorem dX2_takesDigit_58 : decode cX2_takesDigit 58 = .ok (.getfield 22, 3) := by decide +kernel
theorem dX2_takesDigit_61 : decode cX2_takesDigit 61 = .ok (.iload_n 2, 1) := by decide +kernel
theorem dX2_takesDigit_62 : decode cX2_takesDigit 62 = .ok (.iload_n 3, 1) := by decide +kernel
theorem dX2_takesDigit_63 : decode cX2_takesDigit 63 = .ok (.iastore, 1) := by decide +kernel
theorem dX2_takesDigit_64 : decode cX2_takesDigit 64 = .ok (.iconst 1, 1) := by decide +kernel
theorem dX2_takesDigit_65 : decode cX2_takesDigit 65 = .ok (.ireturn, 1) := by decide +kernel
theorem dX2_takesLetter_0 : decode cX2_takesLetter 0 = .ok (.iload_n 1, 1) := by decide +kernel
theorem dX2_takesLetter_1 : decode cX2_takesLetter 1 = .ok (.iload_n 2, 1) := by decide +kernel
theorem dX2_takesLetter_2 : decode cX2_takesLetter 2 = .ok (.invokestatic 52, 3) := by decide +kernel
theorem dX2_takesLetter_5 : decode cX2_takesLetter 5 = .ok (.ifCond .eq 22, 3) := by decide +kernel
theorem dX2_takesLetter_8 : decode cX2_takesLetter 8 = .ok (.aload_n 0, 1) := by decide +kernel
theorem dX2_takesLetter_9 : decode cX2_takesLetter 9 = .ok (.getfield 26, 3) := by decide +kernel
theorem dX2_takesLetter_12 : decode cX2_takesLetter 12 = .ok (.ifCond .lt 15, 3) := by decide +kernel
theorem dX2_takesLetter_15 : decode cX2_takesLetter 15 = .ok (.aload_n 0, 1) := by decide +kernel
theorem dX2_takesLetter_16 : decode cX2_takesLetter 16 = .ok (.getfield 26, 3) := by decide +kernel
theorem dX2_takesLetter_19 : decode cX2_takesLetter 19 = .ok (.aload_n 0, 1) := by decide +kernel
theorem dX2_takesLetter_20 : decode cX2_takesLetter 20 = .ok (.getfield 19, 3) := by decide +kernel
theorem dX2_takesLetter_23 : decode cX2_takesLetter 23 = .ok (.arraylength, 1) := by decide +kernel
theorem dX2_takesLetter_24 : decode cX2_takesLetter 24 = .ok (.if_icmp .lt 5, 3) := by decide +kernel
theorem dX2_takesLetter_27 : decode cX2_takesLetter 27 = .ok (.iconst 0, 1) := by decide +kernel
theorem dX2_takesLetter_28 : decode cX2_takesLetter 28 = .ok (.ireturn, 1) := by decide +kernel
theorem dX2_takesLetter_29 : decode cX2_takesLetter 29 = .ok (.aload_n 0, 1) := by decide +kernel
theorem dX2_takesLetter_30 : decode cX2_takesLetter 30 = .ok (.getfield 19, 3) := by decide +kernel
theorem dX2_takesLetter_33 : decode cX2_takesLetter 33 = .ok (.aload_n 0, 1) := by decide +kernel
theorem dX2_takesLetter_34 : decode cX2_takesLetter 34 = .ok (.getfield 26, 3) := by decide +kernel
theorem dX2_takesLetter_37 : decode cX2_takesLetter 37 = .ok (.iload_n 1, 1) := by decide +kernel
theorem dX2_takesLetter_38 : decode cX2_takesLetter 38 = .ok (.castore, 1) := by decide +kernel
theorem dX2_takesLetter_39 : decode cX2_takesLetter 39 = .ok (.aload_n 0, 1) := by decide +kernel
theorem dX2_takesLetter_40 : decode cX2_takesLetter 40 = .ok (.getfield 22, 3) := by decide +kernel
theorem dX2_takesLetter_43 : decode cX2_takesLetter 43 = .ok (.aload_n 0, 1) := by decide +kernel
theorem dX2_takesLetter_44 : decode cX2_takesLetter 44 = .ok (.getfield 26, 3) := by decide +kernel
theorem dX2_takesLetter_47 : decode cX2_takesLetter 47 = .ok (.iconst 0, 1) := by decide +kernel
theorem dX2_takesLetter_48 : decode cX2_takesLetter 48 = .ok (.iastore, 1) := by decide +kernel
theorem dX2_takesLetter_49 : decode cX2_takesLetter 49 = .ok (.aload_n 0, 1) := by decide +kernel
theorem dX2_takesLetter_50 : decode cX2_takesLetter 50 = .ok (.dup, 1) := by decide +kernel
theorem dX2_takesLetter_51 : decode cX2_takesLetter 51 = .ok (.getfield 26, 3) := by decide +kernel
theorem dX2_takesLetter_54 : decode cX2_takesLetter 54 = .ok (.iconst 1, 1) := by decide +kernel
theorem dX2_takesLetter_55 : decode cX2_takesLetter 55 = .ok (.iadd, 1) := by decide +kernel
theorem dX2_takesLetter_56 : decode cX2_takesLetter 56 = .ok (.putfield 26, 3) := by decide +kernel
theorem dX2_takesLetter_59 : decode cX2_takesLetter 59 = .ok (.aload_n 0, 1) := by decide +kernel
theorem dX2_takesLetter_60 : decode cX2_takesLetter 60 = .ok (.iload_n 1, 1) := by decide +kernel
theorem dX2_takesLetter_61 : decode cX2_takesLetter 61 = .ok (.bipush 35, 2) := by decide +kernel
theorem dX2_takesLetter_63 : decode cX2_takesLetter 63 = .ok (.if_icmp .ne 7, 3) := by decide +kernel
theorem dX2_takesLetter_66 : decode cX2_takesLetter 66 = .ok (.iconst 1, 1) := by decide +kernel
theorem dX2_takesLetter_67 : decode cX2_takesLetter 67 = .ok (.goto 4, 3) := by decide +kernel
theorem dX2_takesLetter_70 : decode cX2_takesLetter 70 = .ok (.iconst 0, 1) := by decide +kernel
theorem dX2_takesLetter_71 : decode cX2_takesLetter 71 = .ok (.putfield 29, 3) := by decide +kernel
theorem dX2_takesLetter_74 : decode cX2_takesLetter 74 = .ok (.iconst 1, 1) := by decide +kernel
theorem dX2_takesLetter_75 : decode cX2_takesLetter 75 = .ok (.ireturn, 1) := by decide +kernel
theorem dX2_isOrder_0 : decode cX2_isOrder 0 = .ok (.iload_n 0, 1) := by decide +kernel
theorem dX2_isOrder_1 : decode cX2_isOrder 1 = .ok (.bipush 114, 2) := by decide +kernel
theorem dX2_isOrder_3 : decode cX2_isOrder 3 = .ok (.if_icmp .eq 9, 3) := by decide +kernel
theorem dX2_isOrder_6 : decode cX2_isOrder 6 = .ok (.iload_n 0, 1) := by decide +kernel
theorem dX2_isOrder_7 : decode cX2_isOrder 7 = .ok (.bipush 35, 2) := by decide +kernel
theorem dX2_isOrder_9 : decode cX2_isOrder 9 = .ok (.if_icmp .ne 5, 3) := by decide +kernel
theorem dX2_isOrder_12 : decode cX2_isOrder 12 = .ok (.iconst 1, 1) := by decide +kernel
theorem dX2_isOrder_13 : decode cX2_isOrder 13 = .ok (.ireturn, 1) := by decide +kernel
theorem dX2_isOrder_14 : decode cX2_isOrder 14 = .ok (.iload_n 0, 1) := by decide +kernel
theorem dX2_isOrder_15 : decode cX2_isOrder 15 = .ok (.bipush 110, 2) := by decide +kernel
theorem dX2_isOrder_17 : decode cX2_isOrder 17 = .ok (.if_icmp .eq 21, 3) := by decide +kernel
theorem dX2_isOrder_20 : decode cX2_isOrder 20 = .ok (.iload_n 0, 1) := by decide +kernel
theorem dX2_isOrder_21 : decode cX2_isOrder 21 = .ok (.bipush 101, 2) := by decide +kernel
theorem dX2_isOrder_23 : decode cX2_isOrder 23 = .ok (.if_icmp .eq 15, 3) := by decide +kernel
theorem dX2_isOrder_26 : decode cX2_isOrder 26 = .ok (.iload_n 0, 1) := by decide +kernel
theorem dX2_isOrder_27 : decode cX2_isOrder 27 = .ok (.bipush 115, 2) := by decide +kernel
theorem dX2_isOrder_29 : decode cX2_isOrder 29 = .ok (.if_icmp .eq 9, 3) := by decide +kernel
theorem dX2_isOrder_32 : decode cX2_isOrder 32 = .ok (.iload_n 0, 1) := by decide +kernel
theorem dX2_isOrder_33 : decode cX2_isOrder 33 = .ok (.bipush 119, 2) := by decide +kernel
theorem dX2_isOrder_35 : decode cX2_isOrder 35 = .ok (.if_icmp .ne 7, 3) := by decide +kernel
theorem dX2_isOrder_38 : decode cX2_isOrder 38 = .ok (.iconst 1, 1) := by decide +kernel
theorem dX2_isOrder_39 : decode cX2_isOrder 39 = .ok (.goto 4, 3) := by decide +kernel
theorem dX2_isOrder_42 : decode cX2_isOrder 42 = .ok (.iconst 0, 1) := by decide +kernel
theorem dX2_isOrder_43 : decode cX2_isOrder 43 = .ok (.istore_n 2, 1) := by decide +kernel
theorem dX2_isOrder_44 : decode cX2_isOrder 44 = .ok (.iload_n 1, 1) := by decide +kernel
theorem dX2_isOrder_45 : decode cX2_isOrder 45 = .ok (.ifCond .le 23, 3) := by decide +kernel
theorem dX2_isOrder_48 : decode cX2_isOrder 48 = .ok (.iload_n 2, 1) := by decide +kernel
theorem dX2_isOrder_49 : decode cX2_isOrder 49 = .ok (.ifCond .ne 15, 3) := by decide +kernel
theorem dX2_isOrder_52 : decode cX2_isOrder 52 = .ok (.iload_n 0, 1) := by decide +kernel
theorem dX2_isOrder_53 : decode cX2_isOrder 53 = .ok (.bipush 103, 2) := by decide +kernel
theorem dX2_isOrder_55 : decode cX2_isOrder 55 = .ok (.if_icmp .eq 9, 3) := by decide +kernel
theorem dX2_isOrder_58 : decode cX2_isOrder 58 = .ok (.iload_n 0, 1) := by decide +kernel
theorem dX2_isOrder_59 : decode cX2_isOrder 59 = .ok (.bipush 100, 2) := by decide +kernel
theorem dX2_isOrder_61 : decode cX2_isOrder 61 = .ok (.if_icmp .ne 7, 3) := by decide +kernel
theorem dX2_isOrder_64 : decode cX2_isOrder 64 = .ok (.iconst 1, 1) := by decide +kernel
theorem dX2_isOrder_65 : decode cX2_isOrder 65 = .ok (.goto 4, 3) := by decide +kernel
theorem dX2_isOrder_68 : decode cX2_isOrder 68 = .ok (.iconst 0, 1) := by decide +kernel
theorem dX2_isOrder_69 : decode cX2_isOrder 69 = .ok (.ireturn, 1) := by decide +kernel
theorem dX2_letterOf_0 : decode cX2_letterOf 0 = .ok (.iload_n 1, 1) := by decide +kernel
theorem dX2_letterOf_1 : decode cX2_letterOf 1 = .ok (.ifCond .lt 29, 3) := by decide +kernel
theorem dX2_letterOf_4 : decode cX2_letterOf 4 = .ok (.iload_n 1, 1) := by decide +kernel
theorem dX2_letterOf_5 : decode cX2_letterOf 5 = .ok (.aload_n 0, 1) := by decide +kernel
theorem dX2_letterOf_6 : decode cX2_letterOf 6 = .ok (.getfield 26, 3) := by decide +kernel
theorem dX2_letterOf_9 : decode cX2_letterOf 9 = .ok (.if_icmp .ge 21, 3) := by decide +kernel
theorem dX2_letterOf_12 : decode cX2_letterOf 12 = .ok (.iload_n 1, 1) := by decide +kernel
theorem dX2_letterOf_13 : decode cX2_letterOf 13 = .ok (.aload_n 0, 1) := by decide +kernel
theorem dX2_letterOf_14 : decode cX2_letterOf 14 = .ok (.getfield 19, 3) := by decide +kernel
theorem dX2_letterOf_17 : decode cX2_letterOf 17 = .ok (.arraylength, 1) := by decide +kernel
theorem dX2_letterOf_18 : decode cX2_letterOf 18 = .ok (.if_icmp .ge 12, 3) := by decide +kernel
theorem dX2_letterOf_21 : decode cX2_letterOf 21 = .ok (.aload_n 0, 1) := by decide +kernel
theorem dX2_letterOf_22 : decode cX2_letterOf 22 = .ok (.getfield 19, 3) := by decide +kernel
theorem dX2_letterOf_25 : decode cX2_letterOf 25 = .ok (.iload_n 1, 1) := by decide +kernel
theorem dX2_letterOf_26 : decode cX2_letterOf 26 = .ok (.caload, 1) := by decide +kernel
theorem dX2_letterOf_27 : decode cX2_letterOf 27 = .ok (.goto 5, 3) := by decide +kernel
theorem dX2_letterOf_30 : decode cX2_letterOf 30 = .ok (.bipush 35, 2) := by decide +kernel
theorem dX2_letterOf_32 : decode cX2_letterOf 32 = .ok (.ireturn, 1) := by decide +kernel
theorem dX2_numberOf_0 : decode cX2_numberOf 0 = .ok (.iload_n 1, 1) := by decide +kernel
theorem dX2_numberOf_1 : decode cX2_numberOf 1 = .ok (.ifCond .lt 20, 3) := by decide +kernel
theorem dX2_numberOf_4 : decode cX2_numberOf 4 = .ok (.iload_n 1, 1) := by decide +kernel
theorem dX2_numberOf_5 : decode cX2_numberOf 5 = .ok (.aload_n 0, 1) := by decide +kernel
theorem dX2_numberOf_6 : decode cX2_numberOf 6 = .ok (.getfield 26, 3) := by decide +kernel
theorem dX2_numberOf_9 : decode cX2_numberOf 9 = .ok (.if_icmp .ge 12, 3) := by decide +kernel
theorem dX2_numberOf_12 : decode cX2_numberOf 12 = .ok (.iload_n 1, 1) := by decide +kernel
theorem dX2_numberOf_13 : decode cX2_numberOf 13 = .ok (.aload_n 0, 1) := by decide +kernel
theorem dX2_numberOf_14 : decode cX2_numberOf 14 = .ok (.getfield 22, 3) := by decide +kernel
theorem dX2_numberOf_17 : decode cX2_numberOf 17 = .ok (.arraylength, 1) := by decide +kernel
theorem dX2_numberOf_18 : decode cX2_numberOf 18 = .ok (.if_icmp .lt 5, 3) := by decide +kernel
theorem dX2_numberOf_21 : decode cX2_numberOf 21 = .ok (.iconst 0, 1) := by decide +kernel
theorem dX2_numberOf_22 : decode cX2_numberOf 22 = .ok (.ireturn, 1) := by decide +kernel
theorem dX2_numberOf_23 : decode cX2_numberOf 23 = .ok (.aload_n 0, 1) := by decide +kernel
theorem dX2_numberOf_24 : decode cX2_numberOf 24 = .ok (.getfield 19, 3) := by decide +kernel
theorem dX2_numberOf_27 : decode cX2_numberOf 27 = .ok (.iload_n 1, 1) := by decide +kernel
theorem dX2_numberOf_28 : decode cX2_numberOf 28 = .ok (.caload, 1) := by decide +kernel
theorem dX2_numberOf_29 : decode cX2_numberOf 29 = .ok (.bipush 35, 2) := by decide +kernel
theorem dX2_numberOf_31 : decode cX2_numberOf 31 = .ok (.if_icmp .ne 12, 3) := by decide +kernel
theorem dX2_numberOf_34 : decode cX2_numberOf 34 = .ok (.aload_n 0, 1) := by decide +kernel
theorem dX2_numberOf_35 : decode cX2_numberOf 35 = .ok (.getfield 22, 3) := by decide +kernel
theorem dX2_numberOf_38 : decode cX2_numberOf 38 = .ok (.iload_n 1, 1) := by decide +kernel
theorem dX2_numberOf_39 : decode cX2_numberOf 39 = .ok (.iaload, 1) := by decide +kernel
theorem dX2_numberOf_40 : decode cX2_numberOf 40 = .ok (.goto 13, 3) := by decide +kernel
theorem dX2_numberOf_43 : decode cX2_numberOf 43 = .ok (.aload_n 0, 1) := by decide +kernel
theorem dX2_numberOf_44 : decode cX2_numberOf 44 = .ok (.getfield 22, 3) := by decide +kernel
theorem dX2_numberOf_47 : decode cX2_numberOf 47 = .ok (.iload_n 1, 1) := by decide +kernel
theorem dX2_numberOf_48 : decode cX2_numberOf 48 = .ok (.iaload, 1) := by decide +kernel
theorem dX2_numberOf_49 : decode cX2_numberOf 49 = .ok (.iconst 1, 1) := by decide +kernel
theorem dX2_numberOf_50 : decode cX2_numberOf 50 = .ok (.invokestatic 55, 3) := by decide +kernel
theorem dX2_numberOf_53 : decode cX2_numberOf 53 = .ok (.ireturn, 1) := by decide +kernel
theorem dX3_init_0 : decode cX3_init 0 = .ok (.aload_n 0, 1) := by decide +kernel
theorem dX3_init_1 : decode cX3_init 1 = .ok (.invokespecial 1, 3) := by decide +kernel
theorem dX3_init_4 : decode cX3_init 4 = .ok (.aload_n 0, 1) := by decide +kernel
theorem dX3_init_5 : decode cX3_init 5 = .ok (.new 7, 3) := by decide +kernel
theorem dX3_init_8 : decode cX3_init 8 = .ok (.dup, 1) := by decide +kernel
theorem dX3_init_9 : decode cX3_init 9 = .ok (.invokespecial 9, 3) := by decide +kernel
theorem dX3_init_12 : decode cX3_init 12 = .ok (.putfield 10, 3) := by decide +kernel
theorem dX3_init_15 : decode cX3_init 15 = .ok (.aload_n 0, 1) := by decide +kernel
theorem dX3_init_16 : decode cX3_init 16 = .ok (.iconst 0, 1) := by decide +kernel
theorem dX3_init_17 : decode cX3_init 17 = .ok (.putfield 16, 3) := by decide +kernel
theorem dX3_init_20 : decode cX3_init 20 = .ok (.return_, 1) := by decide +kernel
theorem dX4_init_0 : decode cX4_init 0 = .ok (.aload_n 0, 1) := by decide +kernel
theorem dX4_init_1 : decode cX4_init 1 = .ok (.invokespecial 3, 3) := by decide +kernel
theorem dX4_init_4 : decode cX4_init 4 = .ok (.aload_n 0, 1) := by decide +kernel
theorem dX4_init_5 : decode cX4_init 5 = .ok (.bipush 8, 2) := by decide +kernel
theorem dX4_init_7 : decode cX4_init 7 = .ok (.putfield 9, 3) := by decide +kernel
theorem dX4_init_10 : decode cX4_init 10 = .ok (.aload_n 0, 1) := by decide +kernel
theorem dX4_init_11 : decode cX4_init 11 = .ok (.bipush 8, 2) := by decide +kernel
theorem dX4_init_13 : decode cX4_init 13 = .ok (.putfield 15, 3) := by decide +kernel
theorem dX4_init_16 : decode cX4_init 16 = .ok (.aload_n 0, 1) := by decide +kernel
theorem dX4_init_17 : decode cX4_init 17 = .ok (.sipush 256, 3) := by decide +kernel
theorem dX4_init_20 : decode cX4_init 20 = .ok (.newarray .int, 2) := by decide +kernel
theorem dX4_init_22 : decode cX4_init 22 = .ok (.putfield 18, 3) := by decide +kernel
theorem dX4_init_25 : decode cX4_init 25 = .ok (.aload_n 0, 1) := by decide +kernel
theorem dX4_init_26 : decode cX4_init 26 = .ok (.bipush 8, 2) := by decide +kernel
theorem dX4_init_28 : decode cX4_init 28 = .ok (.anewarray 22, 3) := by decide +kernel
theorem dX4_init_31 : decode cX4_init 31 = .ok (.putfield 24, 3) := by decide +kernel
theorem dX4_init_34 : decode cX4_init 34 = .ok (.aload_n 0, 1) := by decide +kernel
theorem dX4_init_35 : decode cX4_init 35 = .ok (.iconst 0, 1) := by decide +kernel
theorem dX4_init_36 : decode cX4_init 36 = .ok (.putfield 28, 3) := by decide +kernel
theorem dX4_init_39 : decode cX4_init 39 = .ok (.aload_n 0, 1) := by decide +kernel
theorem dX4_init_40 : decode cX4_init 40 = .ok (.new 31, 3) := by decide +kernel
theorem dX4_init_43 : decode cX4_init 43 = .ok (.dup, 1) := by decide +kernel
theorem dX4_init_44 : decode cX4_init 44 = .ok (.invokespecial 33, 3) := by decide +kernel
theorem dX4_init_47 : decode cX4_init 47 = .ok (.putfield 34, 3) := by decide +kernel
theorem dX4_init_50 : decode cX4_init 50 = .ok (.aload_n 0, 1) := by decide +kernel
theorem dX4_init_51 : decode cX4_init 51 = .ok (.iconst 0, 1) := by decide +kernel
theorem dX4_init_52 : decode cX4_init 52 = .ok (.putfield 38, 3) := by decide +kernel
theorem dX4_init_55 : decode cX4_init 55 = .ok (.aload_n 0, 1) := by decide +kernel
theorem dX4_init_56 : decode cX4_init 56 = .ok (.iconst 0, 1) := by decide +kernel
theorem dX4_init_57 : decode cX4_init 57 = .ok (.putfield 41, 3) := by decide +kernel
theorem dX4_init_60 : decode cX4_init 60 = .ok (.iconst 0, 1) := by decide +kernel
theorem dX4_init_61 : decode cX4_init 61 = .ok (.istore_n 1, 1) := by decide +kernel
theorem dX4_init_62 : decode cX4_init 62 = .ok (.iload_n 1, 1) := by decide +kernel
theorem dX4_init_63 : decode cX4_init 63 = .ok (.bipush 8, 2) := by decide +kernel
theorem dX4_init_65 : decode cX4_init 65 = .ok (.if_icmp .ge 22, 3) := by decide +kernel
theorem dX4_init_68 : decode cX4_init 68 = .ok (.aload_n 0, 1) := by decide +kernel
theorem dX4_init_69 : decode cX4_init 69 = .ok (.getfield 24, 3) := by decide +kernel
theorem dX4_init_72 : decode cX4_init 72 = .ok (.iload_n 1, 1) := by decide +kernel
theorem dX4_init_73 : decode cX4_init 73 = .ok (.new 22, 3) := by decide +kernel
theorem dX4_init_76 : decode cX4_init 76 = .ok (.dup, 1) := by decide +kernel
theorem dX4_init_77 : decode cX4_init 77 = .ok (.invokespecial 44, 3) := by decide +kernel
theorem dX4_init_80 : decode cX4_init 80 = .ok (.aastore, 1) := by decide +kernel
theorem dX4_init_81 : decode cX4_init 81 = .ok (.iinc 1 1, 3) := by decide +kernel
theorem dX4_init_84 : decode cX4_init 84 = .ok (.goto (-22), 3) := by decide +kernel
theorem dX4_init_87 : decode cX4_init 87 = .ok (.return_, 1) := by decide +kernel
theorem dX4_copyFrom_0 : decode cX4_copyFrom 0 = .ok (.aload_n 0, 1) := by decide +kernel
theorem dX4_copyFrom_1 : decode cX4_copyFrom 1 = .ok (.aload_n 1, 1) := by decide +kernel
theorem dX4_copyFrom_2 : decode cX4_copyFrom 2 = .ok (.getfield 9, 3) := by decide +kernel
theorem dX4_copyFrom_5 : decode cX4_copyFrom 5 = .ok (.putfield 9, 3) := by decide +kernel
theorem dX4_copyFrom_8 : decode cX4_copyFrom 8 = .ok (.aload_n 0, 1) := by decide +kernel
theorem dX4_copyFrom_9 : decode cX4_copyFrom 9 = .ok (.aload_n 1, 1) := by decide +kernel
theorem dX4_copyFrom_10 : decode cX4_copyFrom 10 = .ok (.getfield 15, 3) := by decide +kernel
theorem dX4_copyFrom_13 : decode cX4_copyFrom 13 = .ok (.putfield 15, 3) := by decide +kernel
theorem dX4_copyFrom_16 : decode cX4_copyFrom 16 = .ok (.aload_n 1, 1) := by decide +kernel
theorem dX4_copyFrom_17 : decode cX4_copyFrom 17 = .ok (.getfield 18, 3) := by decide +kernel
theorem dX4_copyFrom_20 : decode cX4_copyFrom 20 = .ok (.iconst 0, 1) := by decide +kernel
theorem dX4_copyFrom_21 : decode cX4_copyFrom 21 = .ok (.aload_n 0, 1) := by decide +kernel
theorem dX4_copyFrom_22 : decode cX4_copyFrom 22 = .ok (.getfield 18, 3) := by decide +kernel
theorem dX4_copyFrom_25 : decode cX4_copyFrom 25 = .ok (.iconst 0, 1) := by decide +kernel
theorem dX4_copyFrom_26 : decode cX4_copyFrom 26 = .ok (.sipush 256, 3) := by decide +kernel
theorem dX4_copyFrom_29 : decode cX4_copyFrom 29 = .ok (.invokestatic 45, 3) := by decide +kernel
theorem dX4_copyFrom_32 : decode cX4_copyFrom 32 = .ok (.aload_n 0, 1) := by decide +kernel
theorem dX4_copyFrom_33 : decode cX4_copyFrom 33 = .ok (.aload_n 1, 1) := by decide +kernel
theorem dX4_copyFrom_34 : decode cX4_copyFrom 34 = .ok (.getfield 28, 3) := by decide +kernel
theorem dX4_copyFrom_37 : decode cX4_copyFrom 37 = .ok (.putfield 28, 3) := by decide +kernel
theorem dX4_copyFrom_40 : decode cX4_copyFrom 40 = .ok (.iconst 0, 1) := by decide +kernel
theorem dX4_copyFrom_41 : decode cX4_copyFrom 41 = .ok (.istore_n 2, 1) := by decide +kernel
theorem dX4_copyFrom_42 : decode cX4_copyFrom 42 = .ok (.iload_n 2, 1) := by decide +kernel
theorem dX4_copyFrom_43 : decode cX4_copyFrom 43 = .ok (.aload_n 0, 1) := by decide +kernel
theorem dX4_copyFrom_44 : decode cX4_copyFrom 44 = .ok (.getfield 28, 3) := by decide +kernel
theorem dX4_copyFrom_47 : decode cX4_copyFrom 47 = .ok (.if_icmp .ge 37, 3) := by decide +kernel
theorem dX4_copyFrom_50 : decode cX4_copyFrom 50 = .ok (.aload_n 0, 1) := by decide +kernel
theorem dX4_copyFrom_51 : decode cX4_copyFrom 51 = .ok (.iload_n 2, 1) := by decide +kernel
theorem dX4_copyFrom_52 : decode cX4_copyFrom 52 = .ok (.invokevirtual 51, 3) := by decide +kernel
theorem dX4_copyFrom_55 : decode cX4_copyFrom 55 = .ok (.astore_n 3, 1) := by decide +kernel
theorem dX4_copyFrom_56 : decode cX4_copyFrom 56 = .ok (.aload_n 1, 1) := by decide +kernel
theorem dX4_copyFrom_57 : decode cX4_copyFrom 57 = .ok (.iload_n 2, 1) := by decide +kernel
theorem dX4_copyFrom_58 : decode cX4_copyFrom 58 = .ok (.invokevirtual 51, 3) := by decide +kernel
theorem dX4_copyFrom_61 : decode cX4_copyFrom 61 = .ok (.astore 4, 2) := by decide +kernel
theorem dX4_copyFrom_63 : decode cX4_copyFrom 63 = .ok (.aload_n 3, 1) := by decide +kernel
theorem dX4_copyFrom_64 : decode cX4_copyFrom 64 = .ok (.ifnull 14, 3) := by decide +kernel
theorem dX4_copyFrom_67 : decode cX4_copyFrom 67 = .ok (.aload 4, 2) := by decide +kernel
theorem dX4_copyFrom_69 : decode cX4_copyFrom 69 = .ok (.ifnull 9, 3) := by decide +kernel
theorem dX4_copyFrom_72 : decode cX4_copyFrom 72 = .ok (.aload_n 3, 1) := by decide +kernel
theorem dX4_copyFrom_73 : decode cX4_copyFrom 73 = .ok (.aload 4, 2) := by decide +kernel
theorem dX4_copyFrom_75 : decode cX4_copyFrom 75 = .ok (.invokevirtual 55, 3) := by decide +kernel
theorem dX4_copyFrom_78 : decode cX4_copyFrom 78 = .ok (.iinc 2 1, 3) := by decide +kernel
theorem dX4_copyFrom_81 : decode cX4_copyFrom 81 = .ok (.goto (-39), 3) := by decide +kernel
theorem dX4_copyFrom_84 : decode cX4_copyFrom 84 = .ok (.aload_n 0, 1) := by decide +kernel
theorem dX4_copyFrom_85 : decode cX4_copyFrom 85 = .ok (.getfield 34, 3) := by decide +kernel
theorem dX4_copyFrom_88 : decode cX4_copyFrom 88 = .ok (.aload_n 1, 1) := by decide +kernel
theorem dX4_copyFrom_89 : decode cX4_copyFrom 89 = .ok (.getfield 34, 3) := by decide +kernel
theorem dX4_copyFrom_92 : decode cX4_copyFrom 92 = .ok (.invokevirtual 59, 3) := by decide +kernel
theorem dX4_copyFrom_95 : decode cX4_copyFrom 95 = .ok (.aload_n 0, 1) := by decide +kernel
theorem dX4_copyFrom_96 : decode cX4_copyFrom 96 = .ok (.aload_n 1, 1) := by decide +kernel
theorem dX4_copyFrom_97 : decode cX4_copyFrom 97 = .ok (.getfield 38, 3) := by decide +kernel
theorem dX4_copyFrom_100 : decode cX4_copyFrom 100 = .ok (.putfield 38, 3) := by decide +kernel
theorem dX4_copyFrom_103 : decode cX4_copyFrom 103 = .ok (.aload_n 0, 1) := by decide +kernel
theorem dX4_copyFrom_104 : decode cX4_copyFrom 104 = .ok (.aload_n 1, 1) := by decide +kernel
theorem dX4_copyFrom_105 : decode cX4_copyFrom 105 = .ok (.getfield 41, 3) := by decide +kernel
theorem dX4_copyFrom_108 : decode cX4_copyFrom 108 = .ok (.putfield 41, 3) := by decide +kernel
theorem dX4_copyFrom_111 : decode cX4_copyFrom 111 = .ok (.return_, 1) := by decide +kernel
theorem dX4_hasCell_0 : decode cX4_hasCell 0 = .ok (.iload_n 1, 1) := by decide +kernel
theorem dX4_hasCell_1 : decode cX4_hasCell 1 = .ok (.ifCond .lt 27, 3) := by decide +kernel
theorem dX4_hasCell_4 : decode cX4_hasCell 4 = .ok (.iload_n 1, 1) := by decide +kernel
theorem dX4_hasCell_5 : decode cX4_hasCell 5 = .ok (.aload_n 0, 1) := by decide +kernel
theorem dX4_hasCell_6 : decode cX4_hasCell 6 = .ok (.getfield 9, 3) := by decide +kernel
theorem dX4_hasCell_9 : decode cX4_hasCell 9 = .ok (.if_icmp .ge 19, 3) := by decide +kernel
theorem dX4_hasCell_12 : decode cX4_hasCell 12 = .ok (.iload_n 2, 1) := by decide +kernel
theorem dX4_hasCell_13 : decode cX4_hasCell 13 = .ok (.ifCond .lt 15, 3) := by decide +kernel
theorem dX4_hasCell_16 : decode cX4_hasCell 16 = .ok (.iload_n 2, 1) := by decide +kernel
theorem dX4_hasCell_17 : decode cX4_hasCell 17 = .ok (.aload_n 0, 1) := by decide +kernel
theorem dX4_hasCell_18 : decode cX4_hasCell 18 = .ok (.getfield 15, 3) := by decide +kernel
theorem dX4_hasCell_21 : decode cX4_hasCell 21 = .ok (.if_icmp .ge 7, 3) := by decide +kernel
theorem dX4_hasCell_24 : decode cX4_hasCell 24 = .ok (.iconst 1, 1) := by decide +kernel
theorem dX4_hasCell_25 : decode cX4_hasCell 25 = .ok (.goto 4, 3) := by decide +kernel
theorem dX4_hasCell_28 : decode cX4_hasCell 28 = .ok (.iconst 0, 1) := by decide +kernel
theorem dX4_hasCell_29 : decode cX4_hasCell 29 = .ok (.ireturn, 1) := by decide +kernel
theorem dX4_cellAt_0 : decode cX4_cellAt 0 = .ok (.aload_n 0, 1) := by decide +kernel
theorem dX4_cellAt_1 : decode cX4_cellAt 1 = .ok (.iload_n 1, 1) := by decide +kernel
theorem dX4_cellAt_2 : decode cX4_cellAt 2 = .ok (.iload_n 2, 1) := by decide +kernel
theorem dX4_cellAt_3 : decode cX4_cellAt 3 = .ok (.invokevirtual 62, 3) := by decide +kernel
theorem dX4_cellAt_6 : decode cX4_cellAt 6 = .ok (.ifCond .eq 12, 3) := by decide +kernel
theorem dX4_cellAt_9 : decode cX4_cellAt 9 = .ok (.iload_n 1, 1) := by decide +kernel
theorem dX4_cellAt_10 : decode cX4_cellAt 10 = .ok (.bipush 16, 2) := by decide +kernel
theorem dX4_cellAt_12 : decode cX4_cellAt 12 = .ok (.imul, 1) := by decide +kernel
theorem dX4_cellAt_13 : decode cX4_cellAt 13 = .ok (.iload_n 2, 1) := by decide +kernel
theorem dX4_cellAt_14 : decode cX4_cellAt 14 = .ok (.iadd, 1) := by decide +kernel
theorem dX4_cellAt_15 : decode cX4_cellAt 15 = .ok (.goto 4, 3) := by decide +kernel
theorem dX4_cellAt_18 : decode cX4_cellAt 18 = .ok (.iconst (-1), 1) := by decide +kernel
theorem dX4_cellAt_19 : decode cX4_cellAt 19 = .ok (.ireturn, 1) := by decide +kernel
theorem dX4_chipsOf_0 : decode cX4_chipsOf 0 = .ok (.iload_n 1, 1) := by decide +kernel
theorem dX4_chipsOf_1 : decode cX4_chipsOf 1 = .ok (.ifCond .lt 21, 3) := by decide +kernel
theorem dX4_chipsOf_4 : decode cX4_chipsOf 4 = .ok (.iload_n 1, 1) := by decide +kernel
theorem dX4_chipsOf_5 : decode cX4_chipsOf 5 = .ok (.aload_n 0, 1) := by decide +kernel
theorem dX4_chipsOf_6 : decode cX4_chipsOf 6 = .ok (.getfield 18, 3) := by decide +kernel
theorem dX4_chipsOf_9 : decode cX4_chipsOf 9 = .ok (.arraylength, 1) := by decide +kernel
theorem dX4_chipsOf_10 : decode cX4_chipsOf 10 = .ok (.if_icmp .ge 12, 3) := by decide +kernel
theorem dX4_chipsOf_13 : decode cX4_chipsOf 13 = .ok (.aload_n 0, 1) := by decide +kernel
theorem dX4_chipsOf_14 : decode cX4_chipsOf 14 = .ok (.getfield 18, 3) := by decide +kernel
theorem dX4_chipsOf_17 : decode cX4_chipsOf 17 = .ok (.iload_n 1, 1) := by decide +kernel
theorem dX4_chipsOf_18 : decode cX4_chipsOf 18 = .ok (.iaload, 1) := by decide +kernel
theorem dX4_chipsOf_19 : decode cX4_chipsOf 19 = .ok (.goto 4, 3) := by decide +kernel
theorem dX4_chipsOf_22 : decode cX4_chipsOf 22 = .ok (.iconst 0, 1) := by decide +kernel
theorem dX4_chipsOf_23 : decode cX4_chipsOf 23 = .ok (.ireturn, 1) := by decide +kernel
theorem dX4_walkerAt_0 : decode cX4_walkerAt 0 = .ok (.iload_n 1, 1) := by decide +kernel
theorem dX4_walkerAt_1 : decode cX4_walkerAt 1 = .ok (.ifCond .lt 20, 3) := by decide +kernel
theorem dX4_walkerAt_4 : decode cX4_walkerAt 4 = .ok (.iload_n 1, 1) := by decide +kernel
theorem dX4_walkerAt_5 : decode cX4_walkerAt 5 = .ok (.aload_n 0, 1) := by decide +kernel
theorem dX4_walkerAt_6 : decode cX4_walkerAt 6 = .ok (.getfield 28, 3) := by decide +kernel
theorem dX4_walkerAt_9 : decode cX4_walkerAt 9 = .ok (.if_icmp .ge 12, 3) := by decide +kernel
theorem dX4_walkerAt_12 : decode cX4_walkerAt 12 = .ok (.iload_n 1, 1) := by decide +kernel
theorem dX4_walkerAt_13 : decode cX4_walkerAt 13 = .ok (.aload_n 0, 1) := by decide +kernel
theorem dX4_walkerAt_14 : decode cX4_walkerAt 14 = .ok (.getfield 24, 3) := by decide +kernel
theorem dX4_walkerAt_17 : decode cX4_walkerAt 17 = .ok (.arraylength, 1) := by decide +kernel
theorem dX4_walkerAt_18 : decode cX4_walkerAt 18 = .ok (.if_icmp .lt 5, 3) := by decide +kernel
theorem dX4_walkerAt_21 : decode cX4_walkerAt 21 = .ok (.aconst_null, 1) := by decide +kernel
theorem dX4_walkerAt_22 : decode cX4_walkerAt 22 = .ok (.areturn, 1) := by decide +kernel
theorem dX4_walkerAt_23 : decode cX4_walkerAt 23 = .ok (.aload_n 0, 1) := by decide +kernel
theorem dX4_walkerAt_24 : decode cX4_walkerAt 24 = .ok (.getfield 24, 3) := by decide +kernel
theorem dX4_walkerAt_27 : decode cX4_walkerAt 27 = .ok (.iload_n 1, 1) := by decide +kernel
theorem dX4_walkerAt_28 : decode cX4_walkerAt 28 = .ok (.aaload, 1) := by decide +kernel
theorem dX4_walkerAt_29 : decode cX4_walkerAt 29 = .ok (.areturn, 1) := by decide +kernel
theorem dX4_allChips_0 : decode cX4_allChips 0 = .ok (.iconst 0, 1) := by decide +kernel
theorem dX4_allChips_1 : decode cX4_allChips 1 = .ok (.istore_n 1, 1) := by decide +kernel
theorem dX4_allChips_2 : decode cX4_allChips 2 = .ok (.iconst 0, 1) := by decide +kernel
theorem dX4_allChips_3 : decode cX4_allChips 3 = .ok (.istore_n 2, 1) := by decide +kernel
theorem dX4_allChips_4 : decode cX4_allChips 4 = .ok (.iload_n 2, 1) := by decide +kernel
theorem dX4_allChips_5 : decode cX4_allChips 5 = .ok (.aload_n 0, 1) := by decide +kernel
theorem dX4_allChips_6 : decode cX4_allChips 6 = .ok (.getfield 18, 3) := by decide +kernel
theorem dX4_allChips_9 : decode cX4_allChips 9 = .ok (.arraylength, 1) := by decide +kernel
theorem dX4_allChips_10 : decode cX4_allChips 10 = .ok (.if_icmp .ge 18, 3) := by decide +kernel
theorem dX4_allChips_13 : decode cX4_allChips 13 = .ok (.iload_n 1, 1) := by decide +kernel
theorem dX4_allChips_14 : decode cX4_allChips 14 = .ok (.aload_n 0, 1) := by decide +kernel
theorem dX4_allChips_15 : decode cX4_allChips 15 = .ok (.getfield 18, 3) := by decide +kernel
theorem dX4_allChips_18 : decode cX4_allChips 18 = .ok (.iload_n 2, 1) := by decide +kernel
theorem dX4_allChips_19 : decode cX4_allChips 19 = .ok (.iaload, 1) := by decide +kernel
theorem dX4_allChips_20 : decode cX4_allChips 20 = .ok (.iadd, 1) := by decide +kernel
theorem dX4_allChips_21 : decode cX4_allChips 21 = .ok (.istore_n 1, 1) := by decide +kernel
theorem dX4_allChips_22 : decode cX4_allChips 22 = .ok (.iinc 2 1, 3) := by decide +kernel
theorem dX4_allChips_25 : decode cX4_allChips 25 = .ok (.goto (-21), 3) := by decide +kernel
theorem dX4_allChips_28 : decode cX4_allChips 28 = .ok (.iload_n 1, 1) := by decide +kernel
theorem dX4_allChips_29 : decode cX4_allChips 29 = .ok (.ireturn, 1) := by decide +kernel
theorem dX4_allPockets_0 : decode cX4_allPockets 0 = .ok (.iconst 0, 1) := by decide +kernel
theorem dX4_allPockets_1 : decode cX4_allPockets 1 = .ok (.istore_n 1, 1) := by decide +kernel
theorem dX4_allPockets_2 : decode cX4_allPockets 2 = .ok (.iconst 0, 1) := by decide +kernel
theorem dX4_allPockets_3 : decode cX4_allPockets 3 = .ok (.istore_n 2, 1) := by decide +kernel
theorem dX4_allPockets_4 : decode cX4_allPockets 4 = .ok (.iload_n 2, 1) := by decide +kernel
theorem dX4_allPockets_5 : decode cX4_allPockets 5 = .ok (.aload_n 0, 1) := by decide +kernel
theorem dX4_allPockets_6 : decode cX4_allPockets 6 = .ok (.getfield 28, 3) := by decide +kernel
theorem dX4_allPockets_9 : decode cX4_allPockets 9 = .ok (.if_icmp .ge 30, 3) := by decide +kernel
theorem dX4_allPockets_12 : decode cX4_allPockets 12 = .ok (.aload_n 0, 1) := by decide +kernel
theorem dX4_allPockets_13 : decode cX4_allPockets 13 = .ok (.iload_n 2, 1) := by decide +kernel
theorem dX4_allPockets_14 : decode cX4_allPockets 14 = .ok (.invokevirtual 51, 3) := by decide +kernel
theorem dX4_allPockets_17 : decode cX4_allPockets 17 = .ok (.astore_n 3, 1) := by decide +kernel
theorem dX4_allPockets_18 : decode cX4_allPockets 18 = .ok (.iload_n 1, 1) := by decide +kernel
theorem dX4_allPockets_19 : decode cX4_allPockets 19 = .ok (.aload_n 3, 1) := by decide +kernel
theorem dX4_allPockets_20 : decode cX4_allPockets 20 = .ok (.ifnonnull 7, 3) := by decide +kernel
theorem dX4_allPockets_23 : decode cX4_allPockets 23 = .ok (.iconst 0, 1) := by decide +kernel
theorem dX4_allPockets_24 : decode cX4_allPockets 24 = .ok (.goto 7, 3) := by decide +kernel
theorem dX4_allPockets_27 : decode cX4_allPockets 27 = .ok (.aload_n 3, 1) := by decide +kernel
theorem dX4_allPockets_28 : decode cX4_allPockets 28 = .ok (.getfield 66, 3) := by decide +kernel
theorem dX4_allPockets_31 : decode cX4_allPockets 31 = .ok (.iadd, 1) := by decide +kernel
theorem dX4_allPockets_32 : decode cX4_allPockets 32 = .ok (.istore_n 1, 1) := by decide +kernel
theorem dX4_allPockets_33 : decode cX4_allPockets 33 = .ok (.iinc 2 1, 3) := by decide +kernel
theorem dX4_allPockets_36 : decode cX4_allPockets 36 = .ok (.goto (-32), 3) := by decide +kernel
theorem dX4_allPockets_39 : decode cX4_allPockets 39 = .ok (.iload_n 1, 1) := by decide +kernel
theorem dX4_allPockets_40 : decode cX4_allPockets 40 = .ok (.ireturn, 1) := by decide +kernel
theorem dX4_allSteps_0 : decode cX4_allSteps 0 = .ok (.iconst 0, 1) := by decide +kernel
theorem dX4_allSteps_1 : decode cX4_allSteps 1 = .ok (.istore_n 1, 1) := by decide +kernel
theorem dX4_allSteps_2 : decode cX4_allSteps 2 = .ok (.iconst 0, 1) := by decide +kernel
theorem dX4_allSteps_3 : decode cX4_allSteps 3 = .ok (.istore_n 2, 1) := by decide +kernel
theorem dX4_allSteps_4 : decode cX4_allSteps 4 = .ok (.iload_n 2, 1) := by decide +kernel
theorem dX4_allSteps_5 : decode cX4_allSteps 5 = .ok (.aload_n 0, 1) := by decide +kernel
theorem dX4_allSteps_6 : decode cX4_allSteps 6 = .ok (.getfield 28, 3) := by decide +kernel
theorem dX4_allSteps_9 : decode cX4_allSteps 9 = .ok (.if_icmp .ge 30, 3) := by decide +kernel
theorem dX4_allSteps_12 : decode cX4_allSteps 12 = .ok (.aload_n 0, 1) := by decide +kernel
theorem dX4_allSteps_13 : decode cX4_allSteps 13 = .ok (.iload_n 2, 1) := by decide +kernel
theorem dX4_allSteps_14 : decode cX4_allSteps 14 = .ok (.invokevirtual 51, 3) := by decide +kernel
theorem dX4_allSteps_17 : decode cX4_allSteps 17 = .ok (.astore_n 3, 1) := by decide +kernel
theorem dX4_allSteps_18 : decode cX4_allSteps 18 = .ok (.iload_n 1, 1) := by decide +kernel
theorem dX4_allSteps_19 : decode cX4_allSteps 19 = .ok (.aload_n 3, 1) := by decide +kernel
theorem dX4_allSteps_20 : decode cX4_allSteps 20 = .ok (.ifnonnull 7, 3) := by decide +kernel
theorem dX4_allSteps_23 : decode cX4_allSteps 23 = .ok (.iconst 0, 1) := by decide +kernel
theorem dX4_allSteps_24 : decode cX4_allSteps 24 = .ok (.goto 7, 3) := by decide +kernel
theorem dX4_allSteps_27 : decode cX4_allSteps 27 = .ok (.aload_n 3, 1) := by decide +kernel
theorem dX4_allSteps_28 : decode cX4_allSteps 28 = .ok (.getfield 69, 3) := by decide +kernel
theorem dX4_allSteps_31 : decode cX4_allSteps 31 = .ok (.iadd, 1) := by decide +kernel
theorem dX4_allSteps_32 : decode cX4_allSteps 32 = .ok (.istore_n 1, 1) := by decide +kernel
theorem dX4_allSteps_33 : decode cX4_allSteps 33 = .ok (.iinc 2 1, 3) := by decide +kernel
theorem dX4_allSteps_36 : decode cX4_allSteps 36 = .ok (.goto (-32), 3) := by decide +kernel
theorem dX4_allSteps_39 : decode cX4_allSteps 39 = .ok (.iload_n 1, 1) := by decide +kernel
theorem dX4_allSteps_40 : decode cX4_allSteps 40 = .ok (.ireturn, 1) := by decide +kernel
theorem dX5_init_0 : decode cX5_init 0 = .ok (.aload_n 0, 1) := by decide +kernel
theorem dX5_init_1 : decode cX5_init 1 = .ok (.invokespecial 3, 3) := by decide +kernel
theorem dX5_init_4 : decode cX5_init 4 = .ok (.aload_n 0, 1) := by decide +kernel
theorem dX5_init_5 : decode cX5_init 5 = .ok (.bipush 30, 2) := by decide +kernel
theorem dX5_init_7 : decode cX5_init 7 = .ok (.newarray .int, 2) := by decide +kernel
theorem dX5_init_9 : decode cX5_init 9 = .ok (.putfield 9, 3) := by decide +kernel
theorem dX5_init_12 : decode cX5_init 12 = .ok (.aload_n 0, 1) := by decide +kernel
theorem dX5_init_13 : decode cX5_init 13 = .ok (.iconst 1, 1) := by decide +kernel
theorem dX5_init_14 : decode cX5_init 14 = .ok (.putfield 15, 3) := by decide +kernel
theorem dX5_init_17 : decode cX5_init 17 = .ok (.aload_n 0, 1) := by decide +kernel
theorem dX5_init_18 : decode cX5_init 18 = .ok (.iconst 0, 1) := by decide +kernel
theorem dX5_init_19 : decode cX5_init 19 = .ok (.putfield 19, 3) := by decide +kernel
theorem dX5_init_22 : decode cX5_init 22 = .ok (.aload_n 0, 1) := by decide +kernel
theorem dX5_init_23 : decode cX5_init 23 = .ok (.iconst 1, 1) := by decide +kernel
theorem dX5_init_24 : decode cX5_init 24 = .ok (.putfield 22, 3) := by decide +kernel
theorem dX5_init_27 : decode cX5_init 27 = .ok (.return_, 1) := by decide +kernel
theorem dX5_begin_0 : decode cX5_begin 0 = .ok (.aload_n 0, 1) := by decide +kernel
theorem dX5_begin_1 : decode cX5_begin 1 = .ok (.getfield 9, 3) := by decide +kernel
theorem dX5_begin_4 : decode cX5_begin 4 = .ok (.iconst 0, 1) := by decide +kernel
theorem dX5_begin_5 : decode cX5_begin 5 = .ok (.iconst 0, 1) := by decide +kernel
theorem dX5_begin_6 : decode cX5_begin 6 = .ok (.iastore, 1) := by decide +kernel
theorem dX5_begin_7 : decode cX5_begin 7 = .ok (.aload_n 0, 1) := by decide +kernel
theorem dX5_begin_8 : decode cX5_begin 8 = .ok (.iconst 1, 1) := by decide +kernel
theorem dX5_begin_9 : decode cX5_begin 9 = .ok (.putfield 15, 3) := by decide +kernel
theorem dX5_begin_12 : decode cX5_begin 12 = .ok (.aload_n 0, 1) := by decide +kernel
theorem dX5_begin_13 : decode cX5_begin 13 = .ok (.iconst 0, 1) := by decide +kernel
theorem dX5_begin_14 : decode cX5_begin 14 = .ok (.putfield 19, 3) := by decide +kernel
theorem dX5_begin_17 : decode cX5_begin 17 = .ok (.aload_n 0, 1) := by decide +kernel
theorem dX5_begin_18 : decode cX5_begin 18 = .ok (.iconst 1, 1) := by decide +kernel
theorem dX5_begin_19 : decode cX5_begin 19 = .ok (.putfield 22, 3) := by decide +kernel
theorem dX5_begin_22 : decode cX5_begin 22 = .ok (.return_, 1) := by decide +kernel
theorem dX5_append_0 : decode cX5_append 0 = .ok (.aload_n 0, 1) := by decide +kernel
theorem dX5_append_1 : decode cX5_append 1 = .ok (.getfield 22, 3) := by decide +kernel
theorem dX5_append_4 : decode cX5_append 4 = .ok (.ifCond .eq 13, 3) := by decide +kernel
theorem dX5_append_7 : decode cX5_append 7 = .ok (.aload_n 0, 1) := by decide +kernel
theorem dX5_append_8 : decode cX5_append 8 = .ok (.iconst 0, 1) := by decide +kernel
theorem dX5_append_9 : decode cX5_append 9 = .ok (.putfield 15, 3) := by decide +kernel
theorem dX5_append_12 : decode cX5_append 12 = .ok (.aload_n 0, 1) := by decide +kernel
theorem dX5_append_13 : decode cX5_append 13 = .ok (.iconst 0, 1) := by decide +kernel
theorem dX5_append_14 : decode cX5_append 14 = .ok (.putfield 22, 3) := by decide +kernel
theorem dX5_append_17 : decode cX5_append 17 = .ok (.aload_n 0, 1) := by decide +kernel
theorem dX5_append_18 : decode cX5_append 18 = .ok (.getfield 15, 3) := by decide +kernel
theorem dX5_append_21 : decode cX5_append 21 = .ok (.ifCond .lt 35, 3) := by decide +kernel
theorem dX5_append_24 : decode cX5_append 24 = .ok (.aload_n 0, 1) := by decide +kernel
theorem dX5_append_25 : decode cX5_append 25 = .ok (.getfield 15, 3) := by decide +kernel
theorem dX5_append_28 : decode cX5_append 28 = .ok (.aload_n 0, 1) := by decide +kernel
theorem dX5_append_29 : decode cX5_append 29 = .ok (.getfield 9, 3) := by decide +kernel
theorem dX5_append_32 : decode cX5_append 32 = .ok (.arraylength, 1) := by decide +kernel
theorem dX5_append_33 : decode cX5_append 33 = .ok (.if_icmp .ge 23, 3) := by decide +kernel
theorem dX5_append_36 : decode cX5_append 36 = .ok (.aload_n 0, 1) := by decide +kernel
theorem dX5_append_37 : decode cX5_append 37 = .ok (.getfield 9, 3) := by decide +kernel
theorem dX5_append_40 : decode cX5_append 40 = .ok (.aload_n 0, 1) := by decide +kernel
theorem dX5_append_41 : decode cX5_append 41 = .ok (.getfield 15, 3) := by decide +kernel
theorem dX5_append_44 : decode cX5_append 44 = .ok (.iload_n 1, 1) := by decide +kernel
theorem dX5_append_45 : decode cX5_append 45 = .ok (.iastore, 1) := by decide +kernel
theorem dX5_append_46 : decode cX5_append 46 = .ok (.aload_n 0, 1) := by decide +kernel
theorem dX5_append_47 : decode cX5_append 47 = .ok (.dup, 1) := by decide +kernel
theorem dX5_append_48 : decode cX5_append 48 = .ok (.getfield 15, 3) := by decide +kernel
theorem dX5_append_51 : decode cX5_append 51 = .ok (.iconst 1, 1) := by decide +kernel
theorem dX5_append_52 : decode cX5_append 52 = .ok (.iadd, 1) := by decide +kernel
theorem dX5_append_53 : decode cX5_append 53 = .ok (.putfield 15, 3) := by decide +kernel
theorem dX5_append_56 : decode cX5_append 56 = .ok (.aload_n 0, 1) := by decide +kernel
theorem dX5_append_57 : decode cX5_append 57 = .ok (.iconst 0, 1) := by decide +kernel
theorem dX5_append_58 : decode cX5_append 58 = .ok (.putfield 19, 3) := by decide +kernel
theorem dX5_append_61 : decode cX5_append 61 = .ok (.return_, 1) := by decide +kernel
theorem dX5_takeNext_0 : decode cX5_takeNext 0 = .ok (.aload_n 0, 1) := by decide +kernel
theorem dX5_takeNext_1 : decode cX5_takeNext 1 = .ok (.getfield 19, 3) := by decide +kernel
theorem dX5_takeNext_4 : decode cX5_takeNext 4 = .ok (.ifCond .lt 15, 3) := by decide +kernel
theorem dX5_takeNext_7 : decode cX5_takeNext 7 = .ok (.aload_n 0, 1) := by decide +kernel
theorem dX5_takeNext_8 : decode cX5_takeNext 8 = .ok (.getfield 19, 3) := by decide +kernel
theorem dX5_takeNext_11 : decode cX5_takeNext 11 = .ok (.aload_n 0, 1) := by decide +kernel
theorem dX5_takeNext_12 : decode cX5_takeNext 12 = .ok (.getfield 9, 3) := by decide +kernel
theorem dX5_takeNext_15 : decode cX5_takeNext 15 = .ok (.arraylength, 1) := by decide +kernel
theorem dX5_takeNext_16 : decode cX5_takeNext 16 = .ok (.if_icmp .lt 5, 3) := by decide +kernel
theorem dX5_takeNext_19 : decode cX5_takeNext 19 = .ok (.iconst 0, 1) := by decide +kernel
theorem dX5_takeNext_20 : decode cX5_takeNext 20 = .ok (.ireturn, 1) := by decide +kernel
theorem dX5_takeNext_21 : decode cX5_takeNext 21 = .ok (.aload_n 0, 1) := by decide +kernel
theorem dX5_takeNext_22 : decode cX5_takeNext 22 = .ok (.getfield 9, 3) := by decide +kernel
theorem dX5_takeNext_25 : decode cX5_takeNext 25 = .ok (.aload_n 0, 1) := by decide +kernel
theorem dX5_takeNext_26 : decode cX5_takeNext 26 = .ok (.getfield 19, 3) := by decide +kernel
theorem dX5_takeNext_29 : decode cX5_takeNext 29 = .ok (.iaload, 1) := by decide +kernel
theorem dX5_takeNext_30 : decode cX5_takeNext 30 = .ok (.istore_n 1, 1) := by decide +kernel
theorem dX5_takeNext_31 : decode cX5_takeNext 31 = .ok (.aload_n 0, 1) := by decide +kernel
theorem dX5_takeNext_32 : decode cX5_takeNext 32 = .ok (.dup, 1) := by decide +kernel
theorem dX5_takeNext_33 : decode cX5_takeNext 33 = .ok (.getfield 19, 3) := by decide +kernel
theorem dX5_takeNext_36 : decode cX5_takeNext 36 = .ok (.iconst 1, 1) := by decide +kernel
theorem dX5_takeNext_37 : decode cX5_takeNext 37 = .ok (.iadd, 1) := by decide +kernel
theorem dX5_takeNext_38 : decode cX5_takeNext 38 = .ok (.putfield 19, 3) := by decide +kernel
theorem dX5_takeNext_41 : decode cX5_takeNext 41 = .ok (.aload_n 0, 1) := by decide +kernel
theorem dX5_takeNext_42 : decode cX5_takeNext 42 = .ok (.getfield 19, 3) := by decide +kernel
theorem dX5_takeNext_45 : decode cX5_takeNext 45 = .ok (.aload_n 0, 1) := by decide +kernel
theorem dX5_takeNext_46 : decode cX5_takeNext 46 = .ok (.getfield 15, 3) := by decide +kernel
theorem dX5_takeNext_49 : decode cX5_takeNext 49 = .ok (.if_icmp .lt 8, 3) := by decide +kernel
theorem dX5_takeNext_52 : decode cX5_takeNext 52 = .ok (.aload_n 0, 1) := by decide +kernel
theorem dX5_takeNext_53 : decode cX5_takeNext 53 = .ok (.iconst 0, 1) := by decide +kernel
theorem dX5_takeNext_54 : decode cX5_takeNext 54 = .ok (.putfield 19, 3) := by decide +kernel
theorem dX5_takeNext_57 : decode cX5_takeNext 57 = .ok (.iload_n 1, 1) := by decide +kernel
theorem dX5_takeNext_58 : decode cX5_takeNext 58 = .ok (.ireturn, 1) := by decide +kernel
theorem dX5_copyFrom_0 : decode cX5_copyFrom 0 = .ok (.aload_n 1, 1) := by decide +kernel
theorem dX5_copyFrom_1 : decode cX5_copyFrom 1 = .ok (.getfield 9, 3) := by decide +kernel
theorem dX5_copyFrom_4 : decode cX5_copyFrom 4 = .ok (.iconst 0, 1) := by decide +kernel
theorem dX5_copyFrom_5 : decode cX5_copyFrom 5 = .ok (.aload_n 0, 1) := by decide +kernel
theorem dX5_copyFrom_6 : decode cX5_copyFrom 6 = .ok (.getfield 9, 3) := by decide +kernel
theorem dX5_copyFrom_9 : decode cX5_copyFrom 9 = .ok (.iconst 0, 1) := by decide +kernel
theorem dX5_copyFrom_10 : decode cX5_copyFrom 10 = .ok (.bipush 30, 2) := by decide +kernel
theorem dX5_copyFrom_12 : decode cX5_copyFrom 12 = .ok (.invokestatic 26, 3) := by decide +kernel
theorem dX5_copyFrom_15 : decode cX5_copyFrom 15 = .ok (.aload_n 0, 1) := by decide +kernel
theorem dX5_copyFrom_16 : decode cX5_copyFrom 16 = .ok (.aload_n 1, 1) := by decide +kernel
theorem dX5_copyFrom_17 : decode cX5_copyFrom 17 = .ok (.getfield 15, 3) := by decide +kernel
theorem dX5_copyFrom_20 : decode cX5_copyFrom 20 = .ok (.putfield 15, 3) := by decide +kernel
theorem dX5_copyFrom_23 : decode cX5_copyFrom 23 = .ok (.aload_n 0, 1) := by decide +kernel
theorem dX5_copyFrom_24 : decode cX5_copyFrom 24 = .ok (.aload_n 1, 1) := by decide +kernel
theorem dX5_copyFrom_25 : decode cX5_copyFrom 25 = .ok (.getfield 19, 3) := by decide +kernel
theorem dX5_copyFrom_28 : decode cX5_copyFrom 28 = .ok (.putfield 19, 3) := by decide +kernel
theorem dX5_copyFrom_31 : decode cX5_copyFrom 31 = .ok (.aload_n 0, 1) := by decide +kernel
theorem dX5_copyFrom_32 : decode cX5_copyFrom 32 = .ok (.aload_n 1, 1) := by decide +kernel
theorem dX5_copyFrom_33 : decode cX5_copyFrom 33 = .ok (.getfield 22, 3) := by decide +kernel
theorem dX5_copyFrom_36 : decode cX5_copyFrom 36 = .ok (.putfield 22, 3) := by decide +kernel
theorem dX5_copyFrom_39 : decode cX5_copyFrom 39 = .ok (.return_, 1) := by decide +kernel
theorem dX6_init_0 : decode cX6_init 0 = .ok (.aload_n 0, 1) := by decide +kernel
theorem dX6_init_1 : decode cX6_init 1 = .ok (.invokespecial 3, 3) := by decide +kernel
theorem dX6_init_4 : decode cX6_init 4 = .ok (.return_, 1) := by decide +kernel
theorem dX6_begin_0 : decode cX6_begin 0 = .ok (.aload_n 0, 1) := by decide +kernel
theorem dX6_begin_1 : decode cX6_begin 1 = .ok (.iload_n 1, 1) := by decide +kernel
theorem dX6_begin_2 : decode cX6_begin 2 = .ok (.putfield 9, 3) := by decide +kernel
theorem dX6_begin_5 : decode cX6_begin 5 = .ok (.aload_n 0, 1) := by decide +kernel
theorem dX6_begin_6 : decode cX6_begin 6 = .ok (.iload_n 2, 1) := by decide +kernel
theorem dX6_begin_7 : decode cX6_begin 7 = .ok (.putfield 15, 3) := by decide +kernel
theorem dX6_begin_10 : decode cX6_begin 10 = .ok (.aload_n 0, 1) := by decide +kernel
theorem dX6_begin_11 : decode cX6_begin 11 = .ok (.iload_n 3, 1) := by decide +kernel
theorem dX6_begin_12 : decode cX6_begin 12 = .ok (.putfield 18, 3) := by decide +kernel
theorem dX6_begin_15 : decode cX6_begin 15 = .ok (.aload_n 0, 1) := by decide +kernel
theorem dX6_begin_16 : decode cX6_begin 16 = .ok (.iconst 0, 1) := by decide +kernel
theorem dX6_begin_17 : decode cX6_begin 17 = .ok (.putfield 21, 3) := by decide +kernel
theorem dX6_begin_20 : decode cX6_begin 20 = .ok (.aload_n 0, 1) := by decide +kernel
theorem dX6_begin_21 : decode cX6_begin 21 = .ok (.iload 5, 2) := by decide +kernel
theorem dX6_begin_23 : decode cX6_begin 23 = .ok (.putfield 24, 3) := by decide +kernel
theorem dX6_begin_26 : decode cX6_begin 26 = .ok (.aload_n 0, 1) := by decide +kernel
theorem dX6_begin_27 : decode cX6_begin 27 = .ok (.iload 4, 2) := by decide +kernel
theorem dX6_begin_29 : decode cX6_begin 29 = .ok (.putfield 27, 3) := by decide +kernel
theorem dX6_begin_32 : decode cX6_begin 32 = .ok (.aload_n 0, 1) := by decide +kernel
theorem dX6_begin_33 : decode cX6_begin 33 = .ok (.iconst 0, 1) := by decide +kernel
theorem dX6_begin_34 : decode cX6_begin 34 = .ok (.putfield 30, 3) := by decide +kernel
theorem dX6_begin_37 : decode cX6_begin 37 = .ok (.aload_n 0, 1) := by decide +kernel
theorem dX6_begin_38 : decode cX6_begin 38 = .ok (.iconst 0, 1) := by decide +kernel
theorem dX6_begin_39 : decode cX6_begin 39 = .ok (.putfield 33, 3) := by decide +kernel
theorem dX6_begin_42 : decode cX6_begin 42 = .ok (.aload_n 0, 1) := by decide +kernel
theorem dX6_begin_43 : decode cX6_begin 43 = .ok (.iconst 0, 1) := by decide +kernel
theorem dX6_begin_44 : decode cX6_begin 44 = .ok (.putfield 36, 3) := by decide +kernel
theorem dX6_begin_47 : decode cX6_begin 47 = .ok (.return_, 1) := by decide +kernel
theorem dX6_cell_0 : decode cX6_cell 0 = .ok (.aload_n 0, 1) := by decide +kernel
theorem dX6_cell_1 : decode cX6_cell 1 = .ok (.getfield 9, 3) := by decide +kernel
theorem dX6_cell_4 : decode cX6_cell 4 = .ok (.bipush 16, 2) := by decide +kernel
theorem dX6_cell_6 : decode cX6_cell 6 = .ok (.imul, 1) := by decide +kernel
theorem dX6_cell_7 : decode cX6_cell 7 = .ok (.aload_n 0, 1) := by decide +kernel
theorem dX6_cell_8 : decode cX6_cell 8 = .ok (.getfield 15, 3) := by decide +kernel
theorem dX6_cell_11 : decode cX6_cell 11 = .ok (.iadd, 1) := by decide +kernel
theorem dX6_cell_12 : decode cX6_cell 12 = .ok (.ireturn, 1) := by decide +kernel
theorem dX6_copyFrom_0 : decode cX6_copyFrom 0 = .ok (.aload_n 0, 1) := by decide +kernel
theorem dX6_copyFrom_1 : decode cX6_copyFrom 1 = .ok (.aload_n 1, 1) := by decide +kernel
theorem dX6_copyFrom_2 : decode cX6_copyFrom 2 = .ok (.getfield 9, 3) := by decide +kernel
theorem dX6_copyFrom_5 : decode cX6_copyFrom 5 = .ok (.putfield 9, 3) := by decide +kernel
theorem dX6_copyFrom_8 : decode cX6_copyFrom 8 = .ok (.aload_n 0, 1) := by decide +kernel
theorem dX6_copyFrom_9 : decode cX6_copyFrom 9 = .ok (.aload_n 1, 1) := by decide +kernel
theorem dX6_copyFrom_10 : decode cX6_copyFrom 10 = .ok (.getfield 15, 3) := by decide +kernel
theorem dX6_copyFrom_13 : decode cX6_copyFrom 13 = .ok (.putfield 15, 3) := by decide +kernel
theorem dX6_copyFrom_16 : decode cX6_copyFrom 16 = .ok (.aload_n 0, 1) := by decide +kernel
theorem dX6_copyFrom_17 : decode cX6_copyFrom 17 = .ok (.aload_n 1, 1) := by decide +kernel
theorem dX6_copyFrom_18 : decode cX6_copyFrom 18 = .ok (.getfield 18, 3) := by decide +kernel
theorem dX6_copyFrom_21 : decode cX6_copyFrom 21 = .ok (.putfield 18, 3) := by decide +kernel
theorem dX6_copyFrom_24 : decode cX6_copyFrom 24 = .ok (.aload_n 0, 1) := by decide +kernel
theorem dX6_copyFrom_25 : decode cX6_copyFrom 25 = .ok (.aload_n 1, 1) := by decide +kernel
theorem dX6_copyFrom_26 : decode cX6_copyFrom 26 = .ok (.getfield 21, 3) := by decide +kernel
theorem dX6_copyFrom_29 : decode cX6_copyFrom 29 = .ok (.putfield 21, 3) := by decide +kernel
theorem dX6_copyFrom_32 : decode cX6_copyFrom 32 = .ok (.aload_n 0, 1) := by decide +kernel
theorem dX6_copyFrom_33 : decode cX6_copyFrom 33 = .ok (.aload_n 1, 1) := by decide +kernel
theorem dX6_copyFrom_34 : decode cX6_copyFrom 34 = .ok (.getfield 24, 3) := by decide +kernel
theorem dX6_copyFrom_37 : decode cX6_copyFrom 37 = .ok (.putfield 24, 3) := by decide +kernel
theorem dX6_copyFrom_40 : decode cX6_copyFrom 40 = .ok (.aload_n 0, 1) := by decide +kernel
theorem dX6_copyFrom_41 : decode cX6_copyFrom 41 = .ok (.aload_n 1, 1) := by decide +kernel
theorem dX6_copyFrom_42 : decode cX6_copyFrom 42 = .ok (.getfield 27, 3) := by decide +kernel
theorem dX6_copyFrom_45 : decode cX6_copyFrom 45 = .ok (.putfield 27, 3) := by decide +kernel
theorem dX6_copyFrom_48 : decode cX6_copyFrom 48 = .ok (.aload_n 0, 1) := by decide +kernel
theorem dX6_copyFrom_49 : decode cX6_copyFrom 49 = .ok (.aload_n 1, 1) := by decide +kernel
theorem dX6_copyFrom_50 : decode cX6_copyFrom 50 = .ok (.getfield 30, 3) := by decide +kernel
theorem dX6_copyFrom_53 : decode cX6_copyFrom 53 = .ok (.putfield 30, 3) := by decide +kernel
theorem dX6_copyFrom_56 : decode cX6_copyFrom 56 = .ok (.aload_n 0, 1) := by decide +kernel
theorem dX6_copyFrom_57 : decode cX6_copyFrom 57 = .ok (.aload_n 1, 1) := by decide +kernel
theorem dX6_copyFrom_58 : decode cX6_copyFrom 58 = .ok (.getfield 33, 3) := by decide +kernel
theorem dX6_copyFrom_61 : decode cX6_copyFrom 61 = .ok (.putfield 33, 3) := by decide +kernel
theorem dX6_copyFrom_64 : decode cX6_copyFrom 64 = .ok (.aload_n 0, 1) := by decide +kernel
theorem dX6_copyFrom_65 : decode cX6_copyFrom 65 = .ok (.aload_n 1, 1) := by decide +kernel
theorem dX6_copyFrom_66 : decode cX6_copyFrom 66 = .ok (.getfield 36, 3) := by decide +kernel
theorem dX6_copyFrom_69 : decode cX6_copyFrom 69 = .ok (.putfield 36, 3) := by decide +kernel
theorem dX6_copyFrom_72 : decode cX6_copyFrom 72 = .ok (.return_, 1) := by decide +kernel
theorem dX7_init_0 : decode cX7_init 0 = .ok (.aload_n 0, 1) := by decide +kernel
theorem dX7_init_1 : decode cX7_init 1 = .ok (.invokespecial 3, 3) := by decide +kernel
theorem dX7_init_4 : decode cX7_init 4 = .ok (.aload_n 0, 1) := by decide +kernel
theorem dX7_init_5 : decode cX7_init 5 = .ok (.new 9, 3) := by decide +kernel
theorem dX7_init_8 : decode cX7_init 8 = .ok (.dup, 1) := by decide +kernel
theorem dX7_init_9 : decode cX7_init 9 = .ok (.invokespecial 11, 3) := by decide +kernel
theorem dX7_init_12 : decode cX7_init 12 = .ok (.putfield 12, 3) := by decide +kernel
theorem dX7_init_15 : decode cX7_init 15 = .ok (.aload_n 0, 1) := by decide +kernel
theorem dX7_init_16 : decode cX7_init 16 = .ok (.new 18, 3) := by decide +kernel
theorem dX7_init_19 : decode cX7_init 19 = .ok (.dup, 1) := by decide +kernel
theorem dX7_init_20 : decode cX7_init 20 = .ok (.invokespecial 20, 3) := by decide +kernel
theorem dX7_init_23 : decode cX7_init 23 = .ok (.putfield 21, 3) := by decide +kernel
theorem dX7_init_26 : decode cX7_init 26 = .ok (.return_, 1) := by decide +kernel
theorem dX7_load_0 : decode cX7_load 0 = .ok (.aload_n 0, 1) := by decide +kernel
theorem dX7_load_1 : decode cX7_load 1 = .ok (.getfield 12, 3) := by decide +kernel
theorem dX7_load_4 : decode cX7_load 4 = .ok (.aload_n 1, 1) := by decide +kernel
theorem dX7_load_5 : decode cX7_load 5 = .ok (.invokevirtual 25, 3) := by decide +kernel
theorem dX7_load_8 : decode cX7_load 8 = .ok (.aload_n 0, 1) := by decide +kernel
theorem dX7_load_9 : decode cX7_load 9 = .ok (.getfield 21, 3) := by decide +kernel
theorem dX7_load_12 : decode cX7_load 12 = .ok (.invokevirtual 29, 3) := by decide +kernel
theorem dX7_load_15 : decode cX7_load 15 = .ok (.return_, 1) := by decide +kernel
theorem dX7_clearBoard_0 : decode cX7_clearBoard 0 = .ok (.aload_n 0, 1) := by decide +kernel
theorem dX7_clearBoard_1 : decode cX7_clearBoard 1 = .ok (.getfield 12, 3) := by decide +kernel
theorem dX7_clearBoard_4 : decode cX7_clearBoard 4 = .ok (.iload_n 1, 1) := by decide +kernel
theorem dX7_clearBoard_5 : decode cX7_clearBoard 5 = .ok (.putfield 32, 3) := by decide +kernel
theorem dX7_clearBoard_8 : decode cX7_clearBoard 8 = .ok (.aload_n 0, 1) := by decide +kernel
theorem dX7_clearBoard_9 : decode cX7_clearBoard 9 = .ok (.getfield 12, 3) := by decide +kernel
theorem dX7_clearBoard_12 : decode cX7_clearBoard 12 = .ok (.iload_n 2, 1) := by decide +kernel
theorem dX7_clearBoard_13 : decode cX7_clearBoard 13 = .ok (.putfield 36, 3) := by decide +kernel
theorem dX7_clearBoard_16 : decode cX7_clearBoard 16 = .ok (.aload_n 0, 1) := by decide +kernel
theorem dX7_clearBoard_17 : decode cX7_clearBoard 17 = .ok (.getfield 12, 3) := by decide +kernel
theorem dX7_clearBoard_20 : decode cX7_clearBoard 20 = .ok (.getfield 39, 3) := by decide +kernel
theorem dX7_clearBoard_23 : decode cX7_clearBoard 23 = .ok (.iconst 0, 1) := by decide +kernel
theorem dX7_clearBoard_24 : decode cX7_clearBoard 24 = .ok (.invokestatic 43, 3) := by decide +kernel
theorem dX7_clearBoard_27 : decode cX7_clearBoard 27 = .ok (.aload_n 0, 1) := by decide +kernel
theorem dX7_clearBoard_28 : decode cX7_clearBoard 28 = .ok (.getfield 12, 3) := by decide +kernel
theorem dX7_clearBoard_31 : decode cX7_clearBoard 31 = .ok (.iconst 0, 1) := by decide +kernel
theorem dX7_clearBoard_32 : decode cX7_clearBoard 32 = .ok (.putfield 49, 3) := by decide +kernel
theorem dX7_clearBoard_35 : decode cX7_clearBoard 35 = .ok (.aload_n 0, 1) := by decide +kernel
theorem dX7_clearBoard_36 : decode cX7_clearBoard 36 = .ok (.getfield 12, 3) := by decide +kernel
theorem dX7_clearBoard_39 : decode cX7_clearBoard 39 = .ok (.iconst 0, 1) := by decide +kernel
theorem dX7_clearBoard_40 : decode cX7_clearBoard 40 = .ok (.putfield 52, 3) := by decide +kernel
theorem dX7_clearBoard_43 : decode cX7_clearBoard 43 = .ok (.aload_n 0, 1) := by decide +kernel
theorem dX7_clearBoard_44 : decode cX7_clearBoard 44 = .ok (.getfield 12, 3) := by decide +kernel
theorem dX7_clearBoard_47 : decode cX7_clearBoard 47 = .ok (.iconst 0, 1) := by decide +kernel
theorem dX7_clearBoard_48 : decode cX7_clearBoard 48 = .ok (.putfield 55, 3) := by decide +kernel
theorem dX7_clearBoard_51 : decode cX7_clearBoard 51 = .ok (.aload_n 0, 1) := by decide +kernel
theorem dX7_clearBoard_52 : decode cX7_clearBoard 52 = .ok (.getfield 21, 3) := by decide +kernel
theorem dX7_clearBoard_55 : decode cX7_clearBoard 55 = .ok (.invokevirtual 29, 3) := by decide +kernel
theorem dX7_clearBoard_58 : decode cX7_clearBoard 58 = .ok (.return_, 1) := by decide +kernel
theorem dX7_setChips_0 : decode cX7_setChips 0 = .ok (.iload_n 1, 1) := by decide +kernel
theorem dX7_setChips_1 : decode cX7_setChips 1 = .ok (.ifCond .lt 10, 3) := by decide +kernel
theorem dX7_setChips_4 : decode cX7_setChips 4 = .ok (.iload_n 1, 1) := by decide +kernel
theorem dX7_setChips_5 : decode cX7_setChips 5 = .ok (.sipush 256, 3) := by decide +kernel
theorem dX7_setChips_8 : decode cX7_setChips 8 = .ok (.if_icmp .lt 4, 3) := by decide +kernel
theorem dX7_setChips_11 : decode cX7_setChips 11 = .ok (.return_, 1) := by decide +kernel
theorem dX7_setChips_12 : decode cX7_setChips 12 = .ok (.aload_n 0, 1) := by decide +kernel
theorem dX7_setChips_13 : decode cX7_setChips 13 = .ok (.getfield 12, 3) := by decide +kernel
theorem dX7_setChips_16 : decode cX7_setChips 16 = .ok (.getfield 39, 3) := by decide +kernel
theorem dX7_setChips_19 : decode cX7_setChips 19 = .ok (.iload_n 1, 1) := by decide +kernel
theorem dX7_setChips_20 : decode cX7_setChips 20 = .ok (.iaload, 1) := by decide +kernel
theorem dX7_setChips_21 : decode cX7_setChips 21 = .ok (.istore_n 3, 1) := by decide +kernel
theorem dX7_setChips_22 : decode cX7_setChips 22 = .ok (.aload_n 0, 1) := by decide +kernel
theorem dX7_setChips_23 : decode cX7_setChips 23 = .ok (.getfield 12, 3) := by decide +kernel
theorem dX7_setChips_26 : decode cX7_setChips 26 = .ok (.getfield 39, 3) := by decide +kernel
theorem dX7_setChips_29 : decode cX7_setChips 29 = .ok (.iload_n 1, 1) := by decide +kernel
theorem dX7_setChips_30 : decode cX7_setChips 30 = .ok (.iload_n 2, 1) := by decide +kernel
theorem dX7_setChips_31 : decode cX7_setChips 31 = .ok (.iastore, 1) := by decide +kernel
theorem dX7_setChips_32 : decode cX7_setChips 32 = .ok (.aload_n 0, 1) := by decide +kernel
theorem dX7_setChips_33 : decode cX7_setChips 33 = .ok (.getfield 21, 3) := by decide +kernel
theorem dX7_setChips_36 : decode cX7_setChips 36 = .ok (.iload_n 1, 1) := by decide +kernel
theorem dX7_setChips_37 : decode cX7_setChips 37 = .ok (.iload_n 3, 1) := by decide +kernel
theorem dX7_setChips_38 : decode cX7_setChips 38 = .ok (.iload_n 2, 1) := by decide +kernel
theorem dX7_setChips_39 : decode cX7_setChips 39 = .ok (.invokevirtual 58, 3) := by decide +kernel
theorem dX7_setChips_42 : decode cX7_setChips 42 = .ok (.return_, 1) := by decide +kernel
theorem dX7_chipsUnder_0 : decode cX7_chipsUnder 0 = .ok (.aload_n 0, 1) := by decide +kernel
theorem dX7_chipsUnder_1 : decode cX7_chipsUnder 1 = .ok (.getfield 12, 3) := by decide +kernel
theorem dX7_chipsUnder_4 : decode cX7_chipsUnder 4 = .ok (.aload_n 1, 1) := by decide +kernel
theorem dX7_chipsUnder_5 : decode cX7_chipsUnder 5 = .ok (.invokevirtual 62, 3) := by decide +kernel
theorem dX7_chipsUnder_8 : decode cX7_chipsUnder 8 = .ok (.invokevirtual 68, 3) := by decide +kernel
theorem dX7_chipsUnder_11 : decode cX7_chipsUnder 11 = .ok (.ireturn, 1) := by decide +kernel
theorem dX7_strewOver_0 : decode cX7_strewOver 0 = .ok (.iconst 0, 1) := by decide +kernel
theorem dX7_strewOver_1 : decode cX7_strewOver 1 = .ok (.istore 5, 2) := by decide +kernel
theorem dX7_strewOver_3 : decode cX7_strewOver 3 = .ok (.iconst 0, 1) := by decide +kernel
theorem dX7_strewOver_4 : decode cX7_strewOver 4 = .ok (.istore 6, 2) := by decide +kernel
theorem dX7_strewOver_6 : decode cX7_strewOver 6 = .ok (.iload 6, 2) := by decide +kernel
theorem dX7_strewOver_8 : decode cX7_strewOver 8 = .ok (.aload_n 0, 1) := by decide +kernel
theorem dX7_strewOver_9 : decode cX7_strewOver 9 = .ok (.getfield 12, 3) := by decide +kernel
theorem dX7_strewOver_12 : decode cX7_strewOver 12 = .ok (.getfield 32, 3) := by decide +kernel
theorem dX7_strewOver_15 : decode cX7_strewOver 15 = .ok (.if_icmp .ge 97, 3) := by decide +kernel
theorem dX7_strewOver_18 : decode cX7_strewOver 18 = .ok (.iconst 0, 1) := by decide +kernel
theorem dX7_strewOver_19 : decode cX7_strewOver 19 = .ok (.istore 7, 2) := by decide +kernel
theorem dX7_strewOver_21 : decode cX7_strewOver 21 = .ok (.iload 7, 2) := by decide +kernel
theorem dX7_strewOver_23 : decode cX7_strewOver 23 = .ok (.aload_n 0, 1) := by decide +kernel
theorem dX7_strewOver_24 : decode cX7_strewOver 24 = .ok (.getfield 12, 3) := by decide +kernel
theorem dX7_strewOver_27 : decode cX7_strewOver 27 = .ok (.getfield 36, 3) := by decide +kernel
theorem dX7_strewOver_30 : decode cX7_strewOver 30 = .ok (.if_icmp .ge 76, 3) := by decide +kernel
theorem dX7_strewOver_33 : decode cX7_strewOver 33 = .ok (.aload_n 0, 1) := by decide +kernel
theorem dX7_strewOver_34 : decode cX7_strewOver 34 = .ok (.getfield 12, 3) := by decide +kernel
theorem dX7_strewOver_37 : decode cX7_strewOver 37 = .ok (.iload 6, 2) := by decide +kernel
theorem dX7_strewOver_39 : decode cX7_strewOver 39 = .ok (.iload 7, 2) := by decide +kernel
theorem dX7_strewOver_41 : decode cX7_strewOver 41 = .ok (.invokevirtual 72, 3) := by decide +kernel
theorem dX7_strewOver_44 : decode cX7_strewOver 44 = .ok (.istore 8, 2) := by decide +kernel
theorem dX7_strewOver_46 : decode cX7_strewOver 46 = .ok (.aload_n 0, 1) := by decide +kernel
theorem dX7_strewOver_47 : decode cX7_strewOver 47 = .ok (.getfield 12, 3) := by decide +kernel
theorem dX7_strewOver_50 : decode cX7_strewOver 50 = .ok (.iload 8, 2) := by decide +kernel
theorem dX7_strewOver_52 : decode cX7_strewOver 52 = .ok (.invokevirtual 68, 3) := by decide +kernel
theorem dX7_strewOver_55 : decode cX7_strewOver 55 = .ok (.istore 9, 2) := by decide +kernel
theorem dX7_strewOver_57 : decode cX7_strewOver 57 = .ok (.iload_n 3, 1) := by decide +kernel
theorem dX7_strewOver_58 : decode cX7_strewOver 58 = .ok (.ifCond .le 42, 3) := by decide +kernel
theorem dX7_strewOver_61 : decode cX7_strewOver 61 = .ok (.iload 6, 2) := by decide +kernel
theorem dX7_strewOver_63 : decode cX7_strewOver 63 = .ok (.iload_n 1, 1) := by decide +kernel
theorem dX7_strewOver_64 : decode cX7_strewOver 64 = .ok (.imul, 1) := by decide +kernel
theorem dX7_strewOver_65 : decode cX7_strewOver 65 = .ok (.iload 7, 2) := by decide +kernel
theorem dX7_strewOver_67 : decode cX7_strewOver 67 = .ok (.iload_n 2, 1) := by decide +kernel
theorem dX7_strewOver_68 : decode cX7_strewOver 68 = .ok (.imul, 1) := by decide +kernel
theorem dX7_strewOver_69 : decode cX7_strewOver 69 = .ok (.iadd, 1) := by decide +kernel
theorem dX7_strewOver_70 : decode cX7_strewOver 70 = .ok (.iload_n 3, 1) := by decide +kernel
theorem dX7_strewOver_71 : decode cX7_strewOver 71 = .ok (.irem, 1) := by decide +kernel
theorem dX7_strewOver_72 : decode cX7_strewOver 72 = .ok (.ifCond .ne 28, 3) := by decide +kernel
theorem dX7_strewOver_75 : decode cX7_strewOver 75 = .ok (.iload 9, 2) := by decide +kernel
theorem dX7_strewOver_77 : decode cX7_strewOver 77 = .ok (.bipush 99, 2) := by decide +kernel
theorem dX7_strewOver_79 : decode cX7_strewOver 79 = .ok (.if_icmp .ge 21, 3) := by decide +kernel
theorem dX7_strewOver_82 : decode cX7_strewOver 82 = .ok (.iinc 5 1, 3) := by decide +kernel
theorem dX7_strewOver_85 : decode cX7_strewOver 85 = .ok (.iload 4, 2) := by decide +kernel
theorem dX7_strewOver_87 : decode cX7_strewOver 87 = .ok (.ifCond .eq 13, 3) := by decide +kernel
theorem dX7_strewOver_90 : decode cX7_strewOver 90 = .ok (.aload_n 0, 1) := by decide +kernel
theorem dX7_strewOver_91 : decode cX7_strewOver 91 = .ok (.iload 8, 2) := by decide +kernel
theorem dX7_strewOver_93 : decode cX7_strewOver 93 = .ok (.iload 9, 2) := by decide +kernel
theorem dX7_strewOver_95 : decode cX7_strewOver 95 = .ok (.iconst 1, 1) := by decide +kernel
theorem dX7_strewOver_96 : decode cX7_strewOver 96 = .ok (.iadd, 1) := by decide +kernel
theorem dX7_strewOver_97 : decode cX7_strewOver 97 = .ok (.invokevirtual 76, 3) := by decide +kernel
theorem dX7_strewOver_100 : decode cX7_strewOver 100 = .ok (.iinc 7 1, 3) := by decide +kernel
theorem dX7_strewOver_103 : decode cX7_strewOver 103 = .ok (.goto (-82), 3) := by decide +kernel
theorem dX7_strewOver_106 : decode cX7_strewOver 106 = .ok (.iinc 6 1, 3) := by decide +kernel
theorem dX7_strewOver_109 : decode cX7_strewOver 109 = .ok (.goto (-103), 3) := by decide +kernel
theorem dX7_strewOver_112 : decode cX7_strewOver 112 = .ok (.iload 5, 2) := by decide +kernel
theorem dX7_strewOver_114 : decode cX7_strewOver 114 = .ok (.ireturn, 1) := by decide +kernel
theorem dX7_pickUp_0 : decode cX7_pickUp 0 = .ok (.aload_n 0, 1) := by decide +kernel
theorem dX7_pickUp_1 : decode cX7_pickUp 1 = .ok (.aload_n 1, 1) := by decide +kernel
theorem dX7_pickUp_2 : decode cX7_pickUp 2 = .ok (.invokevirtual 62, 3) := by decide +kernel
theorem dX7_pickUp_5 : decode cX7_pickUp 5 = .ok (.aload_n 0, 1) := by decide +kernel
theorem dX7_pickUp_6 : decode cX7_pickUp 6 = .ok (.aload_n 1, 1) := by decide +kernel
theorem dX7_pickUp_7 : decode cX7_pickUp 7 = .ok (.invokevirtual 80, 3) := by decide +kernel
theorem dX7_pickUp_10 : decode cX7_pickUp 10 = .ok (.iload_n 2, 1) := by decide +kernel
theorem dX7_pickUp_11 : decode cX7_pickUp 11 = .ok (.isub, 1) := by decide +kernel
theorem dX7_pickUp_12 : decode cX7_pickUp 12 = .ok (.invokevirtual 76, 3) := by decide +kernel
theorem dX7_pickUp_15 : decode cX7_pickUp 15 = .ok (.aload_n 1, 1) := by decide +kernel
theorem dX7_pickUp_16 : decode cX7_pickUp 16 = .ok (.dup, 1) := by decide +kernel
theorem dX7_pickUp_17 : decode cX7_pickUp 17 = .ok (.getfield 84, 3) := by decide +kernel
theorem dX7_pickUp_20 : decode cX7_pickUp 20 = .ok (.iload_n 2, 1) := by decide +kernel
theorem dX7_pickUp_21 : decode cX7_pickUp 21 = .ok (.iadd, 1) := by decide +kernel
theorem dX7_pickUp_22 : decode cX7_pickUp 22 = .ok (.putfield 84, 3) := by decide +kernel
theorem dX7_pickUp_25 : decode cX7_pickUp 25 = .ok (.iload_n 2, 1) := by decide +kernel
theorem dX7_pickUp_26 : decode cX7_pickUp 26 = .ok (.ifCond .le 16, 3) := by decide +kernel
theorem dX7_pickUp_29 : decode cX7_pickUp 29 = .ok (.aload_n 1, 1) := by decide +kernel
theorem dX7_pickUp_30 : decode cX7_pickUp 30 = .ok (.dup, 1) := by decide +kernel
theorem dX7_pickUp_31 : decode cX7_pickUp 31 = .ok (.getfield 87, 3) := by decide +kernel
theorem dX7_pickUp_34 : decode cX7_pickUp 34 = .ok (.iload_n 2, 1) := by decide +kernel
theorem dX7_pickUp_35 : decode cX7_pickUp 35 = .ok (.iadd, 1) := by decide +kernel
theorem dX7_pickUp_36 : decode cX7_pickUp 36 = .ok (.putfield 87, 3) := by decide +kernel
theorem dX7_pickUp_39 : decode cX7_pickUp 39 = .ok (.goto 13, 3) := by decide +kernel
theorem dX7_pickUp_42 : decode cX7_pickUp 42 = .ok (.aload_n 1, 1) := by decide +kernel
theorem dX7_pickUp_43 : decode cX7_pickUp 43 = .ok (.dup, 1) := by decide +kernel
theorem dX7_pickUp_44 : decode cX7_pickUp 44 = .ok (.getfield 90, 3) := by decide +kernel
theorem dX7_pickUp_47 : decode cX7_pickUp 47 = .ok (.iload_n 2, 1) := by decide +kernel
theorem dX7_pickUp_48 : decode cX7_pickUp 48 = .ok (.isub, 1) := by decide +kernel
theorem dX7_pickUp_49 : decode cX7_pickUp 49 = .ok (.putfield 90, 3) := by decide +kernel
theorem dX7_pickUp_52 : decode cX7_pickUp 52 = .ok (.return_, 1) := by decide +kernel
theorem dX7_makeRounds_0 : decode cX7_makeRounds 0 = .ok (.iconst 0, 1) := by decide +kernel
theorem dX7_makeRounds_1 : decode cX7_makeRounds 1 = .ok (.istore_n 2, 1) := by decide +kernel
theorem dX7_makeRounds_2 : decode cX7_makeRounds 2 = .ok (.iload_n 2, 1) := by decide +kernel
theorem dX7_makeRounds_3 : decode cX7_makeRounds 3 = .ok (.iload_n 1, 1) := by decide +kernel
theorem dX7_makeRounds_4 : decode cX7_makeRounds 4 = .ok (.if_icmp .ge 49, 3) := by decide +kernel
theorem dX7_makeRounds_7 : decode cX7_makeRounds 7 = .ok (.iconst 0, 1) := by decide +kernel
theorem dX7_makeRounds_8 : decode cX7_makeRounds 8 = .ok (.istore_n 3, 1) := by decide +kernel
theorem dX7_makeRounds_9 : decode cX7_makeRounds 9 = .ok (.iload_n 3, 1) := by decide +kernel
theorem dX7_makeRounds_10 : decode cX7_makeRounds 10 = .ok (.aload_n 0, 1) := by decide +kernel
theorem dX7_makeRounds_11 : decode cX7_makeRounds 11 = .ok (.getfield 12, 3) := by decide +kernel
theorem dX7_makeRounds_14 : decode cX7_makeRounds 14 = .ok (.getfield 49, 3) := by decide +kernel
theorem dX7_makeRounds_17 : decode cX7_makeRounds 17 = .ok (.if_icmp .ge 30, 3) := by decide +kernel
theorem dX7_makeRounds_20 : decode cX7_makeRounds 20 = .ok (.aload_n 0, 1) := by decide +kernel
theorem dX7_makeRounds_21 : decode cX7_makeRounds 21 = .ok (.getfield 12, 3) := by decide +kernel
theorem dX7_makeRounds_24 : decode cX7_makeRounds 24 = .ok (.iload_n 3, 1) := by decide +kernel
theorem dX7_makeRounds_25 : decode cX7_makeRounds 25 = .ok (.invokevirtual 93, 3) := by decide +kernel
theorem dX7_makeRounds_28 : decode cX7_makeRounds 28 = .ok (.astore 4, 2) := by decide +kernel
theorem dX7_makeRounds_30 : decode cX7_makeRounds 30 = .ok (.aload 4, 2) := by decide +kernel
theorem dX7_makeRounds_32 : decode cX7_makeRounds 32 = .ok (.ifnull 9, 3) := by decide +kernel
theorem dX7_makeRounds_35 : decode cX7_makeRounds 35 = .ok (.aload_n 0, 1) := by decide +kernel
theorem dX7_makeRounds_36 : decode cX7_makeRounds 36 = .ok (.aload 4, 2) := by decide +kernel
theorem dX7_makeRounds_38 : decode cX7_makeRounds 38 = .ok (.invokevirtual 97, 3) := by decide +kernel
theorem dX7_makeRounds_41 : decode cX7_makeRounds 41 = .ok (.iinc 3 1, 3) := by decide +kernel
theorem dX7_makeRounds_44 : decode cX7_makeRounds 44 = .ok (.goto (-35), 3) := by decide +kernel
theorem dX7_makeRounds_47 : decode cX7_makeRounds 47 = .ok (.iinc 2 1, 3) := by decide +kernel
theorem dX7_makeRounds_50 : decode cX7_makeRounds 50 = .ok (.goto (-48), 3) := by decide +kernel
theorem dX7_makeRounds_53 : decode cX7_makeRounds 53 = .ok (.return_, 1) := by decide +kernel
theorem dX7_makeStep_0 : decode cX7_makeStep 0 = .ok (.aload_n 1, 1) := by decide +kernel
theorem dX7_makeStep_1 : decode cX7_makeStep 1 = .ok (.getfield 101, 3) := by decide +kernel
theorem dX7_makeStep_4 : decode cX7_makeStep 4 = .ok (.aload_n 0, 1) := by decide +kernel
theorem dX7_makeStep_5 : decode cX7_makeStep 5 = .ok (.getfield 12, 3) := by decide +kernel
theorem dX7_makeStep_8 : decode cX7_makeStep 8 = .ok (.getfield 104, 3) := by decide +kernel
theorem dX7_makeStep_11 : decode cX7_makeStep 11 = .ok (.invokevirtual 108, 3) := by decide +kernel
theorem dX7_makeStep_14 : decode cX7_makeStep 14 = .ok (.invokestatic 113, 3) := by decide +kernel
theorem dX7_makeStep_17 : decode cX7_makeStep 17 = .ok (.istore_n 2, 1) := by decide +kernel
theorem dX7_makeStep_18 : decode cX7_makeStep 18 = .ok (.iconst 0, 1) := by decide +kernel
theorem dX7_makeStep_19 : decode cX7_makeStep 19 = .ok (.istore_n 3, 1) := by decide +kernel
theorem dX7_makeStep_20 : decode cX7_makeStep 20 = .ok (.iload_n 3, 1) := by decide +kernel
theorem dX7_makeStep_21 : decode cX7_makeStep 21 = .ok (.iconst 3, 1) := by decide +kernel
theorem dX7_makeStep_22 : decode cX7_makeStep 22 = .ok (.if_icmp .ge 24, 3) := by decide +kernel
theorem dX7_makeStep_25 : decode cX7_makeStep 25 = .ok (.aload_n 0, 1) := by decide +kernel
theorem dX7_makeStep_26 : decode cX7_makeStep 26 = .ok (.aload_n 1, 1) := by decide +kernel
theorem dX7_makeStep_27 : decode cX7_makeStep 27 = .ok (.iload_n 2, 1) := by decide +kernel
theorem dX7_makeStep_28 : decode cX7_makeStep 28 = .ok (.invokevirtual 116, 3) := by decide +kernel
theorem dX7_makeStep_31 : decode cX7_makeStep 31 = .ok (.ifCond .eq 15, 3) := by decide +kernel
theorem dX7_makeStep_34 : decode cX7_makeStep 34 = .ok (.iload_n 2, 1) := by decide +kernel
theorem dX7_makeStep_35 : decode cX7_makeStep 35 = .ok (.iconst 1, 1) := by decide +kernel
theorem dX7_makeStep_36 : decode cX7_makeStep 36 = .ok (.invokestatic 120, 3) := by decide +kernel
theorem dX7_makeStep_39 : decode cX7_makeStep 39 = .ok (.istore_n 2, 1) := by decide +kernel
theorem dX7_makeStep_40 : decode cX7_makeStep 40 = .ok (.iinc 3 1, 3) := by decide +kernel
theorem dX7_makeStep_43 : decode cX7_makeStep 43 = .ok (.goto (-23), 3) := by decide +kernel
theorem dX7_makeStep_46 : decode cX7_makeStep 46 = .ok (.aload_n 0, 1) := by decide +kernel
theorem dX7_makeStep_47 : decode cX7_makeStep 47 = .ok (.aload_n 1, 1) := by decide +kernel
theorem dX7_makeStep_48 : decode cX7_makeStep 48 = .ok (.iload_n 2, 1) := by decide +kernel
theorem dX7_makeStep_49 : decode cX7_makeStep 49 = .ok (.invokevirtual 123, 3) := by decide +kernel
theorem dX7_makeStep_52 : decode cX7_makeStep 52 = .ok (.return_, 1) := by decide +kernel
theorem dX7_obey_0 : decode cX7_obey 0 = .ok (.aload_n 0, 1) := by decide +kernel
theorem dX7_obey_1 : decode cX7_obey 1 = .ok (.aload_n 1, 1) := by decide +kernel
theorem dX7_obey_2 : decode cX7_obey 2 = .ok (.invokevirtual 80, 3) := by decide +kernel
theorem dX7_obey_5 : decode cX7_obey 5 = .ok (.istore 4, 2) := by decide +kernel
theorem dX7_obey_7 : decode cX7_obey 7 = .ok (.iload_n 2, 1) := by decide +kernel
theorem dX7_obey_8 : decode cX7_obey 8 = .ok (.bipush 103, 2) := by decide +kernel
theorem dX7_obey_10 : decode cX7_obey 10 = .ok (.if_icmp .ne 29, 3) := by decide +kernel
theorem dX7_obey_13 : decode cX7_obey 13 = .ok (.aload_n 0, 1) := by decide +kernel
theorem dX7_obey_14 : decode cX7_obey 14 = .ok (.aload_n 1, 1) := by decide +kernel
theorem dX7_obey_15 : decode cX7_obey 15 = .ok (.iload_n 3, 1) := by decide +kernel
theorem dX7_obey_16 : decode cX7_obey 16 = .ok (.iload 4, 2) := by decide +kernel
theorem dX7_obey_18 : decode cX7_obey 18 = .ok (.aload_n 1, 1) := by decide +kernel
theorem dX7_obey_19 : decode cX7_obey 19 = .ok (.getfield 127, 3) := by decide +kernel
theorem dX7_obey_22 : decode cX7_obey 22 = .ok (.aload_n 1, 1) := by decide +kernel
theorem dX7_obey_23 : decode cX7_obey 23 = .ok (.getfield 84, 3) := by decide +kernel
theorem dX7_obey_26 : decode cX7_obey 26 = .ok (.isub, 1) := by decide +kernel
theorem dX7_obey_27 : decode cX7_obey 27 = .ok (.invokestatic 130, 3) := by decide +kernel
theorem dX7_obey_30 : decode cX7_obey 30 = .ok (.invokestatic 130, 3) := by decide +kernel
theorem dX7_obey_33 : decode cX7_obey 33 = .ok (.invokevirtual 135, 3) := by decide +kernel
theorem dX7_obey_36 : decode cX7_obey 36 = .ok (.goto 72, 3) := by decide +kernel
theorem dX7_obey_39 : decode cX7_obey 39 = .ok (.iload_n 2, 1) := by decide +kernel
theorem dX7_obey_40 : decode cX7_obey 40 = .ok (.bipush 100, 2) := by decide +kernel
theorem dX7_obey_42 : decode cX7_obey 42 = .ok (.if_icmp .ne 28, 3) := by decide +kernel
theorem dX7_obey_45 : decode cX7_obey 45 = .ok (.aload_n 0, 1) := by decide +kernel
theorem dX7_obey_46 : decode cX7_obey 46 = .ok (.aload_n 1, 1) := by decide +kernel
theorem dX7_obey_47 : decode cX7_obey 47 = .ok (.iload_n 3, 1) := by decide +kernel
theorem dX7_obey_48 : decode cX7_obey 48 = .ok (.aload_n 1, 1) := by decide +kernel
theorem dX7_obey_49 : decode cX7_obey 49 = .ok (.getfield 84, 3) := by decide +kernel
theorem dX7_obey_52 : decode cX7_obey 52 = .ok (.bipush 99, 2) := by decide +kernel
theorem dX7_obey_54 : decode cX7_obey 54 = .ok (.iload 4, 2) := by decide +kernel
theorem dX7_obey_56 : decode cX7_obey 56 = .ok (.isub, 1) := by decide +kernel
theorem dX7_obey_57 : decode cX7_obey 57 = .ok (.invokestatic 130, 3) := by decide +kernel
theorem dX7_obey_60 : decode cX7_obey 60 = .ok (.invokestatic 130, 3) := by decide +kernel
theorem dX7_obey_63 : decode cX7_obey 63 = .ok (.ineg, 1) := by decide +kernel
theorem dX7_obey_64 : decode cX7_obey 64 = .ok (.invokevirtual 135, 3) := by decide +kernel
theorem dX7_obey_67 : decode cX7_obey 67 = .ok (.goto 41, 3) := by decide +kernel
theorem dX7_obey_70 : decode cX7_obey 70 = .ok (.iload_n 2, 1) := by decide +kernel
theorem dX7_obey_71 : decode cX7_obey 71 = .ok (.invokestatic 138, 3) := by decide +kernel
theorem dX7_obey_74 : decode cX7_obey 74 = .ok (.istore 5, 2) := by decide +kernel
theorem dX7_obey_76 : decode cX7_obey 76 = .ok (.iconst 0, 1) := by decide +kernel
theorem dX7_obey_77 : decode cX7_obey 77 = .ok (.istore 6, 2) := by decide +kernel
theorem dX7_obey_79 : decode cX7_obey 79 = .ok (.iload 6, 2) := by decide +kernel
theorem dX7_obey_81 : decode cX7_obey 81 = .ok (.iload_n 3, 1) := by decide +kernel
theorem dX7_obey_82 : decode cX7_obey 82 = .ok (.if_icmp .ge 26, 3) := by decide +kernel
theorem dX7_obey_85 : decode cX7_obey 85 = .ok (.aload_n 0, 1) := by decide +kernel
theorem dX7_obey_86 : decode cX7_obey 86 = .ok (.aload_n 1, 1) := by decide +kernel
theorem dX7_obey_87 : decode cX7_obey 87 = .ok (.iload 5, 2) := by decide +kernel
theorem dX7_obey_89 : decode cX7_obey 89 = .ok (.invokevirtual 116, 3) := by decide +kernel
theorem dX7_obey_92 : decode cX7_obey 92 = .ok (.ifCond .ne 16, 3) := by decide +kernel
theorem dX7_obey_95 : decode cX7_obey 95 = .ok (.aload_n 0, 1) := by decide +kernel
theorem dX7_obey_96 : decode cX7_obey 96 = .ok (.aload_n 1, 1) := by decide +kernel
theorem dX7_obey_97 : decode cX7_obey 97 = .ok (.iload 5, 2) := by decide +kernel
theorem dX7_obey_99 : decode cX7_obey 99 = .ok (.invokevirtual 123, 3) := by decide +kernel
theorem dX7_obey_102 : decode cX7_obey 102 = .ok (.iinc 6 1, 3) := by decide +kernel
theorem dX7_obey_105 : decode cX7_obey 105 = .ok (.goto (-26), 3) := by decide +kernel
theorem dX7_obey_108 : decode cX7_obey 108 = .ok (.return_, 1) := by decide +kernel
theorem dX7_stepAhead_0 : decode cX7_stepAhead 0 = .ok (.aload_n 1, 1) := by decide +kernel
theorem dX7_stepAhead_1 : decode cX7_stepAhead 1 = .ok (.iload_n 2, 1) := by decide +kernel
theorem dX7_stepAhead_2 : decode cX7_stepAhead 2 = .ok (.putfield 101, 3) := by decide +kernel
theorem dX7_stepAhead_5 : decode cX7_stepAhead 5 = .ok (.aload_n 1, 1) := by decide +kernel
theorem dX7_stepAhead_6 : decode cX7_stepAhead 6 = .ok (.aload_n 1, 1) := by decide +kernel
theorem dX7_stepAhead_7 : decode cX7_stepAhead 7 = .ok (.iload_n 2, 1) := by decide +kernel
theorem dX7_stepAhead_8 : decode cX7_stepAhead 8 = .ok (.invokestatic 142, 3) := by decide +kernel
theorem dX7_stepAhead_11 : decode cX7_stepAhead 11 = .ok (.putfield 146, 3) := by decide +kernel
theorem dX7_stepAhead_14 : decode cX7_stepAhead 14 = .ok (.aload_n 1, 1) := by decide +kernel
theorem dX7_stepAhead_15 : decode cX7_stepAhead 15 = .ok (.aload_n 1, 1) := by decide +kernel
theorem dX7_stepAhead_16 : decode cX7_stepAhead 16 = .ok (.iload_n 2, 1) := by decide +kernel
theorem dX7_stepAhead_17 : decode cX7_stepAhead 17 = .ok (.invokestatic 149, 3) := by decide +kernel
theorem dX7_stepAhead_20 : decode cX7_stepAhead 20 = .ok (.putfield 152, 3) := by decide +kernel
theorem dX7_stepAhead_23 : decode cX7_stepAhead 23 = .ok (.aload_n 1, 1) := by decide +kernel
theorem dX7_stepAhead_24 : decode cX7_stepAhead 24 = .ok (.dup, 1) := by decide +kernel
theorem dX7_stepAhead_25 : decode cX7_stepAhead 25 = .ok (.getfield 155, 3) := by decide +kernel
theorem dX7_stepAhead_28 : decode cX7_stepAhead 28 = .ok (.iconst 1, 1) := by decide +kernel
theorem dX7_stepAhead_29 : decode cX7_stepAhead 29 = .ok (.iadd, 1) := by decide +kernel
theorem dX7_stepAhead_30 : decode cX7_stepAhead 30 = .ok (.putfield 155, 3) := by decide +kernel
theorem dX7_stepAhead_33 : decode cX7_stepAhead 33 = .ok (.aload_n 0, 1) := by decide +kernel
theorem dX7_stepAhead_34 : decode cX7_stepAhead 34 = .ok (.getfield 21, 3) := by decide +kernel
theorem dX7_stepAhead_37 : decode cX7_stepAhead 37 = .ok (.aload_n 0, 1) := by decide +kernel
theorem dX7_stepAhead_38 : decode cX7_stepAhead 38 = .ok (.getfield 12, 3) := by decide +kernel
theorem dX7_stepAhead_41 : decode cX7_stepAhead 41 = .ok (.getfield 39, 3) := by decide +kernel
theorem dX7_stepAhead_44 : decode cX7_stepAhead 44 = .ok (.invokevirtual 158, 3) := by decide +kernel
theorem dX7_stepAhead_47 : decode cX7_stepAhead 47 = .ok (.istore_n 3, 1) := by decide +kernel
theorem dX7_stepAhead_48 : decode cX7_stepAhead 48 = .ok (.aload_n 0, 1) := by decide +kernel
theorem dX7_stepAhead_49 : decode cX7_stepAhead 49 = .ok (.aload_n 1, 1) := by decide +kernel
theorem dX7_stepAhead_50 : decode cX7_stepAhead 50 = .ok (.aload_n 0, 1) := by decide +kernel
theorem dX7_stepAhead_51 : decode cX7_stepAhead 51 = .ok (.aload_n 1, 1) := by decide +kernel
theorem dX7_stepAhead_52 : decode cX7_stepAhead 52 = .ok (.invokevirtual 162, 3) := by decide +kernel
theorem dX7_stepAhead_55 : decode cX7_stepAhead 55 = .ok (.invokevirtual 135, 3) := by decide +kernel
theorem dX7_stepAhead_58 : decode cX7_stepAhead 58 = .ok (.aload_n 0, 1) := by decide +kernel
theorem dX7_stepAhead_59 : decode cX7_stepAhead 59 = .ok (.getfield 21, 3) := by decide +kernel
theorem dX7_stepAhead_62 : decode cX7_stepAhead 62 = .ok (.aload_n 0, 1) := by decide +kernel
theorem dX7_stepAhead_63 : decode cX7_stepAhead 63 = .ok (.getfield 12, 3) := by decide +kernel
theorem dX7_stepAhead_66 : decode cX7_stepAhead 66 = .ok (.getfield 39, 3) := by decide +kernel
theorem dX7_stepAhead_69 : decode cX7_stepAhead 69 = .ok (.invokevirtual 158, 3) := by decide +kernel
theorem dX7_stepAhead_72 : decode cX7_stepAhead 72 = .ok (.iload_n 3, 1) := by decide +kernel
theorem dX7_stepAhead_73 : decode cX7_stepAhead 73 = .ok (.isub, 1) := by decide +kernel
theorem dX7_stepAhead_74 : decode cX7_stepAhead 74 = .ok (.istore 4, 2) := by decide +kernel
theorem dX7_stepAhead_76 : decode cX7_stepAhead 76 = .ok (.aload_n 0, 1) := by decide +kernel
theorem dX7_stepAhead_77 : decode cX7_stepAhead 77 = .ok (.getfield 12, 3) := by decide +kernel
theorem dX7_stepAhead_80 : decode cX7_stepAhead 80 = .ok (.dup, 1) := by decide +kernel
theorem dX7_stepAhead_81 : decode cX7_stepAhead 81 = .ok (.getfield 55, 3) := by decide +kernel
theorem dX7_stepAhead_84 : decode cX7_stepAhead 84 = .ok (.iload 4, 2) := by decide +kernel
theorem dX7_stepAhead_86 : decode cX7_stepAhead 86 = .ok (.iconst 0, 1) := by decide +kernel
theorem dX7_stepAhead_87 : decode cX7_stepAhead 87 = .ok (.invokestatic 165, 3) := by decide +kernel
theorem dX7_stepAhead_90 : decode cX7_stepAhead 90 = .ok (.iadd, 1) := by decide +kernel
theorem dX7_stepAhead_91 : decode cX7_stepAhead 91 = .ok (.putfield 55, 3) := by decide +kernel
theorem dX7_stepAhead_94 : decode cX7_stepAhead 94 = .ok (.aload_n 0, 1) := by decide +kernel
theorem dX7_stepAhead_95 : decode cX7_stepAhead 95 = .ok (.getfield 12, 3) := by decide +kernel
theorem dX7_stepAhead_98 : decode cX7_stepAhead 98 = .ok (.dup, 1) := by decide +kernel
theorem dX7_stepAhead_99 : decode cX7_stepAhead 99 = .ok (.getfield 52, 3) := by decide +kernel
theorem dX7_stepAhead_102 : decode cX7_stepAhead 102 = .ok (.iload 4, 2) := by decide +kernel
theorem dX7_stepAhead_104 : decode cX7_stepAhead 104 = .ok (.ineg, 1) := by decide +kernel
theorem dX7_stepAhead_105 : decode cX7_stepAhead 105 = .ok (.iconst 0, 1) := by decide +kernel
theorem dX7_stepAhead_106 : decode cX7_stepAhead 106 = .ok (.invokestatic 165, 3) := by decide +kernel
theorem dX7_stepAhead_109 : decode cX7_stepAhead 109 = .ok (.iadd, 1) := by decide +kernel
theorem dX7_stepAhead_110 : decode cX7_stepAhead 110 = .ok (.putfield 52, 3) := by decide +kernel
theorem dX7_stepAhead_113 : decode cX7_stepAhead 113 = .ok (.return_, 1) := by decide +kernel
theorem dX7_pickedBySort_0 : decode cX7_pickedBySort 0 = .ok (.aload_n 0, 1) := by decide +kernel
theorem dX7_pickedBySort_1 : decode cX7_pickedBySort 1 = .ok (.aload_n 1, 1) := by decide +kernel
theorem dX7_pickedBySort_2 : decode cX7_pickedBySort 2 = .ok (.invokevirtual 80, 3) := by decide +kernel
theorem dX7_pickedBySort_5 : decode cX7_pickedBySort 5 = .ok (.istore_n 2, 1) := by decide +kernel
theorem dX7_pickedBySort_6 : decode cX7_pickedBySort 6 = .ok (.aload_n 1, 1) := by decide +kernel
theorem dX7_pickedBySort_7 : decode cX7_pickedBySort 7 = .ok (.getfield 84, 3) := by decide +kernel
theorem dX7_pickedBySort_10 : decode cX7_pickedBySort 10 = .ok (.istore_n 3, 1) := by decide +kernel
theorem dX7_pickedBySort_11 : decode cX7_pickedBySort 11 = .ok (.aload_n 1, 1) := by decide +kernel
theorem dX7_pickedBySort_12 : decode cX7_pickedBySort 12 = .ok (.getfield 127, 3) := by decide +kernel
theorem dX7_pickedBySort_15 : decode cX7_pickedBySort 15 = .ok (.iload_n 3, 1) := by decide +kernel
theorem dX7_pickedBySort_16 : decode cX7_pickedBySort 16 = .ok (.isub, 1) := by decide +kernel
theorem dX7_pickedBySort_17 : decode cX7_pickedBySort 17 = .ok (.istore 4, 2) := by decide +kernel
theorem dX7_pickedBySort_19 : decode cX7_pickedBySort 19 = .ok (.iload_n 2, 1) := by decide +kernel
theorem dX7_pickedBySort_20 : decode cX7_pickedBySort 20 = .ok (.ifCond .ne 5, 3) := by decide +kernel
theorem dX7_pickedBySort_23 : decode cX7_pickedBySort 23 = .ok (.iconst 0, 1) := by decide +kernel
theorem dX7_pickedBySort_24 : decode cX7_pickedBySort 24 = .ok (.ireturn, 1) := by decide +kernel
theorem dX7_pickedBySort_25 : decode cX7_pickedBySort 25 = .ok (.aload_n 1, 1) := by decide +kernel
theorem dX7_pickedBySort_26 : decode cX7_pickedBySort 26 = .ok (.getfield 168, 3) := by decide +kernel
theorem dX7_pickedBySort_29 : decode cX7_pickedBySort 29 = .ok (.ifCond .ne 21, 3) := by decide +kernel
theorem dX7_pickedBySort_32 : decode cX7_pickedBySort 32 = .ok (.iload_n 3, 1) := by decide +kernel
theorem dX7_pickedBySort_33 : decode cX7_pickedBySort 33 = .ok (.ifCond .ne 7, 3) := by decide +kernel
theorem dX7_pickedBySort_36 : decode cX7_pickedBySort 36 = .ok (.iconst 1, 1) := by decide +kernel
theorem dX7_pickedBySort_37 : decode cX7_pickedBySort 37 = .ok (.goto 12, 3) := by decide +kernel
theorem dX7_pickedBySort_40 : decode cX7_pickedBySort 40 = .ok (.iconst 1, 1) := by decide +kernel
theorem dX7_pickedBySort_41 : decode cX7_pickedBySort 41 = .ok (.bipush 99, 2) := by decide +kernel
theorem dX7_pickedBySort_43 : decode cX7_pickedBySort 43 = .ok (.iload_n 2, 1) := by decide +kernel
theorem dX7_pickedBySort_44 : decode cX7_pickedBySort 44 = .ok (.isub, 1) := by decide +kernel
theorem dX7_pickedBySort_45 : decode cX7_pickedBySort 45 = .ok (.invokestatic 130, 3) := by decide +kernel
theorem dX7_pickedBySort_48 : decode cX7_pickedBySort 48 = .ok (.ineg, 1) := by decide +kernel
theorem dX7_pickedBySort_49 : decode cX7_pickedBySort 49 = .ok (.ireturn, 1) := by decide +kernel
theorem dX7_pickedBySort_50 : decode cX7_pickedBySort 50 = .ok (.aload_n 1, 1) := by decide +kernel
theorem dX7_pickedBySort_51 : decode cX7_pickedBySort 51 = .ok (.getfield 168, 3) := by decide +kernel
theorem dX7_pickedBySort_54 : decode cX7_pickedBySort 54 = .ok (.iconst 1, 1) := by decide +kernel
theorem dX7_pickedBySort_55 : decode cX7_pickedBySort 55 = .ok (.if_icmp .ne 27, 3) := by decide +kernel
theorem dX7_pickedBySort_58 : decode cX7_pickedBySort 58 = .ok (.iload_n 2, 1) := by decide +kernel
theorem dX7_pickedBySort_59 : decode cX7_pickedBySort 59 = .ok (.iconst 2, 1) := by decide +kernel
theorem dX7_pickedBySort_60 : decode cX7_pickedBySort 60 = .ok (.if_icmp .gt 12, 3) := by decide +kernel
theorem dX7_pickedBySort_63 : decode cX7_pickedBySort 63 = .ok (.iload_n 2, 1) := by decide +kernel
theorem dX7_pickedBySort_64 : decode cX7_pickedBySort 64 = .ok (.iload 4, 2) := by decide +kernel
theorem dX7_pickedBySort_66 : decode cX7_pickedBySort 66 = .ok (.invokestatic 130, 3) := by decide +kernel
theorem dX7_pickedBySort_69 : decode cX7_pickedBySort 69 = .ok (.goto 12, 3) := by decide +kernel
theorem dX7_pickedBySort_72 : decode cX7_pickedBySort 72 = .ok (.iload_n 3, 1) := by decide +kernel
theorem dX7_pickedBySort_73 : decode cX7_pickedBySort 73 = .ok (.bipush 99, 2) := by decide +kernel
theorem dX7_pickedBySort_75 : decode cX7_pickedBySort 75 = .ok (.iload_n 2, 1) := by decide +kernel
theorem dX7_pickedBySort_76 : decode cX7_pickedBySort 76 = .ok (.isub, 1) := by decide +kernel
theorem dX7_pickedBySort_77 : decode cX7_pickedBySort 77 = .ok (.invokestatic 130, 3) := by decide +kernel
theorem dX7_pickedBySort_80 : decode cX7_pickedBySort 80 = .ok (.ineg, 1) := by decide +kernel
theorem dX7_pickedBySort_81 : decode cX7_pickedBySort 81 = .ok (.ireturn, 1) := by decide +kernel
theorem dX7_pickedBySort_82 : decode cX7_pickedBySort 82 = .ok (.aload_n 0, 1) := by decide +kernel
theorem dX7_pickedBySort_83 : decode cX7_pickedBySort 83 = .ok (.getfield 21, 3) := by decide +kernel
theorem dX7_pickedBySort_86 : decode cX7_pickedBySort 86 = .ok (.aload_n 1, 1) := by decide +kernel
theorem dX7_pickedBySort_87 : decode cX7_pickedBySort 87 = .ok (.invokevirtual 62, 3) := by decide +kernel
theorem dX7_pickedBySort_90 : decode cX7_pickedBySort 90 = .ok (.invokevirtual 171, 3) := by decide +kernel
theorem dX7_pickedBySort_93 : decode cX7_pickedBySort 93 = .ok (.istore 5, 2) := by decide +kernel
theorem dX7_pickedBySort_95 : decode cX7_pickedBySort 95 = .ok (.iload 4, 2) := by decide +kernel
theorem dX7_pickedBySort_97 : decode cX7_pickedBySort 97 = .ok (.ifCond .le 17, 3) := by decide +kernel
theorem dX7_pickedBySort_100 : decode cX7_pickedBySort 100 = .ok (.aload_n 0, 1) := by decide +kernel
theorem dX7_pickedBySort_101 : decode cX7_pickedBySort 101 = .ok (.getfield 21, 3) := by decide +kernel
theorem dX7_pickedBySort_104 : decode cX7_pickedBySort 104 = .ok (.iload 5, 2) := by decide +kernel
theorem dX7_pickedBySort_106 : decode cX7_pickedBySort 106 = .ok (.invokevirtual 174, 3) := by decide +kernel
theorem dX7_pickedBySort_109 : decode cX7_pickedBySort 109 = .ok (.ifCond .ne 5, 3) := by decide +kernel
theorem dX7_pickedBySort_112 : decode cX7_pickedBySort 112 = .ok (.iconst 1, 1) := by decide +kernel
theorem dX7_pickedBySort_113 : decode cX7_pickedBySort 113 = .ok (.ireturn, 1) := by decide +kernel
theorem dX7_pickedBySort_114 : decode cX7_pickedBySort 114 = .ok (.iconst 1, 1) := by decide +kernel
theorem dX7_pickedBySort_115 : decode cX7_pickedBySort 115 = .ok (.iload_n 3, 1) := by decide +kernel
theorem dX7_pickedBySort_116 : decode cX7_pickedBySort 116 = .ok (.invokestatic 130, 3) := by decide +kernel
theorem dX7_pickedBySort_119 : decode cX7_pickedBySort 119 = .ok (.bipush 99, 2) := by decide +kernel
theorem dX7_pickedBySort_121 : decode cX7_pickedBySort 121 = .ok (.iload_n 2, 1) := by decide +kernel
theorem dX7_pickedBySort_122 : decode cX7_pickedBySort 122 = .ok (.isub, 1) := by decide +kernel
theorem dX7_pickedBySort_123 : decode cX7_pickedBySort 123 = .ok (.invokestatic 130, 3) := by decide +kernel
theorem dX7_pickedBySort_126 : decode cX7_pickedBySort 126 = .ok (.ineg, 1) := by decide +kernel
theorem dX7_pickedBySort_127 : decode cX7_pickedBySort 127 = .ok (.ireturn, 1) := by decide +kernel
theorem dX7_hasWall_0 : decode cX7_hasWall 0 = .ok (.aload_n 0, 1) := by decide +kernel
theorem dX7_hasWall_1 : decode cX7_hasWall 1 = .ok (.getfield 12, 3) := by decide +kernel
theorem dX7_hasWall_4 : decode cX7_hasWall 4 = .ok (.aload_n 1, 1) := by decide +kernel
theorem dX7_hasWall_5 : decode cX7_hasWall 5 = .ok (.iload_n 2, 1) := by decide +kernel
theorem dX7_hasWall_6 : decode cX7_hasWall 6 = .ok (.invokestatic 142, 3) := by decide +kernel
theorem dX7_hasWall_9 : decode cX7_hasWall 9 = .ok (.aload_n 1, 1) := by decide +kernel
theorem dX7_hasWall_10 : decode cX7_hasWall 10 = .ok (.iload_n 2, 1) := by decide +kernel
theorem dX7_hasWall_11 : decode cX7_hasWall 11 = .ok (.invokestatic 149, 3) := by decide +kernel
theorem dX7_hasWall_14 : decode cX7_hasWall 14 = .ok (.invokevirtual 178, 3) := by decide +kernel
theorem dX7_hasWall_17 : decode cX7_hasWall 17 = .ok (.ifCond .ne 7, 3) := by decide +kernel
theorem dX7_hasWall_20 : decode cX7_hasWall 20 = .ok (.iconst 1, 1) := by decide +kernel
theorem dX7_hasWall_21 : decode cX7_hasWall 21 = .ok (.goto 4, 3) := by decide +kernel
theorem dX7_hasWall_24 : decode cX7_hasWall 24 = .ok (.iconst 0, 1) := by decide +kernel
theorem dX7_hasWall_25 : decode cX7_hasWall 25 = .ok (.ireturn, 1) := by decide +kernel
theorem dX7_rowAhead_0 : decode cX7_rowAhead 0 = .ok (.iload_n 1, 1) := by decide +kernel
theorem dX7_rowAhead_1 : decode cX7_rowAhead 1 = .ok (.ifCond .ne 10, 3) := by decide +kernel
theorem dX7_rowAhead_4 : decode cX7_rowAhead 4 = .ok (.aload_n 0, 1) := by decide +kernel
theorem dX7_rowAhead_5 : decode cX7_rowAhead 5 = .ok (.getfield 146, 3) := by decide +kernel
theorem dX7_rowAhead_8 : decode cX7_rowAhead 8 = .ok (.iconst 1, 1) := by decide +kernel
theorem dX7_rowAhead_9 : decode cX7_rowAhead 9 = .ok (.isub, 1) := by decide +kernel
theorem dX7_rowAhead_10 : decode cX7_rowAhead 10 = .ok (.ireturn, 1) := by decide +kernel
theorem dX7_rowAhead_11 : decode cX7_rowAhead 11 = .ok (.iload_n 1, 1) := by decide +kernel
theorem dX7_rowAhead_12 : decode cX7_rowAhead 12 = .ok (.iconst 2, 1) := by decide +kernel
theorem dX7_rowAhead_13 : decode cX7_rowAhead 13 = .ok (.if_icmp .ne 12, 3) := by decide +kernel
theorem dX7_rowAhead_16 : decode cX7_rowAhead 16 = .ok (.aload_n 0, 1) := by decide +kernel
theorem dX7_rowAhead_17 : decode cX7_rowAhead 17 = .ok (.getfield 146, 3) := by decide +kernel
theorem dX7_rowAhead_20 : decode cX7_rowAhead 20 = .ok (.iconst 1, 1) := by decide +kernel
theorem dX7_rowAhead_21 : decode cX7_rowAhead 21 = .ok (.iadd, 1) := by decide +kernel
theorem dX7_rowAhead_22 : decode cX7_rowAhead 22 = .ok (.goto 7, 3) := by decide +kernel
theorem dX7_rowAhead_25 : decode cX7_rowAhead 25 = .ok (.aload_n 0, 1) := by decide +kernel
theorem dX7_rowAhead_26 : decode cX7_rowAhead 26 = .ok (.getfield 146, 3) := by decide +kernel
theorem dX7_rowAhead_29 : decode cX7_rowAhead 29 = .ok (.ireturn, 1) := by decide +kernel
theorem dX7_columnAhead_0 : decode cX7_columnAhead 0 = .ok (.iload_n 1, 1) := by decide +kernel
theorem dX7_columnAhead_1 : decode cX7_columnAhead 1 = .ok (.iconst 1, 1) := by decide +kernel
theorem dX7_columnAhead_2 : decode cX7_columnAhead 2 = .ok (.if_icmp .ne 10, 3) := by decide +kernel
theorem dX7_columnAhead_5 : decode cX7_columnAhead 5 = .ok (.aload_n 0, 1) := by decide +kernel
theorem dX7_columnAhead_6 : decode cX7_columnAhead 6 = .ok (.getfield 152, 3) := by decide +kernel
theorem dX7_columnAhead_9 : decode cX7_columnAhead 9 = .ok (.iconst 1, 1) := by decide +kernel
theorem dX7_columnAhead_10 : decode cX7_columnAhead 10 = .ok (.iadd, 1) := by decide +kernel
theorem dX7_columnAhead_11 : decode cX7_columnAhead 11 = .ok (.ireturn, 1) := by decide +kernel
theorem dX7_columnAhead_12 : decode cX7_columnAhead 12 = .ok (.iload_n 1, 1) := by decide +kernel
theorem dX7_columnAhead_13 : decode cX7_columnAhead 13 = .ok (.iconst 3, 1) := by decide +kernel
theorem dX7_columnAhead_14 : decode cX7_columnAhead 14 = .ok (.if_icmp .ne 12, 3) := by decide +kernel
theorem dX7_columnAhead_17 : decode cX7_columnAhead 17 = .ok (.aload_n 0, 1) := by decide +kernel
theorem dX7_columnAhead_18 : decode cX7_columnAhead 18 = .ok (.getfield 152, 3) := by decide +kernel
theorem dX7_columnAhead_21 : decode cX7_columnAhead 21 = .ok (.iconst 1, 1) := by decide +kernel
theorem dX7_columnAhead_22 : decode cX7_columnAhead 22 = .ok (.isub, 1) := by decide +kernel
theorem dX7_columnAhead_23 : decode cX7_columnAhead 23 = .ok (.goto 7, 3) := by decide +kernel
theorem dX7_columnAhead_26 : decode cX7_columnAhead 26 = .ok (.aload_n 0, 1) := by decide +kernel
theorem dX7_columnAhead_27 : decode cX7_columnAhead 27 = .ok (.getfield 152, 3) := by decide +kernel
theorem dX7_columnAhead_30 : decode cX7_columnAhead 30 = .ok (.ireturn, 1) := by decide +kernel
theorem dX7_toTheRight_0 : decode cX7_toTheRight 0 = .ok (.iload_n 0, 1) := by decide +kernel
theorem dX7_toTheRight_1 : decode cX7_toTheRight 1 = .ok (.iload_n 1, 1) := by decide +kernel
theorem dX7_toTheRight_2 : decode cX7_toTheRight 2 = .ok (.iadd, 1) := by decide +kernel
theorem dX7_toTheRight_3 : decode cX7_toTheRight 3 = .ok (.iconst 4, 1) := by decide +kernel
theorem dX7_toTheRight_4 : decode cX7_toTheRight 4 = .ok (.irem, 1) := by decide +kernel
theorem dX7_toTheRight_5 : decode cX7_toTheRight 5 = .ok (.ireturn, 1) := by decide +kernel
theorem dX7_turned_0 : decode cX7_turned 0 = .ok (.iload_n 1, 1) := by decide +kernel
theorem dX7_turned_1 : decode cX7_turned 1 = .ok (.tableswitch 53 5 9 #[35, 35, 41, 41, 47], 35) := by decide +kernel
theorem dX7_turned_36 : decode cX7_turned 36 = .ok (.iload_n 0, 1) := by decide +kernel
theorem dX7_turned_37 : decode cX7_turned 37 = .ok (.iconst 1, 1) := by decide +kernel
theorem dX7_turned_38 : decode cX7_turned 38 = .ok (.invokestatic 120, 3) := by decide +kernel
theorem dX7_turned_41 : decode cX7_turned 41 = .ok (.ireturn, 1) := by decide +kernel
theorem dX7_turned_42 : decode cX7_turned 42 = .ok (.iload_n 0, 1) := by decide +kernel
theorem dX7_turned_43 : decode cX7_turned 43 = .ok (.iconst 3, 1) := by decide +kernel
theorem dX7_turned_44 : decode cX7_turned 44 = .ok (.invokestatic 120, 3) := by decide +kernel
theorem dX7_turned_47 : decode cX7_turned 47 = .ok (.ireturn, 1) := by decide +kernel
theorem dX7_turned_48 : decode cX7_turned 48 = .ok (.iload_n 0, 1) := by decide +kernel
theorem dX7_turned_49 : decode cX7_turned 49 = .ok (.iconst 2, 1) := by decide +kernel
theorem dX7_turned_50 : decode cX7_turned 50 = .ok (.invokestatic 120, 3) := by decide +kernel
theorem dX7_turned_53 : decode cX7_turned 53 = .ok (.ireturn, 1) := by decide +kernel
theorem dX7_turned_54 : decode cX7_turned 54 = .ok (.iload_n 0, 1) := by decide +kernel
theorem dX7_turned_55 : decode cX7_turned 55 = .ok (.ireturn, 1) := by decide +kernel
theorem dX7_directionOf_0 : decode cX7_directionOf 0 = .ok (.iload_n 0, 1) := by decide +kernel
theorem dX7_directionOf_1 : decode cX7_directionOf 1 = .ok (.bipush 110, 2) := by decide +kernel
theorem dX7_directionOf_3 : decode cX7_directionOf 3 = .ok (.if_icmp .ne 5, 3) := by decide +kernel
theorem dX7_directionOf_6 : decode cX7_directionOf 6 = .ok (.iconst 0, 1) := by decide +kernel
theorem dX7_directionOf_7 : decode cX7_directionOf 7 = .ok (.ireturn, 1) := by decide +kernel
theorem dX7_directionOf_8 : decode cX7_directionOf 8 = .ok (.iload_n 0, 1) := by decide +kernel
theorem dX7_directionOf_9 : decode cX7_directionOf 9 = .ok (.bipush 101, 2) := by decide +kernel
theorem dX7_directionOf_11 : decode cX7_directionOf 11 = .ok (.if_icmp .ne 5, 3) := by decide +kernel
theorem dX7_directionOf_14 : decode cX7_directionOf 14 = .ok (.iconst 1, 1) := by decide +kernel
theorem dX7_directionOf_15 : decode cX7_directionOf 15 = .ok (.ireturn, 1) := by decide +kernel
theorem dX7_directionOf_16 : decode cX7_directionOf 16 = .ok (.iload_n 0, 1) := by decide +kernel
theorem dX7_directionOf_17 : decode cX7_directionOf 17 = .ok (.bipush 115, 2) := by decide +kernel
theorem dX7_directionOf_19 : decode cX7_directionOf 19 = .ok (.if_icmp .ne 7, 3) := by decide +kernel
theorem dX7_directionOf_22 : decode cX7_directionOf 22 = .ok (.iconst 2, 1) := by decide +kernel
theorem dX7_directionOf_23 : decode cX7_directionOf 23 = .ok (.goto 4, 3) := by decide +kernel
theorem dX7_directionOf_26 : decode cX7_directionOf 26 = .ok (.iconst 3, 1) := by decide +kernel
theorem dX7_directionOf_27 : decode cX7_directionOf 27 = .ok (.ireturn, 1) := by decide +kernel
theorem dX8_init_0 : decode cX8_init 0 = .ok (.aload_n 0, 1) := by decide +kernel
theorem dX8_init_1 : decode cX8_init 1 = .ok (.invokespecial 1, 3) := by decide +kernel
theorem dX8_init_4 : decode cX8_init 4 = .ok (.aload_n 0, 1) := by decide +kernel
theorem dX8_init_5 : decode cX8_init 5 = .ok (.new 7, 3) := by decide +kernel
theorem dX8_init_8 : decode cX8_init 8 = .ok (.dup, 1) := by decide +kernel
theorem dX8_init_9 : decode cX8_init 9 = .ok (.invokespecial 9, 3) := by decide +kernel
theorem dX8_init_12 : decode cX8_init 12 = .ok (.putfield 10, 3) := by decide +kernel
theorem dX8_init_15 : decode cX8_init 15 = .ok (.aload_n 0, 1) := by decide +kernel
theorem dX8_init_16 : decode cX8_init 16 = .ok (.new 16, 3) := by decide +kernel
theorem dX8_init_19 : decode cX8_init 19 = .ok (.dup, 1) := by decide +kernel
theorem dX8_init_20 : decode cX8_init 20 = .ok (.invokespecial 18, 3) := by decide +kernel
theorem dX8_init_23 : decode cX8_init 23 = .ok (.putfield 19, 3) := by decide +kernel
theorem dX8_init_26 : decode cX8_init 26 = .ok (.aload_n 0, 1) := by decide +kernel
theorem dX8_init_27 : decode cX8_init 27 = .ok (.new 23, 3) := by decide +kernel
theorem dX8_init_30 : decode cX8_init 30 = .ok (.dup, 1) := by decide +kernel
theorem dX8_init_31 : decode cX8_init 31 = .ok (.invokespecial 25, 3) := by decide +kernel
theorem dX8_init_34 : decode cX8_init 34 = .ok (.putfield 26, 3) := by decide +kernel
theorem dX8_init_37 : decode cX8_init 37 = .ok (.aload_n 0, 1) := by decide +kernel
theorem dX8_init_38 : decode cX8_init 38 = .ok (.iconst 2, 1) := by decide +kernel
theorem dX8_init_39 : decode cX8_init 39 = .ok (.anewarray 30, 3) := by decide +kernel
theorem dX8_init_42 : decode cX8_init 42 = .ok (.putfield 32, 3) := by decide +kernel
theorem dX8_init_45 : decode cX8_init 45 = .ok (.iconst 0, 1) := by decide +kernel
theorem dX8_init_46 : decode cX8_init 46 = .ok (.istore_n 1, 1) := by decide +kernel
theorem dX8_init_47 : decode cX8_init 47 = .ok (.iload_n 1, 1) := by decide +kernel
theorem dX8_init_48 : decode cX8_init 48 = .ok (.iconst 2, 1) := by decide +kernel
theorem dX8_init_49 : decode cX8_init 49 = .ok (.if_icmp .ge 22, 3) := by decide +kernel
theorem dX8_init_52 : decode cX8_init 52 = .ok (.aload_n 0, 1) := by decide +kernel
theorem dX8_init_53 : decode cX8_init 53 = .ok (.getfield 32, 3) := by decide +kernel
theorem dX8_init_56 : decode cX8_init 56 = .ok (.iload_n 1, 1) := by decide +kernel
theorem dX8_init_57 : decode cX8_init 57 = .ok (.new 30, 3) := by decide +kernel
theorem dX8_init_60 : decode cX8_init 60 = .ok (.dup, 1) := by decide +kernel
theorem dX8_init_61 : decode cX8_init 61 = .ok (.invokespecial 36, 3) := by decide +kernel
theorem dX8_init_64 : decode cX8_init 64 = .ok (.aastore, 1) := by decide +kernel
theorem dX8_init_65 : decode cX8_init 65 = .ok (.iinc 1 1, 3) := by decide +kernel
theorem dX8_init_68 : decode cX8_init 68 = .ok (.goto (-21), 3) := by decide +kernel
theorem dX8_init_71 : decode cX8_init 71 = .ok (.aload_n 0, 1) := by decide +kernel
theorem dX8_init_72 : decode cX8_init 72 = .ok (.new 37, 3) := by decide +kernel
theorem dX8_init_75 : decode cX8_init 75 = .ok (.dup, 1) := by decide +kernel
theorem dX8_init_76 : decode cX8_init 76 = .ok (.invokespecial 39, 3) := by decide +kernel
theorem dX8_init_79 : decode cX8_init 79 = .ok (.putfield 40, 3) := by decide +kernel
theorem dX8_init_82 : decode cX8_init 82 = .ok (.return_, 1) := by decide +kernel
theorem dX8_reset_0 : decode cX8_reset 0 = .ok (.iload_n 1, 1) := by decide +kernel
theorem dX8_reset_1 : decode cX8_reset 1 = .ok (.iconst 2, 1) := by decide +kernel
theorem dX8_reset_2 : decode cX8_reset 2 = .ok (.bipush 16, 2) := by decide +kernel
theorem dX8_reset_4 : decode cX8_reset 4 = .ok (.invokestatic 44, 3) := by decide +kernel
theorem dX8_reset_7 : decode cX8_reset 7 = .ok (.ifCond .eq 13, 3) := by decide +kernel
theorem dX8_reset_10 : decode cX8_reset 10 = .ok (.iload_n 2, 1) := by decide +kernel
theorem dX8_reset_11 : decode cX8_reset 11 = .ok (.iconst 2, 1) := by decide +kernel
theorem dX8_reset_12 : decode cX8_reset 12 = .ok (.bipush 16, 2) := by decide +kernel
theorem dX8_reset_14 : decode cX8_reset 14 = .ok (.invokestatic 44, 3) := by decide +kernel
theorem dX8_reset_17 : decode cX8_reset 17 = .ok (.ifCond .ne 6, 3) := by decide +kernel
theorem dX8_reset_20 : decode cX8_reset 20 = .ok (.bipush (-2), 2) := by decide +kernel
theorem dX8_reset_22 : decode cX8_reset 22 = .ok (.ireturn, 1) := by decide +kernel
theorem dX8_reset_23 : decode cX8_reset 23 = .ok (.aload_n 0, 1) := by decide +kernel
theorem dX8_reset_24 : decode cX8_reset 24 = .ok (.getfield 19, 3) := by decide +kernel
theorem dX8_reset_27 : decode cX8_reset 27 = .ok (.aload_n 0, 1) := by decide +kernel
theorem dX8_reset_28 : decode cX8_reset 28 = .ok (.getfield 10, 3) := by decide +kernel
theorem dX8_reset_31 : decode cX8_reset 31 = .ok (.getfield 48, 3) := by decide +kernel
theorem dX8_reset_34 : decode cX8_reset 34 = .ok (.invokevirtual 51, 3) := by decide +kernel
theorem dX8_reset_37 : decode cX8_reset 37 = .ok (.aload_n 0, 1) := by decide +kernel
theorem dX8_reset_38 : decode cX8_reset 38 = .ok (.getfield 10, 3) := by decide +kernel
theorem dX8_reset_41 : decode cX8_reset 41 = .ok (.iload_n 1, 1) := by decide +kernel
theorem dX8_reset_42 : decode cX8_reset 42 = .ok (.iload_n 2, 1) := by decide +kernel
theorem dX8_reset_43 : decode cX8_reset 43 = .ok (.invokevirtual 55, 3) := by decide +kernel
theorem dX8_reset_46 : decode cX8_reset 46 = .ok (.iload_n 1, 1) := by decide +kernel
theorem dX8_reset_47 : decode cX8_reset 47 = .ok (.iload_n 2, 1) := by decide +kernel
theorem dX8_reset_48 : decode cX8_reset 48 = .ok (.imul, 1) := by decide +kernel
theorem dX8_reset_49 : decode cX8_reset 49 = .ok (.ireturn, 1) := by decide +kernel
theorem dX8_put_0 : decode cX8_put 0 = .ok (.aload_n 0, 1) := by decide +kernel
theorem dX8_put_1 : decode cX8_put 1 = .ok (.getfield 10, 3) := by decide +kernel
theorem dX8_put_4 : decode cX8_put 4 = .ok (.getfield 48, 3) := by decide +kernel
theorem dX8_put_7 : decode cX8_put 7 = .ok (.iload_n 1, 1) := by decide +kernel
theorem dX8_put_8 : decode cX8_put 8 = .ok (.iload_n 2, 1) := by decide +kernel
theorem dX8_put_9 : decode cX8_put 9 = .ok (.invokevirtual 59, 3) := by decide +kernel
theorem dX8_put_12 : decode cX8_put 12 = .ok (.istore 4, 2) := by decide +kernel
theorem dX8_put_14 : decode cX8_put 14 = .ok (.iload 4, 2) := by decide +kernel
theorem dX8_put_16 : decode cX8_put 16 = .ok (.ifCond .ge 5, 3) := by decide +kernel
theorem dX8_put_19 : decode cX8_put 19 = .ok (.iconst (-1), 1) := by decide +kernel
theorem dX8_put_20 : decode cX8_put 20 = .ok (.ireturn, 1) := by decide +kernel
theorem dX8_put_21 : decode cX8_put 21 = .ok (.iload_n 3, 1) := by decide +kernel
theorem dX8_put_22 : decode cX8_put 22 = .ok (.iconst 0, 1) := by decide +kernel
theorem dX8_put_23 : decode cX8_put 23 = .ok (.bipush 99, 2) := by decide +kernel
theorem dX8_put_25 : decode cX8_put 25 = .ok (.invokestatic 44, 3) := by decide +kernel
theorem dX8_put_28 : decode cX8_put 28 = .ok (.ifCond .ne 6, 3) := by decide +kernel
theorem dX8_put_31 : decode cX8_put 31 = .ok (.bipush (-2), 2) := by decide +kernel
theorem dX8_put_33 : decode cX8_put 33 = .ok (.ireturn, 1) := by decide +kernel
theorem dX8_put_34 : decode cX8_put 34 = .ok (.aload_n 0, 1) := by decide +kernel
theorem dX8_put_35 : decode cX8_put 35 = .ok (.getfield 10, 3) := by decide +kernel
theorem dX8_put_38 : decode cX8_put 38 = .ok (.getfield 48, 3) := by decide +kernel
theorem dX8_put_41 : decode cX8_put 41 = .ok (.iload 4, 2) := by decide +kernel
theorem dX8_put_43 : decode cX8_put 43 = .ok (.invokevirtual 63, 3) := by decide +kernel
theorem dX8_put_46 : decode cX8_put 46 = .ok (.istore 5, 2) := by decide +kernel
theorem dX8_put_48 : decode cX8_put 48 = .ok (.aload_n 0, 1) := by decide +kernel
theorem dX8_put_49 : decode cX8_put 49 = .ok (.getfield 19, 3) := by decide +kernel
theorem dX8_put_52 : decode cX8_put 52 = .ok (.aload_n 0, 1) := by decide +kernel
theorem dX8_put_53 : decode cX8_put 53 = .ok (.getfield 10, 3) := by decide +kernel
theorem dX8_put_56 : decode cX8_put 56 = .ok (.getfield 48, 3) := by decide +kernel
theorem dX8_put_59 : decode cX8_put 59 = .ok (.invokevirtual 51, 3) := by decide +kernel
theorem dX8_put_62 : decode cX8_put 62 = .ok (.aload_n 0, 1) := by decide +kernel
theorem dX8_put_63 : decode cX8_put 63 = .ok (.getfield 10, 3) := by decide +kernel
theorem dX8_put_66 : decode cX8_put 66 = .ok (.iload 4, 2) := by decide +kernel
theorem dX8_put_68 : decode cX8_put 68 = .ok (.iload_n 3, 1) := by decide +kernel
theorem dX8_put_69 : decode cX8_put 69 = .ok (.invokevirtual 67, 3) := by decide +kernel
theorem dX8_put_72 : decode cX8_put 72 = .ok (.iload 5, 2) := by decide +kernel
theorem dX8_put_74 : decode cX8_put 74 = .ok (.ireturn, 1) := by decide +kernel
theorem dX8_strew_0 : decode cX8_strew 0 = .ok (.iload_n 1, 1) := by decide +kernel
theorem dX8_strew_1 : decode cX8_strew 1 = .ok (.iconst 0, 1) := by decide +kernel
theorem dX8_strew_2 : decode cX8_strew 2 = .ok (.bipush 9, 2) := by decide +kernel
theorem dX8_strew_4 : decode cX8_strew 4 = .ok (.invokestatic 44, 3) := by decide +kernel
theorem dX8_strew_7 : decode cX8_strew 7 = .ok (.ifCond .eq 23, 3) := by decide +kernel
theorem dX8_strew_10 : decode cX8_strew 10 = .ok (.iload_n 2, 1) := by decide +kernel
theorem dX8_strew_11 : decode cX8_strew 11 = .ok (.iconst 0, 1) := by decide +kernel
theorem dX8_strew_12 : decode cX8_strew 12 = .ok (.bipush 9, 2) := by decide +kernel
theorem dX8_strew_14 : decode cX8_strew 14 = .ok (.invokestatic 44, 3) := by decide +kernel
theorem dX8_strew_17 : decode cX8_strew 17 = .ok (.ifCond .eq 13, 3) := by decide +kernel
theorem dX8_strew_20 : decode cX8_strew 20 = .ok (.iload_n 3, 1) := by decide +kernel
theorem dX8_strew_21 : decode cX8_strew 21 = .ok (.iconst 1, 1) := by decide +kernel
theorem dX8_strew_22 : decode cX8_strew 22 = .ok (.bipush 20, 2) := by decide +kernel
theorem dX8_strew_24 : decode cX8_strew 24 = .ok (.invokestatic 44, 3) := by decide +kernel
theorem dX8_strew_27 : decode cX8_strew 27 = .ok (.ifCond .ne 6, 3) := by decide +kernel
theorem dX8_strew_30 : decode cX8_strew 30 = .ok (.bipush (-2), 2) := by decide +kernel
theorem dX8_strew_32 : decode cX8_strew 32 = .ok (.ireturn, 1) := by decide +kernel
theorem dX8_strew_33 : decode cX8_strew 33 = .ok (.aload_n 0, 1) := by decide +kernel
theorem dX8_strew_34 : decode cX8_strew 34 = .ok (.getfield 10, 3) := by decide +kernel
theorem dX8_strew_37 : decode cX8_strew 37 = .ok (.iload_n 1, 1) := by decide +kernel
theorem dX8_strew_38 : decode cX8_strew 38 = .ok (.iload_n 2, 1) := by decide +kernel
theorem dX8_strew_39 : decode cX8_strew 39 = .ok (.iload_n 3, 1) := by decide +kernel
theorem dX8_strew_40 : decode cX8_strew 40 = .ok (.iconst 0, 1) := by decide +kernel
theorem dX8_strew_41 : decode cX8_strew 41 = .ok (.invokevirtual 70, 3) := by decide +kernel
theorem dX8_strew_44 : decode cX8_strew 44 = .ok (.istore 4, 2) := by decide +kernel
theorem dX8_strew_46 : decode cX8_strew 46 = .ok (.iload 4, 2) := by decide +kernel
theorem dX8_strew_48 : decode cX8_strew 48 = .ok (.ifCond .ne 6, 3) := by decide +kernel
theorem dX8_strew_51 : decode cX8_strew 51 = .ok (.bipush (-5), 2) := by decide +kernel
theorem dX8_strew_53 : decode cX8_strew 53 = .ok (.ireturn, 1) := by decide +kernel
theorem dX8_strew_54 : decode cX8_strew 54 = .ok (.aload_n 0, 1) := by decide +kernel
theorem dX8_strew_55 : decode cX8_strew 55 = .ok (.getfield 19, 3) := by decide +kernel
theorem dX8_strew_58 : decode cX8_strew 58 = .ok (.aload_n 0, 1) := by decide +kernel
theorem dX8_strew_59 : decode cX8_strew 59 = .ok (.getfield 10, 3) := by decide +kernel
theorem dX8_strew_62 : decode cX8_strew 62 = .ok (.getfield 48, 3) := by decide +kernel
theorem dX8_strew_65 : decode cX8_strew 65 = .ok (.invokevirtual 51, 3) := by decide +kernel
theorem dX8_strew_68 : decode cX8_strew 68 = .ok (.aload_n 0, 1) := by decide +kernel
theorem dX8_strew_69 : decode cX8_strew 69 = .ok (.getfield 10, 3) := by decide +kernel
theorem dX8_strew_72 : decode cX8_strew 72 = .ok (.iload_n 1, 1) := by decide +kernel
theorem dX8_strew_73 : decode cX8_strew 73 = .ok (.iload_n 2, 1) := by decide +kernel
theorem dX8_strew_74 : decode cX8_strew 74 = .ok (.iload_n 3, 1) := by decide +kernel
theorem dX8_strew_75 : decode cX8_strew 75 = .ok (.iconst 1, 1) := by decide +kernel
theorem dX8_strew_76 : decode cX8_strew 76 = .ok (.invokevirtual 70, 3) := by decide +kernel
theorem dX8_strew_79 : decode cX8_strew 79 = .ok (.pop, 1) := by decide +kernel
theorem dX8_strew_80 : decode cX8_strew 80 = .ok (.iload 4, 2) := by decide +kernel
theorem dX8_strew_82 : decode cX8_strew 82 = .ok (.ireturn, 1) := by decide +kernel
theorem dX8_addWalker_0 : decode cX8_addWalker 0 = .ok (.aload_n 0, 1) := by decide +kernel
theorem dX8_addWalker_1 : decode cX8_addWalker 1 = .ok (.getfield 10, 3) := by decide +kernel
theorem dX8_addWalker_4 : decode cX8_addWalker 4 = .ok (.getfield 48, 3) := by decide +kernel
theorem dX8_addWalker_7 : decode cX8_addWalker 7 = .ok (.iload_n 1, 1) := by decide +kernel
theorem dX8_addWalker_8 : decode cX8_addWalker 8 = .ok (.iload_n 2, 1) := by decide +kernel
theorem dX8_addWalker_9 : decode cX8_addWalker 9 = .ok (.invokevirtual 59, 3) := by decide +kernel
theorem dX8_addWalker_12 : decode cX8_addWalker 12 = .ok (.ifCond .ge 5, 3) := by decide +kernel
theorem dX8_addWalker_15 : decode cX8_addWalker 15 = .ok (.iconst (-1), 1) := by decide +kernel
theorem dX8_addWalker_16 : decode cX8_addWalker 16 = .ok (.ireturn, 1) := by decide +kernel
theorem dX8_addWalker_17 : decode cX8_addWalker 17 = .ok (.iload_n 3, 1) := by decide +kernel
theorem dX8_addWalker_18 : decode cX8_addWalker 18 = .ok (.iconst 0, 1) := by decide +kernel
theorem dX8_addWalker_19 : decode cX8_addWalker 19 = .ok (.iconst 3, 1) := by decide +kernel
theorem dX8_addWalker_20 : decode cX8_addWalker 20 = .ok (.invokestatic 44, 3) := by decide +kernel
theorem dX8_addWalker_23 : decode cX8_addWalker 23 = .ok (.ifCond .eq 22, 3) := by decide +kernel
theorem dX8_addWalker_26 : decode cX8_addWalker 26 = .ok (.iload 4, 2) := by decide +kernel
theorem dX8_addWalker_28 : decode cX8_addWalker 28 = .ok (.invokestatic 74, 3) := by decide +kernel
theorem dX8_addWalker_31 : decode cX8_addWalker 31 = .ok (.ifCond .eq 14, 3) := by decide +kernel
theorem dX8_addWalker_34 : decode cX8_addWalker 34 = .ok (.iload 5, 2) := by decide +kernel
theorem dX8_addWalker_36 : decode cX8_addWalker 36 = .ok (.iconst 1, 1) := by decide +kernel
theorem dX8_addWalker_37 : decode cX8_addWalker 37 = .ok (.bipush 9, 2) := by decide +kernel
theorem dX8_addWalker_39 : decode cX8_addWalker 39 = .ok (.invokestatic 44, 3) := by decide +kernel
theorem dX8_addWalker_42 : decode cX8_addWalker 42 = .ok (.ifCond .ne 6, 3) := by decide +kernel
theorem dX8_addWalker_45 : decode cX8_addWalker 45 = .ok (.bipush (-2), 2) := by decide +kernel
theorem dX8_addWalker_47 : decode cX8_addWalker 47 = .ok (.ireturn, 1) := by decide +kernel
theorem dX8_addWalker_48 : decode cX8_addWalker 48 = .ok (.aload_n 0, 1) := by decide +kernel
theorem dX8_addWalker_49 : decode cX8_addWalker 49 = .ok (.getfield 10, 3) := by decide +kernel
theorem dX8_addWalker_52 : decode cX8_addWalker 52 = .ok (.getfield 48, 3) := by decide +kernel
theorem dX8_addWalker_55 : decode cX8_addWalker 55 = .ok (.getfield 78, 3) := by decide +kernel
theorem dX8_addWalker_58 : decode cX8_addWalker 58 = .ok (.istore 6, 2) := by decide +kernel
theorem dX8_addWalker_60 : decode cX8_addWalker 60 = .ok (.iload 6, 2) := by decide +kernel
theorem dX8_addWalker_62 : decode cX8_addWalker 62 = .ok (.bipush 8, 2) := by decide +kernel
theorem dX8_addWalker_64 : decode cX8_addWalker 64 = .ok (.if_icmp .lt 6, 3) := by decide +kernel
theorem dX8_addWalker_67 : decode cX8_addWalker 67 = .ok (.bipush (-3), 2) := by decide +kernel
theorem dX8_addWalker_69 : decode cX8_addWalker 69 = .ok (.ireturn, 1) := by decide +kernel
theorem dX8_addWalker_70 : decode cX8_addWalker 70 = .ok (.aload_n 0, 1) := by decide +kernel
theorem dX8_addWalker_71 : decode cX8_addWalker 71 = .ok (.getfield 19, 3) := by decide +kernel
theorem dX8_addWalker_74 : decode cX8_addWalker 74 = .ok (.aload_n 0, 1) := by decide +kernel
theorem dX8_addWalker_75 : decode cX8_addWalker 75 = .ok (.getfield 10, 3) := by decide +kernel
theorem dX8_addWalker_78 : decode cX8_addWalker 78 = .ok (.getfield 48, 3) := by decide +kernel
theorem dX8_addWalker_81 : decode cX8_addWalker 81 = .ok (.invokevirtual 51, 3) := by decide +kernel
theorem dX8_addWalker_84 : decode cX8_addWalker 84 = .ok (.aload_n 0, 1) := by decide +kernel
theorem dX8_addWalker_85 : decode cX8_addWalker 85 = .ok (.getfield 10, 3) := by decide +kernel
theorem dX8_addWalker_88 : decode cX8_addWalker 88 = .ok (.getfield 48, 3) := by decide +kernel
theorem dX8_addWalker_91 : decode cX8_addWalker 91 = .ok (.iload 6, 2) := by decide +kernel
theorem dX8_addWalker_93 : decode cX8_addWalker 93 = .ok (.iconst 1, 1) := by decide +kernel
theorem dX8_addWalker_94 : decode cX8_addWalker 94 = .ok (.iadd, 1) := by decide +kernel
theorem dX8_addWalker_95 : decode cX8_addWalker 95 = .ok (.putfield 78, 3) := by decide +kernel
theorem dX8_addWalker_98 : decode cX8_addWalker 98 = .ok (.aload_n 0, 1) := by decide +kernel
theorem dX8_addWalker_99 : decode cX8_addWalker 99 = .ok (.getfield 10, 3) := by decide +kernel
theorem dX8_addWalker_102 : decode cX8_addWalker 102 = .ok (.getfield 48, 3) := by decide +kernel
theorem dX8_addWalker_105 : decode cX8_addWalker 105 = .ok (.iload 6, 2) := by decide +kernel
theorem dX8_addWalker_107 : decode cX8_addWalker 107 = .ok (.invokevirtual 82, 3) := by decide +kernel
theorem dX8_addWalker_110 : decode cX8_addWalker 110 = .ok (.astore 7, 2) := by decide +kernel
theorem dX8_addWalker_112 : decode cX8_addWalker 112 = .ok (.aload 7, 2) := by decide +kernel
theorem dX8_addWalker_114 : decode cX8_addWalker 114 = .ok (.ifnull 15, 3) := by decide +kernel
theorem dX8_addWalker_117 : decode cX8_addWalker 117 = .ok (.aload 7, 2) := by decide +kernel
theorem dX8_addWalker_119 : decode cX8_addWalker 119 = .ok (.iload_n 1, 1) := by decide +kernel
theorem dX8_addWalker_120 : decode cX8_addWalker 120 = .ok (.iload_n 2, 1) := by decide +kernel
theorem dX8_addWalker_121 : decode cX8_addWalker 121 = .ok (.iload_n 3, 1) := by decide +kernel
theorem dX8_addWalker_122 : decode cX8_addWalker 122 = .ok (.iload 4, 2) := by decide +kernel
theorem dX8_addWalker_124 : decode cX8_addWalker 124 = .ok (.iload 5, 2) := by decide +kernel
theorem dX8_addWalker_126 : decode cX8_addWalker 126 = .ok (.invokevirtual 86, 3) := by decide +kernel
theorem dX8_addWalker_129 : decode cX8_addWalker 129 = .ok (.iload 6, 2) := by decide +kernel
theorem dX8_addWalker_131 : decode cX8_addWalker 131 = .ok (.ireturn, 1) := by decide +kernel
theorem dX8_setSort_0 : decode cX8_setSort 0 = .ok (.aload_n 0, 1) := by decide +kernel
theorem dX8_setSort_1 : decode cX8_setSort 1 = .ok (.getfield 10, 3) := by decide +kernel
theorem dX8_setSort_4 : decode cX8_setSort 4 = .ok (.getfield 48, 3) := by decide +kernel
theorem dX8_setSort_7 : decode cX8_setSort 7 = .ok (.iload_n 1, 1) := by decide +kernel
theorem dX8_setSort_8 : decode cX8_setSort 8 = .ok (.invokevirtual 82, 3) := by decide +kernel
theorem dX8_setSort_11 : decode cX8_setSort 11 = .ok (.astore_n 3, 1) := by decide +kernel
theorem dX8_setSort_12 : decode cX8_setSort 12 = .ok (.aload_n 3, 1) := by decide +kernel
theorem dX8_setSort_13 : decode cX8_setSort 13 = .ok (.ifnonnull 5, 3) := by decide +kernel
theorem dX8_setSort_16 : decode cX8_setSort 16 = .ok (.iconst (-1), 1) := by decide +kernel
theorem dX8_setSort_17 : decode cX8_setSort 17 = .ok (.ireturn, 1) := by decide +kernel
theorem dX8_setSort_18 : decode cX8_setSort 18 = .ok (.iload_n 2, 1) := by decide +kernel
theorem dX8_setSort_19 : decode cX8_setSort 19 = .ok (.invokestatic 74, 3) := by decide +kernel
theorem dX8_setSort_22 : decode cX8_setSort 22 = .ok (.ifCond .ne 6, 3) := by decide +kernel
theorem dX8_setSort_25 : decode cX8_setSort 25 = .ok (.bipush (-2), 2) := by decide +kernel
theorem dX8_setSort_27 : decode cX8_setSort 27 = .ok (.ireturn, 1) := by decide +kernel
theorem dX8_setSort_28 : decode cX8_setSort 28 = .ok (.aload_n 3, 1) := by decide +kernel
theorem dX8_setSort_29 : decode cX8_setSort 29 = .ok (.getfield 92, 3) := by decide +kernel
theorem dX8_setSort_32 : decode cX8_setSort 32 = .ok (.istore 4, 2) := by decide +kernel
theorem dX8_setSort_34 : decode cX8_setSort 34 = .ok (.aload_n 0, 1) := by decide +kernel
theorem dX8_setSort_35 : decode cX8_setSort 35 = .ok (.getfield 19, 3) := by decide +kernel
theorem dX8_setSort_38 : decode cX8_setSort 38 = .ok (.aload_n 0, 1) := by decide +kernel
theorem dX8_setSort_39 : decode cX8_setSort 39 = .ok (.getfield 10, 3) := by decide +kernel
theorem dX8_setSort_42 : decode cX8_setSort 42 = .ok (.getfield 48, 3) := by decide +kernel
theorem dX8_setSort_45 : decode cX8_setSort 45 = .ok (.invokevirtual 51, 3) := by decide +kernel
theorem dX8_setSort_48 : decode cX8_setSort 48 = .ok (.aload_n 3, 1) := by decide +kernel
theorem dX8_setSort_49 : decode cX8_setSort 49 = .ok (.iload_n 2, 1) := by decide +kernel
theorem dX8_setSort_50 : decode cX8_setSort 50 = .ok (.putfield 92, 3) := by decide +kernel
theorem dX8_setSort_53 : decode cX8_setSort 53 = .ok (.iload 4, 2) := by decide +kernel
theorem dX8_setSort_55 : decode cX8_setSort 55 = .ok (.ireturn, 1) := by decide +kernel
theorem dX8_empty_0 : decode cX8_empty 0 = .ok (.aload_n 0, 1) := by decide +kernel
theorem dX8_empty_1 : decode cX8_empty 1 = .ok (.getfield 10, 3) := by decide +kernel
theorem dX8_empty_4 : decode cX8_empty 4 = .ok (.getfield 48, 3) := by decide +kernel
theorem dX8_empty_7 : decode cX8_empty 7 = .ok (.iload_n 1, 1) := by decide +kernel
theorem dX8_empty_8 : decode cX8_empty 8 = .ok (.invokevirtual 82, 3) := by decide +kernel
theorem dX8_empty_11 : decode cX8_empty 11 = .ok (.astore_n 2, 1) := by decide +kernel
theorem dX8_empty_12 : decode cX8_empty 12 = .ok (.aload_n 2, 1) := by decide +kernel
theorem dX8_empty_13 : decode cX8_empty 13 = .ok (.ifnonnull 5, 3) := by decide +kernel
theorem dX8_empty_16 : decode cX8_empty 16 = .ok (.iconst (-1), 1) := by decide +kernel
theorem dX8_empty_17 : decode cX8_empty 17 = .ok (.ireturn, 1) := by decide +kernel
theorem dX8_empty_18 : decode cX8_empty 18 = .ok (.aload_n 0, 1) := by decide +kernel
theorem dX8_empty_19 : decode cX8_empty 19 = .ok (.getfield 10, 3) := by decide +kernel
theorem dX8_empty_22 : decode cX8_empty 22 = .ok (.aload_n 2, 1) := by decide +kernel
theorem dX8_empty_23 : decode cX8_empty 23 = .ok (.invokevirtual 95, 3) := by decide +kernel
theorem dX8_empty_26 : decode cX8_empty 26 = .ok (.aload_n 2, 1) := by decide +kernel
theorem dX8_empty_27 : decode cX8_empty 27 = .ok (.getfield 99, 3) := by decide +kernel
theorem dX8_empty_30 : decode cX8_empty 30 = .ok (.iadd, 1) := by decide +kernel
theorem dX8_empty_31 : decode cX8_empty 31 = .ok (.bipush 99, 2) := by decide +kernel
theorem dX8_empty_33 : decode cX8_empty 33 = .ok (.if_icmp .le 6, 3) := by decide +kernel
theorem dX8_empty_36 : decode cX8_empty 36 = .ok (.bipush (-4), 2) := by decide +kernel
theorem dX8_empty_38 : decode cX8_empty 38 = .ok (.ireturn, 1) := by decide +kernel
theorem dX8_empty_39 : decode cX8_empty 39 = .ok (.aload_n 2, 1) := by decide +kernel
theorem dX8_empty_40 : decode cX8_empty 40 = .ok (.getfield 99, 3) := by decide +kernel
theorem dX8_empty_43 : decode cX8_empty 43 = .ok (.ifCond .ne 6, 3) := by decide +kernel
theorem dX8_empty_46 : decode cX8_empty 46 = .ok (.bipush (-5), 2) := by decide +kernel
theorem dX8_empty_48 : decode cX8_empty 48 = .ok (.ireturn, 1) := by decide +kernel
theorem dX8_empty_49 : decode cX8_empty 49 = .ok (.aload_n 0, 1) := by decide +kernel
theorem dX8_empty_50 : decode cX8_empty 50 = .ok (.getfield 19, 3) := by decide +kernel
theorem dX8_empty_53 : decode cX8_empty 53 = .ok (.aload_n 0, 1) := by decide +kernel
theorem dX8_empty_54 : decode cX8_empty 54 = .ok (.getfield 10, 3) := by decide +kernel
theorem dX8_empty_57 : decode cX8_empty 57 = .ok (.getfield 48, 3) := by decide +kernel
theorem dX8_empty_60 : decode cX8_empty 60 = .ok (.invokevirtual 51, 3) := by decide +kernel
theorem dX8_empty_63 : decode cX8_empty 63 = .ok (.aload_n 0, 1) := by decide +kernel
theorem dX8_empty_64 : decode cX8_empty 64 = .ok (.getfield 10, 3) := by decide +kernel
theorem dX8_empty_67 : decode cX8_empty 67 = .ok (.aload_n 2, 1) := by decide +kernel
theorem dX8_empty_68 : decode cX8_empty 68 = .ok (.aload_n 2, 1) := by decide +kernel
theorem dX8_empty_69 : decode cX8_empty 69 = .ok (.getfield 99, 3) := by decide +kernel
theorem dX8_empty_72 : decode cX8_empty 72 = .ok (.ineg, 1) := by decide +kernel
theorem dX8_empty_73 : decode cX8_empty 73 = .ok (.invokevirtual 102, 3) := by decide +kernel
theorem dX8_empty_76 : decode cX8_empty 76 = .ok (.aload_n 0, 1) := by decide +kernel
theorem dX8_empty_77 : decode cX8_empty 77 = .ok (.getfield 10, 3) := by decide +kernel
theorem dX8_empty_80 : decode cX8_empty 80 = .ok (.aload_n 2, 1) := by decide +kernel
theorem dX8_empty_81 : decode cX8_empty 81 = .ok (.invokevirtual 95, 3) := by decide +kernel
theorem dX8_empty_84 : decode cX8_empty 84 = .ok (.ireturn, 1) := by decide +kernel
theorem dX8_addTurn_0 : decode cX8_addTurn 0 = .ok (.iload_n 1, 1) := by decide +kernel
theorem dX8_addTurn_1 : decode cX8_addTurn 1 = .ok (.iconst 0, 1) := by decide +kernel
theorem dX8_addTurn_2 : decode cX8_addTurn 2 = .ok (.bipush 9, 2) := by decide +kernel
theorem dX8_addTurn_4 : decode cX8_addTurn 4 = .ok (.invokestatic 44, 3) := by decide +kernel
theorem dX8_addTurn_7 : decode cX8_addTurn 7 = .ok (.ifCond .ne 6, 3) := by decide +kernel
theorem dX8_addTurn_10 : decode cX8_addTurn 10 = .ok (.bipush (-2), 2) := by decide +kernel
theorem dX8_addTurn_12 : decode cX8_addTurn 12 = .ok (.ireturn, 1) := by decide +kernel
theorem dX8_addTurn_13 : decode cX8_addTurn 13 = .ok (.aload_n 0, 1) := by decide +kernel
theorem dX8_addTurn_14 : decode cX8_addTurn 14 = .ok (.getfield 10, 3) := by decide +kernel
theorem dX8_addTurn_17 : decode cX8_addTurn 17 = .ok (.getfield 48, 3) := by decide +kernel
theorem dX8_addTurn_20 : decode cX8_addTurn 20 = .ok (.getfield 106, 3) := by decide +kernel
theorem dX8_addTurn_23 : decode cX8_addTurn 23 = .ok (.getfield 110, 3) := by decide +kernel
theorem dX8_addTurn_26 : decode cX8_addTurn 26 = .ok (.bipush 30, 2) := by decide +kernel
theorem dX8_addTurn_28 : decode cX8_addTurn 28 = .ok (.if_icmp .lt 6, 3) := by decide +kernel
theorem dX8_addTurn_31 : decode cX8_addTurn 31 = .ok (.bipush (-3), 2) := by decide +kernel
theorem dX8_addTurn_33 : decode cX8_addTurn 33 = .ok (.ireturn, 1) := by decide +kernel
theorem dX8_addTurn_34 : decode cX8_addTurn 34 = .ok (.aload_n 0, 1) := by decide +kernel
theorem dX8_addTurn_35 : decode cX8_addTurn 35 = .ok (.getfield 19, 3) := by decide +kernel
theorem dX8_addTurn_38 : decode cX8_addTurn 38 = .ok (.aload_n 0, 1) := by decide +kernel
theorem dX8_addTurn_39 : decode cX8_addTurn 39 = .ok (.getfield 10, 3) := by decide +kernel
theorem dX8_addTurn_42 : decode cX8_addTurn 42 = .ok (.getfield 48, 3) := by decide +kernel
theorem dX8_addTurn_45 : decode cX8_addTurn 45 = .ok (.invokevirtual 51, 3) := by decide +kernel
theorem dX8_addTurn_48 : decode cX8_addTurn 48 = .ok (.aload_n 0, 1) := by decide +kernel
theorem dX8_addTurn_49 : decode cX8_addTurn 49 = .ok (.getfield 10, 3) := by decide +kernel
theorem dX8_addTurn_52 : decode cX8_addTurn 52 = .ok (.getfield 48, 3) := by decide +kernel
theorem dX8_addTurn_55 : decode cX8_addTurn 55 = .ok (.getfield 106, 3) := by decide +kernel
theorem dX8_addTurn_58 : decode cX8_addTurn 58 = .ok (.iload_n 1, 1) := by decide +kernel
theorem dX8_addTurn_59 : decode cX8_addTurn 59 = .ok (.invokevirtual 115, 3) := by decide +kernel
theorem dX8_addTurn_62 : decode cX8_addTurn 62 = .ok (.aload_n 0, 1) := by decide +kernel
theorem dX8_addTurn_63 : decode cX8_addTurn 63 = .ok (.getfield 10, 3) := by decide +kernel
theorem dX8_addTurn_66 : decode cX8_addTurn 66 = .ok (.getfield 48, 3) := by decide +kernel
theorem dX8_addTurn_69 : decode cX8_addTurn 69 = .ok (.getfield 106, 3) := by decide +kernel
theorem dX8_addTurn_72 : decode cX8_addTurn 72 = .ok (.getfield 110, 3) := by decide +kernel
theorem dX8_addTurn_75 : decode cX8_addTurn 75 = .ok (.ireturn, 1) := by decide +kernel
theorem dX8_clearTurns_0 : decode cX8_clearTurns 0 = .ok (.aload_n 0, 1) := by decide +kernel
theorem dX8_clearTurns_1 : decode cX8_clearTurns 1 = .ok (.getfield 10, 3) := by decide +kernel
theorem dX8_clearTurns_4 : decode cX8_clearTurns 4 = .ok (.getfield 48, 3) := by decide +kernel
theorem dX8_clearTurns_7 : decode cX8_clearTurns 7 = .ok (.getfield 106, 3) := by decide +kernel
theorem dX8_clearTurns_10 : decode cX8_clearTurns 10 = .ok (.getfield 110, 3) := by decide +kernel
theorem dX8_clearTurns_13 : decode cX8_clearTurns 13 = .ok (.istore_n 1, 1) := by decide +kernel
theorem dX8_clearTurns_14 : decode cX8_clearTurns 14 = .ok (.aload_n 0, 1) := by decide +kernel
theorem dX8_clearTurns_15 : decode cX8_clearTurns 15 = .ok (.getfield 19, 3) := by decide +kernel
theorem dX8_clearTurns_18 : decode cX8_clearTurns 18 = .ok (.aload_n 0, 1) := by decide +kernel
theorem dX8_clearTurns_19 : decode cX8_clearTurns 19 = .ok (.getfield 10, 3) := by decide +kernel
theorem dX8_clearTurns_22 : decode cX8_clearTurns 22 = .ok (.getfield 48, 3) := by decide +kernel
theorem dX8_clearTurns_25 : decode cX8_clearTurns 25 = .ok (.invokevirtual 51, 3) := by decide +kernel
theorem dX8_clearTurns_28 : decode cX8_clearTurns 28 = .ok (.aload_n 0, 1) := by decide +kernel
theorem dX8_clearTurns_29 : decode cX8_clearTurns 29 = .ok (.getfield 10, 3) := by decide +kernel
theorem dX8_clearTurns_32 : decode cX8_clearTurns 32 = .ok (.getfield 48, 3) := by decide +kernel
theorem dX8_clearTurns_35 : decode cX8_clearTurns 35 = .ok (.getfield 106, 3) := by decide +kernel
theorem dX8_clearTurns_38 : decode cX8_clearTurns 38 = .ok (.invokevirtual 119, 3) := by decide +kernel
theorem dX8_clearTurns_41 : decode cX8_clearTurns 41 = .ok (.iload_n 1, 1) := by decide +kernel
theorem dX8_clearTurns_42 : decode cX8_clearTurns 42 = .ok (.ireturn, 1) := by decide +kernel
theorem dX8_walk_0 : decode cX8_walk 0 = .ok (.aload_n 0, 1) := by decide +kernel
theorem dX8_walk_1 : decode cX8_walk 1 = .ok (.getfield 10, 3) := by decide +kernel
theorem dX8_walk_4 : decode cX8_walk 4 = .ok (.getfield 48, 3) := by decide +kernel
theorem dX8_walk_7 : decode cX8_walk 7 = .ok (.iload_n 1, 1) := by decide +kernel
theorem dX8_walk_8 : decode cX8_walk 8 = .ok (.invokevirtual 82, 3) := by decide +kernel
theorem dX8_walk_11 : decode cX8_walk 11 = .ok (.astore_n 3, 1) := by decide +kernel
theorem dX8_walk_12 : decode cX8_walk 12 = .ok (.aload_n 3, 1) := by decide +kernel
theorem dX8_walk_13 : decode cX8_walk 13 = .ok (.ifnonnull 5, 3) := by decide +kernel
theorem dX8_walk_16 : decode cX8_walk 16 = .ok (.iconst (-1), 1) := by decide +kernel
theorem dX8_walk_17 : decode cX8_walk 17 = .ok (.ireturn, 1) := by decide +kernel
theorem dX8_walk_18 : decode cX8_walk 18 = .ok (.iload_n 2, 1) := by decide +kernel
theorem dX8_walk_19 : decode cX8_walk 19 = .ok (.iconst 1, 1) := by decide +kernel
theorem dX8_walk_20 : decode cX8_walk 20 = .ok (.bipush 100, 2) := by decide +kernel
theorem dX8_walk_22 : decode cX8_walk 22 = .ok (.invokestatic 44, 3) := by decide +kernel
theorem dX8_walk_25 : decode cX8_walk 25 = .ok (.ifCond .ne 6, 3) := by decide +kernel
theorem dX8_walk_28 : decode cX8_walk 28 = .ok (.bipush (-2), 2) := by decide +kernel
theorem dX8_walk_30 : decode cX8_walk 30 = .ok (.ireturn, 1) := by decide +kernel
theorem dX8_walk_31 : decode cX8_walk 31 = .ok (.aload_n 0, 1) := by decide +kernel
theorem dX8_walk_32 : decode cX8_walk 32 = .ok (.getfield 19, 3) := by decide +kernel
theorem dX8_walk_35 : decode cX8_walk 35 = .ok (.aload_n 0, 1) := by decide +kernel
theorem dX8_walk_36 : decode cX8_walk 36 = .ok (.getfield 10, 3) := by decide +kernel
theorem dX8_walk_39 : decode cX8_walk 39 = .ok (.getfield 48, 3) := by decide +kernel
theorem dX8_walk_42 : decode cX8_walk 42 = .ok (.invokevirtual 51, 3) := by decide +kernel
theorem dX8_walk_45 : decode cX8_walk 45 = .ok (.iconst 0, 1) := by decide +kernel
theorem dX8_walk_46 : decode cX8_walk 46 = .ok (.istore 4, 2) := by decide +kernel
theorem dX8_walk_48 : decode cX8_walk 48 = .ok (.iload 4, 2) := by decide +kernel
theorem dX8_walk_50 : decode cX8_walk 50 = .ok (.iload_n 2, 1) := by decide +kernel
theorem dX8_walk_51 : decode cX8_walk 51 = .ok (.if_icmp .ge 17, 3) := by decide +kernel
theorem dX8_walk_54 : decode cX8_walk 54 = .ok (.aload_n 0, 1) := by decide +kernel
theorem dX8_walk_55 : decode cX8_walk 55 = .ok (.getfield 10, 3) := by decide +kernel
theorem dX8_walk_58 : decode cX8_walk 58 = .ok (.aload_n 3, 1) := by decide +kernel
theorem dX8_walk_59 : decode cX8_walk 59 = .ok (.invokevirtual 121, 3) := by decide +kernel
theorem dX8_walk_62 : decode cX8_walk 62 = .ok (.iinc 4 1, 3) := by decide +kernel
theorem dX8_walk_65 : decode cX8_walk 65 = .ok (.goto (-17), 3) := by decide +kernel
theorem dX8_walk_68 : decode cX8_walk 68 = .ok (.aload_n 3, 1) := by decide +kernel
theorem dX8_walk_69 : decode cX8_walk 69 = .ok (.getfield 99, 3) := by decide +kernel
theorem dX8_walk_72 : decode cX8_walk 72 = .ok (.ireturn, 1) := by decide +kernel
theorem dX8_rounds_0 : decode cX8_rounds 0 = .ok (.iload_n 1, 1) := by decide +kernel
theorem dX8_rounds_1 : decode cX8_rounds 1 = .ok (.iconst 1, 1) := by decide +kernel
theorem dX8_rounds_2 : decode cX8_rounds 2 = .ok (.bipush 50, 2) := by decide +kernel
theorem dX8_rounds_4 : decode cX8_rounds 4 = .ok (.invokestatic 44, 3) := by decide +kernel
theorem dX8_rounds_7 : decode cX8_rounds 7 = .ok (.ifCond .ne 6, 3) := by decide +kernel
theorem dX8_rounds_10 : decode cX8_rounds 10 = .ok (.bipush (-2), 2) := by decide +kernel
theorem dX8_rounds_12 : decode cX8_rounds 12 = .ok (.ireturn, 1) := by decide +kernel
theorem dX8_rounds_13 : decode cX8_rounds 13 = .ok (.aload_n 0, 1) := by decide +kernel
theorem dX8_rounds_14 : decode cX8_rounds 14 = .ok (.getfield 10, 3) := by decide +kernel
theorem dX8_rounds_17 : decode cX8_rounds 17 = .ok (.getfield 48, 3) := by decide +kernel
theorem dX8_rounds_20 : decode cX8_rounds 20 = .ok (.getfield 78, 3) := by decide +kernel
theorem dX8_rounds_23 : decode cX8_rounds 23 = .ok (.ifCond .ne 6, 3) := by decide +kernel
theorem dX8_rounds_26 : decode cX8_rounds 26 = .ok (.bipush (-5), 2) := by decide +kernel
theorem dX8_rounds_28 : decode cX8_rounds 28 = .ok (.ireturn, 1) := by decide +kernel
theorem dX8_rounds_29 : decode cX8_rounds 29 = .ok (.aload_n 0, 1) := by decide +kernel
theorem dX8_rounds_30 : decode cX8_rounds 30 = .ok (.getfield 19, 3) := by decide +kernel
theorem dX8_rounds_33 : decode cX8_rounds 33 = .ok (.aload_n 0, 1) := by decide +kernel
theorem dX8_rounds_34 : decode cX8_rounds 34 = .ok (.getfield 10, 3) := by decide +kernel
theorem dX8_rounds_37 : decode cX8_rounds 37 = .ok (.getfield 48, 3) := by decide +kernel
theorem dX8_rounds_40 : decode cX8_rounds 40 = .ok (.invokevirtual 51, 3) := by decide +kernel
theorem dX8_rounds_43 : decode cX8_rounds 43 = .ok (.aload_n 0, 1) := by decide +kernel
theorem dX8_rounds_44 : decode cX8_rounds 44 = .ok (.getfield 10, 3) := by decide +kernel
theorem dX8_rounds_47 : decode cX8_rounds 47 = .ok (.iload_n 1, 1) := by decide +kernel
theorem dX8_rounds_48 : decode cX8_rounds 48 = .ok (.invokevirtual 125, 3) := by decide +kernel
theorem dX8_rounds_51 : decode cX8_rounds 51 = .ok (.aload_n 0, 1) := by decide +kernel
theorem dX8_rounds_52 : decode cX8_rounds 52 = .ok (.getfield 10, 3) := by decide +kernel
theorem dX8_rounds_55 : decode cX8_rounds 55 = .ok (.getfield 128, 3) := by decide +kernel
theorem dX8_rounds_58 : decode cX8_rounds 58 = .ok (.aload_n 0, 1) := by decide +kernel
theorem dX8_rounds_59 : decode cX8_rounds 59 = .ok (.getfield 10, 3) := by decide +kernel
theorem dX8_rounds_62 : decode cX8_rounds 62 = .ok (.getfield 48, 3) := by decide +kernel
theorem dX8_rounds_65 : decode cX8_rounds 65 = .ok (.getfield 132, 3) := by decide +kernel
theorem dX8_rounds_68 : decode cX8_rounds 68 = .ok (.invokevirtual 136, 3) := by decide +kernel
theorem dX8_rounds_71 : decode cX8_rounds 71 = .ok (.ireturn, 1) := by decide +kernel
theorem dX8_type_0 : decode cX8_type 0 = .ok (.aload_n 0, 1) := by decide +kernel
theorem dX8_type_1 : decode cX8_type 1 = .ok (.getfield 26, 3) := by decide +kernel
theorem dX8_type_4 : decode cX8_type 4 = .ok (.iload_n 1, 1) := by decide +kernel
theorem dX8_type_5 : decode cX8_type 5 = .ok (.invokevirtual 142, 3) := by decide +kernel
theorem dX8_type_8 : decode cX8_type 8 = .ok (.ifCond .ne 6, 3) := by decide +kernel
theorem dX8_type_11 : decode cX8_type 11 = .ok (.bipush (-3), 2) := by decide +kernel
theorem dX8_type_13 : decode cX8_type 13 = .ok (.ireturn, 1) := by decide +kernel
theorem dX8_type_14 : decode cX8_type 14 = .ok (.aload_n 0, 1) := by decide +kernel
theorem dX8_type_15 : decode cX8_type 15 = .ok (.getfield 26, 3) := by decide +kernel
theorem dX8_type_18 : decode cX8_type 18 = .ok (.getfield 145, 3) := by decide +kernel
theorem dX8_type_21 : decode cX8_type 21 = .ok (.ireturn, 1) := by decide +kernel
theorem dX8_clearText_0 : decode cX8_clearText 0 = .ok (.aload_n 0, 1) := by decide +kernel
theorem dX8_clearText_1 : decode cX8_clearText 1 = .ok (.getfield 26, 3) := by decide +kernel
theorem dX8_clearText_4 : decode cX8_clearText 4 = .ok (.getfield 145, 3) := by decide +kernel
theorem dX8_clearText_7 : decode cX8_clearText 7 = .ok (.istore_n 1, 1) := by decide +kernel
theorem dX8_clearText_8 : decode cX8_clearText 8 = .ok (.aload_n 0, 1) := by decide +kernel
theorem dX8_clearText_9 : decode cX8_clearText 9 = .ok (.getfield 26, 3) := by decide +kernel
theorem dX8_clearText_12 : decode cX8_clearText 12 = .ok (.iconst 0, 1) := by decide +kernel
theorem dX8_clearText_13 : decode cX8_clearText 13 = .ok (.putfield 145, 3) := by decide +kernel
theorem dX8_clearText_16 : decode cX8_clearText 16 = .ok (.iload_n 1, 1) := by decide +kernel
theorem dX8_clearText_17 : decode cX8_clearText 17 = .ok (.ireturn, 1) := by decide +kernel
theorem dX8_run_0 : decode cX8_run 0 = .ok (.aload_n 0, 1) := by decide +kernel
theorem dX8_run_1 : decode cX8_run 1 = .ok (.getfield 26, 3) := by decide +kernel
theorem dX8_run_4 : decode cX8_run 4 = .ok (.aload_n 0, 1) := by decide +kernel
theorem dX8_run_5 : decode cX8_run 5 = .ok (.getfield 10, 3) := by decide +kernel
theorem dX8_run_8 : decode cX8_run 8 = .ok (.getfield 48, 3) := by decide +kernel
theorem dX8_run_11 : decode cX8_run 11 = .ok (.getfield 78, 3) := by decide +kernel
theorem dX8_run_14 : decode cX8_run 14 = .ok (.invokevirtual 148, 3) := by decide +kernel
theorem dX8_run_17 : decode cX8_run 17 = .ok (.istore_n 1, 1) := by decide +kernel
theorem dX8_run_18 : decode cX8_run 18 = .ok (.iload_n 1, 1) := by decide +kernel
theorem dX8_run_19 : decode cX8_run 19 = .ok (.ifCond .lt 8, 3) := by decide +kernel
theorem dX8_run_22 : decode cX8_run 22 = .ok (.bipush (-100), 2) := by decide +kernel
theorem dX8_run_24 : decode cX8_run 24 = .ok (.iload_n 1, 1) := by decide +kernel
theorem dX8_run_25 : decode cX8_run 25 = .ok (.isub, 1) := by decide +kernel
theorem dX8_run_26 : decode cX8_run 26 = .ok (.ireturn, 1) := by decide +kernel
theorem dX8_run_27 : decode cX8_run 27 = .ok (.aload_n 0, 1) := by decide +kernel
theorem dX8_run_28 : decode cX8_run 28 = .ok (.getfield 19, 3) := by decide +kernel
theorem dX8_run_31 : decode cX8_run 31 = .ok (.aload_n 0, 1) := by decide +kernel
theorem dX8_run_32 : decode cX8_run 32 = .ok (.getfield 10, 3) := by decide +kernel
theorem dX8_run_35 : decode cX8_run 35 = .ok (.getfield 48, 3) := by decide +kernel
theorem dX8_run_38 : decode cX8_run 38 = .ok (.invokevirtual 51, 3) := by decide +kernel
theorem dX8_run_41 : decode cX8_run 41 = .ok (.aload_n 0, 1) := by decide +kernel
theorem dX8_run_42 : decode cX8_run 42 = .ok (.getfield 10, 3) := by decide +kernel
theorem dX8_run_45 : decode cX8_run 45 = .ok (.getfield 48, 3) := by decide +kernel
theorem dX8_run_48 : decode cX8_run 48 = .ok (.invokevirtual 151, 3) := by decide +kernel
theorem dX8_run_51 : decode cX8_run 51 = .ok (.istore_n 2, 1) := by decide +kernel
theorem dX8_run_52 : decode cX8_run 52 = .ok (.aload_n 0, 1) := by decide +kernel
theorem dX8_run_53 : decode cX8_run 53 = .ok (.getfield 10, 3) := by decide +kernel
theorem dX8_run_56 : decode cX8_run 56 = .ok (.getfield 48, 3) := by decide +kernel
theorem dX8_run_59 : decode cX8_run 59 = .ok (.iconst 0, 1) := by decide +kernel
theorem dX8_run_60 : decode cX8_run 60 = .ok (.invokevirtual 82, 3) := by decide +kernel
theorem dX8_run_63 : decode cX8_run 63 = .ok (.astore_n 3, 1) := by decide +kernel
theorem dX8_run_64 : decode cX8_run 64 = .ok (.iconst 0, 1) := by decide +kernel
theorem dX8_run_65 : decode cX8_run 65 = .ok (.istore 4, 2) := by decide +kernel
theorem dX8_run_67 : decode cX8_run 67 = .ok (.iload 4, 2) := by decide +kernel
theorem dX8_run_69 : decode cX8_run 69 = .ok (.aload_n 0, 1) := by decide +kernel
theorem dX8_run_70 : decode cX8_run 70 = .ok (.getfield 26, 3) := by decide +kernel
theorem dX8_run_73 : decode cX8_run 73 = .ok (.getfield 155, 3) := by decide +kernel
theorem dX8_run_76 : decode cX8_run 76 = .ok (.if_icmp .ge 89, 3) := by decide +kernel
theorem dX8_run_79 : decode cX8_run 79 = .ok (.aload_n 0, 1) := by decide +kernel
theorem dX8_run_80 : decode cX8_run 80 = .ok (.getfield 26, 3) := by decide +kernel
theorem dX8_run_83 : decode cX8_run 83 = .ok (.iload 4, 2) := by decide +kernel
theorem dX8_run_85 : decode cX8_run 85 = .ok (.invokevirtual 158, 3) := by decide +kernel
theorem dX8_run_88 : decode cX8_run 88 = .ok (.istore 5, 2) := by decide +kernel
theorem dX8_run_90 : decode cX8_run 90 = .ok (.aload_n 0, 1) := by decide +kernel
theorem dX8_run_91 : decode cX8_run 91 = .ok (.getfield 26, 3) := by decide +kernel
theorem dX8_run_94 : decode cX8_run 94 = .ok (.iload 4, 2) := by decide +kernel
theorem dX8_run_96 : decode cX8_run 96 = .ok (.invokevirtual 162, 3) := by decide +kernel
theorem dX8_run_99 : decode cX8_run 99 = .ok (.istore 6, 2) := by decide +kernel
theorem dX8_run_101 : decode cX8_run 101 = .ok (.iload 5, 2) := by decide +kernel
theorem dX8_run_103 : decode cX8_run 103 = .ok (.bipush 35, 2) := by decide +kernel
theorem dX8_run_105 : decode cX8_run 105 = .ok (.if_icmp .ne 19, 3) := by decide +kernel
theorem dX8_run_108 : decode cX8_run 108 = .ok (.aload_n 0, 1) := by decide +kernel
theorem dX8_run_109 : decode cX8_run 109 = .ok (.getfield 10, 3) := by decide +kernel
theorem dX8_run_112 : decode cX8_run 112 = .ok (.getfield 48, 3) := by decide +kernel
theorem dX8_run_115 : decode cX8_run 115 = .ok (.iload 6, 2) := by decide +kernel
theorem dX8_run_117 : decode cX8_run 117 = .ok (.invokevirtual 82, 3) := by decide +kernel
theorem dX8_run_120 : decode cX8_run 120 = .ok (.astore_n 3, 1) := by decide +kernel
theorem dX8_run_121 : decode cX8_run 121 = .ok (.goto 38, 3) := by decide +kernel
theorem dX8_run_124 : decode cX8_run 124 = .ok (.iload 5, 2) := by decide +kernel
theorem dX8_run_126 : decode cX8_run 126 = .ok (.bipush 114, 2) := by decide +kernel
theorem dX8_run_128 : decode cX8_run 128 = .ok (.if_icmp .ne 15, 3) := by decide +kernel
theorem dX8_run_131 : decode cX8_run 131 = .ok (.aload_n 0, 1) := by decide +kernel
theorem dX8_run_132 : decode cX8_run 132 = .ok (.getfield 10, 3) := by decide +kernel
theorem dX8_run_135 : decode cX8_run 135 = .ok (.iload 6, 2) := by decide +kernel
theorem dX8_run_137 : decode cX8_run 137 = .ok (.invokevirtual 125, 3) := by decide +kernel
theorem dX8_run_140 : decode cX8_run 140 = .ok (.goto 19, 3) := by decide +kernel
theorem dX8_run_143 : decode cX8_run 143 = .ok (.aload_n 3, 1) := by decide +kernel
theorem dX8_run_144 : decode cX8_run 144 = .ok (.ifnull 15, 3) := by decide +kernel
theorem dX8_run_147 : decode cX8_run 147 = .ok (.aload_n 0, 1) := by decide +kernel
theorem dX8_run_148 : decode cX8_run 148 = .ok (.getfield 10, 3) := by decide +kernel
theorem dX8_run_151 : decode cX8_run 151 = .ok (.aload_n 3, 1) := by decide +kernel
theorem dX8_run_152 : decode cX8_run 152 = .ok (.iload 5, 2) := by decide +kernel
theorem dX8_run_154 : decode cX8_run 154 = .ok (.iload 6, 2) := by decide +kernel
theorem dX8_run_156 : decode cX8_run 156 = .ok (.invokevirtual 165, 3) := by decide +kernel
theorem dX8_run_159 : decode cX8_run 159 = .ok (.iinc 4 1, 3) := by decide +kernel
theorem dX8_run_162 : decode cX8_run 162 = .ok (.goto (-95), 3) := by decide +kernel
theorem dX8_run_165 : decode cX8_run 165 = .ok (.aload_n 0, 1) := by decide +kernel
theorem dX8_run_166 : decode cX8_run 166 = .ok (.getfield 10, 3) := by decide +kernel
theorem dX8_run_169 : decode cX8_run 169 = .ok (.getfield 48, 3) := by decide +kernel
theorem dX8_run_172 : decode cX8_run 172 = .ok (.invokevirtual 151, 3) := by decide +kernel
theorem dX8_run_175 : decode cX8_run 175 = .ok (.iload_n 2, 1) := by decide +kernel
theorem dX8_run_176 : decode cX8_run 176 = .ok (.isub, 1) := by decide +kernel
theorem dX8_run_177 : decode cX8_run 177 = .ok (.ireturn, 1) := by decide +kernel
theorem dX8_undo_0 : decode cX8_undo 0 = .ok (.aload_n 0, 1) := by decide +kernel
theorem dX8_undo_1 : decode cX8_undo 1 = .ok (.getfield 19, 3) := by decide +kernel
theorem dX8_undo_4 : decode cX8_undo 4 = .ok (.invokevirtual 169, 3) := by decide +kernel
theorem dX8_undo_7 : decode cX8_undo 7 = .ok (.astore_n 1, 1) := by decide +kernel
theorem dX8_undo_8 : decode cX8_undo 8 = .ok (.aload_n 1, 1) := by decide +kernel
theorem dX8_undo_9 : decode cX8_undo 9 = .ok (.ifnonnull 6, 3) := by decide +kernel
theorem dX8_undo_12 : decode cX8_undo 12 = .ok (.bipush (-5), 2) := by decide +kernel
theorem dX8_undo_14 : decode cX8_undo 14 = .ok (.ireturn, 1) := by decide +kernel
theorem dX8_undo_15 : decode cX8_undo 15 = .ok (.aload_n 0, 1) := by decide +kernel
theorem dX8_undo_16 : decode cX8_undo 16 = .ok (.getfield 10, 3) := by decide +kernel
theorem dX8_undo_19 : decode cX8_undo 19 = .ok (.aload_n 1, 1) := by decide +kernel
theorem dX8_undo_20 : decode cX8_undo 20 = .ok (.invokevirtual 173, 3) := by decide +kernel
theorem dX8_undo_23 : decode cX8_undo 23 = .ok (.aload_n 0, 1) := by decide +kernel
theorem dX8_undo_24 : decode cX8_undo 24 = .ok (.getfield 19, 3) := by decide +kernel
theorem dX8_undo_27 : decode cX8_undo 27 = .ok (.getfield 176, 3) := by decide +kernel
theorem dX8_undo_30 : decode cX8_undo 30 = .ok (.ireturn, 1) := by decide +kernel
theorem dX8_keep_0 : decode cX8_keep 0 = .ok (.aload_n 0, 1) := by decide +kernel
theorem dX8_keep_1 : decode cX8_keep 1 = .ok (.iload_n 1, 1) := by decide +kernel
theorem dX8_keep_2 : decode cX8_keep 2 = .ok (.invokevirtual 177, 3) := by decide +kernel
theorem dX8_keep_5 : decode cX8_keep 5 = .ok (.astore_n 2, 1) := by decide +kernel
theorem dX8_keep_6 : decode cX8_keep 6 = .ok (.aload_n 2, 1) := by decide +kernel
theorem dX8_keep_7 : decode cX8_keep 7 = .ok (.ifnonnull 5, 3) := by decide +kernel
theorem dX8_keep_10 : decode cX8_keep 10 = .ok (.iconst (-1), 1) := by decide +kernel
theorem dX8_keep_11 : decode cX8_keep 11 = .ok (.ireturn, 1) := by decide +kernel
theorem dX8_keep_12 : decode cX8_keep 12 = .ok (.aload_n 2, 1) := by decide +kernel
theorem dX8_keep_13 : decode cX8_keep 13 = .ok (.getfield 181, 3) := by decide +kernel
theorem dX8_keep_16 : decode cX8_keep 16 = .ok (.aload_n 0, 1) := by decide +kernel
theorem dX8_keep_17 : decode cX8_keep 17 = .ok (.getfield 10, 3) := by decide +kernel
theorem dX8_keep_20 : decode cX8_keep 20 = .ok (.getfield 48, 3) := by decide +kernel
theorem dX8_keep_23 : decode cX8_keep 23 = .ok (.invokevirtual 184, 3) := by decide +kernel
theorem dX8_keep_26 : decode cX8_keep 26 = .ok (.aload_n 2, 1) := by decide +kernel
theorem dX8_keep_27 : decode cX8_keep 27 = .ok (.iconst 1, 1) := by decide +kernel
theorem dX8_keep_28 : decode cX8_keep 28 = .ok (.putfield 187, 3) := by decide +kernel
theorem dX8_keep_31 : decode cX8_keep 31 = .ok (.aload_n 0, 1) := by decide +kernel
theorem dX8_keep_32 : decode cX8_keep 32 = .ok (.getfield 10, 3) := by decide +kernel
theorem dX8_keep_35 : decode cX8_keep 35 = .ok (.getfield 48, 3) := by decide +kernel
theorem dX8_keep_38 : decode cX8_keep 38 = .ok (.invokevirtual 191, 3) := by decide +kernel
theorem dX8_keep_41 : decode cX8_keep 41 = .ok (.ireturn, 1) := by decide +kernel
theorem dX8_restore_0 : decode cX8_restore 0 = .ok (.aload_n 0, 1) := by decide +kernel
theorem dX8_restore_1 : decode cX8_restore 1 = .ok (.iload_n 1, 1) := by decide +kernel
theorem dX8_restore_2 : decode cX8_restore 2 = .ok (.invokevirtual 177, 3) := by decide +kernel
theorem dX8_restore_5 : decode cX8_restore 5 = .ok (.astore_n 2, 1) := by decide +kernel
theorem dX8_restore_6 : decode cX8_restore 6 = .ok (.aload_n 2, 1) := by decide +kernel
theorem dX8_restore_7 : decode cX8_restore 7 = .ok (.ifnonnull 5, 3) := by decide +kernel
theorem dX8_restore_10 : decode cX8_restore 10 = .ok (.iconst (-1), 1) := by decide +kernel
theorem dX8_restore_11 : decode cX8_restore 11 = .ok (.ireturn, 1) := by decide +kernel
theorem dX8_restore_12 : decode cX8_restore 12 = .ok (.aload_n 2, 1) := by decide +kernel
theorem dX8_restore_13 : decode cX8_restore 13 = .ok (.getfield 187, 3) := by decide +kernel
theorem dX8_restore_16 : decode cX8_restore 16 = .ok (.ifCond .ne 6, 3) := by decide +kernel
theorem dX8_restore_19 : decode cX8_restore 19 = .ok (.bipush (-5), 2) := by decide +kernel
theorem dX8_restore_21 : decode cX8_restore 21 = .ok (.ireturn, 1) := by decide +kernel
theorem dX8_restore_22 : decode cX8_restore 22 = .ok (.aload_n 0, 1) := by decide +kernel
theorem dX8_restore_23 : decode cX8_restore 23 = .ok (.getfield 19, 3) := by decide +kernel
theorem dX8_restore_26 : decode cX8_restore 26 = .ok (.aload_n 0, 1) := by decide +kernel
theorem dX8_restore_27 : decode cX8_restore 27 = .ok (.getfield 10, 3) := by decide +kernel
theorem dX8_restore_30 : decode cX8_restore 30 = .ok (.getfield 48, 3) := by decide +kernel
theorem dX8_restore_33 : decode cX8_restore 33 = .ok (.invokevirtual 51, 3) := by decide +kernel
theorem dX8_restore_36 : decode cX8_restore 36 = .ok (.aload_n 0, 1) := by decide +kernel
theorem dX8_restore_37 : decode cX8_restore 37 = .ok (.getfield 10, 3) := by decide +kernel
theorem dX8_restore_40 : decode cX8_restore 40 = .ok (.aload_n 2, 1) := by decide +kernel
theorem dX8_restore_41 : decode cX8_restore 41 = .ok (.getfield 181, 3) := by decide +kernel
theorem dX8_restore_44 : decode cX8_restore 44 = .ok (.invokevirtual 173, 3) := by decide +kernel
theorem dX8_restore_47 : decode cX8_restore 47 = .ok (.aload_n 0, 1) := by decide +kernel
theorem dX8_restore_48 : decode cX8_restore 48 = .ok (.getfield 10, 3) := by decide +kernel
theorem dX8_restore_51 : decode cX8_restore 51 = .ok (.getfield 48, 3) := by decide +kernel
theorem dX8_restore_54 : decode cX8_restore 54 = .ok (.invokevirtual 191, 3) := by decide +kernel
theorem dX8_restore_57 : decode cX8_restore 57 = .ok (.ireturn, 1) := by decide +kernel
theorem dX8_chips_0 : decode cX8_chips 0 = .ok (.aload_n 0, 1) := by decide +kernel
theorem dX8_chips_1 : decode cX8_chips 1 = .ok (.getfield 10, 3) := by decide +kernel
theorem dX8_chips_4 : decode cX8_chips 4 = .ok (.getfield 48, 3) := by decide +kernel
theorem dX8_chips_7 : decode cX8_chips 7 = .ok (.iload_n 1, 1) := by decide +kernel
theorem dX8_chips_8 : decode cX8_chips 8 = .ok (.iload_n 2, 1) := by decide +kernel
theorem dX8_chips_9 : decode cX8_chips 9 = .ok (.invokevirtual 59, 3) := by decide +kernel
theorem dX8_chips_12 : decode cX8_chips 12 = .ok (.istore_n 3, 1) := by decide +kernel
theorem dX8_chips_13 : decode cX8_chips 13 = .ok (.iload_n 3, 1) := by decide +kernel
theorem dX8_chips_14 : decode cX8_chips 14 = .ok (.ifCond .ge 5, 3) := by decide +kernel
theorem dX8_chips_17 : decode cX8_chips 17 = .ok (.iconst (-1), 1) := by decide +kernel
theorem dX8_chips_18 : decode cX8_chips 18 = .ok (.ireturn, 1) := by decide +kernel
theorem dX8_chips_19 : decode cX8_chips 19 = .ok (.aload_n 0, 1) := by decide +kernel
theorem dX8_chips_20 : decode cX8_chips 20 = .ok (.getfield 10, 3) := by decide +kernel
theorem dX8_chips_23 : decode cX8_chips 23 = .ok (.getfield 48, 3) := by decide +kernel
theorem dX8_chips_26 : decode cX8_chips 26 = .ok (.iload_n 3, 1) := by decide +kernel
theorem dX8_chips_27 : decode cX8_chips 27 = .ok (.invokevirtual 63, 3) := by decide +kernel
theorem dX8_chips_30 : decode cX8_chips 30 = .ok (.ireturn, 1) := by decide +kernel
theorem dX8_walker_0 : decode cX8_walker 0 = .ok (.aload_n 0, 1) := by decide +kernel
theorem dX8_walker_1 : decode cX8_walker 1 = .ok (.getfield 10, 3) := by decide +kernel
theorem dX8_walker_4 : decode cX8_walker 4 = .ok (.getfield 48, 3) := by decide +kernel
theorem dX8_walker_7 : decode cX8_walker 7 = .ok (.iload_n 1, 1) := by decide +kernel
theorem dX8_walker_8 : decode cX8_walker 8 = .ok (.invokevirtual 82, 3) := by decide +kernel
theorem dX8_walker_11 : decode cX8_walker 11 = .ok (.astore_n 3, 1) := by decide +kernel
theorem dX8_walker_12 : decode cX8_walker 12 = .ok (.aload_n 3, 1) := by decide +kernel
theorem dX8_walker_13 : decode cX8_walker 13 = .ok (.ifnonnull 5, 3) := by decide +kernel
theorem dX8_walker_16 : decode cX8_walker 16 = .ok (.iconst (-1), 1) := by decide +kernel
theorem dX8_walker_17 : decode cX8_walker 17 = .ok (.ireturn, 1) := by decide +kernel
theorem dX8_walker_18 : decode cX8_walker 18 = .ok (.iload_n 2, 1) := by decide +kernel
theorem dX8_walker_19 : decode cX8_walker 19 = .ok (.tableswitch 94 0 8 #[49, 54, 59, 64, 69, 74, 79, 84, 89], 49) := by decide +kernel
theorem dX8_walker_68 : decode cX8_walker 68 = .ok (.aload_n 3, 1) := by decide +kernel
theorem dX8_walker_69 : decode cX8_walker 69 = .ok (.getfield 194, 3) := by decide +kernel
theorem dX8_walker_72 : decode cX8_walker 72 = .ok (.ireturn, 1) := by decide +kernel
theorem dX8_walker_73 : decode cX8_walker 73 = .ok (.aload_n 3, 1) := by decide +kernel
theorem dX8_walker_74 : decode cX8_walker 74 = .ok (.getfield 197, 3) := by decide +kernel
theorem dX8_walker_77 : decode cX8_walker 77 = .ok (.ireturn, 1) := by decide +kernel
theorem dX8_walker_78 : decode cX8_walker 78 = .ok (.aload_n 3, 1) := by decide +kernel
theorem dX8_walker_79 : decode cX8_walker 79 = .ok (.getfield 200, 3) := by decide +kernel
theorem dX8_walker_82 : decode cX8_walker 82 = .ok (.ireturn, 1) := by decide +kernel
theorem dX8_walker_83 : decode cX8_walker 83 = .ok (.aload_n 3, 1) := by decide +kernel
theorem dX8_walker_84 : decode cX8_walker 84 = .ok (.getfield 99, 3) := by decide +kernel
theorem dX8_walker_87 : decode cX8_walker 87 = .ok (.ireturn, 1) := by decide +kernel
theorem dX8_walker_88 : decode cX8_walker 88 = .ok (.aload_n 3, 1) := by decide +kernel
theorem dX8_walker_89 : decode cX8_walker 89 = .ok (.getfield 203, 3) := by decide +kernel
theorem dX8_walker_92 : decode cX8_walker 92 = .ok (.ireturn, 1) := by decide +kernel
theorem dX8_walker_93 : decode cX8_walker 93 = .ok (.aload_n 3, 1) := by decide +kernel
theorem dX8_walker_94 : decode cX8_walker 94 = .ok (.getfield 92, 3) := by decide +kernel
theorem dX8_walker_97 : decode cX8_walker 97 = .ok (.ireturn, 1) := by decide +kernel
theorem dX8_walker_98 : decode cX8_walker 98 = .ok (.aload_n 3, 1) := by decide +kernel
theorem dX8_walker_99 : decode cX8_walker 99 = .ok (.getfield 206, 3) := by decide +kernel
theorem dX8_walker_102 : decode cX8_walker 102 = .ok (.ireturn, 1) := by decide +kernel
theorem dX8_walker_103 : decode cX8_walker 103 = .ok (.aload_n 3, 1) := by decide +kernel
theorem dX8_walker_104 : decode cX8_walker 104 = .ok (.getfield 209, 3) := by decide +kernel
theorem dX8_walker_107 : decode cX8_walker 107 = .ok (.ireturn, 1) := by decide +kernel
theorem dX8_walker_108 : decode cX8_walker 108 = .ok (.aload_n 3, 1) := by decide +kernel
theorem dX8_walker_109 : decode cX8_walker 109 = .ok (.getfield 212, 3) := by decide +kernel
theorem dX8_walker_112 : decode cX8_walker 112 = .ok (.ireturn, 1) := by decide +kernel
theorem dX8_walker_113 : decode cX8_walker 113 = .ok (.bipush (-2), 2) := by decide +kernel
theorem dX8_walker_115 : decode cX8_walker 115 = .ok (.ireturn, 1) := by decide +kernel
theorem dX8_heap_0 : decode cX8_heap 0 = .ok (.iload_n 1, 1) := by decide +kernel
theorem dX8_heap_1 : decode cX8_heap 1 = .ok (.ifCond .lt 12, 3) := by decide +kernel
theorem dX8_heap_4 : decode cX8_heap 4 = .ok (.iload_n 2, 1) := by decide +kernel
theorem dX8_heap_5 : decode cX8_heap 5 = .ok (.iconst 0, 1) := by decide +kernel
theorem dX8_heap_6 : decode cX8_heap 6 = .ok (.iconst 4, 1) := by decide +kernel
theorem dX8_heap_7 : decode cX8_heap 7 = .ok (.invokestatic 44, 3) := by decide +kernel
theorem dX8_heap_10 : decode cX8_heap 10 = .ok (.ifCond .ne 6, 3) := by decide +kernel
theorem dX8_heap_13 : decode cX8_heap 13 = .ok (.bipush (-2), 2) := by decide +kernel
theorem dX8_heap_15 : decode cX8_heap 15 = .ok (.ireturn, 1) := by decide +kernel
theorem dX8_heap_16 : decode cX8_heap 16 = .ok (.aload_n 0, 1) := by decide +kernel
theorem dX8_heap_17 : decode cX8_heap 17 = .ok (.getfield 10, 3) := by decide +kernel
theorem dX8_heap_20 : decode cX8_heap 20 = .ok (.getfield 128, 3) := by decide +kernel
theorem dX8_heap_23 : decode cX8_heap 23 = .ok (.astore_n 3, 1) := by decide +kernel
theorem dX8_heap_24 : decode cX8_heap 24 = .ok (.iload_n 1, 1) := by decide +kernel
theorem dX8_heap_25 : decode cX8_heap 25 = .ok (.aload_n 3, 1) := by decide +kernel
theorem dX8_heap_26 : decode cX8_heap 26 = .ok (.aload_n 0, 1) := by decide +kernel
theorem dX8_heap_27 : decode cX8_heap 27 = .ok (.getfield 10, 3) := by decide +kernel
theorem dX8_heap_30 : decode cX8_heap 30 = .ok (.getfield 48, 3) := by decide +kernel
theorem dX8_heap_33 : decode cX8_heap 33 = .ok (.getfield 132, 3) := by decide +kernel
theorem dX8_heap_36 : decode cX8_heap 36 = .ok (.invokevirtual 136, 3) := by decide +kernel
theorem dX8_heap_39 : decode cX8_heap 39 = .ok (.if_icmp .lt 6, 3) := by decide +kernel
theorem dX8_heap_42 : decode cX8_heap 42 = .ok (.bipush (-5), 2) := by decide +kernel
theorem dX8_heap_44 : decode cX8_heap 44 = .ok (.ireturn, 1) := by decide +kernel
theorem dX8_heap_45 : decode cX8_heap 45 = .ok (.aload_n 3, 1) := by decide +kernel
theorem dX8_heap_46 : decode cX8_heap 46 = .ok (.iload_n 1, 1) := by decide +kernel
theorem dX8_heap_47 : decode cX8_heap 47 = .ok (.invokevirtual 215, 3) := by decide +kernel
theorem dX8_heap_50 : decode cX8_heap 50 = .ok (.istore 4, 2) := by decide +kernel
theorem dX8_heap_52 : decode cX8_heap 52 = .ok (.iload 4, 2) := by decide +kernel
theorem dX8_heap_54 : decode cX8_heap 54 = .ok (.ifCond .lt 11, 3) := by decide +kernel
theorem dX8_heap_57 : decode cX8_heap 57 = .ok (.iload 4, 2) := by decide +kernel
theorem dX8_heap_59 : decode cX8_heap 59 = .ok (.sipush 128, 3) := by decide +kernel
theorem dX8_heap_62 : decode cX8_heap 62 = .ok (.if_icmp .lt 6, 3) := by decide +kernel
theorem dX8_heap_65 : decode cX8_heap 65 = .ok (.bipush (-5), 2) := by decide +kernel
theorem dX8_heap_67 : decode cX8_heap 67 = .ok (.ireturn, 1) := by decide +kernel
theorem dX8_heap_68 : decode cX8_heap 68 = .ok (.iload_n 2, 1) := by decide +kernel
theorem dX8_heap_69 : decode cX8_heap 69 = .ok (.tableswitch 69 0 3 #[31, 39, 47, 58], 31) := by decide +kernel
theorem dX8_heap_100 : decode cX8_heap 100 = .ok (.aload_n 3, 1) := by decide +kernel
theorem dX8_heap_101 : decode cX8_heap 101 = .ok (.getfield 218, 3) := by decide +kernel
theorem dX8_heap_104 : decode cX8_heap 104 = .ok (.iload 4, 2) := by decide +kernel
theorem dX8_heap_106 : decode cX8_heap 106 = .ok (.iaload, 1) := by decide +kernel
theorem dX8_heap_107 : decode cX8_heap 107 = .ok (.ireturn, 1) := by decide +kernel
theorem dX8_heap_108 : decode cX8_heap 108 = .ok (.aload_n 3, 1) := by decide +kernel
theorem dX8_heap_109 : decode cX8_heap 109 = .ok (.getfield 221, 3) := by decide +kernel
theorem dX8_heap_112 : decode cX8_heap 112 = .ok (.iload 4, 2) := by decide +kernel
theorem dX8_heap_114 : decode cX8_heap 114 = .ok (.iaload, 1) := by decide +kernel
theorem dX8_heap_115 : decode cX8_heap 115 = .ok (.ireturn, 1) := by decide +kernel
theorem dX8_heap_116 : decode cX8_heap 116 = .ok (.aload_n 3, 1) := by decide +kernel
theorem dX8_heap_117 : decode cX8_heap 117 = .ok (.getfield 224, 3) := by decide +kernel
theorem dX8_heap_120 : decode cX8_heap 120 = .ok (.iload 4, 2) := by decide +kernel
theorem dX8_heap_122 : decode cX8_heap 122 = .ok (.iaload, 1) := by decide +kernel
theorem dX8_heap_123 : decode cX8_heap 123 = .ok (.bipush 16, 2) := by decide +kernel
theorem dX8_heap_125 : decode cX8_heap 125 = .ok (.idiv, 1) := by decide +kernel
theorem dX8_heap_126 : decode cX8_heap 126 = .ok (.ireturn, 1) := by decide +kernel
theorem dX8_heap_127 : decode cX8_heap 127 = .ok (.aload_n 3, 1) := by decide +kernel
theorem dX8_heap_128 : decode cX8_heap 128 = .ok (.getfield 224, 3) := by decide +kernel
theorem dX8_heap_131 : decode cX8_heap 131 = .ok (.iload 4, 2) := by decide +kernel
theorem dX8_heap_133 : decode cX8_heap 133 = .ok (.iaload, 1) := by decide +kernel
theorem dX8_heap_134 : decode cX8_heap 134 = .ok (.bipush 16, 2) := by decide +kernel
theorem dX8_heap_136 : decode cX8_heap 136 = .ok (.irem, 1) := by decide +kernel
theorem dX8_heap_137 : decode cX8_heap 137 = .ok (.ireturn, 1) := by decide +kernel
theorem dX8_heap_138 : decode cX8_heap 138 = .ok (.aload_n 3, 1) := by decide +kernel
theorem dX8_heap_139 : decode cX8_heap 139 = .ok (.aload_n 0, 1) := by decide +kernel
theorem dX8_heap_140 : decode cX8_heap 140 = .ok (.getfield 10, 3) := by decide +kernel
theorem dX8_heap_143 : decode cX8_heap 143 = .ok (.getfield 48, 3) := by decide +kernel
theorem dX8_heap_146 : decode cX8_heap 146 = .ok (.getfield 132, 3) := by decide +kernel
theorem dX8_heap_149 : decode cX8_heap 149 = .ok (.iload 4, 2) := by decide +kernel
theorem dX8_heap_151 : decode cX8_heap 151 = .ok (.invokevirtual 227, 3) := by decide +kernel
theorem dX8_heap_154 : decode cX8_heap 154 = .ok (.ireturn, 1) := by decide +kernel
theorem dX8_heapOf_0 : decode cX8_heapOf 0 = .ok (.aload_n 0, 1) := by decide +kernel
theorem dX8_heapOf_1 : decode cX8_heapOf 1 = .ok (.getfield 10, 3) := by decide +kernel
theorem dX8_heapOf_4 : decode cX8_heapOf 4 = .ok (.getfield 48, 3) := by decide +kernel
theorem dX8_heapOf_7 : decode cX8_heapOf 7 = .ok (.iload_n 1, 1) := by decide +kernel
theorem dX8_heapOf_8 : decode cX8_heapOf 8 = .ok (.iload_n 2, 1) := by decide +kernel
theorem dX8_heapOf_9 : decode cX8_heapOf 9 = .ok (.invokevirtual 59, 3) := by decide +kernel
theorem dX8_heapOf_12 : decode cX8_heapOf 12 = .ok (.istore_n 3, 1) := by decide +kernel
theorem dX8_heapOf_13 : decode cX8_heapOf 13 = .ok (.iload_n 3, 1) := by decide +kernel
theorem dX8_heapOf_14 : decode cX8_heapOf 14 = .ok (.ifCond .ge 5, 3) := by decide +kernel
theorem dX8_heapOf_17 : decode cX8_heapOf 17 = .ok (.iconst (-1), 1) := by decide +kernel
theorem dX8_heapOf_18 : decode cX8_heapOf 18 = .ok (.ireturn, 1) := by decide +kernel
theorem dX8_heapOf_19 : decode cX8_heapOf 19 = .ok (.aload_n 0, 1) := by decide +kernel
theorem dX8_heapOf_20 : decode cX8_heapOf 20 = .ok (.getfield 10, 3) := by decide +kernel
theorem dX8_heapOf_23 : decode cX8_heapOf 23 = .ok (.getfield 48, 3) := by decide +kernel
theorem dX8_heapOf_26 : decode cX8_heapOf 26 = .ok (.iload_n 3, 1) := by decide +kernel
theorem dX8_heapOf_27 : decode cX8_heapOf 27 = .ok (.invokevirtual 63, 3) := by decide +kernel
theorem dX8_heapOf_30 : decode cX8_heapOf 30 = .ok (.ifCond .ne 6, 3) := by decide +kernel
theorem dX8_heapOf_33 : decode cX8_heapOf 33 = .ok (.bipush (-5), 2) := by decide +kernel
theorem dX8_heapOf_35 : decode cX8_heapOf 35 = .ok (.ireturn, 1) := by decide +kernel
theorem dX8_heapOf_36 : decode cX8_heapOf 36 = .ok (.aload_n 0, 1) := by decide +kernel
theorem dX8_heapOf_37 : decode cX8_heapOf 37 = .ok (.getfield 10, 3) := by decide +kernel
theorem dX8_heapOf_40 : decode cX8_heapOf 40 = .ok (.getfield 128, 3) := by decide +kernel
theorem dX8_heapOf_43 : decode cX8_heapOf 43 = .ok (.aload_n 0, 1) := by decide +kernel
theorem dX8_heapOf_44 : decode cX8_heapOf 44 = .ok (.getfield 10, 3) := by decide +kernel
theorem dX8_heapOf_47 : decode cX8_heapOf 47 = .ok (.getfield 48, 3) := by decide +kernel
theorem dX8_heapOf_50 : decode cX8_heapOf 50 = .ok (.getfield 132, 3) := by decide +kernel
theorem dX8_heapOf_53 : decode cX8_heapOf 53 = .ok (.invokevirtual 136, 3) := by decide +kernel
theorem dX8_heapOf_56 : decode cX8_heapOf 56 = .ok (.pop, 1) := by decide +kernel
theorem dX8_heapOf_57 : decode cX8_heapOf 57 = .ok (.aload_n 0, 1) := by decide +kernel
theorem dX8_heapOf_58 : decode cX8_heapOf 58 = .ok (.getfield 10, 3) := by decide +kernel
theorem dX8_heapOf_61 : decode cX8_heapOf 61 = .ok (.getfield 128, 3) := by decide +kernel
theorem dX8_heapOf_64 : decode cX8_heapOf 64 = .ok (.aload_n 0, 1) := by decide +kernel
theorem dX8_heapOf_65 : decode cX8_heapOf 65 = .ok (.getfield 10, 3) := by decide +kernel
theorem dX8_heapOf_68 : decode cX8_heapOf 68 = .ok (.getfield 128, 3) := by decide +kernel
theorem dX8_heapOf_71 : decode cX8_heapOf 71 = .ok (.iload_n 3, 1) := by decide +kernel
theorem dX8_heapOf_72 : decode cX8_heapOf 72 = .ok (.invokevirtual 231, 3) := by decide +kernel
theorem dX8_heapOf_75 : decode cX8_heapOf 75 = .ok (.invokevirtual 234, 3) := by decide +kernel
theorem dX8_heapOf_78 : decode cX8_heapOf 78 = .ok (.ireturn, 1) := by decide +kernel
theorem dX8_roundsUntil_0 : decode cX8_roundsUntil 0 = .ok (.iload_n 1, 1) := by decide +kernel
theorem dX8_roundsUntil_1 : decode cX8_roundsUntil 1 = .ok (.iconst 0, 1) := by decide +kernel
theorem dX8_roundsUntil_2 : decode cX8_roundsUntil 2 = .ok (.sipush 256, 3) := by decide +kernel
theorem dX8_roundsUntil_5 : decode cX8_roundsUntil 5 = .ok (.invokestatic 44, 3) := by decide +kernel
theorem dX8_roundsUntil_8 : decode cX8_roundsUntil 8 = .ok (.ifCond .ne 6, 3) := by decide +kernel
theorem dX8_roundsUntil_11 : decode cX8_roundsUntil 11 = .ok (.bipush (-2), 2) := by decide +kernel
theorem dX8_roundsUntil_13 : decode cX8_roundsUntil 13 = .ok (.ireturn, 1) := by decide +kernel
theorem dX8_roundsUntil_14 : decode cX8_roundsUntil 14 = .ok (.aload_n 0, 1) := by decide +kernel
theorem dX8_roundsUntil_15 : decode cX8_roundsUntil 15 = .ok (.getfield 10, 3) := by decide +kernel
theorem dX8_roundsUntil_18 : decode cX8_roundsUntil 18 = .ok (.getfield 128, 3) := by decide +kernel
theorem dX8_roundsUntil_21 : decode cX8_roundsUntil 21 = .ok (.aload_n 0, 1) := by decide +kernel
theorem dX8_roundsUntil_22 : decode cX8_roundsUntil 22 = .ok (.getfield 10, 3) := by decide +kernel
theorem dX8_roundsUntil_25 : decode cX8_roundsUntil 25 = .ok (.getfield 48, 3) := by decide +kernel
theorem dX8_roundsUntil_28 : decode cX8_roundsUntil 28 = .ok (.getfield 132, 3) := by decide +kernel
theorem dX8_roundsUntil_31 : decode cX8_roundsUntil 31 = .ok (.invokevirtual 136, 3) := by decide +kernel
theorem dX8_roundsUntil_34 : decode cX8_roundsUntil 34 = .ok (.iload_n 1, 1) := by decide +kernel
theorem dX8_roundsUntil_35 : decode cX8_roundsUntil 35 = .ok (.if_icmp .gt 5, 3) := by decide +kernel
theorem dX8_roundsUntil_38 : decode cX8_roundsUntil 38 = .ok (.iconst 0, 1) := by decide +kernel
theorem dX8_roundsUntil_39 : decode cX8_roundsUntil 39 = .ok (.ireturn, 1) := by decide +kernel
theorem dX8_roundsUntil_40 : decode cX8_roundsUntil 40 = .ok (.aload_n 0, 1) := by decide +kernel
theorem dX8_roundsUntil_41 : decode cX8_roundsUntil 41 = .ok (.getfield 10, 3) := by decide +kernel
theorem dX8_roundsUntil_44 : decode cX8_roundsUntil 44 = .ok (.getfield 48, 3) := by decide +kernel
theorem dX8_roundsUntil_47 : decode cX8_roundsUntil 47 = .ok (.getfield 78, 3) := by decide +kernel
theorem dX8_roundsUntil_50 : decode cX8_roundsUntil 50 = .ok (.ifCond .ne 6, 3) := by decide +kernel
theorem dX8_roundsUntil_53 : decode cX8_roundsUntil 53 = .ok (.bipush (-5), 2) := by decide +kernel
theorem dX8_roundsUntil_55 : decode cX8_roundsUntil 55 = .ok (.ireturn, 1) := by decide +kernel
theorem dX8_roundsUntil_56 : decode cX8_roundsUntil 56 = .ok (.aload_n 0, 1) := by decide +kernel
theorem dX8_roundsUntil_57 : decode cX8_roundsUntil 57 = .ok (.getfield 40, 3) := by decide +kernel
theorem dX8_roundsUntil_60 : decode cX8_roundsUntil 60 = .ok (.aload_n 0, 1) := by decide +kernel
theorem dX8_roundsUntil_61 : decode cX8_roundsUntil 61 = .ok (.getfield 10, 3) := by decide +kernel
theorem dX8_roundsUntil_64 : decode cX8_roundsUntil 64 = .ok (.getfield 48, 3) := by decide +kernel
theorem dX8_roundsUntil_67 : decode cX8_roundsUntil 67 = .ok (.invokevirtual 184, 3) := by decide +kernel
theorem dX8_roundsUntil_70 : decode cX8_roundsUntil 70 = .ok (.bipush (-5), 2) := by decide +kernel
theorem dX8_roundsUntil_72 : decode cX8_roundsUntil 72 = .ok (.istore_n 2, 1) := by decide +kernel
theorem dX8_roundsUntil_73 : decode cX8_roundsUntil 73 = .ok (.iconst 1, 1) := by decide +kernel
theorem dX8_roundsUntil_74 : decode cX8_roundsUntil 74 = .ok (.istore_n 3, 1) := by decide +kernel
theorem dX8_roundsUntil_75 : decode cX8_roundsUntil 75 = .ok (.iload_n 3, 1) := by decide +kernel
theorem dX8_roundsUntil_76 : decode cX8_roundsUntil 76 = .ok (.sipush 200, 3) := by decide +kernel
theorem dX8_roundsUntil_79 : decode cX8_roundsUntil 79 = .ok (.if_icmp .gt 49, 3) := by decide +kernel
theorem dX8_roundsUntil_82 : decode cX8_roundsUntil 82 = .ok (.iload_n 2, 1) := by decide +kernel
theorem dX8_roundsUntil_83 : decode cX8_roundsUntil 83 = .ok (.bipush (-5), 2) := by decide +kernel
theorem dX8_roundsUntil_85 : decode cX8_roundsUntil 85 = .ok (.if_icmp .ne 43, 3) := by decide +kernel
theorem dX8_roundsUntil_88 : decode cX8_roundsUntil 88 = .ok (.aload_n 0, 1) := by decide +kernel
theorem dX8_roundsUntil_89 : decode cX8_roundsUntil 89 = .ok (.getfield 10, 3) := by decide +kernel
theorem dX8_roundsUntil_92 : decode cX8_roundsUntil 92 = .ok (.iconst 1, 1) := by decide +kernel
theorem dX8_roundsUntil_93 : decode cX8_roundsUntil 93 = .ok (.invokevirtual 125, 3) := by decide +kernel
theorem dX8_roundsUntil_96 : decode cX8_roundsUntil 96 = .ok (.aload_n 0, 1) := by decide +kernel
theorem dX8_roundsUntil_97 : decode cX8_roundsUntil 97 = .ok (.getfield 10, 3) := by decide +kernel
theorem dX8_roundsUntil_100 : decode cX8_roundsUntil 100 = .ok (.getfield 128, 3) := by decide +kernel
theorem dX8_roundsUntil_103 : decode cX8_roundsUntil 103 = .ok (.aload_n 0, 1) := by decide +kernel
theorem dX8_roundsUntil_104 : decode cX8_roundsUntil 104 = .ok (.getfield 10, 3) := by decide +kernel
theorem dX8_roundsUntil_107 : decode cX8_roundsUntil 107 = .ok (.getfield 48, 3) := by decide +kernel
theorem dX8_roundsUntil_110 : decode cX8_roundsUntil 110 = .ok (.getfield 132, 3) := by decide +kernel
theorem dX8_roundsUntil_113 : decode cX8_roundsUntil 113 = .ok (.invokevirtual 136, 3) := by decide +kernel
theorem dX8_roundsUntil_116 : decode cX8_roundsUntil 116 = .ok (.iload_n 1, 1) := by decide +kernel
theorem dX8_roundsUntil_117 : decode cX8_roundsUntil 117 = .ok (.if_icmp .gt 5, 3) := by decide +kernel
theorem dX8_roundsUntil_120 : decode cX8_roundsUntil 120 = .ok (.iload_n 3, 1) := by decide +kernel
theorem dX8_roundsUntil_121 : decode cX8_roundsUntil 121 = .ok (.istore_n 2, 1) := by decide +kernel
theorem dX8_roundsUntil_122 : decode cX8_roundsUntil 122 = .ok (.iinc 3 1, 3) := by decide +kernel
theorem dX8_roundsUntil_125 : decode cX8_roundsUntil 125 = .ok (.goto (-50), 3) := by decide +kernel
theorem dX8_roundsUntil_128 : decode cX8_roundsUntil 128 = .ok (.aload_n 0, 1) := by decide +kernel
theorem dX8_roundsUntil_129 : decode cX8_roundsUntil 129 = .ok (.getfield 10, 3) := by decide +kernel
theorem dX8_roundsUntil_132 : decode cX8_roundsUntil 132 = .ok (.aload_n 0, 1) := by decide +kernel
theorem dX8_roundsUntil_133 : decode cX8_roundsUntil 133 = .ok (.getfield 40, 3) := by decide +kernel
theorem dX8_roundsUntil_136 : decode cX8_roundsUntil 136 = .ok (.invokevirtual 173, 3) := by decide +kernel
theorem dX8_roundsUntil_139 : decode cX8_roundsUntil 139 = .ok (.iload_n 2, 1) := by decide +kernel
theorem dX8_roundsUntil_140 : decode cX8_roundsUntil 140 = .ok (.ireturn, 1) := by decide +kernel
theorem dX8_turn_0 : decode cX8_turn 0 = .ok (.iload_n 1, 1) := by decide +kernel
theorem dX8_turn_1 : decode cX8_turn 1 = .ok (.ifCond .ge 6, 3) := by decide +kernel
theorem dX8_turn_4 : decode cX8_turn 4 = .ok (.bipush (-2), 2) := by decide +kernel
theorem dX8_turn_6 : decode cX8_turn 6 = .ok (.ireturn, 1) := by decide +kernel
theorem dX8_turn_7 : decode cX8_turn 7 = .ok (.aload_n 0, 1) := by decide +kernel
theorem dX8_turn_8 : decode cX8_turn 8 = .ok (.getfield 10, 3) := by decide +kernel
theorem dX8_turn_11 : decode cX8_turn 11 = .ok (.getfield 48, 3) := by decide +kernel
theorem dX8_turn_14 : decode cX8_turn 14 = .ok (.getfield 106, 3) := by decide +kernel
theorem dX8_turn_17 : decode cX8_turn 17 = .ok (.astore_n 2, 1) := by decide +kernel
theorem dX8_turn_18 : decode cX8_turn 18 = .ok (.iload_n 1, 1) := by decide +kernel
theorem dX8_turn_19 : decode cX8_turn 19 = .ok (.aload_n 2, 1) := by decide +kernel
theorem dX8_turn_20 : decode cX8_turn 20 = .ok (.getfield 110, 3) := by decide +kernel
theorem dX8_turn_23 : decode cX8_turn 23 = .ok (.if_icmp .ge 9, 3) := by decide +kernel
theorem dX8_turn_26 : decode cX8_turn 26 = .ok (.iload_n 1, 1) := by decide +kernel
theorem dX8_turn_27 : decode cX8_turn 27 = .ok (.bipush 30, 2) := by decide +kernel
theorem dX8_turn_29 : decode cX8_turn 29 = .ok (.if_icmp .lt 6, 3) := by decide +kernel
theorem dX8_turn_32 : decode cX8_turn 32 = .ok (.bipush (-5), 2) := by decide +kernel
theorem dX8_turn_34 : decode cX8_turn 34 = .ok (.ireturn, 1) := by decide +kernel
theorem dX8_turn_35 : decode cX8_turn 35 = .ok (.aload_n 2, 1) := by decide +kernel
theorem dX8_turn_36 : decode cX8_turn 36 = .ok (.getfield 237, 3) := by decide +kernel
theorem dX8_turn_39 : decode cX8_turn 39 = .ok (.iload_n 1, 1) := by decide +kernel
theorem dX8_turn_40 : decode cX8_turn 40 = .ok (.iaload, 1) := by decide +kernel
theorem dX8_turn_41 : decode cX8_turn 41 = .ok (.ireturn, 1) := by decide +kernel
theorem dX8_count_0 : decode cX8_count 0 = .ok (.aload_n 0, 1) := by decide +kernel
theorem dX8_count_1 : decode cX8_count 1 = .ok (.getfield 10, 3) := by decide +kernel
theorem dX8_count_4 : decode cX8_count 4 = .ok (.getfield 48, 3) := by decide +kernel
theorem dX8_count_7 : decode cX8_count 7 = .ok (.astore_n 2, 1) := by decide +kernel
theorem dX8_count_8 : decode cX8_count 8 = .ok (.iload_n 1, 1) := by decide +kernel
theorem dX8_count_9 : decode cX8_count 9 = .ok (.tableswitch 154 0 12 #[67, 72, 77, 82, 87, 92, 107, 112, 117, 122, 130, 138, 146], 67) := by decide +kernel
theorem dX8_count_76 : decode cX8_count 76 = .ok (.aload_n 2, 1) := by decide +kernel
theorem dX8_count_77 : decode cX8_count 77 = .ok (.getfield 240, 3) := by decide +kernel
theorem dX8_count_80 : decode cX8_count 80 = .ok (.ireturn, 1) := by decide +kernel
theorem dX8_count_81 : decode cX8_count 81 = .ok (.aload_n 2, 1) := by decide +kernel
theorem dX8_count_82 : decode cX8_count 82 = .ok (.getfield 243, 3) := by decide +kernel
theorem dX8_count_85 : decode cX8_count 85 = .ok (.ireturn, 1) := by decide +kernel
theorem dX8_count_86 : decode cX8_count 86 = .ok (.aload_n 2, 1) := by decide +kernel
theorem dX8_count_87 : decode cX8_count 87 = .ok (.getfield 78, 3) := by decide +kernel
theorem dX8_count_90 : decode cX8_count 90 = .ok (.ireturn, 1) := by decide +kernel
theorem dX8_count_91 : decode cX8_count 91 = .ok (.aload_n 2, 1) := by decide +kernel
theorem dX8_count_92 : decode cX8_count 92 = .ok (.invokevirtual 191, 3) := by decide +kernel
theorem dX8_count_95 : decode cX8_count 95 = .ok (.ireturn, 1) := by decide +kernel
theorem dX8_count_96 : decode cX8_count 96 = .ok (.aload_n 2, 1) := by decide +kernel
theorem dX8_count_97 : decode cX8_count 97 = .ok (.invokevirtual 246, 3) := by decide +kernel
theorem dX8_count_100 : decode cX8_count 100 = .ok (.ireturn, 1) := by decide +kernel
theorem dX8_count_101 : decode cX8_count 101 = .ok (.aload_n 0, 1) := by decide +kernel
theorem dX8_count_102 : decode cX8_count 102 = .ok (.getfield 10, 3) := by decide +kernel
theorem dX8_count_105 : decode cX8_count 105 = .ok (.getfield 128, 3) := by decide +kernel
theorem dX8_count_108 : decode cX8_count 108 = .ok (.aload_n 2, 1) := by decide +kernel
theorem dX8_count_109 : decode cX8_count 109 = .ok (.getfield 132, 3) := by decide +kernel
theorem dX8_count_112 : decode cX8_count 112 = .ok (.invokevirtual 136, 3) := by decide +kernel
theorem dX8_count_115 : decode cX8_count 115 = .ok (.ireturn, 1) := by decide +kernel
theorem dX8_count_116 : decode cX8_count 116 = .ok (.aload_n 2, 1) := by decide +kernel
theorem dX8_count_117 : decode cX8_count 117 = .ok (.getfield 249, 3) := by decide +kernel
theorem dX8_count_120 : decode cX8_count 120 = .ok (.ireturn, 1) := by decide +kernel
theorem dX8_count_121 : decode cX8_count 121 = .ok (.aload_n 2, 1) := by decide +kernel
theorem dX8_count_122 : decode cX8_count 122 = .ok (.getfield 252, 3) := by decide +kernel
theorem dX8_count_125 : decode cX8_count 125 = .ok (.ireturn, 1) := by decide +kernel
theorem dX8_count_126 : decode cX8_count 126 = .ok (.aload_n 2, 1) := by decide +kernel
theorem dX8_count_127 : decode cX8_count 127 = .ok (.invokevirtual 151, 3) := by decide +kernel
theorem dX8_count_130 : decode cX8_count 130 = .ok (.ireturn, 1) := by decide +kernel
theorem dX8_count_131 : decode cX8_count 131 = .ok (.aload_n 2, 1) := by decide +kernel
theorem dX8_count_132 : decode cX8_count 132 = .ok (.getfield 106, 3) := by decide +kernel
theorem dX8_count_135 : decode cX8_count 135 = .ok (.getfield 255, 3) := by decide +kernel
theorem dX8_count_138 : decode cX8_count 138 = .ok (.ireturn, 1) := by decide +kernel
theorem dX8_count_139 : decode cX8_count 139 = .ok (.aload_n 2, 1) := by decide +kernel
theorem dX8_count_140 : decode cX8_count 140 = .ok (.getfield 106, 3) := by decide +kernel
theorem dX8_count_143 : decode cX8_count 143 = .ok (.getfield 110, 3) := by decide +kernel
theorem dX8_count_146 : decode cX8_count 146 = .ok (.ireturn, 1) := by decide +kernel
theorem dX8_count_147 : decode cX8_count 147 = .ok (.aload_n 0, 1) := by decide +kernel
theorem dX8_count_148 : decode cX8_count 148 = .ok (.getfield 19, 3) := by decide +kernel
theorem dX8_count_151 : decode cX8_count 151 = .ok (.getfield 176, 3) := by decide +kernel
theorem dX8_count_154 : decode cX8_count 154 = .ok (.ireturn, 1) := by decide +kernel
theorem dX8_count_155 : decode cX8_count 155 = .ok (.aload_n 0, 1) := by decide +kernel
theorem dX8_count_156 : decode cX8_count 156 = .ok (.getfield 26, 3) := by decide +kernel
theorem dX8_count_159 : decode cX8_count 159 = .ok (.getfield 145, 3) := by decide +kernel
theorem dX8_count_162 : decode cX8_count 162 = .ok (.ireturn, 1) := by decide +kernel
theorem dX8_count_163 : decode cX8_count 163 = .ok (.bipush (-2), 2) := by decide +kernel
theorem dX8_count_165 : decode cX8_count 165 = .ok (.ireturn, 1) := by decide +kernel
theorem dX8_isBetween_0 : decode cX8_isBetween 0 = .ok (.iload_n 0, 1) := by decide +kernel
theorem dX8_isBetween_1 : decode cX8_isBetween 1 = .ok (.iload_n 1, 1) := by decide +kernel
theorem dX8_isBetween_2 : decode cX8_isBetween 2 = .ok (.if_icmp .lt 12, 3) := by decide +kernel
theorem dX8_isBetween_5 : decode cX8_isBetween 5 = .ok (.iload_n 0, 1) := by decide +kernel
theorem dX8_isBetween_6 : decode cX8_isBetween 6 = .ok (.iload_n 2, 1) := by decide +kernel
theorem dX8_isBetween_7 : decode cX8_isBetween 7 = .ok (.if_icmp .gt 7, 3) := by decide +kernel
theorem dX8_isBetween_10 : decode cX8_isBetween 10 = .ok (.iconst 1, 1) := by decide +kernel
theorem dX8_isBetween_11 : decode cX8_isBetween 11 = .ok (.goto 4, 3) := by decide +kernel
theorem dX8_isBetween_14 : decode cX8_isBetween 14 = .ok (.iconst 0, 1) := by decide +kernel
theorem dX8_isBetween_15 : decode cX8_isBetween 15 = .ok (.ireturn, 1) := by decide +kernel
theorem dX8_isSort_0 : decode cX8_isSort 0 = .ok (.iload_n 0, 1) := by decide +kernel
theorem dX8_isSort_1 : decode cX8_isSort 1 = .ok (.iconst 0, 1) := by decide +kernel
theorem dX8_isSort_2 : decode cX8_isSort 2 = .ok (.iconst 2, 1) := by decide +kernel
theorem dX8_isSort_3 : decode cX8_isSort 3 = .ok (.invokestatic 44, 3) := by decide +kernel
theorem dX8_isSort_6 : decode cX8_isSort 6 = .ok (.ireturn, 1) := by decide +kernel
theorem dX8_slotAt_0 : decode cX8_slotAt 0 = .ok (.iload_n 1, 1) := by decide +kernel
theorem dX8_slotAt_1 : decode cX8_slotAt 1 = .ok (.ifCond .lt 12, 3) := by decide +kernel
theorem dX8_slotAt_4 : decode cX8_slotAt 4 = .ok (.iload_n 1, 1) := by decide +kernel
theorem dX8_slotAt_5 : decode cX8_slotAt 5 = .ok (.aload_n 0, 1) := by decide +kernel
theorem dX8_slotAt_6 : decode cX8_slotAt 6 = .ok (.getfield 32, 3) := by decide +kernel
theorem dX8_slotAt_9 : decode cX8_slotAt 9 = .ok (.arraylength, 1) := by decide +kernel
theorem dX8_slotAt_10 : decode cX8_slotAt 10 = .ok (.if_icmp .lt 5, 3) := by decide +kernel
theorem dX8_slotAt_13 : decode cX8_slotAt 13 = .ok (.aconst_null, 1) := by decide +kernel
theorem dX8_slotAt_14 : decode cX8_slotAt 14 = .ok (.areturn, 1) := by decide +kernel
theorem dX8_slotAt_15 : decode cX8_slotAt 15 = .ok (.aload_n 0, 1) := by decide +kernel
theorem dX8_slotAt_16 : decode cX8_slotAt 16 = .ok (.getfield 32, 3) := by decide +kernel
theorem dX8_slotAt_19 : decode cX8_slotAt 19 = .ok (.iload_n 1, 1) := by decide +kernel
theorem dX8_slotAt_20 : decode cX8_slotAt 20 = .ok (.aaload, 1) := by decide +kernel
theorem dX8_slotAt_21 : decode cX8_slotAt 21 = .ok (.areturn, 1) := by decide +kernel
theorem dJ9_max_7cf53_0 : decode cJ9_max_7cf53 0 = .ok (.iload_n 0, 1) := by decide +kernel
theorem dJ9_max_7cf53_1 : decode cJ9_max_7cf53 1 = .ok (.iload_n 1, 1) := by decide +kernel
theorem dJ9_max_7cf53_2 : decode cJ9_max_7cf53 2 = .ok (.if_icmp .lt 7, 3) := by decide +kernel
theorem dJ9_max_7cf53_5 : decode cJ9_max_7cf53 5 = .ok (.iload_n 0, 1) := by decide +kernel
theorem dJ9_max_7cf53_6 : decode cJ9_max_7cf53 6 = .ok (.goto 4, 3) := by decide +kernel
theorem dJ9_max_7cf53_9 : decode cJ9_max_7cf53 9 = .ok (.iload_n 1, 1) := by decide +kernel
theorem dJ9_max_7cf53_10 : decode cJ9_max_7cf53 10 = .ok (.ireturn, 1) := by decide +kernel
theorem dJ9_min_7cf53_0 : decode cJ9_min_7cf53 0 = .ok (.iload_n 0, 1) := by decide +kernel
theorem dJ9_min_7cf53_1 : decode cJ9_min_7cf53 1 = .ok (.iload_n 1, 1) := by decide +kernel
theorem dJ9_min_7cf53_2 : decode cJ9_min_7cf53 2 = .ok (.if_icmp .gt 7, 3) := by decide +kernel
theorem dJ9_min_7cf53_5 : decode cJ9_min_7cf53 5 = .ok (.iload_n 0, 1) := by decide +kernel
theorem dJ9_min_7cf53_6 : decode cJ9_min_7cf53 6 = .ok (.goto 4, 3) := by decide +kernel
theorem dJ9_min_7cf53_9 : decode cJ9_min_7cf53 9 = .ok (.iload_n 1, 1) := by decide +kernel
theorem dJ9_min_7cf53_10 : decode cJ9_min_7cf53 10 = .ok (.ireturn, 1) := by decide +kernel
theorem dJ7_fill_53178_0 : decode cJ7_fill_53178 0 = .ok (.iconst 0, 1) := by decide +kernel
theorem dJ7_fill_53178_1 : decode cJ7_fill_53178 1 = .ok (.istore_n 2, 1) := by decide +kernel
theorem dJ7_fill_53178_2 : decode cJ7_fill_53178 2 = .ok (.aload_n 0, 1) := by decide +kernel
theorem dJ7_fill_53178_3 : decode cJ7_fill_53178 3 = .ok (.arraylength, 1) := by decide +kernel
theorem dJ7_fill_53178_4 : decode cJ7_fill_53178 4 = .ok (.istore_n 3, 1) := by decide +kernel
theorem dJ7_fill_53178_5 : decode cJ7_fill_53178 5 = .ok (.iload_n 2, 1) := by decide +kernel
theorem dJ7_fill_53178_6 : decode cJ7_fill_53178 6 = .ok (.iload_n 3, 1) := by decide +kernel
theorem dJ7_fill_53178_7 : decode cJ7_fill_53178 7 = .ok (.if_icmp .ge 13, 3) := by decide +kernel
theorem dJ7_fill_53178_10 : decode cJ7_fill_53178 10 = .ok (.aload_n 0, 1) := by decide +kernel
theorem dJ7_fill_53178_11 : decode cJ7_fill_53178 11 = .ok (.iload_n 2, 1) := by decide +kernel
theorem dJ7_fill_53178_12 : decode cJ7_fill_53178 12 = .ok (.iload_n 1, 1) := by decide +kernel
theorem dJ7_fill_53178_13 : decode cJ7_fill_53178 13 = .ok (.iastore, 1) := by decide +kernel
theorem dJ7_fill_53178_14 : decode cJ7_fill_53178 14 = .ok (.iinc 2 1, 3) := by decide +kernel
theorem dJ7_fill_53178_17 : decode cJ7_fill_53178 17 = .ok (.goto (-12), 3) := by decide +kernel
theorem dJ7_fill_53178_20 : decode cJ7_fill_53178 20 = .ok (.return_, 1) := by decide +kernel
theorem dL_cell_0 : decode cL_cell 0 = .ok (.iload_n 1, 1) := by decide +kernel
theorem dL_cell_1 : decode cL_cell 1 = .ok (.aload_n 0, 1) := by decide +kernel
theorem dL_cell_2 : decode cL_cell 2 = .ok (.arraylength, 1) := by decide +kernel
theorem dL_cell_3 : decode cL_cell 3 = .ok (.if_icmp .ge 9, 3) := by decide +kernel
theorem dL_cell_6 : decode cL_cell 6 = .ok (.aload_n 0, 1) := by decide +kernel
theorem dL_cell_7 : decode cL_cell 7 = .ok (.iload_n 1, 1) := by decide +kernel
theorem dL_cell_8 : decode cL_cell 8 = .ok (.iaload, 1) := by decide +kernel
theorem dL_cell_9 : decode cL_cell 9 = .ok (.goto 11, 3) := by decide +kernel
theorem dL_cell_12 : decode cL_cell 12 = .ok (.ldc 7, 2) := by decide +kernel
theorem dL_cell_14 : decode cL_cell 14 = .ok (.iload_n 1, 1) := by decide +kernel
theorem dL_cell_15 : decode cL_cell 15 = .ok (.imul, 1) := by decide +kernel
theorem dL_cell_16 : decode cL_cell 16 = .ok (.sipush 7603, 3) := by decide +kernel
theorem dL_cell_19 : decode cL_cell 19 = .ok (.iadd, 1) := by decide +kernel
theorem dL_cell_20 : decode cL_cell 20 = .ok (.ireturn, 1) := by decide +kernel
theorem dL_low_0 : decode cL_low 0 = .ok (.iload_n 0, 1) := by decide +kernel
theorem dL_low_1 : decode cL_low 1 = .ok (.ldc 8, 2) := by decide +kernel
theorem dL_low_3 : decode cL_low 3 = .ok (.iand, 1) := by decide +kernel
theorem dL_low_4 : decode cL_low 4 = .ok (.iload_n 1, 1) := by decide +kernel
theorem dL_low_5 : decode cL_low 5 = .ok (.irem, 1) := by decide +kernel
theorem dL_low_6 : decode cL_low 6 = .ok (.ireturn, 1) := by decide +kernel
theorem dL_heaps_0 : decode cL_heaps 0 = .ok (.aload_n 0, 1) := by decide +kernel
theorem dL_heaps_1 : decode cL_heaps 1 = .ok (.iconst 5, 1) := by decide +kernel
theorem dL_heaps_2 : decode cL_heaps 2 = .ok (.invokevirtual 9, 3) := by decide +kernel
theorem dL_heaps_5 : decode cL_heaps 5 = .ok (.istore_n 1, 1) := by decide +kernel
theorem dL_heaps_6 : decode cL_heaps 6 = .ok (.iconst 0, 1) := by decide +kernel
theorem dL_heaps_7 : decode cL_heaps 7 = .ok (.istore_n 2, 1) := by decide +kernel
theorem dL_heaps_8 : decode cL_heaps 8 = .ok (.iconst 0, 1) := by decide +kernel
theorem dL_heaps_9 : decode cL_heaps 9 = .ok (.istore_n 3, 1) := by decide +kernel
theorem dL_heaps_10 : decode cL_heaps 10 = .ok (.bipush 64, 2) := by decide +kernel
theorem dL_heaps_12 : decode cL_heaps 12 = .ok (.newarray .int, 2) := by decide +kernel
theorem dL_heaps_14 : decode cL_heaps 14 = .ok (.astore 4, 2) := by decide +kernel
theorem dL_heaps_16 : decode cL_heaps 16 = .ok (.bipush 64, 2) := by decide +kernel
theorem dL_heaps_18 : decode cL_heaps 18 = .ok (.newarray .int, 2) := by decide +kernel
theorem dL_heaps_20 : decode cL_heaps 20 = .ok (.astore 5, 2) := by decide +kernel
theorem dL_heaps_22 : decode cL_heaps 22 = .ok (.bipush 64, 2) := by decide +kernel
theorem dL_heaps_24 : decode cL_heaps 24 = .ok (.newarray .int, 2) := by decide +kernel
theorem dL_heaps_26 : decode cL_heaps 26 = .ok (.astore 6, 2) := by decide +kernel
theorem dL_heaps_28 : decode cL_heaps 28 = .ok (.bipush 64, 2) := by decide +kernel
theorem dL_heaps_30 : decode cL_heaps 30 = .ok (.newarray .int, 2) := by decide +kernel
theorem dL_heaps_32 : decode cL_heaps 32 = .ok (.astore 7, 2) := by decide +kernel
theorem dL_heaps_34 : decode cL_heaps 34 = .ok (.iconst 0, 1) := by decide +kernel
theorem dL_heaps_35 : decode cL_heaps 35 = .ok (.istore 8, 2) := by decide +kernel
theorem dL_heaps_37 : decode cL_heaps 37 = .ok (.iload 8, 2) := by decide +kernel
theorem dL_heaps_39 : decode cL_heaps 39 = .ok (.aload_n 0, 1) := by decide +kernel
theorem dL_heaps_40 : decode cL_heaps 40 = .ok (.iconst 0, 1) := by decide +kernel
theorem dL_heaps_41 : decode cL_heaps 41 = .ok (.invokevirtual 9, 3) := by decide +kernel
theorem dL_heaps_44 : decode cL_heaps 44 = .ok (.if_icmp .ge 254, 3) := by decide +kernel
theorem dL_heaps_47 : decode cL_heaps 47 = .ok (.iconst 0, 1) := by decide +kernel
theorem dL_heaps_48 : decode cL_heaps 48 = .ok (.istore 9, 2) := by decide +kernel
theorem dL_heaps_50 : decode cL_heaps 50 = .ok (.iload 9, 2) := by decide +kernel
theorem dL_heaps_52 : decode cL_heaps 52 = .ok (.aload_n 0, 1) := by decide +kernel
theorem dL_heaps_53 : decode cL_heaps 53 = .ok (.iconst 1, 1) := by decide +kernel
theorem dL_heaps_54 : decode cL_heaps 54 = .ok (.invokevirtual 9, 3) := by decide +kernel
theorem dL_heaps_57 : decode cL_heaps 57 = .ok (.if_icmp .ge 235, 3) := by decide +kernel
theorem dL_heaps_60 : decode cL_heaps 60 = .ok (.aload_n 0, 1) := by decide +kernel
theorem dL_heaps_61 : decode cL_heaps 61 = .ok (.iload 8, 2) := by decide +kernel
theorem dL_heaps_63 : decode cL_heaps 63 = .ok (.iload 9, 2) := by decide +kernel
theorem dL_heaps_65 : decode cL_heaps 65 = .ok (.invokevirtual 15, 3) := by decide +kernel
theorem dL_heaps_68 : decode cL_heaps 68 = .ok (.istore 10, 2) := by decide +kernel
theorem dL_heaps_70 : decode cL_heaps 70 = .ok (.aload_n 0, 1) := by decide +kernel
theorem dL_heaps_71 : decode cL_heaps 71 = .ok (.iload 8, 2) := by decide +kernel
theorem dL_heaps_73 : decode cL_heaps 73 = .ok (.iload 9, 2) := by decide +kernel
theorem dL_heaps_75 : decode cL_heaps 75 = .ok (.invokevirtual 19, 3) := by decide +kernel
theorem dL_heaps_78 : decode cL_heaps 78 = .ok (.istore 11, 2) := by decide +kernel
theorem dL_heaps_80 : decode cL_heaps 80 = .ok (.iload 10, 2) := by decide +kernel
theorem dL_heaps_82 : decode cL_heaps 82 = .ok (.ifCond .lt 41, 3) := by decide +kernel
theorem dL_heaps_85 : decode cL_heaps 85 = .ok (.iload 10, 2) := by decide +kernel
theorem dL_heaps_87 : decode cL_heaps 87 = .ok (.bipush 99, 2) := by decide +kernel
theorem dL_heaps_89 : decode cL_heaps 89 = .ok (.if_icmp .gt 34, 3) := by decide +kernel
theorem dL_heaps_92 : decode cL_heaps 92 = .ok (.iload 10, 2) := by decide +kernel
theorem dL_heaps_94 : decode cL_heaps 94 = .ok (.ifCond .ne 7, 3) := by decide +kernel
theorem dL_heaps_97 : decode cL_heaps 97 = .ok (.iconst 1, 1) := by decide +kernel
theorem dL_heaps_98 : decode cL_heaps 98 = .ok (.goto 4, 3) := by decide +kernel
theorem dL_heaps_101 : decode cL_heaps 101 = .ok (.iconst 0, 1) := by decide +kernel
theorem dL_heaps_102 : decode cL_heaps 102 = .ok (.iload 11, 2) := by decide +kernel
theorem dL_heaps_104 : decode cL_heaps 104 = .ok (.bipush (-5), 2) := by decide +kernel
theorem dL_heaps_106 : decode cL_heaps 106 = .ok (.if_icmp .ne 7, 3) := by decide +kernel
theorem dL_heaps_109 : decode cL_heaps 109 = .ok (.iconst 1, 1) := by decide +kernel
theorem dL_heaps_110 : decode cL_heaps 110 = .ok (.goto 4, 3) := by decide +kernel
theorem dL_heaps_113 : decode cL_heaps 113 = .ok (.iconst 0, 1) := by decide +kernel
theorem dL_heaps_114 : decode cL_heaps 114 = .ok (.if_icmp .ne 9, 3) := by decide +kernel
theorem dL_heaps_117 : decode cL_heaps 117 = .ok (.iload 11, 2) := by decide +kernel
theorem dL_heaps_119 : decode cL_heaps 119 = .ok (.iload_n 1, 1) := by decide +kernel
theorem dL_heaps_120 : decode cL_heaps 120 = .ok (.if_icmp .lt 5, 3) := by decide +kernel
theorem dL_heaps_123 : decode cL_heaps 123 = .ok (.iconst 0, 1) := by decide +kernel
theorem dL_heaps_124 : decode cL_heaps 124 = .ok (.ireturn, 1) := by decide +kernel
theorem dL_heaps_125 : decode cL_heaps 125 = .ok (.iload 10, 2) := by decide +kernel
theorem dL_heaps_127 : decode cL_heaps 127 = .ok (.ifCond .le 141, 3) := by decide +kernel
theorem dL_heaps_130 : decode cL_heaps 130 = .ok (.iload 11, 2) := by decide +kernel
theorem dL_heaps_132 : decode cL_heaps 132 = .ok (.bipush 64, 2) := by decide +kernel
theorem dL_heaps_134 : decode cL_heaps 134 = .ok (.if_icmp .ge 134, 3) := by decide +kernel
theorem dL_heaps_137 : decode cL_heaps 137 = .ok (.aload 6, 2) := by decide +kernel
theorem dL_heaps_139 : decode cL_heaps 139 = .ok (.iload 11, 2) := by decide +kernel
theorem dL_heaps_141 : decode cL_heaps 141 = .ok (.aload 4, 2) := by decide +kernel
theorem dL_heaps_143 : decode cL_heaps 143 = .ok (.iload 11, 2) := by decide +kernel
theorem dL_heaps_145 : decode cL_heaps 145 = .ok (.iaload, 1) := by decide +kernel
theorem dL_heaps_146 : decode cL_heaps 146 = .ok (.ifCond .ne 14, 3) := by decide +kernel
theorem dL_heaps_149 : decode cL_heaps 149 = .ok (.bipush 100, 2) := by decide +kernel
theorem dL_heaps_151 : decode cL_heaps 151 = .ok (.iload 8, 2) := by decide +kernel
theorem dL_heaps_153 : decode cL_heaps 153 = .ok (.imul, 1) := by decide +kernel
theorem dL_heaps_154 : decode cL_heaps 154 = .ok (.iload 9, 2) := by decide +kernel
theorem dL_heaps_156 : decode cL_heaps 156 = .ok (.iadd, 1) := by decide +kernel
theorem dL_heaps_157 : decode cL_heaps 157 = .ok (.goto 8, 3) := by decide +kernel
theorem dL_heaps_160 : decode cL_heaps 160 = .ok (.aload 6, 2) := by decide +kernel
theorem dL_heaps_162 : decode cL_heaps 162 = .ok (.iload 11, 2) := by decide +kernel
theorem dL_heaps_164 : decode cL_heaps 164 = .ok (.iaload, 1) := by decide +kernel
theorem dL_heaps_165 : decode cL_heaps 165 = .ok (.iastore, 1) := by decide +kernel
theorem dL_heaps_166 : decode cL_heaps 166 = .ok (.aload 4, 2) := by decide +kernel
theorem dL_heaps_168 : decode cL_heaps 168 = .ok (.iload 11, 2) := by decide +kernel
theorem dL_heaps_170 : decode cL_heaps 170 = .ok (.dup2, 1) := by decide +kernel
theorem dL_heaps_171 : decode cL_heaps 171 = .ok (.iaload, 1) := by decide +kernel
theorem dL_heaps_172 : decode cL_heaps 172 = .ok (.iconst 1, 1) := by decide +kernel
theorem dL_heaps_173 : decode cL_heaps 173 = .ok (.iadd, 1) := by decide +kernel
theorem dL_heaps_174 : decode cL_heaps 174 = .ok (.iastore, 1) := by decide +kernel
theorem dL_heaps_175 : decode cL_heaps 175 = .ok (.aload 7, 2) := by decide +kernel
theorem dL_heaps_177 : decode cL_heaps 177 = .ok (.iload 11, 2) := by decide +kernel
theorem dL_heaps_179 : decode cL_heaps 179 = .ok (.dup2, 1) := by decide +kernel
theorem dL_heaps_180 : decode cL_heaps 180 = .ok (.iaload, 1) := by decide +kernel
theorem dL_heaps_181 : decode cL_heaps 181 = .ok (.iload 10, 2) := by decide +kernel
theorem dL_heaps_183 : decode cL_heaps 183 = .ok (.iadd, 1) := by decide +kernel
theorem dL_heaps_184 : decode cL_heaps 184 = .ok (.iastore, 1) := by decide +kernel
theorem dL_heaps_185 : decode cL_heaps 185 = .ok (.aload 5, 2) := by decide +kernel
theorem dL_heaps_187 : decode cL_heaps 187 = .ok (.iload 11, 2) := by decide +kernel
theorem dL_heaps_189 : decode cL_heaps 189 = .ok (.iload 10, 2) := by decide +kernel
theorem dL_heaps_191 : decode cL_heaps 191 = .ok (.aload 5, 2) := by decide +kernel
theorem dL_heaps_193 : decode cL_heaps 193 = .ok (.iload 11, 2) := by decide +kernel
theorem dL_heaps_195 : decode cL_heaps 195 = .ok (.iaload, 1) := by decide +kernel
theorem dL_heaps_196 : decode cL_heaps 196 = .ok (.if_icmp .le 8, 3) := by decide +kernel
theorem dL_heaps_199 : decode cL_heaps 199 = .ok (.iload 10, 2) := by decide +kernel
theorem dL_heaps_201 : decode cL_heaps 201 = .ok (.goto 8, 3) := by decide +kernel
theorem dL_heaps_204 : decode cL_heaps 204 = .ok (.aload 5, 2) := by decide +kernel
theorem dL_heaps_206 : decode cL_heaps 206 = .ok (.iload 11, 2) := by decide +kernel
theorem dL_heaps_208 : decode cL_heaps 208 = .ok (.iaload, 1) := by decide +kernel
theorem dL_heaps_209 : decode cL_heaps 209 = .ok (.iastore, 1) := by decide +kernel
theorem dL_heaps_210 : decode cL_heaps 210 = .ok (.aload_n 0, 1) := by decide +kernel
theorem dL_heaps_211 : decode cL_heaps 211 = .ok (.iload 8, 2) := by decide +kernel
theorem dL_heaps_213 : decode cL_heaps 213 = .ok (.iload 9, 2) := by decide +kernel
theorem dL_heaps_215 : decode cL_heaps 215 = .ok (.iconst 1, 1) := by decide +kernel
theorem dL_heaps_216 : decode cL_heaps 216 = .ok (.iadd, 1) := by decide +kernel
theorem dL_heaps_217 : decode cL_heaps 217 = .ok (.invokevirtual 15, 3) := by decide +kernel
theorem dL_heaps_220 : decode cL_heaps 220 = .ok (.ifCond .le 18, 3) := by decide +kernel
theorem dL_heaps_223 : decode cL_heaps 223 = .ok (.aload_n 0, 1) := by decide +kernel
theorem dL_heaps_224 : decode cL_heaps 224 = .ok (.iload 8, 2) := by decide +kernel
theorem dL_heaps_226 : decode cL_heaps 226 = .ok (.iload 9, 2) := by decide +kernel
theorem dL_heaps_228 : decode cL_heaps 228 = .ok (.iconst 1, 1) := by decide +kernel
theorem dL_heaps_229 : decode cL_heaps 229 = .ok (.iadd, 1) := by decide +kernel
theorem dL_heaps_230 : decode cL_heaps 230 = .ok (.invokevirtual 19, 3) := by decide +kernel
theorem dL_heaps_233 : decode cL_heaps 233 = .ok (.iload 11, 2) := by decide +kernel
theorem dL_heaps_235 : decode cL_heaps 235 = .ok (.if_icmp .ne 31, 3) := by decide +kernel
theorem dL_heaps_238 : decode cL_heaps 238 = .ok (.aload_n 0, 1) := by decide +kernel
theorem dL_heaps_239 : decode cL_heaps 239 = .ok (.iload 8, 2) := by decide +kernel
theorem dL_heaps_241 : decode cL_heaps 241 = .ok (.iconst 1, 1) := by decide +kernel
theorem dL_heaps_242 : decode cL_heaps 242 = .ok (.iadd, 1) := by decide +kernel
theorem dL_heaps_243 : decode cL_heaps 243 = .ok (.iload 9, 2) := by decide +kernel
theorem dL_heaps_245 : decode cL_heaps 245 = .ok (.invokevirtual 15, 3) := by decide +kernel
theorem dL_heaps_248 : decode cL_heaps 248 = .ok (.ifCond .le 20, 3) := by decide +kernel
theorem dL_heaps_251 : decode cL_heaps 251 = .ok (.aload_n 0, 1) := by decide +kernel
theorem dL_heaps_252 : decode cL_heaps 252 = .ok (.iload 8, 2) := by decide +kernel
theorem dL_heaps_254 : decode cL_heaps 254 = .ok (.iconst 1, 1) := by decide +kernel
theorem dL_heaps_255 : decode cL_heaps 255 = .ok (.iadd, 1) := by decide +kernel
theorem dL_heaps_256 : decode cL_heaps 256 = .ok (.iload 9, 2) := by decide +kernel
theorem dL_heaps_258 : decode cL_heaps 258 = .ok (.invokevirtual 19, 3) := by decide +kernel
theorem dL_heaps_261 : decode cL_heaps 261 = .ok (.iload 11, 2) := by decide +kernel
theorem dL_heaps_263 : decode cL_heaps 263 = .ok (.if_icmp .eq 5, 3) := by decide +kernel
theorem dL_heaps_266 : decode cL_heaps 266 = .ok (.iconst 0, 1) := by decide +kernel
theorem dL_heaps_267 : decode cL_heaps 267 = .ok (.ireturn, 1) := by decide +kernel
theorem dL_heaps_268 : decode cL_heaps 268 = .ok (.iload_n 2, 1) := by decide +kernel
theorem dL_heaps_269 : decode cL_heaps 269 = .ok (.iload 10, 2) := by decide +kernel
theorem dL_heaps_271 : decode cL_heaps 271 = .ok (.iadd, 1) := by decide +kernel
theorem dL_heaps_272 : decode cL_heaps 272 = .ok (.istore_n 2, 1) := by decide +kernel
theorem dL_heaps_273 : decode cL_heaps 273 = .ok (.iload_n 3, 1) := by decide +kernel
theorem dL_heaps_274 : decode cL_heaps 274 = .ok (.iload 10, 2) := by decide +kernel
theorem dL_heaps_276 : decode cL_heaps 276 = .ok (.ifCond .le 7, 3) := by decide +kernel
theorem dL_heaps_279 : decode cL_heaps 279 = .ok (.iconst 1, 1) := by decide +kernel
theorem dL_heaps_280 : decode cL_heaps 280 = .ok (.goto 4, 3) := by decide +kernel
theorem dL_heaps_283 : decode cL_heaps 283 = .ok (.iconst 0, 1) := by decide +kernel
theorem dL_heaps_284 : decode cL_heaps 284 = .ok (.iadd, 1) := by decide +kernel
theorem dL_heaps_285 : decode cL_heaps 285 = .ok (.istore_n 3, 1) := by decide +kernel
theorem dL_heaps_286 : decode cL_heaps 286 = .ok (.iinc 9 1, 3) := by decide +kernel
theorem dL_heaps_289 : decode cL_heaps 289 = .ok (.goto (-239), 3) := by decide +kernel
theorem dL_heaps_292 : decode cL_heaps 292 = .ok (.iinc 8 1, 3) := by decide +kernel
theorem dL_heaps_295 : decode cL_heaps 295 = .ok (.goto (-258), 3) := by decide +kernel
theorem dL_heaps_298 : decode cL_heaps 298 = .ok (.iconst 0, 1) := by decide +kernel
theorem dL_heaps_299 : decode cL_heaps 299 = .ok (.istore 8, 2) := by decide +kernel
theorem dL_heaps_301 : decode cL_heaps 301 = .ok (.iconst 0, 1) := by decide +kernel
theorem dL_heaps_302 : decode cL_heaps 302 = .ok (.istore 9, 2) := by decide +kernel
theorem dL_heaps_304 : decode cL_heaps 304 = .ok (.iload 9, 2) := by decide +kernel
theorem dL_heaps_306 : decode cL_heaps 306 = .ok (.iload_n 1, 1) := by decide +kernel
theorem dL_heaps_307 : decode cL_heaps 307 = .ok (.if_icmp .ge 201, 3) := by decide +kernel
theorem dL_heaps_310 : decode cL_heaps 310 = .ok (.iload 9, 2) := by decide +kernel
theorem dL_heaps_312 : decode cL_heaps 312 = .ok (.bipush 64, 2) := by decide +kernel
theorem dL_heaps_314 : decode cL_heaps 314 = .ok (.if_icmp .ge 194, 3) := by decide +kernel
theorem dL_heaps_317 : decode cL_heaps 317 = .ok (.iload 8, 2) := by decide +kernel
theorem dL_heaps_319 : decode cL_heaps 319 = .ok (.aload_n 0, 1) := by decide +kernel
theorem dL_heaps_320 : decode cL_heaps 320 = .ok (.iload 9, 2) := by decide +kernel
theorem dL_heaps_322 : decode cL_heaps 322 = .ok (.iconst 1, 1) := by decide +kernel
theorem dL_heaps_323 : decode cL_heaps 323 = .ok (.invokevirtual 22, 3) := by decide +kernel
theorem dL_heaps_326 : decode cL_heaps 326 = .ok (.iadd, 1) := by decide +kernel
theorem dL_heaps_327 : decode cL_heaps 327 = .ok (.istore 8, 2) := by decide +kernel
theorem dL_heaps_329 : decode cL_heaps 329 = .ok (.aload_n 0, 1) := by decide +kernel
theorem dL_heaps_330 : decode cL_heaps 330 = .ok (.iload 9, 2) := by decide +kernel
theorem dL_heaps_332 : decode cL_heaps 332 = .ok (.iconst 0, 1) := by decide +kernel
theorem dL_heaps_333 : decode cL_heaps 333 = .ok (.invokevirtual 22, 3) := by decide +kernel
theorem dL_heaps_336 : decode cL_heaps 336 = .ok (.aload 7, 2) := by decide +kernel
theorem dL_heaps_338 : decode cL_heaps 338 = .ok (.iload 9, 2) := by decide +kernel
theorem dL_heaps_340 : decode cL_heaps 340 = .ok (.iaload, 1) := by decide +kernel
theorem dL_heaps_341 : decode cL_heaps 341 = .ok (.if_icmp .ne 77, 3) := by decide +kernel
theorem dL_heaps_344 : decode cL_heaps 344 = .ok (.aload_n 0, 1) := by decide +kernel
theorem dL_heaps_345 : decode cL_heaps 345 = .ok (.iload 9, 2) := by decide +kernel
theorem dL_heaps_347 : decode cL_heaps 347 = .ok (.iconst 1, 1) := by decide +kernel
theorem dL_heaps_348 : decode cL_heaps 348 = .ok (.invokevirtual 22, 3) := by decide +kernel
theorem dL_heaps_351 : decode cL_heaps 351 = .ok (.aload 4, 2) := by decide +kernel
theorem dL_heaps_353 : decode cL_heaps 353 = .ok (.iload 9, 2) := by decide +kernel
theorem dL_heaps_355 : decode cL_heaps 355 = .ok (.iaload, 1) := by decide +kernel
theorem dL_heaps_356 : decode cL_heaps 356 = .ok (.if_icmp .ne 62, 3) := by decide +kernel
theorem dL_heaps_359 : decode cL_heaps 359 = .ok (.aload_n 0, 1) := by decide +kernel
theorem dL_heaps_360 : decode cL_heaps 360 = .ok (.iload 9, 2) := by decide +kernel
theorem dL_heaps_362 : decode cL_heaps 362 = .ok (.iconst 2, 1) := by decide +kernel
theorem dL_heaps_363 : decode cL_heaps 363 = .ok (.invokevirtual 22, 3) := by decide +kernel
theorem dL_heaps_366 : decode cL_heaps 366 = .ok (.aload 6, 2) := by decide +kernel
theorem dL_heaps_368 : decode cL_heaps 368 = .ok (.iload 9, 2) := by decide +kernel
theorem dL_heaps_370 : decode cL_heaps 370 = .ok (.iaload, 1) := by decide +kernel
theorem dL_heaps_371 : decode cL_heaps 371 = .ok (.bipush 100, 2) := by decide +kernel
theorem dL_heaps_373 : decode cL_heaps 373 = .ok (.idiv, 1) := by decide +kernel
theorem dL_heaps_374 : decode cL_heaps 374 = .ok (.if_icmp .ne 44, 3) := by decide +kernel
theorem dL_heaps_377 : decode cL_heaps 377 = .ok (.aload_n 0, 1) := by decide +kernel
theorem dL_heaps_378 : decode cL_heaps 378 = .ok (.iload 9, 2) := by decide +kernel
theorem dL_heaps_380 : decode cL_heaps 380 = .ok (.iconst 3, 1) := by decide +kernel
theorem dL_heaps_381 : decode cL_heaps 381 = .ok (.invokevirtual 22, 3) := by decide +kernel
theorem dL_heaps_384 : decode cL_heaps 384 = .ok (.aload 6, 2) := by decide +kernel
theorem dL_heaps_386 : decode cL_heaps 386 = .ok (.iload 9, 2) := by decide +kernel
theorem dL_heaps_388 : decode cL_heaps 388 = .ok (.iaload, 1) := by decide +kernel
theorem dL_heaps_389 : decode cL_heaps 389 = .ok (.bipush 100, 2) := by decide +kernel
theorem dL_heaps_391 : decode cL_heaps 391 = .ok (.irem, 1) := by decide +kernel
theorem dL_heaps_392 : decode cL_heaps 392 = .ok (.if_icmp .ne 26, 3) := by decide +kernel
theorem dL_heaps_395 : decode cL_heaps 395 = .ok (.aload_n 0, 1) := by decide +kernel
theorem dL_heaps_396 : decode cL_heaps 396 = .ok (.iload 9, 2) := by decide +kernel
theorem dL_heaps_398 : decode cL_heaps 398 = .ok (.iconst 4, 1) := by decide +kernel
theorem dL_heaps_399 : decode cL_heaps 399 = .ok (.invokevirtual 22, 3) := by decide +kernel
theorem dL_heaps_402 : decode cL_heaps 402 = .ok (.aload 5, 2) := by decide +kernel
theorem dL_heaps_404 : decode cL_heaps 404 = .ok (.iload 9, 2) := by decide +kernel
theorem dL_heaps_406 : decode cL_heaps 406 = .ok (.iaload, 1) := by decide +kernel
theorem dL_heaps_407 : decode cL_heaps 407 = .ok (.if_icmp .ne 11, 3) := by decide +kernel
theorem dL_heaps_410 : decode cL_heaps 410 = .ok (.aload 4, 2) := by decide +kernel
theorem dL_heaps_412 : decode cL_heaps 412 = .ok (.iload 9, 2) := by decide +kernel
theorem dL_heaps_414 : decode cL_heaps 414 = .ok (.iaload, 1) := by decide +kernel
theorem dL_heaps_415 : decode cL_heaps 415 = .ok (.ifCond .ne 5, 3) := by decide +kernel
theorem dL_heaps_418 : decode cL_heaps 418 = .ok (.iconst 0, 1) := by decide +kernel
theorem dL_heaps_419 : decode cL_heaps 419 = .ok (.ireturn, 1) := by decide +kernel
theorem dL_heaps_420 : decode cL_heaps 420 = .ok (.iload 9, 2) := by decide +kernel
theorem dL_heaps_422 : decode cL_heaps 422 = .ok (.ifCond .le 80, 3) := by decide +kernel
theorem dL_heaps_425 : decode cL_heaps 425 = .ok (.aload 7, 2) := by decide +kernel
theorem dL_heaps_427 : decode cL_heaps 427 = .ok (.iload 9, 2) := by decide +kernel
theorem dL_heaps_429 : decode cL_heaps 429 = .ok (.iaload, 1) := by decide +kernel
theorem dL_heaps_430 : decode cL_heaps 430 = .ok (.aload 7, 2) := by decide +kernel
theorem dL_heaps_432 : decode cL_heaps 432 = .ok (.iload 9, 2) := by decide +kernel
theorem dL_heaps_434 : decode cL_heaps 434 = .ok (.iconst 1, 1) := by decide +kernel
theorem dL_heaps_435 : decode cL_heaps 435 = .ok (.isub, 1) := by decide +kernel
theorem dL_heaps_436 : decode cL_heaps 436 = .ok (.iaload, 1) := by decide +kernel
theorem dL_heaps_437 : decode cL_heaps 437 = .ok (.if_icmp .gt 63, 3) := by decide +kernel
theorem dL_heaps_440 : decode cL_heaps 440 = .ok (.aload 7, 2) := by decide +kernel
theorem dL_heaps_442 : decode cL_heaps 442 = .ok (.iload 9, 2) := by decide +kernel
theorem dL_heaps_444 : decode cL_heaps 444 = .ok (.iaload, 1) := by decide +kernel
theorem dL_heaps_445 : decode cL_heaps 445 = .ok (.aload 7, 2) := by decide +kernel
theorem dL_heaps_447 : decode cL_heaps 447 = .ok (.iload 9, 2) := by decide +kernel
theorem dL_heaps_449 : decode cL_heaps 449 = .ok (.iconst 1, 1) := by decide +kernel
theorem dL_heaps_450 : decode cL_heaps 450 = .ok (.isub, 1) := by decide +kernel
theorem dL_heaps_451 : decode cL_heaps 451 = .ok (.iaload, 1) := by decide +kernel
theorem dL_heaps_452 : decode cL_heaps 452 = .ok (.if_icmp .ne 50, 3) := by decide +kernel
theorem dL_heaps_455 : decode cL_heaps 455 = .ok (.aload 4, 2) := by decide +kernel
theorem dL_heaps_457 : decode cL_heaps 457 = .ok (.iload 9, 2) := by decide +kernel
theorem dL_heaps_459 : decode cL_heaps 459 = .ok (.iaload, 1) := by decide +kernel
theorem dL_heaps_460 : decode cL_heaps 460 = .ok (.aload 4, 2) := by decide +kernel
theorem dL_heaps_462 : decode cL_heaps 462 = .ok (.iload 9, 2) := by decide +kernel
theorem dL_heaps_464 : decode cL_heaps 464 = .ok (.iconst 1, 1) := by decide +kernel
theorem dL_heaps_465 : decode cL_heaps 465 = .ok (.isub, 1) := by decide +kernel
theorem dL_heaps_466 : decode cL_heaps 466 = .ok (.iaload, 1) := by decide +kernel
theorem dL_heaps_467 : decode cL_heaps 467 = .ok (.if_icmp .lt 33, 3) := by decide +kernel
theorem dL_heaps_470 : decode cL_heaps 470 = .ok (.aload 4, 2) := by decide +kernel
theorem dL_heaps_472 : decode cL_heaps 472 = .ok (.iload 9, 2) := by decide +kernel
theorem dL_heaps_474 : decode cL_heaps 474 = .ok (.iaload, 1) := by decide +kernel
theorem dL_heaps_475 : decode cL_heaps 475 = .ok (.aload 4, 2) := by decide +kernel
theorem dL_heaps_477 : decode cL_heaps 477 = .ok (.iload 9, 2) := by decide +kernel
theorem dL_heaps_479 : decode cL_heaps 479 = .ok (.iconst 1, 1) := by decide +kernel
theorem dL_heaps_480 : decode cL_heaps 480 = .ok (.isub, 1) := by decide +kernel
theorem dL_heaps_481 : decode cL_heaps 481 = .ok (.iaload, 1) := by decide +kernel
theorem dL_heaps_482 : decode cL_heaps 482 = .ok (.if_icmp .ne 20, 3) := by decide +kernel
theorem dL_heaps_485 : decode cL_heaps 485 = .ok (.aload 6, 2) := by decide +kernel
theorem dL_heaps_487 : decode cL_heaps 487 = .ok (.iload 9, 2) := by decide +kernel
theorem dL_heaps_489 : decode cL_heaps 489 = .ok (.iaload, 1) := by decide +kernel
theorem dL_heaps_490 : decode cL_heaps 490 = .ok (.aload 6, 2) := by decide +kernel
theorem dL_heaps_492 : decode cL_heaps 492 = .ok (.iload 9, 2) := by decide +kernel
theorem dL_heaps_494 : decode cL_heaps 494 = .ok (.iconst 1, 1) := by decide +kernel
theorem dL_heaps_495 : decode cL_heaps 495 = .ok (.isub, 1) := by decide +kernel
theorem dL_heaps_496 : decode cL_heaps 496 = .ok (.iaload, 1) := by decide +kernel
theorem dL_heaps_497 : decode cL_heaps 497 = .ok (.if_icmp .ge 5, 3) := by decide +kernel
theorem dL_heaps_500 : decode cL_heaps 500 = .ok (.iconst 0, 1) := by decide +kernel
theorem dL_heaps_501 : decode cL_heaps 501 = .ok (.ireturn, 1) := by decide +kernel
theorem dL_heaps_502 : decode cL_heaps 502 = .ok (.iinc 9 1, 3) := by decide +kernel
theorem dL_heaps_505 : decode cL_heaps 505 = .ok (.goto (-201), 3) := by decide +kernel
theorem dL_heaps_508 : decode cL_heaps 508 = .ok (.aload_n 0, 1) := by decide +kernel
theorem dL_heaps_509 : decode cL_heaps 509 = .ok (.iconst 3, 1) := by decide +kernel
theorem dL_heaps_510 : decode cL_heaps 510 = .ok (.invokevirtual 9, 3) := by decide +kernel
theorem dL_heaps_513 : decode cL_heaps 513 = .ok (.iload_n 2, 1) := by decide +kernel
theorem dL_heaps_514 : decode cL_heaps 514 = .ok (.if_icmp .ne 52, 3) := by decide +kernel
theorem dL_heaps_517 : decode cL_heaps 517 = .ok (.iload_n 1, 1) := by decide +kernel
theorem dL_heaps_518 : decode cL_heaps 518 = .ok (.bipush 64, 2) := by decide +kernel
theorem dL_heaps_520 : decode cL_heaps 520 = .ok (.if_icmp .gt 9, 3) := by decide +kernel
theorem dL_heaps_523 : decode cL_heaps 523 = .ok (.iload 8, 2) := by decide +kernel
theorem dL_heaps_525 : decode cL_heaps 525 = .ok (.iload_n 3, 1) := by decide +kernel
theorem dL_heaps_526 : decode cL_heaps 526 = .ok (.if_icmp .ne 40, 3) := by decide +kernel
theorem dL_heaps_529 : decode cL_heaps 529 = .ok (.aload_n 0, 1) := by decide +kernel
theorem dL_heaps_530 : decode cL_heaps 530 = .ok (.iload_n 1, 1) := by decide +kernel
theorem dL_heaps_531 : decode cL_heaps 531 = .ok (.iconst 0, 1) := by decide +kernel
theorem dL_heaps_532 : decode cL_heaps 532 = .ok (.invokevirtual 22, 3) := by decide +kernel
theorem dL_heaps_535 : decode cL_heaps 535 = .ok (.bipush (-5), 2) := by decide +kernel
theorem dL_heaps_537 : decode cL_heaps 537 = .ok (.if_icmp .ne 29, 3) := by decide +kernel
theorem dL_heaps_540 : decode cL_heaps 540 = .ok (.aload_n 0, 1) := by decide +kernel
theorem dL_heaps_541 : decode cL_heaps 541 = .ok (.iconst (-1), 1) := by decide +kernel
theorem dL_heaps_542 : decode cL_heaps 542 = .ok (.iconst 0, 1) := by decide +kernel
theorem dL_heaps_543 : decode cL_heaps 543 = .ok (.invokevirtual 22, 3) := by decide +kernel
theorem dL_heaps_546 : decode cL_heaps 546 = .ok (.bipush (-2), 2) := by decide +kernel
theorem dL_heaps_548 : decode cL_heaps 548 = .ok (.if_icmp .ne 18, 3) := by decide +kernel
theorem dL_heaps_551 : decode cL_heaps 551 = .ok (.aload_n 0, 1) := by decide +kernel
theorem dL_heaps_552 : decode cL_heaps 552 = .ok (.iconst 0, 1) := by decide +kernel
theorem dL_heaps_553 : decode cL_heaps 553 = .ok (.iconst 5, 1) := by decide +kernel
theorem dL_heaps_554 : decode cL_heaps 554 = .ok (.invokevirtual 22, 3) := by decide +kernel
theorem dL_heaps_557 : decode cL_heaps 557 = .ok (.bipush (-2), 2) := by decide +kernel
theorem dL_heaps_559 : decode cL_heaps 559 = .ok (.if_icmp .ne 7, 3) := by decide +kernel
theorem dL_heaps_562 : decode cL_heaps 562 = .ok (.iconst 1, 1) := by decide +kernel
theorem dL_heaps_563 : decode cL_heaps 563 = .ok (.goto 4, 3) := by decide +kernel
theorem dL_heaps_566 : decode cL_heaps 566 = .ok (.iconst 0, 1) := by decide +kernel
theorem dL_heaps_567 : decode cL_heaps 567 = .ok (.ireturn, 1) := by decide +kernel
theorem dL_walkers_0 : decode cL_walkers 0 = .ok (.iconst 0, 1) := by decide +kernel
theorem dL_walkers_1 : decode cL_walkers 1 = .ok (.istore_n 1, 1) := by decide +kernel
theorem dL_walkers_2 : decode cL_walkers 2 = .ok (.iconst 0, 1) := by decide +kernel
theorem dL_walkers_3 : decode cL_walkers 3 = .ok (.istore_n 2, 1) := by decide +kernel
theorem dL_walkers_4 : decode cL_walkers 4 = .ok (.iconst 0, 1) := by decide +kernel
theorem dL_walkers_5 : decode cL_walkers 5 = .ok (.istore_n 3, 1) := by decide +kernel
theorem dL_walkers_6 : decode cL_walkers 6 = .ok (.iload_n 3, 1) := by decide +kernel
theorem dL_walkers_7 : decode cL_walkers 7 = .ok (.aload_n 0, 1) := by decide +kernel
theorem dL_walkers_8 : decode cL_walkers 8 = .ok (.iconst 2, 1) := by decide +kernel
theorem dL_walkers_9 : decode cL_walkers 9 = .ok (.invokevirtual 9, 3) := by decide +kernel
theorem dL_walkers_12 : decode cL_walkers 12 = .ok (.if_icmp .ge 120, 3) := by decide +kernel
theorem dL_walkers_15 : decode cL_walkers 15 = .ok (.aload_n 0, 1) := by decide +kernel
theorem dL_walkers_16 : decode cL_walkers 16 = .ok (.iload_n 3, 1) := by decide +kernel
theorem dL_walkers_17 : decode cL_walkers 17 = .ok (.iconst 3, 1) := by decide +kernel
theorem dL_walkers_18 : decode cL_walkers 18 = .ok (.invokevirtual 25, 3) := by decide +kernel
theorem dL_walkers_21 : decode cL_walkers 21 = .ok (.istore 4, 2) := by decide +kernel
theorem dL_walkers_23 : decode cL_walkers 23 = .ok (.iload_n 1, 1) := by decide +kernel
theorem dL_walkers_24 : decode cL_walkers 24 = .ok (.iload 4, 2) := by decide +kernel
theorem dL_walkers_26 : decode cL_walkers 26 = .ok (.iadd, 1) := by decide +kernel
theorem dL_walkers_27 : decode cL_walkers 27 = .ok (.istore_n 1, 1) := by decide +kernel
theorem dL_walkers_28 : decode cL_walkers 28 = .ok (.iload_n 2, 1) := by decide +kernel
theorem dL_walkers_29 : decode cL_walkers 29 = .ok (.aload_n 0, 1) := by decide +kernel
theorem dL_walkers_30 : decode cL_walkers 30 = .ok (.iload_n 3, 1) := by decide +kernel
theorem dL_walkers_31 : decode cL_walkers 31 = .ok (.bipush 6, 2) := by decide +kernel
theorem dL_walkers_33 : decode cL_walkers 33 = .ok (.invokevirtual 25, 3) := by decide +kernel
theorem dL_walkers_36 : decode cL_walkers 36 = .ok (.iadd, 1) := by decide +kernel
theorem dL_walkers_37 : decode cL_walkers 37 = .ok (.istore_n 2, 1) := by decide +kernel
theorem dL_walkers_38 : decode cL_walkers 38 = .ok (.iload 4, 2) := by decide +kernel
theorem dL_walkers_40 : decode cL_walkers 40 = .ok (.ifCond .lt 84, 3) := by decide +kernel
theorem dL_walkers_43 : decode cL_walkers 43 = .ok (.iload 4, 2) := by decide +kernel
theorem dL_walkers_45 : decode cL_walkers 45 = .ok (.aload_n 0, 1) := by decide +kernel
theorem dL_walkers_46 : decode cL_walkers 46 = .ok (.iload_n 3, 1) := by decide +kernel
theorem dL_walkers_47 : decode cL_walkers 47 = .ok (.iconst 4, 1) := by decide +kernel
theorem dL_walkers_48 : decode cL_walkers 48 = .ok (.invokevirtual 25, 3) := by decide +kernel
theorem dL_walkers_51 : decode cL_walkers 51 = .ok (.if_icmp .gt 73, 3) := by decide +kernel
theorem dL_walkers_54 : decode cL_walkers 54 = .ok (.iload 4, 2) := by decide +kernel
theorem dL_walkers_56 : decode cL_walkers 56 = .ok (.aload_n 0, 1) := by decide +kernel
theorem dL_walkers_57 : decode cL_walkers 57 = .ok (.iload_n 3, 1) := by decide +kernel
theorem dL_walkers_58 : decode cL_walkers 58 = .ok (.bipush 7, 2) := by decide +kernel
theorem dL_walkers_60 : decode cL_walkers 60 = .ok (.invokevirtual 25, 3) := by decide +kernel
theorem dL_walkers_63 : decode cL_walkers 63 = .ok (.aload_n 0, 1) := by decide +kernel
theorem dL_walkers_64 : decode cL_walkers 64 = .ok (.iload_n 3, 1) := by decide +kernel
theorem dL_walkers_65 : decode cL_walkers 65 = .ok (.bipush 8, 2) := by decide +kernel
theorem dL_walkers_67 : decode cL_walkers 67 = .ok (.invokevirtual 25, 3) := by decide +kernel
theorem dL_walkers_70 : decode cL_walkers 70 = .ok (.isub, 1) := by decide +kernel
theorem dL_walkers_71 : decode cL_walkers 71 = .ok (.if_icmp .ne 53, 3) := by decide +kernel
theorem dL_walkers_74 : decode cL_walkers 74 = .ok (.aload_n 0, 1) := by decide +kernel
theorem dL_walkers_75 : decode cL_walkers 75 = .ok (.aload_n 0, 1) := by decide +kernel
theorem dL_walkers_76 : decode cL_walkers 76 = .ok (.iload_n 3, 1) := by decide +kernel
theorem dL_walkers_77 : decode cL_walkers 77 = .ok (.iconst 0, 1) := by decide +kernel
theorem dL_walkers_78 : decode cL_walkers 78 = .ok (.invokevirtual 25, 3) := by decide +kernel
theorem dL_walkers_81 : decode cL_walkers 81 = .ok (.aload_n 0, 1) := by decide +kernel
theorem dL_walkers_82 : decode cL_walkers 82 = .ok (.iload_n 3, 1) := by decide +kernel
theorem dL_walkers_83 : decode cL_walkers 83 = .ok (.iconst 1, 1) := by decide +kernel
theorem dL_walkers_84 : decode cL_walkers 84 = .ok (.invokevirtual 25, 3) := by decide +kernel
theorem dL_walkers_87 : decode cL_walkers 87 = .ok (.invokevirtual 15, 3) := by decide +kernel
theorem dL_walkers_90 : decode cL_walkers 90 = .ok (.ifCond .lt 34, 3) := by decide +kernel
theorem dL_walkers_93 : decode cL_walkers 93 = .ok (.aload_n 0, 1) := by decide +kernel
theorem dL_walkers_94 : decode cL_walkers 94 = .ok (.iload_n 3, 1) := by decide +kernel
theorem dL_walkers_95 : decode cL_walkers 95 = .ok (.iconst 2, 1) := by decide +kernel
theorem dL_walkers_96 : decode cL_walkers 96 = .ok (.invokevirtual 25, 3) := by decide +kernel
theorem dL_walkers_99 : decode cL_walkers 99 = .ok (.ifCond .lt 25, 3) := by decide +kernel
theorem dL_walkers_102 : decode cL_walkers 102 = .ok (.aload_n 0, 1) := by decide +kernel
theorem dL_walkers_103 : decode cL_walkers 103 = .ok (.iload_n 3, 1) := by decide +kernel
theorem dL_walkers_104 : decode cL_walkers 104 = .ok (.iconst 2, 1) := by decide +kernel
theorem dL_walkers_105 : decode cL_walkers 105 = .ok (.invokevirtual 25, 3) := by decide +kernel
theorem dL_walkers_108 : decode cL_walkers 108 = .ok (.iconst 3, 1) := by decide +kernel
theorem dL_walkers_109 : decode cL_walkers 109 = .ok (.if_icmp .gt 15, 3) := by decide +kernel
theorem dL_walkers_112 : decode cL_walkers 112 = .ok (.aload_n 0, 1) := by decide +kernel
theorem dL_walkers_113 : decode cL_walkers 113 = .ok (.iload_n 3, 1) := by decide +kernel
theorem dL_walkers_114 : decode cL_walkers 114 = .ok (.bipush 9, 2) := by decide +kernel
theorem dL_walkers_116 : decode cL_walkers 116 = .ok (.invokevirtual 25, 3) := by decide +kernel
theorem dL_walkers_119 : decode cL_walkers 119 = .ok (.bipush (-2), 2) := by decide +kernel
theorem dL_walkers_121 : decode cL_walkers 121 = .ok (.if_icmp .eq 5, 3) := by decide +kernel
theorem dL_walkers_124 : decode cL_walkers 124 = .ok (.iconst 0, 1) := by decide +kernel
theorem dL_walkers_125 : decode cL_walkers 125 = .ok (.ireturn, 1) := by decide +kernel
theorem dL_walkers_126 : decode cL_walkers 126 = .ok (.iinc 3 1, 3) := by decide +kernel
theorem dL_walkers_129 : decode cL_walkers 129 = .ok (.goto (-123), 3) := by decide +kernel
theorem dL_walkers_132 : decode cL_walkers 132 = .ok (.iconst 1, 1) := by decide +kernel
theorem dL_walkers_133 : decode cL_walkers 133 = .ok (.istore_n 3, 1) := by decide +kernel
theorem dL_walkers_134 : decode cL_walkers 134 = .ok (.iconst 0, 1) := by decide +kernel
theorem dL_walkers_135 : decode cL_walkers 135 = .ok (.istore 4, 2) := by decide +kernel
theorem dL_walkers_137 : decode cL_walkers 137 = .ok (.iload 4, 2) := by decide +kernel
theorem dL_walkers_139 : decode cL_walkers 139 = .ok (.aload_n 0, 1) := by decide +kernel
theorem dL_walkers_140 : decode cL_walkers 140 = .ok (.bipush 10, 2) := by decide +kernel
theorem dL_walkers_142 : decode cL_walkers 142 = .ok (.invokevirtual 9, 3) := by decide +kernel
theorem dL_walkers_145 : decode cL_walkers 145 = .ok (.if_icmp .ge 39, 3) := by decide +kernel
theorem dL_walkers_148 : decode cL_walkers 148 = .ok (.iload_n 3, 1) := by decide +kernel
theorem dL_walkers_149 : decode cL_walkers 149 = .ok (.ifCond .eq 27, 3) := by decide +kernel
theorem dL_walkers_152 : decode cL_walkers 152 = .ok (.aload_n 0, 1) := by decide +kernel
theorem dL_walkers_153 : decode cL_walkers 153 = .ok (.iload 4, 2) := by decide +kernel
theorem dL_walkers_155 : decode cL_walkers 155 = .ok (.invokevirtual 28, 3) := by decide +kernel
theorem dL_walkers_158 : decode cL_walkers 158 = .ok (.ifCond .lt 18, 3) := by decide +kernel
theorem dL_walkers_161 : decode cL_walkers 161 = .ok (.aload_n 0, 1) := by decide +kernel
theorem dL_walkers_162 : decode cL_walkers 162 = .ok (.iload 4, 2) := by decide +kernel
theorem dL_walkers_164 : decode cL_walkers 164 = .ok (.invokevirtual 28, 3) := by decide +kernel
theorem dL_walkers_167 : decode cL_walkers 167 = .ok (.bipush 10, 2) := by decide +kernel
theorem dL_walkers_169 : decode cL_walkers 169 = .ok (.if_icmp .ge 7, 3) := by decide +kernel
theorem dL_walkers_172 : decode cL_walkers 172 = .ok (.iconst 1, 1) := by decide +kernel
theorem dL_walkers_173 : decode cL_walkers 173 = .ok (.goto 4, 3) := by decide +kernel
theorem dL_walkers_176 : decode cL_walkers 176 = .ok (.iconst 0, 1) := by decide +kernel
theorem dL_walkers_177 : decode cL_walkers 177 = .ok (.istore_n 3, 1) := by decide +kernel
theorem dL_walkers_178 : decode cL_walkers 178 = .ok (.iinc 4 1, 3) := by decide +kernel
theorem dL_walkers_181 : decode cL_walkers 181 = .ok (.goto (-44), 3) := by decide +kernel
theorem dL_walkers_184 : decode cL_walkers 184 = .ok (.iload_n 3, 1) := by decide +kernel
theorem dL_walkers_185 : decode cL_walkers 185 = .ok (.ifCond .eq 100, 3) := by decide +kernel
theorem dL_walkers_188 : decode cL_walkers 188 = .ok (.aload_n 0, 1) := by decide +kernel
theorem dL_walkers_189 : decode cL_walkers 189 = .ok (.iconst 4, 1) := by decide +kernel
theorem dL_walkers_190 : decode cL_walkers 190 = .ok (.invokevirtual 9, 3) := by decide +kernel
theorem dL_walkers_193 : decode cL_walkers 193 = .ok (.iload_n 1, 1) := by decide +kernel
theorem dL_walkers_194 : decode cL_walkers 194 = .ok (.if_icmp .ne 91, 3) := by decide +kernel
theorem dL_walkers_197 : decode cL_walkers 197 = .ok (.aload_n 0, 1) := by decide +kernel
theorem dL_walkers_198 : decode cL_walkers 198 = .ok (.bipush 8, 2) := by decide +kernel
theorem dL_walkers_200 : decode cL_walkers 200 = .ok (.invokevirtual 9, 3) := by decide +kernel
theorem dL_walkers_203 : decode cL_walkers 203 = .ok (.iload_n 2, 1) := by decide +kernel
theorem dL_walkers_204 : decode cL_walkers 204 = .ok (.if_icmp .ne 81, 3) := by decide +kernel
theorem dL_walkers_207 : decode cL_walkers 207 = .ok (.aload_n 0, 1) := by decide +kernel
theorem dL_walkers_208 : decode cL_walkers 208 = .ok (.bipush 9, 2) := by decide +kernel
theorem dL_walkers_210 : decode cL_walkers 210 = .ok (.invokevirtual 9, 3) := by decide +kernel
theorem dL_walkers_213 : decode cL_walkers 213 = .ok (.ifCond .lt 72, 3) := by decide +kernel
theorem dL_walkers_216 : decode cL_walkers 216 = .ok (.aload_n 0, 1) := by decide +kernel
theorem dL_walkers_217 : decode cL_walkers 217 = .ok (.bipush 9, 2) := by decide +kernel
theorem dL_walkers_219 : decode cL_walkers 219 = .ok (.invokevirtual 9, 3) := by decide +kernel
theorem dL_walkers_222 : decode cL_walkers 222 = .ok (.aload_n 0, 1) := by decide +kernel
theorem dL_walkers_223 : decode cL_walkers 223 = .ok (.bipush 10, 2) := by decide +kernel
theorem dL_walkers_225 : decode cL_walkers 225 = .ok (.invokevirtual 9, 3) := by decide +kernel
theorem dL_walkers_228 : decode cL_walkers 228 = .ok (.if_icmp .ge 57, 3) := by decide +kernel
theorem dL_walkers_231 : decode cL_walkers 231 = .ok (.aload_n 0, 1) := by decide +kernel
theorem dL_walkers_232 : decode cL_walkers 232 = .ok (.aload_n 0, 1) := by decide +kernel
theorem dL_walkers_233 : decode cL_walkers 233 = .ok (.bipush 10, 2) := by decide +kernel
theorem dL_walkers_235 : decode cL_walkers 235 = .ok (.invokevirtual 9, 3) := by decide +kernel
theorem dL_walkers_238 : decode cL_walkers 238 = .ok (.invokevirtual 28, 3) := by decide +kernel
theorem dL_walkers_241 : decode cL_walkers 241 = .ok (.bipush (-5), 2) := by decide +kernel
theorem dL_walkers_243 : decode cL_walkers 243 = .ok (.if_icmp .ne 42, 3) := by decide +kernel
theorem dL_walkers_246 : decode cL_walkers 246 = .ok (.aload_n 0, 1) := by decide +kernel
theorem dL_walkers_247 : decode cL_walkers 247 = .ok (.iconst (-1), 1) := by decide +kernel
theorem dL_walkers_248 : decode cL_walkers 248 = .ok (.invokevirtual 28, 3) := by decide +kernel
theorem dL_walkers_251 : decode cL_walkers 251 = .ok (.bipush (-2), 2) := by decide +kernel
theorem dL_walkers_253 : decode cL_walkers 253 = .ok (.if_icmp .ne 32, 3) := by decide +kernel
theorem dL_walkers_256 : decode cL_walkers 256 = .ok (.aload_n 0, 1) := by decide +kernel
theorem dL_walkers_257 : decode cL_walkers 257 = .ok (.aload_n 0, 1) := by decide +kernel
theorem dL_walkers_258 : decode cL_walkers 258 = .ok (.iconst 2, 1) := by decide +kernel
theorem dL_walkers_259 : decode cL_walkers 259 = .ok (.invokevirtual 9, 3) := by decide +kernel
theorem dL_walkers_262 : decode cL_walkers 262 = .ok (.iconst 0, 1) := by decide +kernel
theorem dL_walkers_263 : decode cL_walkers 263 = .ok (.invokevirtual 25, 3) := by decide +kernel
theorem dL_walkers_266 : decode cL_walkers 266 = .ok (.iconst (-1), 1) := by decide +kernel
theorem dL_walkers_267 : decode cL_walkers 267 = .ok (.if_icmp .ne 18, 3) := by decide +kernel
theorem dL_walkers_270 : decode cL_walkers 270 = .ok (.aload_n 0, 1) := by decide +kernel
theorem dL_walkers_271 : decode cL_walkers 271 = .ok (.bipush 13, 2) := by decide +kernel
theorem dL_walkers_273 : decode cL_walkers 273 = .ok (.invokevirtual 9, 3) := by decide +kernel
theorem dL_walkers_276 : decode cL_walkers 276 = .ok (.bipush (-2), 2) := by decide +kernel
theorem dL_walkers_278 : decode cL_walkers 278 = .ok (.if_icmp .ne 7, 3) := by decide +kernel
theorem dL_walkers_281 : decode cL_walkers 281 = .ok (.iconst 1, 1) := by decide +kernel
theorem dL_walkers_282 : decode cL_walkers 282 = .ok (.goto 4, 3) := by decide +kernel
theorem dL_walkers_285 : decode cL_walkers 285 = .ok (.iconst 0, 1) := by decide +kernel
theorem dL_walkers_286 : decode cL_walkers 286 = .ok (.ireturn, 1) := by decide +kernel
theorem dL_wall_0 : decode cL_wall 0 = .ok (.iload_n 3, 1) := by decide +kernel
theorem dL_wall_1 : decode cL_wall 1 = .ok (.ifCond .ne 7, 3) := by decide +kernel
theorem dL_wall_4 : decode cL_wall 4 = .ok (.iload_n 1, 1) := by decide +kernel
theorem dL_wall_5 : decode cL_wall 5 = .ok (.ifCond .eq 44, 3) := by decide +kernel
theorem dL_wall_8 : decode cL_wall 8 = .ok (.iload_n 3, 1) := by decide +kernel
theorem dL_wall_9 : decode cL_wall 9 = .ok (.iconst 2, 1) := by decide +kernel
theorem dL_wall_10 : decode cL_wall 10 = .ok (.if_icmp .ne 14, 3) := by decide +kernel
theorem dL_wall_13 : decode cL_wall 13 = .ok (.iload_n 1, 1) := by decide +kernel
theorem dL_wall_14 : decode cL_wall 14 = .ok (.aload_n 0, 1) := by decide +kernel
theorem dL_wall_15 : decode cL_wall 15 = .ok (.iconst 0, 1) := by decide +kernel
theorem dL_wall_16 : decode cL_wall 16 = .ok (.invokevirtual 9, 3) := by decide +kernel
theorem dL_wall_19 : decode cL_wall 19 = .ok (.iconst 1, 1) := by decide +kernel
theorem dL_wall_20 : decode cL_wall 20 = .ok (.isub, 1) := by decide +kernel
theorem dL_wall_21 : decode cL_wall 21 = .ok (.if_icmp .eq 28, 3) := by decide +kernel
theorem dL_wall_24 : decode cL_wall 24 = .ok (.iload_n 3, 1) := by decide +kernel
theorem dL_wall_25 : decode cL_wall 25 = .ok (.iconst 3, 1) := by decide +kernel
theorem dL_wall_26 : decode cL_wall 26 = .ok (.if_icmp .ne 7, 3) := by decide +kernel
theorem dL_wall_29 : decode cL_wall 29 = .ok (.iload_n 2, 1) := by decide +kernel
theorem dL_wall_30 : decode cL_wall 30 = .ok (.ifCond .eq 19, 3) := by decide +kernel
theorem dL_wall_33 : decode cL_wall 33 = .ok (.iload_n 3, 1) := by decide +kernel
theorem dL_wall_34 : decode cL_wall 34 = .ok (.iconst 1, 1) := by decide +kernel
theorem dL_wall_35 : decode cL_wall 35 = .ok (.if_icmp .ne 18, 3) := by decide +kernel
theorem dL_wall_38 : decode cL_wall 38 = .ok (.iload_n 2, 1) := by decide +kernel
theorem dL_wall_39 : decode cL_wall 39 = .ok (.aload_n 0, 1) := by decide +kernel
theorem dL_wall_40 : decode cL_wall 40 = .ok (.iconst 1, 1) := by decide +kernel
theorem dL_wall_41 : decode cL_wall 41 = .ok (.invokevirtual 9, 3) := by decide +kernel
theorem dL_wall_44 : decode cL_wall 44 = .ok (.iconst 1, 1) := by decide +kernel
theorem dL_wall_45 : decode cL_wall 45 = .ok (.isub, 1) := by decide +kernel
theorem dL_wall_46 : decode cL_wall 46 = .ok (.if_icmp .ne 7, 3) := by decide +kernel
theorem dL_wall_49 : decode cL_wall 49 = .ok (.iconst 1, 1) := by decide +kernel
theorem dL_wall_50 : decode cL_wall 50 = .ok (.goto 4, 3) := by decide +kernel
theorem dL_wall_53 : decode cL_wall 53 = .ok (.iconst 0, 1) := by decide +kernel
theorem dL_wall_54 : decode cL_wall 54 = .ok (.ireturn, 1) := by decide +kernel
theorem dL_act_0 : decode cL_act 0 = .ok (.iload_n 0, 1) := by decide +kernel
theorem dL_act_1 : decode cL_act 1 = .ok (.ifCond .ne 31, 3) := by decide +kernel
theorem dL_act_4 : decode cL_act 4 = .ok (.iload_n 2, 1) := by decide +kernel
theorem dL_act_5 : decode cL_act 5 = .ok (.ifCond .ne 7, 3) := by decide +kernel
theorem dL_act_8 : decode cL_act 8 = .ok (.iconst 0, 1) := by decide +kernel
theorem dL_act_9 : decode cL_act 9 = .ok (.goto 22, 3) := by decide +kernel
theorem dL_act_12 : decode cL_act 12 = .ok (.iload_n 1, 1) := by decide +kernel
theorem dL_act_13 : decode cL_act 13 = .ok (.ifCond .ne 7, 3) := by decide +kernel
theorem dL_act_16 : decode cL_act 16 = .ok (.iconst 1, 1) := by decide +kernel
theorem dL_act_17 : decode cL_act 17 = .ok (.goto 14, 3) := by decide +kernel
theorem dL_act_20 : decode cL_act 20 = .ok (.iload_n 2, 1) := by decide +kernel
theorem dL_act_21 : decode cL_act 21 = .ok (.bipush 99, 2) := by decide +kernel
theorem dL_act_23 : decode cL_act 23 = .ok (.if_icmp .ge 7, 3) := by decide +kernel
theorem dL_act_26 : decode cL_act 26 = .ok (.iconst (-1), 1) := by decide +kernel
theorem dL_act_27 : decode cL_act 27 = .ok (.goto 4, 3) := by decide +kernel
theorem dL_act_30 : decode cL_act 30 = .ok (.iconst 0, 1) := by decide +kernel
theorem dL_act_31 : decode cL_act 31 = .ok (.ireturn, 1) := by decide +kernel
theorem dL_act_32 : decode cL_act 32 = .ok (.iload_n 0, 1) := by decide +kernel
theorem dL_act_33 : decode cL_act 33 = .ok (.iconst 1, 1) := by decide +kernel
theorem dL_act_34 : decode cL_act 34 = .ok (.if_icmp .ne 60, 3) := by decide +kernel
theorem dL_act_37 : decode cL_act 37 = .ok (.iload_n 2, 1) := by decide +kernel
theorem dL_act_38 : decode cL_act 38 = .ok (.ifCond .le 25, 3) := by decide +kernel
theorem dL_act_41 : decode cL_act 41 = .ok (.iload_n 2, 1) := by decide +kernel
theorem dL_act_42 : decode cL_act 42 = .ok (.iconst 3, 1) := by decide +kernel
theorem dL_act_43 : decode cL_act 43 = .ok (.if_icmp .ge 20, 3) := by decide +kernel
theorem dL_act_46 : decode cL_act 46 = .ok (.iload_n 3, 1) := by decide +kernel
theorem dL_act_47 : decode cL_act 47 = .ok (.ifCond .le 16, 3) := by decide +kernel
theorem dL_act_50 : decode cL_act 50 = .ok (.iload_n 2, 1) := by decide +kernel
theorem dL_act_51 : decode cL_act 51 = .ok (.iload_n 3, 1) := by decide +kernel
theorem dL_act_52 : decode cL_act 52 = .ok (.if_icmp .ge 7, 3) := by decide +kernel
theorem dL_act_55 : decode cL_act 55 = .ok (.iload_n 2, 1) := by decide +kernel
theorem dL_act_56 : decode cL_act 56 = .ok (.goto 37, 3) := by decide +kernel
theorem dL_act_59 : decode cL_act 59 = .ok (.iload_n 3, 1) := by decide +kernel
theorem dL_act_60 : decode cL_act 60 = .ok (.goto 33, 3) := by decide +kernel
theorem dL_act_63 : decode cL_act 63 = .ok (.iload_n 2, 1) := by decide +kernel
theorem dL_act_64 : decode cL_act 64 = .ok (.iconst 2, 1) := by decide +kernel
theorem dL_act_65 : decode cL_act 65 = .ok (.if_icmp .le 27, 3) := by decide +kernel
theorem dL_act_68 : decode cL_act 68 = .ok (.iload_n 1, 1) := by decide +kernel
theorem dL_act_69 : decode cL_act 69 = .ok (.ifCond .le 23, 3) := by decide +kernel
theorem dL_act_72 : decode cL_act 72 = .ok (.iload_n 1, 1) := by decide +kernel
theorem dL_act_73 : decode cL_act 73 = .ok (.bipush 99, 2) := by decide +kernel
theorem dL_act_75 : decode cL_act 75 = .ok (.iload_n 2, 1) := by decide +kernel
theorem dL_act_76 : decode cL_act 76 = .ok (.isub, 1) := by decide +kernel
theorem dL_act_77 : decode cL_act 77 = .ok (.if_icmp .ge 7, 3) := by decide +kernel
theorem dL_act_80 : decode cL_act 80 = .ok (.iload_n 1, 1) := by decide +kernel
theorem dL_act_81 : decode cL_act 81 = .ok (.goto 7, 3) := by decide +kernel
theorem dL_act_84 : decode cL_act 84 = .ok (.bipush 99, 2) := by decide +kernel
theorem dL_act_86 : decode cL_act 86 = .ok (.iload_n 2, 1) := by decide +kernel
theorem dL_act_87 : decode cL_act 87 = .ok (.isub, 1) := by decide +kernel
theorem dL_act_88 : decode cL_act 88 = .ok (.ineg, 1) := by decide +kernel
theorem dL_act_89 : decode cL_act 89 = .ok (.goto 4, 3) := by decide +kernel
theorem dL_act_92 : decode cL_act 92 = .ok (.iconst 0, 1) := by decide +kernel
theorem dL_act_93 : decode cL_act 93 = .ok (.ireturn, 1) := by decide +kernel
theorem dL_act_94 : decode cL_act 94 = .ok (.iload_n 2, 1) := by decide +kernel
theorem dL_act_95 : decode cL_act 95 = .ok (.ifCond .le 16, 3) := by decide +kernel
theorem dL_act_98 : decode cL_act 98 = .ok (.iload_n 3, 1) := by decide +kernel
theorem dL_act_99 : decode cL_act 99 = .ok (.ifCond .le 12, 3) := by decide +kernel
theorem dL_act_102 : decode cL_act 102 = .ok (.iload 4, 2) := by decide +kernel
theorem dL_act_104 : decode cL_act 104 = .ok (.ifCond .ne 7, 3) := by decide +kernel
theorem dL_act_107 : decode cL_act 107 = .ok (.iconst 1, 1) := by decide +kernel
theorem dL_act_108 : decode cL_act 108 = .ok (.goto 22, 3) := by decide +kernel
theorem dL_act_111 : decode cL_act 111 = .ok (.iload_n 2, 1) := by decide +kernel
theorem dL_act_112 : decode cL_act 112 = .ok (.ifCond .le 17, 3) := by decide +kernel
theorem dL_act_115 : decode cL_act 115 = .ok (.iload_n 2, 1) := by decide +kernel
theorem dL_act_116 : decode cL_act 116 = .ok (.bipush 99, 2) := by decide +kernel
theorem dL_act_118 : decode cL_act 118 = .ok (.if_icmp .ge 11, 3) := by decide +kernel
theorem dL_act_121 : decode cL_act 121 = .ok (.iload_n 1, 1) := by decide +kernel
theorem dL_act_122 : decode cL_act 122 = .ok (.ifCond .le 7, 3) := by decide +kernel
theorem dL_act_125 : decode cL_act 125 = .ok (.iconst (-1), 1) := by decide +kernel
theorem dL_act_126 : decode cL_act 126 = .ok (.goto 4, 3) := by decide +kernel
theorem dL_act_129 : decode cL_act 129 = .ok (.iconst 0, 1) := by decide +kernel
theorem dL_act_130 : decode cL_act 130 = .ok (.ireturn, 1) := by decide +kernel
theorem dL_steps_0 : decode cL_steps 0 = .ok (.aload_n 0, 1) := by decide +kernel
theorem dL_steps_1 : decode cL_steps 1 = .ok (.aload_n 0, 1) := by decide +kernel
theorem dL_steps_2 : decode cL_steps 2 = .ok (.bipush 9, 2) := by decide +kernel
theorem dL_steps_4 : decode cL_steps 4 = .ok (.invokevirtual 9, 3) := by decide +kernel
theorem dL_steps_7 : decode cL_steps 7 = .ok (.invokevirtual 28, 3) := by decide +kernel
theorem dL_steps_10 : decode cL_steps 10 = .ok (.istore_n 2, 1) := by decide +kernel
theorem dL_steps_11 : decode cL_steps 11 = .ok (.aload_n 0, 1) := by decide +kernel
theorem dL_steps_12 : decode cL_steps 12 = .ok (.bipush 9, 2) := by decide +kernel
theorem dL_steps_14 : decode cL_steps 14 = .ok (.invokevirtual 9, 3) := by decide +kernel
theorem dL_steps_17 : decode cL_steps 17 = .ok (.iconst 1, 1) := by decide +kernel
theorem dL_steps_18 : decode cL_steps 18 = .ok (.iadd, 1) := by decide +kernel
theorem dL_steps_19 : decode cL_steps 19 = .ok (.aload_n 0, 1) := by decide +kernel
theorem dL_steps_20 : decode cL_steps 20 = .ok (.bipush 10, 2) := by decide +kernel
theorem dL_steps_22 : decode cL_steps 22 = .ok (.invokevirtual 9, 3) := by decide +kernel
theorem dL_steps_25 : decode cL_steps 25 = .ok (.irem, 1) := by decide +kernel
theorem dL_steps_26 : decode cL_steps 26 = .ok (.istore_n 3, 1) := by decide +kernel
theorem dL_steps_27 : decode cL_steps 27 = .ok (.aload_n 0, 1) := by decide +kernel
theorem dL_steps_28 : decode cL_steps 28 = .ok (.iload_n 1, 1) := by decide +kernel
theorem dL_steps_29 : decode cL_steps 29 = .ok (.iconst 0, 1) := by decide +kernel
theorem dL_steps_30 : decode cL_steps 30 = .ok (.invokevirtual 25, 3) := by decide +kernel
theorem dL_steps_33 : decode cL_steps 33 = .ok (.istore 4, 2) := by decide +kernel
theorem dL_steps_35 : decode cL_steps 35 = .ok (.aload_n 0, 1) := by decide +kernel
theorem dL_steps_36 : decode cL_steps 36 = .ok (.iload_n 1, 1) := by decide +kernel
theorem dL_steps_37 : decode cL_steps 37 = .ok (.iconst 1, 1) := by decide +kernel
theorem dL_steps_38 : decode cL_steps 38 = .ok (.invokevirtual 25, 3) := by decide +kernel
theorem dL_steps_41 : decode cL_steps 41 = .ok (.istore 5, 2) := by decide +kernel
theorem dL_steps_43 : decode cL_steps 43 = .ok (.aload_n 0, 1) := by decide +kernel
theorem dL_steps_44 : decode cL_steps 44 = .ok (.iload_n 1, 1) := by decide +kernel
theorem dL_steps_45 : decode cL_steps 45 = .ok (.iconst 2, 1) := by decide +kernel
theorem dL_steps_46 : decode cL_steps 46 = .ok (.invokevirtual 25, 3) := by decide +kernel
theorem dL_steps_49 : decode cL_steps 49 = .ok (.iload_n 2, 1) := by decide +kernel
theorem dL_steps_50 : decode cL_steps 50 = .ok (.bipush 9, 2) := by decide +kernel
theorem dL_steps_52 : decode cL_steps 52 = .ok (.if_icmp .ne 7, 3) := by decide +kernel
theorem dL_steps_55 : decode cL_steps 55 = .ok (.iconst 2, 1) := by decide +kernel
theorem dL_steps_56 : decode cL_steps 56 = .ok (.goto 23, 3) := by decide +kernel
theorem dL_steps_59 : decode cL_steps 59 = .ok (.iload_n 2, 1) := by decide +kernel
theorem dL_steps_60 : decode cL_steps 60 = .ok (.bipush 6, 2) := by decide +kernel
theorem dL_steps_62 : decode cL_steps 62 = .ok (.if_icmp .le 7, 3) := by decide +kernel
theorem dL_steps_65 : decode cL_steps 65 = .ok (.iconst 3, 1) := by decide +kernel
theorem dL_steps_66 : decode cL_steps 66 = .ok (.goto 13, 3) := by decide +kernel
theorem dL_steps_69 : decode cL_steps 69 = .ok (.iload_n 2, 1) := by decide +kernel
theorem dL_steps_70 : decode cL_steps 70 = .ok (.iconst 4, 1) := by decide +kernel
theorem dL_steps_71 : decode cL_steps 71 = .ok (.if_icmp .le 7, 3) := by decide +kernel
theorem dL_steps_74 : decode cL_steps 74 = .ok (.iconst 1, 1) := by decide +kernel
theorem dL_steps_75 : decode cL_steps 75 = .ok (.goto 4, 3) := by decide +kernel
theorem dL_steps_78 : decode cL_steps 78 = .ok (.iconst 0, 1) := by decide +kernel
theorem dL_steps_79 : decode cL_steps 79 = .ok (.iadd, 1) := by decide +kernel
theorem dL_steps_80 : decode cL_steps 80 = .ok (.iconst 4, 1) := by decide +kernel
theorem dL_steps_81 : decode cL_steps 81 = .ok (.irem, 1) := by decide +kernel
theorem dL_steps_82 : decode cL_steps 82 = .ok (.istore 6, 2) := by decide +kernel
theorem dL_steps_84 : decode cL_steps 84 = .ok (.aload_n 0, 1) := by decide +kernel
theorem dL_steps_85 : decode cL_steps 85 = .ok (.iload 4, 2) := by decide +kernel
theorem dL_steps_87 : decode cL_steps 87 = .ok (.iload 5, 2) := by decide +kernel
theorem dL_steps_89 : decode cL_steps 89 = .ok (.iload 6, 2) := by decide +kernel
theorem dL_steps_91 : decode cL_steps 91 = .ok (.invokestatic 31, 3) := by decide +kernel
theorem dL_steps_94 : decode cL_steps 94 = .ok (.ifCond .eq 14, 3) := by decide +kernel
theorem dL_steps_97 : decode cL_steps 97 = .ok (.iload 6, 2) := by decide +kernel
theorem dL_steps_99 : decode cL_steps 99 = .ok (.iconst 1, 1) := by decide +kernel
theorem dL_steps_100 : decode cL_steps 100 = .ok (.iadd, 1) := by decide +kernel
theorem dL_steps_101 : decode cL_steps 101 = .ok (.iconst 4, 1) := by decide +kernel
theorem dL_steps_102 : decode cL_steps 102 = .ok (.irem, 1) := by decide +kernel
theorem dL_steps_103 : decode cL_steps 103 = .ok (.istore 6, 2) := by decide +kernel
theorem dL_steps_105 : decode cL_steps 105 = .ok (.goto (-21), 3) := by decide +kernel
theorem dL_steps_108 : decode cL_steps 108 = .ok (.iload 4, 2) := by decide +kernel
theorem dL_steps_110 : decode cL_steps 110 = .ok (.iload 6, 2) := by decide +kernel
theorem dL_steps_112 : decode cL_steps 112 = .ok (.iconst 2, 1) := by decide +kernel
theorem dL_steps_113 : decode cL_steps 113 = .ok (.if_icmp .ne 7, 3) := by decide +kernel
theorem dL_steps_116 : decode cL_steps 116 = .ok (.iconst 1, 1) := by decide +kernel
theorem dL_steps_117 : decode cL_steps 117 = .ok (.goto 13, 3) := by decide +kernel
theorem dL_steps_120 : decode cL_steps 120 = .ok (.iload 6, 2) := by decide +kernel
theorem dL_steps_122 : decode cL_steps 122 = .ok (.ifCond .ne 7, 3) := by decide +kernel
theorem dL_steps_125 : decode cL_steps 125 = .ok (.iconst (-1), 1) := by decide +kernel
theorem dL_steps_126 : decode cL_steps 126 = .ok (.goto 4, 3) := by decide +kernel
theorem dL_steps_129 : decode cL_steps 129 = .ok (.iconst 0, 1) := by decide +kernel
theorem dL_steps_130 : decode cL_steps 130 = .ok (.iadd, 1) := by decide +kernel
theorem dL_steps_131 : decode cL_steps 131 = .ok (.istore 4, 2) := by decide +kernel
theorem dL_steps_133 : decode cL_steps 133 = .ok (.iload 5, 2) := by decide +kernel
theorem dL_steps_135 : decode cL_steps 135 = .ok (.iload 6, 2) := by decide +kernel
theorem dL_steps_137 : decode cL_steps 137 = .ok (.iconst 1, 1) := by decide +kernel
theorem dL_steps_138 : decode cL_steps 138 = .ok (.if_icmp .ne 7, 3) := by decide +kernel
theorem dL_steps_141 : decode cL_steps 141 = .ok (.iconst 1, 1) := by decide +kernel
theorem dL_steps_142 : decode cL_steps 142 = .ok (.goto 14, 3) := by decide +kernel
theorem dL_steps_145 : decode cL_steps 145 = .ok (.iload 6, 2) := by decide +kernel
theorem dL_steps_147 : decode cL_steps 147 = .ok (.iconst 3, 1) := by decide +kernel
theorem dL_steps_148 : decode cL_steps 148 = .ok (.if_icmp .ne 7, 3) := by decide +kernel
theorem dL_steps_151 : decode cL_steps 151 = .ok (.iconst (-1), 1) := by decide +kernel
theorem dL_steps_152 : decode cL_steps 152 = .ok (.goto 4, 3) := by decide +kernel
theorem dL_steps_155 : decode cL_steps 155 = .ok (.iconst 0, 1) := by decide +kernel
theorem dL_steps_156 : decode cL_steps 156 = .ok (.iadd, 1) := by decide +kernel
theorem dL_steps_157 : decode cL_steps 157 = .ok (.istore 5, 2) := by decide +kernel
theorem dL_steps_159 : decode cL_steps 159 = .ok (.aload_n 0, 1) := by decide +kernel
theorem dL_steps_160 : decode cL_steps 160 = .ok (.iload 4, 2) := by decide +kernel
theorem dL_steps_162 : decode cL_steps 162 = .ok (.iload 5, 2) := by decide +kernel
theorem dL_steps_164 : decode cL_steps 164 = .ok (.invokevirtual 15, 3) := by decide +kernel
theorem dL_steps_167 : decode cL_steps 167 = .ok (.istore 7, 2) := by decide +kernel
theorem dL_steps_169 : decode cL_steps 169 = .ok (.aload_n 0, 1) := by decide +kernel
theorem dL_steps_170 : decode cL_steps 170 = .ok (.iload_n 1, 1) := by decide +kernel
theorem dL_steps_171 : decode cL_steps 171 = .ok (.iconst 3, 1) := by decide +kernel
theorem dL_steps_172 : decode cL_steps 172 = .ok (.invokevirtual 25, 3) := by decide +kernel
theorem dL_steps_175 : decode cL_steps 175 = .ok (.istore 8, 2) := by decide +kernel
theorem dL_steps_177 : decode cL_steps 177 = .ok (.aload_n 0, 1) := by decide +kernel
theorem dL_steps_178 : decode cL_steps 178 = .ok (.iload_n 1, 1) := by decide +kernel
theorem dL_steps_179 : decode cL_steps 179 = .ok (.iconst 5, 1) := by decide +kernel
theorem dL_steps_180 : decode cL_steps 180 = .ok (.invokevirtual 25, 3) := by decide +kernel
theorem dL_steps_183 : decode cL_steps 183 = .ok (.iload 8, 2) := by decide +kernel
theorem dL_steps_185 : decode cL_steps 185 = .ok (.iload 7, 2) := by decide +kernel
theorem dL_steps_187 : decode cL_steps 187 = .ok (.aload_n 0, 1) := by decide +kernel
theorem dL_steps_188 : decode cL_steps 188 = .ok (.iload_n 1, 1) := by decide +kernel
theorem dL_steps_189 : decode cL_steps 189 = .ok (.iconst 4, 1) := by decide +kernel
theorem dL_steps_190 : decode cL_steps 190 = .ok (.invokevirtual 25, 3) := by decide +kernel
theorem dL_steps_193 : decode cL_steps 193 = .ok (.iload 8, 2) := by decide +kernel
theorem dL_steps_195 : decode cL_steps 195 = .ok (.isub, 1) := by decide +kernel
theorem dL_steps_196 : decode cL_steps 196 = .ok (.aload_n 0, 1) := by decide +kernel
theorem dL_steps_197 : decode cL_steps 197 = .ok (.iload 4, 2) := by decide +kernel
theorem dL_steps_199 : decode cL_steps 199 = .ok (.iload 5, 2) := by decide +kernel
theorem dL_steps_201 : decode cL_steps 201 = .ok (.invokevirtual 19, 3) := by decide +kernel
theorem dL_steps_204 : decode cL_steps 204 = .ok (.ifCond .ne 7, 3) := by decide +kernel
theorem dL_steps_207 : decode cL_steps 207 = .ok (.iconst 1, 1) := by decide +kernel
theorem dL_steps_208 : decode cL_steps 208 = .ok (.goto 4, 3) := by decide +kernel
theorem dL_steps_211 : decode cL_steps 211 = .ok (.iconst 0, 1) := by decide +kernel
theorem dL_steps_212 : decode cL_steps 212 = .ok (.invokestatic 37, 3) := by decide +kernel
theorem dL_steps_215 : decode cL_steps 215 = .ok (.istore 9, 2) := by decide +kernel
theorem dL_steps_217 : decode cL_steps 217 = .ok (.aload_n 0, 1) := by decide +kernel
theorem dL_steps_218 : decode cL_steps 218 = .ok (.iconst 5, 1) := by decide +kernel
theorem dL_steps_219 : decode cL_steps 219 = .ok (.invokevirtual 9, 3) := by decide +kernel
theorem dL_steps_222 : decode cL_steps 222 = .ok (.istore 10, 2) := by decide +kernel
theorem dL_steps_224 : decode cL_steps 224 = .ok (.aload_n 0, 1) := by decide +kernel
theorem dL_steps_225 : decode cL_steps 225 = .ok (.bipush 6, 2) := by decide +kernel
theorem dL_steps_227 : decode cL_steps 227 = .ok (.invokevirtual 9, 3) := by decide +kernel
theorem dL_steps_230 : decode cL_steps 230 = .ok (.istore 11, 2) := by decide +kernel
theorem dL_steps_232 : decode cL_steps 232 = .ok (.aload_n 0, 1) := by decide +kernel
theorem dL_steps_233 : decode cL_steps 233 = .ok (.bipush 7, 2) := by decide +kernel
theorem dL_steps_235 : decode cL_steps 235 = .ok (.invokevirtual 9, 3) := by decide +kernel
theorem dL_steps_238 : decode cL_steps 238 = .ok (.istore 12, 2) := by decide +kernel
theorem dL_steps_240 : decode cL_steps 240 = .ok (.aload_n 0, 1) := by decide +kernel
theorem dL_steps_241 : decode cL_steps 241 = .ok (.iload_n 1, 1) := by decide +kernel
theorem dL_steps_242 : decode cL_steps 242 = .ok (.bipush 6, 2) := by decide +kernel
theorem dL_steps_244 : decode cL_steps 244 = .ok (.invokevirtual 25, 3) := by decide +kernel
theorem dL_steps_247 : decode cL_steps 247 = .ok (.istore 13, 2) := by decide +kernel
theorem dL_steps_249 : decode cL_steps 249 = .ok (.aload_n 0, 1) := by decide +kernel
theorem dL_steps_250 : decode cL_steps 250 = .ok (.iload_n 1, 1) := by decide +kernel
theorem dL_steps_251 : decode cL_steps 251 = .ok (.iconst 1, 1) := by decide +kernel
theorem dL_steps_252 : decode cL_steps 252 = .ok (.invokevirtual 41, 3) := by decide +kernel
theorem dL_steps_255 : decode cL_steps 255 = .ok (.iload 8, 2) := by decide +kernel
theorem dL_steps_257 : decode cL_steps 257 = .ok (.iload 9, 2) := by decide +kernel
theorem dL_steps_259 : decode cL_steps 259 = .ok (.iadd, 1) := by decide +kernel
theorem dL_steps_260 : decode cL_steps 260 = .ok (.if_icmp .eq 5, 3) := by decide +kernel
theorem dL_steps_263 : decode cL_steps 263 = .ok (.iconst 0, 1) := by decide +kernel
theorem dL_steps_264 : decode cL_steps 264 = .ok (.ireturn, 1) := by decide +kernel
theorem dL_steps_265 : decode cL_steps 265 = .ok (.aload_n 0, 1) := by decide +kernel
theorem dL_steps_266 : decode cL_steps 266 = .ok (.iconst 5, 1) := by decide +kernel
theorem dL_steps_267 : decode cL_steps 267 = .ok (.invokevirtual 9, 3) := by decide +kernel
theorem dL_steps_270 : decode cL_steps 270 = .ok (.istore 14, 2) := by decide +kernel
theorem dL_steps_272 : decode cL_steps 272 = .ok (.aload_n 0, 1) := by decide +kernel
theorem dL_steps_273 : decode cL_steps 273 = .ok (.iload_n 1, 1) := by decide +kernel
theorem dL_steps_274 : decode cL_steps 274 = .ok (.iconst 0, 1) := by decide +kernel
theorem dL_steps_275 : decode cL_steps 275 = .ok (.invokevirtual 25, 3) := by decide +kernel
theorem dL_steps_278 : decode cL_steps 278 = .ok (.iload 4, 2) := by decide +kernel
theorem dL_steps_280 : decode cL_steps 280 = .ok (.if_icmp .ne 83, 3) := by decide +kernel
theorem dL_steps_283 : decode cL_steps 283 = .ok (.aload_n 0, 1) := by decide +kernel
theorem dL_steps_284 : decode cL_steps 284 = .ok (.iload_n 1, 1) := by decide +kernel
theorem dL_steps_285 : decode cL_steps 285 = .ok (.iconst 1, 1) := by decide +kernel
theorem dL_steps_286 : decode cL_steps 286 = .ok (.invokevirtual 25, 3) := by decide +kernel
theorem dL_steps_289 : decode cL_steps 289 = .ok (.iload 5, 2) := by decide +kernel
theorem dL_steps_291 : decode cL_steps 291 = .ok (.if_icmp .ne 72, 3) := by decide +kernel
theorem dL_steps_294 : decode cL_steps 294 = .ok (.aload_n 0, 1) := by decide +kernel
theorem dL_steps_295 : decode cL_steps 295 = .ok (.iload_n 1, 1) := by decide +kernel
theorem dL_steps_296 : decode cL_steps 296 = .ok (.iconst 2, 1) := by decide +kernel
theorem dL_steps_297 : decode cL_steps 297 = .ok (.invokevirtual 25, 3) := by decide +kernel
theorem dL_steps_300 : decode cL_steps 300 = .ok (.iload 6, 2) := by decide +kernel
theorem dL_steps_302 : decode cL_steps 302 = .ok (.if_icmp .ne 61, 3) := by decide +kernel
theorem dL_steps_305 : decode cL_steps 305 = .ok (.aload_n 0, 1) := by decide +kernel
theorem dL_steps_306 : decode cL_steps 306 = .ok (.iload_n 1, 1) := by decide +kernel
theorem dL_steps_307 : decode cL_steps 307 = .ok (.iconst 3, 1) := by decide +kernel
theorem dL_steps_308 : decode cL_steps 308 = .ok (.invokevirtual 25, 3) := by decide +kernel
theorem dL_steps_311 : decode cL_steps 311 = .ok (.iload 8, 2) := by decide +kernel
theorem dL_steps_313 : decode cL_steps 313 = .ok (.iload 9, 2) := by decide +kernel
theorem dL_steps_315 : decode cL_steps 315 = .ok (.iadd, 1) := by decide +kernel
theorem dL_steps_316 : decode cL_steps 316 = .ok (.if_icmp .ne 47, 3) := by decide +kernel
theorem dL_steps_319 : decode cL_steps 319 = .ok (.aload_n 0, 1) := by decide +kernel
theorem dL_steps_320 : decode cL_steps 320 = .ok (.iload 4, 2) := by decide +kernel
theorem dL_steps_322 : decode cL_steps 322 = .ok (.iload 5, 2) := by decide +kernel
theorem dL_steps_324 : decode cL_steps 324 = .ok (.invokevirtual 15, 3) := by decide +kernel
theorem dL_steps_327 : decode cL_steps 327 = .ok (.iload 7, 2) := by decide +kernel
theorem dL_steps_329 : decode cL_steps 329 = .ok (.iload 9, 2) := by decide +kernel
theorem dL_steps_331 : decode cL_steps 331 = .ok (.isub, 1) := by decide +kernel
theorem dL_steps_332 : decode cL_steps 332 = .ok (.if_icmp .ne 31, 3) := by decide +kernel
theorem dL_steps_335 : decode cL_steps 335 = .ok (.aload_n 0, 1) := by decide +kernel
theorem dL_steps_336 : decode cL_steps 336 = .ok (.iload_n 1, 1) := by decide +kernel
theorem dL_steps_337 : decode cL_steps 337 = .ok (.bipush 6, 2) := by decide +kernel
theorem dL_steps_339 : decode cL_steps 339 = .ok (.invokevirtual 25, 3) := by decide +kernel
theorem dL_steps_342 : decode cL_steps 342 = .ok (.iload 13, 2) := by decide +kernel
theorem dL_steps_344 : decode cL_steps 344 = .ok (.iconst 1, 1) := by decide +kernel
theorem dL_steps_345 : decode cL_steps 345 = .ok (.iadd, 1) := by decide +kernel
theorem dL_steps_346 : decode cL_steps 346 = .ok (.if_icmp .ne 17, 3) := by decide +kernel
theorem dL_steps_349 : decode cL_steps 349 = .ok (.aload_n 0, 1) := by decide +kernel
theorem dL_steps_350 : decode cL_steps 350 = .ok (.bipush 9, 2) := by decide +kernel
theorem dL_steps_352 : decode cL_steps 352 = .ok (.invokevirtual 9, 3) := by decide +kernel
theorem dL_steps_355 : decode cL_steps 355 = .ok (.iload_n 3, 1) := by decide +kernel
theorem dL_steps_356 : decode cL_steps 356 = .ok (.if_icmp .ne 7, 3) := by decide +kernel
theorem dL_steps_359 : decode cL_steps 359 = .ok (.iconst 1, 1) := by decide +kernel
theorem dL_steps_360 : decode cL_steps 360 = .ok (.goto 4, 3) := by decide +kernel
theorem dL_steps_363 : decode cL_steps 363 = .ok (.iconst 0, 1) := by decide +kernel
theorem dL_steps_364 : decode cL_steps 364 = .ok (.istore 15, 2) := by decide +kernel
theorem dL_steps_366 : decode cL_steps 366 = .ok (.iload 15, 2) := by decide +kernel
theorem dL_steps_368 : decode cL_steps 368 = .ok (.ifCond .eq 63, 3) := by decide +kernel
theorem dL_steps_371 : decode cL_steps 371 = .ok (.aload_n 0, 1) := by decide +kernel
theorem dL_steps_372 : decode cL_steps 372 = .ok (.bipush 6, 2) := by decide +kernel
theorem dL_steps_374 : decode cL_steps 374 = .ok (.invokevirtual 9, 3) := by decide +kernel
theorem dL_steps_377 : decode cL_steps 377 = .ok (.iload 11, 2) := by decide +kernel
theorem dL_steps_379 : decode cL_steps 379 = .ok (.iload 14, 2) := by decide +kernel
theorem dL_steps_381 : decode cL_steps 381 = .ok (.iload 10, 2) := by decide +kernel
theorem dL_steps_383 : decode cL_steps 383 = .ok (.if_icmp .ge 11, 3) := by decide +kernel
theorem dL_steps_386 : decode cL_steps 386 = .ok (.iload 10, 2) := by decide +kernel
theorem dL_steps_388 : decode cL_steps 388 = .ok (.iload 14, 2) := by decide +kernel
theorem dL_steps_390 : decode cL_steps 390 = .ok (.isub, 1) := by decide +kernel
theorem dL_steps_391 : decode cL_steps 391 = .ok (.goto 4, 3) := by decide +kernel
theorem dL_steps_394 : decode cL_steps 394 = .ok (.iconst 0, 1) := by decide +kernel
theorem dL_steps_395 : decode cL_steps 395 = .ok (.iadd, 1) := by decide +kernel
theorem dL_steps_396 : decode cL_steps 396 = .ok (.if_icmp .ne 35, 3) := by decide +kernel
theorem dL_steps_399 : decode cL_steps 399 = .ok (.aload_n 0, 1) := by decide +kernel
theorem dL_steps_400 : decode cL_steps 400 = .ok (.bipush 7, 2) := by decide +kernel
theorem dL_steps_402 : decode cL_steps 402 = .ok (.invokevirtual 9, 3) := by decide +kernel
theorem dL_steps_405 : decode cL_steps 405 = .ok (.iload 12, 2) := by decide +kernel
theorem dL_steps_407 : decode cL_steps 407 = .ok (.iload 14, 2) := by decide +kernel
theorem dL_steps_409 : decode cL_steps 409 = .ok (.iload 10, 2) := by decide +kernel
theorem dL_steps_411 : decode cL_steps 411 = .ok (.if_icmp .le 11, 3) := by decide +kernel
theorem dL_steps_414 : decode cL_steps 414 = .ok (.iload 14, 2) := by decide +kernel
theorem dL_steps_416 : decode cL_steps 416 = .ok (.iload 10, 2) := by decide +kernel
theorem dL_steps_418 : decode cL_steps 418 = .ok (.isub, 1) := by decide +kernel
theorem dL_steps_419 : decode cL_steps 419 = .ok (.goto 4, 3) := by decide +kernel
theorem dL_steps_422 : decode cL_steps 422 = .ok (.iconst 0, 1) := by decide +kernel
theorem dL_steps_423 : decode cL_steps 423 = .ok (.iadd, 1) := by decide +kernel
theorem dL_steps_424 : decode cL_steps 424 = .ok (.if_icmp .ne 7, 3) := by decide +kernel
theorem dL_steps_427 : decode cL_steps 427 = .ok (.iconst 1, 1) := by decide +kernel
theorem dL_steps_428 : decode cL_steps 428 = .ok (.goto 4, 3) := by decide +kernel
theorem dL_steps_431 : decode cL_steps 431 = .ok (.iconst 0, 1) := by decide +kernel
theorem dL_steps_432 : decode cL_steps 432 = .ok (.ireturn, 1) := by decide +kernel
theorem dL_plans_0 : decode cL_plans 0 = .ok (.aload_n 0, 1) := by decide +kernel
theorem dL_plans_1 : decode cL_plans 1 = .ok (.invokevirtual 44, 3) := by decide +kernel
theorem dL_plans_4 : decode cL_plans 4 = .ok (.pop, 1) := by decide +kernel
theorem dL_plans_5 : decode cL_plans 5 = .ok (.aload_n 0, 1) := by decide +kernel
theorem dL_plans_6 : decode cL_plans 6 = .ok (.iconst 2, 1) := by decide +kernel
theorem dL_plans_7 : decode cL_plans 7 = .ok (.invokevirtual 9, 3) := by decide +kernel
theorem dL_plans_10 : decode cL_plans 10 = .ok (.istore_n 3, 1) := by decide +kernel
theorem dL_plans_11 : decode cL_plans 11 = .ok (.aload_n 0, 1) := by decide +kernel
theorem dL_plans_12 : decode cL_plans 12 = .ok (.invokevirtual 48, 3) := by decide +kernel
theorem dL_plans_15 : decode cL_plans 15 = .ok (.bipush (-100), 2) := by decide +kernel
theorem dL_plans_17 : decode cL_plans 17 = .ok (.if_icmp .eq 5, 3) := by decide +kernel
theorem dL_plans_20 : decode cL_plans 20 = .ok (.iconst 0, 1) := by decide +kernel
theorem dL_plans_21 : decode cL_plans 21 = .ok (.ireturn, 1) := by decide +kernel
theorem dL_plans_22 : decode cL_plans 22 = .ok (.iload_n 3, 1) := by decide +kernel
theorem dL_plans_23 : decode cL_plans 23 = .ok (.ifCond .ne 7, 3) := by decide +kernel
theorem dL_plans_26 : decode cL_plans 26 = .ok (.iconst 0, 1) := by decide +kernel
theorem dL_plans_27 : decode cL_plans 27 = .ok (.goto 8, 3) := by decide +kernel
theorem dL_plans_30 : decode cL_plans 30 = .ok (.iload_n 1, 1) := by decide +kernel
theorem dL_plans_31 : decode cL_plans 31 = .ok (.iload_n 3, 1) := by decide +kernel
theorem dL_plans_32 : decode cL_plans 32 = .ok (.invokestatic 51, 3) := by decide +kernel
theorem dL_plans_35 : decode cL_plans 35 = .ok (.istore 4, 2) := by decide +kernel
theorem dL_plans_37 : decode cL_plans 37 = .ok (.aload_n 0, 1) := by decide +kernel
theorem dL_plans_38 : decode cL_plans 38 = .ok (.bipush 35, 2) := by decide +kernel
theorem dL_plans_40 : decode cL_plans 40 = .ok (.invokevirtual 54, 3) := by decide +kernel
theorem dL_plans_43 : decode cL_plans 43 = .ok (.pop, 1) := by decide +kernel
theorem dL_plans_44 : decode cL_plans 44 = .ok (.aload_n 0, 1) := by decide +kernel
theorem dL_plans_45 : decode cL_plans 45 = .ok (.invokevirtual 48, 3) := by decide +kernel
theorem dL_plans_48 : decode cL_plans 48 = .ok (.bipush (-101), 2) := by decide +kernel
theorem dL_plans_50 : decode cL_plans 50 = .ok (.if_icmp .ne 7, 3) := by decide +kernel
theorem dL_plans_53 : decode cL_plans 53 = .ok (.iconst 1, 1) := by decide +kernel
theorem dL_plans_54 : decode cL_plans 54 = .ok (.goto 4, 3) := by decide +kernel
theorem dL_plans_57 : decode cL_plans 57 = .ok (.iconst 0, 1) := by decide +kernel
theorem dL_plans_58 : decode cL_plans 58 = .ok (.istore 5, 2) := by decide +kernel
theorem dL_plans_60 : decode cL_plans 60 = .ok (.aload_n 0, 1) := by decide +kernel
theorem dL_plans_61 : decode cL_plans 61 = .ok (.bipush 48, 2) := by decide +kernel
theorem dL_plans_63 : decode cL_plans 63 = .ok (.iload 4, 2) := by decide +kernel
theorem dL_plans_65 : decode cL_plans 65 = .ok (.iadd, 1) := by decide +kernel
theorem dL_plans_66 : decode cL_plans 66 = .ok (.i2c, 1) := by decide +kernel
theorem dL_plans_67 : decode cL_plans 67 = .ok (.invokevirtual 54, 3) := by decide +kernel
theorem dL_plans_70 : decode cL_plans 70 = .ok (.pop, 1) := by decide +kernel
theorem dL_plans_71 : decode cL_plans 71 = .ok (.iload_n 3, 1) := by decide +kernel
theorem dL_plans_72 : decode cL_plans 72 = .ok (.ifCond .ne 23, 3) := by decide +kernel
theorem dL_plans_75 : decode cL_plans 75 = .ok (.iload 5, 2) := by decide +kernel
theorem dL_plans_77 : decode cL_plans 77 = .ok (.ifCond .eq 16, 3) := by decide +kernel
theorem dL_plans_80 : decode cL_plans 80 = .ok (.aload_n 0, 1) := by decide +kernel
theorem dL_plans_81 : decode cL_plans 81 = .ok (.invokevirtual 48, 3) := by decide +kernel
theorem dL_plans_84 : decode cL_plans 84 = .ok (.bipush (-101), 2) := by decide +kernel
theorem dL_plans_86 : decode cL_plans 86 = .ok (.if_icmp .ne 7, 3) := by decide +kernel
theorem dL_plans_89 : decode cL_plans 89 = .ok (.iconst 1, 1) := by decide +kernel
theorem dL_plans_90 : decode cL_plans 90 = .ok (.goto 4, 3) := by decide +kernel
theorem dL_plans_93 : decode cL_plans 93 = .ok (.iconst 0, 1) := by decide +kernel
theorem dL_plans_94 : decode cL_plans 94 = .ok (.ireturn, 1) := by decide +kernel
theorem dL_plans_95 : decode cL_plans 95 = .ok (.aload_n 0, 1) := by decide +kernel
theorem dL_plans_96 : decode cL_plans 96 = .ok (.iload_n 2, 1) := by decide +kernel
theorem dL_plans_97 : decode cL_plans 97 = .ok (.iconst 1, 1) := by decide +kernel
theorem dL_plans_98 : decode cL_plans 98 = .ok (.iand, 1) := by decide +kernel
theorem dL_plans_99 : decode cL_plans 99 = .ok (.ifCond .ne 8, 3) := by decide +kernel
theorem dL_plans_102 : decode cL_plans 102 = .ok (.bipush 103, 2) := by decide +kernel
theorem dL_plans_104 : decode cL_plans 104 = .ok (.goto 5, 3) := by decide +kernel
theorem dL_plans_107 : decode cL_plans 107 = .ok (.bipush 100, 2) := by decide +kernel
theorem dL_plans_109 : decode cL_plans 109 = .ok (.invokevirtual 54, 3) := by decide +kernel
theorem dL_plans_112 : decode cL_plans 112 = .ok (.istore 6, 2) := by decide +kernel
theorem dL_plans_114 : decode cL_plans 114 = .ok (.iconst 1, 1) := by decide +kernel
theorem dL_plans_115 : decode cL_plans 115 = .ok (.iload_n 2, 1) := by decide +kernel
theorem dL_plans_116 : decode cL_plans 116 = .ok (.iconst 1, 1) := by decide +kernel
theorem dL_plans_117 : decode cL_plans 117 = .ok (.ishr, 1) := by decide +kernel
theorem dL_plans_118 : decode cL_plans 118 = .ok (.bipush 9, 2) := by decide +kernel
theorem dL_plans_120 : decode cL_plans 120 = .ok (.invokestatic 51, 3) := by decide +kernel
theorem dL_plans_123 : decode cL_plans 123 = .ok (.iadd, 1) := by decide +kernel
theorem dL_plans_124 : decode cL_plans 124 = .ok (.istore 7, 2) := by decide +kernel
theorem dL_plans_126 : decode cL_plans 126 = .ok (.aload_n 0, 1) := by decide +kernel
theorem dL_plans_127 : decode cL_plans 127 = .ok (.bipush 48, 2) := by decide +kernel
theorem dL_plans_129 : decode cL_plans 129 = .ok (.iload 7, 2) := by decide +kernel
theorem dL_plans_131 : decode cL_plans 131 = .ok (.iadd, 1) := by decide +kernel
theorem dL_plans_132 : decode cL_plans 132 = .ok (.i2c, 1) := by decide +kernel
theorem dL_plans_133 : decode cL_plans 133 = .ok (.invokevirtual 54, 3) := by decide +kernel
theorem dL_plans_136 : decode cL_plans 136 = .ok (.pop, 1) := by decide +kernel
theorem dL_plans_137 : decode cL_plans 137 = .ok (.aload_n 0, 1) := by decide +kernel
theorem dL_plans_138 : decode cL_plans 138 = .ok (.iload 4, 2) := by decide +kernel
theorem dL_plans_140 : decode cL_plans 140 = .ok (.iconst 3, 1) := by decide +kernel
theorem dL_plans_141 : decode cL_plans 141 = .ok (.invokevirtual 25, 3) := by decide +kernel
theorem dL_plans_144 : decode cL_plans 144 = .ok (.istore 8, 2) := by decide +kernel
theorem dL_plans_146 : decode cL_plans 146 = .ok (.aload_n 0, 1) := by decide +kernel
theorem dL_plans_147 : decode cL_plans 147 = .ok (.aload_n 0, 1) := by decide +kernel
theorem dL_plans_148 : decode cL_plans 148 = .ok (.iload 4, 2) := by decide +kernel
theorem dL_plans_150 : decode cL_plans 150 = .ok (.iconst 0, 1) := by decide +kernel
theorem dL_plans_151 : decode cL_plans 151 = .ok (.invokevirtual 25, 3) := by decide +kernel
theorem dL_plans_154 : decode cL_plans 154 = .ok (.aload_n 0, 1) := by decide +kernel
theorem dL_plans_155 : decode cL_plans 155 = .ok (.iload 4, 2) := by decide +kernel
theorem dL_plans_157 : decode cL_plans 157 = .ok (.iconst 1, 1) := by decide +kernel
theorem dL_plans_158 : decode cL_plans 158 = .ok (.invokevirtual 25, 3) := by decide +kernel
theorem dL_plans_161 : decode cL_plans 161 = .ok (.invokevirtual 15, 3) := by decide +kernel
theorem dL_plans_164 : decode cL_plans 164 = .ok (.istore 9, 2) := by decide +kernel
theorem dL_plans_166 : decode cL_plans 166 = .ok (.aload_n 0, 1) := by decide +kernel
theorem dL_plans_167 : decode cL_plans 167 = .ok (.iload 4, 2) := by decide +kernel
theorem dL_plans_169 : decode cL_plans 169 = .ok (.iconst 4, 1) := by decide +kernel
theorem dL_plans_170 : decode cL_plans 170 = .ok (.invokevirtual 25, 3) := by decide +kernel
theorem dL_plans_173 : decode cL_plans 173 = .ok (.iload 8, 2) := by decide +kernel
theorem dL_plans_175 : decode cL_plans 175 = .ok (.isub, 1) := by decide +kernel
theorem dL_plans_176 : decode cL_plans 176 = .ok (.istore 10, 2) := by decide +kernel
theorem dL_plans_178 : decode cL_plans 178 = .ok (.iload_n 2, 1) := by decide +kernel
theorem dL_plans_179 : decode cL_plans 179 = .ok (.iconst 1, 1) := by decide +kernel
theorem dL_plans_180 : decode cL_plans 180 = .ok (.iand, 1) := by decide +kernel
theorem dL_plans_181 : decode cL_plans 181 = .ok (.ifCond .ne 20, 3) := by decide +kernel
theorem dL_plans_184 : decode cL_plans 184 = .ok (.iload 7, 2) := by decide +kernel
theorem dL_plans_186 : decode cL_plans 186 = .ok (.iload 9, 2) := by decide +kernel
theorem dL_plans_188 : decode cL_plans 188 = .ok (.if_icmp .ge 8, 3) := by decide +kernel
theorem dL_plans_191 : decode cL_plans 191 = .ok (.iload 7, 2) := by decide +kernel
theorem dL_plans_193 : decode cL_plans 193 = .ok (.goto 23, 3) := by decide +kernel
theorem dL_plans_196 : decode cL_plans 196 = .ok (.iload 9, 2) := by decide +kernel
theorem dL_plans_198 : decode cL_plans 198 = .ok (.goto 18, 3) := by decide +kernel
theorem dL_plans_201 : decode cL_plans 201 = .ok (.iload 7, 2) := by decide +kernel
theorem dL_plans_203 : decode cL_plans 203 = .ok (.iload 8, 2) := by decide +kernel
theorem dL_plans_205 : decode cL_plans 205 = .ok (.if_icmp .ge 8, 3) := by decide +kernel
theorem dL_plans_208 : decode cL_plans 208 = .ok (.iload 7, 2) := by decide +kernel
theorem dL_plans_210 : decode cL_plans 210 = .ok (.goto 5, 3) := by decide +kernel
theorem dL_plans_213 : decode cL_plans 213 = .ok (.iload 8, 2) := by decide +kernel
theorem dL_plans_215 : decode cL_plans 215 = .ok (.ineg, 1) := by decide +kernel
theorem dL_plans_216 : decode cL_plans 216 = .ok (.istore 11, 2) := by decide +kernel
theorem dL_plans_218 : decode cL_plans 218 = .ok (.iload 11, 2) := by decide +kernel
theorem dL_plans_220 : decode cL_plans 220 = .ok (.iload 10, 2) := by decide +kernel
theorem dL_plans_222 : decode cL_plans 222 = .ok (.if_icmp .le 8, 3) := by decide +kernel
theorem dL_plans_225 : decode cL_plans 225 = .ok (.iload 10, 2) := by decide +kernel
theorem dL_plans_227 : decode cL_plans 227 = .ok (.goto 23, 3) := by decide +kernel
theorem dL_plans_230 : decode cL_plans 230 = .ok (.iload 11, 2) := by decide +kernel
theorem dL_plans_232 : decode cL_plans 232 = .ok (.iload 9, 2) := by decide +kernel
theorem dL_plans_234 : decode cL_plans 234 = .ok (.bipush 99, 2) := by decide +kernel
theorem dL_plans_236 : decode cL_plans 236 = .ok (.isub, 1) := by decide +kernel
theorem dL_plans_237 : decode cL_plans 237 = .ok (.if_icmp .ge 11, 3) := by decide +kernel
theorem dL_plans_240 : decode cL_plans 240 = .ok (.iload 9, 2) := by decide +kernel
theorem dL_plans_242 : decode cL_plans 242 = .ok (.bipush 99, 2) := by decide +kernel
theorem dL_plans_244 : decode cL_plans 244 = .ok (.isub, 1) := by decide +kernel
theorem dL_plans_245 : decode cL_plans 245 = .ok (.goto 5, 3) := by decide +kernel
theorem dL_plans_248 : decode cL_plans 248 = .ok (.iload 11, 2) := by decide +kernel
theorem dL_plans_250 : decode cL_plans 250 = .ok (.istore 11, 2) := by decide +kernel
theorem dL_plans_252 : decode cL_plans 252 = .ok (.aload_n 0, 1) := by decide +kernel
theorem dL_plans_253 : decode cL_plans 253 = .ok (.bipush 6, 2) := by decide +kernel
theorem dL_plans_255 : decode cL_plans 255 = .ok (.invokevirtual 9, 3) := by decide +kernel
theorem dL_plans_258 : decode cL_plans 258 = .ok (.aload_n 0, 1) := by decide +kernel
theorem dL_plans_259 : decode cL_plans 259 = .ok (.bipush 7, 2) := by decide +kernel
theorem dL_plans_261 : decode cL_plans 261 = .ok (.invokevirtual 9, 3) := by decide +kernel
theorem dL_plans_264 : decode cL_plans 264 = .ok (.iadd, 1) := by decide +kernel
theorem dL_plans_265 : decode cL_plans 265 = .ok (.istore 12, 2) := by decide +kernel
theorem dL_plans_267 : decode cL_plans 267 = .ok (.iload 5, 2) := by decide +kernel
theorem dL_plans_269 : decode cL_plans 269 = .ok (.ifCond .eq 75, 3) := by decide +kernel
theorem dL_plans_272 : decode cL_plans 272 = .ok (.iload 6, 2) := by decide +kernel
theorem dL_plans_274 : decode cL_plans 274 = .ok (.iconst 3, 1) := by decide +kernel
theorem dL_plans_275 : decode cL_plans 275 = .ok (.if_icmp .ne 69, 3) := by decide +kernel
theorem dL_plans_278 : decode cL_plans 278 = .ok (.aload_n 0, 1) := by decide +kernel
theorem dL_plans_279 : decode cL_plans 279 = .ok (.invokevirtual 48, 3) := by decide +kernel
theorem dL_plans_282 : decode cL_plans 282 = .ok (.ifCond .ne 62, 3) := by decide +kernel
theorem dL_plans_285 : decode cL_plans 285 = .ok (.aload_n 0, 1) := by decide +kernel
theorem dL_plans_286 : decode cL_plans 286 = .ok (.iload 4, 2) := by decide +kernel
theorem dL_plans_288 : decode cL_plans 288 = .ok (.iconst 3, 1) := by decide +kernel
theorem dL_plans_289 : decode cL_plans 289 = .ok (.invokevirtual 25, 3) := by decide +kernel
theorem dL_plans_292 : decode cL_plans 292 = .ok (.iload 8, 2) := by decide +kernel
theorem dL_plans_294 : decode cL_plans 294 = .ok (.iload 11, 2) := by decide +kernel
theorem dL_plans_296 : decode cL_plans 296 = .ok (.iadd, 1) := by decide +kernel
theorem dL_plans_297 : decode cL_plans 297 = .ok (.if_icmp .ne 47, 3) := by decide +kernel
theorem dL_plans_300 : decode cL_plans 300 = .ok (.aload_n 0, 1) := by decide +kernel
theorem dL_plans_301 : decode cL_plans 301 = .ok (.aload_n 0, 1) := by decide +kernel
theorem dL_plans_302 : decode cL_plans 302 = .ok (.iload 4, 2) := by decide +kernel
theorem dL_plans_304 : decode cL_plans 304 = .ok (.iconst 0, 1) := by decide +kernel
theorem dL_plans_305 : decode cL_plans 305 = .ok (.invokevirtual 25, 3) := by decide +kernel
theorem dL_plans_308 : decode cL_plans 308 = .ok (.aload_n 0, 1) := by decide +kernel
theorem dL_plans_309 : decode cL_plans 309 = .ok (.iload 4, 2) := by decide +kernel
theorem dL_plans_311 : decode cL_plans 311 = .ok (.iconst 1, 1) := by decide +kernel
theorem dL_plans_312 : decode cL_plans 312 = .ok (.invokevirtual 25, 3) := by decide +kernel
theorem dL_plans_315 : decode cL_plans 315 = .ok (.invokevirtual 15, 3) := by decide +kernel
theorem dL_plans_318 : decode cL_plans 318 = .ok (.iload 9, 2) := by decide +kernel
theorem dL_plans_320 : decode cL_plans 320 = .ok (.iload 11, 2) := by decide +kernel
theorem dL_plans_322 : decode cL_plans 322 = .ok (.isub, 1) := by decide +kernel
theorem dL_plans_323 : decode cL_plans 323 = .ok (.if_icmp .ne 21, 3) := by decide +kernel
theorem dL_plans_326 : decode cL_plans 326 = .ok (.aload_n 0, 1) := by decide +kernel
theorem dL_plans_327 : decode cL_plans 327 = .ok (.bipush 6, 2) := by decide +kernel
theorem dL_plans_329 : decode cL_plans 329 = .ok (.invokevirtual 9, 3) := by decide +kernel
theorem dL_plans_332 : decode cL_plans 332 = .ok (.aload_n 0, 1) := by decide +kernel
theorem dL_plans_333 : decode cL_plans 333 = .ok (.bipush 7, 2) := by decide +kernel
theorem dL_plans_335 : decode cL_plans 335 = .ok (.invokevirtual 9, 3) := by decide +kernel
theorem dL_plans_338 : decode cL_plans 338 = .ok (.iadd, 1) := by decide +kernel
theorem dL_plans_339 : decode cL_plans 339 = .ok (.iload 12, 2) := by decide +kernel
theorem dL_plans_341 : decode cL_plans 341 = .ok (.if_icmp .eq 5, 3) := by decide +kernel
theorem dL_plans_344 : decode cL_plans 344 = .ok (.iconst 0, 1) := by decide +kernel
theorem dL_plans_345 : decode cL_plans 345 = .ok (.ireturn, 1) := by decide +kernel
theorem dL_plans_346 : decode cL_plans 346 = .ok (.aload_n 0, 1) := by decide +kernel
theorem dL_plans_347 : decode cL_plans 347 = .ok (.invokevirtual 44, 3) := by decide +kernel
theorem dL_plans_350 : decode cL_plans 350 = .ok (.pop, 1) := by decide +kernel
theorem dL_plans_351 : decode cL_plans 351 = .ok (.aload_n 0, 1) := by decide +kernel
theorem dL_plans_352 : decode cL_plans 352 = .ok (.bipush 35, 2) := by decide +kernel
theorem dL_plans_354 : decode cL_plans 354 = .ok (.invokevirtual 54, 3) := by decide +kernel
theorem dL_plans_357 : decode cL_plans 357 = .ok (.pop, 1) := by decide +kernel
theorem dL_plans_358 : decode cL_plans 358 = .ok (.aload_n 0, 1) := by decide +kernel
theorem dL_plans_359 : decode cL_plans 359 = .ok (.bipush 48, 2) := by decide +kernel
theorem dL_plans_361 : decode cL_plans 361 = .ok (.iload 4, 2) := by decide +kernel
theorem dL_plans_363 : decode cL_plans 363 = .ok (.iadd, 1) := by decide +kernel
theorem dL_plans_364 : decode cL_plans 364 = .ok (.i2c, 1) := by decide +kernel
theorem dL_plans_365 : decode cL_plans 365 = .ok (.invokevirtual 54, 3) := by decide +kernel
theorem dL_plans_368 : decode cL_plans 368 = .ok (.pop, 1) := by decide +kernel
theorem dL_plans_369 : decode cL_plans 369 = .ok (.iload_n 2, 1) := by decide +kernel
theorem dL_plans_370 : decode cL_plans 370 = .ok (.iconst 5, 1) := by decide +kernel
theorem dL_plans_371 : decode cL_plans 371 = .ok (.ishr, 1) := by decide +kernel
theorem dL_plans_372 : decode cL_plans 372 = .ok (.iconst 4, 1) := by decide +kernel
theorem dL_plans_373 : decode cL_plans 373 = .ok (.invokestatic 51, 3) := by decide +kernel
theorem dL_plans_376 : decode cL_plans 376 = .ok (.istore 13, 2) := by decide +kernel
theorem dL_plans_378 : decode cL_plans 378 = .ok (.aload_n 0, 1) := by decide +kernel
theorem dL_plans_379 : decode cL_plans 379 = .ok (.iload 13, 2) := by decide +kernel
theorem dL_plans_381 : decode cL_plans 381 = .ok (.ifCond .ne 8, 3) := by decide +kernel
theorem dL_plans_384 : decode cL_plans 384 = .ok (.bipush 110, 2) := by decide +kernel
theorem dL_plans_386 : decode cL_plans 386 = .ok (.goto 27, 3) := by decide +kernel
theorem dL_plans_389 : decode cL_plans 389 = .ok (.iload 13, 2) := by decide +kernel
theorem dL_plans_391 : decode cL_plans 391 = .ok (.iconst 1, 1) := by decide +kernel
theorem dL_plans_392 : decode cL_plans 392 = .ok (.if_icmp .ne 8, 3) := by decide +kernel
theorem dL_plans_395 : decode cL_plans 395 = .ok (.bipush 101, 2) := by decide +kernel
theorem dL_plans_397 : decode cL_plans 397 = .ok (.goto 16, 3) := by decide +kernel
theorem dL_plans_400 : decode cL_plans 400 = .ok (.iload 13, 2) := by decide +kernel
theorem dL_plans_402 : decode cL_plans 402 = .ok (.iconst 2, 1) := by decide +kernel
theorem dL_plans_403 : decode cL_plans 403 = .ok (.if_icmp .ne 8, 3) := by decide +kernel
theorem dL_plans_406 : decode cL_plans 406 = .ok (.bipush 115, 2) := by decide +kernel
theorem dL_plans_408 : decode cL_plans 408 = .ok (.goto 5, 3) := by decide +kernel
theorem dL_plans_411 : decode cL_plans 411 = .ok (.bipush 119, 2) := by decide +kernel
theorem dL_plans_413 : decode cL_plans 413 = .ok (.invokevirtual 54, 3) := by decide +kernel
theorem dL_plans_416 : decode cL_plans 416 = .ok (.pop, 1) := by decide +kernel
theorem dL_plans_417 : decode cL_plans 417 = .ok (.aload_n 0, 1) := by decide +kernel
theorem dL_plans_418 : decode cL_plans 418 = .ok (.bipush 49, 2) := by decide +kernel
theorem dL_plans_420 : decode cL_plans 420 = .ok (.iload_n 2, 1) := by decide +kernel
theorem dL_plans_421 : decode cL_plans 421 = .ok (.bipush 7, 2) := by decide +kernel
theorem dL_plans_423 : decode cL_plans 423 = .ok (.ishr, 1) := by decide +kernel
theorem dL_plans_424 : decode cL_plans 424 = .ok (.iconst 4, 1) := by decide +kernel
theorem dL_plans_425 : decode cL_plans 425 = .ok (.invokestatic 51, 3) := by decide +kernel
theorem dL_plans_428 : decode cL_plans 428 = .ok (.iadd, 1) := by decide +kernel
theorem dL_plans_429 : decode cL_plans 429 = .ok (.i2c, 1) := by decide +kernel
theorem dL_plans_430 : decode cL_plans 430 = .ok (.invokevirtual 54, 3) := by decide +kernel
theorem dL_plans_433 : decode cL_plans 433 = .ok (.istore 6, 2) := by decide +kernel
theorem dL_plans_435 : decode cL_plans 435 = .ok (.iconst 1, 1) := by decide +kernel
theorem dL_plans_436 : decode cL_plans 436 = .ok (.iload_n 2, 1) := by decide +kernel
theorem dL_plans_437 : decode cL_plans 437 = .ok (.bipush 7, 2) := by decide +kernel
theorem dL_plans_439 : decode cL_plans 439 = .ok (.ishr, 1) := by decide +kernel
theorem dL_plans_440 : decode cL_plans 440 = .ok (.iconst 4, 1) := by decide +kernel
theorem dL_plans_441 : decode cL_plans 441 = .ok (.invokestatic 51, 3) := by decide +kernel
theorem dL_plans_444 : decode cL_plans 444 = .ok (.iadd, 1) := by decide +kernel
theorem dL_plans_445 : decode cL_plans 445 = .ok (.istore 14, 2) := by decide +kernel
theorem dL_plans_447 : decode cL_plans 447 = .ok (.aload_n 0, 1) := by decide +kernel
theorem dL_plans_448 : decode cL_plans 448 = .ok (.iload 4, 2) := by decide +kernel
theorem dL_plans_450 : decode cL_plans 450 = .ok (.iconst 0, 1) := by decide +kernel
theorem dL_plans_451 : decode cL_plans 451 = .ok (.invokevirtual 25, 3) := by decide +kernel
theorem dL_plans_454 : decode cL_plans 454 = .ok (.istore 15, 2) := by decide +kernel
theorem dL_plans_456 : decode cL_plans 456 = .ok (.aload_n 0, 1) := by decide +kernel
theorem dL_plans_457 : decode cL_plans 457 = .ok (.iload 4, 2) := by decide +kernel
theorem dL_plans_459 : decode cL_plans 459 = .ok (.iconst 1, 1) := by decide +kernel
theorem dL_plans_460 : decode cL_plans 460 = .ok (.invokevirtual 25, 3) := by decide +kernel
theorem dL_plans_463 : decode cL_plans 463 = .ok (.istore 16, 2) := by decide +kernel
theorem dL_plans_465 : decode cL_plans 465 = .ok (.iload 13, 2) := by decide +kernel
theorem dL_plans_467 : decode cL_plans 467 = .ok (.ifCond .ne 8, 3) := by decide +kernel
theorem dL_plans_470 : decode cL_plans 470 = .ok (.iload 15, 2) := by decide +kernel
theorem dL_plans_472 : decode cL_plans 472 = .ok (.goto 43, 3) := by decide +kernel
theorem dL_plans_475 : decode cL_plans 475 = .ok (.iload 13, 2) := by decide +kernel
theorem dL_plans_477 : decode cL_plans 477 = .ok (.iconst 1, 1) := by decide +kernel
theorem dL_plans_478 : decode cL_plans 478 = .ok (.if_icmp .ne 16, 3) := by decide +kernel
theorem dL_plans_481 : decode cL_plans 481 = .ok (.aload_n 0, 1) := by decide +kernel
theorem dL_plans_482 : decode cL_plans 482 = .ok (.iconst 1, 1) := by decide +kernel
theorem dL_plans_483 : decode cL_plans 483 = .ok (.invokevirtual 9, 3) := by decide +kernel
theorem dL_plans_486 : decode cL_plans 486 = .ok (.iconst 1, 1) := by decide +kernel
theorem dL_plans_487 : decode cL_plans 487 = .ok (.isub, 1) := by decide +kernel
theorem dL_plans_488 : decode cL_plans 488 = .ok (.iload 16, 2) := by decide +kernel
theorem dL_plans_490 : decode cL_plans 490 = .ok (.isub, 1) := by decide +kernel
theorem dL_plans_491 : decode cL_plans 491 = .ok (.goto 24, 3) := by decide +kernel
theorem dL_plans_494 : decode cL_plans 494 = .ok (.iload 13, 2) := by decide +kernel
theorem dL_plans_496 : decode cL_plans 496 = .ok (.iconst 2, 1) := by decide +kernel
theorem dL_plans_497 : decode cL_plans 497 = .ok (.if_icmp .ne 16, 3) := by decide +kernel
theorem dL_plans_500 : decode cL_plans 500 = .ok (.aload_n 0, 1) := by decide +kernel
theorem dL_plans_501 : decode cL_plans 501 = .ok (.iconst 0, 1) := by decide +kernel
theorem dL_plans_502 : decode cL_plans 502 = .ok (.invokevirtual 9, 3) := by decide +kernel
theorem dL_plans_505 : decode cL_plans 505 = .ok (.iconst 1, 1) := by decide +kernel
theorem dL_plans_506 : decode cL_plans 506 = .ok (.isub, 1) := by decide +kernel
theorem dL_plans_507 : decode cL_plans 507 = .ok (.iload 15, 2) := by decide +kernel
theorem dL_plans_509 : decode cL_plans 509 = .ok (.isub, 1) := by decide +kernel
theorem dL_plans_510 : decode cL_plans 510 = .ok (.goto 5, 3) := by decide +kernel
theorem dL_plans_513 : decode cL_plans 513 = .ok (.iload 16, 2) := by decide +kernel
theorem dL_plans_515 : decode cL_plans 515 = .ok (.istore 17, 2) := by decide +kernel
theorem dL_plans_517 : decode cL_plans 517 = .ok (.iload 14, 2) := by decide +kernel
theorem dL_plans_519 : decode cL_plans 519 = .ok (.iload 17, 2) := by decide +kernel
theorem dL_plans_521 : decode cL_plans 521 = .ok (.if_icmp .ge 8, 3) := by decide +kernel
theorem dL_plans_524 : decode cL_plans 524 = .ok (.iload 14, 2) := by decide +kernel
theorem dL_plans_526 : decode cL_plans 526 = .ok (.goto 5, 3) := by decide +kernel
theorem dL_plans_529 : decode cL_plans 529 = .ok (.iload 17, 2) := by decide +kernel
theorem dL_plans_531 : decode cL_plans 531 = .ok (.istore 18, 2) := by decide +kernel
theorem dL_plans_533 : decode cL_plans 533 = .ok (.aload_n 0, 1) := by decide +kernel
theorem dL_plans_534 : decode cL_plans 534 = .ok (.bipush 9, 2) := by decide +kernel
theorem dL_plans_536 : decode cL_plans 536 = .ok (.invokevirtual 9, 3) := by decide +kernel
theorem dL_plans_539 : decode cL_plans 539 = .ok (.istore 19, 2) := by decide +kernel
theorem dL_plans_541 : decode cL_plans 541 = .ok (.aload_n 0, 1) := by decide +kernel
theorem dL_plans_542 : decode cL_plans 542 = .ok (.iload 4, 2) := by decide +kernel
theorem dL_plans_544 : decode cL_plans 544 = .ok (.iconst 2, 1) := by decide +kernel
theorem dL_plans_545 : decode cL_plans 545 = .ok (.invokevirtual 25, 3) := by decide +kernel
theorem dL_plans_548 : decode cL_plans 548 = .ok (.istore 20, 2) := by decide +kernel
theorem dL_plans_550 : decode cL_plans 550 = .ok (.aload_n 0, 1) := by decide +kernel
theorem dL_plans_551 : decode cL_plans 551 = .ok (.invokevirtual 48, 3) := by decide +kernel
theorem dL_plans_554 : decode cL_plans 554 = .ok (.iload 18, 2) := by decide +kernel
theorem dL_plans_556 : decode cL_plans 556 = .ok (.if_icmp .ne 109, 3) := by decide +kernel
theorem dL_plans_559 : decode cL_plans 559 = .ok (.aload_n 0, 1) := by decide +kernel
theorem dL_plans_560 : decode cL_plans 560 = .ok (.iload 4, 2) := by decide +kernel
theorem dL_plans_562 : decode cL_plans 562 = .ok (.iconst 0, 1) := by decide +kernel
theorem dL_plans_563 : decode cL_plans 563 = .ok (.invokevirtual 25, 3) := by decide +kernel
theorem dL_plans_566 : decode cL_plans 566 = .ok (.iload 15, 2) := by decide +kernel
theorem dL_plans_568 : decode cL_plans 568 = .ok (.iload 13, 2) := by decide +kernel
theorem dL_plans_570 : decode cL_plans 570 = .ok (.iconst 2, 1) := by decide +kernel
theorem dL_plans_571 : decode cL_plans 571 = .ok (.if_icmp .ne 8, 3) := by decide +kernel
theorem dL_plans_574 : decode cL_plans 574 = .ok (.iload 18, 2) := by decide +kernel
theorem dL_plans_576 : decode cL_plans 576 = .ok (.goto 15, 3) := by decide +kernel
theorem dL_plans_579 : decode cL_plans 579 = .ok (.iload 13, 2) := by decide +kernel
theorem dL_plans_581 : decode cL_plans 581 = .ok (.ifCond .ne 9, 3) := by decide +kernel
theorem dL_plans_584 : decode cL_plans 584 = .ok (.iload 18, 2) := by decide +kernel
theorem dL_plans_586 : decode cL_plans 586 = .ok (.ineg, 1) := by decide +kernel
theorem dL_plans_587 : decode cL_plans 587 = .ok (.goto 4, 3) := by decide +kernel
theorem dL_plans_590 : decode cL_plans 590 = .ok (.iconst 0, 1) := by decide +kernel
theorem dL_plans_591 : decode cL_plans 591 = .ok (.iadd, 1) := by decide +kernel
theorem dL_plans_592 : decode cL_plans 592 = .ok (.if_icmp .ne 73, 3) := by decide +kernel
theorem dL_plans_595 : decode cL_plans 595 = .ok (.aload_n 0, 1) := by decide +kernel
theorem dL_plans_596 : decode cL_plans 596 = .ok (.iload 4, 2) := by decide +kernel
theorem dL_plans_598 : decode cL_plans 598 = .ok (.iconst 1, 1) := by decide +kernel
theorem dL_plans_599 : decode cL_plans 599 = .ok (.invokevirtual 25, 3) := by decide +kernel
theorem dL_plans_602 : decode cL_plans 602 = .ok (.iload 16, 2) := by decide +kernel
theorem dL_plans_604 : decode cL_plans 604 = .ok (.iload 13, 2) := by decide +kernel
theorem dL_plans_606 : decode cL_plans 606 = .ok (.iconst 1, 1) := by decide +kernel
theorem dL_plans_607 : decode cL_plans 607 = .ok (.if_icmp .ne 8, 3) := by decide +kernel
theorem dL_plans_610 : decode cL_plans 610 = .ok (.iload 18, 2) := by decide +kernel
theorem dL_plans_612 : decode cL_plans 612 = .ok (.goto 16, 3) := by decide +kernel
theorem dL_plans_615 : decode cL_plans 615 = .ok (.iload 13, 2) := by decide +kernel
theorem dL_plans_617 : decode cL_plans 617 = .ok (.iconst 3, 1) := by decide +kernel
theorem dL_plans_618 : decode cL_plans 618 = .ok (.if_icmp .ne 9, 3) := by decide +kernel
theorem dL_plans_621 : decode cL_plans 621 = .ok (.iload 18, 2) := by decide +kernel
theorem dL_plans_623 : decode cL_plans 623 = .ok (.ineg, 1) := by decide +kernel
theorem dL_plans_624 : decode cL_plans 624 = .ok (.goto 4, 3) := by decide +kernel
theorem dL_plans_627 : decode cL_plans 627 = .ok (.iconst 0, 1) := by decide +kernel
theorem dL_plans_628 : decode cL_plans 628 = .ok (.iadd, 1) := by decide +kernel
theorem dL_plans_629 : decode cL_plans 629 = .ok (.if_icmp .ne 36, 3) := by decide +kernel
theorem dL_plans_632 : decode cL_plans 632 = .ok (.aload_n 0, 1) := by decide +kernel
theorem dL_plans_633 : decode cL_plans 633 = .ok (.bipush 9, 2) := by decide +kernel
theorem dL_plans_635 : decode cL_plans 635 = .ok (.invokevirtual 9, 3) := by decide +kernel
theorem dL_plans_638 : decode cL_plans 638 = .ok (.iload 19, 2) := by decide +kernel
theorem dL_plans_640 : decode cL_plans 640 = .ok (.if_icmp .ne 25, 3) := by decide +kernel
theorem dL_plans_643 : decode cL_plans 643 = .ok (.aload_n 0, 1) := by decide +kernel
theorem dL_plans_644 : decode cL_plans 644 = .ok (.iload 4, 2) := by decide +kernel
theorem dL_plans_646 : decode cL_plans 646 = .ok (.iconst 2, 1) := by decide +kernel
theorem dL_plans_647 : decode cL_plans 647 = .ok (.invokevirtual 25, 3) := by decide +kernel
theorem dL_plans_650 : decode cL_plans 650 = .ok (.iload 18, 2) := by decide +kernel
theorem dL_plans_652 : decode cL_plans 652 = .ok (.ifCond .le 8, 3) := by decide +kernel
theorem dL_plans_655 : decode cL_plans 655 = .ok (.iload 13, 2) := by decide +kernel
theorem dL_plans_657 : decode cL_plans 657 = .ok (.goto 5, 3) := by decide +kernel
theorem dL_plans_660 : decode cL_plans 660 = .ok (.iload 20, 2) := by decide +kernel
theorem dL_plans_662 : decode cL_plans 662 = .ok (.if_icmp .eq 5, 3) := by decide +kernel
theorem dL_plans_665 : decode cL_plans 665 = .ok (.iconst 0, 1) := by decide +kernel
theorem dL_plans_666 : decode cL_plans 666 = .ok (.ireturn, 1) := by decide +kernel
theorem dL_plans_667 : decode cL_plans 667 = .ok (.aload_n 0, 1) := by decide +kernel
theorem dL_plans_668 : decode cL_plans 668 = .ok (.bipush 48, 2) := by decide +kernel
theorem dL_plans_670 : decode cL_plans 670 = .ok (.invokevirtual 54, 3) := by decide +kernel
theorem dL_plans_673 : decode cL_plans 673 = .ok (.pop, 1) := by decide +kernel
theorem dL_plans_674 : decode cL_plans 674 = .ok (.iload 14, 2) := by decide +kernel
theorem dL_plans_676 : decode cL_plans 676 = .ok (.bipush 6, 2) := by decide +kernel
theorem dL_plans_678 : decode cL_plans 678 = .ok (.if_icmp .ge 21, 3) := by decide +kernel
theorem dL_plans_681 : decode cL_plans 681 = .ok (.aload_n 0, 1) := by decide +kernel
theorem dL_plans_682 : decode cL_plans 682 = .ok (.invokevirtual 48, 3) := by decide +kernel
theorem dL_plans_685 : decode cL_plans 685 = .ok (.ifCond .lt 14, 3) := by decide +kernel
theorem dL_plans_688 : decode cL_plans 688 = .ok (.aload_n 0, 1) := by decide +kernel
theorem dL_plans_689 : decode cL_plans 689 = .ok (.invokevirtual 58, 3) := by decide +kernel
theorem dL_plans_692 : decode cL_plans 692 = .ok (.ifCond .lt 7, 3) := by decide +kernel
theorem dL_plans_695 : decode cL_plans 695 = .ok (.iconst 1, 1) := by decide +kernel
theorem dL_plans_696 : decode cL_plans 696 = .ok (.goto 4, 3) := by decide +kernel
theorem dL_plans_699 : decode cL_plans 699 = .ok (.iconst 0, 1) := by decide +kernel
theorem dL_plans_700 : decode cL_plans 700 = .ok (.istore 21, 2) := by decide +kernel
theorem dL_plans_702 : decode cL_plans 702 = .ok (.aload_n 0, 1) := by decide +kernel
theorem dL_plans_703 : decode cL_plans 703 = .ok (.bipush 48, 2) := by decide +kernel
theorem dL_plans_705 : decode cL_plans 705 = .ok (.invokevirtual 54, 3) := by decide +kernel
theorem dL_plans_708 : decode cL_plans 708 = .ok (.pop, 1) := by decide +kernel
theorem dL_plans_709 : decode cL_plans 709 = .ok (.iload 21, 2) := by decide +kernel
theorem dL_plans_711 : decode cL_plans 711 = .ok (.ifCond .eq 21, 3) := by decide +kernel
theorem dL_plans_714 : decode cL_plans 714 = .ok (.aload_n 0, 1) := by decide +kernel
theorem dL_plans_715 : decode cL_plans 715 = .ok (.invokevirtual 48, 3) := by decide +kernel
theorem dL_plans_718 : decode cL_plans 718 = .ok (.bipush (-100), 2) := by decide +kernel
theorem dL_plans_720 : decode cL_plans 720 = .ok (.iload 6, 2) := by decide +kernel
theorem dL_plans_722 : decode cL_plans 722 = .ok (.isub, 1) := by decide +kernel
theorem dL_plans_723 : decode cL_plans 723 = .ok (.iconst 1, 1) := by decide +kernel
theorem dL_plans_724 : decode cL_plans 724 = .ok (.isub, 1) := by decide +kernel
theorem dL_plans_725 : decode cL_plans 725 = .ok (.if_icmp .ne 7, 3) := by decide +kernel
theorem dL_plans_728 : decode cL_plans 728 = .ok (.iconst 1, 1) := by decide +kernel
theorem dL_plans_729 : decode cL_plans 729 = .ok (.goto 4, 3) := by decide +kernel
theorem dL_plans_732 : decode cL_plans 732 = .ok (.iconst 0, 1) := by decide +kernel
theorem dL_plans_733 : decode cL_plans 733 = .ok (.ireturn, 1) := by decide +kernel
theorem dL_until_0 : decode cL_until 0 = .ok (.aload_n 0, 1) := by decide +kernel
theorem dL_until_1 : decode cL_until 1 = .ok (.iconst 5, 1) := by decide +kernel
theorem dL_until_2 : decode cL_until 2 = .ok (.invokevirtual 9, 3) := by decide +kernel
theorem dL_until_5 : decode cL_until 5 = .ok (.istore_n 2, 1) := by decide +kernel
theorem dL_until_6 : decode cL_until 6 = .ok (.aload_n 0, 1) := by decide +kernel
theorem dL_until_7 : decode cL_until 7 = .ok (.iload_n 1, 1) := by decide +kernel
theorem dL_until_8 : decode cL_until 8 = .ok (.invokevirtual 61, 3) := by decide +kernel
theorem dL_until_11 : decode cL_until 11 = .ok (.istore_n 3, 1) := by decide +kernel
theorem dL_until_12 : decode cL_until 12 = .ok (.iload_n 2, 1) := by decide +kernel
theorem dL_until_13 : decode cL_until 13 = .ok (.iload_n 1, 1) := by decide +kernel
theorem dL_until_14 : decode cL_until 14 = .ok (.if_icmp .gt 13, 3) := by decide +kernel
theorem dL_until_17 : decode cL_until 17 = .ok (.iload_n 3, 1) := by decide +kernel
theorem dL_until_18 : decode cL_until 18 = .ok (.ifCond .ne 7, 3) := by decide +kernel
theorem dL_until_21 : decode cL_until 21 = .ok (.iconst 1, 1) := by decide +kernel
theorem dL_until_22 : decode cL_until 22 = .ok (.goto 4, 3) := by decide +kernel
theorem dL_until_25 : decode cL_until 25 = .ok (.iconst 0, 1) := by decide +kernel
theorem dL_until_26 : decode cL_until 26 = .ok (.ireturn, 1) := by decide +kernel
theorem dL_until_27 : decode cL_until 27 = .ok (.iload_n 3, 1) := by decide +kernel
theorem dL_until_28 : decode cL_until 28 = .ok (.ifCond .ge 15, 3) := by decide +kernel
theorem dL_until_31 : decode cL_until 31 = .ok (.iload_n 3, 1) := by decide +kernel
theorem dL_until_32 : decode cL_until 32 = .ok (.bipush (-5), 2) := by decide +kernel
theorem dL_until_34 : decode cL_until 34 = .ok (.if_icmp .ne 7, 3) := by decide +kernel
theorem dL_until_37 : decode cL_until 37 = .ok (.iconst 1, 1) := by decide +kernel
theorem dL_until_38 : decode cL_until 38 = .ok (.goto 4, 3) := by decide +kernel
theorem dL_until_41 : decode cL_until 41 = .ok (.iconst 0, 1) := by decide +kernel
theorem dL_until_42 : decode cL_until 42 = .ok (.ireturn, 1) := by decide +kernel
theorem dL_until_43 : decode cL_until 43 = .ok (.iload_n 3, 1) := by decide +kernel
theorem dL_until_44 : decode cL_until 44 = .ok (.bipush 50, 2) := by decide +kernel
theorem dL_until_46 : decode cL_until 46 = .ok (.if_icmp .le 24, 3) := by decide +kernel
theorem dL_until_49 : decode cL_until 49 = .ok (.iload_n 3, 1) := by decide +kernel
theorem dL_until_50 : decode cL_until 50 = .ok (.sipush 200, 3) := by decide +kernel
theorem dL_until_53 : decode cL_until 53 = .ok (.if_icmp .gt 15, 3) := by decide +kernel
theorem dL_until_56 : decode cL_until 56 = .ok (.aload_n 0, 1) := by decide +kernel
theorem dL_until_57 : decode cL_until 57 = .ok (.iconst 2, 1) := by decide +kernel
theorem dL_until_58 : decode cL_until 58 = .ok (.invokevirtual 9, 3) := by decide +kernel
theorem dL_until_61 : decode cL_until 61 = .ok (.ifCond .le 7, 3) := by decide +kernel
theorem dL_until_64 : decode cL_until 64 = .ok (.iconst 1, 1) := by decide +kernel
theorem dL_until_65 : decode cL_until 65 = .ok (.goto 4, 3) := by decide +kernel
theorem dL_until_68 : decode cL_until 68 = .ok (.iconst 0, 1) := by decide +kernel
theorem dL_until_69 : decode cL_until 69 = .ok (.ireturn, 1) := by decide +kernel
theorem dL_until_70 : decode cL_until 70 = .ok (.aload_n 0, 1) := by decide +kernel
theorem dL_until_71 : decode cL_until 71 = .ok (.iload_n 3, 1) := by decide +kernel
theorem dL_until_72 : decode cL_until 72 = .ok (.invokevirtual 64, 3) := by decide +kernel
theorem dL_until_75 : decode cL_until 75 = .ok (.istore 4, 2) := by decide +kernel
theorem dL_until_77 : decode cL_until 77 = .ok (.iload 4, 2) := by decide +kernel
theorem dL_until_79 : decode cL_until 79 = .ok (.aload_n 0, 1) := by decide +kernel
theorem dL_until_80 : decode cL_until 80 = .ok (.iconst 5, 1) := by decide +kernel
theorem dL_until_81 : decode cL_until 81 = .ok (.invokevirtual 9, 3) := by decide +kernel
theorem dL_until_84 : decode cL_until 84 = .ok (.if_icmp .ne 25, 3) := by decide +kernel
theorem dL_until_87 : decode cL_until 87 = .ok (.iload 4, 2) := by decide +kernel
theorem dL_until_89 : decode cL_until 89 = .ok (.iload_n 1, 1) := by decide +kernel
theorem dL_until_90 : decode cL_until 90 = .ok (.if_icmp .gt 19, 3) := by decide +kernel
theorem dL_until_93 : decode cL_until 93 = .ok (.aload_n 0, 1) := by decide +kernel
theorem dL_until_94 : decode cL_until 94 = .ok (.invokevirtual 58, 3) := by decide +kernel
theorem dL_until_97 : decode cL_until 97 = .ok (.ifCond .lt 12, 3) := by decide +kernel
theorem dL_until_100 : decode cL_until 100 = .ok (.aload_n 0, 1) := by decide +kernel
theorem dL_until_101 : decode cL_until 101 = .ok (.iconst 5, 1) := by decide +kernel
theorem dL_until_102 : decode cL_until 102 = .ok (.invokevirtual 9, 3) := by decide +kernel
theorem dL_until_105 : decode cL_until 105 = .ok (.iload_n 2, 1) := by decide +kernel
theorem dL_until_106 : decode cL_until 106 = .ok (.if_icmp .eq 5, 3) := by decide +kernel
theorem dL_until_109 : decode cL_until 109 = .ok (.iconst 0, 1) := by decide +kernel
theorem dL_until_110 : decode cL_until 110 = .ok (.ireturn, 1) := by decide +kernel
theorem dL_until_111 : decode cL_until 111 = .ok (.iload_n 3, 1) := by decide +kernel
theorem dL_until_112 : decode cL_until 112 = .ok (.iconst 2, 1) := by decide +kernel
theorem dL_until_113 : decode cL_until 113 = .ok (.if_icmp .lt 21, 3) := by decide +kernel
theorem dL_until_116 : decode cL_until 116 = .ok (.aload_n 0, 1) := by decide +kernel
theorem dL_until_117 : decode cL_until 117 = .ok (.iload_n 3, 1) := by decide +kernel
theorem dL_until_118 : decode cL_until 118 = .ok (.iconst 1, 1) := by decide +kernel
theorem dL_until_119 : decode cL_until 119 = .ok (.isub, 1) := by decide +kernel
theorem dL_until_120 : decode cL_until 120 = .ok (.invokevirtual 64, 3) := by decide +kernel
theorem dL_until_123 : decode cL_until 123 = .ok (.iload_n 1, 1) := by decide +kernel
theorem dL_until_124 : decode cL_until 124 = .ok (.if_icmp .le 14, 3) := by decide +kernel
theorem dL_until_127 : decode cL_until 127 = .ok (.aload_n 0, 1) := by decide +kernel
theorem dL_until_128 : decode cL_until 128 = .ok (.invokevirtual 58, 3) := by decide +kernel
theorem dL_until_131 : decode cL_until 131 = .ok (.ifCond .lt 7, 3) := by decide +kernel
theorem dL_until_134 : decode cL_until 134 = .ok (.iconst 1, 1) := by decide +kernel
theorem dL_until_135 : decode cL_until 135 = .ok (.goto 4, 3) := by decide +kernel
theorem dL_until_138 : decode cL_until 138 = .ok (.iconst 0, 1) := by decide +kernel
theorem dL_until_139 : decode cL_until 139 = .ok (.ireturn, 1) := by decide +kernel
theorem dL_errors_0 : decode cL_errors 0 = .ok (.aload_n 0, 1) := by decide +kernel
theorem dL_errors_1 : decode cL_errors 1 = .ok (.iconst 0, 1) := by decide +kernel
theorem dL_errors_2 : decode cL_errors 2 = .ok (.invokevirtual 9, 3) := by decide +kernel
theorem dL_errors_5 : decode cL_errors 5 = .ok (.istore_n 1, 1) := by decide +kernel
theorem dL_errors_6 : decode cL_errors 6 = .ok (.aload_n 0, 1) := by decide +kernel
theorem dL_errors_7 : decode cL_errors 7 = .ok (.iconst 2, 1) := by decide +kernel
theorem dL_errors_8 : decode cL_errors 8 = .ok (.invokevirtual 9, 3) := by decide +kernel
theorem dL_errors_11 : decode cL_errors 11 = .ok (.istore_n 2, 1) := by decide +kernel
theorem dL_errors_12 : decode cL_errors 12 = .ok (.aload_n 0, 1) := by decide +kernel
theorem dL_errors_13 : decode cL_errors 13 = .ok (.iconst 1, 1) := by decide +kernel
theorem dL_errors_14 : decode cL_errors 14 = .ok (.iconst 5, 1) := by decide +kernel
theorem dL_errors_15 : decode cL_errors 15 = .ok (.invokevirtual 67, 3) := by decide +kernel
theorem dL_errors_18 : decode cL_errors 18 = .ok (.bipush (-2), 2) := by decide +kernel
theorem dL_errors_20 : decode cL_errors 20 = .ok (.if_icmp .ne 158, 3) := by decide +kernel
theorem dL_errors_23 : decode cL_errors 23 = .ok (.aload_n 0, 1) := by decide +kernel
theorem dL_errors_24 : decode cL_errors 24 = .ok (.iconst 5, 1) := by decide +kernel
theorem dL_errors_25 : decode cL_errors 25 = .ok (.bipush 17, 2) := by decide +kernel
theorem dL_errors_27 : decode cL_errors 27 = .ok (.invokevirtual 67, 3) := by decide +kernel
theorem dL_errors_30 : decode cL_errors 30 = .ok (.bipush (-2), 2) := by decide +kernel
theorem dL_errors_32 : decode cL_errors 32 = .ok (.if_icmp .ne 146, 3) := by decide +kernel
theorem dL_errors_35 : decode cL_errors 35 = .ok (.aload_n 0, 1) := by decide +kernel
theorem dL_errors_36 : decode cL_errors 36 = .ok (.iload_n 1, 1) := by decide +kernel
theorem dL_errors_37 : decode cL_errors 37 = .ok (.iconst 0, 1) := by decide +kernel
theorem dL_errors_38 : decode cL_errors 38 = .ok (.iconst 0, 1) := by decide +kernel
theorem dL_errors_39 : decode cL_errors 39 = .ok (.invokevirtual 70, 3) := by decide +kernel
theorem dL_errors_42 : decode cL_errors 42 = .ok (.iconst (-1), 1) := by decide +kernel
theorem dL_errors_43 : decode cL_errors 43 = .ok (.if_icmp .ne 135, 3) := by decide +kernel
theorem dL_errors_46 : decode cL_errors 46 = .ok (.aload_n 0, 1) := by decide +kernel
theorem dL_errors_47 : decode cL_errors 47 = .ok (.iconst 0, 1) := by decide +kernel
theorem dL_errors_48 : decode cL_errors 48 = .ok (.iconst (-1), 1) := by decide +kernel
theorem dL_errors_49 : decode cL_errors 49 = .ok (.iconst 0, 1) := by decide +kernel
theorem dL_errors_50 : decode cL_errors 50 = .ok (.invokevirtual 70, 3) := by decide +kernel
theorem dL_errors_53 : decode cL_errors 53 = .ok (.iconst (-1), 1) := by decide +kernel
theorem dL_errors_54 : decode cL_errors 54 = .ok (.if_icmp .ne 124, 3) := by decide +kernel
theorem dL_errors_57 : decode cL_errors 57 = .ok (.aload_n 0, 1) := by decide +kernel
theorem dL_errors_58 : decode cL_errors 58 = .ok (.iconst 0, 1) := by decide +kernel
theorem dL_errors_59 : decode cL_errors 59 = .ok (.iconst 0, 1) := by decide +kernel
theorem dL_errors_60 : decode cL_errors 60 = .ok (.bipush 100, 2) := by decide +kernel
theorem dL_errors_62 : decode cL_errors 62 = .ok (.invokevirtual 70, 3) := by decide +kernel
theorem dL_errors_65 : decode cL_errors 65 = .ok (.bipush (-2), 2) := by decide +kernel
theorem dL_errors_67 : decode cL_errors 67 = .ok (.if_icmp .ne 111, 3) := by decide +kernel
theorem dL_errors_70 : decode cL_errors 70 = .ok (.aload_n 0, 1) := by decide +kernel
theorem dL_errors_71 : decode cL_errors 71 = .ok (.bipush 10, 2) := by decide +kernel
theorem dL_errors_73 : decode cL_errors 73 = .ok (.iconst 0, 1) := by decide +kernel
theorem dL_errors_74 : decode cL_errors 74 = .ok (.iconst 1, 1) := by decide +kernel
theorem dL_errors_75 : decode cL_errors 75 = .ok (.invokevirtual 74, 3) := by decide +kernel
theorem dL_errors_78 : decode cL_errors 78 = .ok (.bipush (-2), 2) := by decide +kernel
theorem dL_errors_80 : decode cL_errors 80 = .ok (.if_icmp .ne 98, 3) := by decide +kernel
theorem dL_errors_83 : decode cL_errors 83 = .ok (.aload_n 0, 1) := by decide +kernel
theorem dL_errors_84 : decode cL_errors 84 = .ok (.iconst 0, 1) := by decide +kernel
theorem dL_errors_85 : decode cL_errors 85 = .ok (.iconst 0, 1) := by decide +kernel
theorem dL_errors_86 : decode cL_errors 86 = .ok (.bipush 21, 2) := by decide +kernel
theorem dL_errors_88 : decode cL_errors 88 = .ok (.invokevirtual 74, 3) := by decide +kernel
theorem dL_errors_91 : decode cL_errors 91 = .ok (.bipush (-2), 2) := by decide +kernel
theorem dL_errors_93 : decode cL_errors 93 = .ok (.if_icmp .ne 85, 3) := by decide +kernel
theorem dL_errors_96 : decode cL_errors 96 = .ok (.aload_n 0, 1) := by decide +kernel
theorem dL_errors_97 : decode cL_errors 97 = .ok (.iconst 0, 1) := by decide +kernel
theorem dL_errors_98 : decode cL_errors 98 = .ok (.iconst 0, 1) := by decide +kernel
theorem dL_errors_99 : decode cL_errors 99 = .ok (.iconst 0, 1) := by decide +kernel
theorem dL_errors_100 : decode cL_errors 100 = .ok (.invokevirtual 74, 3) := by decide +kernel
theorem dL_errors_103 : decode cL_errors 103 = .ok (.bipush (-2), 2) := by decide +kernel
theorem dL_errors_105 : decode cL_errors 105 = .ok (.if_icmp .ne 73, 3) := by decide +kernel
theorem dL_errors_108 : decode cL_errors 108 = .ok (.aload_n 0, 1) := by decide +kernel
theorem dL_errors_109 : decode cL_errors 109 = .ok (.iload_n 1, 1) := by decide +kernel
theorem dL_errors_110 : decode cL_errors 110 = .ok (.iconst 0, 1) := by decide +kernel
theorem dL_errors_111 : decode cL_errors 111 = .ok (.iconst 0, 1) := by decide +kernel
theorem dL_errors_112 : decode cL_errors 112 = .ok (.iconst 0, 1) := by decide +kernel
theorem dL_errors_113 : decode cL_errors 113 = .ok (.iconst 1, 1) := by decide +kernel
theorem dL_errors_114 : decode cL_errors 114 = .ok (.invokevirtual 77, 3) := by decide +kernel
theorem dL_errors_117 : decode cL_errors 117 = .ok (.iconst (-1), 1) := by decide +kernel
theorem dL_errors_118 : decode cL_errors 118 = .ok (.if_icmp .ne 60, 3) := by decide +kernel
theorem dL_errors_121 : decode cL_errors 121 = .ok (.aload_n 0, 1) := by decide +kernel
theorem dL_errors_122 : decode cL_errors 122 = .ok (.iconst 0, 1) := by decide +kernel
theorem dL_errors_123 : decode cL_errors 123 = .ok (.iconst 0, 1) := by decide +kernel
theorem dL_errors_124 : decode cL_errors 124 = .ok (.iconst 4, 1) := by decide +kernel
theorem dL_errors_125 : decode cL_errors 125 = .ok (.iconst 0, 1) := by decide +kernel
theorem dL_errors_126 : decode cL_errors 126 = .ok (.iconst 1, 1) := by decide +kernel
theorem dL_errors_127 : decode cL_errors 127 = .ok (.invokevirtual 77, 3) := by decide +kernel
theorem dL_errors_130 : decode cL_errors 130 = .ok (.bipush (-2), 2) := by decide +kernel
theorem dL_errors_132 : decode cL_errors 132 = .ok (.if_icmp .ne 46, 3) := by decide +kernel
theorem dL_errors_135 : decode cL_errors 135 = .ok (.aload_n 0, 1) := by decide +kernel
theorem dL_errors_136 : decode cL_errors 136 = .ok (.iconst 0, 1) := by decide +kernel
theorem dL_errors_137 : decode cL_errors 137 = .ok (.iconst 0, 1) := by decide +kernel
theorem dL_errors_138 : decode cL_errors 138 = .ok (.iconst 0, 1) := by decide +kernel
theorem dL_errors_139 : decode cL_errors 139 = .ok (.iconst 3, 1) := by decide +kernel
theorem dL_errors_140 : decode cL_errors 140 = .ok (.iconst 1, 1) := by decide +kernel
theorem dL_errors_141 : decode cL_errors 141 = .ok (.invokevirtual 77, 3) := by decide +kernel
theorem dL_errors_144 : decode cL_errors 144 = .ok (.bipush (-2), 2) := by decide +kernel
theorem dL_errors_146 : decode cL_errors 146 = .ok (.if_icmp .ne 32, 3) := by decide +kernel
theorem dL_errors_149 : decode cL_errors 149 = .ok (.aload_n 0, 1) := by decide +kernel
theorem dL_errors_150 : decode cL_errors 150 = .ok (.iconst 0, 1) := by decide +kernel
theorem dL_errors_151 : decode cL_errors 151 = .ok (.iconst 0, 1) := by decide +kernel
theorem dL_errors_152 : decode cL_errors 152 = .ok (.iconst 0, 1) := by decide +kernel
theorem dL_errors_153 : decode cL_errors 153 = .ok (.iconst 0, 1) := by decide +kernel
theorem dL_errors_154 : decode cL_errors 154 = .ok (.bipush 10, 2) := by decide +kernel
theorem dL_errors_156 : decode cL_errors 156 = .ok (.invokevirtual 77, 3) := by decide +kernel
theorem dL_errors_159 : decode cL_errors 159 = .ok (.bipush (-2), 2) := by decide +kernel
theorem dL_errors_161 : decode cL_errors 161 = .ok (.if_icmp .ne 17, 3) := by decide +kernel
theorem dL_errors_164 : decode cL_errors 164 = .ok (.aload_n 0, 1) := by decide +kernel
theorem dL_errors_165 : decode cL_errors 165 = .ok (.iload_n 2, 1) := by decide +kernel
theorem dL_errors_166 : decode cL_errors 166 = .ok (.iconst 0, 1) := by decide +kernel
theorem dL_errors_167 : decode cL_errors 167 = .ok (.invokevirtual 81, 3) := by decide +kernel
theorem dL_errors_170 : decode cL_errors 170 = .ok (.iconst (-1), 1) := by decide +kernel
theorem dL_errors_171 : decode cL_errors 171 = .ok (.if_icmp .ne 7, 3) := by decide +kernel
theorem dL_errors_174 : decode cL_errors 174 = .ok (.iconst 1, 1) := by decide +kernel
theorem dL_errors_175 : decode cL_errors 175 = .ok (.goto 4, 3) := by decide +kernel
theorem dL_errors_178 : decode cL_errors 178 = .ok (.iconst 0, 1) := by decide +kernel
theorem dL_errors_179 : decode cL_errors 179 = .ok (.istore_n 3, 1) := by decide +kernel
theorem dL_errors_180 : decode cL_errors 180 = .ok (.iload_n 3, 1) := by decide +kernel
theorem dL_errors_181 : decode cL_errors 181 = .ok (.ifCond .eq 108, 3) := by decide +kernel
theorem dL_errors_184 : decode cL_errors 184 = .ok (.aload_n 0, 1) := by decide +kernel
theorem dL_errors_185 : decode cL_errors 185 = .ok (.iload_n 2, 1) := by decide +kernel
theorem dL_errors_186 : decode cL_errors 186 = .ok (.invokevirtual 84, 3) := by decide +kernel
theorem dL_errors_189 : decode cL_errors 189 = .ok (.iconst (-1), 1) := by decide +kernel
theorem dL_errors_190 : decode cL_errors 190 = .ok (.if_icmp .ne 99, 3) := by decide +kernel
theorem dL_errors_193 : decode cL_errors 193 = .ok (.aload_n 0, 1) := by decide +kernel
theorem dL_errors_194 : decode cL_errors 194 = .ok (.bipush 10, 2) := by decide +kernel
theorem dL_errors_196 : decode cL_errors 196 = .ok (.invokevirtual 87, 3) := by decide +kernel
theorem dL_errors_199 : decode cL_errors 199 = .ok (.bipush (-2), 2) := by decide +kernel
theorem dL_errors_201 : decode cL_errors 201 = .ok (.if_icmp .ne 88, 3) := by decide +kernel
theorem dL_errors_204 : decode cL_errors 204 = .ok (.aload_n 0, 1) := by decide +kernel
theorem dL_errors_205 : decode cL_errors 205 = .ok (.iload_n 2, 1) := by decide +kernel
theorem dL_errors_206 : decode cL_errors 206 = .ok (.iconst 1, 1) := by decide +kernel
theorem dL_errors_207 : decode cL_errors 207 = .ok (.invokevirtual 41, 3) := by decide +kernel
theorem dL_errors_210 : decode cL_errors 210 = .ok (.iconst (-1), 1) := by decide +kernel
theorem dL_errors_211 : decode cL_errors 211 = .ok (.if_icmp .ne 78, 3) := by decide +kernel
theorem dL_errors_214 : decode cL_errors 214 = .ok (.aload_n 0, 1) := by decide +kernel
theorem dL_errors_215 : decode cL_errors 215 = .ok (.iconst 0, 1) := by decide +kernel
theorem dL_errors_216 : decode cL_errors 216 = .ok (.invokevirtual 64, 3) := by decide +kernel
theorem dL_errors_219 : decode cL_errors 219 = .ok (.bipush (-2), 2) := by decide +kernel
theorem dL_errors_221 : decode cL_errors 221 = .ok (.if_icmp .ne 68, 3) := by decide +kernel
theorem dL_errors_224 : decode cL_errors 224 = .ok (.aload_n 0, 1) := by decide +kernel
theorem dL_errors_225 : decode cL_errors 225 = .ok (.bipush 51, 2) := by decide +kernel
theorem dL_errors_227 : decode cL_errors 227 = .ok (.invokevirtual 64, 3) := by decide +kernel
theorem dL_errors_230 : decode cL_errors 230 = .ok (.bipush (-2), 2) := by decide +kernel
theorem dL_errors_232 : decode cL_errors 232 = .ok (.if_icmp .ne 57, 3) := by decide +kernel
theorem dL_errors_235 : decode cL_errors 235 = .ok (.aload_n 0, 1) := by decide +kernel
theorem dL_errors_236 : decode cL_errors 236 = .ok (.iload_n 1, 1) := by decide +kernel
theorem dL_errors_237 : decode cL_errors 237 = .ok (.iconst 0, 1) := by decide +kernel
theorem dL_errors_238 : decode cL_errors 238 = .ok (.invokevirtual 15, 3) := by decide +kernel
theorem dL_errors_241 : decode cL_errors 241 = .ok (.iconst (-1), 1) := by decide +kernel
theorem dL_errors_242 : decode cL_errors 242 = .ok (.if_icmp .ne 47, 3) := by decide +kernel
theorem dL_errors_245 : decode cL_errors 245 = .ok (.aload_n 0, 1) := by decide +kernel
theorem dL_errors_246 : decode cL_errors 246 = .ok (.iconst (-1), 1) := by decide +kernel
theorem dL_errors_247 : decode cL_errors 247 = .ok (.iconst 0, 1) := by decide +kernel
theorem dL_errors_248 : decode cL_errors 248 = .ok (.invokevirtual 19, 3) := by decide +kernel
theorem dL_errors_251 : decode cL_errors 251 = .ok (.iconst (-1), 1) := by decide +kernel
theorem dL_errors_252 : decode cL_errors 252 = .ok (.if_icmp .ne 37, 3) := by decide +kernel
theorem dL_errors_255 : decode cL_errors 255 = .ok (.aload_n 0, 1) := by decide +kernel
theorem dL_errors_256 : decode cL_errors 256 = .ok (.sipush 257, 3) := by decide +kernel
theorem dL_errors_259 : decode cL_errors 259 = .ok (.invokevirtual 61, 3) := by decide +kernel
theorem dL_errors_262 : decode cL_errors 262 = .ok (.bipush (-2), 2) := by decide +kernel
theorem dL_errors_264 : decode cL_errors 264 = .ok (.if_icmp .ne 25, 3) := by decide +kernel
theorem dL_errors_267 : decode cL_errors 267 = .ok (.aload_n 0, 1) := by decide +kernel
theorem dL_errors_268 : decode cL_errors 268 = .ok (.iconst 2, 1) := by decide +kernel
theorem dL_errors_269 : decode cL_errors 269 = .ok (.invokevirtual 90, 3) := by decide +kernel
theorem dL_errors_272 : decode cL_errors 272 = .ok (.iconst (-1), 1) := by decide +kernel
theorem dL_errors_273 : decode cL_errors 273 = .ok (.if_icmp .ne 16, 3) := by decide +kernel
theorem dL_errors_276 : decode cL_errors 276 = .ok (.aload_n 0, 1) := by decide +kernel
theorem dL_errors_277 : decode cL_errors 277 = .ok (.iconst 2, 1) := by decide +kernel
theorem dL_errors_278 : decode cL_errors 278 = .ok (.invokevirtual 93, 3) := by decide +kernel
theorem dL_errors_281 : decode cL_errors 281 = .ok (.iconst (-1), 1) := by decide +kernel
theorem dL_errors_282 : decode cL_errors 282 = .ok (.if_icmp .ne 7, 3) := by decide +kernel
theorem dL_errors_285 : decode cL_errors 285 = .ok (.iconst 1, 1) := by decide +kernel
theorem dL_errors_286 : decode cL_errors 286 = .ok (.goto 4, 3) := by decide +kernel
theorem dL_errors_289 : decode cL_errors 289 = .ok (.iconst 0, 1) := by decide +kernel
theorem dL_errors_290 : decode cL_errors 290 = .ok (.ireturn, 1) := by decide +kernel
theorem dL_law_0 : decode cL_law 0 = .ok (.new 10, 3) := by decide +kernel
theorem dL_law_3 : decode cL_law 3 = .ok (.dup, 1) := by decide +kernel
theorem dL_law_4 : decode cL_law 4 = .ok (.invokespecial 96, 3) := by decide +kernel
theorem dL_law_7 : decode cL_law 7 = .ok (.astore_n 1, 1) := by decide +kernel
theorem dL_law_8 : decode cL_law 8 = .ok (.iconst 2, 1) := by decide +kernel
theorem dL_law_9 : decode cL_law 9 = .ok (.aload_n 0, 1) := by decide +kernel
theorem dL_law_10 : decode cL_law 10 = .ok (.iconst 0, 1) := by decide +kernel
theorem dL_law_11 : decode cL_law 11 = .ok (.invokestatic 97, 3) := by decide +kernel
theorem dL_law_14 : decode cL_law 14 = .ok (.bipush 6, 2) := by decide +kernel
theorem dL_law_16 : decode cL_law 16 = .ok (.invokestatic 51, 3) := by decide +kernel
theorem dL_law_19 : decode cL_law 19 = .ok (.iadd, 1) := by decide +kernel
theorem dL_law_20 : decode cL_law 20 = .ok (.istore_n 2, 1) := by decide +kernel
theorem dL_law_21 : decode cL_law 21 = .ok (.iconst 2, 1) := by decide +kernel
theorem dL_law_22 : decode cL_law 22 = .ok (.aload_n 0, 1) := by decide +kernel
theorem dL_law_23 : decode cL_law 23 = .ok (.iconst 1, 1) := by decide +kernel
theorem dL_law_24 : decode cL_law 24 = .ok (.invokestatic 97, 3) := by decide +kernel
theorem dL_law_27 : decode cL_law 27 = .ok (.bipush 6, 2) := by decide +kernel
theorem dL_law_29 : decode cL_law 29 = .ok (.invokestatic 51, 3) := by decide +kernel
theorem dL_law_32 : decode cL_law 32 = .ok (.iadd, 1) := by decide +kernel
theorem dL_law_33 : decode cL_law 33 = .ok (.istore_n 3, 1) := by decide +kernel
theorem dL_law_34 : decode cL_law 34 = .ok (.aload_n 1, 1) := by decide +kernel
theorem dL_law_35 : decode cL_law 35 = .ok (.iload_n 2, 1) := by decide +kernel
theorem dL_law_36 : decode cL_law 36 = .ok (.iload_n 3, 1) := by decide +kernel
theorem dL_law_37 : decode cL_law 37 = .ok (.invokevirtual 67, 3) := by decide +kernel
theorem dL_law_40 : decode cL_law 40 = .ok (.iload_n 2, 1) := by decide +kernel
theorem dL_law_41 : decode cL_law 41 = .ok (.iload_n 3, 1) := by decide +kernel
theorem dL_law_42 : decode cL_law 42 = .ok (.imul, 1) := by decide +kernel
theorem dL_law_43 : decode cL_law 43 = .ok (.if_icmp .ne 13, 3) := by decide +kernel
theorem dL_law_46 : decode cL_law 46 = .ok (.aload_n 1, 1) := by decide +kernel
theorem dL_law_47 : decode cL_law 47 = .ok (.iconst 1, 1) := by decide +kernel
theorem dL_law_48 : decode cL_law 48 = .ok (.invokevirtual 64, 3) := by decide +kernel
theorem dL_law_51 : decode cL_law 51 = .ok (.bipush (-5), 2) := by decide +kernel
theorem dL_law_53 : decode cL_law 53 = .ok (.if_icmp .eq 5, 3) := by decide +kernel
theorem dL_law_56 : decode cL_law 56 = .ok (.iconst 0, 1) := by decide +kernel
theorem dL_law_57 : decode cL_law 57 = .ok (.ireturn, 1) := by decide +kernel
theorem dL_law_58 : decode cL_law 58 = .ok (.iconst 0, 1) := by decide +kernel
theorem dL_law_59 : decode cL_law 59 = .ok (.istore 4, 2) := by decide +kernel
theorem dL_law_61 : decode cL_law 61 = .ok (.iconst 0, 1) := by decide +kernel
theorem dL_law_62 : decode cL_law 62 = .ok (.istore 5, 2) := by decide +kernel
theorem dL_law_64 : decode cL_law 64 = .ok (.iload 5, 2) := by decide +kernel
theorem dL_law_66 : decode cL_law 66 = .ok (.bipush 40, 2) := by decide +kernel
theorem dL_law_68 : decode cL_law 68 = .ok (.if_icmp .ge 850, 3) := by decide +kernel
theorem dL_law_71 : decode cL_law 71 = .ok (.aload_n 0, 1) := by decide +kernel
theorem dL_law_72 : decode cL_law 72 = .ok (.iconst 2, 1) := by decide +kernel
theorem dL_law_73 : decode cL_law 73 = .ok (.iconst 2, 1) := by decide +kernel
theorem dL_law_74 : decode cL_law 74 = .ok (.iload 5, 2) := by decide +kernel
theorem dL_law_76 : decode cL_law 76 = .ok (.imul, 1) := by decide +kernel
theorem dL_law_77 : decode cL_law 77 = .ok (.iadd, 1) := by decide +kernel
theorem dL_law_78 : decode cL_law 78 = .ok (.invokestatic 97, 3) := by decide +kernel
theorem dL_law_81 : decode cL_law 81 = .ok (.istore 6, 2) := by decide +kernel
theorem dL_law_83 : decode cL_law 83 = .ok (.aload_n 0, 1) := by decide +kernel
theorem dL_law_84 : decode cL_law 84 = .ok (.iconst 3, 1) := by decide +kernel
theorem dL_law_85 : decode cL_law 85 = .ok (.iconst 2, 1) := by decide +kernel
theorem dL_law_86 : decode cL_law 86 = .ok (.iload 5, 2) := by decide +kernel
theorem dL_law_88 : decode cL_law 88 = .ok (.imul, 1) := by decide +kernel
theorem dL_law_89 : decode cL_law 89 = .ok (.iadd, 1) := by decide +kernel
theorem dL_law_90 : decode cL_law 90 = .ok (.invokestatic 97, 3) := by decide +kernel
theorem dL_law_93 : decode cL_law 93 = .ok (.istore 7, 2) := by decide +kernel
theorem dL_law_95 : decode cL_law 95 = .ok (.iload 5, 2) := by decide +kernel
theorem dL_law_97 : decode cL_law 97 = .ok (.iconst 3, 1) := by decide +kernel
theorem dL_law_98 : decode cL_law 98 = .ok (.if_icmp .ge 8, 3) := by decide +kernel
theorem dL_law_101 : decode cL_law 101 = .ok (.iload 5, 2) := by decide +kernel
theorem dL_law_103 : decode cL_law 103 = .ok (.goto 10, 3) := by decide +kernel
theorem dL_law_106 : decode cL_law 106 = .ok (.iload 6, 2) := by decide +kernel
theorem dL_law_108 : decode cL_law 108 = .ok (.bipush 13, 2) := by decide +kernel
theorem dL_law_110 : decode cL_law 110 = .ok (.invokestatic 51, 3) := by decide +kernel
theorem dL_law_113 : decode cL_law 113 = .ok (.istore 8, 2) := by decide +kernel
theorem dL_law_115 : decode cL_law 115 = .ok (.iload 6, 2) := by decide +kernel
theorem dL_law_117 : decode cL_law 117 = .ok (.iconst 4, 1) := by decide +kernel
theorem dL_law_118 : decode cL_law 118 = .ok (.ishr, 1) := by decide +kernel
theorem dL_law_119 : decode cL_law 119 = .ok (.istore 6, 2) := by decide +kernel
theorem dL_law_121 : decode cL_law 121 = .ok (.aload_n 1, 1) := by decide +kernel
theorem dL_law_122 : decode cL_law 122 = .ok (.iconst 2, 1) := by decide +kernel
theorem dL_law_123 : decode cL_law 123 = .ok (.invokevirtual 9, 3) := by decide +kernel
theorem dL_law_126 : decode cL_law 126 = .ok (.istore 9, 2) := by decide +kernel
theorem dL_law_128 : decode cL_law 128 = .ok (.iload 9, 2) := by decide +kernel
theorem dL_law_130 : decode cL_law 130 = .ok (.ifCond .ne 7, 3) := by decide +kernel
theorem dL_law_133 : decode cL_law 133 = .ok (.iconst 0, 1) := by decide +kernel
theorem dL_law_134 : decode cL_law 134 = .ok (.goto 10, 3) := by decide +kernel
theorem dL_law_137 : decode cL_law 137 = .ok (.iload 7, 2) := by decide +kernel
theorem dL_law_139 : decode cL_law 139 = .ok (.iload 9, 2) := by decide +kernel
theorem dL_law_141 : decode cL_law 141 = .ok (.invokestatic 51, 3) := by decide +kernel
theorem dL_law_144 : decode cL_law 144 = .ok (.istore 10, 2) := by decide +kernel
theorem dL_law_146 : decode cL_law 146 = .ok (.iconst 1, 1) := by decide +kernel
theorem dL_law_147 : decode cL_law 147 = .ok (.istore 11, 2) := by decide +kernel
theorem dL_law_149 : decode cL_law 149 = .ok (.iload 8, 2) := by decide +kernel
theorem dL_law_151 : decode cL_law 151 = .ok (.ifCond .ne 74, 3) := by decide +kernel
theorem dL_law_154 : decode cL_law 154 = .ok (.aload_n 1, 1) := by decide +kernel
theorem dL_law_155 : decode cL_law 155 = .ok (.iload 6, 2) := by decide +kernel
theorem dL_law_157 : decode cL_law 157 = .ok (.iload_n 2, 1) := by decide +kernel
theorem dL_law_158 : decode cL_law 158 = .ok (.invokestatic 51, 3) := by decide +kernel
theorem dL_law_161 : decode cL_law 161 = .ok (.iload 7, 2) := by decide +kernel
theorem dL_law_163 : decode cL_law 163 = .ok (.iload_n 3, 1) := by decide +kernel
theorem dL_law_164 : decode cL_law 164 = .ok (.invokestatic 51, 3) := by decide +kernel
theorem dL_law_167 : decode cL_law 167 = .ok (.iload 7, 2) := by decide +kernel
theorem dL_law_169 : decode cL_law 169 = .ok (.iconst 3, 1) := by decide +kernel
theorem dL_law_170 : decode cL_law 170 = .ok (.ishr, 1) := by decide +kernel
theorem dL_law_171 : decode cL_law 171 = .ok (.iconst 4, 1) := by decide +kernel
theorem dL_law_172 : decode cL_law 172 = .ok (.invokestatic 51, 3) := by decide +kernel
theorem dL_law_175 : decode cL_law 175 = .ok (.iload 7, 2) := by decide +kernel
theorem dL_law_177 : decode cL_law 177 = .ok (.iconst 5, 1) := by decide +kernel
theorem dL_law_178 : decode cL_law 178 = .ok (.ishr, 1) := by decide +kernel
theorem dL_law_179 : decode cL_law 179 = .ok (.iconst 3, 1) := by decide +kernel
theorem dL_law_180 : decode cL_law 180 = .ok (.invokestatic 51, 3) := by decide +kernel
theorem dL_law_183 : decode cL_law 183 = .ok (.iconst 1, 1) := by decide +kernel
theorem dL_law_184 : decode cL_law 184 = .ok (.iload 7, 2) := by decide +kernel
theorem dL_law_186 : decode cL_law 186 = .ok (.bipush 8, 2) := by decide +kernel
theorem dL_law_188 : decode cL_law 188 = .ok (.ishr, 1) := by decide +kernel
theorem dL_law_189 : decode cL_law 189 = .ok (.bipush 9, 2) := by decide +kernel
theorem dL_law_191 : decode cL_law 191 = .ok (.invokestatic 51, 3) := by decide +kernel
theorem dL_law_194 : decode cL_law 194 = .ok (.iadd, 1) := by decide +kernel
theorem dL_law_195 : decode cL_law 195 = .ok (.invokevirtual 77, 3) := by decide +kernel
theorem dL_law_198 : decode cL_law 198 = .ok (.iload 9, 2) := by decide +kernel
theorem dL_law_200 : decode cL_law 200 = .ok (.bipush 8, 2) := by decide +kernel
theorem dL_law_202 : decode cL_law 202 = .ok (.if_icmp .ne 8, 3) := by decide +kernel
theorem dL_law_205 : decode cL_law 205 = .ok (.bipush (-3), 2) := by decide +kernel
theorem dL_law_207 : decode cL_law 207 = .ok (.goto 5, 3) := by decide +kernel
theorem dL_law_210 : decode cL_law 210 = .ok (.iload 9, 2) := by decide +kernel
theorem dL_law_212 : decode cL_law 212 = .ok (.if_icmp .ne 7, 3) := by decide +kernel
theorem dL_law_215 : decode cL_law 215 = .ok (.iconst 1, 1) := by decide +kernel
theorem dL_law_216 : decode cL_law 216 = .ok (.goto 4, 3) := by decide +kernel
theorem dL_law_219 : decode cL_law 219 = .ok (.iconst 0, 1) := by decide +kernel
theorem dL_law_220 : decode cL_law 220 = .ok (.istore 11, 2) := by decide +kernel
theorem dL_law_222 : decode cL_law 222 = .ok (.goto 669, 3) := by decide +kernel
theorem dL_law_225 : decode cL_law 225 = .ok (.iload 8, 2) := by decide +kernel
theorem dL_law_227 : decode cL_law 227 = .ok (.iconst 1, 1) := by decide +kernel
theorem dL_law_228 : decode cL_law 228 = .ok (.if_icmp .ne 99, 3) := by decide +kernel
theorem dL_law_231 : decode cL_law 231 = .ok (.iload 6, 2) := by decide +kernel
theorem dL_law_233 : decode cL_law 233 = .ok (.iload_n 2, 1) := by decide +kernel
theorem dL_law_234 : decode cL_law 234 = .ok (.invokestatic 51, 3) := by decide +kernel
theorem dL_law_237 : decode cL_law 237 = .ok (.istore 12, 2) := by decide +kernel
theorem dL_law_239 : decode cL_law 239 = .ok (.iload 7, 2) := by decide +kernel
theorem dL_law_241 : decode cL_law 241 = .ok (.iload_n 3, 1) := by decide +kernel
theorem dL_law_242 : decode cL_law 242 = .ok (.invokestatic 51, 3) := by decide +kernel
theorem dL_law_245 : decode cL_law 245 = .ok (.istore 13, 2) := by decide +kernel
theorem dL_law_247 : decode cL_law 247 = .ok (.aload_n 1, 1) := by decide +kernel
theorem dL_law_248 : decode cL_law 248 = .ok (.iload 12, 2) := by decide +kernel
theorem dL_law_250 : decode cL_law 250 = .ok (.iload 13, 2) := by decide +kernel
theorem dL_law_252 : decode cL_law 252 = .ok (.invokevirtual 15, 3) := by decide +kernel
theorem dL_law_255 : decode cL_law 255 = .ok (.istore 14, 2) := by decide +kernel
theorem dL_law_257 : decode cL_law 257 = .ok (.iload 7, 2) := by decide +kernel
theorem dL_law_259 : decode cL_law 259 = .ok (.bipush 64, 2) := by decide +kernel
theorem dL_law_261 : decode cL_law 261 = .ok (.iand, 1) := by decide +kernel
theorem dL_law_262 : decode cL_law 262 = .ok (.ifCond .ne 15, 3) := by decide +kernel
theorem dL_law_265 : decode cL_law 265 = .ok (.iload 7, 2) := by decide +kernel
theorem dL_law_267 : decode cL_law 267 = .ok (.bipush 7, 2) := by decide +kernel
theorem dL_law_269 : decode cL_law 269 = .ok (.ishr, 1) := by decide +kernel
theorem dL_law_270 : decode cL_law 270 = .ok (.iconst 4, 1) := by decide +kernel
theorem dL_law_271 : decode cL_law 271 = .ok (.invokestatic 51, 3) := by decide +kernel
theorem dL_law_274 : decode cL_law 274 = .ok (.goto 13, 3) := by decide +kernel
theorem dL_law_277 : decode cL_law 277 = .ok (.iload 7, 2) := by decide +kernel
theorem dL_law_279 : decode cL_law 279 = .ok (.bipush 7, 2) := by decide +kernel
theorem dL_law_281 : decode cL_law 281 = .ok (.ishr, 1) := by decide +kernel
theorem dL_law_282 : decode cL_law 282 = .ok (.bipush 100, 2) := by decide +kernel
theorem dL_law_284 : decode cL_law 284 = .ok (.invokestatic 51, 3) := by decide +kernel
theorem dL_law_287 : decode cL_law 287 = .ok (.istore 15, 2) := by decide +kernel
theorem dL_law_289 : decode cL_law 289 = .ok (.aload_n 1, 1) := by decide +kernel
theorem dL_law_290 : decode cL_law 290 = .ok (.iload 12, 2) := by decide +kernel
theorem dL_law_292 : decode cL_law 292 = .ok (.iload 13, 2) := by decide +kernel
theorem dL_law_294 : decode cL_law 294 = .ok (.iload 15, 2) := by decide +kernel
theorem dL_law_296 : decode cL_law 296 = .ok (.invokevirtual 70, 3) := by decide +kernel
theorem dL_law_299 : decode cL_law 299 = .ok (.iload 14, 2) := by decide +kernel
theorem dL_law_301 : decode cL_law 301 = .ok (.if_icmp .ne 20, 3) := by decide +kernel
theorem dL_law_304 : decode cL_law 304 = .ok (.aload_n 1, 1) := by decide +kernel
theorem dL_law_305 : decode cL_law 305 = .ok (.iload 12, 2) := by decide +kernel
theorem dL_law_307 : decode cL_law 307 = .ok (.iload 13, 2) := by decide +kernel
theorem dL_law_309 : decode cL_law 309 = .ok (.invokevirtual 15, 3) := by decide +kernel
theorem dL_law_312 : decode cL_law 312 = .ok (.iload 15, 2) := by decide +kernel
theorem dL_law_314 : decode cL_law 314 = .ok (.if_icmp .ne 7, 3) := by decide +kernel
theorem dL_law_317 : decode cL_law 317 = .ok (.iconst 1, 1) := by decide +kernel
theorem dL_law_318 : decode cL_law 318 = .ok (.goto 4, 3) := by decide +kernel
theorem dL_law_321 : decode cL_law 321 = .ok (.iconst 0, 1) := by decide +kernel
theorem dL_law_322 : decode cL_law 322 = .ok (.istore 11, 2) := by decide +kernel
theorem dL_law_324 : decode cL_law 324 = .ok (.goto 567, 3) := by decide +kernel
theorem dL_law_327 : decode cL_law 327 = .ok (.iload 8, 2) := by decide +kernel
theorem dL_law_329 : decode cL_law 329 = .ok (.iconst 2, 1) := by decide +kernel
theorem dL_law_330 : decode cL_law 330 = .ok (.if_icmp .ne 76, 3) := by decide +kernel
theorem dL_law_333 : decode cL_law 333 = .ok (.aload_n 1, 1) := by decide +kernel
theorem dL_law_334 : decode cL_law 334 = .ok (.iconst 3, 1) := by decide +kernel
theorem dL_law_335 : decode cL_law 335 = .ok (.invokevirtual 9, 3) := by decide +kernel
theorem dL_law_338 : decode cL_law 338 = .ok (.istore 12, 2) := by decide +kernel
theorem dL_law_340 : decode cL_law 340 = .ok (.aload_n 1, 1) := by decide +kernel
theorem dL_law_341 : decode cL_law 341 = .ok (.iload 6, 2) := by decide +kernel
theorem dL_law_343 : decode cL_law 343 = .ok (.bipush 10, 2) := by decide +kernel
theorem dL_law_345 : decode cL_law 345 = .ok (.invokestatic 51, 3) := by decide +kernel
theorem dL_law_348 : decode cL_law 348 = .ok (.iload 7, 2) := by decide +kernel
theorem dL_law_350 : decode cL_law 350 = .ok (.bipush 10, 2) := by decide +kernel
theorem dL_law_352 : decode cL_law 352 = .ok (.invokestatic 51, 3) := by decide +kernel
theorem dL_law_355 : decode cL_law 355 = .ok (.iconst 1, 1) := by decide +kernel
theorem dL_law_356 : decode cL_law 356 = .ok (.iload 7, 2) := by decide +kernel
theorem dL_law_358 : decode cL_law 358 = .ok (.iconst 5, 1) := by decide +kernel
theorem dL_law_359 : decode cL_law 359 = .ok (.ishr, 1) := by decide +kernel
theorem dL_law_360 : decode cL_law 360 = .ok (.bipush 12, 2) := by decide +kernel
theorem dL_law_362 : decode cL_law 362 = .ok (.invokestatic 51, 3) := by decide +kernel
theorem dL_law_365 : decode cL_law 365 = .ok (.iadd, 1) := by decide +kernel
theorem dL_law_366 : decode cL_law 366 = .ok (.invokevirtual 74, 3) := by decide +kernel
theorem dL_law_369 : decode cL_law 369 = .ok (.istore 13, 2) := by decide +kernel
theorem dL_law_371 : decode cL_law 371 = .ok (.iload 13, 2) := by decide +kernel
theorem dL_law_373 : decode cL_law 373 = .ok (.bipush (-5), 2) := by decide +kernel
theorem dL_law_375 : decode cL_law 375 = .ok (.if_icmp .eq 21, 3) := by decide +kernel
theorem dL_law_378 : decode cL_law 378 = .ok (.iload 13, 2) := by decide +kernel
theorem dL_law_380 : decode cL_law 380 = .ok (.ifCond .le 20, 3) := by decide +kernel
theorem dL_law_383 : decode cL_law 383 = .ok (.aload_n 1, 1) := by decide +kernel
theorem dL_law_384 : decode cL_law 384 = .ok (.iconst 3, 1) := by decide +kernel
theorem dL_law_385 : decode cL_law 385 = .ok (.invokevirtual 9, 3) := by decide +kernel
theorem dL_law_388 : decode cL_law 388 = .ok (.iload 12, 2) := by decide +kernel
theorem dL_law_390 : decode cL_law 390 = .ok (.iload 13, 2) := by decide +kernel
theorem dL_law_392 : decode cL_law 392 = .ok (.iadd, 1) := by decide +kernel
theorem dL_law_393 : decode cL_law 393 = .ok (.if_icmp .ne 7, 3) := by decide +kernel
theorem dL_law_396 : decode cL_law 396 = .ok (.iconst 1, 1) := by decide +kernel
theorem dL_law_397 : decode cL_law 397 = .ok (.goto 4, 3) := by decide +kernel
theorem dL_law_400 : decode cL_law 400 = .ok (.iconst 0, 1) := by decide +kernel
theorem dL_law_401 : decode cL_law 401 = .ok (.istore 11, 2) := by decide +kernel
theorem dL_law_403 : decode cL_law 403 = .ok (.goto 488, 3) := by decide +kernel
theorem dL_law_406 : decode cL_law 406 = .ok (.iload 8, 2) := by decide +kernel
theorem dL_law_408 : decode cL_law 408 = .ok (.iconst 3, 1) := by decide +kernel
theorem dL_law_409 : decode cL_law 409 = .ok (.if_icmp .ne 149, 3) := by decide +kernel
theorem dL_law_412 : decode cL_law 412 = .ok (.iload 6, 2) := by decide +kernel
theorem dL_law_414 : decode cL_law 414 = .ok (.bipush 7, 2) := by decide +kernel
theorem dL_law_416 : decode cL_law 416 = .ok (.iand, 1) := by decide +kernel
theorem dL_law_417 : decode cL_law 417 = .ok (.ifCond .ne 52, 3) := by decide +kernel
theorem dL_law_420 : decode cL_law 420 = .ok (.aload_n 1, 1) := by decide +kernel
theorem dL_law_421 : decode cL_law 421 = .ok (.invokevirtual 101, 3) := by decide +kernel
theorem dL_law_424 : decode cL_law 424 = .ok (.iload 4, 2) := by decide +kernel
theorem dL_law_426 : decode cL_law 426 = .ok (.ifCond .ne 7, 3) := by decide +kernel
theorem dL_law_429 : decode cL_law 429 = .ok (.iconst 1, 1) := by decide +kernel
theorem dL_law_430 : decode cL_law 430 = .ok (.goto 5, 3) := by decide +kernel
theorem dL_law_433 : decode cL_law 433 = .ok (.iload 4, 2) := by decide +kernel
theorem dL_law_435 : decode cL_law 435 = .ok (.if_icmp .ne 25, 3) := by decide +kernel
theorem dL_law_438 : decode cL_law 438 = .ok (.aload_n 1, 1) := by decide +kernel
theorem dL_law_439 : decode cL_law 439 = .ok (.bipush 10, 2) := by decide +kernel
theorem dL_law_441 : decode cL_law 441 = .ok (.invokevirtual 9, 3) := by decide +kernel
theorem dL_law_444 : decode cL_law 444 = .ok (.iconst 1, 1) := by decide +kernel
theorem dL_law_445 : decode cL_law 445 = .ok (.if_icmp .ne 15, 3) := by decide +kernel
theorem dL_law_448 : decode cL_law 448 = .ok (.aload_n 1, 1) := by decide +kernel
theorem dL_law_449 : decode cL_law 449 = .ok (.iconst 0, 1) := by decide +kernel
theorem dL_law_450 : decode cL_law 450 = .ok (.invokevirtual 28, 3) := by decide +kernel
theorem dL_law_453 : decode cL_law 453 = .ok (.ifCond .ne 7, 3) := by decide +kernel
theorem dL_law_456 : decode cL_law 456 = .ok (.iconst 1, 1) := by decide +kernel
theorem dL_law_457 : decode cL_law 457 = .ok (.goto 4, 3) := by decide +kernel
theorem dL_law_460 : decode cL_law 460 = .ok (.iconst 0, 1) := by decide +kernel
theorem dL_law_461 : decode cL_law 461 = .ok (.istore 11, 2) := by decide +kernel
theorem dL_law_463 : decode cL_law 463 = .ok (.iconst 0, 1) := by decide +kernel
theorem dL_law_464 : decode cL_law 464 = .ok (.istore 4, 2) := by decide +kernel
theorem dL_law_466 : decode cL_law 466 = .ok (.goto 425, 3) := by decide +kernel
theorem dL_law_469 : decode cL_law 469 = .ok (.iload 7, 2) := by decide +kernel
theorem dL_law_471 : decode cL_law 471 = .ok (.bipush 10, 2) := by decide +kernel
theorem dL_law_473 : decode cL_law 473 = .ok (.invokestatic 51, 3) := by decide +kernel
theorem dL_law_476 : decode cL_law 476 = .ok (.istore 12, 2) := by decide +kernel
theorem dL_law_478 : decode cL_law 478 = .ok (.aload_n 1, 1) := by decide +kernel
theorem dL_law_479 : decode cL_law 479 = .ok (.iload 12, 2) := by decide +kernel
theorem dL_law_481 : decode cL_law 481 = .ok (.invokevirtual 87, 3) := by decide +kernel
theorem dL_law_484 : decode cL_law 484 = .ok (.iload 4, 2) := by decide +kernel
theorem dL_law_486 : decode cL_law 486 = .ok (.bipush 30, 2) := by decide +kernel
theorem dL_law_488 : decode cL_law 488 = .ok (.if_icmp .ne 8, 3) := by decide +kernel
theorem dL_law_491 : decode cL_law 491 = .ok (.bipush (-3), 2) := by decide +kernel
theorem dL_law_493 : decode cL_law 493 = .ok (.goto 7, 3) := by decide +kernel
theorem dL_law_496 : decode cL_law 496 = .ok (.iload 4, 2) := by decide +kernel
theorem dL_law_498 : decode cL_law 498 = .ok (.iconst 1, 1) := by decide +kernel
theorem dL_law_499 : decode cL_law 499 = .ok (.iadd, 1) := by decide +kernel
theorem dL_law_500 : decode cL_law 500 = .ok (.if_icmp .ne 34, 3) := by decide +kernel
theorem dL_law_503 : decode cL_law 503 = .ok (.iload 4, 2) := by decide +kernel
theorem dL_law_505 : decode cL_law 505 = .ok (.bipush 30, 2) := by decide +kernel
theorem dL_law_507 : decode cL_law 507 = .ok (.if_icmp .eq 23, 3) := by decide +kernel
theorem dL_law_510 : decode cL_law 510 = .ok (.aload_n 1, 1) := by decide +kernel
theorem dL_law_511 : decode cL_law 511 = .ok (.iload 4, 2) := by decide +kernel
theorem dL_law_513 : decode cL_law 513 = .ok (.invokevirtual 28, 3) := by decide +kernel
theorem dL_law_516 : decode cL_law 516 = .ok (.iload 12, 2) := by decide +kernel
theorem dL_law_518 : decode cL_law 518 = .ok (.if_icmp .ne 16, 3) := by decide +kernel
theorem dL_law_521 : decode cL_law 521 = .ok (.aload_n 1, 1) := by decide +kernel
theorem dL_law_522 : decode cL_law 522 = .ok (.bipush 9, 2) := by decide +kernel
theorem dL_law_524 : decode cL_law 524 = .ok (.invokevirtual 9, 3) := by decide +kernel
theorem dL_law_527 : decode cL_law 527 = .ok (.ifCond .ne 7, 3) := by decide +kernel
theorem dL_law_530 : decode cL_law 530 = .ok (.iconst 1, 1) := by decide +kernel
theorem dL_law_531 : decode cL_law 531 = .ok (.goto 4, 3) := by decide +kernel
theorem dL_law_534 : decode cL_law 534 = .ok (.iconst 0, 1) := by decide +kernel
theorem dL_law_535 : decode cL_law 535 = .ok (.istore 11, 2) := by decide +kernel
theorem dL_law_537 : decode cL_law 537 = .ok (.iload 4, 2) := by decide +kernel
theorem dL_law_539 : decode cL_law 539 = .ok (.bipush 30, 2) := by decide +kernel
theorem dL_law_541 : decode cL_law 541 = .ok (.if_icmp .ne 8, 3) := by decide +kernel
theorem dL_law_544 : decode cL_law 544 = .ok (.bipush 30, 2) := by decide +kernel
theorem dL_law_546 : decode cL_law 546 = .ok (.goto 7, 3) := by decide +kernel
theorem dL_law_549 : decode cL_law 549 = .ok (.iload 4, 2) := by decide +kernel
theorem dL_law_551 : decode cL_law 551 = .ok (.iconst 1, 1) := by decide +kernel
theorem dL_law_552 : decode cL_law 552 = .ok (.iadd, 1) := by decide +kernel
theorem dL_law_553 : decode cL_law 553 = .ok (.istore 4, 2) := by decide +kernel
theorem dL_law_555 : decode cL_law 555 = .ok (.goto 336, 3) := by decide +kernel
theorem dL_law_558 : decode cL_law 558 = .ok (.iload 8, 2) := by decide +kernel
theorem dL_law_560 : decode cL_law 560 = .ok (.iconst 4, 1) := by decide +kernel
theorem dL_law_561 : decode cL_law 561 = .ok (.if_icmp .ne 60, 3) := by decide +kernel
theorem dL_law_564 : decode cL_law 564 = .ok (.iload 9, 2) := by decide +kernel
theorem dL_law_566 : decode cL_law 566 = .ok (.ifCond .le 55, 3) := by decide +kernel
theorem dL_law_569 : decode cL_law 569 = .ok (.aload_n 1, 1) := by decide +kernel
theorem dL_law_570 : decode cL_law 570 = .ok (.iload 10, 2) := by decide +kernel
theorem dL_law_572 : decode cL_law 572 = .ok (.iconst 5, 1) := by decide +kernel
theorem dL_law_573 : decode cL_law 573 = .ok (.invokevirtual 25, 3) := by decide +kernel
theorem dL_law_576 : decode cL_law 576 = .ok (.istore 12, 2) := by decide +kernel
theorem dL_law_578 : decode cL_law 578 = .ok (.aload_n 1, 1) := by decide +kernel
theorem dL_law_579 : decode cL_law 579 = .ok (.iload 10, 2) := by decide +kernel
theorem dL_law_581 : decode cL_law 581 = .ok (.iload 6, 2) := by decide +kernel
theorem dL_law_583 : decode cL_law 583 = .ok (.iconst 3, 1) := by decide +kernel
theorem dL_law_584 : decode cL_law 584 = .ok (.invokestatic 51, 3) := by decide +kernel
theorem dL_law_587 : decode cL_law 587 = .ok (.invokevirtual 81, 3) := by decide +kernel
theorem dL_law_590 : decode cL_law 590 = .ok (.iload 12, 2) := by decide +kernel
theorem dL_law_592 : decode cL_law 592 = .ok (.if_icmp .ne 23, 3) := by decide +kernel
theorem dL_law_595 : decode cL_law 595 = .ok (.aload_n 1, 1) := by decide +kernel
theorem dL_law_596 : decode cL_law 596 = .ok (.iload 10, 2) := by decide +kernel
theorem dL_law_598 : decode cL_law 598 = .ok (.iconst 5, 1) := by decide +kernel
theorem dL_law_599 : decode cL_law 599 = .ok (.invokevirtual 25, 3) := by decide +kernel
theorem dL_law_602 : decode cL_law 602 = .ok (.iload 6, 2) := by decide +kernel
theorem dL_law_604 : decode cL_law 604 = .ok (.iconst 3, 1) := by decide +kernel
theorem dL_law_605 : decode cL_law 605 = .ok (.invokestatic 51, 3) := by decide +kernel
theorem dL_law_608 : decode cL_law 608 = .ok (.if_icmp .ne 7, 3) := by decide +kernel
theorem dL_law_611 : decode cL_law 611 = .ok (.iconst 1, 1) := by decide +kernel
theorem dL_law_612 : decode cL_law 612 = .ok (.goto 4, 3) := by decide +kernel
theorem dL_law_615 : decode cL_law 615 = .ok (.iconst 0, 1) := by decide +kernel
theorem dL_law_616 : decode cL_law 616 = .ok (.istore 11, 2) := by decide +kernel
theorem dL_law_618 : decode cL_law 618 = .ok (.goto 273, 3) := by decide +kernel
theorem dL_law_621 : decode cL_law 621 = .ok (.iload 8, 2) := by decide +kernel
theorem dL_law_623 : decode cL_law 623 = .ok (.iconst 5, 1) := by decide +kernel
theorem dL_law_624 : decode cL_law 624 = .ok (.if_icmp .ne 86, 3) := by decide +kernel
theorem dL_law_627 : decode cL_law 627 = .ok (.iload 9, 2) := by decide +kernel
theorem dL_law_629 : decode cL_law 629 = .ok (.ifCond .le 81, 3) := by decide +kernel
theorem dL_law_632 : decode cL_law 632 = .ok (.aload_n 1, 1) := by decide +kernel
theorem dL_law_633 : decode cL_law 633 = .ok (.iload 10, 2) := by decide +kernel
theorem dL_law_635 : decode cL_law 635 = .ok (.iconst 3, 1) := by decide +kernel
theorem dL_law_636 : decode cL_law 636 = .ok (.invokevirtual 25, 3) := by decide +kernel
theorem dL_law_639 : decode cL_law 639 = .ok (.istore 12, 2) := by decide +kernel
theorem dL_law_641 : decode cL_law 641 = .ok (.aload_n 1, 1) := by decide +kernel
theorem dL_law_642 : decode cL_law 642 = .ok (.aload_n 1, 1) := by decide +kernel
theorem dL_law_643 : decode cL_law 643 = .ok (.iload 10, 2) := by decide +kernel
theorem dL_law_645 : decode cL_law 645 = .ok (.iconst 0, 1) := by decide +kernel
theorem dL_law_646 : decode cL_law 646 = .ok (.invokevirtual 25, 3) := by decide +kernel
theorem dL_law_649 : decode cL_law 649 = .ok (.aload_n 1, 1) := by decide +kernel
theorem dL_law_650 : decode cL_law 650 = .ok (.iload 10, 2) := by decide +kernel
theorem dL_law_652 : decode cL_law 652 = .ok (.iconst 1, 1) := by decide +kernel
theorem dL_law_653 : decode cL_law 653 = .ok (.invokevirtual 25, 3) := by decide +kernel
theorem dL_law_656 : decode cL_law 656 = .ok (.invokevirtual 15, 3) := by decide +kernel
theorem dL_law_659 : decode cL_law 659 = .ok (.istore 13, 2) := by decide +kernel
theorem dL_law_661 : decode cL_law 661 = .ok (.aload_n 1, 1) := by decide +kernel
theorem dL_law_662 : decode cL_law 662 = .ok (.iload 10, 2) := by decide +kernel
theorem dL_law_664 : decode cL_law 664 = .ok (.invokevirtual 84, 3) := by decide +kernel
theorem dL_law_667 : decode cL_law 667 = .ok (.iload 12, 2) := by decide +kernel
theorem dL_law_669 : decode cL_law 669 = .ok (.iload 13, 2) := by decide +kernel
theorem dL_law_671 : decode cL_law 671 = .ok (.iadd, 1) := by decide +kernel
theorem dL_law_672 : decode cL_law 672 = .ok (.bipush 99, 2) := by decide +kernel
theorem dL_law_674 : decode cL_law 674 = .ok (.if_icmp .le 8, 3) := by decide +kernel
theorem dL_law_677 : decode cL_law 677 = .ok (.bipush (-4), 2) := by decide +kernel
theorem dL_law_679 : decode cL_law 679 = .ok (.goto 18, 3) := by decide +kernel
theorem dL_law_682 : decode cL_law 682 = .ok (.iload 12, 2) := by decide +kernel
theorem dL_law_684 : decode cL_law 684 = .ok (.ifCond .ne 8, 3) := by decide +kernel
theorem dL_law_687 : decode cL_law 687 = .ok (.bipush (-5), 2) := by decide +kernel
theorem dL_law_689 : decode cL_law 689 = .ok (.goto 8, 3) := by decide +kernel
theorem dL_law_692 : decode cL_law 692 = .ok (.iload 12, 2) := by decide +kernel
theorem dL_law_694 : decode cL_law 694 = .ok (.iload 13, 2) := by decide +kernel
theorem dL_law_696 : decode cL_law 696 = .ok (.iadd, 1) := by decide +kernel
theorem dL_law_697 : decode cL_law 697 = .ok (.if_icmp .ne 7, 3) := by decide +kernel
theorem dL_law_700 : decode cL_law 700 = .ok (.iconst 1, 1) := by decide +kernel
theorem dL_law_701 : decode cL_law 701 = .ok (.goto 4, 3) := by decide +kernel
theorem dL_law_704 : decode cL_law 704 = .ok (.iconst 0, 1) := by decide +kernel
theorem dL_law_705 : decode cL_law 705 = .ok (.istore 11, 2) := by decide +kernel
theorem dL_law_707 : decode cL_law 707 = .ok (.goto 184, 3) := by decide +kernel
theorem dL_law_710 : decode cL_law 710 = .ok (.iload 8, 2) := by decide +kernel
theorem dL_law_712 : decode cL_law 712 = .ok (.bipush 9, 2) := by decide +kernel
theorem dL_law_714 : decode cL_law 714 = .ok (.if_icmp .ge 47, 3) := by decide +kernel
theorem dL_law_717 : decode cL_law 717 = .ok (.iload 9, 2) := by decide +kernel
theorem dL_law_719 : decode cL_law 719 = .ok (.ifCond .le 42, 3) := by decide +kernel
theorem dL_law_722 : decode cL_law 722 = .ok (.iconst 0, 1) := by decide +kernel
theorem dL_law_723 : decode cL_law 723 = .ok (.istore 12, 2) := by decide +kernel
theorem dL_law_725 : decode cL_law 725 = .ok (.iload 12, 2) := by decide +kernel
theorem dL_law_727 : decode cL_law 727 = .ok (.iconst 3, 1) := by decide +kernel
theorem dL_law_728 : decode cL_law 728 = .ok (.if_icmp .ge 30, 3) := by decide +kernel
theorem dL_law_731 : decode cL_law 731 = .ok (.iload 11, 2) := by decide +kernel
theorem dL_law_733 : decode cL_law 733 = .ok (.ifCond .eq 16, 3) := by decide +kernel
theorem dL_law_736 : decode cL_law 736 = .ok (.aload_n 1, 1) := by decide +kernel
theorem dL_law_737 : decode cL_law 737 = .ok (.iload 10, 2) := by decide +kernel
theorem dL_law_739 : decode cL_law 739 = .ok (.invokestatic 104, 3) := by decide +kernel
theorem dL_law_742 : decode cL_law 742 = .ok (.ifCond .eq 7, 3) := by decide +kernel
theorem dL_law_745 : decode cL_law 745 = .ok (.iconst 1, 1) := by decide +kernel
theorem dL_law_746 : decode cL_law 746 = .ok (.goto 4, 3) := by decide +kernel
theorem dL_law_749 : decode cL_law 749 = .ok (.iconst 0, 1) := by decide +kernel
theorem dL_law_750 : decode cL_law 750 = .ok (.istore 11, 2) := by decide +kernel
theorem dL_law_752 : decode cL_law 752 = .ok (.iinc 12 1, 3) := by decide +kernel
theorem dL_law_755 : decode cL_law 755 = .ok (.goto (-30), 3) := by decide +kernel
theorem dL_law_758 : decode cL_law 758 = .ok (.goto 133, 3) := by decide +kernel
theorem dL_law_761 : decode cL_law 761 = .ok (.iload 8, 2) := by decide +kernel
theorem dL_law_763 : decode cL_law 763 = .ok (.bipush 9, 2) := by decide +kernel
theorem dL_law_765 : decode cL_law 765 = .ok (.if_icmp .ne 16, 3) := by decide +kernel
theorem dL_law_768 : decode cL_law 768 = .ok (.aload_n 1, 1) := by decide +kernel
theorem dL_law_769 : decode cL_law 769 = .ok (.iload 6, 2) := by decide +kernel
theorem dL_law_771 : decode cL_law 771 = .ok (.iload 7, 2) := by decide +kernel
theorem dL_law_773 : decode cL_law 773 = .ok (.invokestatic 108, 3) := by decide +kernel
theorem dL_law_776 : decode cL_law 776 = .ok (.istore 11, 2) := by decide +kernel
theorem dL_law_778 : decode cL_law 778 = .ok (.goto 113, 3) := by decide +kernel
theorem dL_law_781 : decode cL_law 781 = .ok (.iload 8, 2) := by decide +kernel
theorem dL_law_783 : decode cL_law 783 = .ok (.bipush 10, 2) := by decide +kernel
theorem dL_law_785 : decode cL_law 785 = .ok (.if_icmp .ne 19, 3) := by decide +kernel
theorem dL_law_788 : decode cL_law 788 = .ok (.aload_n 1, 1) := by decide +kernel
theorem dL_law_789 : decode cL_law 789 = .ok (.iload 7, 2) := by decide +kernel
theorem dL_law_791 : decode cL_law 791 = .ok (.bipush 8, 2) := by decide +kernel
theorem dL_law_793 : decode cL_law 793 = .ok (.invokestatic 51, 3) := by decide +kernel
theorem dL_law_796 : decode cL_law 796 = .ok (.invokestatic 112, 3) := by decide +kernel
theorem dL_law_799 : decode cL_law 799 = .ok (.istore 11, 2) := by decide +kernel
theorem dL_law_801 : decode cL_law 801 = .ok (.goto 90, 3) := by decide +kernel
theorem dL_law_804 : decode cL_law 804 = .ok (.iload 8, 2) := by decide +kernel
theorem dL_law_806 : decode cL_law 806 = .ok (.bipush 11, 2) := by decide +kernel
theorem dL_law_808 : decode cL_law 808 = .ok (.if_icmp .ne 43, 3) := by decide +kernel
theorem dL_law_811 : decode cL_law 811 = .ok (.iload 9, 2) := by decide +kernel
theorem dL_law_813 : decode cL_law 813 = .ok (.ifCond .le 38, 3) := by decide +kernel
theorem dL_law_816 : decode cL_law 816 = .ok (.aload_n 1, 1) := by decide +kernel
theorem dL_law_817 : decode cL_law 817 = .ok (.iload 10, 2) := by decide +kernel
theorem dL_law_819 : decode cL_law 819 = .ok (.iconst 1, 1) := by decide +kernel
theorem dL_law_820 : decode cL_law 820 = .ok (.iload 7, 2) := by decide +kernel
theorem dL_law_822 : decode cL_law 822 = .ok (.bipush 30, 2) := by decide +kernel
theorem dL_law_824 : decode cL_law 824 = .ok (.invokestatic 51, 3) := by decide +kernel
theorem dL_law_827 : decode cL_law 827 = .ok (.iadd, 1) := by decide +kernel
theorem dL_law_828 : decode cL_law 828 = .ok (.invokevirtual 41, 3) := by decide +kernel
theorem dL_law_831 : decode cL_law 831 = .ok (.aload_n 1, 1) := by decide +kernel
theorem dL_law_832 : decode cL_law 832 = .ok (.iload 10, 2) := by decide +kernel
theorem dL_law_834 : decode cL_law 834 = .ok (.iconst 3, 1) := by decide +kernel
theorem dL_law_835 : decode cL_law 835 = .ok (.invokevirtual 25, 3) := by decide +kernel
theorem dL_law_838 : decode cL_law 838 = .ok (.if_icmp .ne 7, 3) := by decide +kernel
theorem dL_law_841 : decode cL_law 841 = .ok (.iconst 1, 1) := by decide +kernel
theorem dL_law_842 : decode cL_law 842 = .ok (.goto 4, 3) := by decide +kernel
theorem dL_law_845 : decode cL_law 845 = .ok (.iconst 0, 1) := by decide +kernel
theorem dL_law_846 : decode cL_law 846 = .ok (.istore 11, 2) := by decide +kernel
theorem dL_law_848 : decode cL_law 848 = .ok (.goto 43, 3) := by decide +kernel
theorem dL_law_851 : decode cL_law 851 = .ok (.iload 8, 2) := by decide +kernel
theorem dL_law_853 : decode cL_law 853 = .ok (.bipush 12, 2) := by decide +kernel
theorem dL_law_855 : decode cL_law 855 = .ok (.if_icmp .ne 36, 3) := by decide +kernel
theorem dL_law_858 : decode cL_law 858 = .ok (.iload 9, 2) := by decide +kernel
theorem dL_law_860 : decode cL_law 860 = .ok (.ifCond .le 31, 3) := by decide +kernel
theorem dL_law_863 : decode cL_law 863 = .ok (.aload_n 1, 1) := by decide +kernel
theorem dL_law_864 : decode cL_law 864 = .ok (.iconst 1, 1) := by decide +kernel
theorem dL_law_865 : decode cL_law 865 = .ok (.iload 7, 2) := by decide +kernel
theorem dL_law_867 : decode cL_law 867 = .ok (.bipush 12, 2) := by decide +kernel
theorem dL_law_869 : decode cL_law 869 = .ok (.invokestatic 51, 3) := by decide +kernel
theorem dL_law_872 : decode cL_law 872 = .ok (.iadd, 1) := by decide +kernel
theorem dL_law_873 : decode cL_law 873 = .ok (.invokevirtual 64, 3) := by decide +kernel
theorem dL_law_876 : decode cL_law 876 = .ok (.aload_n 1, 1) := by decide +kernel
theorem dL_law_877 : decode cL_law 877 = .ok (.iconst 5, 1) := by decide +kernel
theorem dL_law_878 : decode cL_law 878 = .ok (.invokevirtual 9, 3) := by decide +kernel
theorem dL_law_881 : decode cL_law 881 = .ok (.if_icmp .ne 7, 3) := by decide +kernel
theorem dL_law_884 : decode cL_law 884 = .ok (.iconst 1, 1) := by decide +kernel
theorem dL_law_885 : decode cL_law 885 = .ok (.goto 4, 3) := by decide +kernel
theorem dL_law_888 : decode cL_law 888 = .ok (.iconst 0, 1) := by decide +kernel
theorem dL_law_889 : decode cL_law 889 = .ok (.istore 11, 2) := by decide +kernel
theorem dL_law_891 : decode cL_law 891 = .ok (.iload 11, 2) := by decide +kernel
theorem dL_law_893 : decode cL_law 893 = .ok (.ifCond .eq 17, 3) := by decide +kernel
theorem dL_law_896 : decode cL_law 896 = .ok (.aload_n 1, 1) := by decide +kernel
theorem dL_law_897 : decode cL_law 897 = .ok (.invokestatic 115, 3) := by decide +kernel
theorem dL_law_900 : decode cL_law 900 = .ok (.ifCond .eq 10, 3) := by decide +kernel
theorem dL_law_903 : decode cL_law 903 = .ok (.aload_n 1, 1) := by decide +kernel
theorem dL_law_904 : decode cL_law 904 = .ok (.invokestatic 119, 3) := by decide +kernel
theorem dL_law_907 : decode cL_law 907 = .ok (.ifCond .ne 5, 3) := by decide +kernel
theorem dL_law_910 : decode cL_law 910 = .ok (.iconst 0, 1) := by decide +kernel
theorem dL_law_911 : decode cL_law 911 = .ok (.ireturn, 1) := by decide +kernel
theorem dL_law_912 : decode cL_law 912 = .ok (.iinc 5 1, 3) := by decide +kernel
theorem dL_law_915 : decode cL_law 915 = .ok (.goto (-851), 3) := by decide +kernel
theorem dL_law_918 : decode cL_law 918 = .ok (.aload_n 1, 1) := by decide +kernel
theorem dL_law_919 : decode cL_law 919 = .ok (.invokestatic 122, 3) := by decide +kernel
theorem dL_law_922 : decode cL_law 922 = .ok (.ireturn, 1) := by decide +kernel
