theorem dX0_init_0 : decode cX0_init 0 = .ok (.aload_n 0, 1) := by decide +kernel
theorem dX0_init_1 : decode cX0_init 1 = .ok (.invokespecial 3, 3) := by decide +kernel
theorem dX0_init_4 : decode cX0_init 4 = .ok (.aload_n 0, 1) := by decide +kernel
theorem dX0_init_5 : decode cX0_init 5 = .ok (.sipush 128, 3) := by decide +kernel
theorem dX0_init_8 : decode cX0_init 8 = .ok (.newarray .int, 2) := by decide +kernel
theorem dX0_init_10 : decode cX0_init 10 = .ok (.putfield 9, 3) := by decide +kernel
theorem dX0_init_13 : decode cX0_init 13 = .ok (.aload_n 0, 1) := by decide +kernel
theorem dX0_init_14 : decode cX0_init 14 = .ok (.sipush 128, 3) := by decide +kernel
theorem dX0_init_17 : decode cX0_init 17 = .ok (.newarray .int, 2) := by decide +kernel
theorem dX0_init_19 : decode cX0_init 19 = .ok (.putfield 15, 3) := by decide +kernel
theorem dX0_init_22 : decode cX0_init 22 = .ok (.aload_n 0, 1) := by decide +kernel
theorem dX0_init_23 : decode cX0_init 23 = .ok (.sipush 128, 3) := by decide +kernel
theorem dX0_init_26 : decode cX0_init 26 = .ok (.newarray .int, 2) := by decide +kernel
theorem dX0_init_28 : decode cX0_init 28 = .ok (.putfield 18, 3) := by decide +kernel
theorem dX0_init_31 : decode cX0_init 31 = .ok (.aload_n 0, 1) := by decide +kernel
theorem dX0_init_32 : decode cX0_init 32 = .ok (.sipush 256, 3) := by decide +kernel
theorem dX0_init_35 : decode cX0_init 35 = .ok (.newarray .int, 2) := by decide +kernel
theorem dX0_init_37 : decode cX0_init 37 = .ok (.putfield 21, 3) := by decide +kernel
theorem dX0_init_40 : decode cX0_init 40 = .ok (.aload_n 0, 1) := by decide +kernel
theorem dX0_init_41 : decode cX0_init 41 = .ok (.sipush 256, 3) := by decide +kernel
theorem dX0_init_44 : decode cX0_init 44 = .ok (.newarray .int, 2) := by decide +kernel
theorem dX0_init_46 : decode cX0_init 46 = .ok (.putfield 24, 3) := by decide +kernel
theorem dX0_init_49 : decode cX0_init 49 = .ok (.aload_n 0, 1) := by decide +kernel
theorem dX0_init_50 : decode cX0_init 50 = .ok (.iconst 0, 1) := by decide +kernel
theorem dX0_init_51 : decode cX0_init 51 = .ok (.putfield 27, 3) := by decide +kernel
theorem dX0_init_54 : decode cX0_init 54 = .ok (.aload_n 0, 1) := by decide +kernel
theorem dX0_init_55 : decode cX0_init 55 = .ok (.iconst 1, 1) := by decide +kernel
theorem dX0_init_56 : decode cX0_init 56 = .ok (.putfield 31, 3) := by decide +kernel
theorem dX0_init_59 : decode cX0_init 59 = .ok (.return_, 1) := by decide +kernel
theorem dX0_forget_0 : decode cX0_forget 0 = .ok (.aload_n 0, 1) := by decide +kernel
theorem dX0_forget_1 : decode cX0_forget 1 = .ok (.iconst 1, 1) := by decide +kernel
theorem dX0_forget_2 : decode cX0_forget 2 = .ok (.putfield 31, 3) := by decide +kernel
theorem dX0_forget_5 : decode cX0_forget 5 = .ok (.return_, 1) := by decide +kernel
theorem dX0_follow_0 : decode cX0_follow 0 = .ok (.iload_n 2, 1) := by decide +kernel
theorem dX0_follow_1 : decode cX0_follow 1 = .ok (.ifCond .ne 7, 3) := by decide +kernel
theorem dX0_follow_4 : decode cX0_follow 4 = .ok (.iconst 1, 1) := by decide +kernel
theorem dX0_follow_5 : decode cX0_follow 5 = .ok (.goto 4, 3) := by decide +kernel
theorem dX0_follow_8 : decode cX0_follow 8 = .ok (.iconst 0, 1) := by decide +kernel
theorem dX0_follow_9 : decode cX0_follow 9 = .ok (.iload_n 3, 1) := by decide +kernel
theorem dX0_follow_10 : decode cX0_follow 10 = .ok (.ifCond .ne 7, 3) := by decide +kernel
theorem dX0_follow_13 : decode cX0_follow 13 = .ok (.iconst 1, 1) := by decide +kernel
theorem dX0_follow_14 : decode cX0_follow 14 = .ok (.goto 4, 3) := by decide +kernel
theorem dX0_follow_17 : decode cX0_follow 17 = .ok (.iconst 0, 1) := by decide +kernel
theorem dX0_follow_18 : decode cX0_follow 18 = .ok (.if_icmp .eq 8, 3) := by decide +kernel
theorem dX0_follow_21 : decode cX0_follow 21 = .ok (.aload_n 0, 1) := by decide +kernel
theorem dX0_follow_22 : decode cX0_follow 22 = .ok (.iconst 1, 1) := by decide +kernel
theorem dX0_follow_23 : decode cX0_follow 23 = .ok (.putfield 31, 3) := by decide +kernel
theorem dX0_follow_26 : decode cX0_follow 26 = .ok (.aload_n 0, 1) := by decide +kernel
theorem dX0_follow_27 : decode cX0_follow 27 = .ok (.getfield 31, 3) := by decide +kernel
theorem dX0_follow_30 : decode cX0_follow 30 = .ok (.ifCond .ne 14, 3) := by decide +kernel
theorem dX0_follow_33 : decode cX0_follow 33 = .ok (.iload_n 1, 1) := by decide +kernel
theorem dX0_follow_34 : decode cX0_follow 34 = .ok (.ifCond .lt 10, 3) := by decide +kernel
theorem dX0_follow_37 : decode cX0_follow 37 = .ok (.iload_n 1, 1) := by decide +kernel
theorem dX0_follow_38 : decode cX0_follow 38 = .ok (.sipush 256, 3) := by decide +kernel
theorem dX0_follow_41 : decode cX0_follow 41 = .ok (.if_icmp .lt 4, 3) := by decide +kernel
theorem dX0_follow_44 : decode cX0_follow 44 = .ok (.return_, 1) := by decide +kernel
theorem dX0_follow_45 : decode cX0_follow 45 = .ok (.aload_n 0, 1) := by decide +kernel
theorem dX0_follow_46 : decode cX0_follow 46 = .ok (.getfield 21, 3) := by decide +kernel
theorem dX0_follow_49 : decode cX0_follow 49 = .ok (.iload_n 1, 1) := by decide +kernel
theorem dX0_follow_50 : decode cX0_follow 50 = .ok (.iaload, 1) := by decide +kernel
theorem dX0_follow_51 : decode cX0_follow 51 = .ok (.istore 4, 2) := by decide +kernel
theorem dX0_follow_53 : decode cX0_follow 53 = .ok (.iload 4, 2) := by decide +kernel
theorem dX0_follow_55 : decode cX0_follow 55 = .ok (.ifCond .lt 24, 3) := by decide +kernel
theorem dX0_follow_58 : decode cX0_follow 58 = .ok (.iload 4, 2) := by decide +kernel
theorem dX0_follow_60 : decode cX0_follow 60 = .ok (.sipush 128, 3) := by decide +kernel
theorem dX0_follow_63 : decode cX0_follow 63 = .ok (.if_icmp .ge 16, 3) := by decide +kernel
theorem dX0_follow_66 : decode cX0_follow 66 = .ok (.aload_n 0, 1) := by decide +kernel
theorem dX0_follow_67 : decode cX0_follow 67 = .ok (.getfield 9, 3) := by decide +kernel
theorem dX0_follow_70 : decode cX0_follow 70 = .ok (.iload 4, 2) := by decide +kernel
theorem dX0_follow_72 : decode cX0_follow 72 = .ok (.dup2, 1) := by decide +kernel
theorem dX0_follow_73 : decode cX0_follow 73 = .ok (.iaload, 1) := by decide +kernel
theorem dX0_follow_74 : decode cX0_follow 74 = .ok (.iload_n 3, 1) := by decide +kernel
theorem dX0_follow_75 : decode cX0_follow 75 = .ok (.iload_n 2, 1) := by decide +kernel
theorem dX0_follow_76 : decode cX0_follow 76 = .ok (.isub, 1) := by decide +kernel
theorem dX0_follow_77 : decode cX0_follow 77 = .ok (.iadd, 1) := by decide +kernel
theorem dX0_follow_78 : decode cX0_follow 78 = .ok (.iastore, 1) := by decide +kernel
theorem dX0_follow_79 : decode cX0_follow 79 = .ok (.return_, 1) := by decide +kernel
theorem dX0_numberIn_0 : decode cX0_numberIn 0 = .ok (.aload_n 0, 1) := by decide +kernel
theorem dX0_numberIn_1 : decode cX0_numberIn 1 = .ok (.getfield 31, 3) := by decide +kernel
theorem dX0_numberIn_4 : decode cX0_numberIn 4 = .ok (.ifCond .ne 8, 3) := by decide +kernel
theorem dX0_numberIn_7 : decode cX0_numberIn 7 = .ok (.aload_n 0, 1) := by decide +kernel
theorem dX0_numberIn_8 : decode cX0_numberIn 8 = .ok (.getfield 27, 3) := by decide +kernel
theorem dX0_numberIn_11 : decode cX0_numberIn 11 = .ok (.ireturn, 1) := by decide +kernel
theorem dX0_numberIn_12 : decode cX0_numberIn 12 = .ok (.aload_n 0, 1) := by decide +kernel
theorem dX0_numberIn_13 : decode cX0_numberIn 13 = .ok (.getfield 21, 3) := by decide +kernel
theorem dX0_numberIn_16 : decode cX0_numberIn 16 = .ok (.iconst (-1), 1) := by decide +kernel
theorem dX0_numberIn_17 : decode cX0_numberIn 17 = .ok (.invokestatic 35, 3) := by decide +kernel
theorem dX0_numberIn_20 : decode cX0_numberIn 20 = .ok (.aload_n 0, 1) := by decide +kernel
theorem dX0_numberIn_21 : decode cX0_numberIn 21 = .ok (.iconst 0, 1) := by decide +kernel
theorem dX0_numberIn_22 : decode cX0_numberIn 22 = .ok (.putfield 27, 3) := by decide +kernel
theorem dX0_numberIn_25 : decode cX0_numberIn 25 = .ok (.iconst 0, 1) := by decide +kernel
theorem dX0_numberIn_26 : decode cX0_numberIn 26 = .ok (.istore_n 2, 1) := by decide +kernel
theorem dX0_numberIn_27 : decode cX0_numberIn 27 = .ok (.iload_n 2, 1) := by decide +kernel
theorem dX0_numberIn_28 : decode cX0_numberIn 28 = .ok (.sipush 256, 3) := by decide +kernel
theorem dX0_numberIn_31 : decode cX0_numberIn 31 = .ok (.if_icmp .ge 60, 3) := by decide +kernel
theorem dX0_numberIn_34 : decode cX0_numberIn 34 = .ok (.iload_n 2, 1) := by decide +kernel
theorem dX0_numberIn_35 : decode cX0_numberIn 35 = .ok (.aload_n 1, 1) := by decide +kernel
theorem dX0_numberIn_36 : decode cX0_numberIn 36 = .ok (.arraylength, 1) := by decide +kernel
theorem dX0_numberIn_37 : decode cX0_numberIn 37 = .ok (.if_icmp .ge 54, 3) := by decide +kernel
theorem dX0_numberIn_40 : decode cX0_numberIn 40 = .ok (.aload_n 1, 1) := by decide +kernel
theorem dX0_numberIn_41 : decode cX0_numberIn 41 = .ok (.iload_n 2, 1) := by decide +kernel
theorem dX0_numberIn_42 : decode cX0_numberIn 42 = .ok (.iaload, 1) := by decide +kernel
theorem dX0_numberIn_43 : decode cX0_numberIn 43 = .ok (.ifCond .le 42, 3) := by decide +kernel
theorem dX0_numberIn_46 : decode cX0_numberIn 46 = .ok (.aload_n 0, 1) := by decide +kernel
theorem dX0_numberIn_47 : decode cX0_numberIn 47 = .ok (.getfield 21, 3) := by decide +kernel
theorem dX0_numberIn_50 : decode cX0_numberIn 50 = .ok (.iload_n 2, 1) := by decide +kernel
theorem dX0_numberIn_51 : decode cX0_numberIn 51 = .ok (.iaload, 1) := by decide +kernel
theorem dX0_numberIn_52 : decode cX0_numberIn 52 = .ok (.ifCond .ge 33, 3) := by decide +kernel
theorem dX0_numberIn_55 : decode cX0_numberIn 55 = .ok (.aload_n 0, 1) := by decide +kernel
theorem dX0_numberIn_56 : decode cX0_numberIn 56 = .ok (.getfield 27, 3) := by decide +kernel
theorem dX0_numberIn_59 : decode cX0_numberIn 59 = .ok (.sipush 128, 3) := by decide +kernel
theorem dX0_numberIn_62 : decode cX0_numberIn 62 = .ok (.if_icmp .ge 23, 3) := by decide +kernel
theorem dX0_numberIn_65 : decode cX0_numberIn 65 = .ok (.aload_n 0, 1) := by decide +kernel
theorem dX0_numberIn_66 : decode cX0_numberIn 66 = .ok (.aload_n 1, 1) := by decide +kernel
theorem dX0_numberIn_67 : decode cX0_numberIn 67 = .ok (.iload_n 2, 1) := by decide +kernel
theorem dX0_numberIn_68 : decode cX0_numberIn 68 = .ok (.aload_n 0, 1) := by decide +kernel
theorem dX0_numberIn_69 : decode cX0_numberIn 69 = .ok (.getfield 27, 3) := by decide +kernel
theorem dX0_numberIn_72 : decode cX0_numberIn 72 = .ok (.invokevirtual 41, 3) := by decide +kernel
theorem dX0_numberIn_75 : decode cX0_numberIn 75 = .ok (.aload_n 0, 1) := by decide +kernel
theorem dX0_numberIn_76 : decode cX0_numberIn 76 = .ok (.dup, 1) := by decide +kernel
theorem dX0_numberIn_77 : decode cX0_numberIn 77 = .ok (.getfield 27, 3) := by decide +kernel
theorem dX0_numberIn_80 : decode cX0_numberIn 80 = .ok (.iconst 1, 1) := by decide +kernel
theorem dX0_numberIn_81 : decode cX0_numberIn 81 = .ok (.iadd, 1) := by decide +kernel
theorem dX0_numberIn_82 : decode cX0_numberIn 82 = .ok (.putfield 27, 3) := by decide +kernel
theorem dX0_numberIn_85 : decode cX0_numberIn 85 = .ok (.iinc 2 1, 3) := by decide +kernel
theorem dX0_numberIn_88 : decode cX0_numberIn 88 = .ok (.goto (-61), 3) := by decide +kernel
theorem dX0_numberIn_91 : decode cX0_numberIn 91 = .ok (.aload_n 0, 1) := by decide +kernel
theorem dX0_numberIn_92 : decode cX0_numberIn 92 = .ok (.iconst 0, 1) := by decide +kernel
theorem dX0_numberIn_93 : decode cX0_numberIn 93 = .ok (.putfield 31, 3) := by decide +kernel
theorem dX0_numberIn_96 : decode cX0_numberIn 96 = .ok (.aload_n 0, 1) := by decide +kernel
theorem dX0_numberIn_97 : decode cX0_numberIn 97 = .ok (.getfield 27, 3) := by decide +kernel
theorem dX0_numberIn_100 : decode cX0_numberIn 100 = .ok (.ireturn, 1) := by decide +kernel
theorem dX0_findHeap_0 : decode cX0_findHeap 0 = .ok (.iload_n 3, 1) := by decide +kernel
theorem dX0_findHeap_1 : decode cX0_findHeap 1 = .ok (.ifCond .lt 10, 3) := by decide +kernel
theorem dX0_findHeap_4 : decode cX0_findHeap 4 = .ok (.iload_n 3, 1) := by decide +kernel
theorem dX0_findHeap_5 : decode cX0_findHeap 5 = .ok (.sipush 128, 3) := by decide +kernel
theorem dX0_findHeap_8 : decode cX0_findHeap 8 = .ok (.if_icmp .lt 4, 3) := by decide +kernel
theorem dX0_findHeap_11 : decode cX0_findHeap 11 = .ok (.return_, 1) := by decide +kernel
theorem dX0_findHeap_12 : decode cX0_findHeap 12 = .ok (.aload_n 0, 1) := by decide +kernel
theorem dX0_findHeap_13 : decode cX0_findHeap 13 = .ok (.getfield 9, 3) := by decide +kernel
theorem dX0_findHeap_16 : decode cX0_findHeap 16 = .ok (.iload_n 3, 1) := by decide +kernel
theorem dX0_findHeap_17 : decode cX0_findHeap 17 = .ok (.iconst 0, 1) := by decide +kernel
theorem dX0_findHeap_18 : decode cX0_findHeap 18 = .ok (.iastore, 1) := by decide +kernel
theorem dX0_findHeap_19 : decode cX0_findHeap 19 = .ok (.aload_n 0, 1) := by decide +kernel
theorem dX0_findHeap_20 : decode cX0_findHeap 20 = .ok (.getfield 15, 3) := by decide +kernel
theorem dX0_findHeap_23 : decode cX0_findHeap 23 = .ok (.iload_n 3, 1) := by decide +kernel
theorem dX0_findHeap_24 : decode cX0_findHeap 24 = .ok (.iconst 0, 1) := by decide +kernel
theorem dX0_findHeap_25 : decode cX0_findHeap 25 = .ok (.iastore, 1) := by decide +kernel
theorem dX0_findHeap_26 : decode cX0_findHeap 26 = .ok (.aload_n 0, 1) := by decide +kernel
theorem dX0_findHeap_27 : decode cX0_findHeap 27 = .ok (.getfield 18, 3) := by decide +kernel
theorem dX0_findHeap_30 : decode cX0_findHeap 30 = .ok (.iload_n 3, 1) := by decide +kernel
theorem dX0_findHeap_31 : decode cX0_findHeap 31 = .ok (.iload_n 2, 1) := by decide +kernel
theorem dX0_findHeap_32 : decode cX0_findHeap 32 = .ok (.iastore, 1) := by decide +kernel
theorem dX0_findHeap_33 : decode cX0_findHeap 33 = .ok (.aload_n 0, 1) := by decide +kernel
theorem dX0_findHeap_34 : decode cX0_findHeap 34 = .ok (.aload_n 1, 1) := by decide +kernel
theorem dX0_findHeap_35 : decode cX0_findHeap 35 = .ok (.iload_n 2, 1) := by decide +kernel
theorem dX0_findHeap_36 : decode cX0_findHeap 36 = .ok (.iload_n 3, 1) := by decide +kernel
theorem dX0_findHeap_37 : decode cX0_findHeap 37 = .ok (.invokevirtual 45, 3) := by decide +kernel
theorem dX0_findHeap_40 : decode cX0_findHeap 40 = .ok (.iconst 0, 1) := by decide +kernel
theorem dX0_findHeap_41 : decode cX0_findHeap 41 = .ok (.istore 4, 2) := by decide +kernel
theorem dX0_findHeap_43 : decode cX0_findHeap 43 = .ok (.iload 4, 2) := by decide +kernel
theorem dX0_findHeap_45 : decode cX0_findHeap 45 = .ok (.aload_n 0, 1) := by decide +kernel
theorem dX0_findHeap_46 : decode cX0_findHeap 46 = .ok (.getfield 15, 3) := by decide +kernel
theorem dX0_findHeap_49 : decode cX0_findHeap 49 = .ok (.iload_n 3, 1) := by decide +kernel
theorem dX0_findHeap_50 : decode cX0_findHeap 50 = .ok (.iaload, 1) := by decide +kernel
theorem dX0_findHeap_51 : decode cX0_findHeap 51 = .ok (.if_icmp .ge 50, 3) := by decide +kernel
theorem dX0_findHeap_54 : decode cX0_findHeap 54 = .ok (.iload 4, 2) := by decide +kernel
theorem dX0_findHeap_56 : decode cX0_findHeap 56 = .ok (.sipush 256, 3) := by decide +kernel
theorem dX0_findHeap_59 : decode cX0_findHeap 59 = .ok (.if_icmp .ge 42, 3) := by decide +kernel
theorem dX0_findHeap_62 : decode cX0_findHeap 62 = .ok (.iconst 0, 1) := by decide +kernel
theorem dX0_findHeap_63 : decode cX0_findHeap 63 = .ok (.istore 5, 2) := by decide +kernel
theorem dX0_findHeap_65 : decode cX0_findHeap 65 = .ok (.iload 5, 2) := by decide +kernel
theorem dX0_findHeap_67 : decode cX0_findHeap 67 = .ok (.iconst 3, 1) := by decide +kernel
theorem dX0_findHeap_68 : decode cX0_findHeap 68 = .ok (.if_icmp .gt 27, 3) := by decide +kernel
theorem dX0_findHeap_71 : decode cX0_findHeap 71 = .ok (.aload_n 0, 1) := by decide +kernel
theorem dX0_findHeap_72 : decode cX0_findHeap 72 = .ok (.aload_n 1, 1) := by decide +kernel
theorem dX0_findHeap_73 : decode cX0_findHeap 73 = .ok (.aload_n 0, 1) := by decide +kernel
theorem dX0_findHeap_74 : decode cX0_findHeap 74 = .ok (.getfield 24, 3) := by decide +kernel
theorem dX0_findHeap_77 : decode cX0_findHeap 77 = .ok (.iload 4, 2) := by decide +kernel
theorem dX0_findHeap_79 : decode cX0_findHeap 79 = .ok (.iaload, 1) := by decide +kernel
theorem dX0_findHeap_80 : decode cX0_findHeap 80 = .ok (.iload 5, 2) := by decide +kernel
theorem dX0_findHeap_82 : decode cX0_findHeap 82 = .ok (.invokestatic 48, 3) := by decide +kernel
theorem dX0_findHeap_85 : decode cX0_findHeap 85 = .ok (.iload_n 3, 1) := by decide +kernel
theorem dX0_findHeap_86 : decode cX0_findHeap 86 = .ok (.invokevirtual 45, 3) := by decide +kernel
theorem dX0_findHeap_89 : decode cX0_findHeap 89 = .ok (.iinc 5 1, 3) := by decide +kernel
theorem dX0_findHeap_92 : decode cX0_findHeap 92 = .ok (.goto (-27), 3) := by decide +kernel
theorem dX0_findHeap_95 : decode cX0_findHeap 95 = .ok (.iinc 4 1, 3) := by decide +kernel
theorem dX0_findHeap_98 : decode cX0_findHeap 98 = .ok (.goto (-55), 3) := by decide +kernel
theorem dX0_findHeap_101 : decode cX0_findHeap 101 = .ok (.return_, 1) := by decide +kernel
theorem dX0_addCell_0 : decode cX0_addCell 0 = .ok (.iload_n 2, 1) := by decide +kernel
theorem dX0_addCell_1 : decode cX0_addCell 1 = .ok (.ifCond .lt 27, 3) := by decide +kernel
theorem dX0_addCell_4 : decode cX0_addCell 4 = .ok (.iload_n 2, 1) := by decide +kernel
theorem dX0_addCell_5 : decode cX0_addCell 5 = .ok (.sipush 256, 3) := by decide +kernel
theorem dX0_addCell_8 : decode cX0_addCell 8 = .ok (.if_icmp .ge 20, 3) := by decide +kernel
theorem dX0_addCell_11 : decode cX0_addCell 11 = .ok (.iload_n 2, 1) := by decide +kernel
theorem dX0_addCell_12 : decode cX0_addCell 12 = .ok (.aload_n 1, 1) := by decide +kernel
theorem dX0_addCell_13 : decode cX0_addCell 13 = .ok (.arraylength, 1) := by decide +kernel
theorem dX0_addCell_14 : decode cX0_addCell 14 = .ok (.if_icmp .ge 14, 3) := by decide +kernel
theorem dX0_addCell_17 : decode cX0_addCell 17 = .ok (.iload_n 3, 1) := by decide +kernel
theorem dX0_addCell_18 : decode cX0_addCell 18 = .ok (.ifCond .lt 10, 3) := by decide +kernel
theorem dX0_addCell_21 : decode cX0_addCell 21 = .ok (.iload_n 3, 1) := by decide +kernel
theorem dX0_addCell_22 : decode cX0_addCell 22 = .ok (.sipush 128, 3) := by decide +kernel
theorem dX0_addCell_25 : decode cX0_addCell 25 = .ok (.if_icmp .lt 4, 3) := by decide +kernel
theorem dX0_addCell_28 : decode cX0_addCell 28 = .ok (.return_, 1) := by decide +kernel
theorem dX0_addCell_29 : decode cX0_addCell 29 = .ok (.aload_n 0, 1) := by decide +kernel
theorem dX0_addCell_30 : decode cX0_addCell 30 = .ok (.getfield 15, 3) := by decide +kernel
theorem dX0_addCell_33 : decode cX0_addCell 33 = .ok (.iload_n 3, 1) := by decide +kernel
theorem dX0_addCell_34 : decode cX0_addCell 34 = .ok (.iaload, 1) := by decide +kernel
theorem dX0_addCell_35 : decode cX0_addCell 35 = .ok (.istore 4, 2) := by decide +kernel
theorem dX0_addCell_37 : decode cX0_addCell 37 = .ok (.aload_n 1, 1) := by decide +kernel
theorem dX0_addCell_38 : decode cX0_addCell 38 = .ok (.iload_n 2, 1) := by decide +kernel
theorem dX0_addCell_39 : decode cX0_addCell 39 = .ok (.iaload, 1) := by decide +kernel
theorem dX0_addCell_40 : decode cX0_addCell 40 = .ok (.ifCond .le 62, 3) := by decide +kernel
theorem dX0_addCell_43 : decode cX0_addCell 43 = .ok (.aload_n 0, 1) := by decide +kernel
theorem dX0_addCell_44 : decode cX0_addCell 44 = .ok (.getfield 21, 3) := by decide +kernel
theorem dX0_addCell_47 : decode cX0_addCell 47 = .ok (.iload_n 2, 1) := by decide +kernel
theorem dX0_addCell_48 : decode cX0_addCell 48 = .ok (.iaload, 1) := by decide +kernel
theorem dX0_addCell_49 : decode cX0_addCell 49 = .ok (.ifCond .ge 53, 3) := by decide +kernel
theorem dX0_addCell_52 : decode cX0_addCell 52 = .ok (.iload 4, 2) := by decide +kernel
theorem dX0_addCell_54 : decode cX0_addCell 54 = .ok (.ifCond .lt 48, 3) := by decide +kernel
theorem dX0_addCell_57 : decode cX0_addCell 57 = .ok (.iload 4, 2) := by decide +kernel
theorem dX0_addCell_59 : decode cX0_addCell 59 = .ok (.sipush 256, 3) := by decide +kernel
theorem dX0_addCell_62 : decode cX0_addCell 62 = .ok (.if_icmp .ge 40, 3) := by decide +kernel
theorem dX0_addCell_65 : decode cX0_addCell 65 = .ok (.aload_n 0, 1) := by decide +kernel
theorem dX0_addCell_66 : decode cX0_addCell 66 = .ok (.getfield 21, 3) := by decide +kernel
theorem dX0_addCell_69 : decode cX0_addCell 69 = .ok (.iload_n 2, 1) := by decide +kernel
theorem dX0_addCell_70 : decode cX0_addCell 70 = .ok (.iload_n 3, 1) := by decide +kernel
theorem dX0_addCell_71 : decode cX0_addCell 71 = .ok (.iastore, 1) := by decide +kernel
theorem dX0_addCell_72 : decode cX0_addCell 72 = .ok (.aload_n 0, 1) := by decide +kernel
theorem dX0_addCell_73 : decode cX0_addCell 73 = .ok (.getfield 24, 3) := by decide +kernel
theorem dX0_addCell_76 : decode cX0_addCell 76 = .ok (.iload 4, 2) := by decide +kernel
theorem dX0_addCell_78 : decode cX0_addCell 78 = .ok (.iload_n 2, 1) := by decide +kernel
theorem dX0_addCell_79 : decode cX0_addCell 79 = .ok (.iastore, 1) := by decide +kernel
theorem dX0_addCell_80 : decode cX0_addCell 80 = .ok (.aload_n 0, 1) := by decide +kernel
theorem dX0_addCell_81 : decode cX0_addCell 81 = .ok (.getfield 15, 3) := by decide +kernel
theorem dX0_addCell_84 : decode cX0_addCell 84 = .ok (.iload_n 3, 1) := by decide +kernel
theorem dX0_addCell_85 : decode cX0_addCell 85 = .ok (.iload 4, 2) := by decide +kernel
theorem dX0_addCell_87 : decode cX0_addCell 87 = .ok (.iconst 1, 1) := by decide +kernel
theorem dX0_addCell_88 : decode cX0_addCell 88 = .ok (.iadd, 1) := by decide +kernel
theorem dX0_addCell_89 : decode cX0_addCell 89 = .ok (.iastore, 1) := by decide +kernel
theorem dX0_addCell_90 : decode cX0_addCell 90 = .ok (.aload_n 0, 1) := by decide +kernel
theorem dX0_addCell_91 : decode cX0_addCell 91 = .ok (.getfield 9, 3) := by decide +kernel
theorem dX0_addCell_94 : decode cX0_addCell 94 = .ok (.iload_n 3, 1) := by decide +kernel
theorem dX0_addCell_95 : decode cX0_addCell 95 = .ok (.dup2, 1) := by decide +kernel
theorem dX0_addCell_96 : decode cX0_addCell 96 = .ok (.iaload, 1) := by decide +kernel
theorem dX0_addCell_97 : decode cX0_addCell 97 = .ok (.aload_n 1, 1) := by decide +kernel
theorem dX0_addCell_98 : decode cX0_addCell 98 = .ok (.iload_n 2, 1) := by decide +kernel
theorem dX0_addCell_99 : decode cX0_addCell 99 = .ok (.iaload, 1) := by decide +kernel
theorem dX0_addCell_100 : decode cX0_addCell 100 = .ok (.iadd, 1) := by decide +kernel
theorem dX0_addCell_101 : decode cX0_addCell 101 = .ok (.iastore, 1) := by decide +kernel
theorem dX0_addCell_102 : decode cX0_addCell 102 = .ok (.return_, 1) := by decide +kernel
theorem dX0_neighbour_0 : decode cX0_neighbour 0 = .ok (.iload_n 0, 1) := by decide +kernel
theorem dX0_neighbour_1 : decode cX0_neighbour 1 = .ok (.bipush 16, 2) := by decide +kernel
theorem dX0_neighbour_3 : decode cX0_neighbour 3 = .ok (.irem, 1) := by decide +kernel
theorem dX0_neighbour_4 : decode cX0_neighbour 4 = .ok (.istore_n 2, 1) := by decide +kernel
theorem dX0_neighbour_5 : decode cX0_neighbour 5 = .ok (.iload_n 1, 1) := by decide +kernel
theorem dX0_neighbour_6 : decode cX0_neighbour 6 = .ok (.tableswitch 71 0 2 #[26, 41, 55], 26) := by decide +kernel
theorem dX0_neighbour_32 : decode cX0_neighbour 32 = .ok (.iload_n 0, 1) := by decide +kernel
theorem dX0_neighbour_33 : decode cX0_neighbour 33 = .ok (.bipush 16, 2) := by decide +kernel
theorem dX0_neighbour_35 : decode cX0_neighbour 35 = .ok (.if_icmp .lt 10, 3) := by decide +kernel
theorem dX0_neighbour_38 : decode cX0_neighbour 38 = .ok (.iload_n 0, 1) := by decide +kernel
theorem dX0_neighbour_39 : decode cX0_neighbour 39 = .ok (.bipush 16, 2) := by decide +kernel
theorem dX0_neighbour_41 : decode cX0_neighbour 41 = .ok (.isub, 1) := by decide +kernel
theorem dX0_neighbour_42 : decode cX0_neighbour 42 = .ok (.goto 4, 3) := by decide +kernel
theorem dX0_neighbour_45 : decode cX0_neighbour 45 = .ok (.iconst (-1), 1) := by decide +kernel
theorem dX0_neighbour_46 : decode cX0_neighbour 46 = .ok (.ireturn, 1) := by decide +kernel
theorem dX0_neighbour_47 : decode cX0_neighbour 47 = .ok (.iload_n 2, 1) := by decide +kernel
theorem dX0_neighbour_48 : decode cX0_neighbour 48 = .ok (.bipush 15, 2) := by decide +kernel
theorem dX0_neighbour_50 : decode cX0_neighbour 50 = .ok (.if_icmp .ge 9, 3) := by decide +kernel
theorem dX0_neighbour_53 : decode cX0_neighbour 53 = .ok (.iload_n 0, 1) := by decide +kernel
theorem dX0_neighbour_54 : decode cX0_neighbour 54 = .ok (.iconst 1, 1) := by decide +kernel
theorem dX0_neighbour_55 : decode cX0_neighbour 55 = .ok (.iadd, 1) := by decide +kernel
theorem dX0_neighbour_56 : decode cX0_neighbour 56 = .ok (.goto 4, 3) := by decide +kernel
theorem dX0_neighbour_59 : decode cX0_neighbour 59 = .ok (.iconst (-1), 1) := by decide +kernel
theorem dX0_neighbour_60 : decode cX0_neighbour 60 = .ok (.ireturn, 1) := by decide +kernel
theorem dX0_neighbour_61 : decode cX0_neighbour 61 = .ok (.iload_n 0, 1) := by decide +kernel
theorem dX0_neighbour_62 : decode cX0_neighbour 62 = .ok (.sipush 240, 3) := by decide +kernel
theorem dX0_neighbour_65 : decode cX0_neighbour 65 = .ok (.if_icmp .ge 10, 3) := by decide +kernel
theorem dX0_neighbour_68 : decode cX0_neighbour 68 = .ok (.iload_n 0, 1) := by decide +kernel
theorem dX0_neighbour_69 : decode cX0_neighbour 69 = .ok (.bipush 16, 2) := by decide +kernel
theorem dX0_neighbour_71 : decode cX0_neighbour 71 = .ok (.iadd, 1) := by decide +kernel
theorem dX0_neighbour_72 : decode cX0_neighbour 72 = .ok (.goto 4, 3) := by decide +kernel
theorem dX0_neighbour_75 : decode cX0_neighbour 75 = .ok (.iconst (-1), 1) := by decide +kernel
theorem dX0_neighbour_76 : decode cX0_neighbour 76 = .ok (.ireturn, 1) := by decide +kernel
theorem dX0_neighbour_77 : decode cX0_neighbour 77 = .ok (.iload_n 2, 1) := by decide +kernel
theorem dX0_neighbour_78 : decode cX0_neighbour 78 = .ok (.ifCond .le 9, 3) := by decide +kernel
theorem dX0_neighbour_81 : decode cX0_neighbour 81 = .ok (.iload_n 0, 1) := by decide +kernel
theorem dX0_neighbour_82 : decode cX0_neighbour 82 = .ok (.iconst 1, 1) := by decide +kernel
theorem dX0_neighbour_83 : decode cX0_neighbour 83 = .ok (.isub, 1) := by decide +kernel
theorem dX0_neighbour_84 : decode cX0_neighbour 84 = .ok (.goto 4, 3) := by decide +kernel
theorem dX0_neighbour_87 : decode cX0_neighbour 87 = .ok (.iconst (-1), 1) := by decide +kernel
theorem dX0_neighbour_88 : decode cX0_neighbour 88 = .ok (.ireturn, 1) := by decide +kernel
theorem dX0_heapWith_0 : decode cX0_heapWith 0 = .ok (.iload_n 1, 1) := by decide +kernel
theorem dX0_heapWith_1 : decode cX0_heapWith 1 = .ok (.ifCond .lt 19, 3) := by decide +kernel
theorem dX0_heapWith_4 : decode cX0_heapWith 4 = .ok (.iload_n 1, 1) := by decide +kernel
theorem dX0_heapWith_5 : decode cX0_heapWith 5 = .ok (.sipush 256, 3) := by decide +kernel
theorem dX0_heapWith_8 : decode cX0_heapWith 8 = .ok (.if_icmp .ge 12, 3) := by decide +kernel
theorem dX0_heapWith_11 : decode cX0_heapWith 11 = .ok (.aload_n 0, 1) := by decide +kernel
theorem dX0_heapWith_12 : decode cX0_heapWith 12 = .ok (.getfield 21, 3) := by decide +kernel
theorem dX0_heapWith_15 : decode cX0_heapWith 15 = .ok (.iload_n 1, 1) := by decide +kernel
theorem dX0_heapWith_16 : decode cX0_heapWith 16 = .ok (.iaload, 1) := by decide +kernel
theorem dX0_heapWith_17 : decode cX0_heapWith 17 = .ok (.goto 4, 3) := by decide +kernel
theorem dX0_heapWith_20 : decode cX0_heapWith 20 = .ok (.iconst (-1), 1) := by decide +kernel
theorem dX0_heapWith_21 : decode cX0_heapWith 21 = .ok (.ireturn, 1) := by decide +kernel
theorem dX0_placeOf_0 : decode cX0_placeOf 0 = .ok (.iconst 0, 1) := by decide +kernel
theorem dX0_placeOf_1 : decode cX0_placeOf 1 = .ok (.istore_n 2, 1) := by decide +kernel
theorem dX0_placeOf_2 : decode cX0_placeOf 2 = .ok (.iconst 0, 1) := by decide +kernel
theorem dX0_placeOf_3 : decode cX0_placeOf 3 = .ok (.istore_n 3, 1) := by decide +kernel
theorem dX0_placeOf_4 : decode cX0_placeOf 4 = .ok (.iload_n 3, 1) := by decide +kernel
theorem dX0_placeOf_5 : decode cX0_placeOf 5 = .ok (.aload_n 0, 1) := by decide +kernel
theorem dX0_placeOf_6 : decode cX0_placeOf 6 = .ok (.getfield 27, 3) := by decide +kernel
theorem dX0_placeOf_9 : decode cX0_placeOf 9 = .ok (.if_icmp .ge 21, 3) := by decide +kernel
theorem dX0_placeOf_12 : decode cX0_placeOf 12 = .ok (.aload_n 0, 1) := by decide +kernel
theorem dX0_placeOf_13 : decode cX0_placeOf 13 = .ok (.iload_n 3, 1) := by decide +kernel
theorem dX0_placeOf_14 : decode cX0_placeOf 14 = .ok (.iload_n 1, 1) := by decide +kernel
theorem dX0_placeOf_15 : decode cX0_placeOf 15 = .ok (.invokevirtual 52, 3) := by decide +kernel
theorem dX0_placeOf_18 : decode cX0_placeOf 18 = .ok (.ifCond .eq 6, 3) := by decide +kernel
theorem dX0_placeOf_21 : decode cX0_placeOf 21 = .ok (.iinc 2 1, 3) := by decide +kernel
theorem dX0_placeOf_24 : decode cX0_placeOf 24 = .ok (.iinc 3 1, 3) := by decide +kernel
theorem dX0_placeOf_27 : decode cX0_placeOf 27 = .ok (.goto (-23), 3) := by decide +kernel
theorem dX0_placeOf_30 : decode cX0_placeOf 30 = .ok (.iload_n 2, 1) := by decide +kernel
theorem dX0_placeOf_31 : decode cX0_placeOf 31 = .ok (.ireturn, 1) := by decide +kernel
theorem dX0_heapAt_0 : decode cX0_heapAt 0 = .ok (.iconst 0, 1) := by decide +kernel
theorem dX0_heapAt_1 : decode cX0_heapAt 1 = .ok (.istore_n 2, 1) := by decide +kernel
theorem dX0_heapAt_2 : decode cX0_heapAt 2 = .ok (.iload_n 2, 1) := by decide +kernel
theorem dX0_heapAt_3 : decode cX0_heapAt 3 = .ok (.aload_n 0, 1) := by decide +kernel
theorem dX0_heapAt_4 : decode cX0_heapAt 4 = .ok (.getfield 27, 3) := by decide +kernel
theorem dX0_heapAt_7 : decode cX0_heapAt 7 = .ok (.if_icmp .ge 20, 3) := by decide +kernel
theorem dX0_heapAt_10 : decode cX0_heapAt 10 = .ok (.aload_n 0, 1) := by decide +kernel
theorem dX0_heapAt_11 : decode cX0_heapAt 11 = .ok (.iload_n 2, 1) := by decide +kernel
theorem dX0_heapAt_12 : decode cX0_heapAt 12 = .ok (.invokevirtual 56, 3) := by decide +kernel
theorem dX0_heapAt_15 : decode cX0_heapAt 15 = .ok (.iload_n 1, 1) := by decide +kernel
theorem dX0_heapAt_16 : decode cX0_heapAt 16 = .ok (.if_icmp .ne 5, 3) := by decide +kernel
theorem dX0_heapAt_19 : decode cX0_heapAt 19 = .ok (.iload_n 2, 1) := by decide +kernel
theorem dX0_heapAt_20 : decode cX0_heapAt 20 = .ok (.ireturn, 1) := by decide +kernel
theorem dX0_heapAt_21 : decode cX0_heapAt 21 = .ok (.iinc 2 1, 3) := by decide +kernel
theorem dX0_heapAt_24 : decode cX0_heapAt 24 = .ok (.goto (-22), 3) := by decide +kernel
theorem dX0_heapAt_27 : decode cX0_heapAt 27 = .ok (.iconst (-1), 1) := by decide +kernel
theorem dX0_heapAt_28 : decode cX0_heapAt 28 = .ok (.ireturn, 1) := by decide +kernel
theorem dX0_isGreatest_0 : decode cX0_isGreatest 0 = .ok (.iconst 0, 1) := by decide +kernel
theorem dX0_isGreatest_1 : decode cX0_isGreatest 1 = .ok (.istore_n 2, 1) := by decide +kernel
theorem dX0_isGreatest_2 : decode cX0_isGreatest 2 = .ok (.iload_n 2, 1) := by decide +kernel
theorem dX0_isGreatest_3 : decode cX0_isGreatest 3 = .ok (.aload_n 0, 1) := by decide +kernel
theorem dX0_isGreatest_4 : decode cX0_isGreatest 4 = .ok (.getfield 27, 3) := by decide +kernel
theorem dX0_isGreatest_7 : decode cX0_isGreatest 7 = .ok (.if_icmp .ge 20, 3) := by decide +kernel
theorem dX0_isGreatest_10 : decode cX0_isGreatest 10 = .ok (.aload_n 0, 1) := by decide +kernel
theorem dX0_isGreatest_11 : decode cX0_isGreatest 11 = .ok (.iload_n 2, 1) := by decide +kernel
theorem dX0_isGreatest_12 : decode cX0_isGreatest 12 = .ok (.iload_n 1, 1) := by decide +kernel
theorem dX0_isGreatest_13 : decode cX0_isGreatest 13 = .ok (.invokevirtual 52, 3) := by decide +kernel
theorem dX0_isGreatest_16 : decode cX0_isGreatest 16 = .ok (.ifCond .eq 5, 3) := by decide +kernel
theorem dX0_isGreatest_19 : decode cX0_isGreatest 19 = .ok (.iconst 0, 1) := by decide +kernel
theorem dX0_isGreatest_20 : decode cX0_isGreatest 20 = .ok (.ireturn, 1) := by decide +kernel
theorem dX0_isGreatest_21 : decode cX0_isGreatest 21 = .ok (.iinc 2 1, 3) := by decide +kernel
theorem dX0_isGreatest_24 : decode cX0_isGreatest 24 = .ok (.goto (-22), 3) := by decide +kernel
theorem dX0_isGreatest_27 : decode cX0_isGreatest 27 = .ok (.iload_n 1, 1) := by decide +kernel
theorem dX0_isGreatest_28 : decode cX0_isGreatest 28 = .ok (.ifCond .lt 7, 3) := by decide +kernel
theorem dX0_isGreatest_31 : decode cX0_isGreatest 31 = .ok (.iconst 1, 1) := by decide +kernel
theorem dX0_isGreatest_32 : decode cX0_isGreatest 32 = .ok (.goto 4, 3) := by decide +kernel
theorem dX0_isGreatest_35 : decode cX0_isGreatest 35 = .ok (.iconst 0, 1) := by decide +kernel
theorem dX0_isGreatest_36 : decode cX0_isGreatest 36 = .ok (.ireturn, 1) := by decide +kernel
theorem dX0_mostChips_0 : decode cX0_mostChips 0 = .ok (.iconst 0, 1) := by decide +kernel
theorem dX0_mostChips_1 : decode cX0_mostChips 1 = .ok (.istore_n 3, 1) := by decide +kernel
theorem dX0_mostChips_2 : decode cX0_mostChips 2 = .ok (.iconst 0, 1) := by decide +kernel
theorem dX0_mostChips_3 : decode cX0_mostChips 3 = .ok (.istore 4, 2) := by decide +kernel
theorem dX0_mostChips_5 : decode cX0_mostChips 5 = .ok (.iload 4, 2) := by decide +kernel
theorem dX0_mostChips_7 : decode cX0_mostChips 7 = .ok (.sipush 256, 3) := by decide +kernel
theorem dX0_mostChips_10 : decode cX0_mostChips 10 = .ok (.if_icmp .ge 36, 3) := by decide +kernel
theorem dX0_mostChips_13 : decode cX0_mostChips 13 = .ok (.iload 4, 2) := by decide +kernel
theorem dX0_mostChips_15 : decode cX0_mostChips 15 = .ok (.aload_n 1, 1) := by decide +kernel
theorem dX0_mostChips_16 : decode cX0_mostChips 16 = .ok (.arraylength, 1) := by decide +kernel
theorem dX0_mostChips_17 : decode cX0_mostChips 17 = .ok (.if_icmp .ge 29, 3) := by decide +kernel
theorem dX0_mostChips_20 : decode cX0_mostChips 20 = .ok (.aload_n 0, 1) := by decide +kernel
theorem dX0_mostChips_21 : decode cX0_mostChips 21 = .ok (.getfield 21, 3) := by decide +kernel
theorem dX0_mostChips_24 : decode cX0_mostChips 24 = .ok (.iload 4, 2) := by decide +kernel
theorem dX0_mostChips_26 : decode cX0_mostChips 26 = .ok (.iaload, 1) := by decide +kernel
theorem dX0_mostChips_27 : decode cX0_mostChips 27 = .ok (.iload_n 2, 1) := by decide +kernel
theorem dX0_mostChips_28 : decode cX0_mostChips 28 = .ok (.if_icmp .ne 12, 3) := by decide +kernel
theorem dX0_mostChips_31 : decode cX0_mostChips 31 = .ok (.iload_n 3, 1) := by decide +kernel
theorem dX0_mostChips_32 : decode cX0_mostChips 32 = .ok (.aload_n 1, 1) := by decide +kernel
theorem dX0_mostChips_33 : decode cX0_mostChips 33 = .ok (.iload 4, 2) := by decide +kernel
theorem dX0_mostChips_35 : decode cX0_mostChips 35 = .ok (.iaload, 1) := by decide +kernel
theorem dX0_mostChips_36 : decode cX0_mostChips 36 = .ok (.invokestatic 60, 3) := by decide +kernel
theorem dX0_mostChips_39 : decode cX0_mostChips 39 = .ok (.istore_n 3, 1) := by decide +kernel
theorem dX0_mostChips_40 : decode cX0_mostChips 40 = .ok (.iinc 4 1, 3) := by decide +kernel
theorem dX0_mostChips_43 : decode cX0_mostChips 43 = .ok (.goto (-38), 3) := by decide +kernel
theorem dX0_mostChips_46 : decode cX0_mostChips 46 = .ok (.iload_n 3, 1) := by decide +kernel
theorem dX0_mostChips_47 : decode cX0_mostChips 47 = .ok (.ireturn, 1) := by decide +kernel
theorem dX0_comesAhead_0 : decode cX0_comesAhead 0 = .ok (.iload_n 1, 1) := by decide +kernel
theorem dX0_comesAhead_1 : decode cX0_comesAhead 1 = .ok (.ifCond .lt 21, 3) := by decide +kernel
theorem dX0_comesAhead_4 : decode cX0_comesAhead 4 = .ok (.iload_n 1, 1) := by decide +kernel
theorem dX0_comesAhead_5 : decode cX0_comesAhead 5 = .ok (.sipush 128, 3) := by decide +kernel
theorem dX0_comesAhead_8 : decode cX0_comesAhead 8 = .ok (.if_icmp .ge 14, 3) := by decide +kernel
theorem dX0_comesAhead_11 : decode cX0_comesAhead 11 = .ok (.iload_n 2, 1) := by decide +kernel
theorem dX0_comesAhead_12 : decode cX0_comesAhead 12 = .ok (.ifCond .lt 10, 3) := by decide +kernel
theorem dX0_comesAhead_15 : decode cX0_comesAhead 15 = .ok (.iload_n 2, 1) := by decide +kernel
theorem dX0_comesAhead_16 : decode cX0_comesAhead 16 = .ok (.sipush 128, 3) := by decide +kernel
theorem dX0_comesAhead_19 : decode cX0_comesAhead 19 = .ok (.if_icmp .lt 5, 3) := by decide +kernel
theorem dX0_comesAhead_22 : decode cX0_comesAhead 22 = .ok (.iconst 0, 1) := by decide +kernel
theorem dX0_comesAhead_23 : decode cX0_comesAhead 23 = .ok (.ireturn, 1) := by decide +kernel
theorem dX0_comesAhead_24 : decode cX0_comesAhead 24 = .ok (.aload_n 0, 1) := by decide +kernel
theorem dX0_comesAhead_25 : decode cX0_comesAhead 25 = .ok (.getfield 9, 3) := by decide +kernel
theorem dX0_comesAhead_28 : decode cX0_comesAhead 28 = .ok (.iload_n 1, 1) := by decide +kernel
theorem dX0_comesAhead_29 : decode cX0_comesAhead 29 = .ok (.iaload, 1) := by decide +kernel
theorem dX0_comesAhead_30 : decode cX0_comesAhead 30 = .ok (.aload_n 0, 1) := by decide +kernel
theorem dX0_comesAhead_31 : decode cX0_comesAhead 31 = .ok (.getfield 9, 3) := by decide +kernel
theorem dX0_comesAhead_34 : decode cX0_comesAhead 34 = .ok (.iload_n 2, 1) := by decide +kernel
theorem dX0_comesAhead_35 : decode cX0_comesAhead 35 = .ok (.iaload, 1) := by decide +kernel
theorem dX0_comesAhead_36 : decode cX0_comesAhead 36 = .ok (.if_icmp .eq 24, 3) := by decide +kernel
theorem dX0_comesAhead_39 : decode cX0_comesAhead 39 = .ok (.aload_n 0, 1) := by decide +kernel
theorem dX0_comesAhead_40 : decode cX0_comesAhead 40 = .ok (.getfield 9, 3) := by decide +kernel
theorem dX0_comesAhead_43 : decode cX0_comesAhead 43 = .ok (.iload_n 1, 1) := by decide +kernel
theorem dX0_comesAhead_44 : decode cX0_comesAhead 44 = .ok (.iaload, 1) := by decide +kernel
theorem dX0_comesAhead_45 : decode cX0_comesAhead 45 = .ok (.aload_n 0, 1) := by decide +kernel
theorem dX0_comesAhead_46 : decode cX0_comesAhead 46 = .ok (.getfield 9, 3) := by decide +kernel
theorem dX0_comesAhead_49 : decode cX0_comesAhead 49 = .ok (.iload_n 2, 1) := by decide +kernel
theorem dX0_comesAhead_50 : decode cX0_comesAhead 50 = .ok (.iaload, 1) := by decide +kernel
theorem dX0_comesAhead_51 : decode cX0_comesAhead 51 = .ok (.if_icmp .le 7, 3) := by decide +kernel
theorem dX0_comesAhead_54 : decode cX0_comesAhead 54 = .ok (.iconst 1, 1) := by decide +kernel
theorem dX0_comesAhead_55 : decode cX0_comesAhead 55 = .ok (.goto 4, 3) := by decide +kernel
theorem dX0_comesAhead_58 : decode cX0_comesAhead 58 = .ok (.iconst 0, 1) := by decide +kernel
theorem dX0_comesAhead_59 : decode cX0_comesAhead 59 = .ok (.ireturn, 1) := by decide +kernel
theorem dX0_comesAhead_60 : decode cX0_comesAhead 60 = .ok (.aload_n 0, 1) := by decide +kernel
theorem dX0_comesAhead_61 : decode cX0_comesAhead 61 = .ok (.getfield 15, 3) := by decide +kernel
theorem dX0_comesAhead_64 : decode cX0_comesAhead 64 = .ok (.iload_n 1, 1) := by decide +kernel
theorem dX0_comesAhead_65 : decode cX0_comesAhead 65 = .ok (.iaload, 1) := by decide +kernel
theorem dX0_comesAhead_66 : decode cX0_comesAhead 66 = .ok (.aload_n 0, 1) := by decide +kernel
theorem dX0_comesAhead_67 : decode cX0_comesAhead 67 = .ok (.getfield 15, 3) := by decide +kernel
theorem dX0_comesAhead_70 : decode cX0_comesAhead 70 = .ok (.iload_n 2, 1) := by decide +kernel
theorem dX0_comesAhead_71 : decode cX0_comesAhead 71 = .ok (.iaload, 1) := by decide +kernel
theorem dX0_comesAhead_72 : decode cX0_comesAhead 72 = .ok (.if_icmp .eq 24, 3) := by decide +kernel
theorem dX0_comesAhead_75 : decode cX0_comesAhead 75 = .ok (.aload_n 0, 1) := by decide +kernel
theorem dX0_comesAhead_76 : decode cX0_comesAhead 76 = .ok (.getfield 15, 3) := by decide +kernel
theorem dX0_comesAhead_79 : decode cX0_comesAhead 79 = .ok (.iload_n 1, 1) := by decide +kernel
theorem dX0_comesAhead_80 : decode cX0_comesAhead 80 = .ok (.iaload, 1) := by decide +kernel
theorem dX0_comesAhead_81 : decode cX0_comesAhead 81 = .ok (.aload_n 0, 1) := by decide +kernel
theorem dX0_comesAhead_82 : decode cX0_comesAhead 82 = .ok (.getfield 15, 3) := by decide +kernel
theorem dX0_comesAhead_85 : decode cX0_comesAhead 85 = .ok (.iload_n 2, 1) := by decide +kernel
theorem dX0_comesAhead_86 : decode cX0_comesAhead 86 = .ok (.iaload, 1) := by decide +kernel
theorem dX0_comesAhead_87 : decode cX0_comesAhead 87 = .ok (.if_icmp .ge 7, 3) := by decide +kernel
theorem dX0_comesAhead_90 : decode cX0_comesAhead 90 = .ok (.iconst 1, 1) := by decide +kernel
theorem dX0_comesAhead_91 : decode cX0_comesAhead 91 = .ok (.goto 4, 3) := by decide +kernel
theorem dX0_comesAhead_94 : decode cX0_comesAhead 94 = .ok (.iconst 0, 1) := by decide +kernel
theorem dX0_comesAhead_95 : decode cX0_comesAhead 95 = .ok (.ireturn, 1) := by decide +kernel
theorem dX0_comesAhead_96 : decode cX0_comesAhead 96 = .ok (.iload_n 1, 1) := by decide +kernel
theorem dX0_comesAhead_97 : decode cX0_comesAhead 97 = .ok (.iload_n 2, 1) := by decide +kernel
theorem dX0_comesAhead_98 : decode cX0_comesAhead 98 = .ok (.if_icmp .ge 7, 3) := by decide +kernel
theorem dX0_comesAhead_101 : decode cX0_comesAhead 101 = .ok (.iconst 1, 1) := by decide +kernel
theorem dX0_comesAhead_102 : decode cX0_comesAhead 102 = .ok (.goto 4, 3) := by decide +kernel
theorem dX0_comesAhead_105 : decode cX0_comesAhead 105 = .ok (.iconst 0, 1) := by decide +kernel
theorem dX0_comesAhead_106 : decode cX0_comesAhead 106 = .ok (.ireturn, 1) := by decide +kernel
theorem dX1_init_0 : decode cX1_init 0 = .ok (.aload_n 0, 1) := by decide +kernel
theorem dX1_init_1 : decode cX1_init 1 = .ok (.invokespecial 3, 3) := by decide +kernel
theorem dX1_init_4 : decode cX1_init 4 = .ok (.aload_n 0, 1) := by decide +kernel
theorem dX1_init_5 : decode cX1_init 5 = .ok (.iconst 5, 1) := by decide +kernel
theorem dX1_init_6 : decode cX1_init 6 = .ok (.anewarray 9, 3) := by decide +kernel
theorem dX1_init_9 : decode cX1_init 9 = .ok (.putfield 11, 3) := by decide +kernel
theorem dX1_init_12 : decode cX1_init 12 = .ok (.aload_n 0, 1) := by decide +kernel
theorem dX1_init_13 : decode cX1_init 13 = .ok (.iconst 0, 1) := by decide +kernel
theorem dX1_init_14 : decode cX1_init 14 = .ok (.putfield 17, 3) := by decide +kernel
theorem dX1_init_17 : decode cX1_init 17 = .ok (.iconst 0, 1) := by decide +kernel
theorem dX1_init_18 : decode cX1_init 18 = .ok (.istore_n 1, 1) := by decide +kernel
theorem dX1_init_19 : decode cX1_init 19 = .ok (.iload_n 1, 1) := by decide +kernel
theorem dX1_init_20 : decode cX1_init 20 = .ok (.iconst 5, 1) := by decide +kernel
theorem dX1_init_21 : decode cX1_init 21 = .ok (.if_icmp .ge 22, 3) := by decide +kernel
theorem dX1_init_24 : decode cX1_init 24 = .ok (.aload_n 0, 1) := by decide +kernel
theorem dX1_init_25 : decode cX1_init 25 = .ok (.getfield 11, 3) := by decide +kernel
theorem dX1_init_28 : decode cX1_init 28 = .ok (.iload_n 1, 1) := by decide +kernel
theorem dX1_init_29 : decode cX1_init 29 = .ok (.new 9, 3) := by decide +kernel
theorem dX1_init_32 : decode cX1_init 32 = .ok (.dup, 1) := by decide +kernel
theorem dX1_init_33 : decode cX1_init 33 = .ok (.invokespecial 21, 3) := by decide +kernel
theorem dX1_init_36 : decode cX1_init 36 = .ok (.aastore, 1) := by decide +kernel
theorem dX1_init_37 : decode cX1_init 37 = .ok (.iinc 1 1, 3) := by decide +kernel
theorem dX1_init_40 : decode cX1_init 40 = .ok (.goto (-21), 3) := by decide +kernel
theorem dX1_init_43 : decode cX1_init 43 = .ok (.return_, 1) := by decide +kernel
theorem dX1_record_0 : decode cX1_record 0 = .ok (.aload_n 0, 1) := by decide +kernel
theorem dX1_record_1 : decode cX1_record 1 = .ok (.getfield 17, 3) := by decide +kernel
theorem dX1_record_4 : decode cX1_record 4 = .ok (.iconst 5, 1) := by decide +kernel
theorem dX1_record_5 : decode cX1_record 5 = .ok (.if_icmp .lt 7, 3) := by decide +kernel
theorem dX1_record_8 : decode cX1_record 8 = .ok (.aload_n 0, 1) := by decide +kernel
theorem dX1_record_9 : decode cX1_record 9 = .ok (.invokevirtual 22, 3) := by decide +kernel
theorem dX1_record_12 : decode cX1_record 12 = .ok (.aload_n 0, 1) := by decide +kernel
theorem dX1_record_13 : decode cX1_record 13 = .ok (.aload_n 0, 1) := by decide +kernel
theorem dX1_record_14 : decode cX1_record 14 = .ok (.getfield 17, 3) := by decide +kernel
theorem dX1_record_17 : decode cX1_record 17 = .ok (.invokevirtual 25, 3) := by decide +kernel
theorem dX1_record_20 : decode cX1_record 20 = .ok (.astore_n 2, 1) := by decide +kernel
theorem dX1_record_21 : decode cX1_record 21 = .ok (.aload_n 2, 1) := by decide +kernel
theorem dX1_record_22 : decode cX1_record 22 = .ok (.ifnull 18, 3) := by decide +kernel
theorem dX1_record_25 : decode cX1_record 25 = .ok (.aload_n 2, 1) := by decide +kernel
theorem dX1_record_26 : decode cX1_record 26 = .ok (.aload_n 1, 1) := by decide +kernel
theorem dX1_record_27 : decode cX1_record 27 = .ok (.invokevirtual 29, 3) := by decide +kernel
theorem dX1_record_30 : decode cX1_record 30 = .ok (.aload_n 0, 1) := by decide +kernel
theorem dX1_record_31 : decode cX1_record 31 = .ok (.dup, 1) := by decide +kernel
theorem dX1_record_32 : decode cX1_record 32 = .ok (.getfield 17, 3) := by decide +kernel
theorem dX1_record_35 : decode cX1_record 35 = .ok (.iconst 1, 1) := by decide +kernel
theorem dX1_record_36 : decode cX1_record 36 = .ok (.iadd, 1) := by decide +kernel
theorem dX1_record_37 : decode cX1_record 37 = .ok (.putfield 17, 3) := by decide +kernel
theorem dX1_record_40 : decode cX1_record 40 = .ok (.return_, 1) := by decide +kernel
theorem dX1_takeLatest_0 : decode cX1_takeLatest 0 = .ok (.aload_n 0, 1) := by decide +kernel
theorem dX1_takeLatest_1 : decode cX1_takeLatest 1 = .ok (.aload_n 0, 1) := by decide +kernel
theorem dX1_takeLatest_2 : decode cX1_takeLatest 2 = .ok (.getfield 17, 3) := by decide +kernel
theorem dX1_takeLatest_5 : decode cX1_takeLatest 5 = .ok (.iconst 1, 1) := by decide +kernel
theorem dX1_takeLatest_6 : decode cX1_takeLatest 6 = .ok (.isub, 1) := by decide +kernel
theorem dX1_takeLatest_7 : decode cX1_takeLatest 7 = .ok (.invokevirtual 25, 3) := by decide +kernel
theorem dX1_takeLatest_10 : decode cX1_takeLatest 10 = .ok (.astore_n 1, 1) := by decide +kernel
theorem dX1_takeLatest_11 : decode cX1_takeLatest 11 = .ok (.aload_n 1, 1) := by decide +kernel
theorem dX1_takeLatest_12 : decode cX1_takeLatest 12 = .ok (.ifnull 13, 3) := by decide +kernel
theorem dX1_takeLatest_15 : decode cX1_takeLatest 15 = .ok (.aload_n 0, 1) := by decide +kernel
theorem dX1_takeLatest_16 : decode cX1_takeLatest 16 = .ok (.dup, 1) := by decide +kernel
theorem dX1_takeLatest_17 : decode cX1_takeLatest 17 = .ok (.getfield 17, 3) := by decide +kernel
theorem dX1_takeLatest_20 : decode cX1_takeLatest 20 = .ok (.iconst 1, 1) := by decide +kernel
theorem dX1_takeLatest_21 : decode cX1_takeLatest 21 = .ok (.isub, 1) := by decide +kernel
theorem dX1_takeLatest_22 : decode cX1_takeLatest 22 = .ok (.putfield 17, 3) := by decide +kernel
theorem dX1_takeLatest_25 : decode cX1_takeLatest 25 = .ok (.aload_n 1, 1) := by decide +kernel
theorem dX1_takeLatest_26 : decode cX1_takeLatest 26 = .ok (.areturn, 1) := by decide +kernel
theorem dX1_dropOldest_0 : decode cX1_dropOldest 0 = .ok (.aload_n 0, 1) := by decide +kernel
theorem dX1_dropOldest_1 : decode cX1_dropOldest 1 = .ok (.getfield 11, 3) := by decide +kernel
theorem dX1_dropOldest_4 : decode cX1_dropOldest 4 = .ok (.iconst 0, 1) := by decide +kernel
theorem dX1_dropOldest_5 : decode cX1_dropOldest 5 = .ok (.aaload, 1) := by decide +kernel
theorem dX1_dropOldest_6 : decode cX1_dropOldest 6 = .ok (.astore_n 1, 1) := by decide +kernel
theorem dX1_dropOldest_7 : decode cX1_dropOldest 7 = .ok (.iconst 1, 1) := by decide +kernel
theorem dX1_dropOldest_8 : decode cX1_dropOldest 8 = .ok (.istore_n 2, 1) := by decide +kernel
theorem dX1_dropOldest_9 : decode cX1_dropOldest 9 = .ok (.iload_n 2, 1) := by decide +kernel
theorem dX1_dropOldest_10 : decode cX1_dropOldest 10 = .ok (.iconst 5, 1) := by decide +kernel
theorem dX1_dropOldest_11 : decode cX1_dropOldest 11 = .ok (.if_icmp .ge 23, 3) := by decide +kernel
theorem dX1_dropOldest_14 : decode cX1_dropOldest 14 = .ok (.aload_n 0, 1) := by decide +kernel
theorem dX1_dropOldest_15 : decode cX1_dropOldest 15 = .ok (.getfield 11, 3) := by decide +kernel
theorem dX1_dropOldest_18 : decode cX1_dropOldest 18 = .ok (.iload_n 2, 1) := by decide +kernel
theorem dX1_dropOldest_19 : decode cX1_dropOldest 19 = .ok (.iconst 1, 1) := by decide +kernel
theorem dX1_dropOldest_20 : decode cX1_dropOldest 20 = .ok (.isub, 1) := by decide +kernel
theorem dX1_dropOldest_21 : decode cX1_dropOldest 21 = .ok (.aload_n 0, 1) := by decide +kernel
theorem dX1_dropOldest_22 : decode cX1_dropOldest 22 = .ok (.getfield 11, 3) := by decide +kernel
theorem dX1_dropOldest_25 : decode cX1_dropOldest 25 = .ok (.iload_n 2, 1) := by decide +kernel
theorem dX1_dropOldest_26 : decode cX1_dropOldest 26 = .ok (.aaload, 1) := by decide +kernel
theorem dX1_dropOldest_27 : decode cX1_dropOldest 27 = .ok (.aastore, 1) := by decide +kernel
theorem dX1_dropOldest_28 : decode cX1_dropOldest 28 = .ok (.iinc 2 1, 3) := by decide +kernel
theorem dX1_dropOldest_31 : decode cX1_dropOldest 31 = .ok (.goto (-22), 3) := by decide +kernel
theorem dX1_dropOldest_34 : decode cX1_dropOldest 34 = .ok (.aload_n 0, 1) := by decide +kernel
theorem dX1_dropOldest_35 : decode cX1_dropOldest 35 = .ok (.getfield 11, 3) := by decide +kernel
theorem dX1_dropOldest_38 : decode cX1_dropOldest 38 = .ok (.iconst 4, 1) := by decide +kernel
theorem dX1_dropOldest_39 : decode cX1_dropOldest 39 = .ok (.aload_n 1, 1) := by decide +kernel
theorem dX1_dropOldest_40 : decode cX1_dropOldest 40 = .ok (.aastore, 1) := by decide +kernel
theorem dX1_dropOldest_41 : decode cX1_dropOldest 41 = .ok (.aload_n 0, 1) := by decide +kernel
theorem dX1_dropOldest_42 : decode cX1_dropOldest 42 = .ok (.iconst 4, 1) := by decide +kernel
theorem dX1_dropOldest_43 : decode cX1_dropOldest 43 = .ok (.putfield 17, 3) := by decide +kernel
theorem dX1_dropOldest_46 : decode cX1_dropOldest 46 = .ok (.return_, 1) := by decide +kernel
theorem dX1_stateAt_0 : decode cX1_stateAt 0 = .ok (.iload_n 1, 1) := by decide +kernel
theorem dX1_stateAt_1 : decode cX1_stateAt 1 = .ok (.ifCond .lt 12, 3) := by decide +kernel
theorem dX1_stateAt_4 : decode cX1_stateAt 4 = .ok (.iload_n 1, 1) := by decide +kernel
theorem dX1_stateAt_5 : decode cX1_stateAt 5 = .ok (.aload_n 0, 1) := by decide +kernel
theorem dX1_stateAt_6 : decode cX1_stateAt 6 = .ok (.getfield 11, 3) := by decide +kernel
theorem dX1_stateAt_9 : decode cX1_stateAt 9 = .ok (.arraylength, 1) := by decide +kernel
theorem dX1_stateAt_10 : decode cX1_stateAt 10 = .ok (.if_icmp .lt 5, 3) := by decide +kernel
theorem dX1_stateAt_13 : decode cX1_stateAt 13 = .ok (.aconst_null, 1) := by decide +kernel
theorem dX1_stateAt_14 : decode cX1_stateAt 14 = .ok (.areturn, 1) := by decide +kernel
theorem dX1_stateAt_15 : decode cX1_stateAt 15 = .ok (.aload_n 0, 1) := by decide +kernel
theorem dX1_stateAt_16 : decode cX1_stateAt 16 = .ok (.getfield 11, 3) := by decide +kernel
theorem dX1_stateAt_19 : decode cX1_stateAt 19 = .ok (.iload_n 1, 1) := by decide +kernel
theorem dX1_stateAt_20 : decode cX1_stateAt 20 = .ok (.aaload, 1) := by decide +kernel
theorem dX1_stateAt_21 : decode cX1_stateAt 21 = .ok (.areturn, 1) := by decide +kernel
theorem dX2_init_0 : decode cX2_init 0 = .ok (.aload_n 0, 1) := by decide +kernel
theorem dX2_init_1 : decode cX2_init 1 = .ok (.invokespecial 3, 3) := by decide +kernel
theorem dX2_init_4 : decode cX2_init 4 = .ok (.aload_n 0, 1) := by decide +kernel
theorem dX2_init_5 : decode cX2_init 5 = .ok (.bipush 40, 2) := by decide +kernel
theorem dX2_init_7 : decode cX2_init 7 = .ok (.newarray .char, 2) := by decide +kernel
theorem dX2_init_9 : decode cX2_init 9 = .ok (.putfield 9, 3) := by decide +kernel
theorem dX2_init_12 : decode cX2_init 12 = .ok (.aload_n 0, 1) := by decide +kernel
theorem dX2_init_13 : decode cX2_init 13 = .ok (.iconst 0, 1) := by decide +kernel
theorem dX2_init_14 : decode cX2_init 14 = .ok (.putfield 15, 3) := by decide +kernel
theorem dX2_init_17 : decode cX2_init 17 = .ok (.aload_n 0, 1) := by decide +kernel
theorem dX2_init_18 : decode cX2_init 18 = .ok (.bipush 40, 2) := by decide +kernel
theorem dX2_init_20 : decode cX2_init 20 = .ok (.newarray .char, 2) := by decide +kernel
theorem dX2_init_22 : decode cX2_init 22 = .ok (.putfield 19, 3) := by decide +kernel
theorem dX2_init_25 : decode cX2_init 25 = .ok (.aload_n 0, 1) := by decide +kernel
theorem dX2_init_26 : decode cX2_init 26 = .ok (.bipush 40, 2) := by decide +kernel
theorem dX2_init_28 : decode cX2_init 28 = .ok (.newarray .int, 2) := by decide +kernel
theorem dX2_init_30 : decode cX2_init 30 = .ok (.putfield 22, 3) := by decide +kernel
theorem dX2_init_33 : decode cX2_init 33 = .ok (.aload_n 0, 1) := by decide +kernel
theorem dX2_init_34 : decode cX2_init 34 = .ok (.iconst 0, 1) := by decide +kernel
theorem dX2_init_35 : decode cX2_init 35 = .ok (.putfield 26, 3) := by decide +kernel
theorem dX2_init_38 : decode cX2_init 38 = .ok (.aload_n 0, 1) := by decide +kernel
theorem dX2_init_39 : decode cX2_init 39 = .ok (.iconst 0, 1) := by decide +kernel
theorem dX2_init_40 : decode cX2_init 40 = .ok (.putfield 29, 3) := by decide +kernel
theorem dX2_init_43 : decode cX2_init 43 = .ok (.return_, 1) := by decide +kernel
theorem dX2_append_0 : decode cX2_append 0 = .ok (.aload_n 0, 1) := by decide +kernel
theorem dX2_append_1 : decode cX2_append 1 = .ok (.getfield 15, 3) := by decide +kernel
theorem dX2_append_4 : decode cX2_append 4 = .ok (.ifCond .lt 15, 3) := by decide +kernel
theorem dX2_append_7 : decode cX2_append 7 = .ok (.aload_n 0, 1) := by decide +kernel
theorem dX2_append_8 : decode cX2_append 8 = .ok (.getfield 15, 3) := by decide +kernel
theorem dX2_append_11 : decode cX2_append 11 = .ok (.aload_n 0, 1) := by decide +kernel
theorem dX2_append_12 : decode cX2_append 12 = .ok (.getfield 9, 3) := by decide +kernel
theorem dX2_append_15 : decode cX2_append 15 = .ok (.arraylength, 1) := by decide +kernel
theorem dX2_append_16 : decode cX2_append 16 = .ok (.if_icmp .lt 5, 3) := by decide +kernel
theorem dX2_append_19 : decode cX2_append 19 = .ok (.iconst 0, 1) := by decide +kernel
theorem dX2_append_20 : decode cX2_append 20 = .ok (.ireturn, 1) := by decide +kernel
theorem dX2_append_21 : decode cX2_append 21 = .ok (.aload_n 0, 1) := by decide +kernel
theorem dX2_append_22 : decode cX2_append 22 = .ok (.getfield 9, 3) := by decide +kernel
theorem dX2_append_25 : decode cX2_append 25 = .ok (.aload_n 0, 1) := by decide +kernel
theorem dX2_append_26 : decode cX2_append 26 = .ok (.getfield 15, 3) := by decide +kernel
theorem dX2_append_29 : decode cX2_append 29 = .ok (.iload_n 1, 1) := by decide +kernel
theorem dX2_append_30 : decode cX2_append 30 = .ok (.castore, 1) := by decide +kernel
theorem dX2_append_31 : decode cX2_append 31 = .ok (.aload_n 0, 1) := by decide +kernel
theorem dX2_append_32 : decode cX2_append 32 = .ok (.dup, 1) := by decide +kernel
theorem dX2_append_33 : decode cX2_append 33 = .ok (.getfield 15, 3) := by decide +kernel
theorem dX2_append_36 : decode cX2_append 36 = .ok (.iconst 1, 1) := by decide +kernel
theorem dX2_append_37 : decode cX2_append 37 = .ok (.iadd, 1) := by decide +kernel
theorem dX2_append_38 : decode cX2_append 38 = .ok (.putfield 15, 3) := by decide +kernel
theorem dX2_append_41 : decode cX2_append 41 = .ok (.iconst 1, 1) := by decide +kernel
theorem dX2_append_42 : decode cX2_append 42 = .ok (.ireturn, 1) := by decide +kernel
theorem dX2_readOrders_0 : decode cX2_readOrders 0 = .ok (.aload_n 0, 1) := by decide +kernel
theorem dX2_readOrders_1 : decode cX2_readOrders 1 = .ok (.iconst 0, 1) := by decide +kernel
theorem dX2_readOrders_2 : decode cX2_readOrders 2 = .ok (.putfield 26, 3) := by decide +kernel
theorem dX2_readOrders_5 : decode cX2_readOrders 5 = .ok (.aload_n 0, 1) := by decide +kernel
theorem dX2_readOrders_6 : decode cX2_readOrders 6 = .ok (.iconst 0, 1) := by decide +kernel
theorem dX2_readOrders_7 : decode cX2_readOrders 7 = .ok (.putfield 29, 3) := by decide +kernel
theorem dX2_readOrders_10 : decode cX2_readOrders 10 = .ok (.iconst 0, 1) := by decide +kernel
theorem dX2_readOrders_11 : decode cX2_readOrders 11 = .ok (.istore_n 2, 1) := by decide +kernel
theorem dX2_readOrders_12 : decode cX2_readOrders 12 = .ok (.iload_n 2, 1) := by decide +kernel
theorem dX2_readOrders_13 : decode cX2_readOrders 13 = .ok (.aload_n 0, 1) := by decide +kernel
theorem dX2_readOrders_14 : decode cX2_readOrders 14 = .ok (.getfield 15, 3) := by decide +kernel
theorem dX2_readOrders_17 : decode cX2_readOrders 17 = .ok (.if_icmp .ge 34, 3) := by decide +kernel
theorem dX2_readOrders_20 : decode cX2_readOrders 20 = .ok (.iload_n 2, 1) := by decide +kernel
theorem dX2_readOrders_21 : decode cX2_readOrders 21 = .ok (.aload_n 0, 1) := by decide +kernel
theorem dX2_readOrders_22 : decode cX2_readOrders 22 = .ok (.getfield 9, 3) := by decide +kernel
theorem dX2_readOrders_25 : decode cX2_readOrders 25 = .ok (.arraylength, 1) := by decide +kernel
theorem dX2_readOrders_26 : decode cX2_readOrders 26 = .ok (.if_icmp .ge 25, 3) := by decide +kernel
theorem dX2_readOrders_29 : decode cX2_readOrders 29 = .ok (.aload_n 0, 1) := by decide +kernel
theorem dX2_readOrders_30 : decode cX2_readOrders 30 = .ok (.aload_n 0, 1) := by decide +kernel
theorem dX2_readOrders_31 : decode cX2_readOrders 31 = .ok (.getfield 9, 3) := by decide +kernel
theorem dX2_readOrders_34 : decode cX2_readOrders 34 = .ok (.iload_n 2, 1) := by decide +kernel
theorem dX2_readOrders_35 : decode cX2_readOrders 35 = .ok (.caload, 1) := by decide +kernel
theorem dX2_readOrders_36 : decode cX2_readOrders 36 = .ok (.iload_n 1, 1) := by decide +kernel
theorem dX2_readOrders_37 : decode cX2_readOrders 37 = .ok (.invokevirtual 33, 3) := by decide +kernel
theorem dX2_readOrders_40 : decode cX2_readOrders 40 = .ok (.ifCond .ne 5, 3) := by decide +kernel
theorem dX2_readOrders_43 : decode cX2_readOrders 43 = .ok (.iload_n 2, 1) := by decide +kernel
theorem dX2_readOrders_44 : decode cX2_readOrders 44 = .ok (.ireturn, 1) := by decide +kernel
theorem dX2_readOrders_45 : decode cX2_readOrders 45 = .ok (.iinc 2 1, 3) := by decide +kernel
theorem dX2_readOrders_48 : decode cX2_readOrders 48 = .ok (.goto (-36), 3) := by decide +kernel
theorem dX2_readOrders_51 : decode cX2_readOrders 51 = .ok (.aload_n 0, 1) := by decide +kernel
theorem dX2_readOrders_52 : decode cX2_readOrders 52 = .ok (.getfield 15, 3) := by decide +kernel
theorem dX2_readOrders_55 : decode cX2_readOrders 55 = .ok (.ifCond .eq 10, 3) := by decide +kernel
theorem dX2_readOrders_58 : decode cX2_readOrders 58 = .ok (.aload_n 0, 1) := by decide +kernel
theorem dX2_readOrders_59 : decode cX2_readOrders 59 = .ok (.getfield 29, 3) := by decide +kernel
theorem dX2_readOrders_62 : decode cX2_readOrders 62 = .ok (.ifCond .eq 10, 3) := by decide +kernel
theorem dX2_readOrders_65 : decode cX2_readOrders 65 = .ok (.aload_n 0, 1) := by decide +kernel
theorem dX2_readOrders_66 : decode cX2_readOrders 66 = .ok (.getfield 15, 3) := by decide +kernel
theorem dX2_readOrders_69 : decode cX2_readOrders 69 = .ok (.goto 4, 3) := by decide +kernel
theorem dX2_readOrders_72 : decode cX2_readOrders 72 = .ok (.iconst (-1), 1) := by decide +kernel
theorem dX2_readOrders_73 : decode cX2_readOrders 73 = .ok (.ireturn, 1) := by decide +kernel
theorem dX2_takes_0 : decode cX2_takes 0 = .ok (.iload_n 1, 1) := by decide +kernel
theorem dX2_takes_1 : decode cX2_takes 1 = .ok (.bipush 48, 2) := by decide +kernel
theorem dX2_takes_3 : decode cX2_takes 3 = .ok (.if_icmp .lt 13, 3) := by decide +kernel
theorem dX2_takes_6 : decode cX2_takes 6 = .ok (.iload_n 1, 1) := by decide +kernel
theorem dX2_takes_7 : decode cX2_takes 7 = .ok (.bipush 57, 2) := by decide +kernel
theorem dX2_takes_9 : decode cX2_takes 9 = .ok (.if_icmp .gt 7, 3) := by decide +kernel
theorem dX2_takes_12 : decode cX2_takes 12 = .ok (.iconst 1, 1) := by decide +kernel
theorem dX2_takes_13 : decode cX2_takes 13 = .ok (.goto 4, 3) := by decide +kernel
theorem dX2_takes_16 : decode cX2_takes 16 = .ok (.iconst 0, 1) := by decide +kernel
theorem dX2_takes_17 : decode cX2_takes 17 = .ok (.istore_n 3, 1) := by decide +kernel
theorem dX2_takes_18 : decode cX2_takes 18 = .ok (.aload_n 0, 1) := by decide +kernel
theorem dX2_takes_19 : decode cX2_takes 19 = .ok (.getfield 29, 3) := by decide +kernel
theorem dX2_takes_22 : decode cX2_takes 22 = .ok (.ifCond .eq 30, 3) := by decide +kernel
theorem dX2_takes_25 : decode cX2_takes 25 = .ok (.aload_n 0, 1) := by decide +kernel
theorem dX2_takes_26 : decode cX2_takes 26 = .ok (.iconst 0, 1) := by decide +kernel
theorem dX2_takes_27 : decode cX2_takes 27 = .ok (.putfield 29, 3) := by decide +kernel
theorem dX2_takes_30 : decode cX2_takes 30 = .ok (.iload_n 3, 1) := by decide +kernel
theorem dX2_takes_31 : decode cX2_takes 31 = .ok (.ifCond .eq 19, 3) := by decide +kernel
theorem dX2_takes_34 : decode cX2_takes 34 = .ok (.aload_n 0, 1) := by decide +kernel
theorem dX2_takes_35 : decode cX2_takes 35 = .ok (.iload_n 1, 1) := by decide +kernel
theorem dX2_takes_36 : decode cX2_takes 36 = .ok (.bipush 48, 2) := by decide +kernel
theorem dX2_takes_38 : decode cX2_takes 38 = .ok (.isub, 1) := by decide +kernel
theorem dX2_takes_39 : decode cX2_takes 39 = .ok (.iload_n 2, 1) := by decide +kernel
theorem dX2_takes_40 : decode cX2_takes 40 = .ok (.invokevirtual 37, 3) := by decide +kernel
theorem dX2_takes_43 : decode cX2_takes 43 = .ok (.ifCond .eq 7, 3) := by decide +kernel
theorem dX2_takes_46 : decode cX2_takes 46 = .ok (.iconst 1, 1) := by decide +kernel
theorem dX2_takes_47 : decode cX2_takes 47 = .ok (.goto 4, 3) := by decide +kernel
theorem dX2_takes_50 : decode cX2_takes 50 = .ok (.iconst 0, 1) := by decide +kernel
theorem dX2_takes_51 : decode cX2_takes 51 = .ok (.ireturn, 1) := by decide +kernel
theorem dX2_takes_52 : decode cX2_takes 52 = .ok (.iload_n 3, 1) := by decide +kernel
theorem dX2_takes_53 : decode cX2_takes 53 = .ok (.ifCond .eq 14, 3) := by decide +kernel
theorem dX2_takes_56 : decode cX2_takes 56 = .ok (.aload_n 0, 1) := by decide +kernel
theorem dX2_takes_57 : decode cX2_takes 57 = .ok (.iload_n 1, 1) := by decide +kernel
theorem dX2_takes_58 : decode cX2_takes 58 = .ok (.bipush 48, 2) := by decide +kernel
theorem dX2_takes_60 : decode cX2_takes 60 = .ok (.isub, 1) := by decide +kernel
theorem dX2_takes_61 : decode cX2_takes 61 = .ok (.invokevirtual 41, 3) := by decide +kernel
theorem dX2_takes_64 : decode cX2_takes 64 = .ok (.goto 9, 3) := by decide +kernel
theorem dX2_takes_67 : decode cX2_takes 67 = .ok (.aload_n 0, 1) := by decide +kernel
theorem dX2_takes_68 : decode cX2_takes 68 = .ok (.iload_n 1, 1) := by decide +kernel
theorem dX2_takes_69 : decode cX2_takes 69 = .ok (.iload_n 2, 1) := by decide +kernel
theorem dX2_takes_70 : decode cX2_takes 70 = .ok (.invokevirtual 45, 3) := by decide +kernel
theorem dX2_takes_73 : decode cX2_takes 73 = .ok (.ireturn, 1) := by decide +kernel
theorem dX2_takesWalker_0 : decode cX2_takesWalker 0 = .ok (.aload_n 0, 1) := by decide +kernel
theorem dX2_takesWalker_1 : decode cX2_takesWalker 1 = .ok (.getfield 26, 3) := by decide +kernel
theorem dX2_takesWalker_4 : decode cX2_takesWalker 4 = .ok (.iconst 1, 1) := by decide +kernel
theorem dX2_takesWalker_5 : decode cX2_takesWalker 5 = .ok (.isub, 1) := by decide +kernel
theorem dX2_takesWalker_6 : decode cX2_takesWalker 6 = .ok (.istore_n 3, 1) := by decide +kernel
theorem dX2_takesWalker_7 : decode cX2_takesWalker 7 = .ok (.iload_n 1, 1) := by decide +kernel
theorem dX2_takesWalker_8 : decode cX2_takesWalker 8 = .ok (.iload_n 2, 1) := by decide +kernel
theorem dX2_takesWalker_9 : decode cX2_takesWalker 9 = .ok (.if_icmp .ge 16, 3) := by decide +kernel
theorem dX2_takesWalker_12 : decode cX2_takesWalker 12 = .ok (.iload_n 3, 1) := by decide +kernel
theorem dX2_takesWalker_13 : decode cX2_takesWalker 13 = .ok (.ifCond .lt 12, 3) := by decide +kernel
theorem dX2_takesWalker_16 : decode cX2_takesWalker 16 = .ok (.iload_n 3, 1) := by decide +kernel
theorem dX2_takesWalker_17 : decode cX2_takesWalker 17 = .ok (.aload_n 0, 1) := by decide +kernel
theorem dX2_takesWalker_18 : decode cX2_takesWalker 18 = .ok (.getfield 22, 3) := by decide +kernel
theorem dX2_takesWalker_21 : decode cX2_takesWalker 21 = .ok (.arraylength, 1) := by decide +kernel
theorem dX2_takesWalker_22 : decode cX2_takesWalker 22 = .ok (.if_icmp .lt 5, 3) := by decide +kernel
theorem dX2_takesWalker_25 : decode cX2_takesWalker 25 = .ok (.iconst 0, 1) := by decide +kernel
theorem dX2_takesWalker_26 : decode cX2_takesWalker 26 = .ok (.ireturn, 1) := by decide +kernel
theorem dX2_takesWalker_27 : decode cX2_takesWalker 27 = .ok (.aload_n 0, 1) := by decide +kernel
theorem dX2_takesWalker_28 : decode cX2_takesWalker 28 = .ok (.getfield 22, 3) := by decide +kernel
theorem dX2_takesWalker_31 : decode cX2_takesWalker 31 = .ok (.iload_n 3, 1) := by decide +kernel
theorem dX2_takesWalker_32 : decode cX2_takesWalker 32 = .ok (.iload_n 1, 1) := by decide +kernel
theorem dX2_takesWalker_33 : decode cX2_takesWalker 33 = .ok (.iastore, 1) := by decide +kernel
theorem dX2_takesWalker_34 : decode cX2_takesWalker 34 = .ok (.iconst 1, 1) := by decide +kernel
theorem dX2_takesWalker_35 : decode cX2_takesWalker 35 = .ok (.ireturn, 1) := by decide +kernel
theorem dX2_takesDigit_0 : decode cX2_takesDigit 0 = .ok (.aload_n 0, 1) := by decide +kernel
theorem dX2_takesDigit_1 : decode cX2_takesDigit 1 = .ok (.getfield 26, 3) := by decide +kernel
theorem dX2_takesDigit_4 : decode cX2_takesDigit 4 = .ok (.iconst 1, 1) := by decide +kernel
theorem dX2_takesDigit_5 : decode cX2_takesDigit 5 = .ok (.isub, 1) := by decide +kernel
theorem dX2_takesDigit_6 : decode cX2_takesDigit 6 = .ok (.istore_n 2, 1) := by decide +kernel
theorem dX2_takesDigit_7 : decode cX2_takesDigit 7 = .ok (.iload_n 2, 1) := by decide +kernel
theorem dX2_takesDigit_8 : decode cX2_takesDigit 8 = .ok (.ifCond .lt 23, 3) := by decide +kernel
theorem dX2_takesDigit_11 : decode cX2_takesDigit 11 = .ok (.iload_n 2, 1) := by decide +kernel
theorem dX2_takesDigit_12 : decode cX2_takesDigit 12 = .ok (.aload_n 0, 1) := by decide +kernel
theorem dX2_takesDigit_13 : decode cX2_takesDigit 13 = .ok (.getfield 22, 3) := by decide +kernel
theorem dX2_takesDigit_16 : decode cX2_takesDigit 16 = .ok (.arraylength, 1) := by decide +kernel
theorem dX2_takesDigit_17 : decode cX2_takesDigit 17 = .ok (.if_icmp .ge 14, 3) := by decide +kernel
theorem dX2_takesDigit_20 : decode cX2_takesDigit 20 = .ok (.aload_n 0, 1) := by decide +kernel
theorem dX2_takesDigit_21 : decode cX2_takesDigit 21 = .ok (.getfield 19, 3) := by decide +kernel
theorem dX2_takesDigit_24 : decode cX2_takesDigit 24 = .ok (.iload_n 2, 1) := by decide +kernel
theorem dX2_takesDigit_25 : decode cX2_takesDigit 25 = .ok (.caload, 1) := by decide +kernel
theorem dX2_takesDigit_26 : decode cX2_takesDigit 26 = .ok (.bipush 35, 2) := by decide +kernel
theorem dX2_takesDigit_28 : decode cX2_takesDigit 28 = .ok (.if_icmp .ne 5, 3) := by decide +kernel
theorem dX2_takesDigit_31 : decode cX2_takesDigit 31 = .ok (.iconst 0, 1) := by decide +kernel
theorem dX2_takesDigit_32 : decode cX2_takesDigit 32 = .ok (.ireturn, 1) := by decide +kernel
theorem dX2_takesDigit_33 : decode cX2_takesDigit 33 = .ok (.aload_n 0, 1) := by decide +kernel
theorem dX2_takesDigit_34 : decode cX2_takesDigit 34 = .ok (.getfield 22, 3) := by decide +kernel
theorem dX2_takesDigit_37 : decode cX2_takesDigit 37 = .ok (.iload_n 2, 1) := by decide +kernel
theorem dX2_takesDigit_38 : decode cX2_takesDigit 38 = .ok (.iaload, 1) := by decide +kernel
theorem dX2_takesDigit_39 : decode cX2_takesDigit 39 = .ok (.bipush 10, 2) := by decide +kernel
theorem dX2_takesDigit_41 : decode cX2_takesDigit 41 = .ok (.imul, 1) := by decide +kernel
theorem dX2_takesDigit_42 : decode cX2_takesDigit 42 = .ok (.iload_n 1, 1) := by decide +kernel
theorem dX2_takesDigit_43 : decode cX2_takesDigit 43 = .ok (.iadd, 1) := by decide +kernel
theorem dX2_takesDigit_44 : decode cX2_takesDigit 44 = .ok (.istore_n 3, 1) := by decide +kernel
theorem dX2_takesDigit_45 : decode cX2_takesDigit 45 = .ok (.iload_n 3, 1) := by decide +kernel
theorem dX2_takesDigit_46 : decode cX2_takesDigit 46 = .ok (.iconst 1, 1) := by decide +kernel
theorem dX2_takesDigit_47 : decode cX2_takesDigit 47 = .ok (.bipush 50, 2) := by decide +kernel
theorem dX2_takesDigit_49 : decode cX2_takesDigit 49 = .ok (.invokestatic 48, 3) := by decide +kernel
theorem dX2_takesDigit_52 : decode cX2_takesDigit 52 = .ok (.ifCond .ne 5, 3) := by decide +kernel
theorem dX2_takesDigit_55 : decode cX2_takesDigit 55 = .ok (.iconst 0, 1) := by decide +kernel
theorem dX2_takesDigit_56 : decode cX2_takesDigit 56 = .ok (.ireturn, 1) := by decide +kernel
theorem dX2_takesDigit_57 : decode cX2_takesDigit 57 = .ok (.aload_n 0, 1) := by decide +kernel
theorem dX2_takesDigit_58 : decode cX2_takesDigit 58 = .ok (.getfield 22, 3) := by decide +kernel
theorem dX2_takesDigit_61 : decode cX2_takesDigit 61 = .ok (.iload_n 2, 1) := by decide +kernel
theorem dX2_takesDigit_62 : decode cX2_takesDigit 62 = .ok (.iload_n 3, 1) := by decide +kernel
theorem dX2_takesDigit_63 : decode cX2_takesDigit 63 = .ok (.iastore, 1) := by decide +kernel
theorem dX2_takesDigit_64 : decode cX2_takesDigit 64 = .ok (.iconst 1, 1) := by decide +kernel
theorem dX2_takesDigit_65 : decode cX2_takesDigit 65 = .ok (.ireturn, 1) := by decide +kernel
theorem dX2_takesLetter_0 : decode cX2_takesLetter 0 = .ok (.iload_n 1, 1) := by decide +kernel
theorem dX2_takesLetter_1 : decode cX2_takesLetter 1 = .ok (.iload_n 2, 1) := by decide +kernel
theorem dX2_takesLetter_2 : decode cX2_takesLetter 2 = .ok (.invokestatic 52, 3) := by decide +kernel
theorem dX2_takesLetter_5 : decode cX2_takesLetter 5 = .ok (.ifCond .eq 22, 3) := by decide +kernel
theorem dX2_takesLetter_8 : decode cX2_takesLetter 8 = .ok (.aload_n 0, 1) := by decide +kernel
theorem dX2_takesLetter_9 : decode cX2_takesLetter 9 = .ok (.getfield 26, 3) := by decide +kernel
theorem dX2_takesLetter_12 : decode cX2_takesLetter 12 = .ok (.ifCond .lt 15, 3) := by decide +kernel
theorem dX2_takesLetter_15 : decode cX2_takesLetter 15 = .ok (.aload_n 0, 1) := by decide +kernel
theorem dX2_takesLetter_16 : decode cX2_takesLetter 16 = .ok (.getfield 26, 3) := by decide +kernel
theorem dX2_takesLetter_19 : decode cX2_takesLetter 19 = .ok (.aload_n 0, 1) := by decide +kernel
theorem dX2_takesLetter_20 : decode cX2_takesLetter 20 = .ok (.getfield 19, 3) := by decide +kernel
theorem dX2_takesLetter_23 : decode cX2_takesLetter 23 = .ok (.arraylength, 1) := by decide +kernel
theorem dX2_takesLetter_24 : decode cX2_takesLetter 24 = .ok (.if_icmp .lt 5, 3) := by decide +kernel
theorem dX2_takesLetter_27 : decode cX2_takesLetter 27 = .ok (.iconst 0, 1) := by decide +kernel
theorem dX2_takesLetter_28 : decode cX2_takesLetter 28 = .ok (.ireturn, 1) := by decide +kernel
theorem dX2_takesLetter_29 : decode cX2_takesLetter 29 = .ok (.aload_n 0, 1) := by decide +kernel
theorem dX2_takesLetter_30 : decode cX2_takesLetter 30 = .ok (.getfield 19, 3) := by decide +kernel
theorem dX2_takesLetter_33 : decode cX2_takesLetter 33 = .ok (.aload_n 0, 1) := by decide +kernel
theorem dX2_takesLetter_34 : decode cX2_takesLetter 34 = .ok (.getfield 26, 3) := by decide +kernel
theorem dX2_takesLetter_37 : decode cX2_takesLetter 37 = .ok (.iload_n 1, 1) := by decide +kernel
theorem dX2_takesLetter_38 : decode cX2_takesLetter 38 = .ok (.castore, 1) := by decide +kernel
theorem dX2_takesLetter_39 : decode cX2_takesLetter 39 = .ok (.aload_n 0, 1) := by decide +kernel
theorem dX2_takesLetter_40 : decode cX2_takesLetter 40 = .ok (.getfield 22, 3) := by decide +kernel
theorem dX2_takesLetter_43 : decode cX2_takesLetter 43 = .ok (.aload_n 0, 1) := by decide +kernel
theorem dX2_takesLetter_44 : decode cX2_takesLetter 44 = .ok (.getfield 26, 3) := by decide +kernel
theorem dX2_takesLetter_47 : decode cX2_takesLetter 47 = .ok (.iconst 0, 1) := by decide +kernel
theorem dX2_takesLetter_48 : decode cX2_takesLetter 48 = .ok (.iastore, 1) := by decide +kernel
theorem dX2_takesLetter_49 : decode cX2_takesLetter 49 = .ok (.aload_n 0, 1) := by decide +kernel
theorem dX2_takesLetter_50 : decode cX2_takesLetter 50 = .ok (.dup, 1) := by decide +kernel
theorem dX2_takesLetter_51 : decode cX2_takesLetter 51 = .ok (.getfield 26, 3) := by decide +kernel
theorem dX2_takesLetter_54 : decode cX2_takesLetter 54 = .ok (.iconst 1, 1) := by decide +kernel
theorem dX2_takesLetter_55 : decode cX2_takesLetter 55 = .ok (.iadd, 1) := by decide +kernel
theorem dX2_takesLetter_56 : decode cX2_takesLetter 56 = .ok (.putfield 26, 3) := by decide +kernel
theorem dX2_takesLetter_59 : decode cX2_takesLetter 59 = .ok (.aload_n 0, 1) := by decide +kernel
theorem dX2_takesLetter_60 : decode cX2_takesLetter 60 = .ok (.iload_n 1, 1) := by decide +kernel
theorem dX2_takesLetter_61 : decode cX2_takesLetter 61 = .ok (.bipush 35, 2) := by decide +kernel
theorem dX2_takesLetter_63 : decode cX2_takesLetter 63 = .ok (.if_icmp .ne 7, 3) := by decide +kernel
theorem dX2_takesLetter_66 : decode cX2_takesLetter 66 = .ok (.iconst 1, 1) := by decide +kernel
theorem dX2_takesLetter_67 : decode cX2_takesLetter 67 = .ok (.goto 4, 3) := by decide +kernel
theorem dX2_takesLetter_70 : decode cX2_takesLetter 70 = .ok (.iconst 0, 1) := by decide +kernel
theorem dX2_takesLetter_71 : decode cX2_takesLetter 71 = .ok (.putfield 29, 3) := by decide +kernel
theorem dX2_takesLetter_74 : decode cX2_takesLetter 74 = .ok (.iconst 1, 1) := by decide +kernel
theorem dX2_takesLetter_75 : decode cX2_takesLetter 75 = .ok (.ireturn, 1) := by decide +kernel
theorem dX2_isOrder_0 : decode cX2_isOrder 0 = .ok (.iload_n 0, 1) := by decide +kernel
theorem dX2_isOrder_1 : decode cX2_isOrder 1 = .ok (.bipush 114, 2) := by decide +kernel
theorem dX2_isOrder_3 : decode cX2_isOrder 3 = .ok (.if_icmp .eq 9, 3) := by decide +kernel
theorem dX2_isOrder_6 : decode cX2_isOrder 6 = .ok (.iload_n 0, 1) := by decide +kernel
theorem dX2_isOrder_7 : decode cX2_isOrder 7 = .ok (.bipush 35, 2) := by decide +kernel
theorem dX2_isOrder_9 : decode cX2_isOrder 9 = .ok (.if_icmp .ne 5, 3) := by decide +kernel
theorem dX2_isOrder_12 : decode cX2_isOrder 12 = .ok (.iconst 1, 1) := by decide +kernel
theorem dX2_isOrder_13 : decode cX2_isOrder 13 = .ok (.ireturn, 1) := by decide +kernel
theorem dX2_isOrder_14 : decode cX2_isOrder 14 = .ok (.iload_n 0, 1) := by decide +kernel
theorem dX2_isOrder_15 : decode cX2_isOrder 15 = .ok (.bipush 110, 2) := by decide +kernel
theorem dX2_isOrder_17 : decode cX2_isOrder 17 = .ok (.if_icmp .eq 21, 3) := by decide +kernel
theorem dX2_isOrder_20 : decode cX2_isOrder 20 = .ok (.iload_n 0, 1) := by decide +kernel
theorem dX2_isOrder_21 : decode cX2_isOrder 21 = .ok (.bipush 101, 2) := by decide +kernel
theorem dX2_isOrder_23 : decode cX2_isOrder 23 = .ok (.if_icmp .eq 15, 3) := by decide +kernel
theorem dX2_isOrder_26 : decode cX2_isOrder 26 = .ok (.iload_n 0, 1) := by decide +kernel
theorem dX2_isOrder_27 : decode cX2_isOrder 27 = .ok (.bipush 115, 2) := by decide +kernel
theorem dX2_isOrder_29 : decode cX2_isOrder 29 = .ok (.if_icmp .eq 9, 3) := by decide +kernel
theorem dX2_isOrder_32 : decode cX2_isOrder 32 = .ok (.iload_n 0, 1) := by decide +kernel
theorem dX2_isOrder_33 : decode cX2_isOrder 33 = .ok (.bipush 119, 2) := by decide +kernel
theorem dX2_isOrder_35 : decode cX2_isOrder 35 = .ok (.if_icmp .ne 7, 3) := by decide +kernel
theorem dX2_isOrder_38 : decode cX2_isOrder 38 = .ok (.iconst 1, 1) := by decide +kernel
theorem dX2_isOrder_39 : decode cX2_isOrder 39 = .ok (.goto 4, 3) := by decide +kernel
theorem dX2_isOrder_42 : decode cX2_isOrder 42 = .ok (.iconst 0, 1) := by decide +kernel
theorem dX2_isOrder_43 : decode cX2_isOrder 43 = .ok (.istore_n 2, 1) := by decide +kernel
theorem dX2_isOrder_44 : decode cX2_isOrder 44 = .ok (.iload_n 1, 1) := by decide +kernel
theorem dX2_isOrder_45 : decode cX2_isOrder 45 = .ok (.ifCond .le 23, 3) := by decide +kernel
theorem dX2_isOrder_48 : decode cX2_isOrder 48 = .ok (.iload_n 2, 1) := by decide +kernel
theorem dX2_isOrder_49 : decode cX2_isOrder 49 = .ok (.ifCond .ne 15, 3) := by decide +kernel
theorem dX2_isOrder_52 : decode cX2_isOrder 52 = .ok (.iload_n 0, 1) := by decide +kernel
theorem dX2_isOrder_53 : decode cX2_isOrder 53 = .ok (.bipush 103, 2) := by decide +kernel
theorem dX2_isOrder_55 : decode cX2_isOrder 55 = .ok (.if_icmp .eq 9, 3) := by decide +kernel
theorem dX2_isOrder_58 : decode cX2_isOrder 58 = .ok (.iload_n 0, 1) := by decide +kernel
theorem dX2_isOrder_59 : decode cX2_isOrder 59 = .ok (.bipush 100, 2) := by decide +kernel
theorem dX2_isOrder_61 : decode cX2_isOrder 61 = .ok (.if_icmp .ne 7, 3) := by decide +kernel
theorem dX2_isOrder_64 : decode cX2_isOrder 64 = .ok (.iconst 1, 1) := by decide +kernel
theorem dX2_isOrder_65 : decode cX2_isOrder 65 = .ok (.goto 4, 3) := by decide +kernel
theorem dX2_isOrder_68 : decode cX2_isOrder 68 = .ok (.iconst 0, 1) := by decide +kernel
theorem dX2_isOrder_69 : decode cX2_isOrder 69 = .ok (.ireturn, 1) := by decide +kernel
theorem dX2_letterOf_0 : decode cX2_letterOf 0 = .ok (.iload_n 1, 1) := by decide +kernel
theorem dX2_letterOf_1 : decode cX2_letterOf 1 = .ok (.ifCond .lt 29, 3) := by decide +kernel
theorem dX2_letterOf_4 : decode cX2_letterOf 4 = .ok (.iload_n 1, 1) := by decide +kernel
theorem dX2_letterOf_5 : decode cX2_letterOf 5 = .ok (.aload_n 0, 1) := by decide +kernel
theorem dX2_letterOf_6 : decode cX2_letterOf 6 = .ok (.getfield 26, 3) := by decide +kernel
theorem dX2_letterOf_9 : decode cX2_letterOf 9 = .ok (.if_icmp .ge 21, 3) := by decide +kernel
theorem dX2_letterOf_12 : decode cX2_letterOf 12 = .ok (.iload_n 1, 1) := by decide +kernel
theorem dX2_letterOf_13 : decode cX2_letterOf 13 = .ok (.aload_n 0, 1) := by decide +kernel
theorem dX2_letterOf_14 : decode cX2_letterOf 14 = .ok (.getfield 19, 3) := by decide +kernel
theorem dX2_letterOf_17 : decode cX2_letterOf 17 = .ok (.arraylength, 1) := by decide +kernel
theorem dX2_letterOf_18 : decode cX2_letterOf 18 = .ok (.if_icmp .ge 12, 3) := by decide +kernel
theorem dX2_letterOf_21 : decode cX2_letterOf 21 = .ok (.aload_n 0, 1) := by decide +kernel
theorem dX2_letterOf_22 : decode cX2_letterOf 22 = .ok (.getfield 19, 3) := by decide +kernel
theorem dX2_letterOf_25 : decode cX2_letterOf 25 = .ok (.iload_n 1, 1) := by decide +kernel
theorem dX2_letterOf_26 : decode cX2_letterOf 26 = .ok (.caload, 1) := by decide +kernel
theorem dX2_letterOf_27 : decode cX2_letterOf 27 = .ok (.goto 5, 3) := by decide +kernel
theorem dX2_letterOf_30 : decode cX2_letterOf 30 = .ok (.bipush 35, 2) := by decide +kernel
theorem dX2_letterOf_32 : decode cX2_letterOf 32 = .ok (.ireturn, 1) := by decide +kernel
theorem dX2_numberOf_0 : decode cX2_numberOf 0 = .ok (.iload_n 1, 1) := by decide +kernel
theorem dX2_numberOf_1 : decode cX2_numberOf 1 = .ok (.ifCond .lt 20, 3) := by decide +kernel
theorem dX2_numberOf_4 : decode cX2_numberOf 4 = .ok (.iload_n 1, 1) := by decide +kernel
theorem dX2_numberOf_5 : decode cX2_numberOf 5 = .ok (.aload_n 0, 1) := by decide +kernel
theorem dX2_numberOf_6 : decode cX2_numberOf 6 = .ok (.getfield 26, 3) := by decide +kernel
theorem dX2_numberOf_9 : decode cX2_numberOf 9 = .ok (.if_icmp .ge 12, 3) := by decide +kernel
theorem dX2_numberOf_12 : decode cX2_numberOf 12 = .ok (.iload_n 1, 1) := by decide +kernel
theorem dX2_numberOf_13 : decode cX2_numberOf 13 = .ok (.aload_n 0, 1) := by decide +kernel
theorem dX2_numberOf_14 : decode cX2_numberOf 14 = .ok (.getfield 22, 3) := by decide +kernel
theorem dX2_numberOf_17 : decode cX2_numberOf 17 = .ok (.arraylength, 1) := by decide +kernel
theorem dX2_numberOf_18 : decode cX2_numberOf 18 = .ok (.if_icmp .lt 5, 3) := by decide +kernel
theorem dX2_numberOf_21 : decode cX2_numberOf 21 = .ok (.iconst 0, 1) := by decide +kernel
theorem dX2_numberOf_22 : decode cX2_numberOf 22 = .ok (.ireturn, 1) := by decide +kernel
theorem dX2_numberOf_23 : decode cX2_numberOf 23 = .ok (.aload_n 0, 1) := by decide +kernel
theorem dX2_numberOf_24 : decode cX2_numberOf 24 = .ok (.getfield 19, 3) := by decide +kernel
theorem dX2_numberOf_27 : decode cX2_numberOf 27 = .ok (.iload_n 1, 1) := by decide +kernel
theorem dX2_numberOf_28 : decode cX2_numberOf 28 = .ok (.caload, 1) := by decide +kernel
theorem dX2_numberOf_29 : decode cX2_numberOf 29 = .ok (.bipush 35, 2) := by decide +kernel
theorem dX2_numberOf_31 : decode cX2_numberOf 31 = .ok (.if_icmp .ne 12, 3) := by decide +kernel
theorem dX2_numberOf_34 : decode cX2_numberOf 34 = .ok (.aload_n 0, 1) := by decide +kernel
theorem dX2_numberOf_35 : decode cX2_numberOf 35 = .ok (.getfield 22, 3) := by decide +kernel
theorem dX2_numberOf_38 : decode cX2_numberOf 38 = .ok (.iload_n 1, 1) := by decide +kernel
theorem dX2_numberOf_39 : decode cX2_numberOf 39 = .ok (.iaload, 1) := by decide +kernel
theorem dX2_numberOf_40 : decode cX2_numberOf 40 = .ok (.goto 13, 3) := by decide +kernel
theorem dX2_numberOf_43 : decode cX2_numberOf 43 = .ok (.aload_n 0, 1) := by decide +kernel
theorem dX2_numberOf_44 : decode cX2_numberOf 44 = .ok (.getfield 22, 3) := by decide +kernel
theorem dX2_numberOf_47 : decode cX2_numberOf 47 = .ok (.iload_n 1, 1) := by decide +kernel
theorem dX2_numberOf_48 : decode cX2_numberOf 48 = .ok (.iaload, 1) := by decide +kernel
theorem dX2_numberOf_49 : decode cX2_numberOf 49 = .ok (.iconst 1, 1) := by decide +kernel
theorem dX2_numberOf_50 : decode cX2_numberOf 50 = .ok (.invokestatic 55, 3) := by decide +kernel
theorem dX2_numberOf_53 : decode cX2_numberOf 53 = .ok (.ireturn, 1) := by decide +kernel
theorem dX3_init_0 : decode cX3_init 0 = .ok (.aload_n 0, 1) := by decide +kernel
theorem dX3_init_1 : decode cX3_init 1 = .ok (.invokespecial 1, 3) := by decide +kernel
theorem dX3_init_4 : decode cX3_init 4 = .ok (.aload_n 0, 1) := by decide +kernel
theorem dX3_init_5 : decode cX3_init 5 = .ok (.new 7, 3) := by decide +kernel
theorem dX3_init_8 : decode cX3_init 8 = .ok (.dup, 1) := by decide +kernel
theorem dX3_init_9 : decode cX3_init 9 = .ok (.invokespecial 9, 3) := by decide +kernel
theorem dX3_init_12 : decode cX3_init 12 = .ok (.putfield 10, 3) := by decide +kernel
theorem dX3_init_15 : decode cX3_init 15 = .ok (.aload_n 0, 1) := by decide +kernel
theorem dX3_init_16 : decode cX3_init 16 = .ok (.iconst 0, 1) := by decide +kernel
theorem dX3_init_17 : decode cX3_init 17 = .ok (.putfield 16, 3) := by decide +kernel
theorem dX3_init_20 : decode cX3_init 20 = .ok (.return_, 1) := by decide +kernel
theorem dX4_init_0 : decode cX4_init 0 = .ok (.aload_n 0, 1) := by decide +kernel
theorem dX4_init_1 : decode cX4_init 1 = .ok (.invokespecial 3, 3) := by decide +kernel
theorem dX4_init_4 : decode cX4_init 4 = .ok (.aload_n 0, 1) := by decide +kernel
theorem dX4_init_5 : decode cX4_init 5 = .ok (.bipush 8, 2) := by decide +kernel
theorem dX4_init_7 : decode cX4_init 7 = .ok (.putfield 9, 3) := by decide +kernel
theorem dX4_init_10 : decode cX4_init 10 = .ok (.aload_n 0, 1) := by decide +kernel
theorem dX4_init_11 : decode cX4_init 11 = .ok (.bipush 8, 2) := by decide +kernel
theorem dX4_init_13 : decode cX4_init 13 = .ok (.putfield 15, 3) := by decide +kernel
theorem dX4_init_16 : decode cX4_init 16 = .ok (.aload_n 0, 1) := by decide +kernel
theorem dX4_init_17 : decode cX4_init 17 = .ok (.sipush 256, 3) := by decide +kernel
theorem dX4_init_20 : decode cX4_init 20 = .ok (.newarray .int, 2) := by decide +kernel
theorem dX4_init_22 : decode cX4_init 22 = .ok (.putfield 18, 3) := by decide +kernel
theorem dX4_init_25 : decode cX4_init 25 = .ok (.aload_n 0, 1) := by decide +kernel
theorem dX4_init_26 : decode cX4_init 26 = .ok (.bipush 8, 2) := by decide +kernel
theorem dX4_init_28 : decode cX4_init 28 = .ok (.anewarray 22, 3) := by decide +kernel
theorem dX4_init_31 : decode cX4_init 31 = .ok (.putfield 24, 3) := by decide +kernel
theorem dX4_init_34 : decode cX4_init 34 = .ok (.aload_n 0, 1) := by decide +kernel
theorem dX4_init_35 : decode cX4_init 35 = .ok (.iconst 0, 1) := by decide +kernel
theorem dX4_init_36 : decode cX4_init 36 = .ok (.putfield 28, 3) := by decide +kernel
theorem dX4_init_39 : decode cX4_init 39 = .ok (.aload_n 0, 1) := by decide +kernel
theorem dX4_init_40 : decode cX4_init 40 = .ok (.new 31, 3) := by decide +kernel
theorem dX4_init_43 : decode cX4_init 43 = .ok (.dup, 1) := by decide +kernel
theorem dX4_init_44 : decode cX4_init 44 = .ok (.invokespecial 33, 3) := by decide +kernel
theorem dX4_init_47 : decode cX4_init 47 = .ok (.putfield 34, 3) := by decide +kernel
theorem dX4_init_50 : decode cX4_init 50 = .ok (.aload_n 0, 1) := by decide +kernel
theorem dX4_init_51 : decode cX4_init 51 = .ok (.iconst 0, 1) := by decide +kernel
theorem dX4_init_52 : decode cX4_init 52 = .ok (.putfield 38, 3) := by decide +kernel
theorem dX4_init_55 : decode cX4_init 55 = .ok (.aload_n 0, 1) := by decide +kernel
theorem dX4_init_56 : decode cX4_init 56 = .ok (.iconst 0, 1) := by decide +kernel
theorem dX4_init_57 : decode cX4_init 57 = .ok (.putfield 41, 3) := by decide +kernel
theorem dX4_init_60 : decode cX4_init 60 = .ok (.iconst 0, 1) := by decide +kernel
theorem dX4_init_61 : decode cX4_init 61 = .ok (.istore_n 1, 1) := by decide +kernel
theorem dX4_init_62 : decode cX4_init 62 = .ok (.iload_n 1, 1) := by decide +kernel
theorem dX4_init_63 : decode cX4_init 63 = .ok (.bipush 8, 2) := by decide +kernel
theorem dX4_init_65 : decode cX4_init 65 = .ok (.if_icmp .ge 22, 3) := by decide +kernel
theorem dX4_init_68 : decode cX4_init 68 = .ok (.aload_n 0, 1) := by decide +kernel
theorem dX4_init_69 : decode cX4_init 69 = .ok (.getfield 24, 3) := by decide +kernel
theorem dX4_init_72 : decode cX4_init 72 = .ok (.iload_n 1, 1) := by decide +kernel
theorem dX4_init_73 : decode cX4_init 73 = .ok (.new 22, 3) := by decide +kernel
theorem dX4_init_76 : decode cX4_init 76 = .ok (.dup, 1) := by decide +kernel
theorem dX4_init_77 : decode cX4_init 77 = .ok (.invokespecial 44, 3) := by decide +kernel
theorem dX4_init_80 : decode cX4_init 80 = .ok (.aastore, 1) := by decide +kernel
theorem dX4_init_81 : decode cX4_init 81 = .ok (.iinc 1 1, 3) := by decide +kernel
theorem dX4_init_84 : decode cX4_init 84 = .ok (.goto (-22), 3) := by decide +kernel
theorem dX4_init_87 : decode cX4_init 87 = .ok (.return_, 1) := by decide +kernel
theorem dX4_copyFrom_0 : decode cX4_copyFrom 0 = .ok (.aload_n 0, 1) := by decide +kernel
theorem dX4_copyFrom_1 : decode cX4_copyFrom 1 = .ok (.aload_n 1, 1) := by decide +kernel
theorem dX4_copyFrom_2 : decode cX4_copyFrom 2 = .ok (.getfield 9, 3) := by decide +kernel
theorem dX4_copyFrom_5 : decode cX4_copyFrom 5 = .ok (.putfield 9, 3) := by decide +kernel
theorem dX4_copyFrom_8 : decode cX4_copyFrom 8 = .ok (.aload_n 0, 1) := by decide +kernel
theorem dX4_copyFrom_9 : decode cX4_copyFrom 9 = .ok (.aload_n 1, 1) := by decide +kernel
theorem dX4_copyFrom_10 : decode cX4_copyFrom 10 = .ok (.getfield 15, 3) := by decide +kernel
theorem dX4_copyFrom_13 : decode cX4_copyFrom 13 = .ok (.putfield 15, 3) := by decide +kernel
theorem dX4_copyFrom_16 : decode cX4_copyFrom 16 = .ok (.aload_n 1, 1) := by decide +kernel
theorem dX4_copyFrom_17 : decode cX4_copyFrom 17 = .ok (.getfield 18, 3) := by decide +kernel
theorem dX4_copyFrom_20 : decode cX4_copyFrom 20 = .ok (.iconst 0, 1) := by decide +kernel
theorem dX4_copyFrom_21 : decode cX4_copyFrom 21 = .ok (.aload_n 0, 1) := by decide +kernel
theorem dX4_copyFrom_22 : decode cX4_copyFrom 22 = .ok (.getfield 18, 3) := by decide +kernel
theorem dX4_copyFrom_25 : decode cX4_copyFrom 25 = .ok (.iconst 0, 1) := by decide +kernel
theorem dX4_copyFrom_26 : decode cX4_copyFrom 26 = .ok (.sipush 256, 3) := by decide +kernel
theorem dX4_copyFrom_29 : decode cX4_copyFrom 29 = .ok (.invokestatic 45, 3) := by decide +kernel
theorem dX4_copyFrom_32 : decode cX4_copyFrom 32 = .ok (.aload_n 0, 1) := by decide +kernel
theorem dX4_copyFrom_33 : decode cX4_copyFrom 33 = .ok (.aload_n 1, 1) := by decide +kernel
theorem dX4_copyFrom_34 : decode cX4_copyFrom 34 = .ok (.getfield 28, 3) := by decide +kernel
theorem dX4_copyFrom_37 : decode cX4_copyFrom 37 = .ok (.putfield 28, 3) := by decide +kernel
theorem dX4_copyFrom_40 : decode cX4_copyFrom 40 = .ok (.iconst 0, 1) := by decide +kernel
theorem dX4_copyFrom_41 : decode cX4_copyFrom 41 = .ok (.istore_n 2, 1) := by decide +kernel
theorem dX4_copyFrom_42 : decode cX4_copyFrom 42 = .ok (.iload_n 2, 1) := by decide +kernel
theorem dX4_copyFrom_43 : decode cX4_copyFrom 43 = .ok (.aload_n 0, 1) := by decide +kernel
theorem dX4_copyFrom_44 : decode cX4_copyFrom 44 = .ok (.getfield 28, 3) := by decide +kernel
theorem dX4_copyFrom_47 : decode cX4_copyFrom 47 = .ok (.if_icmp .ge 37, 3) := by decide +kernel
theorem dX4_copyFrom_50 : decode cX4_copyFrom 50 = .ok (.aload_n 0, 1) := by decide +kernel
theorem dX4_copyFrom_51 : decode cX4_copyFrom 51 = .ok (.iload_n 2, 1) := by decide +kernel
theorem dX4_copyFrom_52 : decode cX4_copyFrom 52 = .ok (.invokevirtual 51, 3) := by decide +kernel
theorem dX4_copyFrom_55 : decode cX4_copyFrom 55 = .ok (.astore_n 3, 1) := by decide +kernel
theorem dX4_copyFrom_56 : decode cX4_copyFrom 56 = .ok (.aload_n 1, 1) := by decide +kernel
theorem dX4_copyFrom_57 : decode cX4_copyFrom 57 = .ok (.iload_n 2, 1) := by decide +kernel
theorem dX4_copyFrom_58 : decode cX4_copyFrom 58 = .ok (.invokevirtual 51, 3) := by decide +kernel
theorem dX4_copyFrom_61 : decode cX4_copyFrom 61 = .ok (.astore 4, 2) := by decide +kernel
theorem dX4_copyFrom_63 : decode cX4_copyFrom 63 = .ok (.aload_n 3, 1) := by decide +kernel
theorem dX4_copyFrom_64 : decode cX4_copyFrom 64 = .ok (.ifnull 14, 3) := by decide +kernel
theorem dX4_copyFrom_67 : decode cX4_copyFrom 67 = .ok (.aload 4, 2) := by decide +kernel
theorem dX4_copyFrom_69 : decode cX4_copyFrom 69 = .ok (.ifnull 9, 3) := by decide +kernel
theorem dX4_copyFrom_72 : decode cX4_copyFrom 72 = .ok (.aload_n 3, 1) := by decide +kernel
theorem dX4_copyFrom_73 : decode cX4_copyFrom 73 = .ok (.aload 4, 2) := by decide +kernel
theorem dX4_copyFrom_75 : decode cX4_copyFrom 75 = .ok (.invokevirtual 55, 3) := by decide +kernel
theorem dX4_copyFrom_78 : decode cX4_copyFrom 78 = .ok (.iinc 2 1, 3) := by decide +kernel
theorem dX4_copyFrom_81 : decode cX4_copyFrom 81 = .ok (.goto (-39), 3) := by decide +kernel
theorem dX4_copyFrom_84 : decode cX4_copyFrom 84 = .ok (.aload_n 0, 1) := by decide +kernel
theorem dX4_copyFrom_85 : decode cX4_copyFrom 85 = .ok (.getfield 34, 3) := by decide +kernel
theorem dX4_copyFrom_88 : decode cX4_copyFrom 88 = .ok (.aload_n 1, 1) := by decide +kernel
theorem dX4_copyFrom_89 : decode cX4_copyFrom 89 = .ok (.getfield 34, 3) := by decide +kernel
theorem dX4_copyFrom_92 : decode cX4_copyFrom 92 = .ok (.invokevirtual 59, 3) := by decide +kernel
theorem dX4_copyFrom_95 : decode cX4_copyFrom 95 = .ok (.aload_n 0, 1) := by decide +kernel
theorem dX4_copyFrom_96 : decode cX4_copyFrom 96 = .ok (.aload_n 1, 1) := by decide +kernel
theorem dX4_copyFrom_97 : decode cX4_copyFrom 97 = .ok (.getfield 38, 3) := by decide +kernel
theorem dX4_copyFrom_100 : decode cX4_copyFrom 100 = .ok (.putfield 38, 3) := by decide +kernel
theorem dX4_copyFrom_103 : decode cX4_copyFrom 103 = .ok (.aload_n 0, 1) := by decide +kernel
theorem dX4_copyFrom_104 : decode cX4_copyFrom 104 = .ok (.aload_n 1, 1) := by decide +kernel
theorem dX4_copyFrom_105 : decode cX4_copyFrom 105 = .ok (.getfield 41, 3) := by decide +kernel
theorem dX4_copyFrom_108 : decode cX4_copyFrom 108 = .ok (.putfield 41, 3) := by decide +kernel
theorem dX4_copyFrom_111 : decode cX4_copyFrom 111 = .ok (.return_, 1) := by decide +kernel
theorem dX4_hasCell_0 : decode cX4_hasCell 0 = .ok (.iload_n 1, 1) := by decide +kernel
theorem dX4_hasCell_1 : decode cX4_hasCell 1 = .ok (.ifCond .lt 27, 3) := by decide +kernel
theorem dX4_hasCell_4 : decode cX4_hasCell 4 = .ok (.iload_n 1, 1) := by decide +kernel
theorem dX4_hasCell_5 : decode cX4_hasCell 5 = .ok (.aload_n 0, 1) := by decide +kernel
theorem dX4_hasCell_6 : decode cX4_hasCell 6 = .ok (.getfield 9, 3) := by decide +kernel
theorem dX4_hasCell_9 : decode cX4_hasCell 9 = .ok (.if_icmp .ge 19, 3) := by decide +kernel
theorem dX4_hasCell_12 : decode cX4_hasCell 12 = .ok (.iload_n 2, 1) := by decide +kernel
theorem dX4_hasCell_13 : decode cX4_hasCell 13 = .ok (.ifCond .lt 15, 3) := by decide +kernel
theorem dX4_hasCell_16 : decode cX4_hasCell 16 = .ok (.iload_n 2, 1) := by decide +kernel
theorem dX4_hasCell_17 : decode cX4_hasCell 17 = .ok (.aload_n 0, 1) := by decide +kernel
theorem dX4_hasCell_18 : decode cX4_hasCell 18 = .ok (.getfield 15, 3) := by decide +kernel
theorem dX4_hasCell_21 : decode cX4_hasCell 21 = .ok (.if_icmp .ge 7, 3) := by decide +kernel
theorem dX4_hasCell_24 : decode cX4_hasCell 24 = .ok (.iconst 1, 1) := by decide +kernel
theorem dX4_hasCell_25 : decode cX4_hasCell 25 = .ok (.goto 4, 3) := by decide +kernel
theorem dX4_hasCell_28 : decode cX4_hasCell 28 = .ok (.iconst 0, 1) := by decide +kernel
theorem dX4_hasCell_29 : decode cX4_hasCell 29 = .ok (.ireturn, 1) := by decide +kernel
theorem dX4_cellAt_0 : decode cX4_cellAt 0 = .ok (.aload_n 0, 1) := by decide +kernel
theorem dX4_cellAt_1 : decode cX4_cellAt 1 = .ok (.iload_n 1, 1) := by decide +kernel
theorem dX4_cellAt_2 : decode cX4_cellAt 2 = .ok (.iload_n 2, 1) := by decide +kernel
theorem dX4_cellAt_3 : decode cX4_cellAt 3 = .ok (.invokevirtual 62, 3) := by decide +kernel
theorem dX4_cellAt_6 : decode cX4_cellAt 6 = .ok (.ifCond .eq 12, 3) := by decide +kernel
theorem dX4_cellAt_9 : decode cX4_cellAt 9 = .ok (.iload_n 1, 1) := by decide +kernel
theorem dX4_cellAt_10 : decode cX4_cellAt 10 = .ok (.bipush 16, 2) := by decide +kernel
theorem dX4_cellAt_12 : decode cX4_cellAt 12 = .ok (.imul, 1) := by decide +kernel
theorem dX4_cellAt_13 : decode cX4_cellAt 13 = .ok (.iload_n 2, 1) := by decide +kernel
theorem dX4_cellAt_14 : decode cX4_cellAt 14 = .ok (.iadd, 1) := by decide +kernel
theorem dX4_cellAt_15 : decode cX4_cellAt 15 = .ok (.goto 4, 3) := by decide +kernel
theorem dX4_cellAt_18 : decode cX4_cellAt 18 = .ok (.iconst (-1), 1) := by decide +kernel
theorem dX4_cellAt_19 : decode cX4_cellAt 19 = .ok (.ireturn, 1) := by decide +kernel
theorem dX4_chipsOf_0 : decode cX4_chipsOf 0 = .ok (.iload_n 1, 1) := by decide +kernel
theorem dX4_chipsOf_1 : decode cX4_chipsOf 1 = .ok (.ifCond .lt 21, 3) := by decide +kernel
theorem dX4_chipsOf_4 : decode cX4_chipsOf 4 = .ok (.iload_n 1, 1) := by decide +kernel
theorem dX4_chipsOf_5 : decode cX4_chipsOf 5 = .ok (.aload_n 0, 1) := by decide +kernel
theorem dX4_chipsOf_6 : decode cX4_chipsOf 6 = .ok (.getfield 18, 3) := by decide +kernel
theorem dX4_chipsOf_9 : decode cX4_chipsOf 9 = .ok (.arraylength, 1) := by decide +kernel
theorem dX4_chipsOf_10 : decode cX4_chipsOf 10 = .ok (.if_icmp .ge 12, 3) := by decide +kernel
theorem dX4_chipsOf_13 : decode cX4_chipsOf 13 = .ok (.aload_n 0, 1) := by decide +kernel
theorem dX4_chipsOf_14 : decode cX4_chipsOf 14 = .ok (.getfield 18, 3) := by decide +kernel
theorem dX4_chipsOf_17 : decode cX4_chipsOf 17 = .ok (.iload_n 1, 1) := by decide +kernel
theorem dX4_chipsOf_18 : decode cX4_chipsOf 18 = .ok (.iaload, 1) := by decide +kernel
theorem dX4_chipsOf_19 : decode cX4_chipsOf 19 = .ok (.goto 4, 3) := by decide +kernel
theorem dX4_chipsOf_22 : decode cX4_chipsOf 22 = .ok (.iconst 0, 1) := by decide +kernel
theorem dX4_chipsOf_23 : decode cX4_chipsOf 23 = .ok (.ireturn, 1) := by decide +kernel
theorem dX4_walkerAt_0 : decode cX4_walkerAt 0 = .ok (.iload_n 1, 1) := by decide +kernel
theorem dX4_walkerAt_1 : decode cX4_walkerAt 1 = .ok (.ifCond .lt 20, 3) := by decide +kernel
theorem dX4_walkerAt_4 : decode cX4_walkerAt 4 = .ok (.iload_n 1, 1) := by decide +kernel
theorem dX4_walkerAt_5 : decode cX4_walkerAt 5 = .ok (.aload_n 0, 1) := by decide +kernel
theorem dX4_walkerAt_6 : decode cX4_walkerAt 6 = .ok (.getfield 28, 3) := by decide +kernel
theorem dX4_walkerAt_9 : decode cX4_walkerAt 9 = .ok (.if_icmp .ge 12, 3) := by decide +kernel
theorem dX4_walkerAt_12 : decode cX4_walkerAt 12 = .ok (.iload_n 1, 1) := by decide +kernel
theorem dX4_walkerAt_13 : decode cX4_walkerAt 13 = .ok (.aload_n 0, 1) := by decide +kernel
theorem dX4_walkerAt_14 : decode cX4_walkerAt 14 = .ok (.getfield 24, 3) := by decide +kernel
theorem dX4_walkerAt_17 : decode cX4_walkerAt 17 = .ok (.arraylength, 1) := by decide +kernel
theorem dX4_walkerAt_18 : decode cX4_walkerAt 18 = .ok (.if_icmp .lt 5, 3) := by decide +kernel
theorem dX4_walkerAt_21 : decode cX4_walkerAt 21 = .ok (.aconst_null, 1) := by decide +kernel
theorem dX4_walkerAt_22 : decode cX4_walkerAt 22 = .ok (.areturn, 1) := by decide +kernel
theorem dX4_walkerAt_23 : decode cX4_walkerAt 23 = .ok (.aload_n 0, 1) := by decide +kernel
theorem dX4_walkerAt_24 : decode cX4_walkerAt 24 = .ok (.getfield 24, 3) := by decide +kernel
theorem dX4_walkerAt_27 : decode cX4_walkerAt 27 = .ok (.iload_n 1, 1) := by decide +kernel
theorem dX4_walkerAt_28 : decode cX4_walkerAt 28 = .ok (.aaload, 1) := by decide +kernel
theorem dX4_walkerAt_29 : decode cX4_walkerAt 29 = .ok (.areturn, 1) := by decide +kernel
theorem dX4_allChips_0 : decode cX4_allChips 0 = .ok (.iconst 0, 1) := by decide +kernel
theorem dX4_allChips_1 : decode cX4_allChips 1 = .ok (.istore_n 1, 1) := by decide +kernel
theorem dX4_allChips_2 : decode cX4_allChips 2 = .ok (.iconst 0, 1) := by decide +kernel
theorem dX4_allChips_3 : decode cX4_allChips 3 = .ok (.istore_n 2, 1) := by decide +kernel
theorem dX4_allChips_4 : decode cX4_allChips 4 = .ok (.iload_n 2, 1) := by decide +kernel
theorem dX4_allChips_5 : decode cX4_allChips 5 = .ok (.aload_n 0, 1) := by decide +kernel
theorem dX4_allChips_6 : decode cX4_allChips 6 = .ok (.getfield 18, 3) := by decide +kernel
theorem dX4_allChips_9 : decode cX4_allChips 9 = .ok (.arraylength, 1) := by decide +kernel
theorem dX4_allChips_10 : decode cX4_allChips 10 = .ok (.if_icmp .ge 18, 3) := by decide +kernel
theorem dX4_allChips_13 : decode cX4_allChips 13 = .ok (.iload_n 1, 1) := by decide +kernel
theorem dX4_allChips_14 : decode cX4_allChips 14 = .ok (.aload_n 0, 1) := by decide +kernel
theorem dX4_allChips_15 : decode cX4_allChips 15 = .ok (.getfield 18, 3) := by decide +kernel
theorem dX4_allChips_18 : decode cX4_allChips 18 = .ok (.iload_n 2, 1) := by decide +kernel
theorem dX4_allChips_19 : decode cX4_allChips 19 = .ok (.iaload, 1) := by decide +kernel
theorem dX4_allChips_20 : decode cX4_allChips 20 = .ok (.iadd, 1) := by decide +kernel
theorem dX4_allChips_21 : decode cX4_allChips 21 = .ok (.istore_n 1, 1) := by decide +kernel
theorem dX4_allChips_22 : decode cX4_allChips 22 = .ok (.iinc 2 1, 3) := by decide +kernel
theorem dX4_allChips_25 : decode cX4_allChips 25 = .ok (.goto (-21), 3) := by decide +kernel
theorem dX4_allChips_28 : decode cX4_allChips 28 = .ok (.iload_n 1, 1) := by decide +kernel
theorem dX4_allChips_29 : decode cX4_allChips 29 = .ok (.ireturn, 1) := by decide +kernel
theorem dX4_allPockets_0 : decode cX4_allPockets 0 = .ok (.iconst 0, 1) := by decide +kernel
theorem dX4_allPockets_1 : decode cX4_allPockets 1 = .ok (.istore_n 1, 1) := by decide +kernel
theorem dX4_allPockets_2 : decode cX4_allPockets 2 = .ok (.iconst 0, 1) := by decide +kernel
theorem dX4_allPockets_3 : decode cX4_allPockets 3 = .ok (.istore_n 2, 1) := by decide +kernel
theorem dX4_allPockets_4 : decode cX4_allPockets 4 = .ok (.iload_n 2, 1) := by decide +kernel
theorem dX4_allPockets_5 : decode cX4_allPockets 5 = .ok (.aload_n 0, 1) := by decide +kernel
theorem dX4_allPockets_6 : decode cX4_allPockets 6 = .ok (.getfield 28, 3) := by decide +kernel
theorem dX4_allPockets_9 : decode cX4_allPockets 9 = .ok (.if_icmp .ge 30, 3) := by decide +kernel
theorem dX4_allPockets_12 : decode cX4_allPockets 12 = .ok (.aload_n 0, 1) := by decide +kernel
theorem dX4_allPockets_13 : decode cX4_allPockets 13 = .ok (.iload_n 2, 1) := by decide +kernel
theorem dX4_allPockets_14 : decode cX4_allPockets 14 = .ok (.invokevirtual 51, 3) := by decide +kernel
theorem dX4_allPockets_17 : decode cX4_allPockets 17 = .ok (.astore_n 3, 1) := by decide +kernel
theorem dX4_allPockets_18 : decode cX4_allPockets 18 = .ok (.iload_n 1, 1) := by decide +kernel
theorem dX4_allPockets_19 : decode cX4_allPockets 19 = .ok (.aload_n 3, 1) := by decide +kernel
theorem dX4_allPockets_20 : decode cX4_allPockets 20 = .ok (.ifnonnull 7, 3) := by decide +kernel
theorem dX4_allPockets_23 : decode cX4_allPockets 23 = .ok (.iconst 0, 1) := by decide +kernel
theorem dX4_allPockets_24 : decode cX4_allPockets 24 = .ok (.goto 7, 3) := by decide +kernel
theorem dX4_allPockets_27 : decode cX4_allPockets 27 = .ok (.aload_n 3, 1) := by decide +kernel
theorem dX4_allPockets_28 : decode cX4_allPockets 28 = .ok (.getfield 66, 3) := by decide +kernel
theorem dX4_allPockets_31 : decode cX4_allPockets 31 = .ok (.iadd, 1) := by decide +kernel
theorem dX4_allPockets_32 : decode cX4_allPockets 32 = .ok (.istore_n 1, 1) := by decide +kernel
theorem dX4_allPockets_33 : decode cX4_allPockets 33 = .ok (.iinc 2 1, 3) := by decide +kernel
theorem dX4_allPockets_36 : decode cX4_allPockets 36 = .ok (.goto (-32), 3) := by decide +kernel
theorem dX4_allPockets_39 : decode cX4_allPockets 39 = .ok (.iload_n 1, 1) := by decide +kernel
theorem dX4_allPockets_40 : decode cX4_allPockets 40 = .ok (.ireturn, 1) := by decide +kernel
theorem dX4_allSteps_0 : decode cX4_allSteps 0 = .ok (.iconst 0, 1) := by decide +kernel
theorem dX4_allSteps_1 : decode cX4_allSteps 1 = .ok (.istore_n 1, 1) := by decide +kernel
theorem dX4_allSteps_2 : decode cX4_allSteps 2 = .ok (.iconst 0, 1) := by decide +kernel
theorem dX4_allSteps_3 : decode cX4_allSteps 3 = .ok (.istore_n 2, 1) := by decide +kernel
theorem dX4_allSteps_4 : decode cX4_allSteps 4 = .ok (.iload_n 2, 1) := by decide +kernel
theorem dX4_allSteps_5 : decode cX4_allSteps 5 = .ok (.aload_n 0, 1) := by decide +kernel
theorem dX4_allSteps_6 : decode cX4_allSteps 6 = .ok (.getfield 28, 3) := by decide +kernel
theorem dX4_allSteps_9 : decode cX4_allSteps 9 = .ok (.if_icmp .ge 30, 3) := by decide +kernel
theorem dX4_allSteps_12 : decode cX4_allSteps 12 = .ok (.aload_n 0, 1) := by decide +kernel
theorem dX4_allSteps_13 : decode cX4_allSteps 13 = .ok (.iload_n 2, 1) := by decide +kernel
theorem dX4_allSteps_14 : decode cX4_allSteps 14 = .ok (.invokevirtual 51, 3) := by decide +kernel
theorem dX4_allSteps_17 : decode cX4_allSteps 17 = .ok (.astore_n 3, 1) := by decide +kernel
theorem dX4_allSteps_18 : decode cX4_allSteps 18 = .ok (.iload_n 1, 1) := by decide +kernel
theorem dX4_allSteps_19 : decode cX4_allSteps 19 = .ok (.aload_n 3, 1) := by decide +kernel
theorem dX4_allSteps_20 : decode cX4_allSteps 20 = .ok (.ifnonnull 7, 3) := by decide +kernel
theorem dX4_allSteps_23 : decode cX4_allSteps 23 = .ok (.iconst 0, 1) := by decide +kernel
theorem dX4_allSteps_24 : decode cX4_allSteps 24 = .ok (.goto 7, 3) := by decide +kernel
theorem dX4_allSteps_27 : decode cX4_allSteps 27 = .ok (.aload_n 3, 1) := by decide +kernel
theorem dX4_allSteps_28 : decode cX4_allSteps 28 = .ok (.getfield 69, 3) := by decide +kernel
theorem dX4_allSteps_31 : decode cX4_allSteps 31 = .ok (.iadd, 1) := by decide +kernel
theorem dX4_allSteps_32 : decode cX4_allSteps 32 = .ok (.istore_n 1, 1) := by decide +kernel
theorem dX4_allSteps_33 : decode cX4_allSteps 33 = .ok (.iinc 2 1, 3) := by decide +kernel
theorem dX4_allSteps_36 : decode cX4_allSteps 36 = .ok (.goto (-32), 3) := by decide +kernel
theorem dX4_allSteps_39 : decode cX4_allSteps 39 = .ok (.iload_n 1, 1) := by decide +kernel
theorem dX4_allSteps_40 : decode cX4_allSteps 40 = .ok (.ireturn, 1) := by decide +kernel
theorem dX5_init_0 : decode cX5_init 0 = .ok (.aload_n 0, 1) := by decide +kernel
theorem dX5_init_1 : decode cX5_init 1 = .ok (.invokespecial 3, 3) := by decide +kernel
theorem dX5_init_4 : decode cX5_init 4 = .ok (.aload_n 0, 1) := by decide +kernel
theorem dX5_init_5 : decode cX5_init 5 = .ok (.bipush 30, 2) := by decide +kernel
theorem dX5_init_7 : decode cX5_init 7 = .ok (.newarray .int, 2) := by decide +kernel
theorem dX5_init_9 : decode cX5_init 9 = .ok (.putfield 9, 3) := by decide +kernel
theorem dX5_init_12 : decode cX5_init 12 = .ok (.aload_n 0, 1) := by decide +kernel
theorem dX5_init_13 : decode cX5_init 13 = .ok (.iconst 1, 1) := by decide +kernel
theorem dX5_init_14 : decode cX5_init 14 = .ok (.putfield 15, 3) := by decide +kernel
theorem dX5_init_17 : decode cX5_init 17 = .ok (.aload_n 0, 1) := by decide +kernel
theorem dX5_init_18 : decode cX5_init 18 = .ok (.iconst 0, 1) := by decide +kernel
theorem dX5_init_19 : decode cX5_init 19 = .ok (.putfield 19, 3) := by decide +kernel
theorem dX5_init_22 : decode cX5_init 22 = .ok (.aload_n 0, 1) := by decide +kernel
theorem dX5_init_23 : decode cX5_init 23 = .ok (.iconst 1, 1) := by decide +kernel
theorem dX5_init_24 : decode cX5_init 24 = .ok (.putfield 22, 3) := by decide +kernel
theorem dX5_init_27 : decode cX5_init 27 = .ok (.return_, 1) := by decide +kernel
theorem dX5_begin_0 : decode cX5_begin 0 = .ok (.aload_n 0, 1) := by decide +kernel
theorem dX5_begin_1 : decode cX5_begin 1 = .ok (.getfield 9, 3) := by decide +kernel
theorem dX5_begin_4 : decode cX5_begin 4 = .ok (.iconst 0, 1) := by decide +kernel
theorem dX5_begin_5 : decode cX5_begin 5 = .ok (.iconst 0, 1) := by decide +kernel
theorem dX5_begin_6 : decode cX5_begin 6 = .ok (.iastore, 1) := by decide +kernel
theorem dX5_begin_7 : decode cX5_begin 7 = .ok (.aload_n 0, 1) := by decide +kernel
theorem dX5_begin_8 : decode cX5_begin 8 = .ok (.iconst 1, 1) := by decide +kernel
theorem dX5_begin_9 : decode cX5_begin 9 = .ok (.putfield 15, 3) := by decide +kernel
theorem dX5_begin_12 : decode cX5_begin 12 = .ok (.aload_n 0, 1) := by decide +kernel
theorem dX5_begin_13 : decode cX5_begin 13 = .ok (.iconst 0, 1) := by decide +kernel
theorem dX5_begin_14 : decode cX5_begin 14 = .ok (.putfield 19, 3) := by decide +kernel
theorem dX5_begin_17 : decode cX5_begin 17 = .ok (.aload_n 0, 1) := by decide +kernel
theorem dX5_begin_18 : decode cX5_begin 18 = .ok (.iconst 1, 1) := by decide +kernel
theorem dX5_begin_19 : decode cX5_begin 19 = .ok (.putfield 22, 3) := by decide +kernel
theorem dX5_begin_22 : decode cX5_begin 22 = .ok (.return_, 1) := by decide +kernel
theorem dX5_append_0 : decode cX5_append 0 = .ok (.aload_n 0, 1) := by decide +kernel
theorem dX5_append_1 : decode cX5_append 1 = .ok (.getfield 22, 3) := by decide +kernel
theorem dX5_append_4 : decode cX5_append 4 = .ok (.ifCond .eq 13, 3) := by decide +kernel
theorem dX5_append_7 : decode cX5_append 7 = .ok (.aload_n 0, 1) := by decide +kernel
theorem dX5_append_8 : decode cX5_append 8 = .ok (.iconst 0, 1) := by decide +kernel
theorem dX5_append_9 : decode cX5_append 9 = .ok (.putfield 15, 3) := by decide +kernel
theorem dX5_append_12 : decode cX5_append 12 = .ok (.aload_n 0, 1) := by decide +kernel
theorem dX5_append_13 : decode cX5_append 13 = .ok (.iconst 0, 1) := by decide +kernel
theorem dX5_append_14 : decode cX5_append 14 = .ok (.putfield 22, 3) := by decide +kernel
theorem dX5_append_17 : decode cX5_append 17 = .ok (.aload_n 0, 1) := by decide +kernel
theorem dX5_append_18 : decode cX5_append 18 = .ok (.getfield 15, 3) := by decide +kernel
theorem dX5_append_21 : decode cX5_append 21 = .ok (.ifCond .lt 35, 3) := by decide +kernel
theorem dX5_append_24 : decode cX5_append 24 = .ok (.aload_n 0, 1) := by decide +kernel
theorem dX5_append_25 : decode cX5_append 25 = .ok (.getfield 15, 3) := by decide +kernel
theorem dX5_append_28 : decode cX5_append 28 = .ok (.aload_n 0, 1) := by decide +kernel
theorem dX5_append_29 : decode cX5_append 29 = .ok (.getfield 9, 3) := by decide +kernel
theorem dX5_append_32 : decode cX5_append 32 = .ok (.arraylength, 1) := by decide +kernel
theorem dX5_append_33 : decode cX5_append 33 = .ok (.if_icmp .ge 23, 3) := by decide +kernel
theorem dX5_append_36 : decode cX5_append 36 = .ok (.aload_n 0, 1) := by decide +kernel
theorem dX5_append_37 : decode cX5_append 37 = .ok (.getfield 9, 3) := by decide +kernel
theorem dX5_append_40 : decode cX5_append 40 = .ok (.aload_n 0, 1) := by decide +kernel
theorem dX5_append_41 : decode cX5_append 41 = .ok (.getfield 15, 3) := by decide +kernel
theorem dX5_append_44 : decode cX5_append 44 = .ok (.iload_n 1, 1) := by decide +kernel
theorem dX5_append_45 : decode cX5_append 45 = .ok (.iastore, 1) := by decide +kernel
theorem dX5_append_46 : decode cX5_append 46 = .ok (.aload_n 0, 1) := by decide +kernel
theorem dX5_append_47 : decode cX5_append 47 = .ok (.dup, 1) := by decide +kernel
theorem dX5_append_48 : decode cX5_append 48 = .ok (.getfield 15, 3) := by decide +kernel
theorem dX5_append_51 : decode cX5_append 51 = .ok (.iconst 1, 1) := by decide +kernel
theorem dX5_append_52 : decode cX5_append 52 = .ok (.iadd, 1) := by decide +kernel
theorem dX5_append_53 : decode cX5_append 53 = .ok (.putfield 15, 3) := by decide +kernel
theorem dX5_append_56 : decode cX5_append 56 = .ok (.aload_n 0, 1) := by decide +kernel
theorem dX5_append_57 : decode cX5_append 57 = .ok (.iconst 0, 1) := by decide +kernel
theorem dX5_append_58 : decode cX5_append 58 = .ok (.putfield 19, 3) := by decide +kernel
theorem dX5_append_61 : decode cX5_append 61 = .ok (.return_, 1) := by decide +kernel
theorem dX5_takeNext_0 : decode cX5_takeNext 0 = .ok (.aload_n 0, 1) := by decide +kernel
theorem dX5_takeNext_1 : decode cX5_takeNext 1 = .ok (.getfield 19, 3) := by decide +kernel
theorem dX5_takeNext_4 : decode cX5_takeNext 4 = .ok (.ifCond .lt 15, 3) := by decide +kernel
theorem dX5_takeNext_7 : decode cX5_takeNext 7 = .ok (.aload_n 0, 1) := by decide +kernel
theorem dX5_takeNext_8 : decode cX5_takeNext 8 = .ok (.getfield 19, 3) := by decide +kernel
theorem dX5_takeNext_11 : decode cX5_takeNext 11 = .ok (.aload_n 0, 1) := by decide +kernel
theorem dX5_takeNext_12 : decode cX5_takeNext 12 = .ok (.getfield 9, 3) := by decide +kernel
theorem dX5_takeNext_15 : decode cX5_takeNext 15 = .ok (.arraylength, 1) := by decide +kernel
theorem dX5_takeNext_16 : decode cX5_takeNext 16 = .ok (.if_icmp .lt 5, 3) := by decide +kernel
theorem dX5_takeNext_19 : decode cX5_takeNext 19 = .ok (.iconst 0, 1) := by decide +kernel
theorem dX5_takeNext_20 : decode cX5_takeNext 20 = .ok (.ireturn, 1) := by decide +kernel
theorem dX5_takeNext_21 : decode cX5_takeNext 21 = .ok (.aload_n 0, 1) := by decide +kernel
theorem dX5_takeNext_22 : decode cX5_takeNext 22 = .ok (.getfield 9, 3) := by decide +kernel
theorem dX5_takeNext_25 : decode cX5_takeNext 25 = .ok (.aload_n 0, 1) := by decide +kernel
theorem dX5_takeNext_26 : decode cX5_takeNext 26 = .ok (.getfield 19, 3) := by decide +kernel
theorem dX5_takeNext_29 : decode cX5_takeNext 29 = .ok (.iaload, 1) := by decide +kernel
theorem dX5_takeNext_30 : decode cX5_takeNext 30 = .ok (.istore_n 1, 1) := by decide +kernel
theorem dX5_takeNext_31 : decode cX5_takeNext 31 = .ok (.aload_n 0, 1) := by decide +kernel
theorem dX5_takeNext_32 : decode cX5_takeNext 32 = .ok (.dup, 1) := by decide +kernel
theorem dX5_takeNext_33 : decode cX5_takeNext 33 = .ok (.getfield 19, 3) := by decide +kernel
theorem dX5_takeNext_36 : decode cX5_takeNext 36 = .ok (.iconst 1, 1) := by decide +kernel
theorem dX5_takeNext_37 : decode cX5_takeNext 37 = .ok (.iadd, 1) := by decide +kernel
theorem dX5_takeNext_38 : decode cX5_takeNext 38 = .ok (.putfield 19, 3) := by decide +kernel
theorem dX5_takeNext_41 : decode cX5_takeNext 41 = .ok (.aload_n 0, 1) := by decide +kernel
theorem dX5_takeNext_42 : decode cX5_takeNext 42 = .ok (.getfield 19, 3) := by decide +kernel
theorem dX5_takeNext_45 : decode cX5_takeNext 45 = .ok (.aload_n 0, 1) := by decide +kernel
theorem dX5_takeNext_46 : decode cX5_takeNext 46 = .ok (.getfield 15, 3) := by decide +kernel
theorem dX5_takeNext_49 : decode cX5_takeNext 49 = .ok (.if_icmp .lt 8, 3) := by decide +kernel
theorem dX5_takeNext_52 : decode cX5_takeNext 52 = .ok (.aload_n 0, 1) := by decide +kernel
theorem dX5_takeNext_53 : decode cX5_takeNext 53 = .ok (.iconst 0, 1) := by decide +kernel
theorem dX5_takeNext_54 : decode cX5_takeNext 54 = .ok (.putfield 19, 3) := by decide +kernel
theorem dX5_takeNext_57 : decode cX5_takeNext 57 = .ok (.iload_n 1, 1) := by decide +kernel
theorem dX5_takeNext_58 : decode cX5_takeNext 58 = .ok (.ireturn, 1) := by decide +kernel
theorem dX5_copyFrom_0 : decode cX5_copyFrom 0 = .ok (.aload_n 1, 1) := by decide +kernel
theorem dX5_copyFrom_1 : decode cX5_copyFrom 1 = .ok (.getfield 9, 3) := by decide +kernel
theorem dX5_copyFrom_4 : decode cX5_copyFrom 4 = .ok (.iconst 0, 1) := by decide +kernel
theorem dX5_copyFrom_5 : decode cX5_copyFrom 5 = .ok (.aload_n 0, 1) := by decide +kernel
theorem dX5_copyFrom_6 : decode cX5_copyFrom 6 = .ok (.getfield 9, 3) := by decide +kernel
theorem dX5_copyFrom_9 : decode cX5_copyFrom 9 = .ok (.iconst 0, 1) := by decide +kernel
theorem dX5_copyFrom_10 : decode cX5_copyFrom 10 = .ok (.bipush 30, 2) := by decide +kernel
theorem dX5_copyFrom_12 : decode cX5_copyFrom 12 = .ok (.invokestatic 26, 3) := by decide +kernel
theorem dX5_copyFrom_15 : decode cX5_copyFrom 15 = .ok (.aload_n 0, 1) := by decide +kernel
theorem dX5_copyFrom_16 : decode cX5_copyFrom 16 = .ok (.aload_n 1, 1) := by decide +kernel
theorem dX5_copyFrom_17 : decode cX5_copyFrom 17 = .ok (.getfield 15, 3) := by decide +kernel
theorem dX5_copyFrom_20 : decode cX5_copyFrom 20 = .ok (.putfield 15, 3) := by decide +kernel
theorem dX5_copyFrom_23 : decode cX5_copyFrom 23 = .ok (.aload_n 0, 1) := by decide +kernel
theorem dX5_copyFrom_24 : decode cX5_copyFrom 24 = .ok (.aload_n 1, 1) := by decide +kernel
theorem dX5_copyFrom_25 : decode cX5_copyFrom 25 = .ok (.getfield 19, 3) := by decide +kernel
theorem dX5_copyFrom_28 : decode cX5_copyFrom 28 = .ok (.putfield 19, 3) := by decide +kernel
theorem dX5_copyFrom_31 : decode cX5_copyFrom 31 = .ok (.aload_n 0, 1) := by decide +kernel
theorem dX5_copyFrom_32 : decode cX5_copyFrom 32 = .ok (.aload_n 1, 1) := by decide +kernel
theorem dX5_copyFrom_33 : decode cX5_copyFrom 33 = .ok (.getfield 22, 3) := by decide +kernel
theorem dX5_copyFrom_36 : decode cX5_copyFrom 36 = .ok (.putfield 22, 3) := by decide +kernel
theorem dX5_copyFrom_39 : decode cX5_copyFrom 39 = .ok (.return_, 1) := by decide +kernel
theorem dX6_init_0 : decode cX6_init 0 = .ok (.aload_n 0, 1) := by decide +kernel
theorem dX6_init_1 : decode cX6_init 1 = .ok (.invokespecial 3, 3) := by decide +kernel
theorem dX6_init_4 : decode cX6_init 4 = .ok (.return_, 1) := by decide +kernel
theorem dX6_begin_0 : decode cX6_begin 0 = .ok (.aload_n 0, 1) := by decide +kernel
theorem dX6_begin_1 : decode cX6_begin 1 = .ok (.iload_n 1, 1) := by decide +kernel
theorem dX6_begin_2 : decode cX6_begin 2 = .ok (.putfield 9, 3) := by decide +kernel
theorem dX6_begin_5 : decode cX6_begin 5 = .ok (.aload_n 0, 1) := by decide +kernel
theorem dX6_begin_6 : decode cX6_begin 6 = .ok (.iload_n 2, 1) := by decide +kernel
theorem dX6_begin_7 : decode cX6_begin 7 = .ok (.putfield 15, 3) := by decide +kernel
theorem dX6_begin_10 : decode cX6_begin 10 = .ok (.aload_n 0, 1) := by decide +kernel
theorem dX6_begin_11 : decode cX6_begin 11 = .ok (.iload_n 3, 1) := by decide +kernel
theorem dX6_begin_12 : decode cX6_begin 12 = .ok (.putfield 18, 3) := by decide +kernel
theorem dX6_begin_15 : decode cX6_begin 15 = .ok (.aload_n 0, 1) := by decide +kernel
theorem dX6_begin_16 : decode cX6_begin 16 = .ok (.iconst 0, 1) := by decide +kernel
theorem dX6_begin_17 : decode cX6_begin 17 = .ok (.putfield 21, 3) := by decide +kernel
theorem dX6_begin_20 : decode cX6_begin 20 = .ok (.aload_n 0, 1) := by decide +kernel
theorem dX6_begin_21 : decode cX6_begin 21 = .ok (.iload 5, 2) := by decide +kernel
theorem dX6_begin_23 : decode cX6_begin 23 = .ok (.putfield 24, 3) := by decide +kernel
theorem dX6_begin_26 : decode cX6_begin 26 = .ok (.aload_n 0, 1) := by decide +kernel
theorem dX6_begin_27 : decode cX6_begin 27 = .ok (.iload 4, 2) := by decide +kernel
theorem dX6_begin_29 : decode cX6_begin 29 = .ok (.putfield 27, 3) := by decide +kernel
theorem dX6_begin_32 : decode cX6_begin 32 = .ok (.aload_n 0, 1) := by decide +kernel
theorem dX6_begin_33 : decode cX6_begin 33 = .ok (.iconst 0, 1) := by decide +kernel
theorem dX6_begin_34 : decode cX6_begin 34 = .ok (.putfield 30, 3) := by decide +kernel
theorem dX6_begin_37 : decode cX6_begin 37 = .ok (.aload_n 0, 1) := by decide +kernel
theorem dX6_begin_38 : decode cX6_begin 38 = .ok (.iconst 0, 1) := by decide +kernel
theorem dX6_begin_39 : decode cX6_begin 39 = .ok (.putfield 33, 3) := by decide +kernel
theorem dX6_begin_42 : decode cX6_begin 42 = .ok (.aload_n 0, 1) := by decide +kernel
theorem dX6_begin_43 : decode cX6_begin 43 = .ok (.iconst 0, 1) := by decide +kernel
theorem dX6_begin_44 : decode cX6_begin 44 = .ok (.putfield 36, 3) := by decide +kernel
theorem dX6_begin_47 : decode cX6_begin 47 = .ok (.return_, 1) := by decide +kernel
theorem dX6_cell_0 : decode cX6_cell 0 = .ok (.aload_n 0, 1) := by decide +kernel
theorem dX6_cell_1 : decode cX6_cell 1 = .ok (.getfield 9, 3) := by decide +kernel
theorem dX6_cell_4 : decode cX6_cell 4 = .ok (.bipush 16, 2) := by decide +kernel
theorem dX6_cell_6 : decode cX6_cell 6 = .ok (.imul, 1) := by decide +kernel
theorem dX6_cell_7 : decode cX6_cell 7 = .ok (.aload_n 0, 1) := by decide +kernel
theorem dX6_cell_8 : decode cX6_cell 8 = .ok (.getfield 15, 3) := by decide +kernel
theorem dX6_cell_11 : decode cX6_cell 11 = .ok (.iadd, 1) := by decide +kernel
theorem dX6_cell_12 : decode cX6_cell 12 = .ok (.ireturn, 1) := by decide +kernel
theorem dX6_copyFrom_0 : decode cX6_copyFrom 0 = .ok (.aload_n 0, 1) := by decide +kernel
theorem dX6_copyFrom_1 : decode cX6_copyFrom 1 = .ok (.aload_n 1, 1) := by decide +kernel
theorem dX6_copyFrom_2 : decode cX6_copyFrom 2 = .ok (.getfield 9, 3) := by decide +kernel
theorem dX6_copyFrom_5 : decode cX6_copyFrom 5 = .ok (.putfield 9, 3) := by decide +kernel
theorem dX6_copyFrom_8 : decode cX6_copyFrom 8 = .ok (.aload_n 0, 1) := by decide +kernel
theorem dX6_copyFrom_9 : decode cX6_copyFrom 9 = .ok (.aload_n 1, 1) := by decide +kernel
theorem dX6_copyFrom_10 : decode cX6_copyFrom 10 = .ok (.getfield 15, 3) := by decide +kernel
theorem dX6_copyFrom_13 : decode cX6_copyFrom 13 = .ok (.putfield 15, 3) := by decide +kernel
theorem dX6_copyFrom_16 : decode cX6_copyFrom 16 = .ok (.aload_n 0, 1) := by decide +kernel
theorem dX6_copyFrom_17 : decode cX6_copyFrom 17 = .ok (.aload_n 1, 1) := by decide +kernel
theorem dX6_copyFrom_18 : decode cX6_copyFrom 18 = .ok (.getfield 18, 3) := by decide +kernel
theorem dX6_copyFrom_21 : decode cX6_copyFrom 21 = .ok (.putfield 18, 3) := by decide +kernel
theorem dX6_copyFrom_24 : decode cX6_copyFrom 24 = .ok (.aload_n 0, 1) := by decide +kernel
theorem dX6_copyFrom_25 : decode cX6_copyFrom 25 = .ok (.aload_n 1, 1) := by decide +kernel
theorem dX6_copyFrom_26 : decode cX6_copyFrom 26 = .ok (.getfield 21, 3) := by decide +kernel
theorem dX6_copyFrom_29 : decode cX6_copyFrom 29 = .ok (.putfield 21, 3) := by decide +kernel
theorem dX6_copyFrom_32 : decode cX6_copyFrom 32 = .ok (.aload_n 0, 1) := by decide +kernel
theorem dX6_copyFrom_33 : decode cX6_copyFrom 33 = .ok (.aload_n 1, 1) := by decide +kernel
theorem dX6_copyFrom_34 : decode cX6_copyFrom 34 = .ok (.getfield 24, 3) := by decide +kernel
theorem dX6_copyFrom_37 : decode cX6_copyFrom 37 = .ok (.putfield 24, 3) := by decide +kernel
theorem dX6_copyFrom_40 : decode cX6_copyFrom 40 = .ok (.aload_n 0, 1) := by decide +kernel
theorem dX6_copyFrom_41 : decode cX6_copyFrom 41 = .ok (.aload_n 1, 1) := by decide +kernel
theorem dX6_copyFrom_42 : decode cX6_copyFrom 42 = .ok (.getfield 27, 3) := by decide +kernel
theorem dX6_copyFrom_45 : decode cX6_copyFrom 45 = .ok (.putfield 27, 3) := by decide +kernel
theorem dX6_copyFrom_48 : decode cX6_copyFrom 48 = .ok (.aload_n 0, 1) := by decide +kernel
theorem dX6_copyFrom_49 : decode cX6_copyFrom 49 = .ok (.aload_n 1, 1) := by decide +kernel
theorem dX6_copyFrom_50 : decode cX6_copyFrom 50 = .ok (.getfield 30, 3) := by decide +kernel
theorem dX6_copyFrom_53 : decode cX6_copyFrom 53 = .ok (.putfield 30, 3) := by decide +kernel
theorem dX6_copyFrom_56 : decode cX6_copyFrom 56 = .ok (.aload_n 0, 1) := by decide +kernel
theorem dX6_copyFrom_57 : decode cX6_copyFrom 57 = .ok (.aload_n 1, 1) := by decide +kernel
theorem dX6_copyFrom_58 : decode cX6_copyFrom 58 = .ok (.getfield 33, 3) := by decide +kernel
theorem dX6_copyFrom_61 : decode cX6_copyFrom 61 = .ok (.putfield 33, 3) := by decide +kernel
theorem dX6_copyFrom_64 : decode cX6_copyFrom 64 = .ok (.aload_n 0, 1) := by decide +kernel
theorem dX6_copyFrom_65 : decode cX6_copyFrom 65 = .ok (.aload_n 1, 1) := by decide +kernel
theorem dX6_copyFrom_66 : decode cX6_copyFrom 66 = .ok (.getfield 36, 3) := by decide +kernel
theorem dX6_copyFrom_69 : decode cX6_copyFrom 69 = .ok (.putfield 36, 3) := by decide +kernel
theorem dX6_copyFrom_72 : decode cX6_copyFrom 72 = .ok (.return_, 1) := by decide +kernel
theorem dX7_init_0 : decode cX7_init 0 = .ok (.aload_n 0, 1) := by decide +kernel
theorem dX7_init_1 : decode cX7_init 1 = .ok (.invokespecial 3, 3) := by decide +kernel
theorem dX7_init_4 : decode cX7_init 4 = .ok (.aload_n 0, 1) := by decide +kernel
theorem dX7_init_5 : decode cX7_init 5 = .ok (.new 9, 3) := by decide +kernel
theorem dX7_init_8 : decode cX7_init 8 = .ok (.dup, 1) := by decide +kernel
theorem dX7_init_9 : decode cX7_init 9 = .ok (.invokespecial 11, 3) := by decide +kernel
theorem dX7_init_12 : decode cX7_init 12 = .ok (.putfield 12, 3) := by decide +kernel
theorem dX7_init_15 : decode cX7_init 15 = .ok (.aload_n 0, 1) := by decide +kernel
theorem dX7_init_16 : decode cX7_init 16 = .ok (.new 18, 3) := by decide +kernel
theorem dX7_init_19 : decode cX7_init 19 = .ok (.dup, 1) := by decide +kernel
theorem dX7_init_20 : decode cX7_init 20 = .ok (.invokespecial 20, 3) := by decide +kernel
theorem dX7_init_23 : decode cX7_init 23 = .ok (.putfield 21, 3) := by decide +kernel
theorem dX7_init_26 : decode cX7_init 26 = .ok (.return_, 1) := by decide +kernel
theorem dX7_load_0 : decode cX7_load 0 = .ok (.aload_n 0, 1) := by decide +kernel
theorem dX7_load_1 : decode cX7_load 1 = .ok (.getfield 12, 3) := by decide +kernel
theorem dX7_load_4 : decode cX7_load 4 = .ok (.aload_n 1, 1) := by decide +kernel
theorem dX7_load_5 : decode cX7_load 5 = .ok (.invokevirtual 25, 3) := by decide +kernel
theorem dX7_load_8 : decode cX7_load 8 = .ok (.aload_n 0, 1) := by decide +kernel
theorem dX7_load_9 : decode cX7_load 9 = .ok (.getfield 21, 3) := by decide +kernel
theorem dX7_load_12 : decode cX7_load 12 = .ok (.invokevirtual 29, 3) := by decide +kernel
theorem dX7_load_15 : decode cX7_load 15 = .ok (.return_, 1) := by decide +kernel
theorem dX7_clearBoard_0 : decode cX7_clearBoard 0 = .ok (.aload_n 0, 1) := by decide +kernel
theorem dX7_clearBoard_1 : decode cX7_clearBoard 1 = .ok (.getfield 12, 3) := by decide +kernel
theorem dX7_clearBoard_4 : decode cX7_clearBoard 4 = .ok (.iload_n 1, 1) := by decide +kernel
theorem dX7_clearBoard_5 : decode cX7_clearBoard 5 = .ok (.putfield 32, 3) := by decide +kernel
theorem dX7_clearBoard_8 : decode cX7_clearBoard 8 = .ok (.aload_n 0, 1) := by decide +kernel
theorem dX7_clearBoard_9 : decode cX7_clearBoard 9 = .ok (.getfield 12, 3) := by decide +kernel
theorem dX7_clearBoard_12 : decode cX7_clearBoard 12 = .ok (.iload_n 2, 1) := by decide +kernel
theorem dX7_clearBoard_13 : decode cX7_clearBoard 13 = .ok (.putfield 36, 3) := by decide +kernel
theorem dX7_clearBoard_16 : decode cX7_clearBoard 16 = .ok (.aload_n 0, 1) := by decide +kernel
theorem dX7_clearBoard_17 : decode cX7_clearBoard 17 = .ok (.getfield 12, 3) := by decide +kernel
theorem dX7_clearBoard_20 : decode cX7_clearBoard 20 = .ok (.getfield 39, 3) := by decide +kernel
theorem dX7_clearBoard_23 : decode cX7_clearBoard 23 = .ok (.iconst 0, 1) := by decide +kernel
theorem dX7_clearBoard_24 : decode cX7_clearBoard 24 = .ok (.invokestatic 43, 3) := by decide +kernel
theorem dX7_clearBoard_27 : decode cX7_clearBoard 27 = .ok (.aload_n 0, 1) := by decide +kernel
theorem dX7_clearBoard_28 : decode cX7_clearBoard 28 = .ok (.getfield 12, 3) := by decide +kernel
theorem dX7_clearBoard_31 : decode cX7_clearBoard 31 = .ok (.iconst 0, 1) := by decide +kernel
theorem dX7_clearBoard_32 : decode cX7_clearBoard 32 = .ok (.putfield 49, 3) := by decide +kernel
theorem dX7_clearBoard_35 : decode cX7_clearBoard 35 = .ok (.aload_n 0, 1) := by decide +kernel
theorem dX7_clearBoard_36 : decode cX7_clearBoard 36 = .ok (.getfield 12, 3) := by decide +kernel
theorem dX7_clearBoard_39 : decode cX7_clearBoard 39 = .ok (.iconst 0, 1) := by decide +kernel
theorem dX7_clearBoard_40 : decode cX7_clearBoard 40 = .ok (.putfield 52, 3) := by decide +kernel
theorem dX7_clearBoard_43 : decode cX7_clearBoard 43 = .ok (.aload_n 0, 1) := by decide +kernel
theorem dX7_clearBoard_44 : decode cX7_clearBoard 44 = .ok (.getfield 12, 3) := by decide +kernel
theorem dX7_clearBoard_47 : decode cX7_clearBoard 47 = .ok (.iconst 0, 1) := by decide +kernel
theorem dX7_clearBoard_48 : decode cX7_clearBoard 48 = .ok (.putfield 55, 3) := by decide +kernel
theorem dX7_clearBoard_51 : decode cX7_clearBoard 51 = .ok (.aload_n 0, 1) := by decide +kernel
theorem dX7_clearBoard_52 : decode cX7_clearBoard 52 = .ok (.getfield 21, 3) := by decide +kernel
theorem dX7_clearBoard_55 : decode cX7_clearBoard 55 = .ok (.invokevirtual 29, 3) := by decide +kernel
theorem dX7_clearBoard_58 : decode cX7_clearBoard 58 = .ok (.return_, 1) := by decide +kernel
theorem dX7_setChips_0 : decode cX7_setChips 0 = .ok (.iload_n 1, 1) := by decide +kernel
theorem dX7_setChips_1 : decode cX7_setChips 1 = .ok (.ifCond .lt 10, 3) := by decide +kernel
theorem dX7_setChips_4 : decode cX7_setChips 4 = .ok (.iload_n 1, 1) := by decide +kernel
theorem dX7_setChips_5 : decode cX7_setChips 5 = .ok (.sipush 256, 3) := by decide +kernel
theorem dX7_setChips_8 : decode cX7_setChips 8 = .ok (.if_icmp .lt 4, 3) := by decide +kernel
theorem dX7_setChips_11 : decode cX7_setChips 11 = .ok (.return_, 1) := by decide +kernel
theorem dX7_setChips_12 : decode cX7_setChips 12 = .ok (.aload_n 0, 1) := by decide +kernel
theorem dX7_setChips_13 : decode cX7_setChips 13 = .ok (.getfield 12, 3) := by decide +kernel
theorem dX7_setChips_16 : decode cX7_setChips 16 = .ok (.getfield 39, 3) := by decide +kernel
theorem dX7_setChips_19 : decode cX7_setChips 19 = .ok (.iload_n 1, 1) := by decide +kernel
theorem dX7_setChips_20 : decode cX7_setChips 20 = .ok (.iaload, 1) := by decide +kernel
theorem dX7_setChips_21 : decode cX7_setChips 21 = .ok (.istore_n 3, 1) := by decide +kernel
theorem dX7_setChips_22 : decode cX7_setChips 22 = .ok (.aload_n 0, 1) := by decide +kernel
theorem dX7_setChips_23 : decode cX7_setChips 23 = .ok (.getfield 12, 3) := by decide +kernel
theorem dX7_setChips_26 : decode cX7_setChips 26 = .ok (.getfield 39, 3) := by decide +kernel
theorem dX7_setChips_29 : decode cX7_setChips 29 = .ok (.iload_n 1, 1) := by decide +kernel
theorem dX7_setChips_30 : decode cX7_setChips 30 = .ok (.iload_n 2, 1) := by decide +kernel
theorem dX7_setChips_31 : decode cX7_setChips 31 = .ok (.iastore, 1) := by decide +kernel
theorem dX7_setChips_32 : decode cX7_setChips 32 = .ok (.aload_n 0, 1) := by decide +kernel
theorem dX7_setChips_33 : decode cX7_setChips 33 = .ok (.getfield 21, 3) := by decide +kernel
theorem dX7_setChips_36 : decode cX7_setChips 36 = .ok (.iload_n 1, 1) := by decide +kernel
theorem dX7_setChips_37 : decode cX7_setChips 37 = .ok (.iload_n 3, 1) := by decide +kernel
theorem dX7_setChips_38 : decode cX7_setChips 38 = .ok (.iload_n 2, 1) := by decide +kernel
theorem dX7_setChips_39 : decode cX7_setChips 39 = .ok (.invokevirtual 58, 3) := by decide +kernel
theorem dX7_setChips_42 : decode cX7_setChips 42 = .ok (.return_, 1) := by decide +kernel
theorem dX7_chipsUnder_0 : decode cX7_chipsUnder 0 = .ok (.aload_n 0, 1) := by decide +kernel
theorem dX7_chipsUnder_1 : decode cX7_chipsUnder 1 = .ok (.getfield 12, 3) := by decide +kernel
theorem dX7_chipsUnder_4 : decode cX7_chipsUnder 4 = .ok (.aload_n 1, 1) := by decide +kernel
theorem dX7_chipsUnder_5 : decode cX7_chipsUnder 5 = .ok (.invokevirtual 62, 3) := by decide +kernel
theorem dX7_chipsUnder_8 : decode cX7_chipsUnder 8 = .ok (.invokevirtual 68, 3) := by decide +kernel
theorem dX7_chipsUnder_11 : decode cX7_chipsUnder 11 = .ok (.ireturn, 1) := by decide +kernel
theorem dX7_strewOver_0 : decode cX7_strewOver 0 = .ok (.iconst 0, 1) := by decide +kernel
theorem dX7_strewOver_1 : decode cX7_strewOver 1 = .ok (.istore 5, 2) := by decide +kernel
theorem dX7_strewOver_3 : decode cX7_strewOver 3 = .ok (.iconst 0, 1) := by decide +kernel
theorem dX7_strewOver_4 : decode cX7_strewOver 4 = .ok (.istore 6, 2) := by decide +kernel
theorem dX7_strewOver_6 : decode cX7_strewOver 6 = .ok (.iload 6, 2) := by decide +kernel
theorem dX7_strewOver_8 : decode cX7_strewOver 8 = .ok (.aload_n 0, 1) := by decide +kernel
theorem dX7_strewOver_9 : decode cX7_strewOver 9 = .ok (.getfield 12, 3) := by decide +kernel
theorem dX7_strewOver_12 : decode cX7_strewOver 12 = .ok (.getfield 32, 3) := by decide +kernel
theorem dX7_strewOver_15 : decode cX7_strewOver 15 = .ok (.if_icmp .ge 97, 3) := by decide +kernel
theorem dX7_strewOver_18 : decode cX7_strewOver 18 = .ok (.iconst 0, 1) := by decide +kernel
theorem dX7_strewOver_19 : decode cX7_strewOver 19 = .ok (.istore 7, 2) := by decide +kernel
theorem dX7_strewOver_21 : decode cX7_strewOver 21 = .ok (.iload 7, 2) := by decide +kernel
theorem dX7_strewOver_23 : decode cX7_strewOver 23 = .ok (.aload_n 0, 1) := by decide +kernel
theorem dX7_strewOver_24 : decode cX7_strewOver 24 = .ok (.getfield 12, 3) := by decide +kernel
theorem dX7_strewOver_27 : decode cX7_strewOver 27 = .ok (.getfield 36, 3) := by decide +kernel
theorem dX7_strewOver_30 : decode cX7_strewOver 30 = .ok (.if_icmp .ge 76, 3) := by decide +kernel
theorem dX7_strewOver_33 : decode cX7_strewOver 33 = .ok (.aload_n 0, 1) := by decide +kernel
theorem dX7_strewOver_34 : decode cX7_strewOver 34 = .ok (.getfield 12, 3) := by decide +kernel
theorem dX7_strewOver_37 : decode cX7_strewOver 37 = .ok (.iload 6, 2) := by decide +kernel
theorem dX7_strewOver_39 : decode cX7_strewOver 39 = .ok (.iload 7, 2) := by decide +kernel
theorem dX7_strewOver_41 : decode cX7_strewOver 41 = .ok (.invokevirtual 72, 3) := by decide +kernel
theorem dX7_strewOver_44 : decode cX7_strewOver 44 = .ok (.istore 8, 2) := by decide +kernel
theorem dX7_strewOver_46 : decode cX7_strewOver 46 = .ok (.aload_n 0, 1) := by decide +kernel
theorem dX7_strewOver_47 : decode cX7_strewOver 47 = .ok (.getfield 12, 3) := by decide +kernel
theorem dX7_strewOver_50 : decode cX7_strewOver 50 = .ok (.iload 8, 2) := by decide +kernel
theorem dX7_strewOver_52 : decode cX7_strewOver 52 = .ok (.invokevirtual 68, 3) := by decide +kernel
theorem dX7_strewOver_55 : decode cX7_strewOver 55 = .ok (.istore 9, 2) := by decide +kernel
theorem dX7_strewOver_57 : decode cX7_strewOver 57 = .ok (.iload_n 3, 1) := by decide +kernel
theorem dX7_strewOver_58 : decode cX7_strewOver 58 = .ok (.ifCond .le 42, 3) := by decide +kernel
theorem dX7_strewOver_61 : decode cX7_strewOver 61 = .ok (.iload 6, 2) := by decide +kernel
theorem dX7_strewOver_63 : decode cX7_strewOver 63 = .ok (.iload_n 1, 1) := by decide +kernel
theorem dX7_strewOver_64 : decode cX7_strewOver 64 = .ok (.imul, 1) := by decide +kernel
theorem dX7_strewOver_65 : decode cX7_strewOver 65 = .ok (.iload 7, 2) := by decide +kernel
theorem dX7_strewOver_67 : decode cX7_strewOver 67 = .ok (.iload_n 2, 1) := by decide +kernel
theorem dX7_strewOver_68 : decode cX7_strewOver 68 = .ok (.imul, 1) := by decide +kernel
theorem dX7_strewOver_69 : decode cX7_strewOver 69 = .ok (.iadd, 1) := by decide +kernel
theorem dX7_strewOver_70 : decode cX7_strewOver 70 = .ok (.iload_n 3, 1) := by decide +kernel
theorem dX7_strewOver_71 : decode cX7_strewOver 71 = .ok (.irem, 1) := by decide +kernel
theorem dX7_strewOver_72 : decode cX7_strewOver 72 = .ok (.ifCond .ne 28, 3) := by decide +kernel
theorem dX7_strewOver_75 : decode cX7_strewOver 75 = .ok (.iload 9, 2) := by decide +kernel
theorem dX7_strewOver_77 : decode cX7_strewOver 77 = .ok (.bipush 99, 2) := by decide +kernel
theorem dX7_strewOver_79 : decode cX7_strewOver 79 = .ok (.if_icmp .ge 21, 3) := by decide +kernel
theorem dX7_strewOver_82 : decode cX7_strewOver 82 = .ok (.iinc 5 1, 3) := by decide +kernel
theorem dX7_strewOver_85 : decode cX7_strewOver 85 = .ok (.iload 4, 2) := by decide +kernel
theorem dX7_strewOver_87 : decode cX7_strewOver 87 = .ok (.ifCond .eq 13, 3) := by decide +kernel
theorem dX7_strewOver_90 : decode cX7_strewOver 90 = .ok (.aload_n 0, 1) := by decide +kernel
theorem dX7_strewOver_91 : decode cX7_strewOver 91 = .ok (.iload 8, 2) := by decide +kernel
theorem dX7_strewOver_93 : decode cX7_strewOver 93 = .ok (.iload 9, 2) := by decide +kernel
theorem dX7_strewOver_95 : decode cX7_strewOver 95 = .ok (.iconst 1, 1) := by decide +kernel
theorem dX7_strewOver_96 : decode cX7_strewOver 96 = .ok (.iadd, 1) := by decide +kernel
theorem dX7_strewOver_97 : decode cX7_strewOver 97 = .ok (.invokevirtual 76, 3) := by decide +kernel
theorem dX7_strewOver_100 : decode cX7_strewOver 100 = .ok (.iinc 7 1, 3) := by decide +kernel
theorem dX7_strewOver_103 : decode cX7_strewOver 103 = .ok (.goto (-82), 3) := by decide +kernel
theorem dX7_strewOver_106 : decode cX7_strewOver 106 = .ok (.iinc 6 1, 3) := by decide +kernel
theorem dX7_strewOver_109 : decode cX7_strewOver 109 = .ok (.goto (-103), 3) := by decide +kernel
theorem dX7_strewOver_112 : decode cX7_strewOver 112 = .ok (.iload 5, 2) := by decide +kernel
theorem dX7_strewOver_114 : decode cX7_strewOver 114 = .ok (.ireturn, 1) := by decide +kernel
theorem dX7_pickUp_0 : decode cX7_pickUp 0 = .ok (.aload_n 0, 1) := by decide +kernel
theorem dX7_pickUp_1 : decode cX7_pickUp 1 = .ok (.aload_n 1, 1) := by decide +kernel
theorem dX7_pickUp_2 : decode cX7_pickUp 2 = .ok (.invokevirtual 62, 3) := by decide +kernel
theorem dX7_pickUp_5 : decode cX7_pickUp 5 = .ok (.aload_n 0, 1) := by decide +kernel
theorem dX7_pickUp_6 : decode cX7_pickUp 6 = .ok (.aload_n 1, 1) := by decide +kernel
theorem dX7_pickUp_7 : decode cX7_pickUp 7 = .ok (.invokevirtual 80, 3) := by decide +kernel
theorem dX7_pickUp_10 : decode cX7_pickUp 10 = .ok (.iload_n 2, 1) := by decide +kernel
theorem dX7_pickUp_11 : decode cX7_pickUp 11 = .ok (.isub, 1) := by decide +kernel
theorem dX7_pickUp_12 : decode cX7_pickUp 12 = .ok (.invokevirtual 76, 3) := by decide +kernel
theorem dX7_pickUp_15 : decode cX7_pickUp 15 = .ok (.aload_n 1, 1) := by decide +kernel
theorem dX7_pickUp_16 : decode cX7_pickUp 16 = .ok (.dup, 1) := by decide +kernel
theorem dX7_pickUp_17 : decode cX7_pickUp 17 = .ok (.getfield 84, 3) := by decide +kernel
theorem dX7_pickUp_20 : decode cX7_pickUp 20 = .ok (.iload_n 2, 1) := by decide +kernel
theorem dX7_pickUp_21 : decode cX7_pickUp 21 = .ok (.iadd, 1) := by decide +kernel
theorem dX7_pickUp_22 : decode cX7_pickUp 22 = .ok (.putfield 84, 3) := by decide +kernel
theorem dX7_pickUp_25 : decode cX7_pickUp 25 = .ok (.iload_n 2, 1) := by decide +kernel
theorem dX7_pickUp_26 : decode cX7_pickUp 26 = .ok (.ifCond .le 16, 3) := by decide +kernel
theorem dX7_pickUp_29 : decode cX7_pickUp 29 = .ok (.aload_n 1, 1) := by decide +kernel
theorem dX7_pickUp_30 : decode cX7_pickUp 30 = .ok (.dup, 1) := by decide +kernel
theorem dX7_pickUp_31 : decode cX7_pickUp 31 = .ok (.getfield 87, 3) := by decide +kernel
theorem dX7_pickUp_34 : decode cX7_pickUp 34 = .ok (.iload_n 2, 1) := by decide +kernel
theorem dX7_pickUp_35 : decode cX7_pickUp 35 = .ok (.iadd, 1) := by decide +kernel
theorem dX7_pickUp_36 : decode cX7_pickUp 36 = .ok (.putfield 87, 3) := by decide +kernel
theorem dX7_pickUp_39 : decode cX7_pickUp 39 = .ok (.goto 13, 3) := by decide +kernel
theorem dX7_pickUp_42 : decode cX7_pickUp 42 = .ok (.aload_n 1, 1) := by decide +kernel
theorem dX7_pickUp_43 : decode cX7_pickUp 43 = .ok (.dup, 1) := by decide +kernel
theorem dX7_pickUp_44 : decode cX7_pickUp 44 = .ok (.getfield 90, 3) := by decide +kernel
theorem dX7_pickUp_47 : decode cX7_pickUp 47 = .ok (.iload_n 2, 1) := by decide +kernel
theorem dX7_pickUp_48 : decode cX7_pickUp 48 = .ok (.isub, 1) := by decide +kernel
theorem dX7_pickUp_49 : decode cX7_pickUp 49 = .ok (.putfield 90, 3) := by decide +kernel
theorem dX7_pickUp_52 : decode cX7_pickUp 52 = .ok (.return_, 1) := by decide +kernel
theorem dX7_makeRounds_0 : decode cX7_makeRounds 0 = .ok (.iconst 0, 1) := by decide +kernel
theorem dX7_makeRounds_1 : decode cX7_makeRounds 1 = .ok (.istore_n 2, 1) := by decide +kernel
theorem dX7_makeRounds_2 : decode cX7_makeRounds 2 = .ok (.iload_n 2, 1) := by decide +kernel
theorem dX7_makeRounds_3 : decode cX7_makeRounds 3 = .ok (.iload_n 1, 1) := by decide +kernel
theorem dX7_makeRounds_4 : decode cX7_makeRounds 4 = .ok (.if_icmp .ge 49, 3) := by decide +kernel
theorem dX7_makeRounds_7 : decode cX7_makeRounds 7 = .ok (.iconst 0, 1) := by decide +kernel
theorem dX7_makeRounds_8 : decode cX7_makeRounds 8 = .ok (.istore_n 3, 1) := by decide +kernel
theorem dX7_makeRounds_9 : decode cX7_makeRounds 9 = .ok (.iload_n 3, 1) := by decide +kernel
theorem dX7_makeRounds_10 : decode cX7_makeRounds 10 = .ok (.aload_n 0, 1) := by decide +kernel
theorem dX7_makeRounds_11 : decode cX7_makeRounds 11 = .ok (.getfield 12, 3) := by decide +kernel
theorem dX7_makeRounds_14 : decode cX7_makeRounds 14 = .ok (.getfield 49, 3) := by decide +kernel
theorem dX7_makeRounds_17 : decode cX7_makeRounds 17 = .ok (.if_icmp .ge 30, 3) := by decide +kernel
theorem dX7_makeRounds_20 : decode cX7_makeRounds 20 = .ok (.aload_n 0, 1) := by decide +kernel
theorem dX7_makeRounds_21 : decode cX7_makeRounds 21 = .ok (.getfield 12, 3) := by decide +kernel
theorem dX7_makeRounds_24 : decode cX7_makeRounds 24 = .ok (.iload_n 3, 1) := by decide +kernel
theorem dX7_makeRounds_25 : decode cX7_makeRounds 25 = .ok (.invokevirtual 93, 3) := by decide +kernel
theorem dX7_makeRounds_28 : decode cX7_makeRounds 28 = .ok (.astore 4, 2) := by decide +kernel
theorem dX7_makeRounds_30 : decode cX7_makeRounds 30 = .ok (.aload 4, 2) := by decide +kernel
theorem dX7_makeRounds_32 : decode cX7_makeRounds 32 = .ok (.ifnull 9, 3) := by decide +kernel
theorem dX7_makeRounds_35 : decode cX7_makeRounds 35 = .ok (.aload_n 0, 1) := by decide +kernel
theorem dX7_makeRounds_36 : decode cX7_makeRounds 36 = .ok (.aload 4, 2) := by decide +kernel
theorem dX7_makeRounds_38 : decode cX7_makeRounds 38 = .ok (.invokevirtual 97, 3) := by decide +kernel
theorem dX7_makeRounds_41 : decode cX7_makeRounds 41 = .ok (.iinc 3 1, 3) := by decide +kernel
theorem dX7_makeRounds_44 : decode cX7_makeRounds 44 = .ok (.goto (-35), 3) := by decide +kernel
theorem dX7_makeRounds_47 : decode cX7_makeRounds 47 = .ok (.iinc 2 1, 3) := by decide +kernel
theorem dX7_makeRounds_50 : decode cX7_makeRounds 50 = .ok (.goto (-48), 3) := by decide +kernel
theorem dX7_makeRounds_53 : decode cX7_makeRounds 53 = .ok (.return_, 1) := by decide +kernel
theorem dX7_makeStep_0 : decode cX7_makeStep 0 = .ok (.aload_n 1, 1) := by decide +kernel
theorem dX7_makeStep_1 : decode cX7_makeStep 1 = .ok (.getfield 101, 3) := by decide +kernel
theorem dX7_makeStep_4 : decode cX7_makeStep 4 = .ok (.aload_n 0, 1) := by decide +kernel
theorem dX7_makeStep_5 : decode cX7_makeStep 5 = .ok (.getfield 12, 3) := by decide +kernel
theorem dX7_makeStep_8 : decode cX7_makeStep 8 = .ok (.getfield 104, 3) := by decide +kernel
theorem dX7_makeStep_11 : decode cX7_makeStep 11 = .ok (.invokevirtual 108, 3) := by decide +kernel
theorem dX7_makeStep_14 : decode cX7_makeStep 14 = .ok (.invokestatic 113, 3) := by decide +kernel
theorem dX7_makeStep_17 : decode cX7_makeStep 17 = .ok (.istore_n 2, 1) := by decide +kernel
theorem dX7_makeStep_18 : decode cX7_makeStep 18 = .ok (.iconst 0, 1) := by decide +kernel
theorem dX7_makeStep_19 : decode cX7_makeStep 19 = .ok (.istore_n 3, 1) := by decide +kernel
theorem dX7_makeStep_20 : decode cX7_makeStep 20 = .ok (.iload_n 3, 1) := by decide +kernel
theorem dX7_makeStep_21 : decode cX7_makeStep 21 = .ok (.iconst 3, 1) := by decide +kernel
theorem dX7_makeStep_22 : decode cX7_makeStep 22 = .ok (.if_icmp .ge 24, 3) := by decide +kernel
theorem dX7_makeStep_25 : decode cX7_makeStep 25 = .ok (.aload_n 0, 1) := by decide +kernel
theorem dX7_makeStep_26 : decode cX7_makeStep 26 = .ok (.aload_n 1, 1) := by decide +kernel
theorem dX7_makeStep_27 : decode cX7_makeStep 27 = .ok (.iload_n 2, 1) := by decide +kernel
theorem dX7_makeStep_28 : decode cX7_makeStep 28 = .ok (.invokevirtual 116, 3) := by decide +kernel
theorem dX7_makeStep_31 : decode cX7_makeStep 31 = .ok (.ifCond .eq 15, 3) := by decide +kernel
theorem dX7_makeStep_34 : decode cX7_makeStep 34 = .ok (.iload_n 2, 1) := by decide +kernel
theorem dX7_makeStep_35 : decode cX7_makeStep 35 = .ok (.iconst 1, 1) := by decide +kernel
theorem dX7_makeStep_36 : decode cX7_makeStep 36 = .ok (.invokestatic 120, 3) := by decide +kernel
theorem dX7_makeStep_39 : decode cX7_makeStep 39 = .ok (.istore_n 2, 1) := by decide +kernel
theorem dX7_makeStep_40 : decode cX7_makeStep 40 = .ok (.iinc 3 1, 3) := by decide +kernel
theorem dX7_makeStep_43 : decode cX7_makeStep 43 = .ok (.goto (-23), 3) := by decide +kernel
theorem dX7_makeStep_46 : decode cX7_makeStep 46 = .ok (.aload_n 0, 1) := by decide +kernel
theorem dX7_makeStep_47 : decode cX7_makeStep 47 = .ok (.aload_n 1, 1) := by decide +kernel
theorem dX7_makeStep_48 : decode cX7_makeStep 48 = .ok (.iload_n 2, 1) := by decide +kernel
theorem dX7_makeStep_49 : decode cX7_makeStep 49 = .ok (.invokevirtual 123, 3) := by decide +kernel
theorem dX7_makeStep_52 : decode cX7_makeStep 52 = .ok (.return_, 1) := by decide +kernel
theorem dX7_obey_0 : decode cX7_obey 0 = .ok (.aload_n 0, 1) := by decide +kernel
theorem dX7_obey_1 : decode cX7_obey 1 = .ok (.aload_n 1, 1) := by decide +kernel
theorem dX7_obey_2 : decode cX7_obey 2 = .ok (.invokevirtual 80, 3) := by decide +kernel
theorem dX7_obey_5 : decode cX7_obey 5 = .ok (.istore 4, 2) := by decide +kernel
theorem dX7_obey_7 : decode cX7_obey 7 = .ok (.iload_n 2, 1) := by decide +kernel
theorem dX7_obey_8 : decode cX7_obey 8 = .ok (.bipush 103, 2) := by decide +kernel
theorem dX7_obey_10 : decode cX7_obey 10 = .ok (.if_icmp .ne 29, 3) := by decide +kernel
theorem dX7_obey_13 : decode cX7_obey 13 = .ok (.aload_n 0, 1) := by decide +kernel
theorem dX7_obey_14 : decode cX7_obey 14 = .ok (.aload_n 1, 1) := by decide +kernel
theorem dX7_obey_15 : decode cX7_obey 15 = .ok (.iload_n 3, 1) := by decide +kernel
theorem dX7_obey_16 : decode cX7_obey 16 = .ok (.iload 4, 2) := by decide +kernel
theorem dX7_obey_18 : decode cX7_obey 18 = .ok (.aload_n 1, 1) := by decide +kernel
theorem dX7_obey_19 : decode cX7_obey 19 = .ok (.getfield 127, 3) := by decide +kernel
theorem dX7_obey_22 : decode cX7_obey 22 = .ok (.aload_n 1, 1) := by decide +kernel
theorem dX7_obey_23 : decode cX7_obey 23 = .ok (.getfield 84, 3) := by decide +kernel
theorem dX7_obey_26 : decode cX7_obey 26 = .ok (.isub, 1) := by decide +kernel
theorem dX7_obey_27 : decode cX7_obey 27 = .ok (.invokestatic 130, 3) := by decide +kernel
theorem dX7_obey_30 : decode cX7_obey 30 = .ok (.invokestatic 130, 3) := by decide +kernel
theorem dX7_obey_33 : decode cX7_obey 33 = .ok (.invokevirtual 135, 3) := by decide +kernel
theorem dX7_obey_36 : decode cX7_obey 36 = .ok (.goto 72, 3) := by decide +kernel
theorem dX7_obey_39 : decode cX7_obey 39 = .ok (.iload_n 2, 1) := by decide +kernel
theorem dX7_obey_40 : decode cX7_obey 40 = .ok (.bipush 100, 2) := by decide +kernel
theorem dX7_obey_42 : decode cX7_obey 42 = .ok (.if_icmp .ne 28, 3) := by decide +kernel
theorem dX7_obey_45 : decode cX7_obey 45 = .ok (.aload_n 0, 1) := by decide +kernel
theorem dX7_obey_46 : decode cX7_obey 46 = .ok (.aload_n 1, 1) := by decide +kernel
theorem dX7_obey_47 : decode cX7_obey 47 = .ok (.iload_n 3, 1) := by decide +kernel
theorem dX7_obey_48 : decode cX7_obey 48 = .ok (.aload_n 1, 1) := by decide +kernel
theorem dX7_obey_49 : decode cX7_obey 49 = .ok (.getfield 84, 3) := by decide +kernel
theorem dX7_obey_52 : decode cX7_obey 52 = .ok (.bipush 99, 2) := by decide +kernel
theorem dX7_obey_54 : decode cX7_obey 54 = .ok (.iload 4, 2) := by decide +kernel
theorem dX7_obey_56 : decode cX7_obey 56 = .ok (.isub, 1) := by decide +kernel
theorem dX7_obey_57 : decode cX7_obey 57 = .ok (.invokestatic 130, 3) := by decide +kernel
theorem dX7_obey_60 : decode cX7_obey 60 = .ok (.invokestatic 130, 3) := by decide +kernel
theorem dX7_obey_63 : decode cX7_obey 63 = .ok (.ineg, 1) := by decide +kernel
theorem dX7_obey_64 : decode cX7_obey 64 = .ok (.invokevirtual 135, 3) := by decide +kernel
theorem dX7_obey_67 : decode cX7_obey 67 = .ok (.goto 41, 3) := by decide +kernel
theorem dX7_obey_70 : decode cX7_obey 70 = .ok (.iload_n 2, 1) := by decide +kernel
theorem dX7_obey_71 : decode cX7_obey 71 = .ok (.invokestatic 138, 3) := by decide +kernel
theorem dX7_obey_74 : decode cX7_obey 74 = .ok (.istore 5, 2) := by decide +kernel
theorem dX7_obey_76 : decode cX7_obey 76 = .ok (.iconst 0, 1) := by decide +kernel
theorem dX7_obey_77 : decode cX7_obey 77 = .ok (.istore 6, 2) := by decide +kernel
theorem dX7_obey_79 : decode cX7_obey 79 = .ok (.iload 6, 2) := by decide +kernel
theorem dX7_obey_81 : decode cX7_obey 81 = .ok (.iload_n 3, 1) := by decide +kernel
theorem dX7_obey_82 : decode cX7_obey 82 = .ok (.if_icmp .ge 26, 3) := by decide +kernel
theorem dX7_obey_85 : decode cX7_obey 85 = .ok (.aload_n 0, 1) := by decide +kernel
theorem dX7_obey_86 : decode cX7_obey 86 = .ok (.aload_n 1, 1) := by decide +kernel
theorem dX7_obey_87 : decode cX7_obey 87 = .ok (.iload 5, 2) := by decide +kernel
theorem dX7_obey_89 : decode cX7_obey 89 = .ok (.invokevirtual 116, 3) := by decide +kernel
theorem dX7_obey_92 : decode cX7_obey 92 = .ok (.ifCond .ne 16, 3) := by decide +kernel
theorem dX7_obey_95 : decode cX7_obey 95 = .ok (.aload_n 0, 1) := by decide +kernel
theorem dX7_obey_96 : decode cX7_obey 96 = .ok (.aload_n 1, 1) := by decide +kernel
theorem dX7_obey_97 : decode cX7_obey 97 = .ok (.iload 5, 2) := by decide +kernel
theorem dX7_obey_99 : decode cX7_obey 99 = .ok (.invokevirtual 123, 3) := by decide +kernel
theorem dX7_obey_102 : decode cX7_obey 102 = .ok (.iinc 6 1, 3) := by decide +kernel
theorem dX7_obey_105 : decode cX7_obey 105 = .ok (.goto (-26), 3) := by decide +kernel
theorem dX7_obey_108 : decode cX7_obey 108 = .ok (.return_, 1) := by decide +kernel
theorem dX7_stepAhead_0 : decode cX7_stepAhead 0 = .ok (.aload_n 1, 1) := by decide +kernel
theorem dX7_stepAhead_1 : decode cX7_stepAhead 1 = .ok (.iload_n 2, 1) := by decide +kernel
theorem dX7_stepAhead_2 : decode cX7_stepAhead 2 = .ok (.putfield 101, 3) := by decide +kernel
theorem dX7_stepAhead_5 : decode cX7_stepAhead 5 = .ok (.aload_n 1, 1) := by decide +kernel
theorem dX7_stepAhead_6 : decode cX7_stepAhead 6 = .ok (.aload_n 1, 1) := by decide +kernel
theorem dX7_stepAhead_7 : decode cX7_stepAhead 7 = .ok (.iload_n 2, 1) := by decide +kernel
theorem dX7_stepAhead_8 : decode cX7_stepAhead 8 = .ok (.invokestatic 142, 3) := by decide +kernel
theorem dX7_stepAhead_11 : decode cX7_stepAhead 11 = .ok (.putfield 146, 3) := by decide +kernel
theorem dX7_stepAhead_14 : decode cX7_stepAhead 14 = .ok (.aload_n 1, 1) := by decide +kernel
theorem dX7_stepAhead_15 : decode cX7_stepAhead 15 = .ok (.aload_n 1, 1) := by decide +kernel
theorem dX7_stepAhead_16 : decode cX7_stepAhead 16 = .ok (.iload_n 2, 1) := by decide +kernel
theorem dX7_stepAhead_17 : decode cX7_stepAhead 17 = .ok (.invokestatic 149, 3) := by decide +kernel
theorem dX7_stepAhead_20 : decode cX7_stepAhead 20 = .ok (.putfield 152, 3) := by decide +kernel
theorem dX7_stepAhead_23 : decode cX7_stepAhead 23 = .ok (.aload_n 1, 1) := by decide +kernel
theorem dX7_stepAhead_24 : decode cX7_stepAhead 24 = .ok (.dup, 1) := by decide +kernel
theorem dX7_stepAhead_25 : decode cX7_stepAhead 25 = .ok (.getfield 155, 3) := by decide +kernel
theorem dX7_stepAhead_28 : decode cX7_stepAhead 28 = .ok (.iconst 1, 1) := by decide +kernel
theorem dX7_stepAhead_29 : decode cX7_stepAhead 29 = .ok (.iadd, 1) := by decide +kernel
theorem dX7_stepAhead_30 : decode cX7_stepAhead 30 = .ok (.putfield 155, 3) := by decide +kernel
theorem dX7_stepAhead_33 : decode cX7_stepAhead 33 = .ok (.aload_n 0, 1) := by decide +kernel
theorem dX7_stepAhead_34 : decode cX7_stepAhead 34 = .ok (.getfield 21, 3) := by decide +kernel
theorem dX7_stepAhead_37 : decode cX7_stepAhead 37 = .ok (.aload_n 0, 1) := by decide +kernel
theorem dX7_stepAhead_38 : decode cX7_stepAhead 38 = .ok (.getfield 12, 3) := by decide +kernel
theorem dX7_stepAhead_41 : decode cX7_stepAhead 41 = .ok (.getfield 39, 3) := by decide +kernel
theorem dX7_stepAhead_44 : decode cX7_stepAhead 44 = .ok (.invokevirtual 158, 3) := by decide +kernel
theorem dX7_stepAhead_47 : decode cX7_stepAhead 47 = .ok (.istore_n 3, 1) := by decide +kernel
theorem dX7_stepAhead_48 : decode cX7_stepAhead 48 = .ok (.aload_n 0, 1) := by decide +kernel
theorem dX7_stepAhead_49 : decode cX7_stepAhead 49 = .ok (.aload_n 1, 1) := by decide +kernel
theorem dX7_stepAhead_50 : decode cX7_stepAhead 50 = .ok (.aload_n 0, 1) := by decide +kernel
theorem dX7_stepAhead_51 : decode cX7_stepAhead 51 = .ok (.aload_n 1, 1) := by decide +kernel
theorem dX7_stepAhead_52 : decode cX7_stepAhead 52 = .ok (.invokevirtual 162, 3) := by decide +kernel
theorem dX7_stepAhead_55 : decode cX7_stepAhead 55 = .ok (.invokevirtual 135, 3) := by decide +kernel
theorem dX7_stepAhead_58 : decode cX7_stepAhead 58 = .ok (.aload_n 0, 1) := by decide +kernel
theorem dX7_stepAhead_59 : decode cX7_stepAhead 59 = .ok (.getfield 21, 3) := by decide +kernel
theorem dX7_stepAhead_62 : decode cX7_stepAhead 62 = .ok (.aload_n 0, 1) := by decide +kernel
theorem dX7_stepAhead_63 : decode cX7_stepAhead 63 = .ok (.getfield 12, 3) := by decide +kernel
theorem dX7_stepAhead_66 : decode cX7_stepAhead 66 = .ok (.getfield 39, 3) := by decide +kernel
theorem dX7_stepAhead_69 : decode cX7_stepAhead 69 = .ok (.invokevirtual 158, 3) := by decide +kernel
theorem dX7_stepAhead_72 : decode cX7_stepAhead 72 = .ok (.iload_n 3, 1) := by decide +kernel
theorem dX7_stepAhead_73 : decode cX7_stepAhead 73 = .ok (.isub, 1) := by decide +kernel
theorem dX7_stepAhead_74 : decode cX7_stepAhead 74 = .ok (.istore 4, 2) := by decide +kernel
theorem dX7_stepAhead_76 : decode cX7_stepAhead 76 = .ok (.aload_n 0, 1) := by decide +kernel
theorem dX7_stepAhead_77 : decode cX7_stepAhead 77 = .ok (.getfield 12, 3) := by decide +kernel
theorem dX7_stepAhead_80 : decode cX7_stepAhead 80 = .ok (.dup, 1) := by decide +kernel
theorem dX7_stepAhead_81 : decode cX7_stepAhead 81 = .ok (.getfield 55, 3) := by decide +kernel
theorem dX7_stepAhead_84 : decode cX7_stepAhead 84 = .ok (.iload 4, 2) := by decide +kernel
theorem dX7_stepAhead_86 : decode cX7_stepAhead 86 = .ok (.iconst 0, 1) := by decide +kernel
theorem dX7_stepAhead_87 : decode cX7_stepAhead 87 = .ok (.invokestatic 165, 3) := by decide +kernel
theorem dX7_stepAhead_90 : decode cX7_stepAhead 90 = .ok (.iadd, 1) := by decide +kernel
theorem dX7_stepAhead_91 : decode cX7_stepAhead 91 = .ok (.putfield 55, 3) := by decide +kernel
theorem dX7_stepAhead_94 : decode cX7_stepAhead 94 = .ok (.aload_n 0, 1) := by decide +kernel
theorem dX7_stepAhead_95 : decode cX7_stepAhead 95 = .ok (.getfield 12, 3) := by decide +kernel
theorem dX7_stepAhead_98 : decode cX7_stepAhead 98 = .ok (.dup, 1) := by decide +kernel
theorem dX7_stepAhead_99 : decode cX7_stepAhead 99 = .ok (.getfield 52, 3) := by decide +kernel
theorem dX7_stepAhead_102 : decode cX7_stepAhead 102 = .ok (.iload 4, 2) := by decide +kernel
theorem dX7_stepAhead_104 : decode cX7_stepAhead 104 = .ok (.ineg, 1) := by decide +kernel
theorem dX7_stepAhead_105 : decode cX7_stepAhead 105 = .ok (.iconst 0, 1) := by decide +kernel
theorem dX7_stepAhead_106 : decode cX7_stepAhead 106 = .ok (.invokestatic 165, 3) := by decide +kernel
theorem dX7_stepAhead_109 : decode cX7_stepAhead 109 = .ok (.iadd, 1) := by decide +kernel
theorem dX7_stepAhead_110 : decode cX7_stepAhead 110 = .ok (.putfield 52, 3) := by decide +kernel
theorem dX7_stepAhead_113 : decode cX7_stepAhead 113 = .ok (.return_, 1) := by decide +kernel
theorem dX7_pickedBySort_0 : decode cX7_pickedBySort 0 = .ok (.aload_n 0, 1) := by decide +kernel
theorem dX7_pickedBySort_1 : decode cX7_pickedBySort 1 = .ok (.aload_n 1, 1) := by decide +kernel
theorem dX7_pickedBySort_2 : decode cX7_pickedBySort 2 = .ok (.invokevirtual 80, 3) := by decide +kernel
theorem dX7_pickedBySort_5 : decode cX7_pickedBySort 5 = .ok (.istore_n 2, 1) := by decide +kernel
theorem dX7_pickedBySort_6 : decode cX7_pickedBySort 6 = .ok (.aload_n 1, 1) := by decide +kernel
theorem dX7_pickedBySort_7 : decode cX7_pickedBySort 7 = .ok (.getfield 84, 3) := by decide +kernel
theorem dX7_pickedBySort_10 : decode cX7_pickedBySort 10 = .ok (.istore_n 3, 1) := by decide +kernel
theorem dX7_pickedBySort_11 : decode cX7_pickedBySort 11 = .ok (.aload_n 1, 1) := by decide +kernel
theorem dX7_pickedBySort_12 : decode cX7_pickedBySort 12 = .ok (.getfield 127, 3) := by decide +kernel
theorem dX7_pickedBySort_15 : decode cX7_pickedBySort 15 = .ok (.iload_n 3, 1) := by decide +kernel
theorem dX7_pickedBySort_16 : decode cX7_pickedBySort 16 = .ok (.isub, 1) := by decide +kernel
theorem dX7_pickedBySort_17 : decode cX7_pickedBySort 17 = .ok (.istore 4, 2) := by decide +kernel
theorem dX7_pickedBySort_19 : decode cX7_pickedBySort 19 = .ok (.iload_n 2, 1) := by decide +kernel
theorem dX7_pickedBySort_20 : decode cX7_pickedBySort 20 = .ok (.ifCond .ne 5, 3) := by decide +kernel
theorem dX7_pickedBySort_23 : decode cX7_pickedBySort 23 = .ok (.iconst 0, 1) := by decide +kernel
theorem dX7_pickedBySort_24 : decode cX7_pickedBySort 24 = .ok (.ireturn, 1) := by decide +kernel
theorem dX7_pickedBySort_25 : decode cX7_pickedBySort 25 = .ok (.aload_n 1, 1) := by decide +kernel
theorem dX7_pickedBySort_26 : decode cX7_pickedBySort 26 = .ok (.getfield 168, 3) := by decide +kernel
theorem dX7_pickedBySort_29 : decode cX7_pickedBySort 29 = .ok (.ifCond .ne 21, 3) := by decide +kernel
theorem dX7_pickedBySort_32 : decode cX7_pickedBySort 32 = .ok (.iload_n 3, 1) := by decide +kernel
theorem dX7_pickedBySort_33 : decode cX7_pickedBySort 33 = .ok (.ifCond .ne 7, 3) := by decide +kernel
theorem dX7_pickedBySort_36 : decode cX7_pickedBySort 36 = .ok (.iconst 1, 1) := by decide +kernel
theorem dX7_pickedBySort_37 : decode cX7_pickedBySort 37 = .ok (.goto 12, 3) := by decide +kernel
theorem dX7_pickedBySort_40 : decode cX7_pickedBySort 40 = .ok (.iconst 1, 1) := by decide +kernel
theorem dX7_pickedBySort_41 : decode cX7_pickedBySort 41 = .ok (.bipush 99, 2) := by decide +kernel
theorem dX7_pickedBySort_43 : decode cX7_pickedBySort 43 = .ok (.iload_n 2, 1) := by decide +kernel
theorem dX7_pickedBySort_44 : decode cX7_pickedBySort 44 = .ok (.isub, 1) := by decide +kernel
theorem dX7_pickedBySort_45 : decode cX7_pickedBySort 45 = .ok (.invokestatic 130, 3) := by decide +kernel
theorem dX7_pickedBySort_48 : decode cX7_pickedBySort 48 = .ok (.ineg, 1) := by decide +kernel
theorem dX7_pickedBySort_49 : decode cX7_pickedBySort 49 = .ok (.ireturn, 1) := by decide +kernel
theorem dX7_pickedBySort_50 : decode cX7_pickedBySort 50 = .ok (.aload_n 1, 1) := by decide +kernel
theorem dX7_pickedBySort_51 : decode cX7_pickedBySort 51 = .ok (.getfield 168, 3) := by decide +kernel
theorem dX7_pickedBySort_54 : decode cX7_pickedBySort 54 = .ok (.iconst 1, 1) := by decide +kernel
theorem dX7_pickedBySort_55 : decode cX7_pickedBySort 55 = .ok (.if_icmp .ne 27, 3) := by decide +kernel
theorem dX7_pickedBySort_58 : decode cX7_pickedBySort 58 = .ok (.iload_n 2, 1) := by decide +kernel
theorem dX7_pickedBySort_59 : decode cX7_pickedBySort 59 = .ok (.iconst 2, 1) := by decide +kernel
theorem dX7_pickedBySort_60 : decode cX7_pickedBySort 60 = .ok (.if_icmp .gt 12, 3) := by decide +kernel
theorem dX7_pickedBySort_63 : decode cX7_pickedBySort 63 = .ok (.iload_n 2, 1) := by decide +kernel
theorem dX7_pickedBySort_64 : decode cX7_pickedBySort 64 = .ok (.iload 4, 2) := by decide +kernel
theorem dX7_pickedBySort_66 : decode cX7_pickedBySort 66 = .ok (.invokestatic 130, 3) := by decide +kernel
theorem dX7_pickedBySort_69 : decode cX7_pickedBySort 69 = .ok (.goto 12, 3) := by decide +kernel
theorem dX7_pickedBySort_72 : decode cX7_pickedBySort 72 = .ok (.iload_n 3, 1) := by decide +kernel
theorem dX7_pickedBySort_73 : decode cX7_pickedBySort 73 = .ok (.bipush 99, 2) := by decide +kernel
theorem dX7_pickedBySort_75 : decode cX7_pickedBySort 75 = .ok (.iload_n 2, 1) := by decide +kernel
theorem dX7_pickedBySort_76 : decode cX7_pickedBySort 76 = .ok (.isub, 1) := by decide +kernel
theorem dX7_pickedBySort_77 : decode cX7_pickedBySort 77 = .ok (.invokestatic 130, 3) := by decide +kernel
theorem dX7_pickedBySort_80 : decode cX7_pickedBySort 80 = .ok (.ineg, 1) := by decide +kernel
theorem dX7_pickedBySort_81 : decode cX7_pickedBySort 81 = .ok (.ireturn, 1) := by decide +kernel
theorem dX7_pickedBySort_82 : decode cX7_pickedBySort 82 = .ok (.aload_n 0, 1) := by decide +kernel
theorem dX7_pickedBySort_83 : decode cX7_pickedBySort 83 = .ok (.getfield 21, 3) := by decide +kernel
theorem dX7_pickedBySort_86 : decode cX7_pickedBySort 86 = .ok (.aload_n 1, 1) := by decide +kernel
theorem dX7_pickedBySort_87 : decode cX7_pickedBySort 87 = .ok (.invokevirtual 62, 3) := by decide +kernel
theorem dX7_pickedBySort_90 : decode cX7_pickedBySort 90 = .ok (.invokevirtual 171, 3) := by decide +kernel
theorem dX7_pickedBySort_93 : decode cX7_pickedBySort 93 = .ok (.istore 5, 2) := by decide +kernel
theorem dX7_pickedBySort_95 : decode cX7_pickedBySort 95 = .ok (.iload 4, 2) := by decide +kernel
theorem dX7_pickedBySort_97 : decode cX7_pickedBySort 97 = .ok (.ifCond .le 17, 3) := by decide +kernel
theorem dX7_pickedBySort_100 : decode cX7_pickedBySort 100 = .ok (.aload_n 0, 1) := by decide +kernel
theorem dX7_pickedBySort_101 : decode cX7_pickedBySort 101 = .ok (.getfield 21, 3) := by decide +kernel
theorem dX7_pickedBySort_104 : decode cX7_pickedBySort 104 = .ok (.iload 5, 2) := by decide +kernel
theorem dX7_pickedBySort_106 : decode cX7_pickedBySort 106 = .ok (.invokevirtual 174, 3) := by decide +kernel
theorem dX7_pickedBySort_109 : decode cX7_pickedBySort 109 = .ok (.ifCond .ne 5, 3) := by decide +kernel
theorem dX7_pickedBySort_112 : decode cX7_pickedBySort 112 = .ok (.iconst 1, 1) := by decide +kernel
theorem dX7_pickedBySort_113 : decode cX7_pickedBySort 113 = .ok (.ireturn, 1) := by decide +kernel
theorem dX7_pickedBySort_114 : decode cX7_pickedBySort 114 = .ok (.iconst 1, 1) := by decide +kernel
theorem dX7_pickedBySort_115 : decode cX7_pickedBySort 115 = .ok (.iload_n 3, 1) := by decide +kernel
theorem dX7_pickedBySort_116 : decode cX7_pickedBySort 116 = .ok (.invokestatic 130, 3) := by decide +kernel
theorem dX7_pickedBySort_119 : decode cX7_pickedBySort 119 = .ok (.bipush 99, 2) := by decide +kernel
theorem dX7_pickedBySort_121 : decode cX7_pickedBySort 121 = .ok (.iload_n 2, 1) := by decide +kernel
theorem dX7_pickedBySort_122 : decode cX7_pickedBySort 122 = .ok (.isub, 1) := by decide +kernel
theorem dX7_pickedBySort_123 : decode cX7_pickedBySort 123 = .ok (.invokestatic 130, 3) := by decide +kernel
theorem dX7_pickedBySort_126 : decode cX7_pickedBySort 126 = .ok (.ineg, 1) := by decide +kernel
theorem dX7_pickedBySort_127 : decode cX7_pickedBySort 127 = .ok (.ireturn, 1) := by decide +kernel
theorem dX7_hasWall_0 : decode cX7_hasWall 0 = .ok (.aload_n 0, 1) := by decide +kernel
theorem dX7_hasWall_1 : decode cX7_hasWall 1 = .ok (.getfield 12, 3) := by decide +kernel
theorem dX7_hasWall_4 : decode cX7_hasWall 4 = .ok (.aload_n 1, 1) := by decide +kernel
theorem dX7_hasWall_5 : decode cX7_hasWall 5 = .ok (.iload_n 2, 1) := by decide +kernel
theorem dX7_hasWall_6 : decode cX7_hasWall 6 = .ok (.invokestatic 142, 3) := by decide +kernel
theorem dX7_hasWall_9 : decode cX7_hasWall 9 = .ok (.aload_n 1, 1) := by decide +kernel
theorem dX7_hasWall_10 : decode cX7_hasWall 10 = .ok (.iload_n 2, 1) := by decide +kernel
theorem dX7_hasWall_11 : decode cX7_hasWall 11 = .ok (.invokestatic 149, 3) := by decide +kernel
theorem dX7_hasWall_14 : decode cX7_hasWall 14 = .ok (.invokevirtual 178, 3) := by decide +kernel
theorem dX7_hasWall_17 : decode cX7_hasWall 17 = .ok (.ifCond .ne 7, 3) := by decide +kernel
theorem dX7_hasWall_20 : decode cX7_hasWall 20 = .ok (.iconst 1, 1) := by decide +kernel
theorem dX7_hasWall_21 : decode cX7_hasWall 21 = .ok (.goto 4, 3) := by decide +kernel
theorem dX7_hasWall_24 : decode cX7_hasWall 24 = .ok (.iconst 0, 1) := by decide +kernel
theorem dX7_hasWall_25 : decode cX7_hasWall 25 = .ok (.ireturn, 1) := by decide +kernel
theorem dX7_rowAhead_0 : decode cX7_rowAhead 0 = .ok (.iload_n 1, 1) := by decide +kernel
theorem dX7_rowAhead_1 : decode cX7_rowAhead 1 = .ok (.ifCond .ne 10, 3) := by decide +kernel
theorem dX7_rowAhead_4 : decode cX7_rowAhead 4 = .ok (.aload_n 0, 1) := by decide +kernel
theorem dX7_rowAhead_5 : decode cX7_rowAhead 5 = .ok (.getfield 146, 3) := by decide +kernel
theorem dX7_rowAhead_8 : decode cX7_rowAhead 8 = .ok (.iconst 1, 1) := by decide +kernel
theorem dX7_rowAhead_9 : decode cX7_rowAhead 9 = .ok (.isub, 1) := by decide +kernel
theorem dX7_rowAhead_10 : decode cX7_rowAhead 10 = .ok (.ireturn, 1) := by decide +kernel
theorem dX7_rowAhead_11 : decode cX7_rowAhead 11 = .ok (.iload_n 1, 1) := by decide +kernel
theorem dX7_rowAhead_12 : decode cX7_rowAhead 12 = .ok (.iconst 2, 1) := by decide +kernel
theorem dX7_rowAhead_13 : decode cX7_rowAhead 13 = .ok (.if_icmp .ne 12, 3) := by decide +kernel
theorem dX7_rowAhead_16 : decode cX7_rowAhead 16 = .ok (.aload_n 0, 1) := by decide +kernel
theorem dX7_rowAhead_17 : decode cX7_rowAhead 17 = .ok (.getfield 146, 3) := by decide +kernel
theorem dX7_rowAhead_20 : decode cX7_rowAhead 20 = .ok (.iconst 1, 1) := by decide +kernel
theorem dX7_rowAhead_21 : decode cX7_rowAhead 21 = .ok (.iadd, 1) := by decide +kernel
theorem dX7_rowAhead_22 : decode cX7_rowAhead 22 = .ok (.goto 7, 3) := by decide +kernel
theorem dX7_rowAhead_25 : decode cX7_rowAhead 25 = .ok (.aload_n 0, 1) := by decide +kernel
theorem dX7_rowAhead_26 : decode cX7_rowAhead 26 = .ok (.getfield 146, 3) := by decide +kernel
theorem dX7_rowAhead_29 : decode cX7_rowAhead 29 = .ok (.ireturn, 1) := by decide +kernel
theorem dX7_columnAhead_0 : decode cX7_columnAhead 0 = .ok (.iload_n 1, 1) := by decide +kernel
theorem dX7_columnAhead_1 : decode cX7_columnAhead 1 = .ok (.iconst 1, 1) := by decide +kernel
theorem dX7_columnAhead_2 : decode cX7_columnAhead 2 = .ok (.if_icmp .ne 10, 3) := by decide +kernel
theorem dX7_columnAhead_5 : decode cX7_columnAhead 5 = .ok (.aload_n 0, 1) := by decide +kernel
theorem dX7_columnAhead_6 : decode cX7_columnAhead 6 = .ok (.getfield 152, 3) := by decide +kernel
theorem dX7_columnAhead_9 : decode cX7_columnAhead 9 = .ok (.iconst 1, 1) := by decide +kernel
theorem dX7_columnAhead_10 : decode cX7_columnAhead 10 = .ok (.iadd, 1) := by decide +kernel
theorem dX7_columnAhead_11 : decode cX7_columnAhead 11 = .ok (.ireturn, 1) := by decide +kernel
theorem dX7_columnAhead_12 : decode cX7_columnAhead 12 = .ok (.iload_n 1, 1) := by decide +kernel
theorem dX7_columnAhead_13 : decode cX7_columnAhead 13 = .ok (.iconst 3, 1) := by decide +kernel
theorem dX7_columnAhead_14 : decode cX7_columnAhead 14 = .ok (.if_icmp .ne 12, 3) := by decide +kernel
theorem dX7_columnAhead_17 : decode cX7_columnAhead 17 = .ok (.aload_n 0, 1) := by decide +kernel
theorem dX7_columnAhead_18 : decode cX7_columnAhead 18 = .ok (.getfield 152, 3) := by decide +kernel
theorem dX7_columnAhead_21 : decode cX7_columnAhead 21 = .ok (.iconst 1, 1) := by decide +kernel
theorem dX7_columnAhead_22 : decode cX7_columnAhead 22 = .ok (.isub, 1) := by decide +kernel
theorem dX7_columnAhead_23 : decode cX7_columnAhead 23 = .ok (.goto 7, 3) := by decide +kernel
theorem dX7_columnAhead_26 : decode cX7_columnAhead 26 = .ok (.aload_n 0, 1) := by decide +kernel
theorem dX7_columnAhead_27 : decode cX7_columnAhead 27 = .ok (.getfield 152, 3) := by decide +kernel
theorem dX7_columnAhead_30 : decode cX7_columnAhead 30 = .ok (.ireturn, 1) := by decide +kernel
theorem dX7_toTheRight_0 : decode cX7_toTheRight 0 = .ok (.iload_n 0, 1) := by decide +kernel
theorem dX7_toTheRight_1 : decode cX7_toTheRight 1 = .ok (.iload_n 1, 1) := by decide +kernel
theorem dX7_toTheRight_2 : decode cX7_toTheRight 2 = .ok (.iadd, 1) := by decide +kernel
theorem dX7_toTheRight_3 : decode cX7_toTheRight 3 = .ok (.iconst 4, 1) := by decide +kernel
theorem dX7_toTheRight_4 : decode cX7_toTheRight 4 = .ok (.irem, 1) := by decide +kernel
theorem dX7_toTheRight_5 : decode cX7_toTheRight 5 = .ok (.ireturn, 1) := by decide +kernel
theorem dX7_turned_0 : decode cX7_turned 0 = .ok (.iload_n 1, 1) := by decide +kernel
theorem dX7_turned_1 : decode cX7_turned 1 = .ok (.tableswitch 53 5 9 #[35, 35, 41, 41, 47], 35) := by decide +kernel
theorem dX7_turned_36 : decode cX7_turned 36 = .ok (.iload_n 0, 1) := by decide +kernel
theorem dX7_turned_37 : decode cX7_turned 37 = .ok (.iconst 1, 1) := by decide +kernel
theorem dX7_turned_38 : decode cX7_turned 38 = .ok (.invokestatic 120, 3) := by decide +kernel
theorem dX7_turned_41 : decode cX7_turned 41 = .ok (.ireturn, 1) := by decide +kernel
theorem dX7_turned_42 : decode cX7_turned 42 = .ok (.iload_n 0, 1) := by decide +kernel
theorem dX7_turned_43 : decode cX7_turned 43 = .ok (.iconst 3, 1) := by decide +kernel
theorem dX7_turned_44 : decode cX7_turned 44 = .ok (.invokestatic 120, 3) := by decide +kernel
theorem dX7_turned_47 : decode cX7_turned 47 = .ok (.ireturn, 1) := by decide +kernel
theorem dX7_turned_48 : decode cX7_turned 48 = .ok (.iload_n 0, 1) := by decide +kernel
theorem dX7_turned_49 : decode cX7_turned 49 = .ok (.iconst 2, 1) := by decide +kernel
theorem dX7_turned_50 : decode cX7_turned 50 = .ok (.invokestatic 120, 3) := by decide +kernel
theorem dX7_turned_53 : decode cX7_turned 53 = .ok (.ireturn, 1) := by decide +kernel
theorem dX7_turned_54 : decode cX7_turned 54 = .ok (.iload_n 0, 1) := by decide +kernel
theorem dX7_turned_55 : decode cX7_turned 55 = .ok (.ireturn, 1) := by decide +kernel
theorem dX7_directionOf_0 : decode cX7_directionOf 0 = .ok (.iload_n 0, 1) := by decide +kernel
theorem dX7_directionOf_1 : decode cX7_directionOf 1 = .ok (.bipush 110, 2) := by decide +kernel
theorem dX7_directionOf_3 : decode cX7_directionOf 3 = .ok (.if_icmp .ne 5, 3) := by decide +kernel
theorem dX7_directionOf_6 : decode cX7_directionOf 6 = .ok (.iconst 0, 1) := by decide +kernel
theorem dX7_directionOf_7 : decode cX7_directionOf 7 = .ok (.ireturn, 1) := by decide +kernel
theorem dX7_directionOf_8 : decode cX7_directionOf 8 = .ok (.iload_n 0, 1) := by decide +kernel
theorem dX7_directionOf_9 : decode cX7_directionOf 9 = .ok (.bipush 101, 2) := by decide +kernel
theorem dX7_directionOf_11 : decode cX7_directionOf 11 = .ok (.if_icmp .ne 5, 3) := by decide +kernel
theorem dX7_directionOf_14 : decode cX7_directionOf 14 = .ok (.iconst 1, 1) := by decide +kernel
theorem dX7_directionOf_15 : decode cX7_directionOf 15 = .ok (.ireturn, 1) := by decide +kernel
theorem dX7_directionOf_16 : decode cX7_directionOf 16 = .ok (.iload_n 0, 1) := by decide +kernel
theorem dX7_directionOf_17 : decode cX7_directionOf 17 = .ok (.bipush 115, 2) := by decide +kernel
theorem dX7_directionOf_19 : decode cX7_directionOf 19 = .ok (.if_icmp .ne 7, 3) := by decide +kernel
theorem dX7_directionOf_22 : decode cX7_directionOf 22 = .ok (.iconst 2, 1) := by decide +kernel
theorem dX7_directionOf_23 : decode cX7_directionOf 23 = .ok (.goto 4, 3) := by decide +kernel
theorem dX7_directionOf_26 : decode cX7_directionOf 26 = .ok (.iconst 3, 1) := by decide +kernel
theorem dX7_directionOf_27 : decode cX7_directionOf 27 = .ok (.ireturn, 1) := by decide +kernel
theorem dX8_init_0 : decode cX8_init 0 = .ok (.aload_n 0, 1) := by decide +kernel
theorem dX8_init_1 : decode cX8_init 1 = .ok (.invokespecial 1, 3) := by decide +kernel
theorem dX8_init_4 : decode cX8_init 4 = .ok (.aload_n 0, 1) := by decide +kernel
theorem dX8_init_5 : decode cX8_init 5 = .ok (.new 7, 3) := by decide +kernel
theorem dX8_init_8 : decode cX8_init 8 = .ok (.dup, 1) := by decide +kernel
theorem dX8_init_9 : decode cX8_init 9 = .ok (.invokespecial 9, 3) := by decide +kernel
theorem dX8_init_12 : decode cX8_init 12 = .ok (.putfield 10, 3) := by decide +kernel
theorem dX8_init_15 : decode cX8_init 15 = .ok (.aload_n 0, 1) := by decide +kernel
theorem dX8_init_16 : decode cX8_init 16 = .ok (.new 16, 3) := by decide +kernel
theorem dX8_init_19 : decode cX8_init 19 = .ok (.dup, 1) := by decide +kernel
theorem dX8_init_20 : decode cX8_init 20 = .ok (.invokespecial 18, 3) := by decide +kernel
theorem dX8_init_23 : decode cX8_init 23 = .ok (.putfield 19, 3) := by decide +kernel
theorem dX8_init_26 : decode cX8_init 26 = .ok (.aload_n 0, 1) := by decide +kernel
theorem dX8_init_27 : decode cX8_init 27 = .ok (.new 23, 3) := by decide +kernel
theorem dX8_init_30 : decode cX8_init 30 = .ok (.dup, 1) := by decide +kernel
theorem dX8_init_31 : decode cX8_init 31 = .ok (.invokespecial 25, 3) := by decide +kernel
theorem dX8_init_34 : decode cX8_init 34 = .ok (.putfield 26, 3) := by decide +kernel
theorem dX8_init_37 : decode cX8_init 37 = .ok (.aload_n 0, 1) := by decide +kernel
theorem dX8_init_38 : decode cX8_init 38 = .ok (.iconst 2, 1) := by decide +kernel
theorem dX8_init_39 : decode cX8_init 39 = .ok (.anewarray 30, 3) := by decide +kernel
theorem dX8_init_42 : decode cX8_init 42 = .ok (.putfield 32, 3) := by decide +kernel
theorem dX8_init_45 : decode cX8_init 45 = .ok (.iconst 0, 1) := by decide +kernel
theorem dX8_init_46 : decode cX8_init 46 = .ok (.istore_n 1, 1) := by decide +kernel
theorem dX8_init_47 : decode cX8_init 47 = .ok (.iload_n 1, 1) := by decide +kernel
theorem dX8_init_48 : decode cX8_init 48 = .ok (.iconst 2, 1) := by decide +kernel
theorem dX8_init_49 : decode cX8_init 49 = .ok (.if_icmp .ge 22, 3) := by decide +kernel
theorem dX8_init_52 : decode cX8_init 52 = .ok (.aload_n 0, 1) := by decide +kernel
theorem dX8_init_53 : decode cX8_init 53 = .ok (.getfield 32, 3) := by decide +kernel
theorem dX8_init_56 : decode cX8_init 56 = .ok (.iload_n 1, 1) := by decide +kernel
theorem dX8_init_57 : decode cX8_init 57 = .ok (.new 30, 3) := by decide +kernel
theorem dX8_init_60 : decode cX8_init 60 = .ok (.dup, 1) := by decide +kernel
theorem dX8_init_61 : decode cX8_init 61 = .ok (.invokespecial 36, 3) := by decide +kernel
theorem dX8_init_64 : decode cX8_init 64 = .ok (.aastore, 1) := by decide +kernel
theorem dX8_init_65 : decode cX8_init 65 = .ok (.iinc 1 1, 3) := by decide +kernel
theorem dX8_init_68 : decode cX8_init 68 = .ok (.goto (-21), 3) := by decide +kernel
theorem dX8_init_71 : decode cX8_init 71 = .ok (.aload_n 0, 1) := by decide +kernel
theorem dX8_init_72 : decode cX8_init 72 = .ok (.new 37, 3) := by decide +kernel
theorem dX8_init_75 : decode cX8_init 75 = .ok (.dup, 1) := by decide +kernel
theorem dX8_init_76 : decode cX8_init 76 = .ok (.invokespecial 39, 3) := by decide +kernel
theorem dX8_init_79 : decode cX8_init 79 = .ok (.putfield 40, 3) := by decide +kernel
theorem dX8_init_82 : decode cX8_init 82 = .ok (.return_, 1) := by decide +kernel
theorem dX8_reset_0 : decode cX8_reset 0 = .ok (.iload_n 1, 1) := by decide +kernel
theorem dX8_reset_1 : decode cX8_reset 1 = .ok (.iconst 2, 1) := by decide +kernel
theorem dX8_reset_2 : decode cX8_reset 2 = .ok (.bipush 16, 2) := by decide +kernel
theorem dX8_reset_4 : decode cX8_reset 4 = .ok (.invokestatic 44, 3) := by decide +kernel
theorem dX8_reset_7 : decode cX8_reset 7 = .ok (.ifCond .eq 13, 3) := by decide +kernel
theorem dX8_reset_10 : decode cX8_reset 10 = .ok (.iload_n 2, 1) := by decide +kernel
theorem dX8_reset_11 : decode cX8_reset 11 = .ok (.iconst 2, 1) := by decide +kernel
theorem dX8_reset_12 : decode cX8_reset 12 = .ok (.bipush 16, 2) := by decide +kernel
theorem dX8_reset_14 : decode cX8_reset 14 = .ok (.invokestatic 44, 3) := by decide +kernel
theorem dX8_reset_17 : decode cX8_reset 17 = .ok (.ifCond .ne 6, 3) := by decide +kernel
theorem dX8_reset_20 : decode cX8_reset 20 = .ok (.bipush (-2), 2) := by decide +kernel
theorem dX8_reset_22 : decode cX8_reset 22 = .ok (.ireturn, 1) := by decide +kernel
theorem dX8_reset_23 : decode cX8_reset 23 = .ok (.aload_n 0, 1) := by decide +kernel
theorem dX8_reset_24 : decode cX8_reset 24 = .ok (.getfield 19, 3) := by decide +kernel
theorem dX8_reset_27 : decode cX8_reset 27 = .ok (.aload_n 0, 1) := by decide +kernel
theorem dX8_reset_28 : decode cX8_reset 28 = .ok (.getfield 10, 3) := by decide +kernel
theorem dX8_reset_31 : decode cX8_reset 31 = .ok (.getfield 48, 3) := by decide +kernel
theorem dX8_reset_34 : decode cX8_reset 34 = .ok (.invokevirtual 51, 3) := by decide +kernel
theorem dX8_reset_37 : decode cX8_reset 37 = .ok (.aload_n 0, 1) := by decide +kernel
theorem dX8_reset_38 : decode cX8_reset 38 = .ok (.getfield 10, 3) := by decide +kernel
theorem dX8_reset_41 : decode cX8_reset 41 = .ok (.iload_n 1, 1) := by decide +kernel
theorem dX8_reset_42 : decode cX8_reset 42 = .ok (.iload_n 2, 1) := by decide +kernel
theorem dX8_reset_43 : decode cX8_reset 43 = .ok (.invokevirtual 55, 3) := by decide +kernel
theorem dX8_reset_46 : decode cX8_reset 46 = .ok (.iload_n 1, 1) := by decide +kernel
theorem dX8_reset_47 : decode cX8_reset 47 = .ok (.iload_n 2, 1) := by decide +kernel
theorem dX8_reset_48 : decode cX8_reset 48 = .ok (.imul, 1) := by decide +kernel
theorem dX8_reset_49 : decode cX8_reset 49 = .ok (.ireturn, 1) := by decide +kernel
theorem dX8_put_0 : decode cX8_put 0 = .ok (.aload_n 0, 1) := by decide +kernel
theorem dX8_put_1 : decode cX8_put 1 = .ok (.getfield 10, 3) := by decide +kernel
theorem dX8_put_4 : decode cX8_put 4 = .ok (.getfield 48, 3) := by decide +kernel
theorem dX8_put_7 : decode cX8_put 7 = .ok (.iload_n 1, 1) := by decide +kernel
theorem dX8_put_8 : decode cX8_put 8 = .ok (.iload_n 2, 1) := by decide +kernel
theorem dX8_put_9 : decode cX8_put 9 = .ok (.invokevirtual 59, 3) := by decide +kernel
theorem dX8_put_12 : decode cX8_put 12 = .ok (.istore 4, 2) := by decide +kernel
theorem dX8_put_14 : decode cX8_put 14 = .ok (.iload 4, 2) := by decide +kernel
theorem dX8_put_16 : decode cX8_put 16 = .ok (.ifCond .ge 5, 3) := by decide +kernel
theorem dX8_put_19 : decode cX8_put 19 = .ok (.iconst (-1), 1) := by decide +kernel
theorem dX8_put_20 : decode cX8_put 20 = .ok (.ireturn, 1) := by decide +kernel
theorem dX8_put_21 : decode cX8_put 21 = .ok (.iload_n 3, 1) := by decide +kernel
theorem dX8_put_22 : decode cX8_put 22 = .ok (.iconst 0, 1) := by decide +kernel
theorem dX8_put_23 : decode cX8_put 23 = .ok (.bipush 99, 2) := by decide +kernel
theorem dX8_put_25 : decode cX8_put 25 = .ok (.invokestatic 44, 3) := by decide +kernel
theorem dX8_put_28 : decode cX8_put 28 = .ok (.ifCond .ne 6, 3) := by decide +kernel
theorem dX8_put_31 : decode cX8_put 31 = .ok (.bipush (-2), 2) := by decide +kernel
theorem dX8_put_33 : decode cX8_put 33 = .ok (.ireturn, 1) := by decide +kernel
theorem dX8_put_34 : decode cX8_put 34 = .ok (.aload_n 0, 1) := by decide +kernel
theorem dX8_put_35 : decode cX8_put 35 = .ok (.getfield 10, 3) := by decide +kernel
theorem dX8_put_38 : decode cX8_put 38 = .ok (.getfield 48, 3) := by decide +kernel
theorem dX8_put_41 : decode cX8_put 41 = .ok (.iload 4, 2) := by decide +kernel
theorem dX8_put_43 : decode cX8_put 43 = .ok (.invokevirtual 63, 3) := by decide +kernel
theorem dX8_put_46 : decode cX8_put 46 = .ok (.istore 5, 2) := by decide +kernel
theorem dX8_put_48 : decode cX8_put 48 = .ok (.aload_n 0, 1) := by decide +kernel
theorem dX8_put_49 : decode cX8_put 49 = .ok (.getfield 19, 3) := by decide +kernel
theorem dX8_put_52 : decode cX8_put 52 = .ok (.aload_n 0, 1) := by decide +kernel
theorem dX8_put_53 : decode cX8_put 53 = .ok (.getfield 10, 3) := by decide +kernel
theorem dX8_put_56 : decode cX8_put 56 = .ok (.getfield 48, 3) := by decide +kernel
theorem dX8_put_59 : decode cX8_put 59 = .ok (.invokevirtual 51, 3) := by decide +kernel
theorem dX8_put_62 : decode cX8_put 62 = .ok (.aload_n 0, 1) := by decide +kernel
theorem dX8_put_63 : decode cX8_put 63 = .ok (.getfield 10, 3) := by decide +kernel
theorem dX8_put_66 : decode cX8_put 66 = .ok (.iload 4, 2) := by decide +kernel
theorem dX8_put_68 : decode cX8_put 68 = .ok (.iload_n 3, 1) := by decide +kernel
theorem dX8_put_69 : decode cX8_put 69 = .ok (.invokevirtual 67, 3) := by decide +kernel
theorem dX8_put_72 : decode cX8_put 72 = .ok (.iload 5, 2) := by decide +kernel
theorem dX8_put_74 : decode cX8_put 74 = .ok (.ireturn, 1) := by decide +kernel
theorem dX8_strew_0 : decode cX8_strew 0 = .ok (.iload_n 1, 1) := by decide +kernel
theorem dX8_strew_1 : decode cX8_strew 1 = .ok (.iconst 0, 1) := by decide +kernel
theorem dX8_strew_2 : decode cX8_strew 2 = .ok (.bipush 9, 2) := by decide +kernel
theorem dX8_strew_4 : decode cX8_strew 4 = .ok (.invokestatic 44, 3) := by decide +kernel
theorem dX8_strew_7 : decode cX8_strew 7 = .ok (.ifCond .eq 23, 3) := by decide +kernel
theorem dX8_strew_10 : decode cX8_strew 10 = .ok (.iload_n 2, 1) := by decide +kernel
theorem dX8_strew_11 : decode cX8_strew 11 = .ok (.iconst 0, 1) := by decide +kernel
theorem dX8_strew_12 : decode cX8_strew 12 = .ok (.bipush 9, 2) := by decide +kernel
theorem dX8_strew_14 : decode cX8_strew 14 = .ok (.invokestatic 44, 3) := by decide +kernel
theorem dX8_strew_17 : decode cX8_strew 17 = .ok (.ifCond .eq 13, 3) := by decide +kernel
theorem dX8_strew_20 : decode cX8_strew 20 = .ok (.iload_n 3, 1) := by decide +kernel
theorem dX8_strew_21 : decode cX8_strew 21 = .ok (.iconst 1, 1) := by decide +kernel
theorem dX8_strew_22 : decode cX8_strew 22 = .ok (.bipush 20, 2) := by decide +kernel
theorem dX8_strew_24 : decode cX8_strew 24 = .ok (.invokestatic 44, 3) := by decide +kernel
theorem dX8_strew_27 : decode cX8_strew 27 = .ok (.ifCond .ne 6, 3) := by decide +kernel
theorem dX8_strew_30 : decode cX8_strew 30 = .ok (.bipush (-2), 2) := by decide +kernel
theorem dX8_strew_32 : decode cX8_strew 32 = .ok (.ireturn, 1) := by decide +kernel
theorem dX8_strew_33 : decode cX8_strew 33 = .ok (.aload_n 0, 1) := by decide +kernel
theorem dX8_strew_34 : decode cX8_strew 34 = .ok (.getfield 10, 3) := by decide +kernel
theorem dX8_strew_37 : decode cX8_strew 37 = .ok (.iload_n 1, 1) := by decide +kernel
theorem dX8_strew_38 : decode cX8_strew 38 = .ok (.iload_n 2, 1) := by decide +kernel
theorem dX8_strew_39 : decode cX8_strew 39 = .ok (.iload_n 3, 1) := by decide +kernel
theorem dX8_strew_40 : decode cX8_strew 40 = .ok (.iconst 0, 1) := by decide +kernel
theorem dX8_strew_41 : decode cX8_strew 41 = .ok (.invokevirtual 70, 3) := by decide +kernel
theorem dX8_strew_44 : decode cX8_strew 44 = .ok (.istore 4, 2) := by decide +kernel
theorem dX8_strew_46 : decode cX8_strew 46 = .ok (.iload 4, 2) := by decide +kernel
theorem dX8_strew_48 : decode cX8_strew 48 = .ok (.ifCond .ne 6, 3) := by decide +kernel
theorem dX8_strew_51 : decode cX8_strew 51 = .ok (.bipush (-5), 2) := by decide +kernel
theorem dX8_strew_53 : decode cX8_strew 53 = .ok (.ireturn, 1) := by decide +kernel
theorem dX8_strew_54 : decode cX8_strew 54 = .ok (.aload_n 0, 1) := by decide +kernel
theorem dX8_strew_55 : decode cX8_strew 55 = .ok (.getfield 19, 3) := by decide +kernel
theorem dX8_strew_58 : decode cX8_strew 58 = .ok (.aload_n 0, 1) := by decide +kernel
theorem dX8_strew_59 : decode cX8_strew 59 = .ok (.getfield 10, 3) := by decide +kernel
theorem dX8_strew_62 : decode cX8_strew 62 = .ok (.getfield 48, 3) := by decide +kernel
theorem dX8_strew_65 : decode cX8_strew 65 = .ok (.invokevirtual 51, 3) := by decide +kernel
theorem dX8_strew_68 : decode cX8_strew 68 = .ok (.aload_n 0, 1) := by decide +kernel
theorem dX8_strew_69 : decode cX8_strew 69 = .ok (.getfield 10, 3) := by decide +kernel
theorem dX8_strew_72 : decode cX8_strew 72 = .ok (.iload_n 1, 1) := by decide +kernel
theorem dX8_strew_73 : decode cX8_strew 73 = .ok (.iload_n 2, 1) := by decide +kernel
theorem dX8_strew_74 : decode cX8_strew 74 = .ok (.iload_n 3, 1) := by decide +kernel
theorem dX8_strew_75 : decode cX8_strew 75 = .ok (.iconst 1, 1) := by decide +kernel
theorem dX8_strew_76 : decode cX8_strew 76 = .ok (.invokevirtual 70, 3) := by decide +kernel
theorem dX8_strew_79 : decode cX8_strew 79 = .ok (.pop, 1) := by decide +kernel
theorem dX8_strew_80 : decode cX8_strew 80 = .ok (.iload 4, 2) := by decide +kernel
theorem dX8_strew_82 : decode cX8_strew 82 = .ok (.ireturn, 1) := by decide +kernel
theorem dX8_addWalker_0 : decode cX8_addWalker 0 = .ok (.aload_n 0, 1) := by decide +kernel
theorem dX8_addWalker_1 : decode cX8_addWalker 1 = .ok (.getfield 10, 3) := by decide +kernel
theorem dX8_addWalker_4 : decode cX8_addWalker 4 = .ok (.getfield 48, 3) := by decide +kernel
theorem dX8_addWalker_7 : decode cX8_addWalker 7 = .ok (.iload_n 1, 1) := by decide +kernel
theorem dX8_addWalker_8 : decode cX8_addWalker 8 = .ok (.iload_n 2, 1) := by decide +kernel
theorem dX8_addWalker_9 : decode cX8_addWalker 9 = .ok (.invokevirtual 59, 3) := by decide +kernel
theorem dX8_addWalker_12 : decode cX8_addWalker 12 = .ok (.ifCond .ge 5, 3) := by decide +kernel
theorem dX8_addWalker_15 : decode cX8_addWalker 15 = .ok (.iconst (-1), 1) := by decide +kernel
theorem dX8_addWalker_16 : decode cX8_addWalker 16 = .ok (.ireturn, 1) := by decide +kernel
theorem dX8_addWalker_17 : decode cX8_addWalker 17 = .ok (.iload_n 3, 1) := by decide +kernel
theorem dX8_addWalker_18 : decode cX8_addWalker 18 = .ok (.iconst 0, 1) := by decide +kernel
theorem dX8_addWalker_19 : decode cX8_addWalker 19 = .ok (.iconst 3, 1) := by decide +kernel
theorem dX8_addWalker_20 : decode cX8_addWalker 20 = .ok (.invokestatic 44, 3) := by decide +kernel
theorem dX8_addWalker_23 : decode cX8_addWalker 23 = .ok (.ifCond .eq 22, 3) := by decide +kernel
theorem dX8_addWalker_26 : decode cX8_addWalker 26 = .ok (.iload 4, 2) := by decide +kernel
theorem dX8_addWalker_28 : decode cX8_addWalker 28 = .ok (.invokestatic 74, 3) := by decide +kernel
theorem dX8_addWalker_31 : decode cX8_addWalker 31 = .ok (.ifCond .eq 14, 3) := by decide +kernel
theorem dX8_addWalker_34 : decode cX8_addWalker 34 = .ok (.iload 5, 2) := by decide +kernel
theorem dX8_addWalker_36 : decode cX8_addWalker 36 = .ok (.iconst 1, 1) := by decide +kernel
theorem dX8_addWalker_37 : decode cX8_addWalker 37 = .ok (.bipush 9, 2) := by decide +kernel
theorem dX8_addWalker_39 : decode cX8_addWalker 39 = .ok (.invokestatic 44, 3) := by decide +kernel
theorem dX8_addWalker_42 : decode cX8_addWalker 42 = .ok (.ifCond .ne 6, 3) := by decide +kernel
theorem dX8_addWalker_45 : decode cX8_addWalker 45 = .ok (.bipush (-2), 2) := by decide +kernel
theorem dX8_addWalker_47 : decode cX8_addWalker 47 = .ok (.ireturn, 1) := by decide +kernel
theorem dX8_addWalker_48 : decode cX8_addWalker 48 = .ok (.aload_n 0, 1) := by decide +kernel
theorem dX8_addWalker_49 : decode cX8_addWalker 49 = .ok (.getfield 10, 3) := by decide +kernel
theorem dX8_addWalker_52 : decode cX8_addWalker 52 = .ok (.getfield 48, 3) := by decide +kernel
theorem dX8_addWalker_55 : decode cX8_addWalker 55 = .ok (.getfield 78, 3) := by decide +kernel
theorem dX8_addWalker_58 : decode cX8_addWalker 58 = .ok (.istore 6, 2) := by decide +kernel
theorem dX8_addWalker_60 : decode cX8_addWalker 60 = .ok (.iload 6, 2) := by decide +kernel
theorem dX8_addWalker_62 : decode cX8_addWalker 62 = .ok (.bipush 8, 2) := by decide +kernel
theorem dX8_addWalker_64 : decode cX8_addWalker 64 = .ok (.if_icmp .lt 6, 3) := by decide +kernel
theorem dX8_addWalker_67 : decode cX8_addWalker 67 = .ok (.bipush (-3), 2) := by decide +kernel
theorem dX8_addWalker_69 : decode cX8_addWalker 69 = .ok (.ireturn, 1) := by decide +kernel
theorem dX8_addWalker_70 : decode cX8_addWalker 70 = .ok (.aload_n 0, 1) := by decide +kernel
theorem dX8_addWalker_71 : decode cX8_addWalker 71 = .ok (.getfield 19, 3) := by decide +kernel
theorem dX8_addWalker_74 : decode cX8_addWalker 74 = .ok (.aload_n 0, 1) := by decide +kernel
theorem dX8_addWalker_75 : decode cX8_addWalker 75 = .ok (.getfield 10, 3) := by decide +kernel
theorem dX8_addWalker_78 : decode cX8_addWalker 78 = .ok (.getfield 48, 3) := by decide +kernel
theorem dX8_addWalker_81 : decode cX8_addWalker 81 = .ok (.invokevirtual 51, 3) := by decide +kernel
theorem dX8_addWalker_84 : decode cX8_addWalker 84 = .ok (.aload_n 0, 1) := by decide +kernel
theorem dX8_addWalker_85 : decode cX8_addWalker 85 = .ok (.getfield 10, 3) := by decide +kernel
theorem dX8_addWalker_88 : decode cX8_addWalker 88 = .ok (.getfield 48, 3) := by decide +kernel
theorem dX8_addWalker_91 : decode cX8_addWalker 91 = .ok (.iload 6, 2) := by decide +kernel
theorem dX8_addWalker_93 : decode cX8_addWalker 93 = .ok (.iconst 1, 1) := by decide +kernel
theorem dX8_addWalker_94 : decode cX8_addWalker 94 = .ok (.iadd, 1) := by decide +kernel
theorem dX8_addWalker_95 : decode cX8_addWalker 95 = .ok (.putfield 78, 3) := by decide +kernel
theorem dX8_addWalker_98 : decode cX8_addWalker 98 = .ok (.aload_n 0, 1) := by decide +kernel
theorem dX8_addWalker_99 : decode cX8_addWalker 99 = .ok (.getfield 10, 3) := by decide +kernel
theorem dX8_addWalker_102 : decode cX8_addWalker 102 = .ok (.getfield 48, 3) := by decide +kernel
theorem dX8_addWalker_105 : decode cX8_addWalker 105 = .ok (.iload 6, 2) := by decide +kernel
theorem dX8_addWalker_107 : decode cX8_addWalker 107 = .ok (.invokevirtual 82, 3) := by decide +kernel
theorem dX8_addWalker_110 : decode cX8_addWalker 110 = .ok (.astore 7, 2) := by decide +kernel
theorem dX8_addWalker_112 : decode cX8_addWalker 112 = .ok (.aload 7, 2) := by decide +kernel
theorem dX8_addWalker_114 : decode cX8_addWalker 114 = .ok (.ifnull 15, 3) := by decide +kernel
theorem dX8_addWalker_117 : decode cX8_addWalker 117 = .ok (.aload 7, 2) := by decide +kernel
theorem dX8_addWalker_119 : decode cX8_addWalker 119 = .ok (.iload_n 1, 1) := by decide +kernel
theorem dX8_addWalker_120 : decode cX8_addWalker 120 = .ok (.iload_n 2, 1) := by decide +kernel
theorem dX8_addWalker_121 : decode cX8_addWalker 121 = .ok (.iload_n 3, 1) := by decide +kernel
theorem dX8_addWalker_122 : decode cX8_addWalker 122 = .ok (.iload 4, 2) := by decide +kernel
theorem dX8_addWalker_124 : decode cX8_addWalker 124 = .ok (.iload 5, 2) := by decide +kernel
theorem dX8_addWalker_126 : decode cX8_addWalker 126 = .ok (.invokevirtual 86, 3) := by decide +kernel
theorem dX8_addWalker_129 : decode cX8_addWalker 129 = .ok (.iload 6, 2) := by decide +kernel
theorem dX8_addWalker_131 : decode cX8_addWalker 131 = .ok (.ireturn, 1) := by decide +kernel
theorem dX8_setSort_0 : decode cX8_setSort 0 = .ok (.aload_n 0, 1) := by decide +kernel
theorem dX8_setSort_1 : decode cX8_setSort 1 = .ok (.getfield 10, 3) := by decide +kernel
theorem dX8_setSort_4 : decode cX8_setSort 4 = .ok (.getfield 48, 3) := by decide +kernel
theorem dX8_setSort_7 : decode cX8_setSort 7 = .ok (.iload_n 1, 1) := by decide +kernel
theorem dX8_setSort_8 : decode cX8_setSort 8 = .ok (.invokevirtual 82, 3) := by decide +kernel
theorem dX8_setSort_11 : decode cX8_setSort 11 = .ok (.astore_n 3, 1) := by decide +kernel
theorem dX8_setSort_12 : decode cX8_setSort 12 = .ok (.aload_n 3, 1) := by decide +kernel
theorem dX8_setSort_13 : decode cX8_setSort 13 = .ok (.ifnonnull 5, 3) := by decide +kernel
theorem dX8_setSort_16 : decode cX8_setSort 16 = .ok (.iconst (-1), 1) := by decide +kernel
theorem dX8_setSort_17 : decode cX8_setSort 17 = .ok (.ireturn, 1) := by decide +kernel
theorem dX8_setSort_18 : decode cX8_setSort 18 = .ok (.iload_n 2, 1) := by decide +kernel
theorem dX8_setSort_19 : decode cX8_setSort 19 = .ok (.invokestatic 74, 3) := by decide +kernel
theorem dX8_setSort_22 : decode cX8_setSort 22 = .ok (.ifCond .ne 6, 3) := by decide +kernel
theorem dX8_setSort_25 : decode cX8_setSort 25 = .ok (.bipush (-2), 2) := by decide +kernel
theorem dX8_setSort_27 : decode cX8_setSort 27 = .ok (.ireturn, 1) := by decide +kernel
theorem dX8_setSort_28 : decode cX8_setSort 28 = .ok (.aload_n 3, 1) := by decide +kernel
theorem dX8_setSort_29 : decode cX8_setSort 29 = .ok (.getfield 92, 3) := by decide +kernel
theorem dX8_setSort_32 : decode cX8_setSort 32 = .ok (.istore 4, 2) := by decide +kernel
theorem dX8_setSort_34 : decode cX8_setSort 34 = .ok (.aload_n 0, 1) := by decide +kernel
theorem dX8_setSort_35 : decode cX8_setSort 35 = .ok (.getfield 19, 3) := by decide +kernel
theorem dX8_setSort_38 : decode cX8_setSort 38 = .ok (.aload_n 0, 1) := by decide +kernel
theorem dX8_setSort_39 : decode cX8_setSort 39 = .ok (.getfield 10, 3) := by decide +kernel
theorem dX8_setSort_42 : decode cX8_setSort 42 = .ok (.getfield 48, 3) := by decide +kernel
theorem dX8_setSort_45 : decode cX8_setSort 45 = .ok (.invokevirtual 51, 3) := by decide +kernel
theorem dX8_setSort_48 : decode cX8_setSort 48 = .ok (.aload_n 3, 1) := by decide +kernel
theorem dX8_setSort_49 : decode cX8_setSort 49 = .ok (.iload_n 2, 1) := by decide +kernel
theorem dX8_setSort_50 : decode cX8_setSort 50 = .ok (.putfield 92, 3) := by decide +kernel
theorem dX8_setSort_53 : decode cX8_setSort 53 = .ok (.iload 4, 2) := by decide +kernel
theorem dX8_setSort_55 : decode cX8_setSort 55 = .ok (.ireturn, 1) := by decide +kernel
theorem dX8_empty_0 : decode cX8_empty 0 = .ok (.aload_n 0, 1) := by decide +kernel
theorem dX8_empty_1 : decode cX8_empty 1 = .ok (.getfield 10, 3) := by decide +kernel
theorem dX8_empty_4 : decode cX8_empty 4 = .ok (.getfield 48, 3) := by decide +kernel
theorem dX8_empty_7 : decode cX8_empty 7 = .ok (.iload_n 1, 1) := by decide +kernel
theorem dX8_empty_8 : decode cX8_empty 8 = .ok (.invokevirtual 82, 3) := by decide +kernel
theorem dX8_empty_11 : decode cX8_empty 11 = .ok (.astore_n 2, 1) := by decide +kernel
theorem dX8_empty_12 : decode cX8_empty 12 = .ok (.aload_n 2, 1) := by decide +kernel
theorem dX8_empty_13 : decode cX8_empty 13 = .ok (.ifnonnull 5, 3) := by decide +kernel
theorem dX8_empty_16 : decode cX8_empty 16 = .ok (.iconst (-1), 1) := by decide +kernel
theorem dX8_empty_17 : decode cX8_empty 17 = .ok (.ireturn, 1) := by decide +kernel
theorem dX8_empty_18 : decode cX8_empty 18 = .ok (.aload_n 0, 1) := by decide +kernel
theorem dX8_empty_19 : decode cX8_empty 19 = .ok (.getfield 10, 3) := by decide +kernel
theorem dX8_empty_22 : decode cX8_empty 22 = .ok (.aload_n 2, 1) := by decide +kernel
theorem dX8_empty_23 : decode cX8_empty 23 = .ok (.invokevirtual 95, 3) := by decide +kernel
theorem dX8_empty_26 : decode cX8_empty 26 = .ok (.aload_n 2, 1) := by decide +kernel
theorem dX8_empty_27 : decode cX8_empty 27 = .ok (.getfield 99, 3) := by decide +kernel
theorem dX8_empty_30 : decode cX8_empty 30 = .ok (.iadd, 1) := by decide +kernel
theorem dX8_empty_31 : decode cX8_empty 31 = .ok (.bipush 99, 2) := by decide +kernel
theorem dX8_empty_33 : decode cX8_empty 33 = .ok (.if_icmp .le 6, 3) := by decide +kernel
theorem dX8_empty_36 : decode cX8_empty 36 = .ok (.bipush (-4), 2) := by decide +kernel
theorem dX8_empty_38 : decode cX8_empty 38 = .ok (.ireturn, 1) := by decide +kernel
theorem dX8_empty_39 : decode cX8_empty 39 = .ok (.aload_n 2, 1) := by decide +kernel
theorem dX8_empty_40 : decode cX8_empty 40 = .ok (.getfield 99, 3) := by decide +kernel
theorem dX8_empty_43 : decode cX8_empty 43 = .ok (.ifCond .ne 6, 3) := by decide +kernel
theorem dX8_empty_46 : decode cX8_empty 46 = .ok (.bipush (-5), 2) := by decide +kernel
theorem dX8_empty_48 : decode cX8_empty 48 = .ok (.ireturn, 1) := by decide +kernel
theorem dX8_empty_49 : decode cX8_empty 49 = .ok (.aload_n 0, 1) := by decide +kernel
theorem dX8_empty_50 : decode cX8_empty 50 = .ok (.getfield 19, 3) := by decide +kernel
theorem dX8_empty_53 : decode cX8_empty 53 = .ok (.aload_n 0, 1) := by decide +kernel
theorem dX8_empty_54 : decode cX8_empty 54 = .ok (.getfield 10, 3) := by decide +kernel
theorem dX8_empty_57 : decode cX8_empty 57 = .ok (.getfield 48, 3) := by decide +kernel
theorem dX8_empty_60 : decode cX8_empty 60 = .ok (.invokevirtual 51, 3) := by decide +kernel
theorem dX8_empty_63 : decode cX8_empty 63 = .ok (.aload_n 0, 1) := by decide +kernel
theorem dX8_empty_64 : decode cX8_empty 64 = .ok (.getfield 10, 3) := by decide +kernel
theorem dX8_empty_67 : decode cX8_empty 67 = .ok (.aload_n 2, 1) := by decide +kernel
theorem dX8_empty_68 : decode cX8_empty 68 = .ok (.aload_n 2, 1) := by decide +kernel
theorem dX8_empty_69 : decode cX8_empty 69 = .ok (.getfield 99, 3) := by decide +kernel
theorem dX8_empty_72 : decode cX8_empty 72 = .ok (.ineg, 1) := by decide +kernel
theorem dX8_empty_73 : decode cX8_empty 73 = .ok (.invokevirtual 102, 3) := by decide +kernel
theorem dX8_empty_76 : decode cX8_empty 76 = .ok (.aload_n 0, 1) := by decide +kernel
theorem dX8_empty_77 : decode cX8_empty 77 = .ok (.getfield 10, 3) := by decide +kernel
theorem dX8_empty_80 : decode cX8_empty 80 = .ok (.aload_n 2, 1) := by decide +kernel
theorem dX8_empty_81 : decode cX8_empty 81 = .ok (.invokevirtual 95, 3) := by decide +kernel
theorem dX8_empty_84 : decode cX8_empty 84 = .ok (.ireturn, 1) := by decide +kernel
theorem dX8_addTurn_0 : decode cX8_addTurn 0 = .ok (.iload_n 1, 1) := by decide +kernel
theorem dX8_addTurn_1 : decode cX8_addTurn 1 = .ok (.iconst 0, 1) := by decide +kernel
theorem dX8_addTurn_2 : decode cX8_addTurn 2 = .ok (.bipush 9, 2) := by decide +kernel
theorem dX8_addTurn_4 : decode cX8_addTurn 4 = .ok (.invokestatic 44, 3) := by decide +kernel
theorem dX8_addTurn_7 : decode cX8_addTurn 7 = .ok (.ifCond .ne 6, 3) := by decide +kernel
theorem dX8_addTurn_10 : decode cX8_addTurn 10 = .ok (.bipush (-2), 2) := by decide +kernel
theorem dX8_addTurn_12 : decode cX8_addTurn 12 = .ok (.ireturn, 1) := by decide +kernel
theorem dX8_addTurn_13 : decode cX8_addTurn 13 = .ok (.aload_n 0, 1) := by decide +kernel
theorem dX8_addTurn_14 : decode cX8_addTurn 14 = .ok (.getfield 10, 3) := by decide +kernel
theorem dX8_addTurn_17 : decode cX8_addTurn 17 = .ok (.getfield 48, 3) := by decide +kernel
theorem dX8_addTurn_20 : decode cX8_addTurn 20 = .ok (.getfield 106, 3) := by decide +kernel
theorem dX8_addTurn_23 : decode cX8_addTurn 23 = .ok (.getfield 110, 3) := by decide +kernel
theorem dX8_addTurn_26 : decode cX8_addTurn 26 = .ok (.bipush 30, 2) := by decide +kernel
theorem dX8_addTurn_28 : decode cX8_addTurn 28 = .ok (.if_icmp .lt 6, 3) := by decide +kernel
theorem dX8_addTurn_31 : decode cX8_addTurn 31 = .ok (.bipush (-3), 2) := by decide +kernel
theorem dX8_addTurn_33 : decode cX8_addTurn 33 = .ok (.ireturn, 1) := by decide +kernel
theorem dX8_addTurn_34 : decode cX8_addTurn 34 = .ok (.aload_n 0, 1) := by decide +kernel
theorem dX8_addTurn_35 : decode cX8_addTurn 35 = .ok (.getfield 19, 3) := by decide +kernel
theorem dX8_addTurn_38 : decode cX8_addTurn 38 = .ok (.aload_n 0, 1) := by decide +kernel
theorem dX8_addTurn_39 : decode cX8_addTurn 39 = .ok (.getfield 10, 3) := by decide +kernel
theorem dX8_addTurn_42 : decode cX8_addTurn 42 = .ok (.getfield 48, 3) := by decide +kernel
theorem dX8_addTurn_45 : decode cX8_addTurn 45 = .ok (.invokevirtual 51, 3) := by decide +kernel
theorem dX8_addTurn_48 : decode cX8_addTurn 48 = .ok (.aload_n 0, 1) := by decide +kernel
theorem dX8_addTurn_49 : decode cX8_addTurn 49 = .ok (.getfield 10, 3) := by decide +kernel
theorem dX8_addTurn_52 : decode cX8_addTurn 52 = .ok (.getfield 48, 3) := by decide +kernel
theorem dX8_addTurn_55 : decode cX8_addTurn 55 = .ok (.getfield 106, 3) := by decide +kernel
theorem dX8_addTurn_58 : decode cX8_addTurn 58 = .ok (.iload_n 1, 1) := by decide +kernel
theorem dX8_addTurn_59 : decode cX8_addTurn 59 = .ok (.invokevirtual 115, 3) := by decide +kernel
theorem dX8_addTurn_62 : decode cX8_addTurn 62 = .ok (.aload_n 0, 1) := by decide +kernel
theorem dX8_addTurn_63 : decode cX8_addTurn 63 = .ok (.getfield 10, 3) := by decide +kernel
theorem dX8_addTurn_66 : decode cX8_addTurn 66 = .ok (.getfield 48, 3) := by decide +kernel
theorem dX8_addTurn_69 : decode cX8_addTurn 69 = .ok (.getfield 106, 3) := by decide +kernel
theorem dX8_addTurn_72 : decode cX8_addTurn 72 = .ok (.getfield 110, 3) := by decide +kernel
theorem dX8_addTurn_75 : decode cX8_addTurn 75 = .ok (.ireturn, 1) := by decide +kernel
theorem dX8_clearTurns_0 : decode cX8_clearTurns 0 = .ok (.aload_n 0, 1) := by decide +kernel
theorem dX8_clearTurns_1 : decode cX8_clearTurns 1 = .ok (.getfield 10, 3) := by decide +kernel
theorem dX8_clearTurns_4 : decode cX8_clearTurns 4 = .ok (.getfield 48, 3) := by decide +kernel
theorem dX8_clearTurns_7 : decode cX8_clearTurns 7 = .ok (.getfield 106, 3) := by decide +kernel
theorem dX8_clearTurns_10 : decode cX8_clearTurns 10 = .ok (.getfield 110, 3) := by decide +kernel
theorem dX8_clearTurns_13 : decode cX8_clearTurns 13 = .ok (.istore_n 1, 1) := by decide +kernel
theorem dX8_clearTurns_14 : decode cX8_clearTurns 14 = .ok (.aload_n 0, 1) := by decide +kernel
theorem dX8_clearTurns_15 : decode cX8_clearTurns 15 = .ok (.getfield 19, 3) := by decide +kernel
theorem dX8_clearTurns_18 : decode cX8_clearTurns 18 = .ok (.aload_n 0, 1) := by decide +kernel
theorem dX8_clearTurns_19 : decode cX8_clearTurns 19 = .ok (.getfield 10, 3) := by decide +kernel
theorem dX8_clearTurns_22 : decode cX8_clearTurns 22 = .ok (.getfield 48, 3) := by decide +kernel
theorem dX8_clearTurns_25 : decode cX8_clearTurns 25 = .ok (.invokevirtual 51, 3) := by decide +kernel
theorem dX8_clearTurns_28 : decode cX8_clearTurns 28 = .ok (.aload_n 0, 1) := by decide +kernel
theorem dX8_clearTurns_29 : decode cX8_clearTurns 29 = .ok (.getfield 10, 3) := by decide +kernel
theorem dX8_clearTurns_32 : decode cX8_clearTurns 32 = .ok (.getfield 48, 3) := by decide +kernel
theorem dX8_clearTurns_35 : decode cX8_clearTurns 35 = .ok (.getfield 106, 3) := by decide +kernel
theorem dX8_clearTurns_38 : decode cX8_clearTurns 38 = .ok (.invokevirtual 119, 3) := by decide +kernel
theorem dX8_clearTurns_41 : decode cX8_clearTurns 41 = .ok (.iload_n 1, 1) := by decide +kernel
theorem dX8_clearTurns_42 : decode cX8_clearTurns 42 = .ok (.ireturn, 1) := by decide +kernel
theorem dX8_walk_0 : decode cX8_walk 0 = .ok (.aload_n 0, 1) := by decide +kernel
theorem dX8_walk_1 : decode cX8_walk 1 = .ok (.getfield 10, 3) := by decide +kernel
theorem dX8_walk_4 : decode cX8_walk 4 = .ok (.getfield 48, 3) := by decide +kernel
theorem dX8_walk_7 : decode cX8_walk 7 = .ok (.iload_n 1, 1) := by decide +kernel
theorem dX8_walk_8 : decode cX8_walk 8 = .ok (.invokevirtual 82, 3) := by decide +kernel
theorem dX8_walk_11 : decode cX8_walk 11 = .ok (.astore_n 3, 1) := by decide +kernel
theorem dX8_walk_12 : decode cX8_walk 12 = .ok (.aload_n 3, 1) := by decide +kernel
theorem dX8_walk_13 : decode cX8_walk 13 = .ok (.ifnonnull 5, 3) := by decide +kernel
theorem dX8_walk_16 : decode cX8_walk 16 = .ok (.iconst (-1), 1) := by decide +kernel
theorem dX8_walk_17 : decode cX8_walk 17 = .ok (.ireturn, 1) := by decide +kernel
theorem dX8_walk_18 : decode cX8_walk 18 = .ok (.iload_n 2, 1) := by decide +kernel
theorem dX8_walk_19 : decode cX8_walk 19 = .ok (.iconst 1, 1) := by decide +kernel
theorem dX8_walk_20 : decode cX8_walk 20 = .ok (.bipush 100, 2) := by decide +kernel
theorem dX8_walk_22 : decode cX8_walk 22 = .ok (.invokestatic 44, 3) := by decide +kernel
theorem dX8_walk_25 : decode cX8_walk 25 = .ok (.ifCond .ne 6, 3) := by decide +kernel
theorem dX8_walk_28 : decode cX8_walk 28 = .ok (.bipush (-2), 2) := by decide +kernel
theorem dX8_walk_30 : decode cX8_walk 30 = .ok (.ireturn, 1) := by decide +kernel
theorem dX8_walk_31 : decode cX8_walk 31 = .ok (.aload_n 0, 1) := by decide +kernel
theorem dX8_walk_32 : decode cX8_walk 32 = .ok (.getfield 19, 3) := by decide +kernel
theorem dX8_walk_35 : decode cX8_walk 35 = .ok (.aload_n 0, 1) := by decide +kernel
theorem dX8_walk_36 : decode cX8_walk 36 = .ok (.getfield 10, 3) := by decide +kernel
theorem dX8_walk_39 : decode cX8_walk 39 = .ok (.getfield 48, 3) := by decide +kernel
theorem dX8_walk_42 : decode cX8_walk 42 = .ok (.invokevirtual 51, 3) := by decide +kernel
theorem dX8_walk_45 : decode cX8_walk 45 = .ok (.iconst 0, 1) := by decide +kernel
theorem dX8_walk_46 : decode cX8_walk 46 = .ok (.istore 4, 2) := by decide +kernel
theorem dX8_walk_48 : decode cX8_walk 48 = .ok (.iload 4, 2) := by decide +kernel
theorem dX8_walk_50 : decode cX8_walk 50 = .ok (.iload_n 2, 1) := by decide +kernel
theorem dX8_walk_51 : decode cX8_walk 51 = .ok (.if_icmp .ge 17, 3) := by decide +kernel
theorem dX8_walk_54 : decode cX8_walk 54 = .ok (.aload_n 0, 1) := by decide +kernel
theorem dX8_walk_55 : decode cX8_walk 55 = .ok (.getfield 10, 3) := by decide +kernel
theorem dX8_walk_58 : decode cX8_walk 58 = .ok (.aload_n 3, 1) := by decide +kernel
theorem dX8_walk_59 : decode cX8_walk 59 = .ok (.invokevirtual 121, 3) := by decide +kernel
theorem dX8_walk_62 : decode cX8_walk 62 = .ok (.iinc 4 1, 3) := by decide +kernel
theorem dX8_walk_65 : decode cX8_walk 65 = .ok (.goto (-17), 3) := by decide +kernel
theorem dX8_walk_68 : decode cX8_walk 68 = .ok (.aload_n 3, 1) := by decide +kernel
theorem dX8_walk_69 : decode cX8_walk 69 = .ok (.getfield 99, 3) := by decide +kernel
theorem dX8_walk_72 : decode cX8_walk 72 = .ok (.ireturn, 1) := by decide +kernel
theorem dX8_rounds_0 : decode cX8_rounds 0 = .ok (.iload_n 1, 1) := by decide +kernel
theorem dX8_rounds_1 : decode cX8_rounds 1 = .ok (.iconst 1, 1) := by decide +kernel
theorem dX8_rounds_2 : decode cX8_rounds 2 = .ok (.bipush 50, 2) := by decide +kernel
theorem dX8_rounds_4 : decode cX8_rounds 4 = .ok (.invokestatic 44, 3) := by decide +kernel
theorem dX8_rounds_7 : decode cX8_rounds 7 = .ok (.ifCond .ne 6, 3) := by decide +kernel
theorem dX8_rounds_10 : decode cX8_rounds 10 = .ok (.bipush (-2), 2) := by decide +kernel
theorem dX8_rounds_12 : decode cX8_rounds 12 = .ok (.ireturn, 1) := by decide +kernel
theorem dX8_rounds_13 : decode cX8_rounds 13 = .ok (.aload_n 0, 1) := by decide +kernel
theorem dX8_rounds_14 : decode cX8_rounds 14 = .ok (.getfield 10, 3) := by decide +kernel
theorem dX8_rounds_17 : decode cX8_rounds 17 = .ok (.getfield 48, 3) := by decide +kernel
theorem dX8_rounds_20 : decode cX8_rounds 20 = .ok (.getfield 78, 3) := by decide +kernel
theorem dX8_rounds_23 : decode cX8_rounds 23 = .ok (.ifCond .ne 6, 3) := by decide +kernel
theorem dX8_rounds_26 : decode cX8_rounds 26 = .ok (.bipush (-5), 2) := by decide +kernel
theorem dX8_rounds_28 : decode cX8_rounds 28 = .ok (.ireturn, 1) := by decide +kernel
theorem dX8_rounds_29 : decode cX8_rounds 29 = .ok (.aload_n 0, 1) := by decide +kernel
theorem dX8_rounds_30 : decode cX8_rounds 30 = .ok (.getfield 19, 3) := by decide +kernel
theorem dX8_rounds_33 : decode cX8_rounds 33 = .ok (.aload_n 0, 1) := by decide +kernel
theorem dX8_rounds_34 : decode cX8_rounds 34 = .ok (.getfield 10, 3) := by decide +kernel
theorem dX8_rounds_37 : decode cX8_rounds 37 = .ok (.getfield 48, 3) := by decide +kernel
theorem dX8_rounds_40 : decode cX8_rounds 40 = .ok (.invokevirtual 51, 3) := by decide +kernel
theorem dX8_rounds_43 : decode cX8_rounds 43 = .ok (.aload_n 0, 1) := by decide +kernel
theorem dX8_rounds_44 : decode cX8_rounds 44 = .ok (.getfield 10, 3) := by decide +kernel
theorem dX8_rounds_47 : decode cX8_rounds 47 = .ok (.iload_n 1, 1) := by decide +kernel
theorem dX8_rounds_48 : decode cX8_rounds 48 = .ok (.invokevirtual 125, 3) := by decide +kernel
theorem dX8_rounds_51 : decode cX8_rounds 51 = .ok (.aload_n 0, 1) := by decide +kernel
theorem dX8_rounds_52 : decode cX8_rounds 52 = .ok (.getfield 10, 3) := by decide +kernel
theorem dX8_rounds_55 : decode cX8_rounds 55 = .ok (.getfield 128, 3) := by decide +kernel
theorem dX8_rounds_58 : decode cX8_rounds 58 = .ok (.aload_n 0, 1) := by decide +kernel
theorem dX8_rounds_59 : decode cX8_rounds 59 = .ok (.getfield 10, 3) := by decide +kernel
theorem dX8_rounds_62 : decode cX8_rounds 62 = .ok (.getfield 48, 3) := by decide +kernel
theorem dX8_rounds_65 : decode cX8_rounds 65 = .ok (.getfield 132, 3) := by decide +kernel
theorem dX8_rounds_68 : decode cX8_rounds 68 = .ok (.invokevirtual 136, 3) := by decide +kernel
theorem dX8_rounds_71 : decode cX8_rounds 71 = .ok (.ireturn, 1) := by decide +kernel
theorem dX8_type_0 : decode cX8_type 0 = .ok (.aload_n 0, 1) := by decide +kernel
theorem dX8_type_1 : decode cX8_type 1 = .ok (.getfield 26, 3) := by decide +kernel
theorem dX8_type_4 : decode cX8_type 4 = .ok (.iload_n 1, 1) := by decide +kernel
theorem dX8_type_5 : decode cX8_type 5 = .ok (.invokevirtual 142, 3) := by decide +kernel
theorem dX8_type_8 : decode cX8_type 8 = .ok (.ifCond .ne 6, 3) := by decide +kernel
theorem dX8_type_11 : decode cX8_type 11 = .ok (.bipush (-3), 2) := by decide +kernel
theorem dX8_type_13 : decode cX8_type 13 = .ok (.ireturn, 1) := by decide +kernel
theorem dX8_type_14 : decode cX8_type 14 = .ok (.aload_n 0, 1) := by decide +kernel
theorem dX8_type_15 : decode cX8_type 15 = .ok (.getfield 26, 3) := by decide +kernel
theorem dX8_type_18 : decode cX8_type 18 = .ok (.getfield 145, 3) := by decide +kernel
theorem dX8_type_21 : decode cX8_type 21 = .ok (.ireturn, 1) := by decide +kernel
theorem dX8_clearText_0 : decode cX8_clearText 0 = .ok (.aload_n 0, 1) := by decide +kernel
theorem dX8_clearText_1 : decode cX8_clearText 1 = .ok (.getfield 26, 3) := by decide +kernel
theorem dX8_clearText_4 : decode cX8_clearText 4 = .ok (.getfield 145, 3) := by decide +kernel
theorem dX8_clearText_7 : decode cX8_clearText 7 = .ok (.istore_n 1, 1) := by decide +kernel
theorem dX8_clearText_8 : decode cX8_clearText 8 = .ok (.aload_n 0, 1) := by decide +kernel
theorem dX8_clearText_9 : decode cX8_clearText 9 = .ok (.getfield 26, 3) := by decide +kernel
theorem dX8_clearText_12 : decode cX8_clearText 12 = .ok (.iconst 0, 1) := by decide +kernel
theorem dX8_clearText_13 : decode cX8_clearText 13 = .ok (.putfield 145, 3) := by decide +kernel
theorem dX8_clearText_16 : decode cX8_clearText 16 = .ok (.iload_n 1, 1) := by decide +kernel
theorem dX8_clearText_17 : decode cX8_clearText 17 = .ok (.ireturn, 1) := by decide +kernel
theorem dX8_run_0 : decode cX8_run 0 = .ok (.aload_n 0, 1) := by decide +kernel
theorem dX8_run_1 : decode cX8_run 1 = .ok (.getfield 26, 3) := by decide +kernel
theorem dX8_run_4 : decode cX8_run 4 = .ok (.aload_n 0, 1) := by decide +kernel
theorem dX8_run_5 : decode cX8_run 5 = .ok (.getfield 10, 3) := by decide +kernel
theorem dX8_run_8 : decode cX8_run 8 = .ok (.getfield 48, 3) := by decide +kernel
theorem dX8_run_11 : decode cX8_run 11 = .ok (.getfield 78, 3) := by decide +kernel
theorem dX8_run_14 : decode cX8_run 14 = .ok (.invokevirtual 148, 3) := by decide +kernel
theorem dX8_run_17 : decode cX8_run 17 = .ok (.istore_n 1, 1) := by decide +kernel
theorem dX8_run_18 : decode cX8_run 18 = .ok (.iload_n 1, 1) := by decide +kernel
theorem dX8_run_19 : decode cX8_run 19 = .ok (.ifCond .lt 8, 3) := by decide +kernel
theorem dX8_run_22 : decode cX8_run 22 = .ok (.bipush (-100), 2) := by decide +kernel
theorem dX8_run_24 : decode cX8_run 24 = .ok (.iload_n 1, 1) := by decide +kernel
theorem dX8_run_25 : decode cX8_run 25 = .ok (.isub, 1) := by decide +kernel
theorem dX8_run_26 : decode cX8_run 26 = .ok (.ireturn, 1) := by decide +kernel
theorem dX8_run_27 : decode cX8_run 27 = .ok (.aload_n 0, 1) := by decide +kernel
theorem dX8_run_28 : decode cX8_run 28 = .ok (.getfield 19, 3) := by decide +kernel
theorem dX8_run_31 : decode cX8_run 31 = .ok (.aload_n 0, 1) := by decide +kernel
theorem dX8_run_32 : decode cX8_run 32 = .ok (.getfield 10, 3) := by decide +kernel
theorem dX8_run_35 : decode cX8_run 35 = .ok (.getfield 48, 3) := by decide +kernel
theorem dX8_run_38 : decode cX8_run 38 = .ok (.invokevirtual 51, 3) := by decide +kernel
theorem dX8_run_41 : decode cX8_run 41 = .ok (.aload_n 0, 1) := by decide +kernel
theorem dX8_run_42 : decode cX8_run 42 = .ok (.getfield 10, 3) := by decide +kernel
theorem dX8_run_45 : decode cX8_run 45 = .ok (.getfield 48, 3) := by decide +kernel
theorem dX8_run_48 : decode cX8_run 48 = .ok (.invokevirtual 151, 3) := by decide +kernel
theorem dX8_run_51 : decode cX8_run 51 = .ok (.istore_n 2, 1) := by decide +kernel
theorem dX8_run_52 : decode cX8_run 52 = .ok (.aload_n 0, 1) := by decide +kernel
theorem dX8_run_53 : decode cX8_run 53 = .ok (.getfield 10, 3) := by decide +kernel
theorem dX8_run_56 : decode cX8_run 56 = .ok (.getfield 48, 3) := by decide +kernel
theorem dX8_run_59 : decode cX8_run 59 = .ok (.iconst 0, 1) := by decide +kernel
theorem dX8_run_60 : decode cX8_run 60 = .ok (.invokevirtual 82, 3) := by decide +kernel
theorem dX8_run_63 : decode cX8_run 63 = .ok (.astore_n 3, 1) := by decide +kernel
theorem dX8_run_64 : decode cX8_run 64 = .ok (.iconst 0, 1) := by decide +kernel
theorem dX8_run_65 : decode cX8_run 65 = .ok (.istore 4, 2) := by decide +kernel
theorem dX8_run_67 : decode cX8_run 67 = .ok (.iload 4, 2) := by decide +kernel
theorem dX8_run_69 : decode cX8_run 69 = .ok (.aload_n 0, 1) := by decide +kernel
theorem dX8_run_70 : decode cX8_run 70 = .ok (.getfield 26, 3) := by decide +kernel
theorem dX8_run_73 : decode cX8_run 73 = .ok (.getfield 155, 3) := by decide +kernel
theorem dX8_run_76 : decode cX8_run 76 = .ok (.if_icmp .ge 89, 3) := by decide +kernel
theorem dX8_run_79 : decode cX8_run 79 = .ok (.aload_n 0, 1) := by decide +kernel
theorem dX8_run_80 : decode cX8_run 80 = .ok (.getfield 26, 3) := by decide +kernel
theorem dX8_run_83 : decode cX8_run 83 = .ok (.iload 4, 2) := by decide +kernel
theorem dX8_run_85 : decode cX8_run 85 = .ok (.invokevirtual 158, 3) := by decide +kernel
theorem dX8_run_88 : decode cX8_run 88 = .ok (.istore 5, 2) := by decide +kernel
theorem dX8_run_90 : decode cX8_run 90 = .ok (.aload_n 0, 1) := by decide +kernel
theorem dX8_run_91 : decode cX8_run 91 = .ok (.getfield 26, 3) := by decide +kernel
theorem dX8_run_94 : decode cX8_run 94 = .ok (.iload 4, 2) := by decide +kernel
theorem dX8_run_96 : decode cX8_run 96 = .ok (.invokevirtual 162, 3) := by decide +kernel
theorem dX8_run_99 : decode cX8_run 99 = .ok (.istore 6, 2) := by decide +kernel
theorem dX8_run_101 : decode cX8_run 101 = .ok (.iload 5, 2) := by decide +kernel
theorem dX8_run_103 : decode cX8_run 103 = .ok (.bipush 35, 2) := by decide +kernel
theorem dX8_run_105 : decode cX8_run 105 = .ok (.if_icmp .ne 19, 3) := by decide +kernel
theorem dX8_run_108 : decode cX8_run 108 = .ok (.aload_n 0, 1) := by decide +kernel
theorem dX8_run_109 : decode cX8_run 109 = .ok (.getfield 10, 3) := by decide +kernel
theorem dX8_run_112 : decode cX8_run 112 = .ok (.getfield 48, 3) := by decide +kernel
theorem dX8_run_115 : decode cX8_run 115 = .ok (.iload 6, 2) := by decide +kernel
theorem dX8_run_117 : decode cX8_run 117 = .ok (.invokevirtual 82, 3) := by decide +kernel
theorem dX8_run_120 : decode cX8_run 120 = .ok (.astore_n 3, 1) := by decide +kernel
theorem dX8_run_121 : decode cX8_run 121 = .ok (.goto 38, 3) := by decide +kernel
theorem dX8_run_124 : decode cX8_run 124 = .ok (.iload 5, 2) := by decide +kernel
theorem dX8_run_126 : decode cX8_run 126 = .ok (.bipush 114, 2) := by decide +kernel
theorem dX8_run_128 : decode cX8_run 128 = .ok (.if_icmp .ne 15, 3) := by decide +kernel
theorem dX8_run_131 : decode cX8_run 131 = .ok (.aload_n 0, 1) := by decide +kernel
theorem dX8_run_132 : decode cX8_run 132 = .ok (.getfield 10, 3) := by decide +kernel
theorem dX8_run_135 : decode cX8_run 135 = .ok (.iload 6, 2) := by decide +kernel
theorem dX8_run_137 : decode cX8_run 137 = .ok (.invokevirtual 125, 3) := by decide +kernel
theorem dX8_run_140 : decode cX8_run 140 = .ok (.goto 19, 3) := by decide +kernel
theorem dX8_run_143 : decode cX8_run 143 = .ok (.aload_n 3, 1) := by decide +kernel
theorem dX8_run_144 : decode cX8_run 144 = .ok (.ifnull 15, 3) := by decide +kernel
theorem dX8_run_147 : decode cX8_run 147 = .ok (.aload_n 0, 1) := by decide +kernel
theorem dX8_run_148 : decode cX8_run 148 = .ok (.getfield 10, 3) := by decide +kernel
theorem dX8_run_151 : decode cX8_run 151 = .ok (.aload_n 3, 1) := by decide +kernel
theorem dX8_run_152 : decode cX8_run 152 = .ok (.iload 5, 2) := by decide +kernel
theorem dX8_run_154 : decode cX8_run 154 = .ok (.iload 6, 2) := by decide +kernel
theorem dX8_run_156 : decode cX8_run 156 = .ok (.invokevirtual 165, 3) := by decide +kernel
theorem dX8_run_159 : decode cX8_run 159 = .ok (.iinc 4 1, 3) := by decide +kernel
theorem dX8_run_162 : decode cX8_run 162 = .ok (.goto (-95), 3) := by decide +kernel
theorem dX8_run_165 : decode cX8_run 165 = .ok (.aload_n 0, 1) := by decide +kernel
theorem dX8_run_166 : decode cX8_run 166 = .ok (.getfield 10, 3) := by decide +kernel
theorem dX8_run_169 : decode cX8_run 169 = .ok (.getfield 48, 3) := by decide +kernel
theorem dX8_run_172 : decode cX8_run 172 = .ok (.invokevirtual 151, 3) := by decide +kernel
theorem dX8_run_175 : decode cX8_run 175 = .ok (.iload_n 2, 1) := by decide +kernel
theorem dX8_run_176 : decode cX8_run 176 = .ok (.isub, 1) := by decide +kernel
theorem dX8_run_177 : decode cX8_run 177 = .ok (.ireturn, 1) := by decide +kernel
theorem dX8_undo_0 : decode cX8_undo 0 = .ok (.aload_n 0, 1) := by decide +kernel
theorem dX8_undo_1 : decode cX8_undo 1 = .ok (.getfield 19, 3) := by decide +kernel
theorem dX8_undo_4 : decode cX8_undo 4 = .ok (.invokevirtual 169, 3) := by decide +kernel
theorem dX8_undo_7 : decode cX8_undo 7 = .ok (.astore_n 1, 1) := by decide +kernel
theorem dX8_undo_8 : decode cX8_undo 8 = .ok (.aload_n 1, 1) := by decide +kernel
theorem dX8_undo_9 : decode cX8_undo 9 = .ok (.ifnonnull 6, 3) := by decide +kernel
theorem dX8_undo_12 : decode cX8_undo 12 = .ok (.bipush (-5), 2) := by decide +kernel
theorem dX8_undo_14 : decode cX8_undo 14 = .ok (.ireturn, 1) := by decide +kernel
theorem dX8_undo_15 : decode cX8_undo 15 = .ok (.aload_n 0, 1) := by decide +kernel
theorem dX8_undo_16 : decode cX8_undo 16 = .ok (.getfield 10, 3) := by decide +kernel
theorem dX8_undo_19 : decode cX8_undo 19 = .ok (.aload_n 1, 1) := by decide +kernel
theorem dX8_undo_20 : decode cX8_undo 20 = .ok (.invokevirtual 173, 3) := by decide +kernel
theorem dX8_undo_23 : decode cX8_undo 23 = .ok (.aload_n 0, 1) := by decide +kernel
theorem dX8_undo_24 : decode cX8_undo 24 = .ok (.getfield 19, 3) := by decide +kernel
theorem dX8_undo_27 : decode cX8_undo 27 = .ok (.getfield 176, 3) := by decide +kernel
theorem dX8_undo_30 : decode cX8_undo 30 = .ok (.ireturn, 1) := by decide +kernel
theorem dX8_keep_0 : decode cX8_keep 0 = .ok (.aload_n 0, 1) := by decide +kernel
theorem dX8_keep_1 : decode cX8_keep 1 = .ok (.iload_n 1, 1) := by decide +kernel
theorem dX8_keep_2 : decode cX8_keep 2 = .ok (.invokevirtual 177, 3) := by decide +kernel
theorem dX8_keep_5 : decode cX8_keep 5 = .ok (.astore_n 2, 1) := by decide +kernel
theorem dX8_keep_6 : decode cX8_keep 6 = .ok (.aload_n 2, 1) := by decide +kernel
theorem dX8_keep_7 : decode cX8_keep 7 = .ok (.ifnonnull 5, 3) := by decide +kernel
theorem dX8_keep_10 : decode cX8_keep 10 = .ok (.iconst (-1), 1) := by decide +kernel
theorem dX8_keep_11 : decode cX8_keep 11 = .ok (.ireturn, 1) := by decide +kernel
theorem dX8_keep_12 : decode cX8_keep 12 = .ok (.aload_n 2, 1) := by decide +kernel
theorem dX8_keep_13 : decode cX8_keep 13 = .ok (.getfield 181, 3) := by decide +kernel
theorem dX8_keep_16 : decode cX8_keep 16 = .ok (.aload_n 0, 1) := by decide +kernel
theorem dX8_keep_17 : decode cX8_keep 17 = .ok (.getfield 10, 3) := by decide +kernel
theorem dX8_keep_20 : decode cX8_keep 20 = .ok (.getfield 48, 3) := by decide +kernel
theorem dX8_keep_23 : decode cX8_keep 23 = .ok (.invokevirtual 184, 3) := by decide +kernel
theorem dX8_keep_26 : decode cX8_keep 26 = .ok (.aload_n 2, 1) := by decide +kernel
theorem dX8_keep_27 : decode cX8_keep 27 = .ok (.iconst 1, 1) := by decide +kernel
theorem dX8_keep_28 : decode cX8_keep 28 = .ok (.putfield 187, 3) := by decide +kernel
theorem dX8_keep_31 : decode cX8_keep 31 = .ok (.aload_n 0, 1) := by decide +kernel
theorem dX8_keep_32 : decode cX8_keep 32 = .ok (.getfield 10, 3) := by decide +kernel
theorem dX8_keep_35 : decode cX8_keep 35 = .ok (.getfield 48, 3) := by decide +kernel
theorem dX8_keep_38 : decode cX8_keep 38 = .ok (.invokevirtual 191, 3) := by decide +kernel
theorem dX8_keep_41 : decode cX8_keep 41 = .ok (.ireturn, 1) := by decide +kernel
theorem dX8_restore_0 : decode cX8_restore 0 = .ok (.aload_n 0, 1) := by decide +kernel
theorem dX8_restore_1 : decode cX8_restore 1 = .ok (.iload_n 1, 1) := by decide +kernel
theorem dX8_restore_2 : decode cX8_restore 2 = .ok (.invokevirtual 177, 3) := by decide +kernel
theorem dX8_restore_5 : decode cX8_restore 5 = .ok (.astore_n 2, 1) := by decide +kernel
theorem dX8_restore_6 : decode cX8_restore 6 = .ok (.aload_n 2, 1) := by decide +kernel
theorem dX8_restore_7 : decode cX8_restore 7 = .ok (.ifnonnull 5, 3) := by decide +kernel
theorem dX8_restore_10 : decode cX8_restore 10 = .ok (.iconst (-1), 1) := by decide +kernel
theorem dX8_restore_11 : decode cX8_restore 11 = .ok (.ireturn, 1) := by decide +kernel
theorem dX8_restore_12 : decode cX8_restore 12 = .ok (.aload_n 2, 1) := by decide +kernel
theorem dX8_restore_13 : decode cX8_restore 13 = .ok (.getfield 187, 3) := by decide +kernel
theorem dX8_restore_16 : decode cX8_restore 16 = .ok (.ifCond .ne 6, 3) := by decide +kernel
theorem dX8_restore_19 : decode cX8_restore 19 = .ok (.bipush (-5), 2) := by decide +kernel
theorem dX8_restore_21 : decode cX8_restore 21 = .ok (.ireturn, 1) := by decide +kernel
theorem dX8_restore_22 : decode cX8_restore 22 = .ok (.aload_n 0, 1) := by decide +kernel
theorem dX8_restore_23 : decode cX8_restore 23 = .ok (.getfield 19, 3) := by decide +kernel
theorem dX8_restore_26 : decode cX8_restore 26 = .ok (.aload_n 0, 1) := by decide +kernel
theorem dX8_restore_27 : decode cX8_restore 27 = .ok (.getfield 10, 3) := by decide +kernel
theorem dX8_restore_30 : decode cX8_restore 30 = .ok (.getfield 48, 3) := by decide +kernel
theorem dX8_restore_33 : decode cX8_restore 33 = .ok (.invokevirtual 51, 3) := by decide +kernel
theorem dX8_restore_36 : decode cX8_restore 36 = .ok (.aload_n 0, 1) := by decide +kernel
theorem dX8_restore_37 : decode cX8_restore 37 = .ok (.getfield 10, 3) := by decide +kernel
theorem dX8_restore_40 : decode cX8_restore 40 = .ok (.aload_n 2, 1) := by decide +kernel
theorem dX8_restore_41 : decode cX8_restore 41 = .ok (.getfield 181, 3) := by decide +kernel
theorem dX8_restore_44 : decode cX8_restore 44 = .ok (.invokevirtual 173, 3) := by decide +kernel
theorem dX8_restore_47 : decode cX8_restore 47 = .ok (.aload_n 0, 1) := by decide +kernel
theorem dX8_restore_48 : decode cX8_restore 48 = .ok (.getfield 10, 3) := by decide +kernel
theorem dX8_restore_51 : decode cX8_restore 51 = .ok (.getfield 48, 3) := by decide +kernel
theorem dX8_restore_54 : decode cX8_restore 54 = .ok (.invokevirtual 191, 3) := by decide +kernel
theorem dX8_restore_57 : decode cX8_restore 57 = .ok (.ireturn, 1) := by decide +kernel
theorem dX8_chips_0 : decode cX8_chips 0 = .ok (.aload_n 0, 1) := by decide +kernel
theorem dX8_chips_1 : decode cX8_chips 1 = .ok (.getfield 10, 3) := by decide +kernel
theorem dX8_chips_4 : decode cX8_chips 4 = .ok (.getfield 48, 3) := by decide +kernel
theorem dX8_chips_7 : decode cX8_chips 7 = .ok (.iload_n 1, 1) := by decide +kernel
theorem dX8_chips_8 : decode cX8_chips 8 = .ok (.iload_n 2, 1) := by decide +kernel
theorem dX8_chips_9 : decode cX8_chips 9 = .ok (.invokevirtual 59, 3) := by decide +kernel
theorem dX8_chips_12 : decode cX8_chips 12 = .ok (.istore_n 3, 1) := by decide +kernel
theorem dX8_chips_13 : decode cX8_chips 13 = .ok (.iload_n 3, 1) := by decide +kernel
theorem dX8_chips_14 : decode cX8_chips 14 = .ok (.ifCond .ge 5, 3) := by decide +kernel
theorem dX8_chips_17 : decode cX8_chips 17 = .ok (.iconst (-1), 1) := by decide +kernel
theorem dX8_chips_18 : decode cX8_chips 18 = .ok (.ireturn, 1) := by decide +kernel
theorem dX8_chips_19 : decode cX8_chips 19 = .ok (.aload_n 0, 1) := by decide +kernel
theorem dX8_chips_20 : decode cX8_chips 20 = .ok (.getfield 10, 3) := by decide +kernel
theorem dX8_chips_23 : decode cX8_chips 23 = .ok (.getfield 48, 3) := by decide +kernel
theorem dX8_chips_26 : decode cX8_chips 26 = .ok (.iload_n 3, 1) := by decide +kernel
theorem dX8_chips_27 : decode cX8_chips 27 = .ok (.invokevirtual 63, 3) := by decide +kernel
theorem dX8_chips_30 : decode cX8_chips 30 = .ok (.ireturn, 1) := by decide +kernel
theorem dX8_walker_0 : decode cX8_walker 0 = .ok (.aload_n 0, 1) := by decide +kernel
theorem dX8_walker_1 : decode cX8_walker 1 = .ok (.getfield 10, 3) := by decide +kernel
theorem dX8_walker_4 : decode cX8_walker 4 = .ok (.getfield 48, 3) := by decide +kernel
theorem dX8_walker_7 : decode cX8_walker 7 = .ok (.iload_n 1, 1) := by decide +kernel
theorem dX8_walker_8 : decode cX8_walker 8 = .ok (.invokevirtual 82, 3) := by decide +kernel
theorem dX8_walker_11 : decode cX8_walker 11 = .ok (.astore_n 3, 1) := by decide +kernel
theorem dX8_walker_12 : decode cX8_walker 12 = .ok (.aload_n 3, 1) := by decide +kernel
theorem dX8_walker_13 : decode cX8_walker 13 = .ok (.ifnonnull 5, 3) := by decide +kernel
theorem dX8_walker_16 : decode cX8_walker 16 = .ok (.iconst (-1), 1) := by decide +kernel
theorem dX8_walker_17 : decode cX8_walker 17 = .ok (.ireturn, 1) := by decide +kernel
theorem dX8_walker_18 : decode cX8_walker 18 = .ok (.iload_n 2, 1) := by decide +kernel
theorem dX8_walker_19 : decode cX8_walker 19 = .ok (.tableswitch 94 0 8 #[49, 54, 59, 64, 69, 74, 79, 84, 89], 49) := by decide +kernel
theorem dX8_walker_68 : decode cX8_walker 68 = .ok (.aload_n 3, 1) := by decide +kernel
theorem dX8_walker_69 : decode cX8_walker 69 = .ok (.getfield 194, 3) := by decide +kernel
theorem dX8_walker_72 : decode cX8_walker 72 = .ok (.ireturn, 1) := by decide +kernel
theorem dX8_walker_73 : decode cX8_walker 73 = .ok (.aload_n 3, 1) := by decide +kernel
theorem dX8_walker_74 : decode cX8_walker 74 = .ok (.getfield 197, 3) := by decide +kernel
theorem dX8_walker_77 : decode cX8_walker 77 = .ok (.ireturn, 1) := by decide +kernel
theorem dX8_walker_78 : decode cX8_walker 78 = .ok (.aload_n 3, 1) := by decide +kernel
theorem dX8_walker_79 : decode cX8_walker 79 = .ok (.getfield 200, 3) := by decide +kernel
theorem dX8_walker_82 : decode cX8_walker 82 = .ok (.ireturn, 1) := by decide +kernel
theorem dX8_walker_83 : decode cX8_walker 83 = .ok (.aload_n 3, 1) := by decide +kernel
theorem dX8_walker_84 : decode cX8_walker 84 = .ok (.getfield 99, 3) := by decide +kernel
theorem dX8_walker_87 : decode cX8_walker 87 = .ok (.ireturn, 1) := by decide +kernel
theorem dX8_walker_88 : decode cX8_walker 88 = .ok (.aload_n 3, 1) := by decide +kernel
theorem dX8_walker_89 : decode cX8_walker 89 = .ok (.getfield 203, 3) := by decide +kernel
theorem dX8_walker_92 : decode cX8_walker 92 = .ok (.ireturn, 1) := by decide +kernel
theorem dX8_walker_93 : decode cX8_walker 93 = .ok (.aload_n 3, 1) := by decide +kernel
theorem dX8_walker_94 : decode cX8_walker 94 = .ok (.getfield 92, 3) := by decide +kernel
theorem dX8_walker_97 : decode cX8_walker 97 = .ok (.ireturn, 1) := by decide +kernel
theorem dX8_walker_98 : decode cX8_walker 98 = .ok (.aload_n 3, 1) := by decide +kernel
theorem dX8_walker_99 : decode cX8_walker 99 = .ok (.getfield 206, 3) := by decide +kernel
theorem dX8_walker_102 : decode cX8_walker 102 = .ok (.ireturn, 1) := by decide +kernel
theorem dX8_walker_103 : decode cX8_walker 103 = .ok (.aload_n 3, 1) := by decide +kernel
theorem dX8_walker_104 : decode cX8_walker 104 = .ok (.getfield 209, 3) := by decide +kernel
theorem dX8_walker_107 : decode cX8_walker 107 = .ok (.ireturn, 1) := by decide +kernel
theorem dX8_walker_108 : decode cX8_walker 108 = .ok (.aload_n 3, 1) := by decide +kernel
theorem dX8_walker_109 : decode cX8_walker 109 = .ok (.getfield 212, 3) := by decide +kernel
theorem dX8_walker_112 : decode cX8_walker 112 = .ok (.ireturn, 1) := by decide +kernel
theorem dX8_walker_113 : decode cX8_walker 113 = .ok (.bipush (-2), 2) := by decide +kernel
theorem dX8_walker_115 : decode cX8_walker 115 = .ok (.ireturn, 1) := by decide +kernel
theorem dX8_heap_0 : decode cX8_heap 0 = .ok (.iload_n 1, 1) := by decide +kernel
theorem dX8_heap_1 : decode cX8_heap 1 = .ok (.ifCond .lt 12, 3) := by decide +kernel
theorem dX8_heap_4 : decode cX8_heap 4 = .ok (.iload_n 2, 1) := by decide +kernel
theorem dX8_heap_5 : decode cX8_heap 5 = .ok (.iconst 0, 1) := by decide +kernel
theorem dX8_heap_6 : decode cX8_heap 6 = .ok (.iconst 4, 1) := by decide +kernel
theorem dX8_heap_7 : decode cX8_heap 7 = .ok (.invokestatic 44, 3) := by decide +kernel
theorem dX8_heap_10 : decode cX8_heap 10 = .ok (.ifCond .ne 6, 3) := by decide +kernel
theorem dX8_heap_13 : decode cX8_heap 13 = .ok (.bipush (-2), 2) := by decide +kernel
theorem dX8_heap_15 : decode cX8_heap 15 = .ok (.ireturn, 1) := by decide +kernel
theorem dX8_heap_16 : decode cX8_heap 16 = .ok (.aload_n 0, 1) := by decide +kernel
theorem dX8_heap_17 : decode cX8_heap 17 = .ok (.getfield 10, 3) := by decide +kernel
theorem dX8_heap_20 : decode cX8_heap 20 = .ok (.getfield 128, 3) := by decide +kernel
theorem dX8_heap_23 : decode cX8_heap 23 = .ok (.astore_n 3, 1) := by decide +kernel
theorem dX8_heap_24 : decode cX8_heap 24 = .ok (.iload_n 1, 1) := by decide +kernel
theorem dX8_heap_25 : decode cX8_heap 25 = .ok (.aload_n 3, 1) := by decide +kernel
theorem dX8_heap_26 : decode cX8_heap 26 = .ok (.aload_n 0, 1) := by decide +kernel
theorem dX8_heap_27 : decode cX8_heap 27 = .ok (.getfield 10, 3) := by decide +kernel
theorem dX8_heap_30 : decode cX8_heap 30 = .ok (.getfield 48, 3) := by decide +kernel
theorem dX8_heap_33 : decode cX8_heap 33 = .ok (.getfield 132, 3) := by decide +kernel
theorem dX8_heap_36 : decode cX8_heap 36 = .ok (.invokevirtual 136, 3) := by decide +kernel
theorem dX8_heap_39 : decode cX8_heap 39 = .ok (.if_icmp .lt 6, 3) := by decide +kernel
theorem dX8_heap_42 : decode cX8_heap 42 = .ok (.bipush (-5), 2) := by decide +kernel
theorem dX8_heap_44 : decode cX8_heap 44 = .ok (.ireturn, 1) := by decide +kernel
theorem dX8_heap_45 : decode cX8_heap 45 = .ok (.aload_n 3, 1) := by decide +kernel
theorem dX8_heap_46 : decode cX8_heap 46 = .ok (.iload_n 1, 1) := by decide +kernel
theorem dX8_heap_47 : decode cX8_heap 47 = .ok (.invokevirtual 215, 3) := by decide +kernel
theorem dX8_heap_50 : decode cX8_heap 50 = .ok (.istore 4, 2) := by decide +kernel
theorem dX8_heap_52 : decode cX8_heap 52 = .ok (.iload 4, 2) := by decide +kernel
theorem dX8_heap_54 : decode cX8_heap 54 = .ok (.ifCond .lt 11, 3) := by decide +kernel
theorem dX8_heap_57 : decode cX8_heap 57 = .ok (.iload 4, 2) := by decide +kernel
theorem dX8_heap_59 : decode cX8_heap 59 = .ok (.sipush 128, 3) := by decide +kernel
theorem dX8_heap_62 : decode cX8_heap 62 = .ok (.if_icmp .lt 6, 3) := by decide +kernel
theorem dX8_heap_65 : decode cX8_heap 65 = .ok (.bipush (-5), 2) := by decide +kernel
theorem dX8_heap_67 : decode cX8_heap 67 = .ok (.ireturn, 1) := by decide +kernel
theorem dX8_heap_68 : decode cX8_heap 68 = .ok (.iload_n 2, 1) := by decide +kernel
theorem dX8_heap_69 : decode cX8_heap 69 = .ok (.tableswitch 69 0 3 #[31, 39, 47, 58], 31) := by decide +kernel
theorem dX8_heap_100 : decode cX8_heap 100 = .ok (.aload_n 3, 1) := by decide +kernel
theorem dX8_heap_101 : decode cX8_heap 101 = .ok (.getfield 218, 3) := by decide +kernel
theorem dX8_heap_104 : decode cX8_heap 104 = .ok (.iload 4, 2) := by decide +kernel
theorem dX8_heap_106 : decode cX8_heap 106 = .ok (.iaload, 1) := by decide +kernel
theorem dX8_heap_107 : decode cX8_heap 107 = .ok (.ireturn, 1) := by decide +kernel
theorem dX8_heap_108 : decode cX8_heap 108 = .ok (.aload_n 3, 1) := by decide +kernel
theorem dX8_heap_109 : decode cX8_heap 109 = .ok (.getfield 221, 3) := by decide +kernel
theorem dX8_heap_112 : decode cX8_heap 112 = .ok (.iload 4, 2) := by decide +kernel
theorem dX8_heap_114 : decode cX8_heap 114 = .ok (.iaload, 1) := by decide +kernel
theorem dX8_heap_115 : decode cX8_heap 115 = .ok (.ireturn, 1) := by decide +kernel
theorem dX8_heap_116 : decode cX8_heap 116 = .ok (.aload_n 3, 1) := by decide +kernel
theorem dX8_heap_117 : decode cX8_heap 117 = .ok (.getfield 224, 3) := by decide +kernel
theorem dX8_heap_120 : decode cX8_heap 120 = .ok (.iload 4, 2) := by decide +kernel
theorem dX8_heap_122 : decode cX8_heap 122 = .ok (.iaload, 1) := by decide +kernel
theorem dX8_heap_123 : decode cX8_heap 123 = .ok (.bipush 16, 2) := by decide +kernel
theorem dX8_heap_125 : decode cX8_heap 125 = .ok (.idiv, 1) := by decide +kernel
theorem dX8_heap_126 : decode cX8_heap 126 = .ok (.ireturn, 1) := by decide +kernel
theorem dX8_heap_127 : decode cX8_heap 127 = .ok (.aload_n 3, 1) := by decide +kernel
theorem dX8_heap_128 : decode cX8_heap 128 = .ok (.getfield 224, 3) := by decide +kernel
theorem dX8_heap_131 : decode cX8_heap 131 = .ok (.iload 4, 2) := by decide +kernel
theorem dX8_heap_133 : decode cX8_heap 133 = .ok (.iaload, 1) := by decide +kernel
theorem dX8_heap_134 : decode cX8_heap 134 = .ok (.bipush 16, 2) := by decide +kernel
theorem dX8_heap_136 : decode cX8_heap 136 = .ok (.irem, 1) := by decide +kernel
theorem dX8_heap_137 : decode cX8_heap 137 = .ok (.ireturn, 1) := by decide +kernel
theorem dX8_heap_138 : decode cX8_heap 138 = .ok (.aload_n 3, 1) := by decide +kernel
theorem dX8_heap_139 : decode cX8_heap 139 = .ok (.aload_n 0, 1) := by decide +kernel
theorem dX8_heap_140 : decode cX8_heap 140 = .ok (.getfield 10, 3) := by decide +kernel
theorem dX8_heap_143 : decode cX8_heap 143 = .ok (.getfield 48, 3) := by decide +kernel
theorem dX8_heap_146 : decode cX8_heap 146 = .ok (.getfield 132, 3) := by decide +kernel
theorem dX8_heap_149 : decode cX8_heap 149 = .ok (.iload 4, 2) := by decide +kernel
theorem dX8_heap_151 : decode cX8_heap 151 = .ok (.invokevirtual 227, 3) := by decide +kernel
theorem dX8_heap_154 : decode cX8_heap 154 = .ok (.ireturn, 1) := by decide +kernel
theorem dX8_heapOf_0 : decode cX8_heapOf 0 = .ok (.aload_n 0, 1) := by decide +kernel
theorem dX8_heapOf_1 : decode cX8_heapOf 1 = .ok (.getfield 10, 3) := by decide +kernel
theorem dX8_heapOf_4 : decode cX8_heapOf 4 = .ok (.getfield 48, 3) := by decide +kernel
theorem dX8_heapOf_7 : decode cX8_heapOf 7 = .ok (.iload_n 1, 1) := by decide +kernel
theorem dX8_heapOf_8 : decode cX8_heapOf 8 = .ok (.iload_n 2, 1) := by decide +kernel
theorem dX8_heapOf_9 : decode cX8_heapOf 9 = .ok (.invokevirtual 59, 3) := by decide +kernel
theorem dX8_heapOf_12 : decode cX8_heapOf 12 = .ok (.istore_n 3, 1) := by decide +kernel
theorem dX8_heapOf_13 : decode cX8_heapOf 13 = .ok (.iload_n 3, 1) := by decide +kernel
theorem dX8_heapOf_14 : decode cX8_heapOf 14 = .ok (.ifCond .ge 5, 3) := by decide +kernel
theorem dX8_heapOf_17 : decode cX8_heapOf 17 = .ok (.iconst (-1), 1) := by decide +kernel
theorem dX8_heapOf_18 : decode cX8_heapOf 18 = .ok (.ireturn, 1) := by decide +kernel
theorem dX8_heapOf_19 : decode cX8_heapOf 19 = .ok (.aload_n 0, 1) := by decide +kernel
theorem dX8_heapOf_20 : decode cX8_heapOf 20 = .ok (.getfield 10, 3) := by decide +kernel
theorem dX8_heapOf_23 : decode cX8_heapOf 23 = .ok (.getfield 48, 3) := by decide +kernel
theorem dX8_heapOf_26 : decode cX8_heapOf 26 = .ok (.iload_n 3, 1) := by decide +kernel
theorem dX8_heapOf_27 : decode cX8_heapOf 27 = .ok (.invokevirtual 63, 3) := by decide +kernel
theorem dX8_heapOf_30 : decode cX8_heapOf 30 = .ok (.ifCond .ne 6, 3) := by decide +kernel
theorem dX8_heapOf_33 : decode cX8_heapOf 33 = .ok (.bipush (-5), 2) := by decide +kernel
theorem dX8_heapOf_35 : decode cX8_heapOf 35 = .ok (.ireturn, 1) := by decide +kernel
theorem dX8_heapOf_36 : decode cX8_heapOf 36 = .ok (.aload_n 0, 1) := by decide +kernel
theorem dX8_heapOf_37 : decode cX8_heapOf 37 = .ok (.getfield 10, 3) := by decide +kernel
theorem dX8_heapOf_40 : decode cX8_heapOf 40 = .ok (.getfield 128, 3) := by decide +kernel
theorem dX8_heapOf_43 : decode cX8_heapOf 43 = .ok (.aload_n 0, 1) := by decide +kernel
theorem dX8_heapOf_44 : decode cX8_heapOf 44 = .ok (.getfield 10, 3) := by decide +kernel
theorem dX8_heapOf_47 : decode cX8_heapOf 47 = .ok (.getfield 48, 3) := by decide +kernel
theorem dX8_heapOf_50 : decode cX8_heapOf 50 = .ok (.getfield 132, 3) := by decide +kernel
theorem dX8_heapOf_53 : decode cX8_heapOf 53 = .ok (.invokevirtual 136, 3) := by decide +kernel
theorem dX8_heapOf_56 : decode cX8_heapOf 56 = .ok (.pop, 1) := by decide +kernel
theorem dX8_heapOf_57 : decode cX8_heapOf 57 = .ok (.aload_n 0, 1) := by decide +kernel
theorem dX8_heapOf_58 : decode cX8_heapOf 58 = .ok (.getfield 10, 3) := by decide +kernel
theorem dX8_heapOf_61 : decode cX8_heapOf 61 = .ok (.getfield 128, 3) := by decide +kernel
theorem dX8_heapOf_64 : decode cX8_heapOf 64 = .ok (.aload_n 0, 1) := by decide +kernel
theorem dX8_heapOf_65 : decode cX8_heapOf 65 = .ok (.getfield 10, 3) := by decide +kernel
theorem dX8_heapOf_68 : decode cX8_heapOf 68 = .ok (.getfield 128, 3) := by decide +kernel
theorem dX8_heapOf_71 : decode cX8_heapOf 71 = .ok (.iload_n 3, 1) := by decide +kernel
theorem dX8_heapOf_72 : decode cX8_heapOf 72 = .ok (.invokevirtual 231, 3) := by decide +kernel
theorem dX8_heapOf_75 : decode cX8_heapOf 75 = .ok (.invokevirtual 234, 3) := by decide +kernel
theorem dX8_heapOf_78 : decode cX8_heapOf 78 = .ok (.ireturn, 1) := by decide +kernel
theorem dX8_roundsUntil_0 : decode cX8_roundsUntil 0 = .ok (.iload_n 1, 1) := by decide +kernel
theorem dX8_roundsUntil_1 : decode cX8_roundsUntil 1 = .ok (.iconst 0, 1) := by decide +kernel
theorem dX8_roundsUntil_2 : decode cX8_roundsUntil 2 = .ok (.sipush 256, 3) := by decide +kernel
theorem dX8_roundsUntil_5 : decode cX8_roundsUntil 5 = .ok (.invokestatic 44, 3) := by decide +kernel
theorem dX8_roundsUntil_8 : decode cX8_roundsUntil 8 = .ok (.ifCond .ne 6, 3) := by decide +kernel
theorem dX8_roundsUntil_11 : decode cX8_roundsUntil 11 = .ok (.bipush (-2), 2) := by decide +kernel
theorem dX8_roundsUntil_13 : decode cX8_roundsUntil 13 = .ok (.ireturn, 1) := by decide +kernel
theorem dX8_roundsUntil_14 : decode cX8_roundsUntil 14 = .ok (.aload_n 0, 1) := by decide +kernel
theorem dX8_roundsUntil_15 : decode cX8_roundsUntil 15 = .ok (.getfield 10, 3) := by decide +kernel
theorem dX8_roundsUntil_18 : decode cX8_roundsUntil 18 = .ok (.getfield 128, 3) := by decide +kernel
theorem dX8_roundsUntil_21 : decode cX8_roundsUntil 21 = .ok (.aload_n 0, 1) := by decide +kernel
theorem dX8_roundsUntil_22 : decode cX8_roundsUntil 22 = .ok (.getfield 10, 3) := by decide +kernel
theorem dX8_roundsUntil_25 : decode cX8_roundsUntil 25 = .ok (.getfield 48, 3) := by decide +kernel
theorem dX8_roundsUntil_28 : decode cX8_roundsUntil 28 = .ok (.getfield 132, 3) := by decide +kernel
theorem dX8_roundsUntil_31 : decode cX8_roundsUntil 31 = .ok (.invokevirtual 136, 3) := by decide +kernel
theorem dX8_roundsUntil_34 : decode cX8_roundsUntil 34 = .ok (.iload_n 1, 1) := by decide +kernel
theorem dX8_roundsUntil_35 : decode cX8_roundsUntil 35 = .ok (.if_icmp .gt 5, 3) := by decide +kernel
theorem dX8_roundsUntil_38 : decode cX8_roundsUntil 38 = .ok (.iconst 0, 1) := by decide +kernel
theorem dX8_roundsUntil_39 : decode cX8_roundsUntil 39 = .ok (.ireturn, 1) := by decide +kernel
theorem dX8_roundsUntil_40 : decode cX8_roundsUntil 40 = .ok (.aload_n 0, 1) := by decide +kernel
theorem dX8_roundsUntil_41 : decode cX8_roundsUntil 41 = .ok (.getfield 10, 3) := by decide +kernel
theorem dX8_roundsUntil_44 : decode cX8_roundsUntil 44 = .ok (.getfield 48, 3) := by decide +kernel
theorem dX8_roundsUntil_47 : decode cX8_roundsUntil 47 = .ok (.getfield 78, 3) := by decide +kernel
theorem dX8_roundsUntil_50 : decode cX8_roundsUntil 50 = .ok (.ifCond .ne 6, 3) := by decide +kernel
theorem dX8_roundsUntil_53 : decode cX8_roundsUntil 53 = .ok (.bipush (-5), 2) := by decide +kernel
theorem dX8_roundsUntil_55 : decode cX8_roundsUntil 55 = .ok (.ireturn, 1) := by decide +kernel
theorem dX8_roundsUntil_56 : decode cX8_roundsUntil 56 = .ok (.aload_n 0, 1) := by decide +kernel
theorem dX8_roundsUntil_57 : decode cX8_roundsUntil 57 = .ok (.getfield 40, 3) := by decide +kernel
theorem dX8_roundsUntil_60 : decode cX8_roundsUntil 60 = .ok (.aload_n 0, 1) := by decide +kernel
theorem dX8_roundsUntil_61 : decode cX8_roundsUntil 61 = .ok (.getfield 10, 3) := by decide +kernel
theorem dX8_roundsUntil_64 : decode cX8_roundsUntil 64 = .ok (.getfield 48, 3) := by decide +kernel
theorem dX8_roundsUntil_67 : decode cX8_roundsUntil 67 = .ok (.invokevirtual 184, 3) := by decide +kernel
theorem dX8_roundsUntil_70 : decode cX8_roundsUntil 70 = .ok (.bipush (-5), 2) := by decide +kernel
theorem dX8_roundsUntil_72 : decode cX8_roundsUntil 72 = .ok (.istore_n 2, 1) := by decide +kernel
theorem dX8_roundsUntil_73 : decode cX8_roundsUntil 73 = .ok (.iconst 1, 1) := by decide +kernel
theorem dX8_roundsUntil_74 : decode cX8_roundsUntil 74 = .ok (.istore_n 3, 1) := by decide +kernel
theorem dX8_roundsUntil_75 : decode cX8_roundsUntil 75 = .ok (.iload_n 3, 1) := by decide +kernel
theorem dX8_roundsUntil_76 : decode cX8_roundsUntil 76 = .ok (.sipush 200, 3) := by decide +kernel
theorem dX8_roundsUntil_79 : decode cX8_roundsUntil 79 = .ok (.if_icmp .gt 49, 3) := by decide +kernel
theorem dX8_roundsUntil_82 : decode cX8_roundsUntil 82 = .ok (.iload_n 2, 1) := by decide +kernel
theorem dX8_roundsUntil_83 : decode cX8_roundsUntil 83 = .ok (.bipush (-5), 2) := by decide +kernel
theorem dX8_roundsUntil_85 : decode cX8_roundsUntil 85 = .ok (.if_icmp .ne 43, 3) := by decide +kernel
theorem dX8_roundsUntil_88 : decode cX8_roundsUntil 88 = .ok (.aload_n 0, 1) := by decide +kernel
theorem dX8_roundsUntil_89 : decode cX8_roundsUntil 89 = .ok (.getfield 10, 3) := by decide +kernel
theorem dX8_roundsUntil_92 : decode cX8_roundsUntil 92 = .ok (.iconst 1, 1) := by decide +kernel
theorem dX8_roundsUntil_93 : decode cX8_roundsUntil 93 = .ok (.invokevirtual 125, 3) := by decide +kernel
theorem dX8_roundsUntil_96 : decode cX8_roundsUntil 96 = .ok (.aload_n 0, 1) := by decide +kernel
theorem dX8_roundsUntil_97 : decode cX8_roundsUntil 97 = .ok (.getfield 10, 3) := by decide +kernel
theorem dX8_roundsUntil_100 : decode cX8_roundsUntil 100 = .ok (.getfield 128, 3) := by decide +kernel
theorem dX8_roundsUntil_103 : decode cX8_roundsUntil 103 = .ok (.aload_n 0, 1) := by decide +kernel
theorem dX8_roundsUntil_104 : decode cX8_roundsUntil 104 = .ok (.getfield 10, 3) := by decide +kernel
theorem dX8_roundsUntil_107 : decode cX8_roundsUntil 107 = .ok (.getfield 48, 3) := by decide +kernel
theorem dX8_roundsUntil_110 : decode cX8_roundsUntil 110 = .ok (.getfield 132, 3) := by decide +kernel
theorem dX8_roundsUntil_113 : decode cX8_roundsUntil 113 = .ok (.invokevirtual 136, 3) := by decide +kernel
theorem dX8_roundsUntil_116 : decode cX8_roundsUntil 116 = .ok (.iload_n 1, 1) := by decide +kernel
theorem dX8_roundsUntil_117 : decode cX8_roundsUntil 117 = .ok (.if_icmp .gt 5, 3) := by decide +kernel
theorem dX8_roundsUntil_120 : decode cX8_roundsUntil 120 = .ok (.iload_n 3, 1) := by decide +kernel
theorem dX8_roundsUntil_121 : decode cX8_roundsUntil 121 = .ok (.istore_n 2, 1) := by decide +kernel
theorem dX8_roundsUntil_122 : decode cX8_roundsUntil 122 = .ok (.iinc 3 1, 3) := by decide +kernel
theorem dX8_roundsUntil_125 : decode cX8_roundsUntil 125 = .ok (.goto (-50), 3) := by decide +kernel
theorem dX8_roundsUntil_128 : decode cX8_roundsUntil 128 = .ok (.aload_n 0, 1) := by decide +kernel
theorem dX8_roundsUntil_129 : decode cX8_roundsUntil 129 = .ok (.getfield 10, 3) := by decide +kernel
theorem dX8_roundsUntil_132 : decode cX8_roundsUntil 132 = .ok (.aload_n 0, 1) := by decide +kernel
theorem dX8_roundsUntil_133 : decode cX8_roundsUntil 133 = .ok (.getfield 40, 3) := by decide +kernel
theorem dX8_roundsUntil_136 : decode cX8_roundsUntil 136 = .ok (.invokevirtual 173, 3) := by decide +kernel
theorem dX8_roundsUntil_139 : decode cX8_roundsUntil 139 = .ok (.iload_n 2, 1) := by decide +kernel
theorem dX8_roundsUntil_140 : decode cX8_roundsUntil 140 = .ok (.ireturn, 1) := by decide +kernel
theorem dX8_turn_0 : decode cX8_turn 0 = .ok (.iload_n 1, 1) := by decide +kernel
theorem dX8_turn_1 : decode cX8_turn 1 = .ok (.ifCond .ge 6, 3) := by decide +kernel
theorem dX8_turn_4 : decode cX8_turn 4 = .ok (.bipush (-2), 2) := by decide +kernel
theorem dX8_turn_6 : decode cX8_turn 6 = .ok (.ireturn, 1) := by decide +kernel
theorem dX8_turn_7 : decode cX8_turn 7 = .ok (.aload_n 0, 1) := by decide +kernel
theorem dX8_turn_8 : decode cX8_turn 8 = .ok (.getfield 10, 3) := by decide +kernel
theorem dX8_turn_11 : decode cX8_turn 11 = .ok (.getfield 48, 3) := by decide +kernel
theorem dX8_turn_14 : decode cX8_turn 14 = .ok (.getfield 106, 3) := by decide +kernel
theorem dX8_turn_17 : decode cX8_turn 17 = .ok (.astore_n 2, 1) := by decide +kernel
theorem dX8_turn_18 : decode cX8_turn 18 = .ok (.iload_n 1, 1) := by decide +kernel
theorem dX8_turn_19 : decode cX8_turn 19 = .ok (.aload_n 2, 1) := by decide +kernel
theorem dX8_turn_20 : decode cX8_turn 20 = .ok (.getfield 110, 3) := by decide +kernel
theorem dX8_turn_23 : decode cX8_turn 23 = .ok (.if_icmp .ge 9, 3) := by decide +kernel
theorem dX8_turn_26 : decode cX8_turn 26 = .ok (.iload_n 1, 1) := by decide +kernel
theorem dX8_turn_27 : decode cX8_turn 27 = .ok (.bipush 30, 2) := by decide +kernel
theorem dX8_turn_29 : decode cX8_turn 29 = .ok (.if_icmp .lt 6, 3) := by decide +kernel
theorem dX8_turn_32 : decode cX8_turn 32 = .ok (.bipush (-5), 2) := by decide +kernel
theorem dX8_turn_34 : decode cX8_turn 34 = .ok (.ireturn, 1) := by decide +kernel
theorem dX8_turn_35 : decode cX8_turn 35 = .ok (.aload_n 2, 1) := by decide +kernel
theorem dX8_turn_36 : decode cX8_turn 36 = .ok (.getfield 237, 3) := by decide +kernel
theorem dX8_turn_39 : decode cX8_turn 39 = .ok (.iload_n 1, 1) := by decide +kernel
theorem dX8_turn_40 : decode cX8_turn 40 = .ok (.iaload, 1) := by decide +kernel
theorem dX8_turn_41 : decode cX8_turn 41 = .ok (.ireturn, 1) := by decide +kernel
theorem dX8_count_0 : decode cX8_count 0 = .ok (.aload_n 0, 1) := by decide +kernel
theorem dX8_count_1 : decode cX8_count 1 = .ok (.getfield 10, 3) := by decide +kernel
theorem dX8_count_4 : decode cX8_count 4 = .ok (.getfield 48, 3) := by decide +kernel
theorem dX8_count_7 : decode cX8_count 7 = .ok (.astore_n 2, 1) := by decide +kernel
theorem dX8_count_8 : decode cX8_count 8 = .ok (.iload_n 1, 1) := by decide +kernel
theorem dX8_count_9 : decode cX8_count 9 = .ok (.tableswitch 154 0 12 #[67, 72, 77, 82, 87, 92, 107, 112, 117, 122, 130, 138, 146], 67) := by decide +kernel
theorem dX8_count_76 : decode cX8_count 76 = .ok (.aload_n 2, 1) := by decide +kernel
theorem dX8_count_77 : decode cX8_count 77 = .ok (.getfield 240, 3) := by decide +kernel
theorem dX8_count_80 : decode cX8_count 80 = .ok (.ireturn, 1) := by decide +kernel
theorem dX8_count_81 : decode cX8_count 81 = .ok (.aload_n 2, 1) := by decide +kernel
theorem dX8_count_82 : decode cX8_count 82 = .ok (.getfield 243, 3) := by decide +kernel
theorem dX8_count_85 : decode cX8_count 85 = .ok (.ireturn, 1) := by decide +kernel
theorem dX8_count_86 : decode cX8_count 86 = .ok (.aload_n 2, 1) := by decide +kernel
theorem dX8_count_87 : decode cX8_count 87 = .ok (.getfield 78, 3) := by decide +kernel
theorem dX8_count_90 : decode cX8_count 90 = .ok (.ireturn, 1) := by decide +kernel
theorem dX8_count_91 : decode cX8_count 91 = .ok (.aload_n 2, 1) := by decide +kernel
theorem dX8_count_92 : decode cX8_count 92 = .ok (.invokevirtual 191, 3) := by decide +kernel
theorem dX8_count_95 : decode cX8_count 95 = .ok (.ireturn, 1) := by decide +kernel
theorem dX8_count_96 : decode cX8_count 96 = .ok (.aload_n 2, 1) := by decide +kernel
theorem dX8_count_97 : decode cX8_count 97 = .ok (.invokevirtual 246, 3) := by decide +kernel
theorem dX8_count_100 : decode cX8_count 100 = .ok (.ireturn, 1) := by decide +kernel
theorem dX8_count_101 : decode cX8_count 101 = .ok (.aload_n 0, 1) := by decide +kernel
theorem dX8_count_102 : decode cX8_count 102 = .ok (.getfield 10, 3) := by decide +kernel
theorem dX8_count_105 : decode cX8_count 105 = .ok (.getfield 128, 3) := by decide +kernel
theorem dX8_count_108 : decode cX8_count 108 = .ok (.aload_n 2, 1) := by decide +kernel
theorem dX8_count_109 : decode cX8_count 109 = .ok (.getfield 132, 3) := by decide +kernel
theorem dX8_count_112 : decode cX8_count 112 = .ok (.invokevirtual 136, 3) := by decide +kernel
theorem dX8_count_115 : decode cX8_count 115 = .ok (.ireturn, 1) := by decide +kernel
theorem dX8_count_116 : decode cX8_count 116 = .ok (.aload_n 2, 1) := by decide +kernel
theorem dX8_count_117 : decode cX8_count 117 = .ok (.getfield 249, 3) := by decide +kernel
theorem dX8_count_120 : decode cX8_count 120 = .ok (.ireturn, 1) := by decide +kernel
theorem dX8_count_121 : decode cX8_count 121 = .ok (.aload_n 2, 1) := by decide +kernel
theorem dX8_count_122 : decode cX8_count 122 = .ok (.getfield 252, 3) := by decide +kernel
theorem dX8_count_125 : decode cX8_count 125 = .ok (.ireturn, 1) := by decide +kernel
theorem dX8_count_126 : decode cX8_count 126 = .ok (.aload_n 2, 1) := by decide +kernel
theorem dX8_count_127 : decode cX8_count 127 = .ok (.invokevirtual 151, 3) := by decide +kernel
theorem dX8_count_130 : decode cX8_count 130 = .ok (.ireturn, 1) := by decide +kernel
theorem dX8_count_131 : decode cX8_count 131 = .ok (.aload_n 2, 1) := by decide +kernel
theorem dX8_count_132 : decode cX8_count 132 = .ok (.getfield 106, 3) := by decide +kernel
theorem dX8_count_135 : decode cX8_count 135 = .ok (.getfield 255, 3) := by decide +kernel
theorem dX8_count_138 : decode cX8_count 138 = .ok (.ireturn, 1) := by decide +kernel
theorem dX8_count_139 : decode cX8_count 139 = .ok (.aload_n 2, 1) := by decide +kernel
theorem dX8_count_140 : decode cX8_count 140 = .ok (.getfield 106, 3) := by decide +kernel
theorem dX8_count_143 : decode cX8_count 143 = .ok (.getfield 110, 3) := by decide +kernel
theorem dX8_count_146 : decode cX8_count 146 = .ok (.ireturn, 1) := by decide +kernel
theorem dX8_count_147 : decode cX8_count 147 = .ok (.aload_n 0, 1) := by decide +kernel
theorem dX8_count_148 : decode cX8_count 148 = .ok (.getfield 19, 3) := by decide +kernel
theorem dX8_count_151 : decode cX8_count 151 = .ok (.getfield 176, 3) := by decide +kernel
theorem dX8_count_154 : decode cX8_count 154 = .ok (.ireturn, 1) := by decide +kernel
theorem dX8_count_155 : decode cX8_count 155 = .ok (.aload_n 0, 1) := by decide +kernel
theorem dX8_count_156 : decode cX8_count 156 = .ok (.getfield 26, 3) := by decide +kernel
theorem dX8_count_159 : decode cX8_count 159 = .ok (.getfield 145, 3) := by decide +kernel
theorem dX8_count_162 : decode cX8_count 162 = .ok (.ireturn, 1) := by decide +kernel
theorem dX8_count_163 : decode cX8_count 163 = .ok (.bipush (-2), 2) := by decide +kernel
theorem dX8_count_165 : decode cX8_count 165 = .ok (.ireturn, 1) := by decide +kernel
theorem dX8_isBetween_0 : decode cX8_isBetween 0 = .ok (.iload_n 0, 1) := by decide +kernel
theorem dX8_isBetween_1 : decode cX8_isBetween 1 = .ok (.iload_n 1, 1) := by decide +kernel
theorem dX8_isBetween_2 : decode cX8_isBetween 2 = .ok (.if_icmp .lt 12, 3) := by decide +kernel
theorem dX8_isBetween_5 : decode cX8_isBetween 5 = .ok (.iload_n 0, 1) := by decide +kernel
theorem dX8_isBetween_6 : decode cX8_isBetween 6 = .ok (.iload_n 2, 1) := by decide +kernel
theorem dX8_isBetween_7 : decode cX8_isBetween 7 = .ok (.if_icmp .gt 7, 3) := by decide +kernel
theorem dX8_isBetween_10 : decode cX8_isBetween 10 = .ok (.iconst 1, 1) := by decide +kernel
theorem dX8_isBetween_11 : decode cX8_isBetween 11 = .ok (.goto 4, 3) := by decide +kernel
theorem dX8_isBetween_14 : decode cX8_isBetween 14 = .ok (.iconst 0, 1) := by decide +kernel
theorem dX8_isBetween_15 : decode cX8_isBetween 15 = .ok (.ireturn, 1) := by decide +kernel
theorem dX8_isSort_0 : decode cX8_isSort 0 = .ok (.iload_n 0, 1) := by decide +kernel
theorem dX8_isSort_1 : decode cX8_isSort 1 = .ok (.iconst 0, 1) := by decide +kernel
theorem dX8_isSort_2 : decode cX8_isSort 2 = .ok (.iconst 2, 1) := by decide +kernel
theorem dX8_isSort_3 : decode cX8_isSort 3 = .ok (.invokestatic 44, 3) := by decide +kernel
theorem dX8_isSort_6 : decode cX8_isSort 6 = .ok (.ireturn, 1) := by decide +kernel
theorem dX8_slotAt_0 : decode cX8_slotAt 0 = .ok (.iload_n 1, 1) := by decide +kernel
theorem dX8_slotAt_1 : decode cX8_slotAt 1 = .ok (.ifCond .lt 12, 3) := by decide +kernel
theorem dX8_slotAt_4 : decode cX8_slotAt 4 = .ok (.iload_n 1, 1) := by decide +kernel
theorem dX8_slotAt_5 : decode cX8_slotAt 5 = .ok (.aload_n 0, 1) := by decide +kernel
theorem dX8_slotAt_6 : decode cX8_slotAt 6 = .ok (.getfield 32, 3) := by decide +kernel
theorem dX8_slotAt_9 : decode cX8_slotAt 9 = .ok (.arraylength, 1) := by decide +kernel
theorem dX8_slotAt_10 : decode cX8_slotAt 10 = .ok (.if_icmp .lt 5, 3) := by decide +kernel
theorem dX8_slotAt_13 : decode cX8_slotAt 13 = .ok (.aconst_null, 1) := by decide +kernel
theorem dX8_slotAt_14 : decode cX8_slotAt 14 = .ok (.areturn, 1) := by decide +kernel
theorem dX8_slotAt_15 : decode cX8_slotAt 15 = .ok (.aload_n 0, 1) := by decide +kernel
theorem dX8_slotAt_16 : decode cX8_slotAt 16 = .ok (.getfield 32, 3) := by decide +kernel
theorem dX8_slotAt_19 : decode cX8_slotAt 19 = .ok (.iload_n 1, 1) := by decide +kernel
theorem dX8_slotAt_20 : decode cX8_slotAt 20 = .ok (.aaload, 1) := by decide +kernel
theorem dX8_slotAt_21 : decode cX8_slotAt 21 = .ok (.areturn, 1) := by decide +kernel
theorem dX9_init_0 : decode cX9_init 0 = .ok (.aload_n 0, 1) := by decide +kernel
theorem dX9_init_1 : decode cX9_init 1 = .ok (.invokespecial 1, 3) := by decide +kernel
theorem dX9_init_4 : decode cX9_init 4 = .ok (.aload_n 0, 1) := by decide +kernel
theorem dX9_init_5 : decode cX9_init 5 = .ok (.sipush 367, 3) := by decide +kernel
theorem dX9_init_8 : decode cX9_init 8 = .ok (.newarray .int, 2) := by decide +kernel
theorem dX9_init_10 : decode cX9_init 10 = .ok (.putfield 7, 3) := by decide +kernel
theorem dX9_init_13 : decode cX9_init 13 = .ok (.aload_n 0, 1) := by decide +kernel
theorem dX9_init_14 : decode cX9_init 14 = .ok (.sipush 367, 3) := by decide +kernel
theorem dX9_init_17 : decode cX9_init 17 = .ok (.newarray .int, 2) := by decide +kernel
theorem dX9_init_19 : decode cX9_init 19 = .ok (.putfield 13, 3) := by decide +kernel
theorem dX9_init_22 : decode cX9_init 22 = .ok (.aload_n 0, 1) := by decide +kernel
theorem dX9_init_23 : decode cX9_init 23 = .ok (.sipush 1835, 3) := by decide +kernel
theorem dX9_init_26 : decode cX9_init 26 = .ok (.newarray .int, 2) := by decide +kernel
theorem dX9_init_28 : decode cX9_init 28 = .ok (.putfield 16, 3) := by decide +kernel
theorem dX9_init_31 : decode cX9_init 31 = .ok (.aload_n 0, 1) := by decide +kernel
theorem dX9_init_32 : decode cX9_init 32 = .ok (.sipush 734, 3) := by decide +kernel
theorem dX9_init_35 : decode cX9_init 35 = .ok (.newarray .int, 2) := by decide +kernel
theorem dX9_init_37 : decode cX9_init 37 = .ok (.putfield 19, 3) := by decide +kernel
theorem dX9_init_40 : decode cX9_init 40 = .ok (.aload_n 0, 1) := by decide +kernel
theorem dX9_init_41 : decode cX9_init 41 = .ok (.iconst 2, 1) := by decide +kernel
theorem dX9_init_42 : decode cX9_init 42 = .ok (.newarray .boolean, 2) := by decide +kernel
theorem dX9_init_44 : decode cX9_init 44 = .ok (.putfield 22, 3) := by decide +kernel
theorem dX9_init_47 : decode cX9_init 47 = .ok (.aload_n 0, 1) := by decide +kernel
theorem dX9_init_48 : decode cX9_init 48 = .ok (.sipush 256, 3) := by decide +kernel
theorem dX9_init_51 : decode cX9_init 51 = .ok (.newarray .int, 2) := by decide +kernel
theorem dX9_init_53 : decode cX9_init 53 = .ok (.putfield 26, 3) := by decide +kernel
theorem dX9_init_56 : decode cX9_init 56 = .ok (.aload_n 0, 1) := by decide +kernel
theorem dX9_init_57 : decode cX9_init 57 = .ok (.sipush 128, 3) := by decide +kernel
theorem dX9_init_60 : decode cX9_init 60 = .ok (.newarray .int, 2) := by decide +kernel
theorem dX9_init_62 : decode cX9_init 62 = .ok (.putfield 29, 3) := by decide +kernel
theorem dX9_init_65 : decode cX9_init 65 = .ok (.aload_n 0, 1) := by decide +kernel
theorem dX9_init_66 : decode cX9_init 66 = .ok (.sipush 128, 3) := by decide +kernel
theorem dX9_init_69 : decode cX9_init 69 = .ok (.newarray .int, 2) := by decide +kernel
theorem dX9_init_71 : decode cX9_init 71 = .ok (.putfield 32, 3) := by decide +kernel
theorem dX9_init_74 : decode cX9_init 74 = .ok (.aload_n 0, 1) := by decide +kernel
theorem dX9_init_75 : decode cX9_init 75 = .ok (.sipush 128, 3) := by decide +kernel
theorem dX9_init_78 : decode cX9_init 78 = .ok (.newarray .int, 2) := by decide +kernel
theorem dX9_init_80 : decode cX9_init 80 = .ok (.putfield 35, 3) := by decide +kernel
theorem dX9_init_83 : decode cX9_init 83 = .ok (.aload_n 0, 1) := by decide +kernel
theorem dX9_init_84 : decode cX9_init 84 = .ok (.sipush 128, 3) := by decide +kernel
theorem dX9_init_87 : decode cX9_init 87 = .ok (.newarray .int, 2) := by decide +kernel
theorem dX9_init_89 : decode cX9_init 89 = .ok (.putfield 38, 3) := by decide +kernel
theorem dX9_init_92 : decode cX9_init 92 = .ok (.aload_n 0, 1) := by decide +kernel
theorem dX9_init_93 : decode cX9_init 93 = .ok (.sipush 256, 3) := by decide +kernel
theorem dX9_init_96 : decode cX9_init 96 = .ok (.newarray .int, 2) := by decide +kernel
theorem dX9_init_98 : decode cX9_init 98 = .ok (.putfield 41, 3) := by decide +kernel
theorem dX9_init_101 : decode cX9_init 101 = .ok (.aload_n 0, 1) := by decide +kernel
theorem dX9_init_102 : decode cX9_init 102 = .ok (.bipush 40, 2) := by decide +kernel
theorem dX9_init_104 : decode cX9_init 104 = .ok (.newarray .char, 2) := by decide +kernel
theorem dX9_init_106 : decode cX9_init 106 = .ok (.putfield 44, 3) := by decide +kernel
theorem dX9_init_109 : decode cX9_init 109 = .ok (.aload_n 0, 1) := by decide +kernel
theorem dX9_init_110 : decode cX9_init 110 = .ok (.bipush 40, 2) := by decide +kernel
theorem dX9_init_112 : decode cX9_init 112 = .ok (.newarray .char, 2) := by decide +kernel
theorem dX9_init_114 : decode cX9_init 114 = .ok (.putfield 48, 3) := by decide +kernel
theorem dX9_init_117 : decode cX9_init 117 = .ok (.aload_n 0, 1) := by decide +kernel
theorem dX9_init_118 : decode cX9_init 118 = .ok (.bipush 40, 2) := by decide +kernel
theorem dX9_init_120 : decode cX9_init 120 = .ok (.newarray .int, 2) := by decide +kernel
theorem dX9_init_122 : decode cX9_init 122 = .ok (.putfield 51, 3) := by decide +kernel
theorem dX9_init_125 : decode cX9_init 125 = .ok (.aload_n 0, 1) := by decide +kernel
theorem dX9_init_126 : decode cX9_init 126 = .ok (.getfield 7, 3) := by decide +kernel
theorem dX9_init_129 : decode cX9_init 129 = .ok (.iconst 0, 1) := by decide +kernel
theorem dX9_init_130 : decode cX9_init 130 = .ok (.bipush 8, 2) := by decide +kernel
theorem dX9_init_132 : decode cX9_init 132 = .ok (.iastore, 1) := by decide +kernel
theorem dX9_init_133 : decode cX9_init 133 = .ok (.aload_n 0, 1) := by decide +kernel
theorem dX9_init_134 : decode cX9_init 134 = .ok (.getfield 7, 3) := by decide +kernel
theorem dX9_init_137 : decode cX9_init 137 = .ok (.iconst 1, 1) := by decide +kernel
theorem dX9_init_138 : decode cX9_init 138 = .ok (.bipush 8, 2) := by decide +kernel
theorem dX9_init_140 : decode cX9_init 140 = .ok (.iastore, 1) := by decide +kernel
theorem dX9_init_141 : decode cX9_init 141 = .ok (.aload_n 0, 1) := by decide +kernel
theorem dX9_init_142 : decode cX9_init 142 = .ok (.getfield 7, 3) := by decide +kernel
theorem dX9_init_145 : decode cX9_init 145 = .ok (.iconst 3, 1) := by decide +kernel
theorem dX9_init_146 : decode cX9_init 146 = .ok (.iconst 1, 1) := by decide +kernel
theorem dX9_init_147 : decode cX9_init 147 = .ok (.iastore, 1) := by decide +kernel
theorem dX9_init_148 : decode cX9_init 148 = .ok (.aload_n 0, 1) := by decide +kernel
theorem dX9_init_149 : decode cX9_init 149 = .ok (.getfield 7, 3) := by decide +kernel
theorem dX9_init_152 : decode cX9_init 152 = .ok (.iconst 5, 1) := by decide +kernel
theorem dX9_init_153 : decode cX9_init 153 = .ok (.iconst 1, 1) := by decide +kernel
theorem dX9_init_154 : decode cX9_init 154 = .ok (.iastore, 1) := by decide +kernel
theorem dX9_init_155 : decode cX9_init 155 = .ok (.return_, 1) := by decide +kernel
theorem dX9_in_0 : decode cX9_in 0 = .ok (.iload_n 0, 1) := by decide +kernel
theorem dX9_in_1 : decode cX9_in 1 = .ok (.iload_n 1, 1) := by decide +kernel
theorem dX9_in_2 : decode cX9_in 2 = .ok (.if_icmp .lt 12, 3) := by decide +kernel
theorem dX9_in_5 : decode cX9_in 5 = .ok (.iload_n 0, 1) := by decide +kernel
theorem dX9_in_6 : decode cX9_in 6 = .ok (.iload_n 2, 1) := by decide +kernel
theorem dX9_in_7 : decode cX9_in 7 = .ok (.if_icmp .gt 7, 3) := by decide +kernel
theorem dX9_in_10 : decode cX9_in 10 = .ok (.iconst 1, 1) := by decide +kernel
theorem dX9_in_11 : decode cX9_in 11 = .ok (.goto 4, 3) := by decide +kernel
theorem dX9_in_14 : decode cX9_in 14 = .ok (.iconst 0, 1) := by decide +kernel
theorem dX9_in_15 : decode cX9_in 15 = .ok (.ireturn, 1) := by decide +kernel
theorem dX9_lesser_0 : decode cX9_lesser 0 = .ok (.iload_n 0, 1) := by decide +kernel
theorem dX9_lesser_1 : decode cX9_lesser 1 = .ok (.iload_n 1, 1) := by decide +kernel
theorem dX9_lesser_2 : decode cX9_lesser 2 = .ok (.if_icmp .ge 7, 3) := by decide +kernel
theorem dX9_lesser_5 : decode cX9_lesser 5 = .ok (.iload_n 0, 1) := by decide +kernel
theorem dX9_lesser_6 : decode cX9_lesser 6 = .ok (.goto 4, 3) := by decide +kernel
theorem dX9_lesser_9 : decode cX9_lesser 9 = .ok (.iload_n 1, 1) := by decide +kernel
theorem dX9_lesser_10 : decode cX9_lesser 10 = .ok (.ireturn, 1) := by decide +kernel
theorem dX9_begin_0 : decode cX9_begin 0 = .ok (.iconst 0, 1) := by decide +kernel
theorem dX9_begin_1 : decode cX9_begin 1 = .ok (.istore_n 1, 1) := by decide +kernel
theorem dX9_begin_2 : decode cX9_begin 2 = .ok (.iload_n 1, 1) := by decide +kernel
theorem dX9_begin_3 : decode cX9_begin 3 = .ok (.sipush 367, 3) := by decide +kernel
theorem dX9_begin_6 : decode cX9_begin 6 = .ok (.if_icmp .ge 21, 3) := by decide +kernel
theorem dX9_begin_9 : decode cX9_begin 9 = .ok (.aload_n 0, 1) := by decide +kernel
theorem dX9_begin_10 : decode cX9_begin 10 = .ok (.getfield 13, 3) := by decide +kernel
theorem dX9_begin_13 : decode cX9_begin 13 = .ok (.iload_n 1, 1) := by decide +kernel
theorem dX9_begin_14 : decode cX9_begin 14 = .ok (.aload_n 0, 1) := by decide +kernel
theorem dX9_begin_15 : decode cX9_begin 15 = .ok (.getfield 7, 3) := by decide +kernel
theorem dX9_begin_18 : decode cX9_begin 18 = .ok (.iload_n 1, 1) := by decide +kernel
theorem dX9_begin_19 : decode cX9_begin 19 = .ok (.iaload, 1) := by decide +kernel
theorem dX9_begin_20 : decode cX9_begin 20 = .ok (.iastore, 1) := by decide +kernel
theorem dX9_begin_21 : decode cX9_begin 21 = .ok (.iinc 1 1, 3) := by decide +kernel
theorem dX9_begin_24 : decode cX9_begin 24 = .ok (.goto (-22), 3) := by decide +kernel
theorem dX9_begin_27 : decode cX9_begin 27 = .ok (.return_, 1) := by decide +kernel
theorem dX9_goBack_0 : decode cX9_goBack 0 = .ok (.iconst 0, 1) := by decide +kernel
theorem dX9_goBack_1 : decode cX9_goBack 1 = .ok (.istore_n 1, 1) := by decide +kernel
theorem dX9_goBack_2 : decode cX9_goBack 2 = .ok (.iload_n 1, 1) := by decide +kernel
theorem dX9_goBack_3 : decode cX9_goBack 3 = .ok (.sipush 367, 3) := by decide +kernel
theorem dX9_goBack_6 : decode cX9_goBack 6 = .ok (.if_icmp .ge 21, 3) := by decide +kernel
theorem dX9_goBack_9 : decode cX9_goBack 9 = .ok (.aload_n 0, 1) := by decide +kernel
theorem dX9_goBack_10 : decode cX9_goBack 10 = .ok (.getfield 7, 3) := by decide +kernel
theorem dX9_goBack_13 : decode cX9_goBack 13 = .ok (.iload_n 1, 1) := by decide +kernel
theorem dX9_goBack_14 : decode cX9_goBack 14 = .ok (.aload_n 0, 1) := by decide +kernel
theorem dX9_goBack_15 : decode cX9_goBack 15 = .ok (.getfield 13, 3) := by decide +kernel
theorem dX9_goBack_18 : decode cX9_goBack 18 = .ok (.iload_n 1, 1) := by decide +kernel
theorem dX9_goBack_19 : decode cX9_goBack 19 = .ok (.iaload, 1) := by decide +kernel
theorem dX9_goBack_20 : decode cX9_goBack 20 = .ok (.iastore, 1) := by decide +kernel
theorem dX9_goBack_21 : decode cX9_goBack 21 = .ok (.iinc 1 1, 3) := by decide +kernel
theorem dX9_goBack_24 : decode cX9_goBack 24 = .ok (.goto (-22), 3) := by decide +kernel
theorem dX9_goBack_27 : decode cX9_goBack 27 = .ok (.return_, 1) := by decide +kernel
theorem dX9_done_0 : decode cX9_done 0 = .ok (.aload_n 0, 1) := by decide +kernel
theorem dX9_done_1 : decode cX9_done 1 = .ok (.getfield 54, 3) := by decide +kernel
theorem dX9_done_4 : decode cX9_done 4 = .ok (.iconst 5, 1) := by decide +kernel
theorem dX9_done_5 : decode cX9_done 5 = .ok (.if_icmp .ne 49, 3) := by decide +kernel
theorem dX9_done_8 : decode cX9_done 8 = .ok (.aload_n 0, 1) := by decide +kernel
theorem dX9_done_9 : decode cX9_done 9 = .ok (.dup, 1) := by decide +kernel
theorem dX9_done_10 : decode cX9_done 10 = .ok (.getfield 54, 3) := by decide +kernel
theorem dX9_done_13 : decode cX9_done 13 = .ok (.iconst 1, 1) := by decide +kernel
theorem dX9_done_14 : decode cX9_done 14 = .ok (.isub, 1) := by decide +kernel
theorem dX9_done_15 : decode cX9_done 15 = .ok (.putfield 54, 3) := by decide +kernel
theorem dX9_done_18 : decode cX9_done 18 = .ok (.iconst 0, 1) := by decide +kernel
theorem dX9_done_19 : decode cX9_done 19 = .ok (.istore_n 2, 1) := by decide +kernel
theorem dX9_done_20 : decode cX9_done 20 = .ok (.iload_n 2, 1) := by decide +kernel
theorem dX9_done_21 : decode cX9_done 21 = .ok (.sipush 367, 3) := by decide +kernel
theorem dX9_done_24 : decode cX9_done 24 = .ok (.aload_n 0, 1) := by decide +kernel
theorem dX9_done_25 : decode cX9_done 25 = .ok (.getfield 54, 3) := by decide +kernel
theorem dX9_done_28 : decode cX9_done 28 = .ok (.imul, 1) := by decide +kernel
theorem dX9_done_29 : decode cX9_done 29 = .ok (.if_icmp .ge 25, 3) := by decide +kernel
theorem dX9_done_32 : decode cX9_done 32 = .ok (.aload_n 0, 1) := by decide +kernel
theorem dX9_done_33 : decode cX9_done 33 = .ok (.getfield 16, 3) := by decide +kernel
theorem dX9_done_36 : decode cX9_done 36 = .ok (.iload_n 2, 1) := by decide +kernel
theorem dX9_done_37 : decode cX9_done 37 = .ok (.aload_n 0, 1) := by decide +kernel
theorem dX9_done_38 : decode cX9_done 38 = .ok (.getfield 16, 3) := by decide +kernel
theorem dX9_done_41 : decode cX9_done 41 = .ok (.iload_n 2, 1) := by decide +kernel
theorem dX9_done_42 : decode cX9_done 42 = .ok (.sipush 367, 3) := by decide +kernel
theorem dX9_done_45 : decode cX9_done 45 = .ok (.iadd, 1) := by decide +kernel
theorem dX9_done_46 : decode cX9_done 46 = .ok (.iaload, 1) := by decide +kernel
theorem dX9_done_47 : decode cX9_done 47 = .ok (.iastore, 1) := by decide +kernel
theorem dX9_done_48 : decode cX9_done 48 = .ok (.iinc 2 1, 3) := by decide +kernel
theorem dX9_done_51 : decode cX9_done 51 = .ok (.goto (-31), 3) := by decide +kernel
theorem dX9_done_54 : decode cX9_done 54 = .ok (.iconst 0, 1) := by decide +kernel
theorem dX9_done_55 : decode cX9_done 55 = .ok (.istore_n 2, 1) := by decide +kernel
theorem dX9_done_56 : decode cX9_done 56 = .ok (.iload_n 2, 1) := by decide +kernel
theorem dX9_done_57 : decode cX9_done 57 = .ok (.sipush 367, 3) := by decide +kernel
theorem dX9_done_60 : decode cX9_done 60 = .ok (.if_icmp .ge 30, 3) := by decide +kernel
theorem dX9_done_63 : decode cX9_done 63 = .ok (.aload_n 0, 1) := by decide +kernel
theorem dX9_done_64 : decode cX9_done 64 = .ok (.getfield 16, 3) := by decide +kernel
theorem dX9_done_67 : decode cX9_done 67 = .ok (.sipush 367, 3) := by decide +kernel
theorem dX9_done_70 : decode cX9_done 70 = .ok (.aload_n 0, 1) := by decide +kernel
theorem dX9_done_71 : decode cX9_done 71 = .ok (.getfield 54, 3) := by decide +kernel
theorem dX9_done_74 : decode cX9_done 74 = .ok (.imul, 1) := by decide +kernel
theorem dX9_done_75 : decode cX9_done 75 = .ok (.iload_n 2, 1) := by decide +kernel
theorem dX9_done_76 : decode cX9_done 76 = .ok (.iadd, 1) := by decide +kernel
theorem dX9_done_77 : decode cX9_done 77 = .ok (.aload_n 0, 1) := by decide +kernel
theorem dX9_done_78 : decode cX9_done 78 = .ok (.getfield 13, 3) := by decide +kernel
theorem dX9_done_81 : decode cX9_done 81 = .ok (.iload_n 2, 1) := by decide +kernel
theorem dX9_done_82 : decode cX9_done 82 = .ok (.iaload, 1) := by decide +kernel
theorem dX9_done_83 : decode cX9_done 83 = .ok (.iastore, 1) := by decide +kernel
theorem dX9_done_84 : decode cX9_done 84 = .ok (.iinc 2 1, 3) := by decide +kernel
theorem dX9_done_87 : decode cX9_done 87 = .ok (.goto (-31), 3) := by decide +kernel
theorem dX9_done_90 : decode cX9_done 90 = .ok (.aload_n 0, 1) := by decide +kernel
theorem dX9_done_91 : decode cX9_done 91 = .ok (.dup, 1) := by decide +kernel
theorem dX9_done_92 : decode cX9_done 92 = .ok (.getfield 54, 3) := by decide +kernel
theorem dX9_done_95 : decode cX9_done 95 = .ok (.iconst 1, 1) := by decide +kernel
theorem dX9_done_96 : decode cX9_done 96 = .ok (.iadd, 1) := by decide +kernel
theorem dX9_done_97 : decode cX9_done 97 = .ok (.putfield 54, 3) := by decide +kernel
theorem dX9_done_100 : decode cX9_done 100 = .ok (.iload_n 1, 1) := by decide +kernel
theorem dX9_done_101 : decode cX9_done 101 = .ok (.ireturn, 1) := by decide +kernel
theorem dX9_undo_0 : decode cX9_undo 0 = .ok (.aload_n 0, 1) := by decide +kernel
theorem dX9_undo_1 : decode cX9_undo 1 = .ok (.getfield 54, 3) := by decide +kernel
theorem dX9_undo_4 : decode cX9_undo 4 = .ok (.ifCond .ne 6, 3) := by decide +kernel
theorem dX9_undo_7 : decode cX9_undo 7 = .ok (.bipush (-5), 2) := by decide +kernel
theorem dX9_undo_9 : decode cX9_undo 9 = .ok (.ireturn, 1) := by decide +kernel
theorem dX9_undo_10 : decode cX9_undo 10 = .ok (.aload_n 0, 1) := by decide +kernel
theorem dX9_undo_11 : decode cX9_undo 11 = .ok (.dup, 1) := by decide +kernel
theorem dX9_undo_12 : decode cX9_undo 12 = .ok (.getfield 54, 3) := by decide +kernel
theorem dX9_undo_15 : decode cX9_undo 15 = .ok (.iconst 1, 1) := by decide +kernel
theorem dX9_undo_16 : decode cX9_undo 16 = .ok (.isub, 1) := by decide +kernel
theorem dX9_undo_17 : decode cX9_undo 17 = .ok (.putfield 54, 3) := by decide +kernel
theorem dX9_undo_20 : decode cX9_undo 20 = .ok (.iconst 0, 1) := by decide +kernel
theorem dX9_undo_21 : decode cX9_undo 21 = .ok (.istore_n 1, 1) := by decide +kernel
theorem dX9_undo_22 : decode cX9_undo 22 = .ok (.iload_n 1, 1) := by decide +kernel
theorem dX9_undo_23 : decode cX9_undo 23 = .ok (.sipush 367, 3) := by decide +kernel
theorem dX9_undo_26 : decode cX9_undo 26 = .ok (.if_icmp .ge 30, 3) := by decide +kernel
theorem dX9_undo_29 : decode cX9_undo 29 = .ok (.aload_n 0, 1) := by decide +kernel
theorem dX9_undo_30 : decode cX9_undo 30 = .ok (.getfield 7, 3) := by decide +kernel
theorem dX9_undo_33 : decode cX9_undo 33 = .ok (.iload_n 1, 1) := by decide +kernel
theorem dX9_undo_34 : decode cX9_undo 34 = .ok (.aload_n 0, 1) := by decide +kernel
theorem dX9_undo_35 : decode cX9_undo 35 = .ok (.getfield 16, 3) := by decide +kernel
theorem dX9_undo_38 : decode cX9_undo 38 = .ok (.sipush 367, 3) := by decide +kernel
theorem dX9_undo_41 : decode cX9_undo 41 = .ok (.aload_n 0, 1) := by decide +kernel
theorem dX9_undo_42 : decode cX9_undo 42 = .ok (.getfield 54, 3) := by decide +kernel
theorem dX9_undo_45 : decode cX9_undo 45 = .ok (.imul, 1) := by decide +kernel
theorem dX9_undo_46 : decode cX9_undo 46 = .ok (.iload_n 1, 1) := by decide +kernel
theorem dX9_undo_47 : decode cX9_undo 47 = .ok (.iadd, 1) := by decide +kernel
theorem dX9_undo_48 : decode cX9_undo 48 = .ok (.iaload, 1) := by decide +kernel
theorem dX9_undo_49 : decode cX9_undo 49 = .ok (.iastore, 1) := by decide +kernel
theorem dX9_undo_50 : decode cX9_undo 50 = .ok (.iinc 1 1, 3) := by decide +kernel
theorem dX9_undo_53 : decode cX9_undo 53 = .ok (.goto (-31), 3) := by decide +kernel
theorem dX9_undo_56 : decode cX9_undo 56 = .ok (.aload_n 0, 1) := by decide +kernel
theorem dX9_undo_57 : decode cX9_undo 57 = .ok (.getfield 54, 3) := by decide +kernel
theorem dX9_undo_60 : decode cX9_undo 60 = .ok (.ireturn, 1) := by decide +kernel
theorem dX9_allChips_0 : decode cX9_allChips 0 = .ok (.iconst 0, 1) := by decide +kernel
theorem dX9_allChips_1 : decode cX9_allChips 1 = .ok (.istore_n 1, 1) := by decide +kernel
theorem dX9_allChips_2 : decode cX9_allChips 2 = .ok (.iconst 0, 1) := by decide +kernel
theorem dX9_allChips_3 : decode cX9_allChips 3 = .ok (.istore_n 2, 1) := by decide +kernel
theorem dX9_allChips_4 : decode cX9_allChips 4 = .ok (.iload_n 2, 1) := by decide +kernel
theorem dX9_allChips_5 : decode cX9_allChips 5 = .ok (.sipush 256, 3) := by decide +kernel
theorem dX9_allChips_8 : decode cX9_allChips 8 = .ok (.if_icmp .ge 21, 3) := by decide +kernel
theorem dX9_allChips_11 : decode cX9_allChips 11 = .ok (.iload_n 1, 1) := by decide +kernel
theorem dX9_allChips_12 : decode cX9_allChips 12 = .ok (.aload_n 0, 1) := by decide +kernel
theorem dX9_allChips_13 : decode cX9_allChips 13 = .ok (.getfield 7, 3) := by decide +kernel
theorem dX9_allChips_16 : decode cX9_allChips 16 = .ok (.bipush 9, 2) := by decide +kernel
theorem dX9_allChips_18 : decode cX9_allChips 18 = .ok (.iload_n 2, 1) := by decide +kernel
theorem dX9_allChips_19 : decode cX9_allChips 19 = .ok (.iadd, 1) := by decide +kernel
theorem dX9_allChips_20 : decode cX9_allChips 20 = .ok (.iaload, 1) := by decide +kernel
theorem dX9_allChips_21 : decode cX9_allChips 21 = .ok (.iadd, 1) := by decide +kernel
theorem dX9_allChips_22 : decode cX9_allChips 22 = .ok (.istore_n 1, 1) := by decide +kernel
theorem dX9_allChips_23 : decode cX9_allChips 23 = .ok (.iinc 2 1, 3) := by decide +kernel
theorem dX9_allChips_26 : decode cX9_allChips 26 = .ok (.goto (-22), 3) := by decide +kernel
theorem dX9_allChips_29 : decode cX9_allChips 29 = .ok (.iload_n 1, 1) := by decide +kernel
theorem dX9_allChips_30 : decode cX9_allChips 30 = .ok (.ireturn, 1) := by decide +kernel
theorem dX9_keep_0 : decode cX9_keep 0 = .ok (.iload_n 1, 1) := by decide +kernel
theorem dX9_keep_1 : decode cX9_keep 1 = .ok (.iconst 0, 1) := by decide +kernel
theorem dX9_keep_2 : decode cX9_keep 2 = .ok (.iconst 1, 1) := by decide +kernel
theorem dX9_keep_3 : decode cX9_keep 3 = .ok (.invokestatic 58, 3) := by decide +kernel
theorem dX9_keep_6 : decode cX9_keep 6 = .ok (.ifCond .ne 5, 3) := by decide +kernel
theorem dX9_keep_9 : decode cX9_keep 9 = .ok (.iconst (-1), 1) := by decide +kernel
theorem dX9_keep_10 : decode cX9_keep 10 = .ok (.ireturn, 1) := by decide +kernel
theorem dX9_keep_11 : decode cX9_keep 11 = .ok (.aload_n 0, 1) := by decide +kernel
theorem dX9_keep_12 : decode cX9_keep 12 = .ok (.getfield 22, 3) := by decide +kernel
theorem dX9_keep_15 : decode cX9_keep 15 = .ok (.iload_n 1, 1) := by decide +kernel
theorem dX9_keep_16 : decode cX9_keep 16 = .ok (.iconst 1, 1) := by decide +kernel
theorem dX9_keep_17 : decode cX9_keep 17 = .ok (.bastore, 1) := by decide +kernel
theorem dX9_keep_18 : decode cX9_keep 18 = .ok (.iconst 0, 1) := by decide +kernel
theorem dX9_keep_19 : decode cX9_keep 19 = .ok (.istore_n 2, 1) := by decide +kernel
theorem dX9_keep_20 : decode cX9_keep 20 = .ok (.iload_n 2, 1) := by decide +kernel
theorem dX9_keep_21 : decode cX9_keep 21 = .ok (.sipush 367, 3) := by decide +kernel
theorem dX9_keep_24 : decode cX9_keep 24 = .ok (.if_icmp .ge 27, 3) := by decide +kernel
theorem dX9_keep_27 : decode cX9_keep 27 = .ok (.aload_n 0, 1) := by decide +kernel
theorem dX9_keep_28 : decode cX9_keep 28 = .ok (.getfield 19, 3) := by decide +kernel
theorem dX9_keep_31 : decode cX9_keep 31 = .ok (.sipush 367, 3) := by decide +kernel
theorem dX9_keep_34 : decode cX9_keep 34 = .ok (.iload_n 1, 1) := by decide +kernel
theorem dX9_keep_35 : decode cX9_keep 35 = .ok (.imul, 1) := by decide +kernel
theorem dX9_keep_36 : decode cX9_keep 36 = .ok (.iload_n 2, 1) := by decide +kernel
theorem dX9_keep_37 : decode cX9_keep 37 = .ok (.iadd, 1) := by decide +kernel
theorem dX9_keep_38 : decode cX9_keep 38 = .ok (.aload_n 0, 1) := by decide +kernel
theorem dX9_keep_39 : decode cX9_keep 39 = .ok (.getfield 7, 3) := by decide +kernel
theorem dX9_keep_42 : decode cX9_keep 42 = .ok (.iload_n 2, 1) := by decide +kernel
theorem dX9_keep_43 : decode cX9_keep 43 = .ok (.iaload, 1) := by decide +kernel
theorem dX9_keep_44 : decode cX9_keep 44 = .ok (.iastore, 1) := by decide +kernel
theorem dX9_keep_45 : decode cX9_keep 45 = .ok (.iinc 2 1, 3) := by decide +kernel
theorem dX9_keep_48 : decode cX9_keep 48 = .ok (.goto (-28), 3) := by decide +kernel
theorem dX9_keep_51 : decode cX9_keep 51 = .ok (.aload_n 0, 1) := by decide +kernel
theorem dX9_keep_52 : decode cX9_keep 52 = .ok (.invokevirtual 62, 3) := by decide +kernel
theorem dX9_keep_55 : decode cX9_keep 55 = .ok (.ireturn, 1) := by decide +kernel
theorem dX9_restore_0 : decode cX9_restore 0 = .ok (.iload_n 1, 1) := by decide +kernel
theorem dX9_restore_1 : decode cX9_restore 1 = .ok (.iconst 0, 1) := by decide +kernel
theorem dX9_restore_2 : decode cX9_restore 2 = .ok (.iconst 1, 1) := by decide +kernel
theorem dX9_restore_3 : decode cX9_restore 3 = .ok (.invokestatic 58, 3) := by decide +kernel
theorem dX9_restore_6 : decode cX9_restore 6 = .ok (.ifCond .ne 5, 3) := by decide +kernel
theorem dX9_restore_9 : decode cX9_restore 9 = .ok (.iconst (-1), 1) := by decide +kernel
theorem dX9_restore_10 : decode cX9_restore 10 = .ok (.ireturn, 1) := by decide +kernel
theorem dX9_restore_11 : decode cX9_restore 11 = .ok (.aload_n 0, 1) := by decide +kernel
theorem dX9_restore_12 : decode cX9_restore 12 = .ok (.getfield 22, 3) := by decide +kernel
theorem dX9_restore_15 : decode cX9_restore 15 = .ok (.iload_n 1, 1) := by decide +kernel
theorem dX9_restore_16 : decode cX9_restore 16 = .ok (.baload, 1) := by decide +kernel
theorem dX9_restore_17 : decode cX9_restore 17 = .ok (.ifCond .ne 6, 3) := by decide +kernel
theorem dX9_restore_20 : decode cX9_restore 20 = .ok (.bipush (-5), 2) := by decide +kernel
theorem dX9_restore_22 : decode cX9_restore 22 = .ok (.ireturn, 1) := by decide +kernel
theorem dX9_restore_23 : decode cX9_restore 23 = .ok (.aload_n 0, 1) := by decide +kernel
theorem dX9_restore_24 : decode cX9_restore 24 = .ok (.invokevirtual 66, 3) := by decide +kernel
theorem dX9_restore_27 : decode cX9_restore 27 = .ok (.iconst 0, 1) := by decide +kernel
theorem dX9_restore_28 : decode cX9_restore 28 = .ok (.istore_n 2, 1) := by decide +kernel
theorem dX9_restore_29 : decode cX9_restore 29 = .ok (.iload_n 2, 1) := by decide +kernel
theorem dX9_restore_30 : decode cX9_restore 30 = .ok (.sipush 367, 3) := by decide +kernel
theorem dX9_restore_33 : decode cX9_restore 33 = .ok (.if_icmp .ge 27, 3) := by decide +kernel
theorem dX9_restore_36 : decode cX9_restore 36 = .ok (.aload_n 0, 1) := by decide +kernel
theorem dX9_restore_37 : decode cX9_restore 37 = .ok (.getfield 7, 3) := by decide +kernel
theorem dX9_restore_40 : decode cX9_restore 40 = .ok (.iload_n 2, 1) := by decide +kernel
theorem dX9_restore_41 : decode cX9_restore 41 = .ok (.aload_n 0, 1) := by decide +kernel
theorem dX9_restore_42 : decode cX9_restore 42 = .ok (.getfield 19, 3) := by decide +kernel
theorem dX9_restore_45 : decode cX9_restore 45 = .ok (.sipush 367, 3) := by decide +kernel
theorem dX9_restore_48 : decode cX9_restore 48 = .ok (.iload_n 1, 1) := by decide +kernel
theorem dX9_restore_49 : decode cX9_restore 49 = .ok (.imul, 1) := by decide +kernel
theorem dX9_restore_50 : decode cX9_restore 50 = .ok (.iload_n 2, 1) := by decide +kernel
theorem dX9_restore_51 : decode cX9_restore 51 = .ok (.iadd, 1) := by decide +kernel
theorem dX9_restore_52 : decode cX9_restore 52 = .ok (.iaload, 1) := by decide +kernel
theorem dX9_restore_53 : decode cX9_restore 53 = .ok (.iastore, 1) := by decide +kernel
theorem dX9_restore_54 : decode cX9_restore 54 = .ok (.iinc 2 1, 3) := by decide +kernel
theorem dX9_restore_57 : decode cX9_restore 57 = .ok (.goto (-28), 3) := by decide +kernel
theorem dX9_restore_60 : decode cX9_restore 60 = .ok (.aload_n 0, 1) := by decide +kernel
theorem dX9_restore_61 : decode cX9_restore 61 = .ok (.aload_n 0, 1) := by decide +kernel
theorem dX9_restore_62 : decode cX9_restore 62 = .ok (.invokevirtual 62, 3) := by decide +kernel
theorem dX9_restore_65 : decode cX9_restore 65 = .ok (.invokevirtual 69, 3) := by decide +kernel
theorem dX9_restore_68 : decode cX9_restore 68 = .ok (.ireturn, 1) := by decide +kernel
theorem dX9_isCell_0 : decode cX9_isCell 0 = .ok (.iload_n 1, 1) := by decide +kernel
theorem dX9_isCell_1 : decode cX9_isCell 1 = .ok (.iconst 0, 1) := by decide +kernel
theorem dX9_isCell_2 : decode cX9_isCell 2 = .ok (.aload_n 0, 1) := by decide +kernel
theorem dX9_isCell_3 : decode cX9_isCell 3 = .ok (.getfield 7, 3) := by decide +kernel
theorem dX9_isCell_6 : decode cX9_isCell 6 = .ok (.iconst 0, 1) := by decide +kernel
theorem dX9_isCell_7 : decode cX9_isCell 7 = .ok (.iaload, 1) := by decide +kernel
theorem dX9_isCell_8 : decode cX9_isCell 8 = .ok (.iconst 1, 1) := by decide +kernel
theorem dX9_isCell_9 : decode cX9_isCell 9 = .ok (.isub, 1) := by decide +kernel
theorem dX9_isCell_10 : decode cX9_isCell 10 = .ok (.invokestatic 58, 3) := by decide +kernel
theorem dX9_isCell_13 : decode cX9_isCell 13 = .ok (.ifCond .eq 23, 3) := by decide +kernel
theorem dX9_isCell_16 : decode cX9_isCell 16 = .ok (.iload_n 2, 1) := by decide +kernel
theorem dX9_isCell_17 : decode cX9_isCell 17 = .ok (.iconst 0, 1) := by decide +kernel
theorem dX9_isCell_18 : decode cX9_isCell 18 = .ok (.aload_n 0, 1) := by decide +kernel
theorem dX9_isCell_19 : decode cX9_isCell 19 = .ok (.getfield 7, 3) := by decide +kernel
theorem dX9_isCell_22 : decode cX9_isCell 22 = .ok (.iconst 1, 1) := by decide +kernel
theorem dX9_isCell_23 : decode cX9_isCell 23 = .ok (.iaload, 1) := by decide +kernel
theorem dX9_isCell_24 : decode cX9_isCell 24 = .ok (.iconst 1, 1) := by decide +kernel
theorem dX9_isCell_25 : decode cX9_isCell 25 = .ok (.isub, 1) := by decide +kernel
theorem dX9_isCell_26 : decode cX9_isCell 26 = .ok (.invokestatic 58, 3) := by decide +kernel
theorem dX9_isCell_29 : decode cX9_isCell 29 = .ok (.ifCond .eq 7, 3) := by decide +kernel
theorem dX9_isCell_32 : decode cX9_isCell 32 = .ok (.iconst 1, 1) := by decide +kernel
theorem dX9_isCell_33 : decode cX9_isCell 33 = .ok (.goto 4, 3) := by decide +kernel
theorem dX9_isCell_36 : decode cX9_isCell 36 = .ok (.iconst 0, 1) := by decide +kernel
theorem dX9_isCell_37 : decode cX9_isCell 37 = .ok (.ireturn, 1) := by decide +kernel
theorem dX9_of_0 : decode cX9_of 0 = .ok (.aload_n 0, 1) := by decide +kernel
theorem dX9_of_1 : decode cX9_of 1 = .ok (.getfield 7, 3) := by decide +kernel
theorem dX9_of_4 : decode cX9_of 4 = .ok (.sipush 265, 3) := by decide +kernel
theorem dX9_of_7 : decode cX9_of 7 = .ok (.bipush 9, 2) := by decide +kernel
theorem dX9_of_9 : decode cX9_of 9 = .ok (.iload_n 1, 1) := by decide +kernel
theorem dX9_of_10 : decode cX9_of 10 = .ok (.imul, 1) := by decide +kernel
theorem dX9_of_11 : decode cX9_of 11 = .ok (.iadd, 1) := by decide +kernel
theorem dX9_of_12 : decode cX9_of 12 = .ok (.iload_n 2, 1) := by decide +kernel
theorem dX9_of_13 : decode cX9_of 13 = .ok (.iadd, 1) := by decide +kernel
theorem dX9_of_14 : decode cX9_of 14 = .ok (.iaload, 1) := by decide +kernel
theorem dX9_of_15 : decode cX9_of 15 = .ok (.ireturn, 1) := by decide +kernel
theorem dX9_lay_0 : decode cX9_lay 0 = .ok (.aload_n 0, 1) := by decide +kernel
theorem dX9_lay_1 : decode cX9_lay 1 = .ok (.getfield 7, 3) := by decide +kernel
theorem dX9_lay_4 : decode cX9_lay 4 = .ok (.sipush 265, 3) := by decide +kernel
theorem dX9_lay_7 : decode cX9_lay 7 = .ok (.bipush 9, 2) := by decide +kernel
theorem dX9_lay_9 : decode cX9_lay 9 = .ok (.iload_n 1, 1) := by decide +kernel
theorem dX9_lay_10 : decode cX9_lay 10 = .ok (.imul, 1) := by decide +kernel
theorem dX9_lay_11 : decode cX9_lay 11 = .ok (.iadd, 1) := by decide +kernel
theorem dX9_lay_12 : decode cX9_lay 12 = .ok (.iload_n 2, 1) := by decide +kernel
theorem dX9_lay_13 : decode cX9_lay 13 = .ok (.iadd, 1) := by decide +kernel
theorem dX9_lay_14 : decode cX9_lay 14 = .ok (.iload_n 3, 1) := by decide +kernel
theorem dX9_lay_15 : decode cX9_lay 15 = .ok (.iastore, 1) := by decide +kernel
theorem dX9_lay_16 : decode cX9_lay 16 = .ok (.return_, 1) := by decide +kernel
theorem dX9_noWalker_0 : decode cX9_noWalker 0 = .ok (.iload_n 1, 1) := by decide +kernel
theorem dX9_noWalker_1 : decode cX9_noWalker 1 = .ok (.iconst 0, 1) := by decide +kernel
theorem dX9_noWalker_2 : decode cX9_noWalker 2 = .ok (.aload_n 0, 1) := by decide +kernel
theorem dX9_noWalker_3 : decode cX9_noWalker 3 = .ok (.getfield 7, 3) := by decide +kernel
theorem dX9_noWalker_6 : decode cX9_noWalker 6 = .ok (.iconst 2, 1) := by decide +kernel
theorem dX9_noWalker_7 : decode cX9_noWalker 7 = .ok (.iaload, 1) := by decide +kernel
theorem dX9_noWalker_8 : decode cX9_noWalker 8 = .ok (.iconst 1, 1) := by decide +kernel
theorem dX9_noWalker_9 : decode cX9_noWalker 9 = .ok (.isub, 1) := by decide +kernel
theorem dX9_noWalker_10 : decode cX9_noWalker 10 = .ok (.invokestatic 58, 3) := by decide +kernel
theorem dX9_noWalker_13 : decode cX9_noWalker 13 = .ok (.ifCond .ne 7, 3) := by decide +kernel
theorem dX9_noWalker_16 : decode cX9_noWalker 16 = .ok (.iconst 1, 1) := by decide +kernel
theorem dX9_noWalker_17 : decode cX9_noWalker 17 = .ok (.goto 4, 3) := by decide +kernel
theorem dX9_noWalker_20 : decode cX9_noWalker 20 = .ok (.iconst 0, 1) := by decide +kernel
theorem dX9_noWalker_21 : decode cX9_noWalker 21 = .ok (.ireturn, 1) := by decide +kernel
theorem dX9_reset_0 : decode cX9_reset 0 = .ok (.iload_n 1, 1) := by decide +kernel
theorem dX9_reset_1 : decode cX9_reset 1 = .ok (.iconst 2, 1) := by decide +kernel
theorem dX9_reset_2 : decode cX9_reset 2 = .ok (.bipush 16, 2) := by decide +kernel
theorem dX9_reset_4 : decode cX9_reset 4 = .ok (.invokestatic 58, 3) := by decide +kernel
theorem dX9_reset_7 : decode cX9_reset 7 = .ok (.ifCond .eq 13, 3) := by decide +kernel
theorem dX9_reset_10 : decode cX9_reset 10 = .ok (.iload_n 2, 1) := by decide +kernel
theorem dX9_reset_11 : decode cX9_reset 11 = .ok (.iconst 2, 1) := by decide +kernel
theorem dX9_reset_12 : decode cX9_reset 12 = .ok (.bipush 16, 2) := by decide +kernel
theorem dX9_reset_14 : decode cX9_reset 14 = .ok (.invokestatic 58, 3) := by decide +kernel
theorem dX9_reset_17 : decode cX9_reset 17 = .ok (.ifCond .ne 6, 3) := by decide +kernel
theorem dX9_reset_20 : decode cX9_reset 20 = .ok (.bipush (-2), 2) := by decide +kernel
theorem dX9_reset_22 : decode cX9_reset 22 = .ok (.ireturn, 1) := by decide +kernel
theorem dX9_reset_23 : decode cX9_reset 23 = .ok (.aload_n 0, 1) := by decide +kernel
theorem dX9_reset_24 : decode cX9_reset 24 = .ok (.invokevirtual 66, 3) := by decide +kernel
theorem dX9_reset_27 : decode cX9_reset 27 = .ok (.aload_n 0, 1) := by decide +kernel
theorem dX9_reset_28 : decode cX9_reset 28 = .ok (.getfield 7, 3) := by decide +kernel
theorem dX9_reset_31 : decode cX9_reset 31 = .ok (.iconst 0, 1) := by decide +kernel
theorem dX9_reset_32 : decode cX9_reset 32 = .ok (.iload_n 1, 1) := by decide +kernel
theorem dX9_reset_33 : decode cX9_reset 33 = .ok (.iastore, 1) := by decide +kernel
theorem dX9_reset_34 : decode cX9_reset 34 = .ok (.aload_n 0, 1) := by decide +kernel
theorem dX9_reset_35 : decode cX9_reset 35 = .ok (.getfield 7, 3) := by decide +kernel
theorem dX9_reset_38 : decode cX9_reset 38 = .ok (.iconst 1, 1) := by decide +kernel
theorem dX9_reset_39 : decode cX9_reset 39 = .ok (.iload_n 2, 1) := by decide +kernel
theorem dX9_reset_40 : decode cX9_reset 40 = .ok (.iastore, 1) := by decide +kernel
theorem dX9_reset_41 : decode cX9_reset 41 = .ok (.aload_n 0, 1) := by decide +kernel
theorem dX9_reset_42 : decode cX9_reset 42 = .ok (.getfield 7, 3) := by decide +kernel
theorem dX9_reset_45 : decode cX9_reset 45 = .ok (.iconst 2, 1) := by decide +kernel
theorem dX9_reset_46 : decode cX9_reset 46 = .ok (.iconst 0, 1) := by decide +kernel
theorem dX9_reset_47 : decode cX9_reset 47 = .ok (.iastore, 1) := by decide +kernel
theorem dX9_reset_48 : decode cX9_reset 48 = .ok (.aload_n 0, 1) := by decide +kernel
theorem dX9_reset_49 : decode cX9_reset 49 = .ok (.getfield 7, 3) := by decide +kernel
theorem dX9_reset_52 : decode cX9_reset 52 = .ok (.bipush 6, 2) := by decide +kernel
theorem dX9_reset_54 : decode cX9_reset 54 = .ok (.iconst 0, 1) := by decide +kernel
theorem dX9_reset_55 : decode cX9_reset 55 = .ok (.iastore, 1) := by decide +kernel
theorem dX9_reset_56 : decode cX9_reset 56 = .ok (.aload_n 0, 1) := by decide +kernel
theorem dX9_reset_57 : decode cX9_reset 57 = .ok (.getfield 7, 3) := by decide +kernel
theorem dX9_reset_60 : decode cX9_reset 60 = .ok (.bipush 7, 2) := by decide +kernel
theorem dX9_reset_62 : decode cX9_reset 62 = .ok (.iconst 0, 1) := by decide +kernel
theorem dX9_reset_63 : decode cX9_reset 63 = .ok (.iastore, 1) := by decide +kernel
theorem dX9_reset_64 : decode cX9_reset 64 = .ok (.aload_n 0, 1) := by decide +kernel
theorem dX9_reset_65 : decode cX9_reset 65 = .ok (.getfield 7, 3) := by decide +kernel
theorem dX9_reset_68 : decode cX9_reset 68 = .ok (.bipush 8, 2) := by decide +kernel
theorem dX9_reset_70 : decode cX9_reset 70 = .ok (.iconst 0, 1) := by decide +kernel
theorem dX9_reset_71 : decode cX9_reset 71 = .ok (.iastore, 1) := by decide +kernel
theorem dX9_reset_72 : decode cX9_reset 72 = .ok (.iconst 0, 1) := by decide +kernel
theorem dX9_reset_73 : decode cX9_reset 73 = .ok (.istore_n 3, 1) := by decide +kernel
theorem dX9_reset_74 : decode cX9_reset 74 = .ok (.iload_n 3, 1) := by decide +kernel
theorem dX9_reset_75 : decode cX9_reset 75 = .ok (.sipush 256, 3) := by decide +kernel
theorem dX9_reset_78 : decode cX9_reset 78 = .ok (.if_icmp .ge 19, 3) := by decide +kernel
theorem dX9_reset_81 : decode cX9_reset 81 = .ok (.aload_n 0, 1) := by decide +kernel
theorem dX9_reset_82 : decode cX9_reset 82 = .ok (.getfield 7, 3) := by decide +kernel
theorem dX9_reset_85 : decode cX9_reset 85 = .ok (.bipush 9, 2) := by decide +kernel
theorem dX9_reset_87 : decode cX9_reset 87 = .ok (.iload_n 3, 1) := by decide +kernel
theorem dX9_reset_88 : decode cX9_reset 88 = .ok (.iadd, 1) := by decide +kernel
theorem dX9_reset_89 : decode cX9_reset 89 = .ok (.iconst 0, 1) := by decide +kernel
theorem dX9_reset_90 : decode cX9_reset 90 = .ok (.iastore, 1) := by decide +kernel
theorem dX9_reset_91 : decode cX9_reset 91 = .ok (.iinc 3 1, 3) := by decide +kernel
theorem dX9_reset_94 : decode cX9_reset 94 = .ok (.goto (-20), 3) := by decide +kernel
theorem dX9_reset_97 : decode cX9_reset 97 = .ok (.aload_n 0, 1) := by decide +kernel
theorem dX9_reset_98 : decode cX9_reset 98 = .ok (.iload_n 1, 1) := by decide +kernel
theorem dX9_reset_99 : decode cX9_reset 99 = .ok (.iload_n 2, 1) := by decide +kernel
theorem dX9_reset_100 : decode cX9_reset 100 = .ok (.imul, 1) := by decide +kernel
theorem dX9_reset_101 : decode cX9_reset 101 = .ok (.invokevirtual 69, 3) := by decide +kernel
theorem dX9_reset_104 : decode cX9_reset 104 = .ok (.ireturn, 1) := by decide +kernel
theorem dX9_put_0 : decode cX9_put 0 = .ok (.aload_n 0, 1) := by decide +kernel
theorem dX9_put_1 : decode cX9_put 1 = .ok (.iload_n 1, 1) := by decide +kernel
theorem dX9_put_2 : decode cX9_put 2 = .ok (.iload_n 2, 1) := by decide +kernel
theorem dX9_put_3 : decode cX9_put 3 = .ok (.invokevirtual 73, 3) := by decide +kernel
theorem dX9_put_6 : decode cX9_put 6 = .ok (.ifCond .ne 5, 3) := by decide +kernel
theorem dX9_put_9 : decode cX9_put 9 = .ok (.iconst (-1), 1) := by decide +kernel
theorem dX9_put_10 : decode cX9_put 10 = .ok (.ireturn, 1) := by decide +kernel
theorem dX9_put_11 : decode cX9_put 11 = .ok (.iload_n 3, 1) := by decide +kernel
theorem dX9_put_12 : decode cX9_put 12 = .ok (.iconst 0, 1) := by decide +kernel
theorem dX9_put_13 : decode cX9_put 13 = .ok (.bipush 99, 2) := by decide +kernel
theorem dX9_put_15 : decode cX9_put 15 = .ok (.invokestatic 58, 3) := by decide +kernel
theorem dX9_put_18 : decode cX9_put 18 = .ok (.ifCond .ne 6, 3) := by decide +kernel
theorem dX9_put_21 : decode cX9_put 21 = .ok (.bipush (-2), 2) := by decide +kernel
theorem dX9_put_23 : decode cX9_put 23 = .ok (.ireturn, 1) := by decide +kernel
theorem dX9_put_24 : decode cX9_put 24 = .ok (.aload_n 0, 1) := by decide +kernel
theorem dX9_put_25 : decode cX9_put 25 = .ok (.invokevirtual 66, 3) := by decide +kernel
theorem dX9_put_28 : decode cX9_put 28 = .ok (.aload_n 0, 1) := by decide +kernel
theorem dX9_put_29 : decode cX9_put 29 = .ok (.getfield 7, 3) := by decide +kernel
theorem dX9_put_32 : decode cX9_put 32 = .ok (.bipush 9, 2) := by decide +kernel
theorem dX9_put_34 : decode cX9_put 34 = .ok (.bipush 16, 2) := by decide +kernel
theorem dX9_put_36 : decode cX9_put 36 = .ok (.iload_n 1, 1) := by decide +kernel
theorem dX9_put_37 : decode cX9_put 37 = .ok (.imul, 1) := by decide +kernel
theorem dX9_put_38 : decode cX9_put 38 = .ok (.iadd, 1) := by decide +kernel
theorem dX9_put_39 : decode cX9_put 39 = .ok (.iload_n 2, 1) := by decide +kernel
theorem dX9_put_40 : decode cX9_put 40 = .ok (.iadd, 1) := by decide +kernel
theorem dX9_put_41 : decode cX9_put 41 = .ok (.iaload, 1) := by decide +kernel
theorem dX9_put_42 : decode cX9_put 42 = .ok (.istore 4, 2) := by decide +kernel
theorem dX9_put_44 : decode cX9_put 44 = .ok (.aload_n 0, 1) := by decide +kernel
theorem dX9_put_45 : decode cX9_put 45 = .ok (.getfield 7, 3) := by decide +kernel
theorem dX9_put_48 : decode cX9_put 48 = .ok (.bipush 9, 2) := by decide +kernel
theorem dX9_put_50 : decode cX9_put 50 = .ok (.bipush 16, 2) := by decide +kernel
theorem dX9_put_52 : decode cX9_put 52 = .ok (.iload_n 1, 1) := by decide +kernel
theorem dX9_put_53 : decode cX9_put 53 = .ok (.imul, 1) := by decide +kernel
theorem dX9_put_54 : decode cX9_put 54 = .ok (.iadd, 1) := by decide +kernel
theorem dX9_put_55 : decode cX9_put 55 = .ok (.iload_n 2, 1) := by decide +kernel
theorem dX9_put_56 : decode cX9_put 56 = .ok (.iadd, 1) := by decide +kernel
theorem dX9_put_57 : decode cX9_put 57 = .ok (.iload_n 3, 1) := by decide +kernel
theorem dX9_put_58 : decode cX9_put 58 = .ok (.iastore, 1) := by decide +kernel
theorem dX9_put_59 : decode cX9_put 59 = .ok (.aload_n 0, 1) := by decide +kernel
theorem dX9_put_60 : decode cX9_put 60 = .ok (.iload 4, 2) := by decide +kernel
theorem dX9_put_62 : decode cX9_put 62 = .ok (.invokevirtual 69, 3) := by decide +kernel
theorem dX9_put_65 : decode cX9_put 65 = .ok (.ireturn, 1) := by decide +kernel
theorem dX9_strew_0 : decode cX9_strew 0 = .ok (.iload_n 1, 1) := by decide +kernel
theorem dX9_strew_1 : decode cX9_strew 1 = .ok (.iconst 0, 1) := by decide +kernel
theorem dX9_strew_2 : decode cX9_strew 2 = .ok (.bipush 9, 2) := by decide +kernel
theorem dX9_strew_4 : decode cX9_strew 4 = .ok (.invokestatic 58, 3) := by decide +kernel
theorem dX9_strew_7 : decode cX9_strew 7 = .ok (.ifCond .eq 23, 3) := by decide +kernel
theorem dX9_strew_10 : decode cX9_strew 10 = .ok (.iload_n 2, 1) := by decide +kernel
theorem dX9_strew_11 : decode cX9_strew 11 = .ok (.iconst 0, 1) := by decide +kernel
theorem dX9_strew_12 : decode cX9_strew 12 = .ok (.bipush 9, 2) := by decide +kernel
theorem dX9_strew_14 : decode cX9_strew 14 = .ok (.invokestatic 58, 3) := by decide +kernel
theorem dX9_strew_17 : decode cX9_strew 17 = .ok (.ifCond .eq 13, 3) := by decide +kernel
theorem dX9_strew_20 : decode cX9_strew 20 = .ok (.iload_n 3, 1) := by decide +kernel
theorem dX9_strew_21 : decode cX9_strew 21 = .ok (.iconst 1, 1) := by decide +kernel
theorem dX9_strew_22 : decode cX9_strew 22 = .ok (.bipush 20, 2) := by decide +kernel
theorem dX9_strew_24 : decode cX9_strew 24 = .ok (.invokestatic 58, 3) := by decide +kernel
theorem dX9_strew_27 : decode cX9_strew 27 = .ok (.ifCond .ne 6, 3) := by decide +kernel
theorem dX9_strew_30 : decode cX9_strew 30 = .ok (.bipush (-2), 2) := by decide +kernel
theorem dX9_strew_32 : decode cX9_strew 32 = .ok (.ireturn, 1) := by decide +kernel
theorem dX9_strew_33 : decode cX9_strew 33 = .ok (.aload_n 0, 1) := by decide +kernel
theorem dX9_strew_34 : decode cX9_strew 34 = .ok (.invokevirtual 66, 3) := by decide +kernel
theorem dX9_strew_37 : decode cX9_strew 37 = .ok (.iconst 0, 1) := by decide +kernel
theorem dX9_strew_38 : decode cX9_strew 38 = .ok (.istore 4, 2) := by decide +kernel
theorem dX9_strew_40 : decode cX9_strew 40 = .ok (.iconst 0, 1) := by decide +kernel
theorem dX9_strew_41 : decode cX9_strew 41 = .ok (.istore 5, 2) := by decide +kernel
theorem dX9_strew_43 : decode cX9_strew 43 = .ok (.iload 5, 2) := by decide +kernel
theorem dX9_strew_45 : decode cX9_strew 45 = .ok (.aload_n 0, 1) := by decide +kernel
theorem dX9_strew_46 : decode cX9_strew 46 = .ok (.getfield 7, 3) := by decide +kernel
theorem dX9_strew_49 : decode cX9_strew 49 = .ok (.iconst 0, 1) := by decide +kernel
theorem dX9_strew_50 : decode cX9_strew 50 = .ok (.iaload, 1) := by decide +kernel
theorem dX9_strew_51 : decode cX9_strew 51 = .ok (.if_icmp .ge 110, 3) := by decide +kernel
theorem dX9_strew_54 : decode cX9_strew 54 = .ok (.iconst 0, 1) := by decide +kernel
theorem dX9_strew_55 : decode cX9_strew 55 = .ok (.istore 6, 2) := by decide +kernel
theorem dX9_strew_57 : decode cX9_strew 57 = .ok (.iload 6, 2) := by decide +kernel
theorem dX9_strew_59 : decode cX9_strew 59 = .ok (.aload_n 0, 1) := by decide +kernel
theorem dX9_strew_60 : decode cX9_strew 60 = .ok (.getfield 7, 3) := by decide +kernel
theorem dX9_strew_63 : decode cX9_strew 63 = .ok (.iconst 1, 1) := by decide +kernel
theorem dX9_strew_64 : decode cX9_strew 64 = .ok (.iaload, 1) := by decide +kernel
theorem dX9_strew_65 : decode cX9_strew 65 = .ok (.if_icmp .ge 90, 3) := by decide +kernel
theorem dX9_strew_68 : decode cX9_strew 68 = .ok (.bipush 9, 2) := by decide +kernel
theorem dX9_strew_70 : decode cX9_strew 70 = .ok (.bipush 16, 2) := by decide +kernel
theorem dX9_strew_72 : decode cX9_strew 72 = .ok (.iload 5, 2) := by decide +kernel
theorem dX9_strew_74 : decode cX9_strew 74 = .ok (.imul, 1) := by decide +kernel
theorem dX9_strew_75 : decode cX9_strew 75 = .ok (.iadd, 1) := by decide +kernel
theorem dX9_strew_76 : decode cX9_strew 76 = .ok (.iload 6, 2) := by decide +kernel
theorem dX9_strew_78 : decode cX9_strew 78 = .ok (.iadd, 1) := by decide +kernel
theorem dX9_strew_79 : decode cX9_strew 79 = .ok (.istore 7, 2) := by decide +kernel
theorem dX9_strew_81 : decode cX9_strew 81 = .ok (.iload 5, 2) := by decide +kernel
theorem dX9_strew_83 : decode cX9_strew 83 = .ok (.iload_n 1, 1) := by decide +kernel
theorem dX9_strew_84 : decode cX9_strew 84 = .ok (.imul, 1) := by decide +kernel
theorem dX9_strew_85 : decode cX9_strew 85 = .ok (.iload 6, 2) := by decide +kernel
theorem dX9_strew_87 : decode cX9_strew 87 = .ok (.iload_n 2, 1) := by decide +kernel
theorem dX9_strew_88 : decode cX9_strew 88 = .ok (.imul, 1) := by decide +kernel
theorem dX9_strew_89 : decode cX9_strew 89 = .ok (.iadd, 1) := by decide +kernel
theorem dX9_strew_90 : decode cX9_strew 90 = .ok (.iload_n 3, 1) := by decide +kernel
theorem dX9_strew_91 : decode cX9_strew 91 = .ok (.irem, 1) := by decide +kernel
theorem dX9_strew_92 : decode cX9_strew 92 = .ok (.ifCond .ne 19, 3) := by decide +kernel
theorem dX9_strew_95 : decode cX9_strew 95 = .ok (.aload_n 0, 1) := by decide +kernel
theorem dX9_strew_96 : decode cX9_strew 96 = .ok (.getfield 7, 3) := by decide +kernel
theorem dX9_strew_99 : decode cX9_strew 99 = .ok (.iload 7, 2) := by decide +kernel
theorem dX9_strew_101 : decode cX9_strew 101 = .ok (.iaload, 1) := by decide +kernel
theorem dX9_strew_102 : decode cX9_strew 102 = .ok (.bipush 99, 2) := by decide +kernel
theorem dX9_strew_104 : decode cX9_strew 104 = .ok (.if_icmp .ge 7, 3) := by decide +kernel
theorem dX9_strew_107 : decode cX9_strew 107 = .ok (.iconst 1, 1) := by decide +kernel
theorem dX9_strew_108 : decode cX9_strew 108 = .ok (.goto 4, 3) := by decide +kernel
theorem dX9_strew_111 : decode cX9_strew 111 = .ok (.iconst 0, 1) := by decide +kernel
theorem dX9_strew_112 : decode cX9_strew 112 = .ok (.istore 8, 2) := by decide +kernel
theorem dX9_strew_114 : decode cX9_strew 114 = .ok (.aload_n 0, 1) := by decide +kernel
theorem dX9_strew_115 : decode cX9_strew 115 = .ok (.getfield 7, 3) := by decide +kernel
theorem dX9_strew_118 : decode cX9_strew 118 = .ok (.iload 7, 2) := by decide +kernel
theorem dX9_strew_120 : decode cX9_strew 120 = .ok (.dup2, 1) := by decide +kernel
theorem dX9_strew_121 : decode cX9_strew 121 = .ok (.iaload, 1) := by decide +kernel
theorem dX9_strew_122 : decode cX9_strew 122 = .ok (.iload 8, 2) := by decide +kernel
theorem dX9_strew_124 : decode cX9_strew 124 = .ok (.ifCond .eq 7, 3) := by decide +kernel
theorem dX9_strew_127 : decode cX9_strew 127 = .ok (.iconst 1, 1) := by decide +kernel
theorem dX9_strew_128 : decode cX9_strew 128 = .ok (.goto 4, 3) := by decide +kernel
theorem dX9_strew_131 : decode cX9_strew 131 = .ok (.iconst 0, 1) := by decide +kernel
theorem dX9_strew_132 : decode cX9_strew 132 = .ok (.iadd, 1) := by decide +kernel
theorem dX9_strew_133 : decode cX9_strew 133 = .ok (.iastore, 1) := by decide +kernel
theorem dX9_strew_134 : decode cX9_strew 134 = .ok (.iload 4, 2) := by decide +kernel
theorem dX9_strew_136 : decode cX9_strew 136 = .ok (.iload 8, 2) := by decide +kernel
theorem dX9_strew_138 : decode cX9_strew 138 = .ok (.ifCond .eq 7, 3) := by decide +kernel
theorem dX9_strew_141 : decode cX9_strew 141 = .ok (.iconst 1, 1) := by decide +kernel
theorem dX9_strew_142 : decode cX9_strew 142 = .ok (.goto 4, 3) := by decide +kernel
theorem dX9_strew_145 : decode cX9_strew 145 = .ok (.iconst 0, 1) := by decide +kernel
theorem dX9_strew_146 : decode cX9_strew 146 = .ok (.iadd, 1) := by decide +kernel
theorem dX9_strew_147 : decode cX9_strew 147 = .ok (.istore 4, 2) := by decide +kernel
theorem dX9_strew_149 : decode cX9_strew 149 = .ok (.iinc 6 1, 3) := by decide +kernel
theorem dX9_strew_152 : decode cX9_strew 152 = .ok (.goto (-95), 3) := by decide +kernel
theorem dX9_strew_155 : decode cX9_strew 155 = .ok (.iinc 5 1, 3) := by decide +kernel
theorem dX9_strew_158 : decode cX9_strew 158 = .ok (.goto (-115), 3) := by decide +kernel
theorem dX9_strew_161 : decode cX9_strew 161 = .ok (.iload 4, 2) := by decide +kernel
theorem dX9_strew_163 : decode cX9_strew 163 = .ok (.ifCond .ne 8, 3) := by decide +kernel
theorem dX9_strew_166 : decode cX9_strew 166 = .ok (.bipush (-5), 2) := by decide +kernel
theorem dX9_strew_168 : decode cX9_strew 168 = .ok (.goto 9, 3) := by decide +kernel
theorem dX9_strew_171 : decode cX9_strew 171 = .ok (.aload_n 0, 1) := by decide +kernel
theorem dX9_strew_172 : decode cX9_strew 172 = .ok (.iload 4, 2) := by decide +kernel
theorem dX9_strew_174 : decode cX9_strew 174 = .ok (.invokevirtual 69, 3) := by decide +kernel
theorem dX9_strew_177 : decode cX9_strew 177 = .ok (.ireturn, 1) := by decide +kernel
theorem dX9_stepped_0 : decode cX9_stepped 0 = .ok (.iload_n 1, 1) := by decide +kernel
theorem dX9_stepped_1 : decode cX9_stepped 1 = .ok (.bipush 16, 2) := by decide +kernel
theorem dX9_stepped_3 : decode cX9_stepped 3 = .ok (.idiv, 1) := by decide +kernel
theorem dX9_stepped_4 : decode cX9_stepped 4 = .ok (.iload_n 2, 1) := by decide +kernel
theorem dX9_stepped_5 : decode cX9_stepped 5 = .ok (.iconst 2, 1) := by decide +kernel
theorem dX9_stepped_6 : decode cX9_stepped 6 = .ok (.if_icmp .ne 7, 3) := by decide +kernel
theorem dX9_stepped_9 : decode cX9_stepped 9 = .ok (.iconst 1, 1) := by decide +kernel
theorem dX9_stepped_10 : decode cX9_stepped 10 = .ok (.goto 12, 3) := by decide +kernel
theorem dX9_stepped_13 : decode cX9_stepped 13 = .ok (.iload_n 2, 1) := by decide +kernel
theorem dX9_stepped_14 : decode cX9_stepped 14 = .ok (.ifCond .ne 7, 3) := by decide +kernel
theorem dX9_stepped_17 : decode cX9_stepped 17 = .ok (.iconst (-1), 1) := by decide +kernel
theorem dX9_stepped_18 : decode cX9_stepped 18 = .ok (.goto 4, 3) := by decide +kernel
theorem dX9_stepped_21 : decode cX9_stepped 21 = .ok (.iconst 0, 1) := by decide +kernel
theorem dX9_stepped_22 : decode cX9_stepped 22 = .ok (.iadd, 1) := by decide +kernel
theorem dX9_stepped_23 : decode cX9_stepped 23 = .ok (.istore_n 3, 1) := by decide +kernel
theorem dX9_stepped_24 : decode cX9_stepped 24 = .ok (.iload_n 1, 1) := by decide +kernel
theorem dX9_stepped_25 : decode cX9_stepped 25 = .ok (.bipush 16, 2) := by decide +kernel
theorem dX9_stepped_27 : decode cX9_stepped 27 = .ok (.irem, 1) := by decide +kernel
theorem dX9_stepped_28 : decode cX9_stepped 28 = .ok (.iload_n 2, 1) := by decide +kernel
theorem dX9_stepped_29 : decode cX9_stepped 29 = .ok (.iconst 1, 1) := by decide +kernel
theorem dX9_stepped_30 : decode cX9_stepped 30 = .ok (.if_icmp .ne 7, 3) := by decide +kernel
theorem dX9_stepped_33 : decode cX9_stepped 33 = .ok (.iconst 1, 1) := by decide +kernel
theorem dX9_stepped_34 : decode cX9_stepped 34 = .ok (.goto 13, 3) := by decide +kernel
theorem dX9_stepped_37 : decode cX9_stepped 37 = .ok (.iload_n 2, 1) := by decide +kernel
theorem dX9_stepped_38 : decode cX9_stepped 38 = .ok (.iconst 3, 1) := by decide +kernel
theorem dX9_stepped_39 : decode cX9_stepped 39 = .ok (.if_icmp .ne 7, 3) := by decide +kernel
theorem dX9_stepped_42 : decode cX9_stepped 42 = .ok (.iconst (-1), 1) := by decide +kernel
theorem dX9_stepped_43 : decode cX9_stepped 43 = .ok (.goto 4, 3) := by decide +kernel
theorem dX9_stepped_46 : decode cX9_stepped 46 = .ok (.iconst 0, 1) := by decide +kernel
theorem dX9_stepped_47 : decode cX9_stepped 47 = .ok (.iadd, 1) := by decide +kernel
theorem dX9_stepped_48 : decode cX9_stepped 48 = .ok (.istore 4, 2) := by decide +kernel
theorem dX9_stepped_50 : decode cX9_stepped 50 = .ok (.aload_n 0, 1) := by decide +kernel
theorem dX9_stepped_51 : decode cX9_stepped 51 = .ok (.iload_n 3, 1) := by decide +kernel
theorem dX9_stepped_52 : decode cX9_stepped 52 = .ok (.iload 4, 2) := by decide +kernel
theorem dX9_stepped_54 : decode cX9_stepped 54 = .ok (.invokevirtual 73, 3) := by decide +kernel
theorem dX9_stepped_57 : decode cX9_stepped 57 = .ok (.ifCond .eq 13, 3) := by decide +kernel
theorem dX9_stepped_60 : decode cX9_stepped 60 = .ok (.bipush 16, 2) := by decide +kernel
theorem dX9_stepped_62 : decode cX9_stepped 62 = .ok (.iload_n 3, 1) := by decide +kernel
theorem dX9_stepped_63 : decode cX9_stepped 63 = .ok (.imul, 1) := by decide +kernel
theorem dX9_stepped_64 : decode cX9_stepped 64 = .ok (.iload 4, 2) := by decide +kernel
theorem dX9_stepped_66 : decode cX9_stepped 66 = .ok (.iadd, 1) := by decide +kernel
theorem dX9_stepped_67 : decode cX9_stepped 67 = .ok (.goto 5, 3) := by decide +kernel
theorem dX9_stepped_70 : decode cX9_stepped 70 = .ok (.bipush (-5), 2) := by decide +kernel
theorem dX9_stepped_72 : decode cX9_stepped 72 = .ok (.ireturn, 1) := by decide +kernel
theorem dX9_spread_0 : decode cX9_spread 0 = .ok (.aload_n 0, 1) := by decide +kernel
theorem dX9_spread_1 : decode cX9_spread 1 = .ok (.getfield 77, 3) := by decide +kernel
theorem dX9_spread_4 : decode cX9_spread 4 = .ok (.istore_n 2, 1) := by decide +kernel
theorem dX9_spread_5 : decode cX9_spread 5 = .ok (.iconst 1, 1) := by decide +kernel
theorem dX9_spread_6 : decode cX9_spread 6 = .ok (.istore_n 3, 1) := by decide +kernel
theorem dX9_spread_7 : decode cX9_spread 7 = .ok (.aload_n 0, 1) := by decide +kernel
theorem dX9_spread_8 : decode cX9_spread 8 = .ok (.dup, 1) := by decide +kernel
theorem dX9_spread_9 : decode cX9_spread 9 = .ok (.getfield 77, 3) := by decide +kernel
theorem dX9_spread_12 : decode cX9_spread 12 = .ok (.iconst 1, 1) := by decide +kernel
theorem dX9_spread_13 : decode cX9_spread 13 = .ok (.iadd, 1) := by decide +kernel
theorem dX9_spread_14 : decode cX9_spread 14 = .ok (.putfield 77, 3) := by decide +kernel
theorem dX9_spread_17 : decode cX9_spread 17 = .ok (.aload_n 0, 1) := by decide +kernel
theorem dX9_spread_18 : decode cX9_spread 18 = .ok (.getfield 29, 3) := by decide +kernel
theorem dX9_spread_21 : decode cX9_spread 21 = .ok (.iload_n 2, 1) := by decide +kernel
theorem dX9_spread_22 : decode cX9_spread 22 = .ok (.iconst 0, 1) := by decide +kernel
theorem dX9_spread_23 : decode cX9_spread 23 = .ok (.iastore, 1) := by decide +kernel
theorem dX9_spread_24 : decode cX9_spread 24 = .ok (.aload_n 0, 1) := by decide +kernel
theorem dX9_spread_25 : decode cX9_spread 25 = .ok (.getfield 32, 3) := by decide +kernel
theorem dX9_spread_28 : decode cX9_spread 28 = .ok (.iload_n 2, 1) := by decide +kernel
theorem dX9_spread_29 : decode cX9_spread 29 = .ok (.iconst 0, 1) := by decide +kernel
theorem dX9_spread_30 : decode cX9_spread 30 = .ok (.iastore, 1) := by decide +kernel
theorem dX9_spread_31 : decode cX9_spread 31 = .ok (.aload_n 0, 1) := by decide +kernel
theorem dX9_spread_32 : decode cX9_spread 32 = .ok (.getfield 38, 3) := by decide +kernel
theorem dX9_spread_35 : decode cX9_spread 35 = .ok (.iload_n 2, 1) := by decide +kernel
theorem dX9_spread_36 : decode cX9_spread 36 = .ok (.iconst 0, 1) := by decide +kernel
theorem dX9_spread_37 : decode cX9_spread 37 = .ok (.iastore, 1) := by decide +kernel
theorem dX9_spread_38 : decode cX9_spread 38 = .ok (.aload_n 0, 1) := by decide +kernel
theorem dX9_spread_39 : decode cX9_spread 39 = .ok (.getfield 35, 3) := by decide +kernel
theorem dX9_spread_42 : decode cX9_spread 42 = .ok (.iload_n 2, 1) := by decide +kernel
theorem dX9_spread_43 : decode cX9_spread 43 = .ok (.iload_n 1, 1) := by decide +kernel
theorem dX9_spread_44 : decode cX9_spread 44 = .ok (.iastore, 1) := by decide +kernel
theorem dX9_spread_45 : decode cX9_spread 45 = .ok (.aload_n 0, 1) := by decide +kernel
theorem dX9_spread_46 : decode cX9_spread 46 = .ok (.getfield 26, 3) := by decide +kernel
theorem dX9_spread_49 : decode cX9_spread 49 = .ok (.iload_n 1, 1) := by decide +kernel
theorem dX9_spread_50 : decode cX9_spread 50 = .ok (.iload_n 2, 1) := by decide +kernel
theorem dX9_spread_51 : decode cX9_spread 51 = .ok (.iastore, 1) := by decide +kernel
theorem dX9_spread_52 : decode cX9_spread 52 = .ok (.aload_n 0, 1) := by decide +kernel
theorem dX9_spread_53 : decode cX9_spread 53 = .ok (.getfield 41, 3) := by decide +kernel
theorem dX9_spread_56 : decode cX9_spread 56 = .ok (.iconst 0, 1) := by decide +kernel
theorem dX9_spread_57 : decode cX9_spread 57 = .ok (.iload_n 1, 1) := by decide +kernel
theorem dX9_spread_58 : decode cX9_spread 58 = .ok (.iastore, 1) := by decide +kernel
theorem dX9_spread_59 : decode cX9_spread 59 = .ok (.iload_n 3, 1) := by decide +kernel
theorem dX9_spread_60 : decode cX9_spread 60 = .ok (.ifCond .le 150, 3) := by decide +kernel
theorem dX9_spread_63 : decode cX9_spread 63 = .ok (.iinc 3 (-1), 3) := by decide +kernel
theorem dX9_spread_66 : decode cX9_spread 66 = .ok (.aload_n 0, 1) := by decide +kernel
theorem dX9_spread_67 : decode cX9_spread 67 = .ok (.getfield 41, 3) := by decide +kernel
theorem dX9_spread_70 : decode cX9_spread 70 = .ok (.iload_n 3, 1) := by decide +kernel
theorem dX9_spread_71 : decode cX9_spread 71 = .ok (.iaload, 1) := by decide +kernel
theorem dX9_spread_72 : decode cX9_spread 72 = .ok (.istore 4, 2) := by decide +kernel
theorem dX9_spread_74 : decode cX9_spread 74 = .ok (.aload_n 0, 1) := by decide +kernel
theorem dX9_spread_75 : decode cX9_spread 75 = .ok (.getfield 7, 3) := by decide +kernel
theorem dX9_spread_78 : decode cX9_spread 78 = .ok (.bipush 9, 2) := by decide +kernel
theorem dX9_spread_80 : decode cX9_spread 80 = .ok (.iload 4, 2) := by decide +kernel
theorem dX9_spread_82 : decode cX9_spread 82 = .ok (.iadd, 1) := by decide +kernel
theorem dX9_spread_83 : decode cX9_spread 83 = .ok (.iaload, 1) := by decide +kernel
theorem dX9_spread_84 : decode cX9_spread 84 = .ok (.istore 5, 2) := by decide +kernel
theorem dX9_spread_86 : decode cX9_spread 86 = .ok (.aload_n 0, 1) := by decide +kernel
theorem dX9_spread_87 : decode cX9_spread 87 = .ok (.getfield 29, 3) := by decide +kernel
theorem dX9_spread_90 : decode cX9_spread 90 = .ok (.iload_n 2, 1) := by decide +kernel
theorem dX9_spread_91 : decode cX9_spread 91 = .ok (.dup2, 1) := by decide +kernel
theorem dX9_spread_92 : decode cX9_spread 92 = .ok (.iaload, 1) := by decide +kernel
theorem dX9_spread_93 : decode cX9_spread 93 = .ok (.iload 5, 2) := by decide +kernel
theorem dX9_spread_95 : decode cX9_spread 95 = .ok (.iadd, 1) := by decide +kernel
theorem dX9_spread_96 : decode cX9_spread 96 = .ok (.iastore, 1) := by decide +kernel
theorem dX9_spread_97 : decode cX9_spread 97 = .ok (.aload_n 0, 1) := by decide +kernel
theorem dX9_spread_98 : decode cX9_spread 98 = .ok (.getfield 32, 3) := by decide +kernel
theorem dX9_spread_101 : decode cX9_spread 101 = .ok (.iload_n 2, 1) := by decide +kernel
theorem dX9_spread_102 : decode cX9_spread 102 = .ok (.dup2, 1) := by decide +kernel
theorem dX9_spread_103 : decode cX9_spread 103 = .ok (.iaload, 1) := by decide +kernel
theorem dX9_spread_104 : decode cX9_spread 104 = .ok (.iconst 1, 1) := by decide +kernel
theorem dX9_spread_105 : decode cX9_spread 105 = .ok (.iadd, 1) := by decide +kernel
theorem dX9_spread_106 : decode cX9_spread 106 = .ok (.iastore, 1) := by decide +kernel
theorem dX9_spread_107 : decode cX9_spread 107 = .ok (.aload_n 0, 1) := by decide +kernel
theorem dX9_spread_108 : decode cX9_spread 108 = .ok (.getfield 38, 3) := by decide +kernel
theorem dX9_spread_111 : decode cX9_spread 111 = .ok (.iload_n 2, 1) := by decide +kernel
theorem dX9_spread_112 : decode cX9_spread 112 = .ok (.iload 5, 2) := by decide +kernel
theorem dX9_spread_114 : decode cX9_spread 114 = .ok (.aload_n 0, 1) := by decide +kernel
theorem dX9_spread_115 : decode cX9_spread 115 = .ok (.getfield 38, 3) := by decide +kernel
theorem dX9_spread_118 : decode cX9_spread 118 = .ok (.iload_n 2, 1) := by decide +kernel
theorem dX9_spread_119 : decode cX9_spread 119 = .ok (.iaload, 1) := by decide +kernel
theorem dX9_spread_120 : decode cX9_spread 120 = .ok (.if_icmp .le 8, 3) := by decide +kernel
theorem dX9_spread_123 : decode cX9_spread 123 = .ok (.iload 5, 2) := by decide +kernel
theorem dX9_spread_125 : decode cX9_spread 125 = .ok (.goto 9, 3) := by decide +kernel
theorem dX9_spread_128 : decode cX9_spread 128 = .ok (.aload_n 0, 1) := by decide +kernel
theorem dX9_spread_129 : decode cX9_spread 129 = .ok (.getfield 38, 3) := by decide +kernel
theorem dX9_spread_132 : decode cX9_spread 132 = .ok (.iload_n 2, 1) := by decide +kernel
theorem dX9_spread_133 : decode cX9_spread 133 = .ok (.iaload, 1) := by decide +kernel
theorem dX9_spread_134 : decode cX9_spread 134 = .ok (.iastore, 1) := by decide +kernel
theorem dX9_spread_135 : decode cX9_spread 135 = .ok (.iconst 0, 1) := by decide +kernel
theorem dX9_spread_136 : decode cX9_spread 136 = .ok (.istore 6, 2) := by decide +kernel
theorem dX9_spread_138 : decode cX9_spread 138 = .ok (.iload 6, 2) := by decide +kernel
theorem dX9_spread_140 : decode cX9_spread 140 = .ok (.iconst 4, 1) := by decide +kernel
theorem dX9_spread_141 : decode cX9_spread 141 = .ok (.if_icmp .ge 66, 3) := by decide +kernel
theorem dX9_spread_144 : decode cX9_spread 144 = .ok (.aload_n 0, 1) := by decide +kernel
theorem dX9_spread_145 : decode cX9_spread 145 = .ok (.iload 4, 2) := by decide +kernel
theorem dX9_spread_147 : decode cX9_spread 147 = .ok (.iload 6, 2) := by decide +kernel
theorem dX9_spread_149 : decode cX9_spread 149 = .ok (.invokevirtual 80, 3) := by decide +kernel
theorem dX9_spread_152 : decode cX9_spread 152 = .ok (.istore 7, 2) := by decide +kernel
theorem dX9_spread_154 : decode cX9_spread 154 = .ok (.iload 7, 2) := by decide +kernel
theorem dX9_spread_156 : decode cX9_spread 156 = .ok (.ifCond .lt 45, 3) := by decide +kernel
theorem dX9_spread_159 : decode cX9_spread 159 = .ok (.aload_n 0, 1) := by decide +kernel
theorem dX9_spread_160 : decode cX9_spread 160 = .ok (.getfield 7, 3) := by decide +kernel
theorem dX9_spread_163 : decode cX9_spread 163 = .ok (.bipush 9, 2) := by decide +kernel
theorem dX9_spread_165 : decode cX9_spread 165 = .ok (.iload 7, 2) := by decide +kernel
theorem dX9_spread_167 : decode cX9_spread 167 = .ok (.iadd, 1) := by decide +kernel
theorem dX9_spread_168 : decode cX9_spread 168 = .ok (.iaload, 1) := by decide +kernel
theorem dX9_spread_169 : decode cX9_spread 169 = .ok (.ifCond .le 32, 3) := by decide +kernel
theorem dX9_spread_172 : decode cX9_spread 172 = .ok (.aload_n 0, 1) := by decide +kernel
theorem dX9_spread_173 : decode cX9_spread 173 = .ok (.getfield 26, 3) := by decide +kernel
theorem dX9_spread_176 : decode cX9_spread 176 = .ok (.iload 7, 2) := by decide +kernel
theorem dX9_spread_178 : decode cX9_spread 178 = .ok (.iaload, 1) := by decide +kernel
theorem dX9_spread_179 : decode cX9_spread 179 = .ok (.ifCond .ge 22, 3) := by decide +kernel
theorem dX9_spread_182 : decode cX9_spread 182 = .ok (.aload_n 0, 1) := by decide +kernel
theorem dX9_spread_183 : decode cX9_spread 183 = .ok (.getfield 26, 3) := by decide +kernel
theorem dX9_spread_186 : decode cX9_spread 186 = .ok (.iload 7, 2) := by decide +kernel
theorem dX9_spread_188 : decode cX9_spread 188 = .ok (.iload_n 2, 1) := by decide +kernel
theorem dX9_spread_189 : decode cX9_spread 189 = .ok (.iastore, 1) := by decide +kernel
theorem dX9_spread_190 : decode cX9_spread 190 = .ok (.aload_n 0, 1) := by decide +kernel
theorem dX9_spread_191 : decode cX9_spread 191 = .ok (.getfield 41, 3) := by decide +kernel
theorem dX9_spread_194 : decode cX9_spread 194 = .ok (.iload_n 3, 1) := by decide +kernel
theorem dX9_spread_195 : decode cX9_spread 195 = .ok (.iload 7, 2) := by decide +kernel
theorem dX9_spread_197 : decode cX9_spread 197 = .ok (.iastore, 1) := by decide +kernel
theorem dX9_spread_198 : decode cX9_spread 198 = .ok (.iinc 3 1, 3) := by decide +kernel
theorem dX9_spread_201 : decode cX9_spread 201 = .ok (.iinc 6 1, 3) := by decide +kernel
theorem dX9_spread_204 : decode cX9_spread 204 = .ok (.goto (-66), 3) := by decide +kernel
theorem dX9_spread_207 : decode cX9_spread 207 = .ok (.goto (-148), 3) := by decide +kernel
theorem dX9_spread_210 : decode cX9_spread 210 = .ok (.return_, 1) := by decide +kernel
theorem dX9_findHeaps_0 : decode cX9_findHeaps 0 = .ok (.aload_n 0, 1) := by decide +kernel
theorem dX9_findHeaps_1 : decode cX9_findHeaps 1 = .ok (.iconst 0, 1) := by decide +kernel
theorem dX9_findHeaps_2 : decode cX9_findHeaps 2 = .ok (.putfield 77, 3) := by decide +kernel
theorem dX9_findHeaps_5 : decode cX9_findHeaps 5 = .ok (.iconst 0, 1) := by decide +kernel
theorem dX9_findHeaps_6 : decode cX9_findHeaps 6 = .ok (.istore_n 1, 1) := by decide +kernel
theorem dX9_findHeaps_7 : decode cX9_findHeaps 7 = .ok (.iload_n 1, 1) := by decide +kernel
theorem dX9_findHeaps_8 : decode cX9_findHeaps 8 = .ok (.sipush 256, 3) := by decide +kernel
theorem dX9_findHeaps_11 : decode cX9_findHeaps 11 = .ok (.if_icmp .ge 17, 3) := by decide +kernel
theorem dX9_findHeaps_14 : decode cX9_findHeaps 14 = .ok (.aload_n 0, 1) := by decide +kernel
theorem dX9_findHeaps_15 : decode cX9_findHeaps 15 = .ok (.getfield 26, 3) := by decide +kernel
theorem dX9_findHeaps_18 : decode cX9_findHeaps 18 = .ok (.iload_n 1, 1) := by decide +kernel
theorem dX9_findHeaps_19 : decode cX9_findHeaps 19 = .ok (.bipush (-5), 2) := by decide +kernel
theorem dX9_findHeaps_21 : decode cX9_findHeaps 21 = .ok (.iastore, 1) := by decide +kernel
theorem dX9_findHeaps_22 : decode cX9_findHeaps 22 = .ok (.iinc 1 1, 3) := by decide +kernel
theorem dX9_findHeaps_25 : decode cX9_findHeaps 25 = .ok (.goto (-18), 3) := by decide +kernel
theorem dX9_findHeaps_28 : decode cX9_findHeaps 28 = .ok (.iconst 0, 1) := by decide +kernel
theorem dX9_findHeaps_29 : decode cX9_findHeaps 29 = .ok (.istore_n 1, 1) := by decide +kernel
theorem dX9_findHeaps_30 : decode cX9_findHeaps 30 = .ok (.iload_n 1, 1) := by decide +kernel
theorem dX9_findHeaps_31 : decode cX9_findHeaps 31 = .ok (.aload_n 0, 1) := by decide +kernel
theorem dX9_findHeaps_32 : decode cX9_findHeaps 32 = .ok (.getfield 7, 3) := by decide +kernel
theorem dX9_findHeaps_35 : decode cX9_findHeaps 35 = .ok (.iconst 0, 1) := by decide +kernel
theorem dX9_findHeaps_36 : decode cX9_findHeaps 36 = .ok (.iaload, 1) := by decide +kernel
theorem dX9_findHeaps_37 : decode cX9_findHeaps 37 = .ok (.if_icmp .ge 68, 3) := by decide +kernel
theorem dX9_findHeaps_40 : decode cX9_findHeaps 40 = .ok (.iconst 0, 1) := by decide +kernel
theorem dX9_findHeaps_41 : decode cX9_findHeaps 41 = .ok (.istore_n 2, 1) := by decide +kernel
theorem dX9_findHeaps_42 : decode cX9_findHeaps 42 = .ok (.iload_n 2, 1) := by decide +kernel
theorem dX9_findHeaps_43 : decode cX9_findHeaps 43 = .ok (.aload_n 0, 1) := by decide +kernel
theorem dX9_findHeaps_44 : decode cX9_findHeaps 44 = .ok (.getfield 7, 3) := by decide +kernel
theorem dX9_findHeaps_47 : decode cX9_findHeaps 47 = .ok (.iconst 1, 1) := by decide +kernel
theorem dX9_findHeaps_48 : decode cX9_findHeaps 48 = .ok (.iaload, 1) := by decide +kernel
theorem dX9_findHeaps_49 : decode cX9_findHeaps 49 = .ok (.if_icmp .ge 50, 3) := by decide +kernel
theorem dX9_findHeaps_52 : decode cX9_findHeaps 52 = .ok (.aload_n 0, 1) := by decide +kernel
theorem dX9_findHeaps_53 : decode cX9_findHeaps 53 = .ok (.getfield 7, 3) := by decide +kernel
theorem dX9_findHeaps_56 : decode cX9_findHeaps 56 = .ok (.bipush 9, 2) := by decide +kernel
theorem dX9_findHeaps_58 : decode cX9_findHeaps 58 = .ok (.bipush 16, 2) := by decide +kernel
theorem dX9_findHeaps_60 : decode cX9_findHeaps 60 = .ok (.iload_n 1, 1) := by decide +kernel
theorem dX9_findHeaps_61 : decode cX9_findHeaps 61 = .ok (.imul, 1) := by decide +kernel
theorem dX9_findHeaps_62 : decode cX9_findHeaps 62 = .ok (.iadd, 1) := by decide +kernel
theorem dX9_findHeaps_63 : decode cX9_findHeaps 63 = .ok (.iload_n 2, 1) := by decide +kernel
theorem dX9_findHeaps_64 : decode cX9_findHeaps 64 = .ok (.iadd, 1) := by decide +kernel
theorem dX9_findHeaps_65 : decode cX9_findHeaps 65 = .ok (.iaload, 1) := by decide +kernel
theorem dX9_findHeaps_66 : decode cX9_findHeaps 66 = .ok (.ifCond .le 27, 3) := by decide +kernel
theorem dX9_findHeaps_69 : decode cX9_findHeaps 69 = .ok (.aload_n 0, 1) := by decide +kernel
theorem dX9_findHeaps_70 : decode cX9_findHeaps 70 = .ok (.getfield 26, 3) := by decide +kernel
theorem dX9_findHeaps_73 : decode cX9_findHeaps 73 = .ok (.bipush 16, 2) := by decide +kernel
theorem dX9_findHeaps_75 : decode cX9_findHeaps 75 = .ok (.iload_n 1, 1) := by decide +kernel
theorem dX9_findHeaps_76 : decode cX9_findHeaps 76 = .ok (.imul, 1) := by decide +kernel
theorem dX9_findHeaps_77 : decode cX9_findHeaps 77 = .ok (.iload_n 2, 1) := by decide +kernel
theorem dX9_findHeaps_78 : decode cX9_findHeaps 78 = .ok (.iadd, 1) := by decide +kernel
theorem dX9_findHeaps_79 : decode cX9_findHeaps 79 = .ok (.iaload, 1) := by decide +kernel
theorem dX9_findHeaps_80 : decode cX9_findHeaps 80 = .ok (.ifCond .ge 13, 3) := by decide +kernel
theorem dX9_findHeaps_83 : decode cX9_findHeaps 83 = .ok (.aload_n 0, 1) := by decide +kernel
theorem dX9_findHeaps_84 : decode cX9_findHeaps 84 = .ok (.bipush 16, 2) := by decide +kernel
theorem dX9_findHeaps_86 : decode cX9_findHeaps 86 = .ok (.iload_n 1, 1) := by decide +kernel
theorem dX9_findHeaps_87 : decode cX9_findHeaps 87 = .ok (.imul, 1) := by decide +kernel
theorem dX9_findHeaps_88 : decode cX9_findHeaps 88 = .ok (.iload_n 2, 1) := by decide +kernel
theorem dX9_findHeaps_89 : decode cX9_findHeaps 89 = .ok (.iadd, 1) := by decide +kernel
theorem dX9_findHeaps_90 : decode cX9_findHeaps 90 = .ok (.invokevirtual 84, 3) := by decide +kernel
theorem dX9_findHeaps_93 : decode cX9_findHeaps 93 = .ok (.iinc 2 1, 3) := by decide +kernel
theorem dX9_findHeaps_96 : decode cX9_findHeaps 96 = .ok (.goto (-54), 3) := by decide +kernel
theorem dX9_findHeaps_99 : decode cX9_findHeaps 99 = .ok (.iinc 1 1, 3) := by decide +kernel
theorem dX9_findHeaps_102 : decode cX9_findHeaps 102 = .ok (.goto (-72), 3) := by decide +kernel
theorem dX9_findHeaps_105 : decode cX9_findHeaps 105 = .ok (.return_, 1) := by decide +kernel
theorem dX9_isAhead_0 : decode cX9_isAhead 0 = .ok (.aload_n 0, 1) := by decide +kernel
theorem dX9_isAhead_1 : decode cX9_isAhead 1 = .ok (.getfield 29, 3) := by decide +kernel
theorem dX9_isAhead_4 : decode cX9_isAhead 4 = .ok (.iload_n 1, 1) := by decide +kernel
theorem dX9_isAhead_5 : decode cX9_isAhead 5 = .ok (.iaload, 1) := by decide +kernel
theorem dX9_isAhead_6 : decode cX9_isAhead 6 = .ok (.aload_n 0, 1) := by decide +kernel
theorem dX9_isAhead_7 : decode cX9_isAhead 7 = .ok (.getfield 29, 3) := by decide +kernel
theorem dX9_isAhead_10 : decode cX9_isAhead 10 = .ok (.iload_n 2, 1) := by decide +kernel
theorem dX9_isAhead_11 : decode cX9_isAhead 11 = .ok (.iaload, 1) := by decide +kernel
theorem dX9_isAhead_12 : decode cX9_isAhead 12 = .ok (.if_icmp .eq 24, 3) := by decide +kernel
theorem dX9_isAhead_15 : decode cX9_isAhead 15 = .ok (.aload_n 0, 1) := by decide +kernel
theorem dX9_isAhead_16 : decode cX9_isAhead 16 = .ok (.getfield 29, 3) := by decide +kernel
theorem dX9_isAhead_19 : decode cX9_isAhead 19 = .ok (.iload_n 1, 1) := by decide +kernel
theorem dX9_isAhead_20 : decode cX9_isAhead 20 = .ok (.iaload, 1) := by decide +kernel
theorem dX9_isAhead_21 : decode cX9_isAhead 21 = .ok (.aload_n 0, 1) := by decide +kernel
theorem dX9_isAhead_22 : decode cX9_isAhead 22 = .ok (.getfield 29, 3) := by decide +kernel
theorem dX9_isAhead_25 : decode cX9_isAhead 25 = .ok (.iload_n 2, 1) := by decide +kernel
theorem dX9_isAhead_26 : decode cX9_isAhead 26 = .ok (.iaload, 1) := by decide +kernel
theorem dX9_isAhead_27 : decode cX9_isAhead 27 = .ok (.if_icmp .le 7, 3) := by decide +kernel
theorem dX9_isAhead_30 : decode cX9_isAhead 30 = .ok (.iconst 1, 1) := by decide +kernel
theorem dX9_isAhead_31 : decode cX9_isAhead 31 = .ok (.goto 4, 3) := by decide +kernel
theorem dX9_isAhead_34 : decode cX9_isAhead 34 = .ok (.iconst 0, 1) := by decide +kernel
theorem dX9_isAhead_35 : decode cX9_isAhead 35 = .ok (.ireturn, 1) := by decide +kernel
theorem dX9_isAhead_36 : decode cX9_isAhead 36 = .ok (.aload_n 0, 1) := by decide +kernel
theorem dX9_isAhead_37 : decode cX9_isAhead 37 = .ok (.getfield 32, 3) := by decide +kernel
theorem dX9_isAhead_40 : decode cX9_isAhead 40 = .ok (.iload_n 1, 1) := by decide +kernel
theorem dX9_isAhead_41 : decode cX9_isAhead 41 = .ok (.iaload, 1) := by decide +kernel
theorem dX9_isAhead_42 : decode cX9_isAhead 42 = .ok (.aload_n 0, 1) := by decide +kernel
theorem dX9_isAhead_43 : decode cX9_isAhead 43 = .ok (.getfield 32, 3) := by decide +kernel
theorem dX9_isAhead_46 : decode cX9_isAhead 46 = .ok (.iload_n 2, 1) := by decide +kernel
theorem dX9_isAhead_47 : decode cX9_isAhead 47 = .ok (.iaload, 1) := by decide +kernel
theorem dX9_isAhead_48 : decode cX9_isAhead 48 = .ok (.if_icmp .eq 26, 3) := by decide +kernel
theorem dX9_isAhead_51 : decode cX9_isAhead 51 = .ok (.aload_n 0, 1) := by decide +kernel
theorem dX9_isAhead_52 : decode cX9_isAhead 52 = .ok (.getfield 32, 3) := by decide +kernel
theorem dX9_isAhead_55 : decode cX9_isAhead 55 = .ok (.iload_n 1, 1) := by decide +kernel
theorem dX9_isAhead_56 : decode cX9_isAhead 56 = .ok (.iaload, 1) := by decide +kernel
theorem dX9_isAhead_57 : decode cX9_isAhead 57 = .ok (.aload_n 0, 1) := by decide +kernel
theorem dX9_isAhead_58 : decode cX9_isAhead 58 = .ok (.getfield 32, 3) := by decide +kernel
theorem dX9_isAhead_61 : decode cX9_isAhead 61 = .ok (.iload_n 2, 1) := by decide +kernel
theorem dX9_isAhead_62 : decode cX9_isAhead 62 = .ok (.iaload, 1) := by decide +kernel
theorem dX9_isAhead_63 : decode cX9_isAhead 63 = .ok (.if_icmp .ge 7, 3) := by decide +kernel
theorem dX9_isAhead_66 : decode cX9_isAhead 66 = .ok (.iconst 1, 1) := by decide +kernel
theorem dX9_isAhead_67 : decode cX9_isAhead 67 = .ok (.goto 17, 3) := by decide +kernel
theorem dX9_isAhead_70 : decode cX9_isAhead 70 = .ok (.iconst 0, 1) := by decide +kernel
theorem dX9_isAhead_71 : decode cX9_isAhead 71 = .ok (.goto 13, 3) := by decide +kernel
theorem dX9_isAhead_74 : decode cX9_isAhead 74 = .ok (.iload_n 1, 1) := by decide +kernel
theorem dX9_isAhead_75 : decode cX9_isAhead 75 = .ok (.iload_n 2, 1) := by decide +kernel
theorem dX9_isAhead_76 : decode cX9_isAhead 76 = .ok (.if_icmp .ge 7, 3) := by decide +kernel
theorem dX9_isAhead_79 : decode cX9_isAhead 79 = .ok (.iconst 1, 1) := by decide +kernel
theorem dX9_isAhead_80 : decode cX9_isAhead 80 = .ok (.goto 4, 3) := by decide +kernel
theorem dX9_isAhead_83 : decode cX9_isAhead 83 = .ok (.iconst 0, 1) := by decide +kernel
theorem dX9_isAhead_84 : decode cX9_isAhead 84 = .ok (.ireturn, 1) := by decide +kernel
theorem dX9_placeOf_0 : decode cX9_placeOf 0 = .ok (.iconst 0, 1) := by decide +kernel
theorem dX9_placeOf_1 : decode cX9_placeOf 1 = .ok (.istore_n 2, 1) := by decide +kernel
theorem dX9_placeOf_2 : decode cX9_placeOf 2 = .ok (.iconst 0, 1) := by decide +kernel
theorem dX9_placeOf_3 : decode cX9_placeOf 3 = .ok (.istore_n 3, 1) := by decide +kernel
theorem dX9_placeOf_4 : decode cX9_placeOf 4 = .ok (.iload_n 3, 1) := by decide +kernel
theorem dX9_placeOf_5 : decode cX9_placeOf 5 = .ok (.aload_n 0, 1) := by decide +kernel
theorem dX9_placeOf_6 : decode cX9_placeOf 6 = .ok (.getfield 77, 3) := by decide +kernel
theorem dX9_placeOf_9 : decode cX9_placeOf 9 = .ok (.if_icmp .ge 31, 3) := by decide +kernel
theorem dX9_placeOf_12 : decode cX9_placeOf 12 = .ok (.iload_n 2, 1) := by decide +kernel
theorem dX9_placeOf_13 : decode cX9_placeOf 13 = .ok (.iload_n 3, 1) := by decide +kernel
theorem dX9_placeOf_14 : decode cX9_placeOf 14 = .ok (.iload_n 1, 1) := by decide +kernel
theorem dX9_placeOf_15 : decode cX9_placeOf 15 = .ok (.if_icmp .eq 16, 3) := by decide +kernel
theorem dX9_placeOf_18 : decode cX9_placeOf 18 = .ok (.aload_n 0, 1) := by decide +kernel
theorem dX9_placeOf_19 : decode cX9_placeOf 19 = .ok (.iload_n 3, 1) := by decide +kernel
theorem dX9_placeOf_20 : decode cX9_placeOf 20 = .ok (.iload_n 1, 1) := by decide +kernel
theorem dX9_placeOf_21 : decode cX9_placeOf 21 = .ok (.invokevirtual 88, 3) := by decide +kernel
theorem dX9_placeOf_24 : decode cX9_placeOf 24 = .ok (.ifCond .eq 7, 3) := by decide +kernel
theorem dX9_placeOf_27 : decode cX9_placeOf 27 = .ok (.iconst 1, 1) := by decide +kernel
theorem dX9_placeOf_28 : decode cX9_placeOf 28 = .ok (.goto 4, 3) := by decide +kernel
theorem dX9_placeOf_31 : decode cX9_placeOf 31 = .ok (.iconst 0, 1) := by decide +kernel
theorem dX9_placeOf_32 : decode cX9_placeOf 32 = .ok (.iadd, 1) := by decide +kernel
theorem dX9_placeOf_33 : decode cX9_placeOf 33 = .ok (.istore_n 2, 1) := by decide +kernel
theorem dX9_placeOf_34 : decode cX9_placeOf 34 = .ok (.iinc 3 1, 3) := by decide +kernel
theorem dX9_placeOf_37 : decode cX9_placeOf 37 = .ok (.goto (-33), 3) := by decide +kernel
theorem dX9_placeOf_40 : decode cX9_placeOf 40 = .ok (.iload_n 2, 1) := by decide +kernel
theorem dX9_placeOf_41 : decode cX9_placeOf 41 = .ok (.ireturn, 1) := by decide +kernel
theorem dX9_addWalker_0 : decode cX9_addWalker 0 = .ok (.aload_n 0, 1) := by decide +kernel
theorem dX9_addWalker_1 : decode cX9_addWalker 1 = .ok (.iload_n 1, 1) := by decide +kernel
theorem dX9_addWalker_2 : decode cX9_addWalker 2 = .ok (.iload_n 2, 1) := by decide +kernel
theorem dX9_addWalker_3 : decode cX9_addWalker 3 = .ok (.invokevirtual 73, 3) := by decide +kernel
theorem dX9_addWalker_6 : decode cX9_addWalker 6 = .ok (.ifCond .ne 5, 3) := by decide +kernel
theorem dX9_addWalker_9 : decode cX9_addWalker 9 = .ok (.iconst (-1), 1) := by decide +kernel
theorem dX9_addWalker_10 : decode cX9_addWalker 10 = .ok (.ireturn, 1) := by decide +kernel
theorem dX9_addWalker_11 : decode cX9_addWalker 11 = .ok (.iload_n 3, 1) := by decide +kernel
theorem dX9_addWalker_12 : decode cX9_addWalker 12 = .ok (.iconst 0, 1) := by decide +kernel
theorem dX9_addWalker_13 : decode cX9_addWalker 13 = .ok (.iconst 3, 1) := by decide +kernel
theorem dX9_addWalker_14 : decode cX9_addWalker 14 = .ok (.invokestatic 58, 3) := by decide +kernel
theorem dX9_addWalker_17 : decode cX9_addWalker 17 = .ok (.ifCond .eq 24, 3) := by decide +kernel
theorem dX9_addWalker_20 : decode cX9_addWalker 20 = .ok (.iload 4, 2) := by decide +kernel
theorem dX9_addWalker_22 : decode cX9_addWalker 22 = .ok (.iconst 0, 1) := by decide +kernel
theorem dX9_addWalker_23 : decode cX9_addWalker 23 = .ok (.iconst 2, 1) := by decide +kernel
theorem dX9_addWalker_24 : decode cX9_addWalker 24 = .ok (.invokestatic 58, 3) := by decide +kernel
theorem dX9_addWalker_27 : decode cX9_addWalker 27 = .ok (.ifCond .eq 14, 3) := by decide +kernel
theorem dX9_addWalker_30 : decode cX9_addWalker 30 = .ok (.iload 5, 2) := by decide +kernel
theorem dX9_addWalker_32 : decode cX9_addWalker 32 = .ok (.iconst 1, 1) := by decide +kernel
theorem dX9_addWalker_33 : decode cX9_addWalker 33 = .ok (.bipush 9, 2) := by decide +kernel
theorem dX9_addWalker_35 : decode cX9_addWalker 35 = .ok (.invokestatic 58, 3) := by decide +kernel
theorem dX9_addWalker_38 : decode cX9_addWalker 38 = .ok (.ifCond .ne 6, 3) := by decide +kernel
theorem dX9_addWalker_41 : decode cX9_addWalker 41 = .ok (.bipush (-2), 2) := by decide +kernel
theorem dX9_addWalker_43 : decode cX9_addWalker 43 = .ok (.ireturn, 1) := by decide +kernel
theorem dX9_addWalker_44 : decode cX9_addWalker 44 = .ok (.aload_n 0, 1) := by decide +kernel
theorem dX9_addWalker_45 : decode cX9_addWalker 45 = .ok (.getfield 7, 3) := by decide +kernel
theorem dX9_addWalker_48 : decode cX9_addWalker 48 = .ok (.iconst 2, 1) := by decide +kernel
theorem dX9_addWalker_49 : decode cX9_addWalker 49 = .ok (.iaload, 1) := by decide +kernel
theorem dX9_addWalker_50 : decode cX9_addWalker 50 = .ok (.bipush 8, 2) := by decide +kernel
theorem dX9_addWalker_52 : decode cX9_addWalker 52 = .ok (.if_icmp .ne 6, 3) := by decide +kernel
theorem dX9_addWalker_55 : decode cX9_addWalker 55 = .ok (.bipush (-3), 2) := by decide +kernel
theorem dX9_addWalker_57 : decode cX9_addWalker 57 = .ok (.ireturn, 1) := by decide +kernel
theorem dX9_addWalker_58 : decode cX9_addWalker 58 = .ok (.aload_n 0, 1) := by decide +kernel
theorem dX9_addWalker_59 : decode cX9_addWalker 59 = .ok (.invokevirtual 66, 3) := by decide +kernel
theorem dX9_addWalker_62 : decode cX9_addWalker 62 = .ok (.aload_n 0, 1) := by decide +kernel
theorem dX9_addWalker_63 : decode cX9_addWalker 63 = .ok (.getfield 7, 3) := by decide +kernel
theorem dX9_addWalker_66 : decode cX9_addWalker 66 = .ok (.iconst 2, 1) := by decide +kernel
theorem dX9_addWalker_67 : decode cX9_addWalker 67 = .ok (.iaload, 1) := by decide +kernel
theorem dX9_addWalker_68 : decode cX9_addWalker 68 = .ok (.istore 6, 2) := by decide +kernel
theorem dX9_addWalker_70 : decode cX9_addWalker 70 = .ok (.iconst 0, 1) := by decide +kernel
theorem dX9_addWalker_71 : decode cX9_addWalker 71 = .ok (.istore 7, 2) := by decide +kernel
theorem dX9_addWalker_73 : decode cX9_addWalker 73 = .ok (.iload 7, 2) := by decide +kernel
theorem dX9_addWalker_75 : decode cX9_addWalker 75 = .ok (.bipush 9, 2) := by decide +kernel
theorem dX9_addWalker_77 : decode cX9_addWalker 77 = .ok (.if_icmp .ge 18, 3) := by decide +kernel
theorem dX9_addWalker_80 : decode cX9_addWalker 80 = .ok (.aload_n 0, 1) := by decide +kernel
theorem dX9_addWalker_81 : decode cX9_addWalker 81 = .ok (.iload 6, 2) := by decide +kernel
theorem dX9_addWalker_83 : decode cX9_addWalker 83 = .ok (.iload 7, 2) := by decide +kernel
theorem dX9_addWalker_85 : decode cX9_addWalker 85 = .ok (.iconst 0, 1) := by decide +kernel
theorem dX9_addWalker_86 : decode cX9_addWalker 86 = .ok (.invokevirtual 91, 3) := by decide +kernel
theorem dX9_addWalker_89 : decode cX9_addWalker 89 = .ok (.iinc 7 1, 3) := by decide +kernel
theorem dX9_addWalker_92 : decode cX9_addWalker 92 = .ok (.goto (-19), 3) := by decide +kernel
theorem dX9_addWalker_95 : decode cX9_addWalker 95 = .ok (.aload_n 0, 1) := by decide +kernel
theorem dX9_addWalker_96 : decode cX9_addWalker 96 = .ok (.iload 6, 2) := by decide +kernel
theorem dX9_addWalker_98 : decode cX9_addWalker 98 = .ok (.iconst 0, 1) := by decide +kernel
theorem dX9_addWalker_99 : decode cX9_addWalker 99 = .ok (.iload_n 1, 1) := by decide +kernel
theorem dX9_addWalker_100 : decode cX9_addWalker 100 = .ok (.invokevirtual 91, 3) := by decide +kernel
theorem dX9_addWalker_103 : decode cX9_addWalker 103 = .ok (.aload_n 0, 1) := by decide +kernel
theorem dX9_addWalker_104 : decode cX9_addWalker 104 = .ok (.iload 6, 2) := by decide +kernel
theorem dX9_addWalker_106 : decode cX9_addWalker 106 = .ok (.iconst 1, 1) := by decide +kernel
theorem dX9_addWalker_107 : decode cX9_addWalker 107 = .ok (.iload_n 2, 1) := by decide +kernel
theorem dX9_addWalker_108 : decode cX9_addWalker 108 = .ok (.invokevirtual 91, 3) := by decide +kernel
theorem dX9_addWalker_111 : decode cX9_addWalker 111 = .ok (.aload_n 0, 1) := by decide +kernel
theorem dX9_addWalker_112 : decode cX9_addWalker 112 = .ok (.iload 6, 2) := by decide +kernel
theorem dX9_addWalker_114 : decode cX9_addWalker 114 = .ok (.iconst 2, 1) := by decide +kernel
theorem dX9_addWalker_115 : decode cX9_addWalker 115 = .ok (.iload_n 3, 1) := by decide +kernel
theorem dX9_addWalker_116 : decode cX9_addWalker 116 = .ok (.invokevirtual 91, 3) := by decide +kernel
theorem dX9_addWalker_119 : decode cX9_addWalker 119 = .ok (.aload_n 0, 1) := by decide +kernel
theorem dX9_addWalker_120 : decode cX9_addWalker 120 = .ok (.iload 6, 2) := by decide +kernel
theorem dX9_addWalker_122 : decode cX9_addWalker 122 = .ok (.iconst 5, 1) := by decide +kernel
theorem dX9_addWalker_123 : decode cX9_addWalker 123 = .ok (.iload 4, 2) := by decide +kernel
theorem dX9_addWalker_125 : decode cX9_addWalker 125 = .ok (.invokevirtual 91, 3) := by decide +kernel
theorem dX9_addWalker_128 : decode cX9_addWalker 128 = .ok (.aload_n 0, 1) := by decide +kernel
theorem dX9_addWalker_129 : decode cX9_addWalker 129 = .ok (.iload 6, 2) := by decide +kernel
theorem dX9_addWalker_131 : decode cX9_addWalker 131 = .ok (.iconst 4, 1) := by decide +kernel
theorem dX9_addWalker_132 : decode cX9_addWalker 132 = .ok (.iload 5, 2) := by decide +kernel
theorem dX9_addWalker_134 : decode cX9_addWalker 134 = .ok (.invokevirtual 91, 3) := by decide +kernel
theorem dX9_addWalker_137 : decode cX9_addWalker 137 = .ok (.aload_n 0, 1) := by decide +kernel
theorem dX9_addWalker_138 : decode cX9_addWalker 138 = .ok (.getfield 7, 3) := by decide +kernel
theorem dX9_addWalker_141 : decode cX9_addWalker 141 = .ok (.iconst 2, 1) := by decide +kernel
theorem dX9_addWalker_142 : decode cX9_addWalker 142 = .ok (.dup2, 1) := by decide +kernel
theorem dX9_addWalker_143 : decode cX9_addWalker 143 = .ok (.iaload, 1) := by decide +kernel
theorem dX9_addWalker_144 : decode cX9_addWalker 144 = .ok (.iconst 1, 1) := by decide +kernel
theorem dX9_addWalker_145 : decode cX9_addWalker 145 = .ok (.iadd, 1) := by decide +kernel
theorem dX9_addWalker_146 : decode cX9_addWalker 146 = .ok (.iastore, 1) := by decide +kernel
theorem dX9_addWalker_147 : decode cX9_addWalker 147 = .ok (.aload_n 0, 1) := by decide +kernel
theorem dX9_addWalker_148 : decode cX9_addWalker 148 = .ok (.iload 6, 2) := by decide +kernel
theorem dX9_addWalker_150 : decode cX9_addWalker 150 = .ok (.invokevirtual 69, 3) := by decide +kernel
theorem dX9_addWalker_153 : decode cX9_addWalker 153 = .ok (.ireturn, 1) := by decide +kernel
theorem dX9_setSort_0 : decode cX9_setSort 0 = .ok (.aload_n 0, 1) := by decide +kernel
theorem dX9_setSort_1 : decode cX9_setSort 1 = .ok (.iload_n 1, 1) := by decide +kernel
theorem dX9_setSort_2 : decode cX9_setSort 2 = .ok (.invokevirtual 95, 3) := by decide +kernel
theorem dX9_setSort_5 : decode cX9_setSort 5 = .ok (.ifCond .eq 5, 3) := by decide +kernel
theorem dX9_setSort_8 : decode cX9_setSort 8 = .ok (.iconst (-1), 1) := by decide +kernel
theorem dX9_setSort_9 : decode cX9_setSort 9 = .ok (.ireturn, 1) := by decide +kernel
theorem dX9_setSort_10 : decode cX9_setSort 10 = .ok (.iload_n 2, 1) := by decide +kernel
theorem dX9_setSort_11 : decode cX9_setSort 11 = .ok (.iconst 0, 1) := by decide +kernel
theorem dX9_setSort_12 : decode cX9_setSort 12 = .ok (.iconst 2, 1) := by decide +kernel
theorem dX9_setSort_13 : decode cX9_setSort 13 = .ok (.invokestatic 58, 3) := by decide +kernel
theorem dX9_setSort_16 : decode cX9_setSort 16 = .ok (.ifCond .ne 6, 3) := by decide +kernel
theorem dX9_setSort_19 : decode cX9_setSort 19 = .ok (.bipush (-2), 2) := by decide +kernel
theorem dX9_setSort_21 : decode cX9_setSort 21 = .ok (.ireturn, 1) := by decide +kernel
theorem dX9_setSort_22 : decode cX9_setSort 22 = .ok (.aload_n 0, 1) := by decide +kernel
theorem dX9_setSort_23 : decode cX9_setSort 23 = .ok (.invokevirtual 66, 3) := by decide +kernel
theorem dX9_setSort_26 : decode cX9_setSort 26 = .ok (.aload_n 0, 1) := by decide +kernel
theorem dX9_setSort_27 : decode cX9_setSort 27 = .ok (.iload_n 1, 1) := by decide +kernel
theorem dX9_setSort_28 : decode cX9_setSort 28 = .ok (.iconst 5, 1) := by decide +kernel
theorem dX9_setSort_29 : decode cX9_setSort 29 = .ok (.invokevirtual 99, 3) := by decide +kernel
theorem dX9_setSort_32 : decode cX9_setSort 32 = .ok (.istore_n 3, 1) := by decide +kernel
theorem dX9_setSort_33 : decode cX9_setSort 33 = .ok (.aload_n 0, 1) := by decide +kernel
theorem dX9_setSort_34 : decode cX9_setSort 34 = .ok (.iload_n 1, 1) := by decide +kernel
theorem dX9_setSort_35 : decode cX9_setSort 35 = .ok (.iconst 5, 1) := by decide +kernel
theorem dX9_setSort_36 : decode cX9_setSort 36 = .ok (.iload_n 2, 1) := by decide +kernel
theorem dX9_setSort_37 : decode cX9_setSort 37 = .ok (.invokevirtual 91, 3) := by decide +kernel
theorem dX9_setSort_40 : decode cX9_setSort 40 = .ok (.aload_n 0, 1) := by decide +kernel
theorem dX9_setSort_41 : decode cX9_setSort 41 = .ok (.iload_n 3, 1) := by decide +kernel
theorem dX9_setSort_42 : decode cX9_setSort 42 = .ok (.invokevirtual 69, 3) := by decide +kernel
theorem dX9_setSort_45 : decode cX9_setSort 45 = .ok (.ireturn, 1) := by decide +kernel
theorem dX9_cellOf_0 : decode cX9_cellOf 0 = .ok (.bipush 16, 2) := by decide +kernel
theorem dX9_cellOf_2 : decode cX9_cellOf 2 = .ok (.aload_n 0, 1) := by decide +kernel
theorem dX9_cellOf_3 : decode cX9_cellOf 3 = .ok (.iload_n 1, 1) := by decide +kernel
theorem dX9_cellOf_4 : decode cX9_cellOf 4 = .ok (.iconst 0, 1) := by decide +kernel
theorem dX9_cellOf_5 : decode cX9_cellOf 5 = .ok (.invokevirtual 99, 3) := by decide +kernel
theorem dX9_cellOf_8 : decode cX9_cellOf 8 = .ok (.imul, 1) := by decide +kernel
theorem dX9_cellOf_9 : decode cX9_cellOf 9 = .ok (.aload_n 0, 1) := by decide +kernel
theorem dX9_cellOf_10 : decode cX9_cellOf 10 = .ok (.iload_n 1, 1) := by decide +kernel
theorem dX9_cellOf_11 : decode cX9_cellOf 11 = .ok (.iconst 1, 1) := by decide +kernel
theorem dX9_cellOf_12 : decode cX9_cellOf 12 = .ok (.invokevirtual 99, 3) := by decide +kernel
theorem dX9_cellOf_15 : decode cX9_cellOf 15 = .ok (.iadd, 1) := by decide +kernel
theorem dX9_cellOf_16 : decode cX9_cellOf 16 = .ok (.ireturn, 1) := by decide +kernel
theorem dX9_pick_0 : decode cX9_pick 0 = .ok (.aload_n 0, 1) := by decide +kernel
theorem dX9_pick_1 : decode cX9_pick 1 = .ok (.getfield 7, 3) := by decide +kernel
theorem dX9_pick_4 : decode cX9_pick 4 = .ok (.bipush 9, 2) := by decide +kernel
theorem dX9_pick_6 : decode cX9_pick 6 = .ok (.aload_n 0, 1) := by decide +kernel
theorem dX9_pick_7 : decode cX9_pick 7 = .ok (.iload_n 1, 1) := by decide +kernel
theorem dX9_pick_8 : decode cX9_pick 8 = .ok (.invokevirtual 102, 3) := by decide +kernel
theorem dX9_pick_11 : decode cX9_pick 11 = .ok (.iadd, 1) := by decide +kernel
theorem dX9_pick_12 : decode cX9_pick 12 = .ok (.dup2, 1) := by decide +kernel
theorem dX9_pick_13 : decode cX9_pick 13 = .ok (.iaload, 1) := by decide +kernel
theorem dX9_pick_14 : decode cX9_pick 14 = .ok (.iload_n 2, 1) := by decide +kernel
theorem dX9_pick_15 : decode cX9_pick 15 = .ok (.isub, 1) := by decide +kernel
theorem dX9_pick_16 : decode cX9_pick 16 = .ok (.iastore, 1) := by decide +kernel
theorem dX9_pick_17 : decode cX9_pick 17 = .ok (.aload_n 0, 1) := by decide +kernel
theorem dX9_pick_18 : decode cX9_pick 18 = .ok (.iload_n 1, 1) := by decide +kernel
theorem dX9_pick_19 : decode cX9_pick 19 = .ok (.iconst 3, 1) := by decide +kernel
theorem dX9_pick_20 : decode cX9_pick 20 = .ok (.aload_n 0, 1) := by decide +kernel
theorem dX9_pick_21 : decode cX9_pick 21 = .ok (.iload_n 1, 1) := by decide +kernel
theorem dX9_pick_22 : decode cX9_pick 22 = .ok (.iconst 3, 1) := by decide +kernel
theorem dX9_pick_23 : decode cX9_pick 23 = .ok (.invokevirtual 99, 3) := by decide +kernel
theorem dX9_pick_26 : decode cX9_pick 26 = .ok (.iload_n 2, 1) := by decide +kernel
theorem dX9_pick_27 : decode cX9_pick 27 = .ok (.iadd, 1) := by decide +kernel
theorem dX9_pick_28 : decode cX9_pick 28 = .ok (.invokevirtual 91, 3) := by decide +kernel
theorem dX9_pick_31 : decode cX9_pick 31 = .ok (.aload_n 0, 1) := by decide +kernel
theorem dX9_pick_32 : decode cX9_pick 32 = .ok (.iload_n 1, 1) := by decide +kernel
theorem dX9_pick_33 : decode cX9_pick 33 = .ok (.bipush 7, 2) := by decide +kernel
theorem dX9_pick_35 : decode cX9_pick 35 = .ok (.aload_n 0, 1) := by decide +kernel
theorem dX9_pick_36 : decode cX9_pick 36 = .ok (.iload_n 1, 1) := by decide +kernel
theorem dX9_pick_37 : decode cX9_pick 37 = .ok (.bipush 7, 2) := by decide +kernel
theorem dX9_pick_39 : decode cX9_pick 39 = .ok (.invokevirtual 99, 3) := by decide +kernel
theorem dX9_pick_42 : decode cX9_pick 42 = .ok (.iload_n 2, 1) := by decide +kernel
theorem dX9_pick_43 : decode cX9_pick 43 = .ok (.iadd, 1) := by decide +kernel
theorem dX9_pick_44 : decode cX9_pick 44 = .ok (.invokevirtual 91, 3) := by decide +kernel
theorem dX9_pick_47 : decode cX9_pick 47 = .ok (.return_, 1) := by decide +kernel
theorem dX9_drop_0 : decode cX9_drop 0 = .ok (.aload_n 0, 1) := by decide +kernel
theorem dX9_drop_1 : decode cX9_drop 1 = .ok (.getfield 7, 3) := by decide +kernel
theorem dX9_drop_4 : decode cX9_drop 4 = .ok (.bipush 9, 2) := by decide +kernel
theorem dX9_drop_6 : decode cX9_drop 6 = .ok (.aload_n 0, 1) := by decide +kernel
theorem dX9_drop_7 : decode cX9_drop 7 = .ok (.iload_n 1, 1) := by decide +kernel
theorem dX9_drop_8 : decode cX9_drop 8 = .ok (.invokevirtual 102, 3) := by decide +kernel
theorem dX9_drop_11 : decode cX9_drop 11 = .ok (.iadd, 1) := by decide +kernel
theorem dX9_drop_12 : decode cX9_drop 12 = .ok (.dup2, 1) := by decide +kernel
theorem dX9_drop_13 : decode cX9_drop 13 = .ok (.iaload, 1) := by decide +kernel
theorem dX9_drop_14 : decode cX9_drop 14 = .ok (.iload_n 2, 1) := by decide +kernel
theorem dX9_drop_15 : decode cX9_drop 15 = .ok (.iadd, 1) := by decide +kernel
theorem dX9_drop_16 : decode cX9_drop 16 = .ok (.iastore, 1) := by decide +kernel
theorem dX9_drop_17 : decode cX9_drop 17 = .ok (.aload_n 0, 1) := by decide +kernel
theorem dX9_drop_18 : decode cX9_drop 18 = .ok (.iload_n 1, 1) := by decide +kernel
theorem dX9_drop_19 : decode cX9_drop 19 = .ok (.iconst 3, 1) := by decide +kernel
theorem dX9_drop_20 : decode cX9_drop 20 = .ok (.aload_n 0, 1) := by decide +kernel
theorem dX9_drop_21 : decode cX9_drop 21 = .ok (.iload_n 1, 1) := by decide +kernel
theorem dX9_drop_22 : decode cX9_drop 22 = .ok (.iconst 3, 1) := by decide +kernel
theorem dX9_drop_23 : decode cX9_drop 23 = .ok (.invokevirtual 99, 3) := by decide +kernel
theorem dX9_drop_26 : decode cX9_drop 26 = .ok (.iload_n 2, 1) := by decide +kernel
theorem dX9_drop_27 : decode cX9_drop 27 = .ok (.isub, 1) := by decide +kernel
theorem dX9_drop_28 : decode cX9_drop 28 = .ok (.invokevirtual 91, 3) := by decide +kernel
theorem dX9_drop_31 : decode cX9_drop 31 = .ok (.aload_n 0, 1) := by decide +kernel
theorem dX9_drop_32 : decode cX9_drop 32 = .ok (.iload_n 1, 1) := by decide +kernel
theorem dX9_drop_33 : decode cX9_drop 33 = .ok (.bipush 8, 2) := by decide +kernel
theorem dX9_drop_35 : decode cX9_drop 35 = .ok (.aload_n 0, 1) := by decide +kernel
theorem dX9_drop_36 : decode cX9_drop 36 = .ok (.iload_n 1, 1) := by decide +kernel
theorem dX9_drop_37 : decode cX9_drop 37 = .ok (.bipush 8, 2) := by decide +kernel
theorem dX9_drop_39 : decode cX9_drop 39 = .ok (.invokevirtual 99, 3) := by decide +kernel
theorem dX9_drop_42 : decode cX9_drop 42 = .ok (.iload_n 2, 1) := by decide +kernel
theorem dX9_drop_43 : decode cX9_drop 43 = .ok (.iadd, 1) := by decide +kernel
theorem dX9_drop_44 : decode cX9_drop 44 = .ok (.invokevirtual 91, 3) := by decide +kernel
theorem dX9_drop_47 : decode cX9_drop 47 = .ok (.return_, 1) := by decide +kernel
theorem dX9_empty_0 : decode cX9_empty 0 = .ok (.aload_n 0, 1) := by decide +kernel
theorem dX9_empty_1 : decode cX9_empty 1 = .ok (.iload_n 1, 1) := by decide +kernel
theorem dX9_empty_2 : decode cX9_empty 2 = .ok (.invokevirtual 95, 3) := by decide +kernel
theorem dX9_empty_5 : decode cX9_empty 5 = .ok (.ifCond .eq 5, 3) := by decide +kernel
theorem dX9_empty_8 : decode cX9_empty 8 = .ok (.iconst (-1), 1) := by decide +kernel
theorem dX9_empty_9 : decode cX9_empty 9 = .ok (.ireturn, 1) := by decide +kernel
theorem dX9_empty_10 : decode cX9_empty 10 = .ok (.aload_n 0, 1) := by decide +kernel
theorem dX9_empty_11 : decode cX9_empty 11 = .ok (.getfield 7, 3) := by decide +kernel
theorem dX9_empty_14 : decode cX9_empty 14 = .ok (.bipush 9, 2) := by decide +kernel
theorem dX9_empty_16 : decode cX9_empty 16 = .ok (.aload_n 0, 1) := by decide +kernel
theorem dX9_empty_17 : decode cX9_empty 17 = .ok (.iload_n 1, 1) := by decide +kernel
theorem dX9_empty_18 : decode cX9_empty 18 = .ok (.invokevirtual 102, 3) := by decide +kernel
theorem dX9_empty_21 : decode cX9_empty 21 = .ok (.iadd, 1) := by decide +kernel
theorem dX9_empty_22 : decode cX9_empty 22 = .ok (.iaload, 1) := by decide +kernel
theorem dX9_empty_23 : decode cX9_empty 23 = .ok (.aload_n 0, 1) := by decide +kernel
theorem dX9_empty_24 : decode cX9_empty 24 = .ok (.iload_n 1, 1) := by decide +kernel
theorem dX9_empty_25 : decode cX9_empty 25 = .ok (.iconst 3, 1) := by decide +kernel
theorem dX9_empty_26 : decode cX9_empty 26 = .ok (.invokevirtual 99, 3) := by decide +kernel
theorem dX9_empty_29 : decode cX9_empty 29 = .ok (.iadd, 1) := by decide +kernel
theorem dX9_empty_30 : decode cX9_empty 30 = .ok (.bipush 99, 2) := by decide +kernel
theorem dX9_empty_32 : decode cX9_empty 32 = .ok (.if_icmp .le 6, 3) := by decide +kernel
theorem dX9_empty_35 : decode cX9_empty 35 = .ok (.bipush (-4), 2) := by decide +kernel
theorem dX9_empty_37 : decode cX9_empty 37 = .ok (.ireturn, 1) := by decide +kernel
theorem dX9_empty_38 : decode cX9_empty 38 = .ok (.aload_n 0, 1) := by decide +kernel
theorem dX9_empty_39 : decode cX9_empty 39 = .ok (.iload_n 1, 1) := by decide +kernel
theorem dX9_empty_40 : decode cX9_empty 40 = .ok (.iconst 3, 1) := by decide +kernel
theorem dX9_empty_41 : decode cX9_empty 41 = .ok (.invokevirtual 99, 3) := by decide +kernel
theorem dX9_empty_44 : decode cX9_empty 44 = .ok (.ifCond .ne 6, 3) := by decide +kernel
theorem dX9_empty_47 : decode cX9_empty 47 = .ok (.bipush (-5), 2) := by decide +kernel
theorem dX9_empty_49 : decode cX9_empty 49 = .ok (.ireturn, 1) := by decide +kernel
theorem dX9_empty_50 : decode cX9_empty 50 = .ok (.aload_n 0, 1) := by decide +kernel
theorem dX9_empty_51 : decode cX9_empty 51 = .ok (.invokevirtual 66, 3) := by decide +kernel
theorem dX9_empty_54 : decode cX9_empty 54 = .ok (.aload_n 0, 1) := by decide +kernel
theorem dX9_empty_55 : decode cX9_empty 55 = .ok (.iload_n 1, 1) := by decide +kernel
theorem dX9_empty_56 : decode cX9_empty 56 = .ok (.aload_n 0, 1) := by decide +kernel
theorem dX9_empty_57 : decode cX9_empty 57 = .ok (.iload_n 1, 1) := by decide +kernel
theorem dX9_empty_58 : decode cX9_empty 58 = .ok (.iconst 3, 1) := by decide +kernel
theorem dX9_empty_59 : decode cX9_empty 59 = .ok (.invokevirtual 99, 3) := by decide +kernel
theorem dX9_empty_62 : decode cX9_empty 62 = .ok (.invokevirtual 105, 3) := by decide +kernel
theorem dX9_empty_65 : decode cX9_empty 65 = .ok (.aload_n 0, 1) := by decide +kernel
theorem dX9_empty_66 : decode cX9_empty 66 = .ok (.aload_n 0, 1) := by decide +kernel
theorem dX9_empty_67 : decode cX9_empty 67 = .ok (.getfield 7, 3) := by decide +kernel
theorem dX9_empty_70 : decode cX9_empty 70 = .ok (.bipush 9, 2) := by decide +kernel
theorem dX9_empty_72 : decode cX9_empty 72 = .ok (.aload_n 0, 1) := by decide +kernel
theorem dX9_empty_73 : decode cX9_empty 73 = .ok (.iload_n 1, 1) := by decide +kernel
theorem dX9_empty_74 : decode cX9_empty 74 = .ok (.invokevirtual 102, 3) := by decide +kernel
theorem dX9_empty_77 : decode cX9_empty 77 = .ok (.iadd, 1) := by decide +kernel
theorem dX9_empty_78 : decode cX9_empty 78 = .ok (.iaload, 1) := by decide +kernel
theorem dX9_empty_79 : decode cX9_empty 79 = .ok (.invokevirtual 69, 3) := by decide +kernel
theorem dX9_empty_82 : decode cX9_empty 82 = .ok (.ireturn, 1) := by decide +kernel
theorem dX9_addTurn_0 : decode cX9_addTurn 0 = .ok (.iload_n 1, 1) := by decide +kernel
theorem dX9_addTurn_1 : decode cX9_addTurn 1 = .ok (.iconst 0, 1) := by decide +kernel
theorem dX9_addTurn_2 : decode cX9_addTurn 2 = .ok (.bipush 9, 2) := by decide +kernel
theorem dX9_addTurn_4 : decode cX9_addTurn 4 = .ok (.invokestatic 58, 3) := by decide +kernel
theorem dX9_addTurn_7 : decode cX9_addTurn 7 = .ok (.ifCond .ne 6, 3) := by decide +kernel
theorem dX9_addTurn_10 : decode cX9_addTurn 10 = .ok (.bipush (-2), 2) := by decide +kernel
theorem dX9_addTurn_12 : decode cX9_addTurn 12 = .ok (.ireturn, 1) := by decide +kernel
theorem dX9_addTurn_13 : decode cX9_addTurn 13 = .ok (.aload_n 0, 1) := by decide +kernel
theorem dX9_addTurn_14 : decode cX9_addTurn 14 = .ok (.getfield 7, 3) := by decide +kernel
theorem dX9_addTurn_17 : decode cX9_addTurn 17 = .ok (.iconst 3, 1) := by decide +kernel
theorem dX9_addTurn_18 : decode cX9_addTurn 18 = .ok (.iaload, 1) := by decide +kernel
theorem dX9_addTurn_19 : decode cX9_addTurn 19 = .ok (.bipush 30, 2) := by decide +kernel
theorem dX9_addTurn_21 : decode cX9_addTurn 21 = .ok (.if_icmp .ne 6, 3) := by decide +kernel
theorem dX9_addTurn_24 : decode cX9_addTurn 24 = .ok (.bipush (-3), 2) := by decide +kernel
theorem dX9_addTurn_26 : decode cX9_addTurn 26 = .ok (.ireturn, 1) := by decide +kernel
theorem dX9_addTurn_27 : decode cX9_addTurn 27 = .ok (.aload_n 0, 1) := by decide +kernel
theorem dX9_addTurn_28 : decode cX9_addTurn 28 = .ok (.invokevirtual 66, 3) := by decide +kernel
theorem dX9_addTurn_31 : decode cX9_addTurn 31 = .ok (.aload_n 0, 1) := by decide +kernel
theorem dX9_addTurn_32 : decode cX9_addTurn 32 = .ok (.getfield 7, 3) := by decide +kernel
theorem dX9_addTurn_35 : decode cX9_addTurn 35 = .ok (.iconst 5, 1) := by decide +kernel
theorem dX9_addTurn_36 : decode cX9_addTurn 36 = .ok (.iaload, 1) := by decide +kernel
theorem dX9_addTurn_37 : decode cX9_addTurn 37 = .ok (.iconst 1, 1) := by decide +kernel
theorem dX9_addTurn_38 : decode cX9_addTurn 38 = .ok (.if_icmp .ne 7, 3) := by decide +kernel
theorem dX9_addTurn_41 : decode cX9_addTurn 41 = .ok (.iconst 0, 1) := by decide +kernel
theorem dX9_addTurn_42 : decode cX9_addTurn 42 = .ok (.goto 9, 3) := by decide +kernel
theorem dX9_addTurn_45 : decode cX9_addTurn 45 = .ok (.aload_n 0, 1) := by decide +kernel
theorem dX9_addTurn_46 : decode cX9_addTurn 46 = .ok (.getfield 7, 3) := by decide +kernel
theorem dX9_addTurn_49 : decode cX9_addTurn 49 = .ok (.iconst 3, 1) := by decide +kernel
theorem dX9_addTurn_50 : decode cX9_addTurn 50 = .ok (.iaload, 1) := by decide +kernel
theorem dX9_addTurn_51 : decode cX9_addTurn 51 = .ok (.istore_n 2, 1) := by decide +kernel
theorem dX9_addTurn_52 : decode cX9_addTurn 52 = .ok (.aload_n 0, 1) := by decide +kernel
theorem dX9_addTurn_53 : decode cX9_addTurn 53 = .ok (.getfield 7, 3) := by decide +kernel
theorem dX9_addTurn_56 : decode cX9_addTurn 56 = .ok (.sipush 337, 3) := by decide +kernel
theorem dX9_addTurn_59 : decode cX9_addTurn 59 = .ok (.iload_n 2, 1) := by decide +kernel
theorem dX9_addTurn_60 : decode cX9_addTurn 60 = .ok (.iadd, 1) := by decide +kernel
theorem dX9_addTurn_61 : decode cX9_addTurn 61 = .ok (.iload_n 1, 1) := by decide +kernel
theorem dX9_addTurn_62 : decode cX9_addTurn 62 = .ok (.iastore, 1) := by decide +kernel
theorem dX9_addTurn_63 : decode cX9_addTurn 63 = .ok (.aload_n 0, 1) := by decide +kernel
theorem dX9_addTurn_64 : decode cX9_addTurn 64 = .ok (.getfield 7, 3) := by decide +kernel
theorem dX9_addTurn_67 : decode cX9_addTurn 67 = .ok (.iconst 3, 1) := by decide +kernel
theorem dX9_addTurn_68 : decode cX9_addTurn 68 = .ok (.iload_n 2, 1) := by decide +kernel
theorem dX9_addTurn_69 : decode cX9_addTurn 69 = .ok (.iconst 1, 1) := by decide +kernel
theorem dX9_addTurn_70 : decode cX9_addTurn 70 = .ok (.iadd, 1) := by decide +kernel
theorem dX9_addTurn_71 : decode cX9_addTurn 71 = .ok (.iastore, 1) := by decide +kernel
theorem dX9_addTurn_72 : decode cX9_addTurn 72 = .ok (.aload_n 0, 1) := by decide +kernel
theorem dX9_addTurn_73 : decode cX9_addTurn 73 = .ok (.getfield 7, 3) := by decide +kernel
theorem dX9_addTurn_76 : decode cX9_addTurn 76 = .ok (.iconst 5, 1) := by decide +kernel
theorem dX9_addTurn_77 : decode cX9_addTurn 77 = .ok (.iconst 0, 1) := by decide +kernel
theorem dX9_addTurn_78 : decode cX9_addTurn 78 = .ok (.iastore, 1) := by decide +kernel
theorem dX9_addTurn_79 : decode cX9_addTurn 79 = .ok (.aload_n 0, 1) := by decide +kernel
theorem dX9_addTurn_80 : decode cX9_addTurn 80 = .ok (.getfield 7, 3) := by decide +kernel
theorem dX9_addTurn_83 : decode cX9_addTurn 83 = .ok (.iconst 4, 1) := by decide +kernel
theorem dX9_addTurn_84 : decode cX9_addTurn 84 = .ok (.iconst 0, 1) := by decide +kernel
theorem dX9_addTurn_85 : decode cX9_addTurn 85 = .ok (.iastore, 1) := by decide +kernel
theorem dX9_addTurn_86 : decode cX9_addTurn 86 = .ok (.aload_n 0, 1) := by decide +kernel
theorem dX9_addTurn_87 : decode cX9_addTurn 87 = .ok (.iload_n 2, 1) := by decide +kernel
theorem dX9_addTurn_88 : decode cX9_addTurn 88 = .ok (.iconst 1, 1) := by decide +kernel
theorem dX9_addTurn_89 : decode cX9_addTurn 89 = .ok (.iadd, 1) := by decide +kernel
theorem dX9_addTurn_90 : decode cX9_addTurn 90 = .ok (.invokevirtual 69, 3) := by decide +kernel
theorem dX9_addTurn_93 : decode cX9_addTurn 93 = .ok (.ireturn, 1) := by decide +kernel
theorem dX9_clearTurns_0 : decode cX9_clearTurns 0 = .ok (.aload_n 0, 1) := by decide +kernel
theorem dX9_clearTurns_1 : decode cX9_clearTurns 1 = .ok (.invokevirtual 66, 3) := by decide +kernel
theorem dX9_clearTurns_4 : decode cX9_clearTurns 4 = .ok (.aload_n 0, 1) := by decide +kernel
theorem dX9_clearTurns_5 : decode cX9_clearTurns 5 = .ok (.getfield 7, 3) := by decide +kernel
theorem dX9_clearTurns_8 : decode cX9_clearTurns 8 = .ok (.iconst 3, 1) := by decide +kernel
theorem dX9_clearTurns_9 : decode cX9_clearTurns 9 = .ok (.iaload, 1) := by decide +kernel
theorem dX9_clearTurns_10 : decode cX9_clearTurns 10 = .ok (.istore_n 1, 1) := by decide +kernel
theorem dX9_clearTurns_11 : decode cX9_clearTurns 11 = .ok (.aload_n 0, 1) := by decide +kernel
theorem dX9_clearTurns_12 : decode cX9_clearTurns 12 = .ok (.getfield 7, 3) := by decide +kernel
theorem dX9_clearTurns_15 : decode cX9_clearTurns 15 = .ok (.sipush 337, 3) := by decide +kernel
theorem dX9_clearTurns_18 : decode cX9_clearTurns 18 = .ok (.iconst 0, 1) := by decide +kernel
theorem dX9_clearTurns_19 : decode cX9_clearTurns 19 = .ok (.iastore, 1) := by decide +kernel
theorem dX9_clearTurns_20 : decode cX9_clearTurns 20 = .ok (.aload_n 0, 1) := by decide +kernel
theorem dX9_clearTurns_21 : decode cX9_clearTurns 21 = .ok (.getfield 7, 3) := by decide +kernel
theorem dX9_clearTurns_24 : decode cX9_clearTurns 24 = .ok (.iconst 3, 1) := by decide +kernel
theorem dX9_clearTurns_25 : decode cX9_clearTurns 25 = .ok (.iconst 1, 1) := by decide +kernel
theorem dX9_clearTurns_26 : decode cX9_clearTurns 26 = .ok (.iastore, 1) := by decide +kernel
theorem dX9_clearTurns_27 : decode cX9_clearTurns 27 = .ok (.aload_n 0, 1) := by decide +kernel
theorem dX9_clearTurns_28 : decode cX9_clearTurns 28 = .ok (.getfield 7, 3) := by decide +kernel
theorem dX9_clearTurns_31 : decode cX9_clearTurns 31 = .ok (.iconst 5, 1) := by decide +kernel
theorem dX9_clearTurns_32 : decode cX9_clearTurns 32 = .ok (.iconst 1, 1) := by decide +kernel
theorem dX9_clearTurns_33 : decode cX9_clearTurns 33 = .ok (.iastore, 1) := by decide +kernel
theorem dX9_clearTurns_34 : decode cX9_clearTurns 34 = .ok (.aload_n 0, 1) := by decide +kernel
theorem dX9_clearTurns_35 : decode cX9_clearTurns 35 = .ok (.getfield 7, 3) := by decide +kernel
theorem dX9_clearTurns_38 : decode cX9_clearTurns 38 = .ok (.iconst 4, 1) := by decide +kernel
theorem dX9_clearTurns_39 : decode cX9_clearTurns 39 = .ok (.iconst 0, 1) := by decide +kernel
theorem dX9_clearTurns_40 : decode cX9_clearTurns 40 = .ok (.iastore, 1) := by decide +kernel
theorem dX9_clearTurns_41 : decode cX9_clearTurns 41 = .ok (.aload_n 0, 1) := by decide +kernel
theorem dX9_clearTurns_42 : decode cX9_clearTurns 42 = .ok (.iload_n 1, 1) := by decide +kernel
theorem dX9_clearTurns_43 : decode cX9_clearTurns 43 = .ok (.invokevirtual 69, 3) := by decide +kernel
theorem dX9_clearTurns_46 : decode cX9_clearTurns 46 = .ok (.ireturn, 1) := by decide +kernel
theorem dX9_nextTurn_0 : decode cX9_nextTurn 0 = .ok (.aload_n 0, 1) := by decide +kernel
theorem dX9_nextTurn_1 : decode cX9_nextTurn 1 = .ok (.getfield 7, 3) := by decide +kernel
theorem dX9_nextTurn_4 : decode cX9_nextTurn 4 = .ok (.sipush 337, 3) := by decide +kernel
theorem dX9_nextTurn_7 : decode cX9_nextTurn 7 = .ok (.aload_n 0, 1) := by decide +kernel
theorem dX9_nextTurn_8 : decode cX9_nextTurn 8 = .ok (.getfield 7, 3) := by decide +kernel
theorem dX9_nextTurn_11 : decode cX9_nextTurn 11 = .ok (.iconst 4, 1) := by decide +kernel
theorem dX9_nextTurn_12 : decode cX9_nextTurn 12 = .ok (.iaload, 1) := by decide +kernel
theorem dX9_nextTurn_13 : decode cX9_nextTurn 13 = .ok (.iadd, 1) := by decide +kernel
theorem dX9_nextTurn_14 : decode cX9_nextTurn 14 = .ok (.iaload, 1) := by decide +kernel
theorem dX9_nextTurn_15 : decode cX9_nextTurn 15 = .ok (.istore_n 1, 1) := by decide +kernel
theorem dX9_nextTurn_16 : decode cX9_nextTurn 16 = .ok (.aload_n 0, 1) := by decide +kernel
theorem dX9_nextTurn_17 : decode cX9_nextTurn 17 = .ok (.getfield 7, 3) := by decide +kernel
theorem dX9_nextTurn_20 : decode cX9_nextTurn 20 = .ok (.iconst 4, 1) := by decide +kernel
theorem dX9_nextTurn_21 : decode cX9_nextTurn 21 = .ok (.aload_n 0, 1) := by decide +kernel
theorem dX9_nextTurn_22 : decode cX9_nextTurn 22 = .ok (.getfield 7, 3) := by decide +kernel
theorem dX9_nextTurn_25 : decode cX9_nextTurn 25 = .ok (.iconst 4, 1) := by decide +kernel
theorem dX9_nextTurn_26 : decode cX9_nextTurn 26 = .ok (.iaload, 1) := by decide +kernel
theorem dX9_nextTurn_27 : decode cX9_nextTurn 27 = .ok (.iconst 1, 1) := by decide +kernel
theorem dX9_nextTurn_28 : decode cX9_nextTurn 28 = .ok (.iadd, 1) := by decide +kernel
theorem dX9_nextTurn_29 : decode cX9_nextTurn 29 = .ok (.aload_n 0, 1) := by decide +kernel
theorem dX9_nextTurn_30 : decode cX9_nextTurn 30 = .ok (.getfield 7, 3) := by decide +kernel
theorem dX9_nextTurn_33 : decode cX9_nextTurn 33 = .ok (.iconst 3, 1) := by decide +kernel
theorem dX9_nextTurn_34 : decode cX9_nextTurn 34 = .ok (.iaload, 1) := by decide +kernel
theorem dX9_nextTurn_35 : decode cX9_nextTurn 35 = .ok (.irem, 1) := by decide +kernel
theorem dX9_nextTurn_36 : decode cX9_nextTurn 36 = .ok (.iastore, 1) := by decide +kernel
theorem dX9_nextTurn_37 : decode cX9_nextTurn 37 = .ok (.iload_n 1, 1) := by decide +kernel
theorem dX9_nextTurn_38 : decode cX9_nextTurn 38 = .ok (.iconst 5, 1) := by decide +kernel
theorem dX9_nextTurn_39 : decode cX9_nextTurn 39 = .ok (.if_icmp .ge 7, 3) := by decide +kernel
theorem dX9_nextTurn_42 : decode cX9_nextTurn 42 = .ok (.iconst 0, 1) := by decide +kernel
theorem dX9_nextTurn_43 : decode cX9_nextTurn 43 = .ok (.goto 24, 3) := by decide +kernel
theorem dX9_nextTurn_46 : decode cX9_nextTurn 46 = .ok (.iload_n 1, 1) := by decide +kernel
theorem dX9_nextTurn_47 : decode cX9_nextTurn 47 = .ok (.bipush 7, 2) := by decide +kernel
theorem dX9_nextTurn_49 : decode cX9_nextTurn 49 = .ok (.if_icmp .ge 7, 3) := by decide +kernel
theorem dX9_nextTurn_52 : decode cX9_nextTurn 52 = .ok (.iconst 1, 1) := by decide +kernel
theorem dX9_nextTurn_53 : decode cX9_nextTurn 53 = .ok (.goto 14, 3) := by decide +kernel
theorem dX9_nextTurn_56 : decode cX9_nextTurn 56 = .ok (.iload_n 1, 1) := by decide +kernel
theorem dX9_nextTurn_57 : decode cX9_nextTurn 57 = .ok (.bipush 9, 2) := by decide +kernel
theorem dX9_nextTurn_59 : decode cX9_nextTurn 59 = .ok (.if_icmp .ge 7, 3) := by decide +kernel
theorem dX9_nextTurn_62 : decode cX9_nextTurn 62 = .ok (.iconst 3, 1) := by decide +kernel
theorem dX9_nextTurn_63 : decode cX9_nextTurn 63 = .ok (.goto 4, 3) := by decide +kernel
theorem dX9_nextTurn_66 : decode cX9_nextTurn 66 = .ok (.iconst 2, 1) := by decide +kernel
theorem dX9_nextTurn_67 : decode cX9_nextTurn 67 = .ok (.ireturn, 1) := by decide +kernel
theorem dX9_actBySort_0 : decode cX9_actBySort 0 = .ok (.aload_n 0, 1) := by decide +kernel
theorem dX9_actBySort_1 : decode cX9_actBySort 1 = .ok (.getfield 7, 3) := by decide +kernel
theorem dX9_actBySort_4 : decode cX9_actBySort 4 = .ok (.bipush 9, 2) := by decide +kernel
theorem dX9_actBySort_6 : decode cX9_actBySort 6 = .ok (.aload_n 0, 1) := by decide +kernel
theorem dX9_actBySort_7 : decode cX9_actBySort 7 = .ok (.iload_n 1, 1) := by decide +kernel
theorem dX9_actBySort_8 : decode cX9_actBySort 8 = .ok (.invokevirtual 102, 3) := by decide +kernel
theorem dX9_actBySort_11 : decode cX9_actBySort 11 = .ok (.iadd, 1) := by decide +kernel
theorem dX9_actBySort_12 : decode cX9_actBySort 12 = .ok (.iaload, 1) := by decide +kernel
theorem dX9_actBySort_13 : decode cX9_actBySort 13 = .ok (.istore_n 2, 1) := by decide +kernel
theorem dX9_actBySort_14 : decode cX9_actBySort 14 = .ok (.aload_n 0, 1) := by decide +kernel
theorem dX9_actBySort_15 : decode cX9_actBySort 15 = .ok (.iload_n 1, 1) := by decide +kernel
theorem dX9_actBySort_16 : decode cX9_actBySort 16 = .ok (.iconst 3, 1) := by decide +kernel
theorem dX9_actBySort_17 : decode cX9_actBySort 17 = .ok (.invokevirtual 99, 3) := by decide +kernel
theorem dX9_actBySort_20 : decode cX9_actBySort 20 = .ok (.istore_n 3, 1) := by decide +kernel
theorem dX9_actBySort_21 : decode cX9_actBySort 21 = .ok (.aload_n 0, 1) := by decide +kernel
theorem dX9_actBySort_22 : decode cX9_actBySort 22 = .ok (.iload_n 1, 1) := by decide +kernel
theorem dX9_actBySort_23 : decode cX9_actBySort 23 = .ok (.iconst 4, 1) := by decide +kernel
theorem dX9_actBySort_24 : decode cX9_actBySort 24 = .ok (.invokevirtual 99, 3) := by decide +kernel
theorem dX9_actBySort_27 : decode cX9_actBySort 27 = .ok (.iload_n 3, 1) := by decide +kernel
theorem dX9_actBySort_28 : decode cX9_actBySort 28 = .ok (.isub, 1) := by decide +kernel
theorem dX9_actBySort_29 : decode cX9_actBySort 29 = .ok (.istore 4, 2) := by decide +kernel
theorem dX9_actBySort_31 : decode cX9_actBySort 31 = .ok (.aload_n 0, 1) := by decide +kernel
theorem dX9_actBySort_32 : decode cX9_actBySort 32 = .ok (.iload_n 1, 1) := by decide +kernel
theorem dX9_actBySort_33 : decode cX9_actBySort 33 = .ok (.iconst 5, 1) := by decide +kernel
theorem dX9_actBySort_34 : decode cX9_actBySort 34 = .ok (.invokevirtual 99, 3) := by decide +kernel
theorem dX9_actBySort_37 : decode cX9_actBySort 37 = .ok (.lookupswitch 120 #[(0, 27), (1, 67)], 27) := by decide +kernel
theorem dX9_actBySort_64 : decode cX9_actBySort 64 = .ok (.iload_n 3, 1) := by decide +kernel
theorem dX9_actBySort_65 : decode cX9_actBySort 65 = .ok (.ifCond .ne 16, 3) := by decide +kernel
theorem dX9_actBySort_68 : decode cX9_actBySort 68 = .ok (.iload_n 2, 1) := by decide +kernel
theorem dX9_actBySort_69 : decode cX9_actBySort 69 = .ok (.ifCond .le 12, 3) := by decide +kernel
theorem dX9_actBySort_72 : decode cX9_actBySort 72 = .ok (.aload_n 0, 1) := by decide +kernel
theorem dX9_actBySort_73 : decode cX9_actBySort 73 = .ok (.iload_n 1, 1) := by decide +kernel
theorem dX9_actBySort_74 : decode cX9_actBySort 74 = .ok (.iconst 1, 1) := by decide +kernel
theorem dX9_actBySort_75 : decode cX9_actBySort 75 = .ok (.invokevirtual 109, 3) := by decide +kernel
theorem dX9_actBySort_78 : decode cX9_actBySort 78 = .ok (.goto 138, 3) := by decide +kernel
theorem dX9_actBySort_81 : decode cX9_actBySort 81 = .ok (.iload_n 3, 1) := by decide +kernel
theorem dX9_actBySort_82 : decode cX9_actBySort 82 = .ok (.ifCond .le 134, 3) := by decide +kernel
theorem dX9_actBySort_85 : decode cX9_actBySort 85 = .ok (.iload_n 2, 1) := by decide +kernel
theorem dX9_actBySort_86 : decode cX9_actBySort 86 = .ok (.ifCond .le 130, 3) := by decide +kernel
theorem dX9_actBySort_89 : decode cX9_actBySort 89 = .ok (.iload_n 2, 1) := by decide +kernel
theorem dX9_actBySort_90 : decode cX9_actBySort 90 = .ok (.bipush 99, 2) := by decide +kernel
theorem dX9_actBySort_92 : decode cX9_actBySort 92 = .ok (.if_icmp .ge 124, 3) := by decide +kernel
theorem dX9_actBySort_95 : decode cX9_actBySort 95 = .ok (.aload_n 0, 1) := by decide +kernel
theorem dX9_actBySort_96 : decode cX9_actBySort 96 = .ok (.iload_n 1, 1) := by decide +kernel
theorem dX9_actBySort_97 : decode cX9_actBySort 97 = .ok (.iconst 1, 1) := by decide +kernel
theorem dX9_actBySort_98 : decode cX9_actBySort 98 = .ok (.invokevirtual 105, 3) := by decide +kernel
theorem dX9_actBySort_101 : decode cX9_actBySort 101 = .ok (.goto 115, 3) := by decide +kernel
theorem dX9_actBySort_104 : decode cX9_actBySort 104 = .ok (.iload_n 2, 1) := by decide +kernel
theorem dX9_actBySort_105 : decode cX9_actBySort 105 = .ok (.iconst 1, 1) := by decide +kernel
theorem dX9_actBySort_106 : decode cX9_actBySort 106 = .ok (.iconst 2, 1) := by decide +kernel
theorem dX9_actBySort_107 : decode cX9_actBySort 107 = .ok (.invokestatic 58, 3) := by decide +kernel
theorem dX9_actBySort_110 : decode cX9_actBySort 110 = .ok (.ifCond .eq 22, 3) := by decide +kernel
theorem dX9_actBySort_113 : decode cX9_actBySort 113 = .ok (.iload 4, 2) := by decide +kernel
theorem dX9_actBySort_115 : decode cX9_actBySort 115 = .ok (.ifCond .le 17, 3) := by decide +kernel
theorem dX9_actBySort_118 : decode cX9_actBySort 118 = .ok (.aload_n 0, 1) := by decide +kernel
theorem dX9_actBySort_119 : decode cX9_actBySort 119 = .ok (.iload_n 1, 1) := by decide +kernel
theorem dX9_actBySort_120 : decode cX9_actBySort 120 = .ok (.iload_n 2, 1) := by decide +kernel
theorem dX9_actBySort_121 : decode cX9_actBySort 121 = .ok (.iload 4, 2) := by decide +kernel
theorem dX9_actBySort_123 : decode cX9_actBySort 123 = .ok (.invokestatic 112, 3) := by decide +kernel
theorem dX9_actBySort_126 : decode cX9_actBySort 126 = .ok (.invokevirtual 109, 3) := by decide +kernel
theorem dX9_actBySort_129 : decode cX9_actBySort 129 = .ok (.goto 87, 3) := by decide +kernel
theorem dX9_actBySort_132 : decode cX9_actBySort 132 = .ok (.iload_n 2, 1) := by decide +kernel
theorem dX9_actBySort_133 : decode cX9_actBySort 133 = .ok (.iconst 2, 1) := by decide +kernel
theorem dX9_actBySort_134 : decode cX9_actBySort 134 = .ok (.if_icmp .le 82, 3) := by decide +kernel
theorem dX9_actBySort_137 : decode cX9_actBySort 137 = .ok (.iload_n 3, 1) := by decide +kernel
theorem dX9_actBySort_138 : decode cX9_actBySort 138 = .ok (.ifCond .le 78, 3) := by decide +kernel
theorem dX9_actBySort_141 : decode cX9_actBySort 141 = .ok (.aload_n 0, 1) := by decide +kernel
theorem dX9_actBySort_142 : decode cX9_actBySort 142 = .ok (.iload_n 1, 1) := by decide +kernel
theorem dX9_actBySort_143 : decode cX9_actBySort 143 = .ok (.iload_n 3, 1) := by decide +kernel
theorem dX9_actBySort_144 : decode cX9_actBySort 144 = .ok (.bipush 99, 2) := by decide +kernel
theorem dX9_actBySort_146 : decode cX9_actBySort 146 = .ok (.iload_n 2, 1) := by decide +kernel
theorem dX9_actBySort_147 : decode cX9_actBySort 147 = .ok (.isub, 1) := by decide +kernel
theorem dX9_actBySort_148 : decode cX9_actBySort 148 = .ok (.invokestatic 112, 3) := by decide +kernel
theorem dX9_actBySort_151 : decode cX9_actBySort 151 = .ok (.invokevirtual 105, 3) := by decide +kernel
theorem dX9_actBySort_154 : decode cX9_actBySort 154 = .ok (.goto 62, 3) := by decide +kernel
theorem dX9_actBySort_157 : decode cX9_actBySort 157 = .ok (.aload_n 0, 1) := by decide +kernel
theorem dX9_actBySort_158 : decode cX9_actBySort 158 = .ok (.invokevirtual 115, 3) := by decide +kernel
theorem dX9_actBySort_161 : decode cX9_actBySort 161 = .ok (.iload 4, 2) := by decide +kernel
theorem dX9_actBySort_163 : decode cX9_actBySort 163 = .ok (.ifCond .le 33, 3) := by decide +kernel
theorem dX9_actBySort_166 : decode cX9_actBySort 166 = .ok (.iload_n 2, 1) := by decide +kernel
theorem dX9_actBySort_167 : decode cX9_actBySort 167 = .ok (.ifCond .le 29, 3) := by decide +kernel
theorem dX9_actBySort_170 : decode cX9_actBySort 170 = .ok (.aload_n 0, 1) := by decide +kernel
theorem dX9_actBySort_171 : decode cX9_actBySort 171 = .ok (.aload_n 0, 1) := by decide +kernel
theorem dX9_actBySort_172 : decode cX9_actBySort 172 = .ok (.getfield 26, 3) := by decide +kernel
theorem dX9_actBySort_175 : decode cX9_actBySort 175 = .ok (.aload_n 0, 1) := by decide +kernel
theorem dX9_actBySort_176 : decode cX9_actBySort 176 = .ok (.iload_n 1, 1) := by decide +kernel
theorem dX9_actBySort_177 : decode cX9_actBySort 177 = .ok (.invokevirtual 102, 3) := by decide +kernel
theorem dX9_actBySort_180 : decode cX9_actBySort 180 = .ok (.iaload, 1) := by decide +kernel
theorem dX9_actBySort_181 : decode cX9_actBySort 181 = .ok (.invokevirtual 118, 3) := by decide +kernel
theorem dX9_actBySort_184 : decode cX9_actBySort 184 = .ok (.ifCond .le 12, 3) := by decide +kernel
theorem dX9_actBySort_187 : decode cX9_actBySort 187 = .ok (.aload_n 0, 1) := by decide +kernel
theorem dX9_actBySort_188 : decode cX9_actBySort 188 = .ok (.iload_n 1, 1) := by decide +kernel
theorem dX9_actBySort_189 : decode cX9_actBySort 189 = .ok (.iconst 1, 1) := by decide +kernel
theorem dX9_actBySort_190 : decode cX9_actBySort 190 = .ok (.invokevirtual 109, 3) := by decide +kernel
theorem dX9_actBySort_193 : decode cX9_actBySort 193 = .ok (.goto 23, 3) := by decide +kernel
theorem dX9_actBySort_196 : decode cX9_actBySort 196 = .ok (.iload_n 3, 1) := by decide +kernel
theorem dX9_actBySort_197 : decode cX9_actBySort 197 = .ok (.ifCond .le 19, 3) := by decide +kernel
theorem dX9_actBySort_200 : decode cX9_actBySort 200 = .ok (.iload_n 2, 1) := by decide +kernel
theorem dX9_actBySort_201 : decode cX9_actBySort 201 = .ok (.ifCond .le 15, 3) := by decide +kernel
theorem dX9_actBySort_204 : decode cX9_actBySort 204 = .ok (.iload_n 2, 1) := by decide +kernel
theorem dX9_actBySort_205 : decode cX9_actBySort 205 = .ok (.bipush 99, 2) := by decide +kernel
theorem dX9_actBySort_207 : decode cX9_actBySort 207 = .ok (.if_icmp .ge 9, 3) := by decide +kernel
theorem dX9_actBySort_210 : decode cX9_actBySort 210 = .ok (.aload_n 0, 1) := by decide +kernel
theorem dX9_actBySort_211 : decode cX9_actBySort 211 = .ok (.iload_n 1, 1) := by decide +kernel
theorem dX9_actBySort_212 : decode cX9_actBySort 212 = .ok (.iconst 1, 1) := by decide +kernel
theorem dX9_actBySort_213 : decode cX9_actBySort 213 = .ok (.invokevirtual 105, 3) := by decide +kernel
theorem dX9_actBySort_216 : decode cX9_actBySort 216 = .ok (.return_, 1) := by decide +kernel
theorem dX9_goAhead_0 : decode cX9_goAhead 0 = .ok (.aload_n 0, 1) := by decide +kernel
theorem dX9_goAhead_1 : decode cX9_goAhead 1 = .ok (.invokevirtual 115, 3) := by decide +kernel
theorem dX9_goAhead_4 : decode cX9_goAhead 4 = .ok (.aload_n 0, 1) := by decide +kernel
theorem dX9_goAhead_5 : decode cX9_goAhead 5 = .ok (.getfield 77, 3) := by decide +kernel
theorem dX9_goAhead_8 : decode cX9_goAhead 8 = .ok (.istore_n 2, 1) := by decide +kernel
theorem dX9_goAhead_9 : decode cX9_goAhead 9 = .ok (.aload_n 0, 1) := by decide +kernel
theorem dX9_goAhead_10 : decode cX9_goAhead 10 = .ok (.aload_n 0, 1) := by decide +kernel
theorem dX9_goAhead_11 : decode cX9_goAhead 11 = .ok (.iload_n 1, 1) := by decide +kernel
theorem dX9_goAhead_12 : decode cX9_goAhead 12 = .ok (.invokevirtual 102, 3) := by decide +kernel
theorem dX9_goAhead_15 : decode cX9_goAhead 15 = .ok (.aload_n 0, 1) := by decide +kernel
theorem dX9_goAhead_16 : decode cX9_goAhead 16 = .ok (.iload_n 1, 1) := by decide +kernel
theorem dX9_goAhead_17 : decode cX9_goAhead 17 = .ok (.iconst 2, 1) := by decide +kernel
theorem dX9_goAhead_18 : decode cX9_goAhead 18 = .ok (.invokevirtual 99, 3) := by decide +kernel
theorem dX9_goAhead_21 : decode cX9_goAhead 21 = .ok (.invokevirtual 80, 3) := by decide +kernel
theorem dX9_goAhead_24 : decode cX9_goAhead 24 = .ok (.istore_n 3, 1) := by decide +kernel
theorem dX9_goAhead_25 : decode cX9_goAhead 25 = .ok (.aload_n 0, 1) := by decide +kernel
theorem dX9_goAhead_26 : decode cX9_goAhead 26 = .ok (.iload_n 1, 1) := by decide +kernel
theorem dX9_goAhead_27 : decode cX9_goAhead 27 = .ok (.iconst 0, 1) := by decide +kernel
theorem dX9_goAhead_28 : decode cX9_goAhead 28 = .ok (.iload_n 3, 1) := by decide +kernel
theorem dX9_goAhead_29 : decode cX9_goAhead 29 = .ok (.bipush 16, 2) := by decide +kernel
theorem dX9_goAhead_31 : decode cX9_goAhead 31 = .ok (.idiv, 1) := by decide +kernel
theorem dX9_goAhead_32 : decode cX9_goAhead 32 = .ok (.invokevirtual 91, 3) := by decide +kernel
theorem dX9_goAhead_35 : decode cX9_goAhead 35 = .ok (.aload_n 0, 1) := by decide +kernel
theorem dX9_goAhead_36 : decode cX9_goAhead 36 = .ok (.iload_n 1, 1) := by decide +kernel
theorem dX9_goAhead_37 : decode cX9_goAhead 37 = .ok (.iconst 1, 1) := by decide +kernel
theorem dX9_goAhead_38 : decode cX9_goAhead 38 = .ok (.iload_n 3, 1) := by decide +kernel
theorem dX9_goAhead_39 : decode cX9_goAhead 39 = .ok (.bipush 16, 2) := by decide +kernel
theorem dX9_goAhead_41 : decode cX9_goAhead 41 = .ok (.irem, 1) := by decide +kernel
theorem dX9_goAhead_42 : decode cX9_goAhead 42 = .ok (.invokevirtual 91, 3) := by decide +kernel
theorem dX9_goAhead_45 : decode cX9_goAhead 45 = .ok (.aload_n 0, 1) := by decide +kernel
theorem dX9_goAhead_46 : decode cX9_goAhead 46 = .ok (.iload_n 1, 1) := by decide +kernel
theorem dX9_goAhead_47 : decode cX9_goAhead 47 = .ok (.bipush 6, 2) := by decide +kernel
theorem dX9_goAhead_49 : decode cX9_goAhead 49 = .ok (.aload_n 0, 1) := by decide +kernel
theorem dX9_goAhead_50 : decode cX9_goAhead 50 = .ok (.iload_n 1, 1) := by decide +kernel
theorem dX9_goAhead_51 : decode cX9_goAhead 51 = .ok (.bipush 6, 2) := by decide +kernel
theorem dX9_goAhead_53 : decode cX9_goAhead 53 = .ok (.invokevirtual 99, 3) := by decide +kernel
theorem dX9_goAhead_56 : decode cX9_goAhead 56 = .ok (.iconst 1, 1) := by decide +kernel
theorem dX9_goAhead_57 : decode cX9_goAhead 57 = .ok (.iadd, 1) := by decide +kernel
theorem dX9_goAhead_58 : decode cX9_goAhead 58 = .ok (.invokevirtual 91, 3) := by decide +kernel
theorem dX9_goAhead_61 : decode cX9_goAhead 61 = .ok (.aload_n 0, 1) := by decide +kernel
theorem dX9_goAhead_62 : decode cX9_goAhead 62 = .ok (.getfield 7, 3) := by decide +kernel
theorem dX9_goAhead_65 : decode cX9_goAhead 65 = .ok (.bipush 8, 2) := by decide +kernel
theorem dX9_goAhead_67 : decode cX9_goAhead 67 = .ok (.dup2, 1) := by decide +kernel
theorem dX9_goAhead_68 : decode cX9_goAhead 68 = .ok (.iaload, 1) := by decide +kernel
theorem dX9_goAhead_69 : decode cX9_goAhead 69 = .ok (.iconst 1, 1) := by decide +kernel
theorem dX9_goAhead_70 : decode cX9_goAhead 70 = .ok (.iadd, 1) := by decide +kernel
theorem dX9_goAhead_71 : decode cX9_goAhead 71 = .ok (.iastore, 1) := by decide +kernel
theorem dX9_goAhead_72 : decode cX9_goAhead 72 = .ok (.aload_n 0, 1) := by decide +kernel
theorem dX9_goAhead_73 : decode cX9_goAhead 73 = .ok (.iload_n 1, 1) := by decide +kernel
theorem dX9_goAhead_74 : decode cX9_goAhead 74 = .ok (.invokevirtual 121, 3) := by decide +kernel
theorem dX9_goAhead_77 : decode cX9_goAhead 77 = .ok (.aload_n 0, 1) := by decide +kernel
theorem dX9_goAhead_78 : decode cX9_goAhead 78 = .ok (.invokevirtual 115, 3) := by decide +kernel
theorem dX9_goAhead_81 : decode cX9_goAhead 81 = .ok (.aload_n 0, 1) := by decide +kernel
theorem dX9_goAhead_82 : decode cX9_goAhead 82 = .ok (.getfield 7, 3) := by decide +kernel
theorem dX9_goAhead_85 : decode cX9_goAhead 85 = .ok (.bipush 6, 2) := by decide +kernel
theorem dX9_goAhead_87 : decode cX9_goAhead 87 = .ok (.dup2, 1) := by decide +kernel
theorem dX9_goAhead_88 : decode cX9_goAhead 88 = .ok (.iaload, 1) := by decide +kernel
theorem dX9_goAhead_89 : decode cX9_goAhead 89 = .ok (.aload_n 0, 1) := by decide +kernel
theorem dX9_goAhead_90 : decode cX9_goAhead 90 = .ok (.getfield 77, 3) := by decide +kernel
theorem dX9_goAhead_93 : decode cX9_goAhead 93 = .ok (.iload_n 2, 1) := by decide +kernel
theorem dX9_goAhead_94 : decode cX9_goAhead 94 = .ok (.if_icmp .ge 12, 3) := by decide +kernel
theorem dX9_goAhead_97 : decode cX9_goAhead 97 = .ok (.iload_n 2, 1) := by decide +kernel
theorem dX9_goAhead_98 : decode cX9_goAhead 98 = .ok (.aload_n 0, 1) := by decide +kernel
theorem dX9_goAhead_99 : decode cX9_goAhead 99 = .ok (.getfield 77, 3) := by decide +kernel
theorem dX9_goAhead_102 : decode cX9_goAhead 102 = .ok (.isub, 1) := by decide +kernel
theorem dX9_goAhead_103 : decode cX9_goAhead 103 = .ok (.goto 4, 3) := by decide +kernel
theorem dX9_goAhead_106 : decode cX9_goAhead 106 = .ok (.iconst 0, 1) := by decide +kernel
theorem dX9_goAhead_107 : decode cX9_goAhead 107 = .ok (.iadd, 1) := by decide +kernel
theorem dX9_goAhead_108 : decode cX9_goAhead 108 = .ok (.iastore, 1) := by decide +kernel
theorem dX9_goAhead_109 : decode cX9_goAhead 109 = .ok (.aload_n 0, 1) := by decide +kernel
theorem dX9_goAhead_110 : decode cX9_goAhead 110 = .ok (.getfield 7, 3) := by decide +kernel
theorem dX9_goAhead_113 : decode cX9_goAhead 113 = .ok (.bipush 7, 2) := by decide +kernel
theorem dX9_goAhead_115 : decode cX9_goAhead 115 = .ok (.dup2, 1) := by decide +kernel
theorem dX9_goAhead_116 : decode cX9_goAhead 116 = .ok (.iaload, 1) := by decide +kernel
theorem dX9_goAhead_117 : decode cX9_goAhead 117 = .ok (.aload_n 0, 1) := by decide +kernel
theorem dX9_goAhead_118 : decode cX9_goAhead 118 = .ok (.getfield 77, 3) := by decide +kernel
theorem dX9_goAhead_121 : decode cX9_goAhead 121 = .ok (.iload_n 2, 1) := by decide +kernel
theorem dX9_goAhead_122 : decode cX9_goAhead 122 = .ok (.if_icmp .le 12, 3) := by decide +kernel
theorem dX9_goAhead_125 : decode cX9_goAhead 125 = .ok (.aload_n 0, 1) := by decide +kernel
theorem dX9_goAhead_126 : decode cX9_goAhead 126 = .ok (.getfield 77, 3) := by decide +kernel
theorem dX9_goAhead_129 : decode cX9_goAhead 129 = .ok (.iload_n 2, 1) := by decide +kernel
theorem dX9_goAhead_130 : decode cX9_goAhead 130 = .ok (.isub, 1) := by decide +kernel
theorem dX9_goAhead_131 : decode cX9_goAhead 131 = .ok (.goto 4, 3) := by decide +kernel
theorem dX9_goAhead_134 : decode cX9_goAhead 134 = .ok (.iconst 0, 1) := by decide +kernel
theorem dX9_goAhead_135 : decode cX9_goAhead 135 = .ok (.iadd, 1) := by decide +kernel
theorem dX9_goAhead_136 : decode cX9_goAhead 136 = .ok (.iastore, 1) := by decide +kernel
theorem dX9_goAhead_137 : decode cX9_goAhead 137 = .ok (.return_, 1) := by decide +kernel
theorem dX9_step_0 : decode cX9_step 0 = .ok (.aload_n 0, 1) := by decide +kernel
theorem dX9_step_1 : decode cX9_step 1 = .ok (.iload_n 1, 1) := by decide +kernel
theorem dX9_step_2 : decode cX9_step 2 = .ok (.iconst 2, 1) := by decide +kernel
theorem dX9_step_3 : decode cX9_step 3 = .ok (.aload_n 0, 1) := by decide +kernel
theorem dX9_step_4 : decode cX9_step 4 = .ok (.iload_n 1, 1) := by decide +kernel
theorem dX9_step_5 : decode cX9_step 5 = .ok (.iconst 2, 1) := by decide +kernel
theorem dX9_step_6 : decode cX9_step 6 = .ok (.invokevirtual 99, 3) := by decide +kernel
theorem dX9_step_9 : decode cX9_step 9 = .ok (.aload_n 0, 1) := by decide +kernel
theorem dX9_step_10 : decode cX9_step 10 = .ok (.invokevirtual 124, 3) := by decide +kernel
theorem dX9_step_13 : decode cX9_step 13 = .ok (.iadd, 1) := by decide +kernel
theorem dX9_step_14 : decode cX9_step 14 = .ok (.iconst 4, 1) := by decide +kernel
theorem dX9_step_15 : decode cX9_step 15 = .ok (.irem, 1) := by decide +kernel
theorem dX9_step_16 : decode cX9_step 16 = .ok (.invokevirtual 91, 3) := by decide +kernel
theorem dX9_step_19 : decode cX9_step 19 = .ok (.aload_n 0, 1) := by decide +kernel
theorem dX9_step_20 : decode cX9_step 20 = .ok (.aload_n 0, 1) := by decide +kernel
theorem dX9_step_21 : decode cX9_step 21 = .ok (.iload_n 1, 1) := by decide +kernel
theorem dX9_step_22 : decode cX9_step 22 = .ok (.invokevirtual 102, 3) := by decide +kernel
theorem dX9_step_25 : decode cX9_step 25 = .ok (.aload_n 0, 1) := by decide +kernel
theorem dX9_step_26 : decode cX9_step 26 = .ok (.iload_n 1, 1) := by decide +kernel
theorem dX9_step_27 : decode cX9_step 27 = .ok (.iconst 2, 1) := by decide +kernel
theorem dX9_step_28 : decode cX9_step 28 = .ok (.invokevirtual 99, 3) := by decide +kernel
theorem dX9_step_31 : decode cX9_step 31 = .ok (.invokevirtual 80, 3) := by decide +kernel
theorem dX9_step_34 : decode cX9_step 34 = .ok (.ifCond .ge 22, 3) := by decide +kernel
theorem dX9_step_37 : decode cX9_step 37 = .ok (.aload_n 0, 1) := by decide +kernel
theorem dX9_step_38 : decode cX9_step 38 = .ok (.iload_n 1, 1) := by decide +kernel
theorem dX9_step_39 : decode cX9_step 39 = .ok (.iconst 2, 1) := by decide +kernel
theorem dX9_step_40 : decode cX9_step 40 = .ok (.aload_n 0, 1) := by decide +kernel
theorem dX9_step_41 : decode cX9_step 41 = .ok (.iload_n 1, 1) := by decide +kernel
theorem dX9_step_42 : decode cX9_step 42 = .ok (.iconst 2, 1) := by decide +kernel
theorem dX9_step_43 : decode cX9_step 43 = .ok (.invokevirtual 99, 3) := by decide +kernel
theorem dX9_step_46 : decode cX9_step 46 = .ok (.iconst 1, 1) := by decide +kernel
theorem dX9_step_47 : decode cX9_step 47 = .ok (.iadd, 1) := by decide +kernel
theorem dX9_step_48 : decode cX9_step 48 = .ok (.iconst 4, 1) := by decide +kernel
theorem dX9_step_49 : decode cX9_step 49 = .ok (.irem, 1) := by decide +kernel
theorem dX9_step_50 : decode cX9_step 50 = .ok (.invokevirtual 91, 3) := by decide +kernel
theorem dX9_step_53 : decode cX9_step 53 = .ok (.goto (-34), 3) := by decide +kernel
theorem dX9_step_56 : decode cX9_step 56 = .ok (.aload_n 0, 1) := by decide +kernel
theorem dX9_step_57 : decode cX9_step 57 = .ok (.iload_n 1, 1) := by decide +kernel
theorem dX9_step_58 : decode cX9_step 58 = .ok (.invokevirtual 127, 3) := by decide +kernel
theorem dX9_step_61 : decode cX9_step 61 = .ok (.return_, 1) := by decide +kernel
theorem dX9_oneRound_0 : decode cX9_oneRound 0 = .ok (.iconst 0, 1) := by decide +kernel
theorem dX9_oneRound_1 : decode cX9_oneRound 1 = .ok (.istore_n 1, 1) := by decide +kernel
theorem dX9_oneRound_2 : decode cX9_oneRound 2 = .ok (.iload_n 1, 1) := by decide +kernel
theorem dX9_oneRound_3 : decode cX9_oneRound 3 = .ok (.aload_n 0, 1) := by decide +kernel
theorem dX9_oneRound_4 : decode cX9_oneRound 4 = .ok (.getfield 7, 3) := by decide +kernel
theorem dX9_oneRound_7 : decode cX9_oneRound 7 = .ok (.iconst 2, 1) := by decide +kernel
theorem dX9_oneRound_8 : decode cX9_oneRound 8 = .ok (.iaload, 1) := by decide +kernel
theorem dX9_oneRound_9 : decode cX9_oneRound 9 = .ok (.if_icmp .ge 14, 3) := by decide +kernel
theorem dX9_oneRound_12 : decode cX9_oneRound 12 = .ok (.aload_n 0, 1) := by decide +kernel
theorem dX9_oneRound_13 : decode cX9_oneRound 13 = .ok (.iload_n 1, 1) := by decide +kernel
theorem dX9_oneRound_14 : decode cX9_oneRound 14 = .ok (.invokevirtual 130, 3) := by decide +kernel
theorem dX9_oneRound_17 : decode cX9_oneRound 17 = .ok (.iinc 1 1, 3) := by decide +kernel
theorem dX9_oneRound_20 : decode cX9_oneRound 20 = .ok (.goto (-18), 3) := by decide +kernel
theorem dX9_oneRound_23 : decode cX9_oneRound 23 = .ok (.return_, 1) := by decide +kernel
theorem dX9_walk_0 : decode cX9_walk 0 = .ok (.aload_n 0, 1) := by decide +kernel
theorem dX9_walk_1 : decode cX9_walk 1 = .ok (.iload_n 1, 1) := by decide +kernel
theorem dX9_walk_2 : decode cX9_walk 2 = .ok (.invokevirtual 95, 3) := by decide +kernel
theorem dX9_walk_5 : decode cX9_walk 5 = .ok (.ifCond .eq 5, 3) := by decide +kernel
theorem dX9_walk_8 : decode cX9_walk 8 = .ok (.iconst (-1), 1) := by decide +kernel
theorem dX9_walk_9 : decode cX9_walk 9 = .ok (.ireturn, 1) := by decide +kernel
theorem dX9_walk_10 : decode cX9_walk 10 = .ok (.iload_n 2, 1) := by decide +kernel
theorem dX9_walk_11 : decode cX9_walk 11 = .ok (.iconst 1, 1) := by decide +kernel
theorem dX9_walk_12 : decode cX9_walk 12 = .ok (.bipush 100, 2) := by decide +kernel
theorem dX9_walk_14 : decode cX9_walk 14 = .ok (.invokestatic 58, 3) := by decide +kernel
theorem dX9_walk_17 : decode cX9_walk 17 = .ok (.ifCond .ne 6, 3) := by decide +kernel
theorem dX9_walk_20 : decode cX9_walk 20 = .ok (.bipush (-2), 2) := by decide +kernel
theorem dX9_walk_22 : decode cX9_walk 22 = .ok (.ireturn, 1) := by decide +kernel
theorem dX9_walk_23 : decode cX9_walk 23 = .ok (.aload_n 0, 1) := by decide +kernel
theorem dX9_walk_24 : decode cX9_walk 24 = .ok (.invokevirtual 66, 3) := by decide +kernel
theorem dX9_walk_27 : decode cX9_walk 27 = .ok (.iconst 0, 1) := by decide +kernel
theorem dX9_walk_28 : decode cX9_walk 28 = .ok (.istore_n 3, 1) := by decide +kernel
theorem dX9_walk_29 : decode cX9_walk 29 = .ok (.iload_n 3, 1) := by decide +kernel
theorem dX9_walk_30 : decode cX9_walk 30 = .ok (.iload_n 2, 1) := by decide +kernel
theorem dX9_walk_31 : decode cX9_walk 31 = .ok (.if_icmp .ge 14, 3) := by decide +kernel
theorem dX9_walk_34 : decode cX9_walk 34 = .ok (.aload_n 0, 1) := by decide +kernel
theorem dX9_walk_35 : decode cX9_walk 35 = .ok (.iload_n 1, 1) := by decide +kernel
theorem dX9_walk_36 : decode cX9_walk 36 = .ok (.invokevirtual 130, 3) := by decide +kernel
theorem dX9_walk_39 : decode cX9_walk 39 = .ok (.iinc 3 1, 3) := by decide +kernel
theorem dX9_walk_42 : decode cX9_walk 42 = .ok (.goto (-13), 3) := by decide +kernel
theorem dX9_walk_45 : decode cX9_walk 45 = .ok (.aload_n 0, 1) := by decide +kernel
theorem dX9_walk_46 : decode cX9_walk 46 = .ok (.aload_n 0, 1) := by decide +kernel
theorem dX9_walk_47 : decode cX9_walk 47 = .ok (.iload_n 1, 1) := by decide +kernel
theorem dX9_walk_48 : decode cX9_walk 48 = .ok (.iconst 3, 1) := by decide +kernel
theorem dX9_walk_49 : decode cX9_walk 49 = .ok (.invokevirtual 99, 3) := by decide +kernel
theorem dX9_walk_52 : decode cX9_walk 52 = .ok (.invokevirtual 69, 3) := by decide +kernel
theorem dX9_walk_55 : decode cX9_walk 55 = .ok (.ireturn, 1) := by decide +kernel
theorem dX9_rounds_0 : decode cX9_rounds 0 = .ok (.iload_n 1, 1) := by decide +kernel
theorem dX9_rounds_1 : decode cX9_rounds 1 = .ok (.iconst 1, 1) := by decide +kernel
theorem dX9_rounds_2 : decode cX9_rounds 2 = .ok (.bipush 50, 2) := by decide +kernel
theorem dX9_rounds_4 : decode cX9_rounds 4 = .ok (.invokestatic 58, 3) := by decide +kernel
theorem dX9_rounds_7 : decode cX9_rounds 7 = .ok (.ifCond .ne 6, 3) := by decide +kernel
theorem dX9_rounds_10 : decode cX9_rounds 10 = .ok (.bipush (-2), 2) := by decide +kernel
theorem dX9_rounds_12 : decode cX9_rounds 12 = .ok (.ireturn, 1) := by decide +kernel
theorem dX9_rounds_13 : decode cX9_rounds 13 = .ok (.aload_n 0, 1) := by decide +kernel
theorem dX9_rounds_14 : decode cX9_rounds 14 = .ok (.getfield 7, 3) := by decide +kernel
theorem dX9_rounds_17 : decode cX9_rounds 17 = .ok (.iconst 2, 1) := by decide +kernel
theorem dX9_rounds_18 : decode cX9_rounds 18 = .ok (.iaload, 1) := by decide +kernel
theorem dX9_rounds_19 : decode cX9_rounds 19 = .ok (.ifCond .ne 6, 3) := by decide +kernel
theorem dX9_rounds_22 : decode cX9_rounds 22 = .ok (.bipush (-5), 2) := by decide +kernel
theorem dX9_rounds_24 : decode cX9_rounds 24 = .ok (.ireturn, 1) := by decide +kernel
theorem dX9_rounds_25 : decode cX9_rounds 25 = .ok (.aload_n 0, 1) := by decide +kernel
theorem dX9_rounds_26 : decode cX9_rounds 26 = .ok (.invokevirtual 66, 3) := by decide +kernel
theorem dX9_rounds_29 : decode cX9_rounds 29 = .ok (.iconst 0, 1) := by decide +kernel
theorem dX9_rounds_30 : decode cX9_rounds 30 = .ok (.istore_n 2, 1) := by decide +kernel
theorem dX9_rounds_31 : decode cX9_rounds 31 = .ok (.iload_n 2, 1) := by decide +kernel
theorem dX9_rounds_32 : decode cX9_rounds 32 = .ok (.iload_n 1, 1) := by decide +kernel
theorem dX9_rounds_33 : decode cX9_rounds 33 = .ok (.if_icmp .ge 13, 3) := by decide +kernel
theorem dX9_rounds_36 : decode cX9_rounds 36 = .ok (.aload_n 0, 1) := by decide +kernel
theorem dX9_rounds_37 : decode cX9_rounds 37 = .ok (.invokevirtual 133, 3) := by decide +kernel
theorem dX9_rounds_40 : decode cX9_rounds 40 = .ok (.iinc 2 1, 3) := by decide +kernel
theorem dX9_rounds_43 : decode cX9_rounds 43 = .ok (.goto (-12), 3) := by decide +kernel
theorem dX9_rounds_46 : decode cX9_rounds 46 = .ok (.aload_n 0, 1) := by decide +kernel
theorem dX9_rounds_47 : decode cX9_rounds 47 = .ok (.invokevirtual 115, 3) := by decide +kernel
theorem dX9_rounds_50 : decode cX9_rounds 50 = .ok (.aload_n 0, 1) := by decide +kernel
theorem dX9_rounds_51 : decode cX9_rounds 51 = .ok (.aload_n 0, 1) := by decide +kernel
theorem dX9_rounds_52 : decode cX9_rounds 52 = .ok (.getfield 77, 3) := by decide +kernel
theorem dX9_rounds_55 : decode cX9_rounds 55 = .ok (.invokevirtual 69, 3) := by decide +kernel
theorem dX9_rounds_58 : decode cX9_rounds 58 = .ok (.ireturn, 1) := by decide +kernel
theorem dX9_roundsUntil_0 : decode cX9_roundsUntil 0 = .ok (.iload_n 1, 1) := by decide +kernel
theorem dX9_roundsUntil_1 : decode cX9_roundsUntil 1 = .ok (.iconst 0, 1) := by decide +kernel
theorem dX9_roundsUntil_2 : decode cX9_roundsUntil 2 = .ok (.sipush 256, 3) := by decide +kernel
theorem dX9_roundsUntil_5 : decode cX9_roundsUntil 5 = .ok (.invokestatic 58, 3) := by decide +kernel
theorem dX9_roundsUntil_8 : decode cX9_roundsUntil 8 = .ok (.ifCond .ne 6, 3) := by decide +kernel
theorem dX9_roundsUntil_11 : decode cX9_roundsUntil 11 = .ok (.bipush (-2), 2) := by decide +kernel
theorem dX9_roundsUntil_13 : decode cX9_roundsUntil 13 = .ok (.ireturn, 1) := by decide +kernel
theorem dX9_roundsUntil_14 : decode cX9_roundsUntil 14 = .ok (.aload_n 0, 1) := by decide +kernel
theorem dX9_roundsUntil_15 : decode cX9_roundsUntil 15 = .ok (.invokevirtual 115, 3) := by decide +kernel
theorem dX9_roundsUntil_18 : decode cX9_roundsUntil 18 = .ok (.aload_n 0, 1) := by decide +kernel
theorem dX9_roundsUntil_19 : decode cX9_roundsUntil 19 = .ok (.getfield 77, 3) := by decide +kernel
theorem dX9_roundsUntil_22 : decode cX9_roundsUntil 22 = .ok (.iload_n 1, 1) := by decide +kernel
theorem dX9_roundsUntil_23 : decode cX9_roundsUntil 23 = .ok (.if_icmp .le 15, 3) := by decide +kernel
theorem dX9_roundsUntil_26 : decode cX9_roundsUntil 26 = .ok (.aload_n 0, 1) := by decide +kernel
theorem dX9_roundsUntil_27 : decode cX9_roundsUntil 27 = .ok (.getfield 7, 3) := by decide +kernel
theorem dX9_roundsUntil_30 : decode cX9_roundsUntil 30 = .ok (.iconst 2, 1) := by decide +kernel
theorem dX9_roundsUntil_31 : decode cX9_roundsUntil 31 = .ok (.iaload, 1) := by decide +kernel
theorem dX9_roundsUntil_32 : decode cX9_roundsUntil 32 = .ok (.ifCond .ne 6, 3) := by decide +kernel
theorem dX9_roundsUntil_35 : decode cX9_roundsUntil 35 = .ok (.bipush (-5), 2) := by decide +kernel
theorem dX9_roundsUntil_37 : decode cX9_roundsUntil 37 = .ok (.ireturn, 1) := by decide +kernel
theorem dX9_roundsUntil_38 : decode cX9_roundsUntil 38 = .ok (.aload_n 0, 1) := by decide +kernel
theorem dX9_roundsUntil_39 : decode cX9_roundsUntil 39 = .ok (.invokevirtual 66, 3) := by decide +kernel
theorem dX9_roundsUntil_42 : decode cX9_roundsUntil 42 = .ok (.iconst 0, 1) := by decide +kernel
theorem dX9_roundsUntil_43 : decode cX9_roundsUntil 43 = .ok (.istore_n 2, 1) := by decide +kernel
theorem dX9_roundsUntil_44 : decode cX9_roundsUntil 44 = .ok (.aload_n 0, 1) := by decide +kernel
theorem dX9_roundsUntil_45 : decode cX9_roundsUntil 45 = .ok (.getfield 77, 3) := by decide +kernel
theorem dX9_roundsUntil_48 : decode cX9_roundsUntil 48 = .ok (.iload_n 1, 1) := by decide +kernel
theorem dX9_roundsUntil_49 : decode cX9_roundsUntil 49 = .ok (.if_icmp .le 24, 3) := by decide +kernel
theorem dX9_roundsUntil_52 : decode cX9_roundsUntil 52 = .ok (.iload_n 2, 1) := by decide +kernel
theorem dX9_roundsUntil_53 : decode cX9_roundsUntil 53 = .ok (.sipush 200, 3) := by decide +kernel
theorem dX9_roundsUntil_56 : decode cX9_roundsUntil 56 = .ok (.if_icmp .ge 17, 3) := by decide +kernel
theorem dX9_roundsUntil_59 : decode cX9_roundsUntil 59 = .ok (.aload_n 0, 1) := by decide +kernel
theorem dX9_roundsUntil_60 : decode cX9_roundsUntil 60 = .ok (.invokevirtual 133, 3) := by decide +kernel
theorem dX9_roundsUntil_63 : decode cX9_roundsUntil 63 = .ok (.aload_n 0, 1) := by decide +kernel
theorem dX9_roundsUntil_64 : decode cX9_roundsUntil 64 = .ok (.invokevirtual 115, 3) := by decide +kernel
theorem dX9_roundsUntil_67 : decode cX9_roundsUntil 67 = .ok (.iinc 2 1, 3) := by decide +kernel
theorem dX9_roundsUntil_70 : decode cX9_roundsUntil 70 = .ok (.goto (-26), 3) := by decide +kernel
theorem dX9_roundsUntil_73 : decode cX9_roundsUntil 73 = .ok (.aload_n 0, 1) := by decide +kernel
theorem dX9_roundsUntil_74 : decode cX9_roundsUntil 74 = .ok (.getfield 77, 3) := by decide +kernel
theorem dX9_roundsUntil_77 : decode cX9_roundsUntil 77 = .ok (.iload_n 1, 1) := by decide +kernel
theorem dX9_roundsUntil_78 : decode cX9_roundsUntil 78 = .ok (.if_icmp .gt 7, 3) := by decide +kernel
theorem dX9_roundsUntil_81 : decode cX9_roundsUntil 81 = .ok (.iconst 1, 1) := by decide +kernel
theorem dX9_roundsUntil_82 : decode cX9_roundsUntil 82 = .ok (.goto 4, 3) := by decide +kernel
theorem dX9_roundsUntil_85 : decode cX9_roundsUntil 85 = .ok (.iconst 0, 1) := by decide +kernel
theorem dX9_roundsUntil_86 : decode cX9_roundsUntil 86 = .ok (.istore_n 3, 1) := by decide +kernel
theorem dX9_roundsUntil_87 : decode cX9_roundsUntil 87 = .ok (.aload_n 0, 1) := by decide +kernel
theorem dX9_roundsUntil_88 : decode cX9_roundsUntil 88 = .ok (.invokevirtual 136, 3) := by decide +kernel
theorem dX9_roundsUntil_91 : decode cX9_roundsUntil 91 = .ok (.iload_n 3, 1) := by decide +kernel
theorem dX9_roundsUntil_92 : decode cX9_roundsUntil 92 = .ok (.ifCond .eq 7, 3) := by decide +kernel
theorem dX9_roundsUntil_95 : decode cX9_roundsUntil 95 = .ok (.iload_n 2, 1) := by decide +kernel
theorem dX9_roundsUntil_96 : decode cX9_roundsUntil 96 = .ok (.goto 5, 3) := by decide +kernel
theorem dX9_roundsUntil_99 : decode cX9_roundsUntil 99 = .ok (.bipush (-5), 2) := by decide +kernel
theorem dX9_roundsUntil_101 : decode cX9_roundsUntil 101 = .ok (.ireturn, 1) := by decide +kernel
theorem dX9_type_0 : decode cX9_type 0 = .ok (.aload_n 0, 1) := by decide +kernel
theorem dX9_type_1 : decode cX9_type 1 = .ok (.getfield 139, 3) := by decide +kernel
theorem dX9_type_4 : decode cX9_type 4 = .ok (.bipush 40, 2) := by decide +kernel
theorem dX9_type_6 : decode cX9_type 6 = .ok (.if_icmp .ne 6, 3) := by decide +kernel
theorem dX9_type_9 : decode cX9_type 9 = .ok (.bipush (-3), 2) := by decide +kernel
theorem dX9_type_11 : decode cX9_type 11 = .ok (.ireturn, 1) := by decide +kernel
theorem dX9_type_12 : decode cX9_type 12 = .ok (.aload_n 0, 1) := by decide +kernel
theorem dX9_type_13 : decode cX9_type 13 = .ok (.getfield 44, 3) := by decide +kernel
theorem dX9_type_16 : decode cX9_type 16 = .ok (.aload_n 0, 1) := by decide +kernel
theorem dX9_type_17 : decode cX9_type 17 = .ok (.getfield 139, 3) := by decide +kernel
theorem dX9_type_20 : decode cX9_type 20 = .ok (.iload_n 1, 1) := by decide +kernel
theorem dX9_type_21 : decode cX9_type 21 = .ok (.castore, 1) := by decide +kernel
theorem dX9_type_22 : decode cX9_type 22 = .ok (.aload_n 0, 1) := by decide +kernel
theorem dX9_type_23 : decode cX9_type 23 = .ok (.dup, 1) := by decide +kernel
theorem dX9_type_24 : decode cX9_type 24 = .ok (.getfield 139, 3) := by decide +kernel
theorem dX9_type_27 : decode cX9_type 27 = .ok (.iconst 1, 1) := by decide +kernel
theorem dX9_type_28 : decode cX9_type 28 = .ok (.iadd, 1) := by decide +kernel
theorem dX9_type_29 : decode cX9_type 29 = .ok (.putfield 139, 3) := by decide +kernel
theorem dX9_type_32 : decode cX9_type 32 = .ok (.aload_n 0, 1) := by decide +kernel
theorem dX9_type_33 : decode cX9_type 33 = .ok (.getfield 139, 3) := by decide +kernel
theorem dX9_type_36 : decode cX9_type 36 = .ok (.ireturn, 1) := by decide +kernel
theorem dX9_clearText_0 : decode cX9_clearText 0 = .ok (.aload_n 0, 1) := by decide +kernel
theorem dX9_clearText_1 : decode cX9_clearText 1 = .ok (.getfield 139, 3) := by decide +kernel
theorem dX9_clearText_4 : decode cX9_clearText 4 = .ok (.istore_n 1, 1) := by decide +kernel
theorem dX9_clearText_5 : decode cX9_clearText 5 = .ok (.aload_n 0, 1) := by decide +kernel
theorem dX9_clearText_6 : decode cX9_clearText 6 = .ok (.iconst 0, 1) := by decide +kernel
theorem dX9_clearText_7 : decode cX9_clearText 7 = .ok (.putfield 139, 3) := by decide +kernel
theorem dX9_clearText_10 : decode cX9_clearText 10 = .ok (.iload_n 1, 1) := by decide +kernel
theorem dX9_clearText_11 : decode cX9_clearText 11 = .ok (.ireturn, 1) := by decide +kernel
theorem dX9_directionOf_0 : decode cX9_directionOf 0 = .ok (.iload_n 0, 1) := by decide +kernel
theorem dX9_directionOf_1 : decode cX9_directionOf 1 = .ok (.bipush 110, 2) := by decide +kernel
theorem dX9_directionOf_3 : decode cX9_directionOf 3 = .ok (.if_icmp .ne 7, 3) := by decide +kernel
theorem dX9_directionOf_6 : decode cX9_directionOf 6 = .ok (.iconst 0, 1) := by decide +kernel
theorem dX9_directionOf_7 : decode cX9_directionOf 7 = .ok (.goto 35, 3) := by decide +kernel
theorem dX9_directionOf_10 : decode cX9_directionOf 10 = .ok (.iload_n 0, 1) := by decide +kernel
theorem dX9_directionOf_11 : decode cX9_directionOf 11 = .ok (.bipush 101, 2) := by decide +kernel
theorem dX9_directionOf_13 : decode cX9_directionOf 13 = .ok (.if_icmp .ne 7, 3) := by decide +kernel
theorem dX9_directionOf_16 : decode cX9_directionOf 16 = .ok (.iconst 1, 1) := by decide +kernel
theorem dX9_directionOf_17 : decode cX9_directionOf 17 = .ok (.goto 25, 3) := by decide +kernel
theorem dX9_directionOf_20 : decode cX9_directionOf 20 = .ok (.iload_n 0, 1) := by decide +kernel
theorem dX9_directionOf_21 : decode cX9_directionOf 21 = .ok (.bipush 115, 2) := by decide +kernel
theorem dX9_directionOf_23 : decode cX9_directionOf 23 = .ok (.if_icmp .ne 7, 3) := by decide +kernel
theorem dX9_directionOf_26 : decode cX9_directionOf 26 = .ok (.iconst 2, 1) := by decide +kernel
theorem dX9_directionOf_27 : decode cX9_directionOf 27 = .ok (.goto 15, 3) := by decide +kernel
theorem dX9_directionOf_30 : decode cX9_directionOf 30 = .ok (.iload_n 0, 1) := by decide +kernel
theorem dX9_directionOf_31 : decode cX9_directionOf 31 = .ok (.bipush 119, 2) := by decide +kernel
theorem dX9_directionOf_33 : decode cX9_directionOf 33 = .ok (.if_icmp .ne 7, 3) := by decide +kernel
theorem dX9_directionOf_36 : decode cX9_directionOf 36 = .ok (.iconst 3, 1) := by decide +kernel
theorem dX9_directionOf_37 : decode cX9_directionOf 37 = .ok (.goto 5, 3) := by decide +kernel
theorem dX9_directionOf_40 : decode cX9_directionOf 40 = .ok (.bipush (-5), 2) := by decide +kernel
theorem dX9_directionOf_42 : decode cX9_directionOf 42 = .ok (.ireturn, 1) := by decide +kernel
theorem dX9_isLetter_0 : decode cX9_isLetter 0 = .ok (.iload_n 1, 1) := by decide +kernel
theorem dX9_isLetter_1 : decode cX9_isLetter 1 = .ok (.bipush 114, 2) := by decide +kernel
theorem dX9_isLetter_3 : decode cX9_isLetter 3 = .ok (.if_icmp .eq 37, 3) := by decide +kernel
theorem dX9_isLetter_6 : decode cX9_isLetter 6 = .ok (.iload_n 1, 1) := by decide +kernel
theorem dX9_isLetter_7 : decode cX9_isLetter 7 = .ok (.bipush 35, 2) := by decide +kernel
theorem dX9_isLetter_9 : decode cX9_isLetter 9 = .ok (.if_icmp .eq 31, 3) := by decide +kernel
theorem dX9_isLetter_12 : decode cX9_isLetter 12 = .ok (.aload_n 0, 1) := by decide +kernel
theorem dX9_isLetter_13 : decode cX9_isLetter 13 = .ok (.getfield 7, 3) := by decide +kernel
theorem dX9_isLetter_16 : decode cX9_isLetter 16 = .ok (.iconst 2, 1) := by decide +kernel
theorem dX9_isLetter_17 : decode cX9_isLetter 17 = .ok (.iaload, 1) := by decide +kernel
theorem dX9_isLetter_18 : decode cX9_isLetter 18 = .ok (.ifCond .le 26, 3) := by decide +kernel
theorem dX9_isLetter_21 : decode cX9_isLetter 21 = .ok (.iload_n 1, 1) := by decide +kernel
theorem dX9_isLetter_22 : decode cX9_isLetter 22 = .ok (.invokestatic 142, 3) := by decide +kernel
theorem dX9_isLetter_25 : decode cX9_isLetter 25 = .ok (.ifCond .ge 15, 3) := by decide +kernel
theorem dX9_isLetter_28 : decode cX9_isLetter 28 = .ok (.iload_n 1, 1) := by decide +kernel
theorem dX9_isLetter_29 : decode cX9_isLetter 29 = .ok (.bipush 103, 2) := by decide +kernel
theorem dX9_isLetter_31 : decode cX9_isLetter 31 = .ok (.if_icmp .eq 9, 3) := by decide +kernel
theorem dX9_isLetter_34 : decode cX9_isLetter 34 = .ok (.iload_n 1, 1) := by decide +kernel
theorem dX9_isLetter_35 : decode cX9_isLetter 35 = .ok (.bipush 100, 2) := by decide +kernel
theorem dX9_isLetter_37 : decode cX9_isLetter 37 = .ok (.if_icmp .ne 7, 3) := by decide +kernel
theorem dX9_isLetter_40 : decode cX9_isLetter 40 = .ok (.iconst 1, 1) := by decide +kernel
theorem dX9_isLetter_41 : decode cX9_isLetter 41 = .ok (.goto 4, 3) := by decide +kernel
theorem dX9_isLetter_44 : decode cX9_isLetter 44 = .ok (.iconst 0, 1) := by decide +kernel
theorem dX9_isLetter_45 : decode cX9_isLetter 45 = .ok (.ireturn, 1) := by decide +kernel
theorem dX9_isDigit_0 : decode cX9_isDigit 0 = .ok (.iload_n 1, 1) := by decide +kernel
theorem dX9_isDigit_1 : decode cX9_isDigit 1 = .ok (.aload_n 0, 1) := by decide +kernel
theorem dX9_isDigit_2 : decode cX9_isDigit 2 = .ok (.getfield 139, 3) := by decide +kernel
theorem dX9_isDigit_5 : decode cX9_isDigit 5 = .ok (.if_icmp .ge 29, 3) := by decide +kernel
theorem dX9_isDigit_8 : decode cX9_isDigit 8 = .ok (.aload_n 0, 1) := by decide +kernel
theorem dX9_isDigit_9 : decode cX9_isDigit 9 = .ok (.getfield 44, 3) := by decide +kernel
theorem dX9_isDigit_12 : decode cX9_isDigit 12 = .ok (.iload_n 1, 1) := by decide +kernel
theorem dX9_isDigit_13 : decode cX9_isDigit 13 = .ok (.caload, 1) := by decide +kernel
theorem dX9_isDigit_14 : decode cX9_isDigit 14 = .ok (.bipush 48, 2) := by decide +kernel
theorem dX9_isDigit_16 : decode cX9_isDigit 16 = .ok (.if_icmp .lt 18, 3) := by decide +kernel
theorem dX9_isDigit_19 : decode cX9_isDigit 19 = .ok (.aload_n 0, 1) := by decide +kernel
theorem dX9_isDigit_20 : decode cX9_isDigit 20 = .ok (.getfield 44, 3) := by decide +kernel
theorem dX9_isDigit_23 : decode cX9_isDigit 23 = .ok (.iload_n 1, 1) := by decide +kernel
theorem dX9_isDigit_24 : decode cX9_isDigit 24 = .ok (.caload, 1) := by decide +kernel
theorem dX9_isDigit_25 : decode cX9_isDigit 25 = .ok (.bipush 57, 2) := by decide +kernel
theorem dX9_isDigit_27 : decode cX9_isDigit 27 = .ok (.if_icmp .gt 7, 3) := by decide +kernel
theorem dX9_isDigit_30 : decode cX9_isDigit 30 = .ok (.iconst 1, 1) := by decide +kernel
theorem dX9_isDigit_31 : decode cX9_isDigit 31 = .ok (.goto 4, 3) := by decide +kernel
theorem dX9_isDigit_34 : decode cX9_isDigit 34 = .ok (.iconst 0, 1) := by decide +kernel
theorem dX9_isDigit_35 : decode cX9_isDigit 35 = .ok (.ireturn, 1) := by decide +kernel
theorem dX9_readPlan_0 : decode cX9_readPlan 0 = .ok (.aload_n 0, 1) := by decide +kernel
theorem dX9_readPlan_1 : decode cX9_readPlan 1 = .ok (.iconst 0, 1) := by decide +kernel
theorem dX9_readPlan_2 : decode cX9_readPlan 2 = .ok (.putfield 146, 3) := by decide +kernel
theorem dX9_readPlan_5 : decode cX9_readPlan 5 = .ok (.iconst 0, 1) := by decide +kernel
theorem dX9_readPlan_6 : decode cX9_readPlan 6 = .ok (.istore_n 1, 1) := by decide +kernel
theorem dX9_readPlan_7 : decode cX9_readPlan 7 = .ok (.iload_n 1, 1) := by decide +kernel
theorem dX9_readPlan_8 : decode cX9_readPlan 8 = .ok (.aload_n 0, 1) := by decide +kernel
theorem dX9_readPlan_9 : decode cX9_readPlan 9 = .ok (.getfield 139, 3) := by decide +kernel
theorem dX9_readPlan_12 : decode cX9_readPlan 12 = .ok (.if_icmp .lt 7, 3) := by decide +kernel
theorem dX9_readPlan_15 : decode cX9_readPlan 15 = .ok (.iload_n 1, 1) := by decide +kernel
theorem dX9_readPlan_16 : decode cX9_readPlan 16 = .ok (.ifCond .ne 232, 3) := by decide +kernel
theorem dX9_readPlan_19 : decode cX9_readPlan 19 = .ok (.iload_n 1, 1) := by decide +kernel
theorem dX9_readPlan_20 : decode cX9_readPlan 20 = .ok (.aload_n 0, 1) := by decide +kernel
theorem dX9_readPlan_21 : decode cX9_readPlan 21 = .ok (.getfield 139, 3) := by decide +kernel
theorem dX9_readPlan_24 : decode cX9_readPlan 24 = .ok (.if_icmp .eq 16, 3) := by decide +kernel
theorem dX9_readPlan_27 : decode cX9_readPlan 27 = .ok (.aload_n 0, 1) := by decide +kernel
theorem dX9_readPlan_28 : decode cX9_readPlan 28 = .ok (.aload_n 0, 1) := by decide +kernel
theorem dX9_readPlan_29 : decode cX9_readPlan 29 = .ok (.getfield 44, 3) := by decide +kernel
theorem dX9_readPlan_32 : decode cX9_readPlan 32 = .ok (.iload_n 1, 1) := by decide +kernel
theorem dX9_readPlan_33 : decode cX9_readPlan 33 = .ok (.caload, 1) := by decide +kernel
theorem dX9_readPlan_34 : decode cX9_readPlan 34 = .ok (.invokevirtual 149, 3) := by decide +kernel
theorem dX9_readPlan_37 : decode cX9_readPlan 37 = .ok (.ifCond .ne 5, 3) := by decide +kernel
theorem dX9_readPlan_40 : decode cX9_readPlan 40 = .ok (.iload_n 1, 1) := by decide +kernel
theorem dX9_readPlan_41 : decode cX9_readPlan 41 = .ok (.ireturn, 1) := by decide +kernel
theorem dX9_readPlan_42 : decode cX9_readPlan 42 = .ok (.aload_n 0, 1) := by decide +kernel
theorem dX9_readPlan_43 : decode cX9_readPlan 43 = .ok (.getfield 48, 3) := by decide +kernel
theorem dX9_readPlan_46 : decode cX9_readPlan 46 = .ok (.aload_n 0, 1) := by decide +kernel
theorem dX9_readPlan_47 : decode cX9_readPlan 47 = .ok (.getfield 146, 3) := by decide +kernel
theorem dX9_readPlan_50 : decode cX9_readPlan 50 = .ok (.aload_n 0, 1) := by decide +kernel
theorem dX9_readPlan_51 : decode cX9_readPlan 51 = .ok (.getfield 44, 3) := by decide +kernel
theorem dX9_readPlan_54 : decode cX9_readPlan 54 = .ok (.iload_n 1, 1) := by decide +kernel
theorem dX9_readPlan_55 : decode cX9_readPlan 55 = .ok (.caload, 1) := by decide +kernel
theorem dX9_readPlan_56 : decode cX9_readPlan 56 = .ok (.castore, 1) := by decide +kernel
theorem dX9_readPlan_57 : decode cX9_readPlan 57 = .ok (.aload_n 0, 1) := by decide +kernel
theorem dX9_readPlan_58 : decode cX9_readPlan 58 = .ok (.getfield 51, 3) := by decide +kernel
theorem dX9_readPlan_61 : decode cX9_readPlan 61 = .ok (.aload_n 0, 1) := by decide +kernel
theorem dX9_readPlan_62 : decode cX9_readPlan 62 = .ok (.getfield 146, 3) := by decide +kernel
theorem dX9_readPlan_65 : decode cX9_readPlan 65 = .ok (.iconst 1, 1) := by decide +kernel
theorem dX9_readPlan_66 : decode cX9_readPlan 66 = .ok (.iastore, 1) := by decide +kernel
theorem dX9_readPlan_67 : decode cX9_readPlan 67 = .ok (.iinc 1 1, 3) := by decide +kernel
theorem dX9_readPlan_70 : decode cX9_readPlan 70 = .ok (.aload_n 0, 1) := by decide +kernel
theorem dX9_readPlan_71 : decode cX9_readPlan 71 = .ok (.getfield 44, 3) := by decide +kernel
theorem dX9_readPlan_74 : decode cX9_readPlan 74 = .ok (.iload_n 1, 1) := by decide +kernel
theorem dX9_readPlan_75 : decode cX9_readPlan 75 = .ok (.iconst 1, 1) := by decide +kernel
theorem dX9_readPlan_76 : decode cX9_readPlan 76 = .ok (.isub, 1) := by decide +kernel
theorem dX9_readPlan_77 : decode cX9_readPlan 77 = .ok (.caload, 1) := by decide +kernel
theorem dX9_readPlan_78 : decode cX9_readPlan 78 = .ok (.bipush 35, 2) := by decide +kernel
theorem dX9_readPlan_80 : decode cX9_readPlan 80 = .ok (.if_icmp .ne 55, 3) := by decide +kernel
theorem dX9_readPlan_83 : decode cX9_readPlan 83 = .ok (.aload_n 0, 1) := by decide +kernel
theorem dX9_readPlan_84 : decode cX9_readPlan 84 = .ok (.iload_n 1, 1) := by decide +kernel
theorem dX9_readPlan_85 : decode cX9_readPlan 85 = .ok (.invokevirtual 153, 3) := by decide +kernel
theorem dX9_readPlan_88 : decode cX9_readPlan 88 = .ok (.ifCond .eq 21, 3) := by decide +kernel
theorem dX9_readPlan_91 : decode cX9_readPlan 91 = .ok (.aload_n 0, 1) := by decide +kernel
theorem dX9_readPlan_92 : decode cX9_readPlan 92 = .ok (.getfield 44, 3) := by decide +kernel
theorem dX9_readPlan_95 : decode cX9_readPlan 95 = .ok (.iload_n 1, 1) := by decide +kernel
theorem dX9_readPlan_96 : decode cX9_readPlan 96 = .ok (.caload, 1) := by decide +kernel
theorem dX9_readPlan_97 : decode cX9_readPlan 97 = .ok (.bipush 48, 2) := by decide +kernel
theorem dX9_readPlan_99 : decode cX9_readPlan 99 = .ok (.isub, 1) := by decide +kernel
theorem dX9_readPlan_100 : decode cX9_readPlan 100 = .ok (.aload_n 0, 1) := by decide +kernel
theorem dX9_readPlan_101 : decode cX9_readPlan 101 = .ok (.getfield 7, 3) := by decide +kernel
theorem dX9_readPlan_104 : decode cX9_readPlan 104 = .ok (.iconst 2, 1) := by decide +kernel
theorem dX9_readPlan_105 : decode cX9_readPlan 105 = .ok (.iaload, 1) := by decide +kernel
theorem dX9_readPlan_106 : decode cX9_readPlan 106 = .ok (.if_icmp .lt 5, 3) := by decide +kernel
theorem dX9_readPlan_109 : decode cX9_readPlan 109 = .ok (.iload_n 1, 1) := by decide +kernel
theorem dX9_readPlan_110 : decode cX9_readPlan 110 = .ok (.ireturn, 1) := by decide +kernel
theorem dX9_readPlan_111 : decode cX9_readPlan 111 = .ok (.aload_n 0, 1) := by decide +kernel
theorem dX9_readPlan_112 : decode cX9_readPlan 112 = .ok (.getfield 51, 3) := by decide +kernel
theorem dX9_readPlan_115 : decode cX9_readPlan 115 = .ok (.aload_n 0, 1) := by decide +kernel
theorem dX9_readPlan_116 : decode cX9_readPlan 116 = .ok (.getfield 146, 3) := by decide +kernel
theorem dX9_readPlan_119 : decode cX9_readPlan 119 = .ok (.aload_n 0, 1) := by decide +kernel
theorem dX9_readPlan_120 : decode cX9_readPlan 120 = .ok (.getfield 44, 3) := by decide +kernel
theorem dX9_readPlan_123 : decode cX9_readPlan 123 = .ok (.iload_n 1, 1) := by decide +kernel
theorem dX9_readPlan_124 : decode cX9_readPlan 124 = .ok (.caload, 1) := by decide +kernel
theorem dX9_readPlan_125 : decode cX9_readPlan 125 = .ok (.bipush 48, 2) := by decide +kernel
theorem dX9_readPlan_127 : decode cX9_readPlan 127 = .ok (.isub, 1) := by decide +kernel
theorem dX9_readPlan_128 : decode cX9_readPlan 128 = .ok (.iastore, 1) := by decide +kernel
theorem dX9_readPlan_129 : decode cX9_readPlan 129 = .ok (.iinc 1 1, 3) := by decide +kernel
theorem dX9_readPlan_132 : decode cX9_readPlan 132 = .ok (.goto 103, 3) := by decide +kernel
theorem dX9_readPlan_135 : decode cX9_readPlan 135 = .ok (.aload_n 0, 1) := by decide +kernel
theorem dX9_readPlan_136 : decode cX9_readPlan 136 = .ok (.iload_n 1, 1) := by decide +kernel
theorem dX9_readPlan_137 : decode cX9_readPlan 137 = .ok (.invokevirtual 153, 3) := by decide +kernel
theorem dX9_readPlan_140 : decode cX9_readPlan 140 = .ok (.ifCond .eq 95, 3) := by decide +kernel
theorem dX9_readPlan_143 : decode cX9_readPlan 143 = .ok (.aload_n 0, 1) := by decide +kernel
theorem dX9_readPlan_144 : decode cX9_readPlan 144 = .ok (.getfield 44, 3) := by decide +kernel
theorem dX9_readPlan_147 : decode cX9_readPlan 147 = .ok (.iload_n 1, 1) := by decide +kernel
theorem dX9_readPlan_148 : decode cX9_readPlan 148 = .ok (.caload, 1) := by decide +kernel
theorem dX9_readPlan_149 : decode cX9_readPlan 149 = .ok (.bipush 48, 2) := by decide +kernel
theorem dX9_readPlan_151 : decode cX9_readPlan 151 = .ok (.if_icmp .ne 5, 3) := by decide +kernel
theorem dX9_readPlan_154 : decode cX9_readPlan 154 = .ok (.iload_n 1, 1) := by decide +kernel
theorem dX9_readPlan_155 : decode cX9_readPlan 155 = .ok (.ireturn, 1) := by decide +kernel
theorem dX9_readPlan_156 : decode cX9_readPlan 156 = .ok (.aload_n 0, 1) := by decide +kernel
theorem dX9_readPlan_157 : decode cX9_readPlan 157 = .ok (.getfield 51, 3) := by decide +kernel
theorem dX9_readPlan_160 : decode cX9_readPlan 160 = .ok (.aload_n 0, 1) := by decide +kernel
theorem dX9_readPlan_161 : decode cX9_readPlan 161 = .ok (.getfield 146, 3) := by decide +kernel
theorem dX9_readPlan_164 : decode cX9_readPlan 164 = .ok (.aload_n 0, 1) := by decide +kernel
theorem dX9_readPlan_165 : decode cX9_readPlan 165 = .ok (.getfield 44, 3) := by decide +kernel
theorem dX9_readPlan_168 : decode cX9_readPlan 168 = .ok (.iload_n 1, 1) := by decide +kernel
theorem dX9_readPlan_169 : decode cX9_readPlan 169 = .ok (.caload, 1) := by decide +kernel
theorem dX9_readPlan_170 : decode cX9_readPlan 170 = .ok (.bipush 48, 2) := by decide +kernel
theorem dX9_readPlan_172 : decode cX9_readPlan 172 = .ok (.isub, 1) := by decide +kernel
theorem dX9_readPlan_173 : decode cX9_readPlan 173 = .ok (.iastore, 1) := by decide +kernel
theorem dX9_readPlan_174 : decode cX9_readPlan 174 = .ok (.iinc 1 1, 3) := by decide +kernel
theorem dX9_readPlan_177 : decode cX9_readPlan 177 = .ok (.aload_n 0, 1) := by decide +kernel
theorem dX9_readPlan_178 : decode cX9_readPlan 178 = .ok (.iload_n 1, 1) := by decide +kernel
theorem dX9_readPlan_179 : decode cX9_readPlan 179 = .ok (.invokevirtual 153, 3) := by decide +kernel
theorem dX9_readPlan_182 : decode cX9_readPlan 182 = .ok (.ifCond .eq 53, 3) := by decide +kernel
theorem dX9_readPlan_185 : decode cX9_readPlan 185 = .ok (.aload_n 0, 1) := by decide +kernel
theorem dX9_readPlan_186 : decode cX9_readPlan 186 = .ok (.getfield 51, 3) := by decide +kernel
theorem dX9_readPlan_189 : decode cX9_readPlan 189 = .ok (.aload_n 0, 1) := by decide +kernel
theorem dX9_readPlan_190 : decode cX9_readPlan 190 = .ok (.getfield 146, 3) := by decide +kernel
theorem dX9_readPlan_193 : decode cX9_readPlan 193 = .ok (.bipush 10, 2) := by decide +kernel
theorem dX9_readPlan_195 : decode cX9_readPlan 195 = .ok (.aload_n 0, 1) := by decide +kernel
theorem dX9_readPlan_196 : decode cX9_readPlan 196 = .ok (.getfield 51, 3) := by decide +kernel
theorem dX9_readPlan_199 : decode cX9_readPlan 199 = .ok (.aload_n 0, 1) := by decide +kernel
theorem dX9_readPlan_200 : decode cX9_readPlan 200 = .ok (.getfield 146, 3) := by decide +kernel
theorem dX9_readPlan_203 : decode cX9_readPlan 203 = .ok (.iaload, 1) := by decide +kernel
theorem dX9_readPlan_204 : decode cX9_readPlan 204 = .ok (.imul, 1) := by decide +kernel
theorem dX9_readPlan_205 : decode cX9_readPlan 205 = .ok (.aload_n 0, 1) := by decide +kernel
theorem dX9_readPlan_206 : decode cX9_readPlan 206 = .ok (.getfield 44, 3) := by decide +kernel
theorem dX9_readPlan_209 : decode cX9_readPlan 209 = .ok (.iload_n 1, 1) := by decide +kernel
theorem dX9_readPlan_210 : decode cX9_readPlan 210 = .ok (.caload, 1) := by decide +kernel
theorem dX9_readPlan_211 : decode cX9_readPlan 211 = .ok (.iadd, 1) := by decide +kernel
theorem dX9_readPlan_212 : decode cX9_readPlan 212 = .ok (.bipush 48, 2) := by decide +kernel
theorem dX9_readPlan_214 : decode cX9_readPlan 214 = .ok (.isub, 1) := by decide +kernel
theorem dX9_readPlan_215 : decode cX9_readPlan 215 = .ok (.iastore, 1) := by decide +kernel
theorem dX9_readPlan_216 : decode cX9_readPlan 216 = .ok (.aload_n 0, 1) := by decide +kernel
theorem dX9_readPlan_217 : decode cX9_readPlan 217 = .ok (.getfield 51, 3) := by decide +kernel
theorem dX9_readPlan_220 : decode cX9_readPlan 220 = .ok (.aload_n 0, 1) := by decide +kernel
theorem dX9_readPlan_221 : decode cX9_readPlan 221 = .ok (.getfield 146, 3) := by decide +kernel
theorem dX9_readPlan_224 : decode cX9_readPlan 224 = .ok (.iaload, 1) := by decide +kernel
theorem dX9_readPlan_225 : decode cX9_readPlan 225 = .ok (.bipush 50, 2) := by decide +kernel
theorem dX9_readPlan_227 : decode cX9_readPlan 227 = .ok (.if_icmp .le 5, 3) := by decide +kernel
theorem dX9_readPlan_230 : decode cX9_readPlan 230 = .ok (.iload_n 1, 1) := by decide +kernel
theorem dX9_readPlan_231 : decode cX9_readPlan 231 = .ok (.ireturn, 1) := by decide +kernel
theorem dX9_readPlan_232 : decode cX9_readPlan 232 = .ok (.iinc 1 1, 3) := by decide +kernel
theorem dX9_readPlan_235 : decode cX9_readPlan 235 = .ok (.aload_n 0, 1) := by decide +kernel
theorem dX9_readPlan_236 : decode cX9_readPlan 236 = .ok (.dup, 1) := by decide +kernel
theorem dX9_readPlan_237 : decode cX9_readPlan 237 = .ok (.getfield 146, 3) := by decide +kernel
theorem dX9_readPlan_240 : decode cX9_readPlan 240 = .ok (.iconst 1, 1) := by decide +kernel
theorem dX9_readPlan_241 : decode cX9_readPlan 241 = .ok (.iadd, 1) := by decide +kernel
theorem dX9_readPlan_242 : decode cX9_readPlan 242 = .ok (.putfield 146, 3) := by decide +kernel
theorem dX9_readPlan_245 : decode cX9_readPlan 245 = .ok (.goto (-238), 3) := by decide +kernel
theorem dX9_readPlan_248 : decode cX9_readPlan 248 = .ok (.bipush (-5), 2) := by decide +kernel
theorem dX9_readPlan_250 : decode cX9_readPlan 250 = .ok (.ireturn, 1) := by decide +kernel
theorem dX9_carryOut_0 : decode cX9_carryOut 0 = .ok (.iload_n 2, 1) := by decide +kernel
theorem dX9_carryOut_1 : decode cX9_carryOut 1 = .ok (.invokestatic 142, 3) := by decide +kernel
theorem dX9_carryOut_4 : decode cX9_carryOut 4 = .ok (.istore 4, 2) := by decide +kernel
theorem dX9_carryOut_6 : decode cX9_carryOut 6 = .ok (.iload_n 2, 1) := by decide +kernel
theorem dX9_carryOut_7 : decode cX9_carryOut 7 = .ok (.bipush 114, 2) := by decide +kernel
theorem dX9_carryOut_9 : decode cX9_carryOut 9 = .ok (.if_icmp .ne 25, 3) := by decide +kernel
theorem dX9_carryOut_12 : decode cX9_carryOut 12 = .ok (.iconst 0, 1) := by decide +kernel
theorem dX9_carryOut_13 : decode cX9_carryOut 13 = .ok (.istore 5, 2) := by decide +kernel
theorem dX9_carryOut_15 : decode cX9_carryOut 15 = .ok (.iload 5, 2) := by decide +kernel
theorem dX9_carryOut_17 : decode cX9_carryOut 17 = .ok (.iload_n 3, 1) := by decide +kernel
theorem dX9_carryOut_18 : decode cX9_carryOut 18 = .ok (.if_icmp .ge 13, 3) := by decide +kernel
theorem dX9_carryOut_21 : decode cX9_carryOut 21 = .ok (.aload_n 0, 1) := by decide +kernel
theorem dX9_carryOut_22 : decode cX9_carryOut 22 = .ok (.invokevirtual 133, 3) := by decide +kernel
theorem dX9_carryOut_25 : decode cX9_carryOut 25 = .ok (.iinc 5 1, 3) := by decide +kernel
theorem dX9_carryOut_28 : decode cX9_carryOut 28 = .ok (.goto (-13), 3) := by decide +kernel
theorem dX9_carryOut_31 : decode cX9_carryOut 31 = .ok (.goto 134, 3) := by decide +kernel
theorem dX9_carryOut_34 : decode cX9_carryOut 34 = .ok (.iload 4, 2) := by decide +kernel
theorem dX9_carryOut_36 : decode cX9_carryOut 36 = .ok (.ifCond .lt 48, 3) := by decide +kernel
theorem dX9_carryOut_39 : decode cX9_carryOut 39 = .ok (.iconst 0, 1) := by decide +kernel
theorem dX9_carryOut_40 : decode cX9_carryOut 40 = .ok (.istore 5, 2) := by decide +kernel
theorem dX9_carryOut_42 : decode cX9_carryOut 42 = .ok (.iload 5, 2) := by decide +kernel
theorem dX9_carryOut_44 : decode cX9_carryOut 44 = .ok (.iload_n 3, 1) := by decide +kernel
theorem dX9_carryOut_45 : decode cX9_carryOut 45 = .ok (.if_icmp .ge 36, 3) := by decide +kernel
theorem dX9_carryOut_48 : decode cX9_carryOut 48 = .ok (.aload_n 0, 1) := by decide +kernel
theorem dX9_carryOut_49 : decode cX9_carryOut 49 = .ok (.aload_n 0, 1) := by decide +kernel
theorem dX9_carryOut_50 : decode cX9_carryOut 50 = .ok (.iload_n 1, 1) := by decide +kernel
theorem dX9_carryOut_51 : decode cX9_carryOut 51 = .ok (.invokevirtual 102, 3) := by decide +kernel
theorem dX9_carryOut_54 : decode cX9_carryOut 54 = .ok (.iload 4, 2) := by decide +kernel
theorem dX9_carryOut_56 : decode cX9_carryOut 56 = .ok (.invokevirtual 80, 3) := by decide +kernel
theorem dX9_carryOut_59 : decode cX9_carryOut 59 = .ok (.ifCond .lt 22, 3) := by decide +kernel
theorem dX9_carryOut_62 : decode cX9_carryOut 62 = .ok (.aload_n 0, 1) := by decide +kernel
theorem dX9_carryOut_63 : decode cX9_carryOut 63 = .ok (.iload_n 1, 1) := by decide +kernel
theorem dX9_carryOut_64 : decode cX9_carryOut 64 = .ok (.iconst 2, 1) := by decide +kernel
theorem dX9_carryOut_65 : decode cX9_carryOut 65 = .ok (.iload 4, 2) := by decide +kernel
theorem dX9_carryOut_67 : decode cX9_carryOut 67 = .ok (.invokevirtual 91, 3) := by decide +kernel
theorem dX9_carryOut_70 : decode cX9_carryOut 70 = .ok (.aload_n 0, 1) := by decide +kernel
theorem dX9_carryOut_71 : decode cX9_carryOut 71 = .ok (.iload_n 1, 1) := by decide +kernel
theorem dX9_carryOut_72 : decode cX9_carryOut 72 = .ok (.invokevirtual 127, 3) := by decide +kernel
theorem dX9_carryOut_75 : decode cX9_carryOut 75 = .ok (.iinc 5 1, 3) := by decide +kernel
theorem dX9_carryOut_78 : decode cX9_carryOut 78 = .ok (.goto (-36), 3) := by decide +kernel
theorem dX9_carryOut_81 : decode cX9_carryOut 81 = .ok (.goto 84, 3) := by decide +kernel
theorem dX9_carryOut_84 : decode cX9_carryOut 84 = .ok (.iload_n 2, 1) := by decide +kernel
theorem dX9_carryOut_85 : decode cX9_carryOut 85 = .ok (.bipush 103, 2) := by decide +kernel
theorem dX9_carryOut_87 : decode cX9_carryOut 87 = .ok (.if_icmp .ne 44, 3) := by decide +kernel
theorem dX9_carryOut_90 : decode cX9_carryOut 90 = .ok (.aload_n 0, 1) := by decide +kernel
theorem dX9_carryOut_91 : decode cX9_carryOut 91 = .ok (.iload_n 1, 1) := by decide +kernel
theorem dX9_carryOut_92 : decode cX9_carryOut 92 = .ok (.iload_n 3, 1) := by decide +kernel
theorem dX9_carryOut_93 : decode cX9_carryOut 93 = .ok (.aload_n 0, 1) := by decide +kernel
theorem dX9_carryOut_94 : decode cX9_carryOut 94 = .ok (.getfield 7, 3) := by decide +kernel
theorem dX9_carryOut_97 : decode cX9_carryOut 97 = .ok (.bipush 9, 2) := by decide +kernel
theorem dX9_carryOut_99 : decode cX9_carryOut 99 = .ok (.aload_n 0, 1) := by decide +kernel
theorem dX9_carryOut_100 : decode cX9_carryOut 100 = .ok (.iload_n 1, 1) := by decide +kernel
theorem dX9_carryOut_101 : decode cX9_carryOut 101 = .ok (.invokevirtual 102, 3) := by decide +kernel
theorem dX9_carryOut_104 : decode cX9_carryOut 104 = .ok (.iadd, 1) := by decide +kernel
theorem dX9_carryOut_105 : decode cX9_carryOut 105 = .ok (.iaload, 1) := by decide +kernel
theorem dX9_carryOut_106 : decode cX9_carryOut 106 = .ok (.aload_n 0, 1) := by decide +kernel
theorem dX9_carryOut_107 : decode cX9_carryOut 107 = .ok (.iload_n 1, 1) := by decide +kernel
theorem dX9_carryOut_108 : decode cX9_carryOut 108 = .ok (.iconst 4, 1) := by decide +kernel
theorem dX9_carryOut_109 : decode cX9_carryOut 109 = .ok (.invokevirtual 99, 3) := by decide +kernel
theorem dX9_carryOut_112 : decode cX9_carryOut 112 = .ok (.aload_n 0, 1) := by decide +kernel
theorem dX9_carryOut_113 : decode cX9_carryOut 113 = .ok (.iload_n 1, 1) := by decide +kernel
theorem dX9_carryOut_114 : decode cX9_carryOut 114 = .ok (.iconst 3, 1) := by decide +kernel
theorem dX9_carryOut_115 : decode cX9_carryOut 115 = .ok (.invokevirtual 99, 3) := by decide +kernel
theorem dX9_carryOut_118 : decode cX9_carryOut 118 = .ok (.isub, 1) := by decide +kernel
theorem dX9_carryOut_119 : decode cX9_carryOut 119 = .ok (.invokestatic 112, 3) := by decide +kernel
theorem dX9_carryOut_122 : decode cX9_carryOut 122 = .ok (.invokestatic 112, 3) := by decide +kernel
theorem dX9_carryOut_125 : decode cX9_carryOut 125 = .ok (.invokevirtual 109, 3) := by decide +kernel
theorem dX9_carryOut_128 : decode cX9_carryOut 128 = .ok (.goto 37, 3) := by decide +kernel
theorem dX9_carryOut_131 : decode cX9_carryOut 131 = .ok (.aload_n 0, 1) := by decide +kernel
theorem dX9_carryOut_132 : decode cX9_carryOut 132 = .ok (.iload_n 1, 1) := by decide +kernel
theorem dX9_carryOut_133 : decode cX9_carryOut 133 = .ok (.iload_n 3, 1) := by decide +kernel
theorem dX9_carryOut_134 : decode cX9_carryOut 134 = .ok (.aload_n 0, 1) := by decide +kernel
theorem dX9_carryOut_135 : decode cX9_carryOut 135 = .ok (.iload_n 1, 1) := by decide +kernel
theorem dX9_carryOut_136 : decode cX9_carryOut 136 = .ok (.iconst 3, 1) := by decide +kernel
theorem dX9_carryOut_137 : decode cX9_carryOut 137 = .ok (.invokevirtual 99, 3) := by decide +kernel
theorem dX9_carryOut_140 : decode cX9_carryOut 140 = .ok (.bipush 99, 2) := by decide +kernel
theorem dX9_carryOut_142 : decode cX9_carryOut 142 = .ok (.aload_n 0, 1) := by decide +kernel
theorem dX9_carryOut_143 : decode cX9_carryOut 143 = .ok (.getfield 7, 3) := by decide +kernel
theorem dX9_carryOut_146 : decode cX9_carryOut 146 = .ok (.bipush 9, 2) := by decide +kernel
theorem dX9_carryOut_148 : decode cX9_carryOut 148 = .ok (.aload_n 0, 1) := by decide +kernel
theorem dX9_carryOut_149 : decode cX9_carryOut 149 = .ok (.iload_n 1, 1) := by decide +kernel
theorem dX9_carryOut_150 : decode cX9_carryOut 150 = .ok (.invokevirtual 102, 3) := by decide +kernel
theorem dX9_carryOut_153 : decode cX9_carryOut 153 = .ok (.iadd, 1) := by decide +kernel
theorem dX9_carryOut_154 : decode cX9_carryOut 154 = .ok (.iaload, 1) := by decide +kernel
theorem dX9_carryOut_155 : decode cX9_carryOut 155 = .ok (.isub, 1) := by decide +kernel
theorem dX9_carryOut_156 : decode cX9_carryOut 156 = .ok (.invokestatic 112, 3) := by decide +kernel
theorem dX9_carryOut_159 : decode cX9_carryOut 159 = .ok (.invokestatic 112, 3) := by decide +kernel
theorem dX9_carryOut_162 : decode cX9_carryOut 162 = .ok (.invokevirtual 105, 3) := by decide +kernel
theorem dX9_carryOut_165 : decode cX9_carryOut 165 = .ok (.return_, 1) := by decide +kernel
theorem dX9_run_0 : decode cX9_run 0 = .ok (.aload_n 0, 1) := by decide +kernel
theorem dX9_run_1 : decode cX9_run 1 = .ok (.invokevirtual 156, 3) := by decide +kernel
theorem dX9_run_4 : decode cX9_run 4 = .ok (.istore_n 1, 1) := by decide +kernel
theorem dX9_run_5 : decode cX9_run 5 = .ok (.iload_n 1, 1) := by decide +kernel
theorem dX9_run_6 : decode cX9_run 6 = .ok (.ifCond .lt 8, 3) := by decide +kernel
theorem dX9_run_9 : decode cX9_run 9 = .ok (.bipush (-100), 2) := by decide +kernel
theorem dX9_run_11 : decode cX9_run 11 = .ok (.iload_n 1, 1) := by decide +kernel
theorem dX9_run_12 : decode cX9_run 12 = .ok (.isub, 1) := by decide +kernel
theorem dX9_run_13 : decode cX9_run 13 = .ok (.ireturn, 1) := by decide +kernel
theorem dX9_run_14 : decode cX9_run 14 = .ok (.aload_n 0, 1) := by decide +kernel
theorem dX9_run_15 : decode cX9_run 15 = .ok (.invokevirtual 66, 3) := by decide +kernel
theorem dX9_run_18 : decode cX9_run 18 = .ok (.iconst 0, 1) := by decide +kernel
theorem dX9_run_19 : decode cX9_run 19 = .ok (.istore_n 2, 1) := by decide +kernel
theorem dX9_run_20 : decode cX9_run 20 = .ok (.iconst 0, 1) := by decide +kernel
theorem dX9_run_21 : decode cX9_run 21 = .ok (.istore_n 3, 1) := by decide +kernel
theorem dX9_run_22 : decode cX9_run 22 = .ok (.iload_n 3, 1) := by decide +kernel
theorem dX9_run_23 : decode cX9_run 23 = .ok (.aload_n 0, 1) := by decide +kernel
theorem dX9_run_24 : decode cX9_run 24 = .ok (.getfield 146, 3) := by decide +kernel
theorem dX9_run_27 : decode cX9_run 27 = .ok (.if_icmp .ge 47, 3) := by decide +kernel
theorem dX9_run_30 : decode cX9_run 30 = .ok (.aload_n 0, 1) := by decide +kernel
theorem dX9_run_31 : decode cX9_run 31 = .ok (.getfield 48, 3) := by decide +kernel
theorem dX9_run_34 : decode cX9_run 34 = .ok (.iload_n 3, 1) := by decide +kernel
theorem dX9_run_35 : decode cX9_run 35 = .ok (.caload, 1) := by decide +kernel
theorem dX9_run_36 : decode cX9_run 36 = .ok (.bipush 35, 2) := by decide +kernel
theorem dX9_run_38 : decode cX9_run 38 = .ok (.if_icmp .ne 13, 3) := by decide +kernel
theorem dX9_run_41 : decode cX9_run 41 = .ok (.aload_n 0, 1) := by decide +kernel
theorem dX9_run_42 : decode cX9_run 42 = .ok (.getfield 51, 3) := by decide +kernel
theorem dX9_run_45 : decode cX9_run 45 = .ok (.iload_n 3, 1) := by decide +kernel
theorem dX9_run_46 : decode cX9_run 46 = .ok (.iaload, 1) := by decide +kernel
theorem dX9_run_47 : decode cX9_run 47 = .ok (.istore_n 2, 1) := by decide +kernel
theorem dX9_run_48 : decode cX9_run 48 = .ok (.goto 20, 3) := by decide +kernel
theorem dX9_run_51 : decode cX9_run 51 = .ok (.aload_n 0, 1) := by decide +kernel
theorem dX9_run_52 : decode cX9_run 52 = .ok (.iload_n 2, 1) := by decide +kernel
theorem dX9_run_53 : decode cX9_run 53 = .ok (.aload_n 0, 1) := by decide +kernel
theorem dX9_run_54 : decode cX9_run 54 = .ok (.getfield 48, 3) := by decide +kernel
theorem dX9_run_57 : decode cX9_run 57 = .ok (.iload_n 3, 1) := by decide +kernel
theorem dX9_run_58 : decode cX9_run 58 = .ok (.caload, 1) := by decide +kernel
theorem dX9_run_59 : decode cX9_run 59 = .ok (.aload_n 0, 1) := by decide +kernel
theorem dX9_run_60 : decode cX9_run 60 = .ok (.getfield 51, 3) := by decide +kernel
theorem dX9_run_63 : decode cX9_run 63 = .ok (.iload_n 3, 1) := by decide +kernel
theorem dX9_run_64 : decode cX9_run 64 = .ok (.iaload, 1) := by decide +kernel
theorem dX9_run_65 : decode cX9_run 65 = .ok (.invokevirtual 159, 3) := by decide +kernel
theorem dX9_run_68 : decode cX9_run 68 = .ok (.iinc 3 1, 3) := by decide +kernel
theorem dX9_run_71 : decode cX9_run 71 = .ok (.goto (-49), 3) := by decide +kernel
theorem dX9_run_74 : decode cX9_run 74 = .ok (.aload_n 0, 1) := by decide +kernel
theorem dX9_run_75 : decode cX9_run 75 = .ok (.aload_n 0, 1) := by decide +kernel
theorem dX9_run_76 : decode cX9_run 76 = .ok (.getfield 7, 3) := by decide +kernel
theorem dX9_run_79 : decode cX9_run 79 = .ok (.bipush 8, 2) := by decide +kernel
theorem dX9_run_81 : decode cX9_run 81 = .ok (.iaload, 1) := by decide +kernel
theorem dX9_run_82 : decode cX9_run 82 = .ok (.aload_n 0, 1) := by decide +kernel
theorem dX9_run_83 : decode cX9_run 83 = .ok (.getfield 13, 3) := by decide +kernel
theorem dX9_run_86 : decode cX9_run 86 = .ok (.bipush 8, 2) := by decide +kernel
theorem dX9_run_88 : decode cX9_run 88 = .ok (.iaload, 1) := by decide +kernel
theorem dX9_run_89 : decode cX9_run 89 = .ok (.isub, 1) := by decide +kernel
theorem dX9_run_90 : decode cX9_run 90 = .ok (.invokevirtual 69, 3) := by decide +kernel
theorem dX9_run_93 : decode cX9_run 93 = .ok (.ireturn, 1) := by decide +kernel
theorem dX9_chips_0 : decode cX9_chips 0 = .ok (.aload_n 0, 1) := by decide +kernel
theorem dX9_chips_1 : decode cX9_chips 1 = .ok (.iload_n 1, 1) := by decide +kernel
theorem dX9_chips_2 : decode cX9_chips 2 = .ok (.iload_n 2, 1) := by decide +kernel
theorem dX9_chips_3 : decode cX9_chips 3 = .ok (.invokevirtual 73, 3) := by decide +kernel
theorem dX9_chips_6 : decode cX9_chips 6 = .ok (.ifCond .eq 20, 3) := by decide +kernel
theorem dX9_chips_9 : decode cX9_chips 9 = .ok (.aload_n 0, 1) := by decide +kernel
theorem dX9_chips_10 : decode cX9_chips 10 = .ok (.getfield 7, 3) := by decide +kernel
theorem dX9_chips_13 : decode cX9_chips 13 = .ok (.bipush 9, 2) := by decide +kernel
theorem dX9_chips_15 : decode cX9_chips 15 = .ok (.bipush 16, 2) := by decide +kernel
theorem dX9_chips_17 : decode cX9_chips 17 = .ok (.iload_n 1, 1) := by decide +kernel
theorem dX9_chips_18 : decode cX9_chips 18 = .ok (.imul, 1) := by decide +kernel
theorem dX9_chips_19 : decode cX9_chips 19 = .ok (.iadd, 1) := by decide +kernel
theorem dX9_chips_20 : decode cX9_chips 20 = .ok (.iload_n 2, 1) := by decide +kernel
theorem dX9_chips_21 : decode cX9_chips 21 = .ok (.iadd, 1) := by decide +kernel
theorem dX9_chips_22 : decode cX9_chips 22 = .ok (.iaload, 1) := by decide +kernel
theorem dX9_chips_23 : decode cX9_chips 23 = .ok (.goto 4, 3) := by decide +kernel
theorem dX9_chips_26 : decode cX9_chips 26 = .ok (.iconst (-1), 1) := by decide +kernel
theorem dX9_chips_27 : decode cX9_chips 27 = .ok (.ireturn, 1) := by decide +kernel
theorem dX9_walker_0 : decode cX9_walker 0 = .ok (.aload_n 0, 1) := by decide +kernel
theorem dX9_walker_1 : decode cX9_walker 1 = .ok (.iload_n 1, 1) := by decide +kernel
theorem dX9_walker_2 : decode cX9_walker 2 = .ok (.invokevirtual 95, 3) := by decide +kernel
theorem dX9_walker_5 : decode cX9_walker 5 = .ok (.ifCond .eq 5, 3) := by decide +kernel
theorem dX9_walker_8 : decode cX9_walker 8 = .ok (.iconst (-1), 1) := by decide +kernel
theorem dX9_walker_9 : decode cX9_walker 9 = .ok (.ireturn, 1) := by decide +kernel
theorem dX9_walker_10 : decode cX9_walker 10 = .ok (.iload_n 2, 1) := by decide +kernel
theorem dX9_walker_11 : decode cX9_walker 11 = .ok (.iconst 0, 1) := by decide +kernel
theorem dX9_walker_12 : decode cX9_walker 12 = .ok (.bipush 8, 2) := by decide +kernel
theorem dX9_walker_14 : decode cX9_walker 14 = .ok (.invokestatic 58, 3) := by decide +kernel
theorem dX9_walker_17 : decode cX9_walker 17 = .ok (.ifCond .eq 12, 3) := by decide +kernel
theorem dX9_walker_20 : decode cX9_walker 20 = .ok (.aload_n 0, 1) := by decide +kernel
theorem dX9_walker_21 : decode cX9_walker 21 = .ok (.iload_n 1, 1) := by decide +kernel
theorem dX9_walker_22 : decode cX9_walker 22 = .ok (.iload_n 2, 1) := by decide +kernel
theorem dX9_walker_23 : decode cX9_walker 23 = .ok (.invokevirtual 99, 3) := by decide +kernel
theorem dX9_walker_26 : decode cX9_walker 26 = .ok (.goto 5, 3) := by decide +kernel
theorem dX9_walker_29 : decode cX9_walker 29 = .ok (.bipush (-2), 2) := by decide +kernel
theorem dX9_walker_31 : decode cX9_walker 31 = .ok (.ireturn, 1) := by decide +kernel
theorem dX9_heap_0 : decode cX9_heap 0 = .ok (.iload_n 1, 1) := by decide +kernel
theorem dX9_heap_1 : decode cX9_heap 1 = .ok (.ifCond .lt 12, 3) := by decide +kernel
theorem dX9_heap_4 : decode cX9_heap 4 = .ok (.iload_n 2, 1) := by decide +kernel
theorem dX9_heap_5 : decode cX9_heap 5 = .ok (.iconst 0, 1) := by decide +kernel
theorem dX9_heap_6 : decode cX9_heap 6 = .ok (.iconst 4, 1) := by decide +kernel
theorem dX9_heap_7 : decode cX9_heap 7 = .ok (.invokestatic 58, 3) := by decide +kernel
theorem dX9_heap_10 : decode cX9_heap 10 = .ok (.ifCond .ne 6, 3) := by decide +kernel
theorem dX9_heap_13 : decode cX9_heap 13 = .ok (.bipush (-2), 2) := by decide +kernel
theorem dX9_heap_15 : decode cX9_heap 15 = .ok (.ireturn, 1) := by decide +kernel
theorem dX9_heap_16 : decode cX9_heap 16 = .ok (.aload_n 0, 1) := by decide +kernel
theorem dX9_heap_17 : decode cX9_heap 17 = .ok (.invokevirtual 115, 3) := by decide +kernel
theorem dX9_heap_20 : decode cX9_heap 20 = .ok (.iconst 0, 1) := by decide +kernel
theorem dX9_heap_21 : decode cX9_heap 21 = .ok (.istore_n 3, 1) := by decide +kernel
theorem dX9_heap_22 : decode cX9_heap 22 = .ok (.iload_n 3, 1) := by decide +kernel
theorem dX9_heap_23 : decode cX9_heap 23 = .ok (.aload_n 0, 1) := by decide +kernel
theorem dX9_heap_24 : decode cX9_heap 24 = .ok (.getfield 77, 3) := by decide +kernel
theorem dX9_heap_27 : decode cX9_heap 27 = .ok (.if_icmp .ge 86, 3) := by decide +kernel
theorem dX9_heap_30 : decode cX9_heap 30 = .ok (.aload_n 0, 1) := by decide +kernel
theorem dX9_heap_31 : decode cX9_heap 31 = .ok (.iload_n 3, 1) := by decide +kernel
theorem dX9_heap_32 : decode cX9_heap 32 = .ok (.invokevirtual 118, 3) := by decide +kernel
theorem dX9_heap_35 : decode cX9_heap 35 = .ok (.iload_n 1, 1) := by decide +kernel
theorem dX9_heap_36 : decode cX9_heap 36 = .ok (.if_icmp .ne 71, 3) := by decide +kernel
theorem dX9_heap_39 : decode cX9_heap 39 = .ok (.iload_n 2, 1) := by decide +kernel
theorem dX9_heap_40 : decode cX9_heap 40 = .ok (.ifCond .ne 12, 3) := by decide +kernel
theorem dX9_heap_43 : decode cX9_heap 43 = .ok (.aload_n 0, 1) := by decide +kernel
theorem dX9_heap_44 : decode cX9_heap 44 = .ok (.getfield 29, 3) := by decide +kernel
theorem dX9_heap_47 : decode cX9_heap 47 = .ok (.iload_n 3, 1) := by decide +kernel
theorem dX9_heap_48 : decode cX9_heap 48 = .ok (.iaload, 1) := by decide +kernel
theorem dX9_heap_49 : decode cX9_heap 49 = .ok (.goto 57, 3) := by decide +kernel
theorem dX9_heap_52 : decode cX9_heap 52 = .ok (.iload_n 2, 1) := by decide +kernel
theorem dX9_heap_53 : decode cX9_heap 53 = .ok (.iconst 1, 1) := by decide +kernel
theorem dX9_heap_54 : decode cX9_heap 54 = .ok (.if_icmp .ne 12, 3) := by decide +kernel
theorem dX9_heap_57 : decode cX9_heap 57 = .ok (.aload_n 0, 1) := by decide +kernel
theorem dX9_heap_58 : decode cX9_heap 58 = .ok (.getfield 32, 3) := by decide +kernel
theorem dX9_heap_61 : decode cX9_heap 61 = .ok (.iload_n 3, 1) := by decide +kernel
theorem dX9_heap_62 : decode cX9_heap 62 = .ok (.iaload, 1) := by decide +kernel
theorem dX9_heap_63 : decode cX9_heap 63 = .ok (.goto 43, 3) := by decide +kernel
theorem dX9_heap_66 : decode cX9_heap 66 = .ok (.iload_n 2, 1) := by decide +kernel
theorem dX9_heap_67 : decode cX9_heap 67 = .ok (.iconst 2, 1) := by decide +kernel
theorem dX9_heap_68 : decode cX9_heap 68 = .ok (.if_icmp .ne 15, 3) := by decide +kernel
theorem dX9_heap_71 : decode cX9_heap 71 = .ok (.aload_n 0, 1) := by decide +kernel
theorem dX9_heap_72 : decode cX9_heap 72 = .ok (.getfield 35, 3) := by decide +kernel
theorem dX9_heap_75 : decode cX9_heap 75 = .ok (.iload_n 3, 1) := by decide +kernel
theorem dX9_heap_76 : decode cX9_heap 76 = .ok (.iaload, 1) := by decide +kernel
theorem dX9_heap_77 : decode cX9_heap 77 = .ok (.bipush 16, 2) := by decide +kernel
theorem dX9_heap_79 : decode cX9_heap 79 = .ok (.idiv, 1) := by decide +kernel
theorem dX9_heap_80 : decode cX9_heap 80 = .ok (.goto 26, 3) := by decide +kernel
theorem dX9_heap_83 : decode cX9_heap 83 = .ok (.iload_n 2, 1) := by decide +kernel
theorem dX9_heap_84 : decode cX9_heap 84 = .ok (.iconst 3, 1) := by decide +kernel
theorem dX9_heap_85 : decode cX9_heap 85 = .ok (.if_icmp .ne 15, 3) := by decide +kernel
theorem dX9_heap_88 : decode cX9_heap 88 = .ok (.aload_n 0, 1) := by decide +kernel
theorem dX9_heap_89 : decode cX9_heap 89 = .ok (.getfield 35, 3) := by decide +kernel
theorem dX9_heap_92 : decode cX9_heap 92 = .ok (.iload_n 3, 1) := by decide +kernel
theorem dX9_heap_93 : decode cX9_heap 93 = .ok (.iaload, 1) := by decide +kernel
theorem dX9_heap_94 : decode cX9_heap 94 = .ok (.bipush 16, 2) := by decide +kernel
theorem dX9_heap_96 : decode cX9_heap 96 = .ok (.irem, 1) := by decide +kernel
theorem dX9_heap_97 : decode cX9_heap 97 = .ok (.goto 9, 3) := by decide +kernel
theorem dX9_heap_100 : decode cX9_heap 100 = .ok (.aload_n 0, 1) := by decide +kernel
theorem dX9_heap_101 : decode cX9_heap 101 = .ok (.getfield 38, 3) := by decide +kernel
theorem dX9_heap_104 : decode cX9_heap 104 = .ok (.iload_n 3, 1) := by decide +kernel
theorem dX9_heap_105 : decode cX9_heap 105 = .ok (.iaload, 1) := by decide +kernel
theorem dX9_heap_106 : decode cX9_heap 106 = .ok (.ireturn, 1) := by decide +kernel
theorem dX9_heap_107 : decode cX9_heap 107 = .ok (.iinc 3 1, 3) := by decide +kernel
theorem dX9_heap_110 : decode cX9_heap 110 = .ok (.goto (-88), 3) := by decide +kernel
theorem dX9_heap_113 : decode cX9_heap 113 = .ok (.bipush (-5), 2) := by decide +kernel
theorem dX9_heap_115 : decode cX9_heap 115 = .ok (.ireturn, 1) := by decide +kernel
theorem dX9_heapOf_0 : decode cX9_heapOf 0 = .ok (.aload_n 0, 1) := by decide +kernel
theorem dX9_heapOf_1 : decode cX9_heapOf 1 = .ok (.iload_n 1, 1) := by decide +kernel
theorem dX9_heapOf_2 : decode cX9_heapOf 2 = .ok (.iload_n 2, 1) := by decide +kernel
theorem dX9_heapOf_3 : decode cX9_heapOf 3 = .ok (.invokevirtual 73, 3) := by decide +kernel
theorem dX9_heapOf_6 : decode cX9_heapOf 6 = .ok (.ifCond .ne 5, 3) := by decide +kernel
theorem dX9_heapOf_9 : decode cX9_heapOf 9 = .ok (.iconst (-1), 1) := by decide +kernel
theorem dX9_heapOf_10 : decode cX9_heapOf 10 = .ok (.ireturn, 1) := by decide +kernel
theorem dX9_heapOf_11 : decode cX9_heapOf 11 = .ok (.aload_n 0, 1) := by decide +kernel
theorem dX9_heapOf_12 : decode cX9_heapOf 12 = .ok (.invokevirtual 115, 3) := by decide +kernel
theorem dX9_heapOf_15 : decode cX9_heapOf 15 = .ok (.aload_n 0, 1) := by decide +kernel
theorem dX9_heapOf_16 : decode cX9_heapOf 16 = .ok (.getfield 26, 3) := by decide +kernel
theorem dX9_heapOf_19 : decode cX9_heapOf 19 = .ok (.bipush 16, 2) := by decide +kernel
theorem dX9_heapOf_21 : decode cX9_heapOf 21 = .ok (.iload_n 1, 1) := by decide +kernel
theorem dX9_heapOf_22 : decode cX9_heapOf 22 = .ok (.imul, 1) := by decide +kernel
theorem dX9_heapOf_23 : decode cX9_heapOf 23 = .ok (.iload_n 2, 1) := by decide +kernel
theorem dX9_heapOf_24 : decode cX9_heapOf 24 = .ok (.iadd, 1) := by decide +kernel
theorem dX9_heapOf_25 : decode cX9_heapOf 25 = .ok (.iaload, 1) := by decide +kernel
theorem dX9_heapOf_26 : decode cX9_heapOf 26 = .ok (.istore_n 3, 1) := by decide +kernel
theorem dX9_heapOf_27 : decode cX9_heapOf 27 = .ok (.iload_n 3, 1) := by decide +kernel
theorem dX9_heapOf_28 : decode cX9_heapOf 28 = .ok (.ifCond .ge 8, 3) := by decide +kernel
theorem dX9_heapOf_31 : decode cX9_heapOf 31 = .ok (.bipush (-5), 2) := by decide +kernel
theorem dX9_heapOf_33 : decode cX9_heapOf 33 = .ok (.goto 8, 3) := by decide +kernel
theorem dX9_heapOf_36 : decode cX9_heapOf 36 = .ok (.aload_n 0, 1) := by decide +kernel
theorem dX9_heapOf_37 : decode cX9_heapOf 37 = .ok (.iload_n 3, 1) := by decide +kernel
theorem dX9_heapOf_38 : decode cX9_heapOf 38 = .ok (.invokevirtual 118, 3) := by decide +kernel
theorem dX9_heapOf_41 : decode cX9_heapOf 41 = .ok (.ireturn, 1) := by decide +kernel
theorem dX9_turn_0 : decode cX9_turn 0 = .ok (.iload_n 1, 1) := by decide +kernel
theorem dX9_turn_1 : decode cX9_turn 1 = .ok (.ifCond .ge 6, 3) := by decide +kernel
theorem dX9_turn_4 : decode cX9_turn 4 = .ok (.bipush (-2), 2) := by decide +kernel
theorem dX9_turn_6 : decode cX9_turn 6 = .ok (.ireturn, 1) := by decide +kernel
theorem dX9_turn_7 : decode cX9_turn 7 = .ok (.iload_n 1, 1) := by decide +kernel
theorem dX9_turn_8 : decode cX9_turn 8 = .ok (.aload_n 0, 1) := by decide +kernel
theorem dX9_turn_9 : decode cX9_turn 9 = .ok (.getfield 7, 3) := by decide +kernel
theorem dX9_turn_12 : decode cX9_turn 12 = .ok (.iconst 3, 1) := by decide +kernel
theorem dX9_turn_13 : decode cX9_turn 13 = .ok (.iaload, 1) := by decide +kernel
theorem dX9_turn_14 : decode cX9_turn 14 = .ok (.if_icmp .ge 16, 3) := by decide +kernel
theorem dX9_turn_17 : decode cX9_turn 17 = .ok (.aload_n 0, 1) := by decide +kernel
theorem dX9_turn_18 : decode cX9_turn 18 = .ok (.getfield 7, 3) := by decide +kernel
theorem dX9_turn_21 : decode cX9_turn 21 = .ok (.sipush 337, 3) := by decide +kernel
theorem dX9_turn_24 : decode cX9_turn 24 = .ok (.iload_n 1, 1) := by decide +kernel
theorem dX9_turn_25 : decode cX9_turn 25 = .ok (.iadd, 1) := by decide +kernel
theorem dX9_turn_26 : decode cX9_turn 26 = .ok (.iaload, 1) := by decide +kernel
theorem dX9_turn_27 : decode cX9_turn 27 = .ok (.goto 5, 3) := by decide +kernel
theorem dX9_turn_30 : decode cX9_turn 30 = .ok (.bipush (-5), 2) := by decide +kernel
theorem dX9_turn_32 : decode cX9_turn 32 = .ok (.ireturn, 1) := by decide +kernel
theorem dX9_pocketed_0 : decode cX9_pocketed 0 = .ok (.iconst 0, 1) := by decide +kernel
theorem dX9_pocketed_1 : decode cX9_pocketed 1 = .ok (.istore_n 1, 1) := by decide +kernel
theorem dX9_pocketed_2 : decode cX9_pocketed 2 = .ok (.iconst 0, 1) := by decide +kernel
theorem dX9_pocketed_3 : decode cX9_pocketed 3 = .ok (.istore_n 2, 1) := by decide +kernel
theorem dX9_pocketed_4 : decode cX9_pocketed 4 = .ok (.iload_n 2, 1) := by decide +kernel
theorem dX9_pocketed_5 : decode cX9_pocketed 5 = .ok (.aload_n 0, 1) := by decide +kernel
theorem dX9_pocketed_6 : decode cX9_pocketed 6 = .ok (.getfield 7, 3) := by decide +kernel
theorem dX9_pocketed_9 : decode cX9_pocketed 9 = .ok (.iconst 2, 1) := by decide +kernel
theorem dX9_pocketed_10 : decode cX9_pocketed 10 = .ok (.iaload, 1) := by decide +kernel
theorem dX9_pocketed_11 : decode cX9_pocketed 11 = .ok (.if_icmp .ge 18, 3) := by decide +kernel
theorem dX9_pocketed_14 : decode cX9_pocketed 14 = .ok (.iload_n 1, 1) := by decide +kernel
theorem dX9_pocketed_15 : decode cX9_pocketed 15 = .ok (.aload_n 0, 1) := by decide +kernel
theorem dX9_pocketed_16 : decode cX9_pocketed 16 = .ok (.iload_n 2, 1) := by decide +kernel
theorem dX9_pocketed_17 : decode cX9_pocketed 17 = .ok (.iconst 3, 1) := by decide +kernel
theorem dX9_pocketed_18 : decode cX9_pocketed 18 = .ok (.invokevirtual 99, 3) := by decide +kernel
theorem dX9_pocketed_21 : decode cX9_pocketed 21 = .ok (.iadd, 1) := by decide +kernel
theorem dX9_pocketed_22 : decode cX9_pocketed 22 = .ok (.istore_n 1, 1) := by decide +kernel
theorem dX9_pocketed_23 : decode cX9_pocketed 23 = .ok (.iinc 2 1, 3) := by decide +kernel
theorem dX9_pocketed_26 : decode cX9_pocketed 26 = .ok (.goto (-22), 3) := by decide +kernel
theorem dX9_pocketed_29 : decode cX9_pocketed 29 = .ok (.iload_n 1, 1) := by decide +kernel
theorem dX9_pocketed_30 : decode cX9_pocketed 30 = .ok (.ireturn, 1) := by decide +kernel
theorem dX9_count_0 : decode cX9_count 0 = .ok (.iload_n 1, 1) := by decide +kernel
theorem dX9_count_1 : decode cX9_count 1 = .ok (.tableswitch 155 0 12 #[67, 74, 81, 88, 93, 98, 107, 115, 123, 131, 138, 145, 150], 67) := by decide +kernel
theorem dX9_count_68 : decode cX9_count 68 = .ok (.aload_n 0, 1) := by decide +kernel
theorem dX9_count_69 : decode cX9_count 69 = .ok (.getfield 7, 3) := by decide +kernel
theorem dX9_count_72 : decode cX9_count 72 = .ok (.iconst 0, 1) := by decide +kernel
theorem dX9_count_73 : decode cX9_count 73 = .ok (.iaload, 1) := by decide +kernel
theorem dX9_count_74 : decode cX9_count 74 = .ok (.ireturn, 1) := by decide +kernel
theorem dX9_count_75 : decode cX9_count 75 = .ok (.aload_n 0, 1) := by decide +kernel
theorem dX9_count_76 : decode cX9_count 76 = .ok (.getfield 7, 3) := by decide +kernel
theorem dX9_count_79 : decode cX9_count 79 = .ok (.iconst 1, 1) := by decide +kernel
theorem dX9_count_80 : decode cX9_count 80 = .ok (.iaload, 1) := by decide +kernel
theorem dX9_count_81 : decode cX9_count 81 = .ok (.ireturn, 1) := by decide +kernel
theorem dX9_count_82 : decode cX9_count 82 = .ok (.aload_n 0, 1) := by decide +kernel
theorem dX9_count_83 : decode cX9_count 83 = .ok (.getfield 7, 3) := by decide +kernel
theorem dX9_count_86 : decode cX9_count 86 = .ok (.iconst 2, 1) := by decide +kernel
theorem dX9_count_87 : decode cX9_count 87 = .ok (.iaload, 1) := by decide +kernel
theorem dX9_count_88 : decode cX9_count 88 = .ok (.ireturn, 1) := by decide +kernel
theorem dX9_count_89 : decode cX9_count 89 = .ok (.aload_n 0, 1) := by decide +kernel
theorem dX9_count_90 : decode cX9_count 90 = .ok (.invokevirtual 62, 3) := by decide +kernel
theorem dX9_count_93 : decode cX9_count 93 = .ok (.ireturn, 1) := by decide +kernel
theorem dX9_count_94 : decode cX9_count 94 = .ok (.aload_n 0, 1) := by decide +kernel
theorem dX9_count_95 : decode cX9_count 95 = .ok (.invokevirtual 163, 3) := by decide +kernel
theorem dX9_count_98 : decode cX9_count 98 = .ok (.ireturn, 1) := by decide +kernel
theorem dX9_count_99 : decode cX9_count 99 = .ok (.aload_n 0, 1) := by decide +kernel
theorem dX9_count_100 : decode cX9_count 100 = .ok (.invokevirtual 115, 3) := by decide +kernel
theorem dX9_count_103 : decode cX9_count 103 = .ok (.aload_n 0, 1) := by decide +kernel
theorem dX9_count_104 : decode cX9_count 104 = .ok (.getfield 77, 3) := by decide +kernel
theorem dX9_count_107 : decode cX9_count 107 = .ok (.ireturn, 1) := by decide +kernel
theorem dX9_count_108 : decode cX9_count 108 = .ok (.aload_n 0, 1) := by decide +kernel
theorem dX9_count_109 : decode cX9_count 109 = .ok (.getfield 7, 3) := by decide +kernel
theorem dX9_count_112 : decode cX9_count 112 = .ok (.bipush 6, 2) := by decide +kernel
theorem dX9_count_114 : decode cX9_count 114 = .ok (.iaload, 1) := by decide +kernel
theorem dX9_count_115 : decode cX9_count 115 = .ok (.ireturn, 1) := by decide +kernel
theorem dX9_count_116 : decode cX9_count 116 = .ok (.aload_n 0, 1) := by decide +kernel
theorem dX9_count_117 : decode cX9_count 117 = .ok (.getfield 7, 3) := by decide +kernel
theorem dX9_count_120 : decode cX9_count 120 = .ok (.bipush 7, 2) := by decide +kernel
theorem dX9_count_122 : decode cX9_count 122 = .ok (.iaload, 1) := by decide +kernel
theorem dX9_count_123 : decode cX9_count 123 = .ok (.ireturn, 1) := by decide +kernel
theorem dX9_count_124 : decode cX9_count 124 = .ok (.aload_n 0, 1) := by decide +kernel
theorem dX9_count_125 : decode cX9_count 125 = .ok (.getfield 7, 3) := by decide +kernel
theorem dX9_count_128 : decode cX9_count 128 = .ok (.bipush 8, 2) := by decide +kernel
theorem dX9_count_130 : decode cX9_count 130 = .ok (.iaload, 1) := by decide +kernel
theorem dX9_count_131 : decode cX9_count 131 = .ok (.ireturn, 1) := by decide +kernel
theorem dX9_count_132 : decode cX9_count 132 = .ok (.aload_n 0, 1) := by decide +kernel
theorem dX9_count_133 : decode cX9_count 133 = .ok (.getfield 7, 3) := by decide +kernel
theorem dX9_count_136 : decode cX9_count 136 = .ok (.iconst 4, 1) := by decide +kernel
theorem dX9_count_137 : decode cX9_count 137 = .ok (.iaload, 1) := by decide +kernel
theorem dX9_count_138 : decode cX9_count 138 = .ok (.ireturn, 1) := by decide +kernel
theorem dX9_count_139 : decode cX9_count 139 = .ok (.aload_n 0, 1) := by decide +kernel
theorem dX9_count_140 : decode cX9_count 140 = .ok (.getfield 7, 3) := by decide +kernel
theorem dX9_count_143 : decode cX9_count 143 = .ok (.iconst 3, 1) := by decide +kernel
theorem dX9_count_144 : decode cX9_count 144 = .ok (.iaload, 1) := by decide +kernel
theorem dX9_count_145 : decode cX9_count 145 = .ok (.ireturn, 1) := by decide +kernel
theorem dX9_count_146 : decode cX9_count 146 = .ok (.aload_n 0, 1) := by decide +kernel
theorem dX9_count_147 : decode cX9_count 147 = .ok (.getfield 54, 3) := by decide +kernel
theorem dX9_count_150 : decode cX9_count 150 = .ok (.ireturn, 1) := by decide +kernel
theorem dX9_count_151 : decode cX9_count 151 = .ok (.aload_n 0, 1) := by decide +kernel
theorem dX9_count_152 : decode cX9_count 152 = .ok (.getfield 139, 3) := by decide +kernel
theorem dX9_count_155 : decode cX9_count 155 = .ok (.ireturn, 1) := by decide +kernel
theorem dX9_count_156 : decode cX9_count 156 = .ok (.bipush (-2), 2) := by decide +kernel
theorem dX9_count_158 : decode cX9_count 158 = .ok (.ireturn, 1) := by decide +kernel
theorem dJ9_max_7cf53_0 : decode cJ9_max_7cf53 0 = .ok (.iload_n 0, 1) := by decide +kernel
theorem dJ9_max_7cf53_1 : decode cJ9_max_7cf53 1 = .ok (.iload_n 1, 1) := by decide +kernel
theorem dJ9_max_7cf53_2 : decode cJ9_max_7cf53 2 = .ok (.if_icmp .lt 7, 3) := by decide +kernel
theorem dJ9_max_7cf53_5 : decode cJ9_max_7cf53 5 = .ok (.iload_n 0, 1) := by decide +kernel
theorem dJ9_max_7cf53_6 : decode cJ9_max_7cf53 6 = .ok (.goto 4, 3) := by decide +kernel
theorem dJ9_max_7cf53_9 : decode cJ9_max_7cf53 9 = .ok (.iload_n 1, 1) := by decide +kernel
theorem dJ9_max_7cf53_10 : decode cJ9_max_7cf53 10 = .ok (.ireturn, 1) := by decide +kernel
theorem dJ9_min_7cf53_0 : decode cJ9_min_7cf53 0 = .ok (.iload_n 0, 1) := by decide +kernel
theorem dJ9_min_7cf53_1 : decode cJ9_min_7cf53 1 = .ok (.iload_n 1, 1) := by decide +kernel
theorem dJ9_min_7cf53_2 : decode cJ9_min_7cf53 2 = .ok (.if_icmp .gt 7, 3) := by decide +kernel
theorem dJ9_min_7cf53_5 : decode cJ9_min_7cf53 5 = .ok (.iload_n 0, 1) := by decide +kernel
theorem dJ9_min_7cf53_6 : decode cJ9_min_7cf53 6 = .ok (.goto 4, 3) := by decide +kernel
theorem dJ9_min_7cf53_9 : decode cJ9_min_7cf53 9 = .ok (.iload_n 1, 1) := by decide +kernel
theorem dJ9_min_7cf53_10 : decode cJ9_min_7cf53 10 = .ok (.ireturn, 1) := by decide +kernel
theorem dJ7_fill_53178_0 : decode cJ7_fill_53178 0 = .ok (.iconst 0, 1) := by decide +kernel
theorem dJ7_fill_53178_1 : decode cJ7_fill_53178 1 = .ok (.istore_n 2, 1) := by decide +kernel
theorem dJ7_fill_53178_2 : decode cJ7_fill_53178 2 = .ok (.aload_n 0, 1) := by decide +kernel
theorem dJ7_fill_53178_3 : decode cJ7_fill_53178 3 = .ok (.arraylength, 1) := by decide +kernel
theorem dJ7_fill_53178_4 : decode cJ7_fill_53178 4 = .ok (.istore_n 3, 1) := by decide +kernel
theorem dJ7_fill_53178_5 : decode cJ7_fill_53178 5 = .ok (.iload_n 2, 1) := by decide +kernel
theorem dJ7_fill_53178_6 : decode cJ7_fill_53178 6 = .ok (.iload_n 3, 1) := by decide +kernel
theorem dJ7_fill_53178_7 : decode cJ7_fill_53178 7 = .ok (.if_icmp .ge 13, 3) := by decide +kernel
theorem dJ7_fill_53178_10 : decode cJ7_fill_53178 10 = .ok (.aload_n 0, 1) := by decide +kernel
theorem dJ7_fill_53178_11 : decode cJ7_fill_53178 11 = .ok (.iload_n 2, 1) := by decide +kernel
theorem dJ7_fill_53178_12 : decode cJ7_fill_53178 12 = .ok (.iload_n 1, 1) := by decide +kernel
theorem dJ7_fill_53178_13 : decode cJ7_fill_53178 13 = .ok (.iastore, 1) := by decide +kernel
theorem dJ7_fill_53178_14 : decode cJ7_fill_53178 14 = .ok (.iinc 2 1, 3) := by decide +kernel
theorem dJ7_fill_53178_17 : decode cJ7_fill_53178 17 = .ok (.goto (-12), 3) := by decide +kernel
theorem dJ7_fill_53178_20 : decode cJ7_fill_53178 20 = .ok (.return_, 1) := by decide +kernel
theorem dL_law_0 : decode cL_law 0 = .ok (.new 7, 3) := by decide +kernel
theorem dL_law_3 : decode cL_law 3 = .ok (.dup, 1) := by decide +kernel
theorem dL_law_4 : decode cL_law 4 = .ok (.invokespecial 9, 3) := by decide +kernel
theorem dL_law_7 : decode cL_law 7 = .ok (.astore_n 1, 1) := by decide +kernel
theorem dL_law_8 : decode cL_law 8 = .ok (.new 10, 3) := by decide +kernel
theorem dL_law_11 : decode cL_law 11 = .ok (.dup, 1) := by decide +kernel
theorem dL_law_12 : decode cL_law 12 = .ok (.invokespecial 12, 3) := by decide +kernel
theorem dL_law_15 : decode cL_law 15 = .ok (.astore_n 2, 1) := by decide +kernel
theorem dL_law_16 : decode cL_law 16 = .ok (.iconst 0, 1) := by decide +kernel
theorem dL_law_17 : decode cL_law 17 = .ok (.istore_n 3, 1) := by decide +kernel
theorem dL_law_18 : decode cL_law 18 = .ok (.iload_n 3, 1) := by decide +kernel
theorem dL_law_19 : decode cL_law 19 = .ok (.aload_n 0, 1) := by decide +kernel
theorem dL_law_20 : decode cL_law 20 = .ok (.arraylength, 1) := by decide +kernel
theorem dL_law_21 : decode cL_law 21 = .ok (.bipush 6, 2) := by decide +kernel
theorem dL_law_23 : decode cL_law 23 = .ok (.isub, 1) := by decide +kernel
theorem dL_law_24 : decode cL_law 24 = .ok (.if_icmp .gt 763, 3) := by decide +kernel
theorem dL_law_27 : decode cL_law 27 = .ok (.aload_n 0, 1) := by decide +kernel
theorem dL_law_28 : decode cL_law 28 = .ok (.iload_n 3, 1) := by decide +kernel
theorem dL_law_29 : decode cL_law 29 = .ok (.iaload, 1) := by decide +kernel
theorem dL_law_30 : decode cL_law 30 = .ok (.bipush 31, 2) := by decide +kernel
theorem dL_law_32 : decode cL_law 32 = .ok (.iand, 1) := by decide +kernel
theorem dL_law_33 : decode cL_law 33 = .ok (.tableswitch 748 0 22 #[107, 140, 183, 226, 289, 322, 345, 368, 381, 414, 437, 462, 475, 488, 501, 524, 547, 580, 613, 646, 679, 702, 725], 107) := by decide +kernel
theorem dL_law_140 : decode cL_law 140 = .ok (.aload_n 1, 1) := by decide +kernel
theorem dL_law_141 : decode cL_law 141 = .ok (.aload_n 0, 1) := by decide +kernel
theorem dL_law_142 : decode cL_law 142 = .ok (.iload_n 3, 1) := by decide +kernel
theorem dL_law_143 : decode cL_law 143 = .ok (.iconst 1, 1) := by decide +kernel
theorem dL_law_144 : decode cL_law 144 = .ok (.iadd, 1) := by decide +kernel
theorem dL_law_145 : decode cL_law 145 = .ok (.iaload, 1) := by decide +kernel
theorem dL_law_146 : decode cL_law 146 = .ok (.aload_n 0, 1) := by decide +kernel
theorem dL_law_147 : decode cL_law 147 = .ok (.iload_n 3, 1) := by decide +kernel
theorem dL_law_148 : decode cL_law 148 = .ok (.iconst 2, 1) := by decide +kernel
theorem dL_law_149 : decode cL_law 149 = .ok (.iadd, 1) := by decide +kernel
theorem dL_law_150 : decode cL_law 150 = .ok (.iaload, 1) := by decide +kernel
theorem dL_law_151 : decode cL_law 151 = .ok (.invokevirtual 13, 3) := by decide +kernel
theorem dL_law_154 : decode cL_law 154 = .ok (.aload_n 2, 1) := by decide +kernel
theorem dL_law_155 : decode cL_law 155 = .ok (.aload_n 0, 1) := by decide +kernel
theorem dL_law_156 : decode cL_law 156 = .ok (.iload_n 3, 1) := by decide +kernel
theorem dL_law_157 : decode cL_law 157 = .ok (.iconst 1, 1) := by decide +kernel
theorem dL_law_158 : decode cL_law 158 = .ok (.iadd, 1) := by decide +kernel
theorem dL_law_159 : decode cL_law 159 = .ok (.iaload, 1) := by decide +kernel
theorem dL_law_160 : decode cL_law 160 = .ok (.aload_n 0, 1) := by decide +kernel
theorem dL_law_161 : decode cL_law 161 = .ok (.iload_n 3, 1) := by decide +kernel
theorem dL_law_162 : decode cL_law 162 = .ok (.iconst 2, 1) := by decide +kernel
theorem dL_law_163 : decode cL_law 163 = .ok (.iadd, 1) := by decide +kernel
theorem dL_law_164 : decode cL_law 164 = .ok (.iaload, 1) := by decide +kernel
theorem dL_law_165 : decode cL_law 165 = .ok (.invokevirtual 17, 3) := by decide +kernel
theorem dL_law_168 : decode cL_law 168 = .ok (.if_icmp .eq 613, 3) := by decide +kernel
theorem dL_law_171 : decode cL_law 171 = .ok (.iconst 0, 1) := by decide +kernel
theorem dL_law_172 : decode cL_law 172 = .ok (.ireturn, 1) := by decide +kernel
theorem dL_law_173 : decode cL_law 173 = .ok (.aload_n 1, 1) := by decide +kernel
theorem dL_law_174 : decode cL_law 174 = .ok (.aload_n 0, 1) := by decide +kernel
theorem dL_law_175 : decode cL_law 175 = .ok (.iload_n 3, 1) := by decide +kernel
theorem dL_law_176 : decode cL_law 176 = .ok (.iconst 1, 1) := by decide +kernel
theorem dL_law_177 : decode cL_law 177 = .ok (.iadd, 1) := by decide +kernel
theorem dL_law_178 : decode cL_law 178 = .ok (.iaload, 1) := by decide +kernel
theorem dL_law_179 : decode cL_law 179 = .ok (.aload_n 0, 1) := by decide +kernel
theorem dL_law_180 : decode cL_law 180 = .ok (.iload_n 3, 1) := by decide +kernel
theorem dL_law_181 : decode cL_law 181 = .ok (.iconst 2, 1) := by decide +kernel
theorem dL_law_182 : decode cL_law 182 = .ok (.iadd, 1) := by decide +kernel
theorem dL_law_183 : decode cL_law 183 = .ok (.iaload, 1) := by decide +kernel
theorem dL_law_184 : decode cL_law 184 = .ok (.aload_n 0, 1) := by decide +kernel
theorem dL_law_185 : decode cL_law 185 = .ok (.iload_n 3, 1) := by decide +kernel
theorem dL_law_186 : decode cL_law 186 = .ok (.iconst 3, 1) := by decide +kernel
theorem dL_law_187 : decode cL_law 187 = .ok (.iadd, 1) := by decide +kernel
theorem dL_law_188 : decode cL_law 188 = .ok (.iaload, 1) := by decide +kernel
theorem dL_law_189 : decode cL_law 189 = .ok (.invokevirtual 18, 3) := by decide +kernel
theorem dL_law_192 : decode cL_law 192 = .ok (.aload_n 2, 1) := by decide +kernel
theorem dL_law_193 : decode cL_law 193 = .ok (.aload_n 0, 1) := by decide +kernel
theorem dL_law_194 : decode cL_law 194 = .ok (.iload_n 3, 1) := by decide +kernel
theorem dL_law_195 : decode cL_law 195 = .ok (.iconst 1, 1) := by decide +kernel
theorem dL_law_196 : decode cL_law 196 = .ok (.iadd, 1) := by decide +kernel
theorem dL_law_197 : decode cL_law 197 = .ok (.iaload, 1) := by decide +kernel
theorem dL_law_198 : decode cL_law 198 = .ok (.aload_n 0, 1) := by decide +kernel
theorem dL_law_199 : decode cL_law 199 = .ok (.iload_n 3, 1) := by decide +kernel
theorem dL_law_200 : decode cL_law 200 = .ok (.iconst 2, 1) := by decide +kernel
theorem dL_law_201 : decode cL_law 201 = .ok (.iadd, 1) := by decide +kernel
theorem dL_law_202 : decode cL_law 202 = .ok (.iaload, 1) := by decide +kernel
theorem dL_law_203 : decode cL_law 203 = .ok (.aload_n 0, 1) := by decide +kernel
theorem dL_law_204 : decode cL_law 204 = .ok (.iload_n 3, 1) := by decide +kernel
theorem dL_law_205 : decode cL_law 205 = .ok (.iconst 3, 1) := by decide +kernel
theorem dL_law_206 : decode cL_law 206 = .ok (.iadd, 1) := by decide +kernel
theorem dL_law_207 : decode cL_law 207 = .ok (.iaload, 1) := by decide +kernel
theorem dL_law_208 : decode cL_law 208 = .ok (.invokevirtual 22, 3) := by decide +kernel
theorem dL_law_211 : decode cL_law 211 = .ok (.if_icmp .eq 570, 3) := by decide +kernel
theorem dL_law_214 : decode cL_law 214 = .ok (.iconst 0, 1) := by decide +kernel
theorem dL_law_215 : decode cL_law 215 = .ok (.ireturn, 1) := by decide +kernel
theorem dL_law_216 : decode cL_law 216 = .ok (.aload_n 1, 1) := by decide +kernel
theorem dL_law_217 : decode cL_law 217 = .ok (.aload_n 0, 1) := by decide +kernel
theorem dL_law_218 : decode cL_law 218 = .ok (.iload_n 3, 1) := by decide +kernel
theorem dL_law_219 : decode cL_law 219 = .ok (.iconst 1, 1) := by decide +kernel
theorem dL_law_220 : decode cL_law 220 = .ok (.iadd, 1) := by decide +kernel
theorem dL_law_221 : decode cL_law 221 = .ok (.iaload, 1) := by decide +kernel
theorem dL_law_222 : decode cL_law 222 = .ok (.aload_n 0, 1) := by decide +kernel
theorem dL_law_223 : decode cL_law 223 = .ok (.iload_n 3, 1) := by decide +kernel
theorem dL_law_224 : decode cL_law 224 = .ok (.iconst 2, 1) := by decide +kernel
theorem dL_law_225 : decode cL_law 225 = .ok (.iadd, 1) := by decide +kernel
theorem dL_law_226 : decode cL_law 226 = .ok (.iaload, 1) := by decide +kernel
theorem dL_law_227 : decode cL_law 227 = .ok (.aload_n 0, 1) := by decide +kernel
theorem dL_law_228 : decode cL_law 228 = .ok (.iload_n 3, 1) := by decide +kernel
theorem dL_law_229 : decode cL_law 229 = .ok (.iconst 3, 1) := by decide +kernel
theorem dL_law_230 : decode cL_law 230 = .ok (.iadd, 1) := by decide +kernel
theorem dL_law_231 : decode cL_law 231 = .ok (.iaload, 1) := by decide +kernel
theorem dL_law_232 : decode cL_law 232 = .ok (.invokevirtual 23, 3) := by decide +kernel
theorem dL_law_235 : decode cL_law 235 = .ok (.aload_n 2, 1) := by decide +kernel
theorem dL_law_236 : decode cL_law 236 = .ok (.aload_n 0, 1) := by decide +kernel
theorem dL_law_237 : decode cL_law 237 = .ok (.iload_n 3, 1) := by decide +kernel
theorem dL_law_238 : decode cL_law 238 = .ok (.iconst 1, 1) := by decide +kernel
theorem dL_law_239 : decode cL_law 239 = .ok (.iadd, 1) := by decide +kernel
theorem dL_law_240 : decode cL_law 240 = .ok (.iaload, 1) := by decide +kernel
theorem dL_law_241 : decode cL_law 241 = .ok (.aload_n 0, 1) := by decide +kernel
theorem dL_law_242 : decode cL_law 242 = .ok (.iload_n 3, 1) := by decide +kernel
theorem dL_law_243 : decode cL_law 243 = .ok (.iconst 2, 1) := by decide +kernel
theorem dL_law_244 : decode cL_law 244 = .ok (.iadd, 1) := by decide +kernel
theorem dL_law_245 : decode cL_law 245 = .ok (.iaload, 1) := by decide +kernel
theorem dL_law_246 : decode cL_law 246 = .ok (.aload_n 0, 1) := by decide +kernel
theorem dL_law_247 : decode cL_law 247 = .ok (.iload_n 3, 1) := by decide +kernel
theorem dL_law_248 : decode cL_law 248 = .ok (.iconst 3, 1) := by decide +kernel
theorem dL_law_249 : decode cL_law 249 = .ok (.iadd, 1) := by decide +kernel
theorem dL_law_250 : decode cL_law 250 = .ok (.iaload, 1) := by decide +kernel
theorem dL_law_251 : decode cL_law 251 = .ok (.invokevirtual 26, 3) := by decide +kernel
theorem dL_law_254 : decode cL_law 254 = .ok (.if_icmp .eq 527, 3) := by decide +kernel
theorem dL_law_257 : decode cL_law 257 = .ok (.iconst 0, 1) := by decide +kernel
theorem dL_law_258 : decode cL_law 258 = .ok (.ireturn, 1) := by decide +kernel
theorem dL_law_259 : decode cL_law 259 = .ok (.aload_n 1, 1) := by decide +kernel
theorem dL_law_260 : decode cL_law 260 = .ok (.aload_n 0, 1) := by decide +kernel
theorem dL_law_261 : decode cL_law 261 = .ok (.iload_n 3, 1) := by decide +kernel
theorem dL_law_262 : decode cL_law 262 = .ok (.iconst 1, 1) := by decide +kernel
theorem dL_law_263 : decode cL_law 263 = .ok (.iadd, 1) := by decide +kernel
theorem dL_law_264 : decode cL_law 264 = .ok (.iaload, 1) := by decide +kernel
theorem dL_law_265 : decode cL_law 265 = .ok (.aload_n 0, 1) := by decide +kernel
theorem dL_law_266 : decode cL_law 266 = .ok (.iload_n 3, 1) := by decide +kernel
theorem dL_law_267 : decode cL_law 267 = .ok (.iconst 2, 1) := by decide +kernel
theorem dL_law_268 : decode cL_law 268 = .ok (.iadd, 1) := by decide +kernel
theorem dL_law_269 : decode cL_law 269 = .ok (.iaload, 1) := by decide +kernel
theorem dL_law_270 : decode cL_law 270 = .ok (.aload_n 0, 1) := by decide +kernel
theorem dL_law_271 : decode cL_law 271 = .ok (.iload_n 3, 1) := by decide +kernel
theorem dL_law_272 : decode cL_law 272 = .ok (.iconst 3, 1) := by decide +kernel
theorem dL_law_273 : decode cL_law 273 = .ok (.iadd, 1) := by decide +kernel
theorem dL_law_274 : decode cL_law 274 = .ok (.iaload, 1) := by decide +kernel
theorem dL_law_275 : decode cL_law 275 = .ok (.aload_n 0, 1) := by decide +kernel
theorem dL_law_276 : decode cL_law 276 = .ok (.iload_n 3, 1) := by decide +kernel
theorem dL_law_277 : decode cL_law 277 = .ok (.iconst 4, 1) := by decide +kernel
theorem dL_law_278 : decode cL_law 278 = .ok (.iadd, 1) := by decide +kernel
theorem dL_law_279 : decode cL_law 279 = .ok (.iaload, 1) := by decide +kernel
theorem dL_law_280 : decode cL_law 280 = .ok (.aload_n 0, 1) := by decide +kernel
theorem dL_law_281 : decode cL_law 281 = .ok (.iload_n 3, 1) := by decide +kernel
theorem dL_law_282 : decode cL_law 282 = .ok (.iconst 5, 1) := by decide +kernel
theorem dL_law_283 : decode cL_law 283 = .ok (.iadd, 1) := by decide +kernel
theorem dL_law_284 : decode cL_law 284 = .ok (.iaload, 1) := by decide +kernel
theorem dL_law_285 : decode cL_law 285 = .ok (.invokevirtual 27, 3) := by decide +kernel
theorem dL_law_288 : decode cL_law 288 = .ok (.aload_n 2, 1) := by decide +kernel
theorem dL_law_289 : decode cL_law 289 = .ok (.aload_n 0, 1) := by decide +kernel
theorem dL_law_290 : decode cL_law 290 = .ok (.iload_n 3, 1) := by decide +kernel
theorem dL_law_291 : decode cL_law 291 = .ok (.iconst 1, 1) := by decide +kernel
theorem dL_law_292 : decode cL_law 292 = .ok (.iadd, 1) := by decide +kernel
theorem dL_law_293 : decode cL_law 293 = .ok (.iaload, 1) := by decide +kernel
theorem dL_law_294 : decode cL_law 294 = .ok (.aload_n 0, 1) := by decide +kernel
theorem dL_law_295 : decode cL_law 295 = .ok (.iload_n 3, 1) := by decide +kernel
theorem dL_law_296 : decode cL_law 296 = .ok (.iconst 2, 1) := by decide +kernel
theorem dL_law_297 : decode cL_law 297 = .ok (.iadd, 1) := by decide +kernel
theorem dL_law_298 : decode cL_law 298 = .ok (.iaload, 1) := by decide +kernel
theorem dL_law_299 : decode cL_law 299 = .ok (.aload_n 0, 1) := by decide +kernel
theorem dL_law_300 : decode cL_law 300 = .ok (.iload_n 3, 1) := by decide +kernel
theorem dL_law_301 : decode cL_law 301 = .ok (.iconst 3, 1) := by decide +kernel
theorem dL_law_302 : decode cL_law 302 = .ok (.iadd, 1) := by decide +kernel
theorem dL_law_303 : decode cL_law 303 = .ok (.iaload, 1) := by decide +kernel
theorem dL_law_304 : decode cL_law 304 = .ok (.aload_n 0, 1) := by decide +kernel
theorem dL_law_305 : decode cL_law 305 = .ok (.iload_n 3, 1) := by decide +kernel
theorem dL_law_306 : decode cL_law 306 = .ok (.iconst 4, 1) := by decide +kernel
theorem dL_law_307 : decode cL_law 307 = .ok (.iadd, 1) := by decide +kernel
theorem dL_law_308 : decode cL_law 308 = .ok (.iaload, 1) := by decide +kernel
theorem dL_law_309 : decode cL_law 309 = .ok (.aload_n 0, 1) := by decide +kernel
theorem dL_law_310 : decode cL_law 310 = .ok (.iload_n 3, 1) := by decide +kernel
theorem dL_law_311 : decode cL_law 311 = .ok (.iconst 5, 1) := by decide +kernel
theorem dL_law_312 : decode cL_law 312 = .ok (.iadd, 1) := by decide +kernel
theorem dL_law_313 : decode cL_law 313 = .ok (.iaload, 1) := by decide +kernel
theorem dL_law_314 : decode cL_law 314 = .ok (.invokevirtual 31, 3) := by decide +kernel
theorem dL_law_317 : decode cL_law 317 = .ok (.if_icmp .eq 464, 3) := by decide +kernel
theorem dL_law_320 : decode cL_law 320 = .ok (.iconst 0, 1) := by decide +kernel
theorem dL_law_321 : decode cL_law 321 = .ok (.ireturn, 1) := by decide +kernel
theorem dL_law_322 : decode cL_law 322 = .ok (.aload_n 1, 1) := by decide +kernel
theorem dL_law_323 : decode cL_law 323 = .ok (.aload_n 0, 1) := by decide +kernel
theorem dL_law_324 : decode cL_law 324 = .ok (.iload_n 3, 1) := by decide +kernel
theorem dL_law_325 : decode cL_law 325 = .ok (.iconst 1, 1) := by decide +kernel
theorem dL_law_326 : decode cL_law 326 = .ok (.iadd, 1) := by decide +kernel
theorem dL_law_327 : decode cL_law 327 = .ok (.iaload, 1) := by decide +kernel
theorem dL_law_328 : decode cL_law 328 = .ok (.aload_n 0, 1) := by decide +kernel
theorem dL_law_329 : decode cL_law 329 = .ok (.iload_n 3, 1) := by decide +kernel
theorem dL_law_330 : decode cL_law 330 = .ok (.iconst 2, 1) := by decide +kernel
theorem dL_law_331 : decode cL_law 331 = .ok (.iadd, 1) := by decide +kernel
theorem dL_law_332 : decode cL_law 332 = .ok (.iaload, 1) := by decide +kernel
theorem dL_law_333 : decode cL_law 333 = .ok (.invokevirtual 32, 3) := by decide +kernel
theorem dL_law_336 : decode cL_law 336 = .ok (.aload_n 2, 1) := by decide +kernel
theorem dL_law_337 : decode cL_law 337 = .ok (.aload_n 0, 1) := by decide +kernel
theorem dL_law_338 : decode cL_law 338 = .ok (.iload_n 3, 1) := by decide +kernel
theorem dL_law_339 : decode cL_law 339 = .ok (.iconst 1, 1) := by decide +kernel
theorem dL_law_340 : decode cL_law 340 = .ok (.iadd, 1) := by decide +kernel
theorem dL_law_341 : decode cL_law 341 = .ok (.iaload, 1) := by decide +kernel
theorem dL_law_342 : decode cL_law 342 = .ok (.aload_n 0, 1) := by decide +kernel
theorem dL_law_343 : decode cL_law 343 = .ok (.iload_n 3, 1) := by decide +kernel
theorem dL_law_344 : decode cL_law 344 = .ok (.iconst 2, 1) := by decide +kernel
theorem dL_law_345 : decode cL_law 345 = .ok (.iadd, 1) := by decide +kernel
theorem dL_law_346 : decode cL_law 346 = .ok (.iaload, 1) := by decide +kernel
theorem dL_law_347 : decode cL_law 347 = .ok (.invokevirtual 35, 3) := by decide +kernel
theorem dL_law_350 : decode cL_law 350 = .ok (.if_icmp .eq 431, 3) := by decide +kernel
theorem dL_law_353 : decode cL_law 353 = .ok (.iconst 0, 1) := by decide +kernel
theorem dL_law_354 : decode cL_law 354 = .ok (.ireturn, 1) := by decide +kernel
theorem dL_law_355 : decode cL_law 355 = .ok (.aload_n 1, 1) := by decide +kernel
theorem dL_law_356 : decode cL_law 356 = .ok (.aload_n 0, 1) := by decide +kernel
theorem dL_law_357 : decode cL_law 357 = .ok (.iload_n 3, 1) := by decide +kernel
theorem dL_law_358 : decode cL_law 358 = .ok (.iconst 1, 1) := by decide +kernel
theorem dL_law_359 : decode cL_law 359 = .ok (.iadd, 1) := by decide +kernel
theorem dL_law_360 : decode cL_law 360 = .ok (.iaload, 1) := by decide +kernel
theorem dL_law_361 : decode cL_law 361 = .ok (.invokevirtual 36, 3) := by decide +kernel
theorem dL_law_364 : decode cL_law 364 = .ok (.aload_n 2, 1) := by decide +kernel
theorem dL_law_365 : decode cL_law 365 = .ok (.aload_n 0, 1) := by decide +kernel
theorem dL_law_366 : decode cL_law 366 = .ok (.iload_n 3, 1) := by decide +kernel
theorem dL_law_367 : decode cL_law 367 = .ok (.iconst 1, 1) := by decide +kernel
theorem dL_law_368 : decode cL_law 368 = .ok (.iadd, 1) := by decide +kernel
theorem dL_law_369 : decode cL_law 369 = .ok (.iaload, 1) := by decide +kernel
theorem dL_law_370 : decode cL_law 370 = .ok (.invokevirtual 40, 3) := by decide +kernel
theorem dL_law_373 : decode cL_law 373 = .ok (.if_icmp .eq 408, 3) := by decide +kernel
theorem dL_law_376 : decode cL_law 376 = .ok (.iconst 0, 1) := by decide +kernel
theorem dL_law_377 : decode cL_law 377 = .ok (.ireturn, 1) := by decide +kernel
theorem dL_law_378 : decode cL_law 378 = .ok (.aload_n 1, 1) := by decide +kernel
theorem dL_law_379 : decode cL_law 379 = .ok (.aload_n 0, 1) := by decide +kernel
theorem dL_law_380 : decode cL_law 380 = .ok (.iload_n 3, 1) := by decide +kernel
theorem dL_law_381 : decode cL_law 381 = .ok (.iconst 1, 1) := by decide +kernel
theorem dL_law_382 : decode cL_law 382 = .ok (.iadd, 1) := by decide +kernel
theorem dL_law_383 : decode cL_law 383 = .ok (.iaload, 1) := by decide +kernel
theorem dL_law_384 : decode cL_law 384 = .ok (.invokevirtual 41, 3) := by decide +kernel
theorem dL_law_387 : decode cL_law 387 = .ok (.aload_n 2, 1) := by decide +kernel
theorem dL_law_388 : decode cL_law 388 = .ok (.aload_n 0, 1) := by decide +kernel
theorem dL_law_389 : decode cL_law 389 = .ok (.iload_n 3, 1) := by decide +kernel
theorem dL_law_390 : decode cL_law 390 = .ok (.iconst 1, 1) := by decide +kernel
theorem dL_law_391 : decode cL_law 391 = .ok (.iadd, 1) := by decide +kernel
theorem dL_law_392 : decode cL_law 392 = .ok (.iaload, 1) := by decide +kernel
theorem dL_law_393 : decode cL_law 393 = .ok (.invokevirtual 44, 3) := by decide +kernel
theorem dL_law_396 : decode cL_law 396 = .ok (.if_icmp .eq 385, 3) := by decide +kernel
theorem dL_law_399 : decode cL_law 399 = .ok (.iconst 0, 1) := by decide +kernel
theorem dL_law_400 : decode cL_law 400 = .ok (.ireturn, 1) := by decide +kernel
theorem dL_law_401 : decode cL_law 401 = .ok (.aload_n 1, 1) := by decide +kernel
theorem dL_law_402 : decode cL_law 402 = .ok (.invokevirtual 45, 3) := by decide +kernel
theorem dL_law_405 : decode cL_law 405 = .ok (.aload_n 2, 1) := by decide +kernel
theorem dL_law_406 : decode cL_law 406 = .ok (.invokevirtual 49, 3) := by decide +kernel
theorem dL_law_409 : decode cL_law 409 = .ok (.if_icmp .eq 372, 3) := by decide +kernel
theorem dL_law_412 : decode cL_law 412 = .ok (.iconst 0, 1) := by decide +kernel
theorem dL_law_413 : decode cL_law 413 = .ok (.ireturn, 1) := by decide +kernel
theorem dL_law_414 : decode cL_law 414 = .ok (.aload_n 1, 1) := by decide +kernel
theorem dL_law_415 : decode cL_law 415 = .ok (.aload_n 0, 1) := by decide +kernel
theorem dL_law_416 : decode cL_law 416 = .ok (.iload_n 3, 1) := by decide +kernel
theorem dL_law_417 : decode cL_law 417 = .ok (.iconst 1, 1) := by decide +kernel
theorem dL_law_418 : decode cL_law 418 = .ok (.iadd, 1) := by decide +kernel
theorem dL_law_419 : decode cL_law 419 = .ok (.iaload, 1) := by decide +kernel
theorem dL_law_420 : decode cL_law 420 = .ok (.aload_n 0, 1) := by decide +kernel
theorem dL_law_421 : decode cL_law 421 = .ok (.iload_n 3, 1) := by decide +kernel
theorem dL_law_422 : decode cL_law 422 = .ok (.iconst 2, 1) := by decide +kernel
theorem dL_law_423 : decode cL_law 423 = .ok (.iadd, 1) := by decide +kernel
theorem dL_law_424 : decode cL_law 424 = .ok (.iaload, 1) := by decide +kernel
theorem dL_law_425 : decode cL_law 425 = .ok (.invokevirtual 50, 3) := by decide +kernel
theorem dL_law_428 : decode cL_law 428 = .ok (.aload_n 2, 1) := by decide +kernel
theorem dL_law_429 : decode cL_law 429 = .ok (.aload_n 0, 1) := by decide +kernel
theorem dL_law_430 : decode cL_law 430 = .ok (.iload_n 3, 1) := by decide +kernel
theorem dL_law_431 : decode cL_law 431 = .ok (.iconst 1, 1) := by decide +kernel
theorem dL_law_432 : decode cL_law 432 = .ok (.iadd, 1) := by decide +kernel
theorem dL_law_433 : decode cL_law 433 = .ok (.iaload, 1) := by decide +kernel
theorem dL_law_434 : decode cL_law 434 = .ok (.aload_n 0, 1) := by decide +kernel
theorem dL_law_435 : decode cL_law 435 = .ok (.iload_n 3, 1) := by decide +kernel
theorem dL_law_436 : decode cL_law 436 = .ok (.iconst 2, 1) := by decide +kernel
theorem dL_law_437 : decode cL_law 437 = .ok (.iadd, 1) := by decide +kernel
theorem dL_law_438 : decode cL_law 438 = .ok (.iaload, 1) := by decide +kernel
theorem dL_law_439 : decode cL_law 439 = .ok (.invokevirtual 53, 3) := by decide +kernel
theorem dL_law_442 : decode cL_law 442 = .ok (.if_icmp .eq 339, 3) := by decide +kernel
theorem dL_law_445 : decode cL_law 445 = .ok (.iconst 0, 1) := by decide +kernel
theorem dL_law_446 : decode cL_law 446 = .ok (.ireturn, 1) := by decide +kernel
theorem dL_law_447 : decode cL_law 447 = .ok (.aload_n 1, 1) := by decide +kernel
theorem dL_law_448 : decode cL_law 448 = .ok (.aload_n 0, 1) := by decide +kernel
theorem dL_law_449 : decode cL_law 449 = .ok (.iload_n 3, 1) := by decide +kernel
theorem dL_law_450 : decode cL_law 450 = .ok (.iconst 1, 1) := by decide +kernel
theorem dL_law_451 : decode cL_law 451 = .ok (.iadd, 1) := by decide +kernel
theorem dL_law_452 : decode cL_law 452 = .ok (.iaload, 1) := by decide +kernel
theorem dL_law_453 : decode cL_law 453 = .ok (.invokevirtual 54, 3) := by decide +kernel
theorem dL_law_456 : decode cL_law 456 = .ok (.aload_n 2, 1) := by decide +kernel
theorem dL_law_457 : decode cL_law 457 = .ok (.aload_n 0, 1) := by decide +kernel
theorem dL_law_458 : decode cL_law 458 = .ok (.iload_n 3, 1) := by decide +kernel
theorem dL_law_459 : decode cL_law 459 = .ok (.iconst 1, 1) := by decide +kernel
theorem dL_law_460 : decode cL_law 460 = .ok (.iadd, 1) := by decide +kernel
theorem dL_law_461 : decode cL_law 461 = .ok (.iaload, 1) := by decide +kernel
theorem dL_law_462 : decode cL_law 462 = .ok (.invokevirtual 57, 3) := by decide +kernel
theorem dL_law_465 : decode cL_law 465 = .ok (.if_icmp .eq 316, 3) := by decide +kernel
theorem dL_law_468 : decode cL_law 468 = .ok (.iconst 0, 1) := by decide +kernel
theorem dL_law_469 : decode cL_law 469 = .ok (.ireturn, 1) := by decide +kernel
theorem dL_law_470 : decode cL_law 470 = .ok (.aload_n 1, 1) := by decide +kernel
theorem dL_law_471 : decode cL_law 471 = .ok (.aload_n 0, 1) := by decide +kernel
theorem dL_law_472 : decode cL_law 472 = .ok (.iload_n 3, 1) := by decide +kernel
theorem dL_law_473 : decode cL_law 473 = .ok (.iconst 1, 1) := by decide +kernel
theorem dL_law_474 : decode cL_law 474 = .ok (.iadd, 1) := by decide +kernel
theorem dL_law_475 : decode cL_law 475 = .ok (.iaload, 1) := by decide +kernel
theorem dL_law_476 : decode cL_law 476 = .ok (.i2c, 1) := by decide +kernel
theorem dL_law_477 : decode cL_law 477 = .ok (.invokevirtual 58, 3) := by decide +kernel
theorem dL_law_480 : decode cL_law 480 = .ok (.aload_n 2, 1) := by decide +kernel
theorem dL_law_481 : decode cL_law 481 = .ok (.aload_n 0, 1) := by decide +kernel
theorem dL_law_482 : decode cL_law 482 = .ok (.iload_n 3, 1) := by decide +kernel
theorem dL_law_483 : decode cL_law 483 = .ok (.iconst 1, 1) := by decide +kernel
theorem dL_law_484 : decode cL_law 484 = .ok (.iadd, 1) := by decide +kernel
theorem dL_law_485 : decode cL_law 485 = .ok (.iaload, 1) := by decide +kernel
theorem dL_law_486 : decode cL_law 486 = .ok (.i2c, 1) := by decide +kernel
theorem dL_law_487 : decode cL_law 487 = .ok (.invokevirtual 62, 3) := by decide +kernel
theorem dL_law_490 : decode cL_law 490 = .ok (.if_icmp .eq 291, 3) := by decide +kernel
theorem dL_law_493 : decode cL_law 493 = .ok (.iconst 0, 1) := by decide +kernel
theorem dL_law_494 : decode cL_law 494 = .ok (.ireturn, 1) := by decide +kernel
theorem dL_law_495 : decode cL_law 495 = .ok (.aload_n 1, 1) := by decide +kernel
theorem dL_law_496 : decode cL_law 496 = .ok (.invokevirtual 63, 3) := by decide +kernel
theorem dL_law_499 : decode cL_law 499 = .ok (.aload_n 2, 1) := by decide +kernel
theorem dL_law_500 : decode cL_law 500 = .ok (.invokevirtual 66, 3) := by decide +kernel
theorem dL_law_503 : decode cL_law 503 = .ok (.if_icmp .eq 278, 3) := by decide +kernel
theorem dL_law_506 : decode cL_law 506 = .ok (.iconst 0, 1) := by decide +kernel
theorem dL_law_507 : decode cL_law 507 = .ok (.ireturn, 1) := by decide +kernel
theorem dL_law_508 : decode cL_law 508 = .ok (.aload_n 1, 1) := by decide +kernel
theorem dL_law_509 : decode cL_law 509 = .ok (.invokevirtual 67, 3) := by decide +kernel
theorem dL_law_512 : decode cL_law 512 = .ok (.aload_n 2, 1) := by decide +kernel
theorem dL_law_513 : decode cL_law 513 = .ok (.invokevirtual 70, 3) := by decide +kernel
theorem dL_law_516 : decode cL_law 516 = .ok (.if_icmp .eq 265, 3) := by decide +kernel
theorem dL_law_519 : decode cL_law 519 = .ok (.iconst 0, 1) := by decide +kernel
theorem dL_law_520 : decode cL_law 520 = .ok (.ireturn, 1) := by decide +kernel
theorem dL_law_521 : decode cL_law 521 = .ok (.aload_n 1, 1) := by decide +kernel
theorem dL_law_522 : decode cL_law 522 = .ok (.invokevirtual 71, 3) := by decide +kernel
theorem dL_law_525 : decode cL_law 525 = .ok (.aload_n 2, 1) := by decide +kernel
theorem dL_law_526 : decode cL_law 526 = .ok (.invokevirtual 74, 3) := by decide +kernel
theorem dL_law_529 : decode cL_law 529 = .ok (.if_icmp .eq 252, 3) := by decide +kernel
theorem dL_law_532 : decode cL_law 532 = .ok (.iconst 0, 1) := by decide +kernel
theorem dL_law_533 : decode cL_law 533 = .ok (.ireturn, 1) := by decide +kernel
theorem dL_law_534 : decode cL_law 534 = .ok (.aload_n 1, 1) := by decide +kernel
theorem dL_law_535 : decode cL_law 535 = .ok (.aload_n 0, 1) := by decide +kernel
theorem dL_law_536 : decode cL_law 536 = .ok (.iload_n 3, 1) := by decide +kernel
theorem dL_law_537 : decode cL_law 537 = .ok (.iconst 1, 1) := by decide +kernel
theorem dL_law_538 : decode cL_law 538 = .ok (.iadd, 1) := by decide +kernel
theorem dL_law_539 : decode cL_law 539 = .ok (.iaload, 1) := by decide +kernel
theorem dL_law_540 : decode cL_law 540 = .ok (.invokevirtual 75, 3) := by decide +kernel
theorem dL_law_543 : decode cL_law 543 = .ok (.aload_n 2, 1) := by decide +kernel
theorem dL_law_544 : decode cL_law 544 = .ok (.aload_n 0, 1) := by decide +kernel
theorem dL_law_545 : decode cL_law 545 = .ok (.iload_n 3, 1) := by decide +kernel
theorem dL_law_546 : decode cL_law 546 = .ok (.iconst 1, 1) := by decide +kernel
theorem dL_law_547 : decode cL_law 547 = .ok (.iadd, 1) := by decide +kernel
theorem dL_law_548 : decode cL_law 548 = .ok (.iaload, 1) := by decide +kernel
theorem dL_law_549 : decode cL_law 549 = .ok (.invokevirtual 78, 3) := by decide +kernel
theorem dL_law_552 : decode cL_law 552 = .ok (.if_icmp .eq 229, 3) := by decide +kernel
theorem dL_law_555 : decode cL_law 555 = .ok (.iconst 0, 1) := by decide +kernel
theorem dL_law_556 : decode cL_law 556 = .ok (.ireturn, 1) := by decide +kernel
theorem dL_law_557 : decode cL_law 557 = .ok (.aload_n 1, 1) := by decide +kernel
theorem dL_law_558 : decode cL_law 558 = .ok (.aload_n 0, 1) := by decide +kernel
theorem dL_law_559 : decode cL_law 559 = .ok (.iload_n 3, 1) := by decide +kernel
theorem dL_law_560 : decode cL_law 560 = .ok (.iconst 1, 1) := by decide +kernel
theorem dL_law_561 : decode cL_law 561 = .ok (.iadd, 1) := by decide +kernel
theorem dL_law_562 : decode cL_law 562 = .ok (.iaload, 1) := by decide +kernel
theorem dL_law_563 : decode cL_law 563 = .ok (.invokevirtual 79, 3) := by decide +kernel
theorem dL_law_566 : decode cL_law 566 = .ok (.aload_n 2, 1) := by decide +kernel
theorem dL_law_567 : decode cL_law 567 = .ok (.aload_n 0, 1) := by decide +kernel
theorem dL_law_568 : decode cL_law 568 = .ok (.iload_n 3, 1) := by decide +kernel
theorem dL_law_569 : decode cL_law 569 = .ok (.iconst 1, 1) := by decide +kernel
theorem dL_law_570 : decode cL_law 570 = .ok (.iadd, 1) := by decide +kernel
theorem dL_law_571 : decode cL_law 571 = .ok (.iaload, 1) := by decide +kernel
theorem dL_law_572 : decode cL_law 572 = .ok (.invokevirtual 82, 3) := by decide +kernel
theorem dL_law_575 : decode cL_law 575 = .ok (.if_icmp .eq 206, 3) := by decide +kernel
theorem dL_law_578 : decode cL_law 578 = .ok (.iconst 0, 1) := by decide +kernel
theorem dL_law_579 : decode cL_law 579 = .ok (.ireturn, 1) := by decide +kernel
theorem dL_law_580 : decode cL_law 580 = .ok (.aload_n 1, 1) := by decide +kernel
theorem dL_law_581 : decode cL_law 581 = .ok (.aload_n 0, 1) := by decide +kernel
theorem dL_law_582 : decode cL_law 582 = .ok (.iload_n 3, 1) := by decide +kernel
theorem dL_law_583 : decode cL_law 583 = .ok (.iconst 1, 1) := by decide +kernel
theorem dL_law_584 : decode cL_law 584 = .ok (.iadd, 1) := by decide +kernel
theorem dL_law_585 : decode cL_law 585 = .ok (.iaload, 1) := by decide +kernel
theorem dL_law_586 : decode cL_law 586 = .ok (.aload_n 0, 1) := by decide +kernel
theorem dL_law_587 : decode cL_law 587 = .ok (.iload_n 3, 1) := by decide +kernel
theorem dL_law_588 : decode cL_law 588 = .ok (.iconst 2, 1) := by decide +kernel
theorem dL_law_589 : decode cL_law 589 = .ok (.iadd, 1) := by decide +kernel
theorem dL_law_590 : decode cL_law 590 = .ok (.iaload, 1) := by decide +kernel
theorem dL_law_591 : decode cL_law 591 = .ok (.invokevirtual 83, 3) := by decide +kernel
theorem dL_law_594 : decode cL_law 594 = .ok (.aload_n 2, 1) := by decide +kernel
theorem dL_law_595 : decode cL_law 595 = .ok (.aload_n 0, 1) := by decide +kernel
theorem dL_law_596 : decode cL_law 596 = .ok (.iload_n 3, 1) := by decide +kernel
theorem dL_law_597 : decode cL_law 597 = .ok (.iconst 1, 1) := by decide +kernel
theorem dL_law_598 : decode cL_law 598 = .ok (.iadd, 1) := by decide +kernel
theorem dL_law_599 : decode cL_law 599 = .ok (.iaload, 1) := by decide +kernel
theorem dL_law_600 : decode cL_law 600 = .ok (.aload_n 0, 1) := by decide +kernel
theorem dL_law_601 : decode cL_law 601 = .ok (.iload_n 3, 1) := by decide +kernel
theorem dL_law_602 : decode cL_law 602 = .ok (.iconst 2, 1) := by decide +kernel
theorem dL_law_603 : decode cL_law 603 = .ok (.iadd, 1) := by decide +kernel
theorem dL_law_604 : decode cL_law 604 = .ok (.iaload, 1) := by decide +kernel
theorem dL_law_605 : decode cL_law 605 = .ok (.invokevirtual 86, 3) := by decide +kernel
theorem dL_law_608 : decode cL_law 608 = .ok (.if_icmp .eq 173, 3) := by decide +kernel
theorem dL_law_611 : decode cL_law 611 = .ok (.iconst 0, 1) := by decide +kernel
theorem dL_law_612 : decode cL_law 612 = .ok (.ireturn, 1) := by decide +kernel
theorem dL_law_613 : decode cL_law 613 = .ok (.aload_n 1, 1) := by decide +kernel
theorem dL_law_614 : decode cL_law 614 = .ok (.aload_n 0, 1) := by decide +kernel
theorem dL_law_615 : decode cL_law 615 = .ok (.iload_n 3, 1) := by decide +kernel
theorem dL_law_616 : decode cL_law 616 = .ok (.iconst 1, 1) := by decide +kernel
theorem dL_law_617 : decode cL_law 617 = .ok (.iadd, 1) := by decide +kernel
theorem dL_law_618 : decode cL_law 618 = .ok (.iaload, 1) := by decide +kernel
theorem dL_law_619 : decode cL_law 619 = .ok (.aload_n 0, 1) := by decide +kernel
theorem dL_law_620 : decode cL_law 620 = .ok (.iload_n 3, 1) := by decide +kernel
theorem dL_law_621 : decode cL_law 621 = .ok (.iconst 2, 1) := by decide +kernel
theorem dL_law_622 : decode cL_law 622 = .ok (.iadd, 1) := by decide +kernel
theorem dL_law_623 : decode cL_law 623 = .ok (.iaload, 1) := by decide +kernel
theorem dL_law_624 : decode cL_law 624 = .ok (.invokevirtual 87, 3) := by decide +kernel
theorem dL_law_627 : decode cL_law 627 = .ok (.aload_n 2, 1) := by decide +kernel
theorem dL_law_628 : decode cL_law 628 = .ok (.aload_n 0, 1) := by decide +kernel
theorem dL_law_629 : decode cL_law 629 = .ok (.iload_n 3, 1) := by decide +kernel
theorem dL_law_630 : decode cL_law 630 = .ok (.iconst 1, 1) := by decide +kernel
theorem dL_law_631 : decode cL_law 631 = .ok (.iadd, 1) := by decide +kernel
theorem dL_law_632 : decode cL_law 632 = .ok (.iaload, 1) := by decide +kernel
theorem dL_law_633 : decode cL_law 633 = .ok (.aload_n 0, 1) := by decide +kernel
theorem dL_law_634 : decode cL_law 634 = .ok (.iload_n 3, 1) := by decide +kernel
theorem dL_law_635 : decode cL_law 635 = .ok (.iconst 2, 1) := by decide +kernel
theorem dL_law_636 : decode cL_law 636 = .ok (.iadd, 1) := by decide +kernel
theorem dL_law_637 : decode cL_law 637 = .ok (.iaload, 1) := by decide +kernel
theorem dL_law_638 : decode cL_law 638 = .ok (.invokevirtual 90, 3) := by decide +kernel
theorem dL_law_641 : decode cL_law 641 = .ok (.if_icmp .eq 140, 3) := by decide +kernel
theorem dL_law_644 : decode cL_law 644 = .ok (.iconst 0, 1) := by decide +kernel
theorem dL_law_645 : decode cL_law 645 = .ok (.ireturn, 1) := by decide +kernel
theorem dL_law_646 : decode cL_law 646 = .ok (.aload_n 1, 1) := by decide +kernel
theorem dL_law_647 : decode cL_law 647 = .ok (.aload_n 0, 1) := by decide +kernel
theorem dL_law_648 : decode cL_law 648 = .ok (.iload_n 3, 1) := by decide +kernel
theorem dL_law_649 : decode cL_law 649 = .ok (.iconst 1, 1) := by decide +kernel
theorem dL_law_650 : decode cL_law 650 = .ok (.iadd, 1) := by decide +kernel
theorem dL_law_651 : decode cL_law 651 = .ok (.iaload, 1) := by decide +kernel
theorem dL_law_652 : decode cL_law 652 = .ok (.aload_n 0, 1) := by decide +kernel
theorem dL_law_653 : decode cL_law 653 = .ok (.iload_n 3, 1) := by decide +kernel
theorem dL_law_654 : decode cL_law 654 = .ok (.iconst 2, 1) := by decide +kernel
theorem dL_law_655 : decode cL_law 655 = .ok (.iadd, 1) := by decide +kernel
theorem dL_law_656 : decode cL_law 656 = .ok (.iaload, 1) := by decide +kernel
theorem dL_law_657 : decode cL_law 657 = .ok (.invokevirtual 91, 3) := by decide +kernel
theorem dL_law_660 : decode cL_law 660 = .ok (.aload_n 2, 1) := by decide +kernel
theorem dL_law_661 : decode cL_law 661 = .ok (.aload_n 0, 1) := by decide +kernel
theorem dL_law_662 : decode cL_law 662 = .ok (.iload_n 3, 1) := by decide +kernel
theorem dL_law_663 : decode cL_law 663 = .ok (.iconst 1, 1) := by decide +kernel
theorem dL_law_664 : decode cL_law 664 = .ok (.iadd, 1) := by decide +kernel
theorem dL_law_665 : decode cL_law 665 = .ok (.iaload, 1) := by decide +kernel
theorem dL_law_666 : decode cL_law 666 = .ok (.aload_n 0, 1) := by decide +kernel
theorem dL_law_667 : decode cL_law 667 = .ok (.iload_n 3, 1) := by decide +kernel
theorem dL_law_668 : decode cL_law 668 = .ok (.iconst 2, 1) := by decide +kernel
theorem dL_law_669 : decode cL_law 669 = .ok (.iadd, 1) := by decide +kernel
theorem dL_law_670 : decode cL_law 670 = .ok (.iaload, 1) := by decide +kernel
theorem dL_law_671 : decode cL_law 671 = .ok (.invokevirtual 94, 3) := by decide +kernel
theorem dL_law_674 : decode cL_law 674 = .ok (.if_icmp .eq 107, 3) := by decide +kernel
theorem dL_law_677 : decode cL_law 677 = .ok (.iconst 0, 1) := by decide +kernel
theorem dL_law_678 : decode cL_law 678 = .ok (.ireturn, 1) := by decide +kernel
theorem dL_law_679 : decode cL_law 679 = .ok (.aload_n 1, 1) := by decide +kernel
theorem dL_law_680 : decode cL_law 680 = .ok (.aload_n 0, 1) := by decide +kernel
theorem dL_law_681 : decode cL_law 681 = .ok (.iload_n 3, 1) := by decide +kernel
theorem dL_law_682 : decode cL_law 682 = .ok (.iconst 1, 1) := by decide +kernel
theorem dL_law_683 : decode cL_law 683 = .ok (.iadd, 1) := by decide +kernel
theorem dL_law_684 : decode cL_law 684 = .ok (.iaload, 1) := by decide +kernel
theorem dL_law_685 : decode cL_law 685 = .ok (.aload_n 0, 1) := by decide +kernel
theorem dL_law_686 : decode cL_law 686 = .ok (.iload_n 3, 1) := by decide +kernel
theorem dL_law_687 : decode cL_law 687 = .ok (.iconst 2, 1) := by decide +kernel
theorem dL_law_688 : decode cL_law 688 = .ok (.iadd, 1) := by decide +kernel
theorem dL_law_689 : decode cL_law 689 = .ok (.iaload, 1) := by decide +kernel
theorem dL_law_690 : decode cL_law 690 = .ok (.invokevirtual 95, 3) := by decide +kernel
theorem dL_law_693 : decode cL_law 693 = .ok (.aload_n 2, 1) := by decide +kernel
theorem dL_law_694 : decode cL_law 694 = .ok (.aload_n 0, 1) := by decide +kernel
theorem dL_law_695 : decode cL_law 695 = .ok (.iload_n 3, 1) := by decide +kernel
theorem dL_law_696 : decode cL_law 696 = .ok (.iconst 1, 1) := by decide +kernel
theorem dL_law_697 : decode cL_law 697 = .ok (.iadd, 1) := by decide +kernel
theorem dL_law_698 : decode cL_law 698 = .ok (.iaload, 1) := by decide +kernel
theorem dL_law_699 : decode cL_law 699 = .ok (.aload_n 0, 1) := by decide +kernel
theorem dL_law_700 : decode cL_law 700 = .ok (.iload_n 3, 1) := by decide +kernel
theorem dL_law_701 : decode cL_law 701 = .ok (.iconst 2, 1) := by decide +kernel
theorem dL_law_702 : decode cL_law 702 = .ok (.iadd, 1) := by decide +kernel
theorem dL_law_703 : decode cL_law 703 = .ok (.iaload, 1) := by decide +kernel
theorem dL_law_704 : decode cL_law 704 = .ok (.invokevirtual 98, 3) := by decide +kernel
theorem dL_law_707 : decode cL_law 707 = .ok (.if_icmp .eq 74, 3) := by decide +kernel
theorem dL_law_710 : decode cL_law 710 = .ok (.iconst 0, 1) := by decide +kernel
theorem dL_law_711 : decode cL_law 711 = .ok (.ireturn, 1) := by decide +kernel
theorem dL_law_712 : decode cL_law 712 = .ok (.aload_n 1, 1) := by decide +kernel
theorem dL_law_713 : decode cL_law 713 = .ok (.aload_n 0, 1) := by decide +kernel
theorem dL_law_714 : decode cL_law 714 = .ok (.iload_n 3, 1) := by decide +kernel
theorem dL_law_715 : decode cL_law 715 = .ok (.iconst 1, 1) := by decide +kernel
theorem dL_law_716 : decode cL_law 716 = .ok (.iadd, 1) := by decide +kernel
theorem dL_law_717 : decode cL_law 717 = .ok (.iaload, 1) := by decide +kernel
theorem dL_law_718 : decode cL_law 718 = .ok (.invokevirtual 99, 3) := by decide +kernel
theorem dL_law_721 : decode cL_law 721 = .ok (.aload_n 2, 1) := by decide +kernel
theorem dL_law_722 : decode cL_law 722 = .ok (.aload_n 0, 1) := by decide +kernel
theorem dL_law_723 : decode cL_law 723 = .ok (.iload_n 3, 1) := by decide +kernel
theorem dL_law_724 : decode cL_law 724 = .ok (.iconst 1, 1) := by decide +kernel
theorem dL_law_725 : decode cL_law 725 = .ok (.iadd, 1) := by decide +kernel
theorem dL_law_726 : decode cL_law 726 = .ok (.iaload, 1) := by decide +kernel
theorem dL_law_727 : decode cL_law 727 = .ok (.invokevirtual 102, 3) := by decide +kernel
theorem dL_law_730 : decode cL_law 730 = .ok (.if_icmp .eq 51, 3) := by decide +kernel
theorem dL_law_733 : decode cL_law 733 = .ok (.iconst 0, 1) := by decide +kernel
theorem dL_law_734 : decode cL_law 734 = .ok (.ireturn, 1) := by decide +kernel
theorem dL_law_735 : decode cL_law 735 = .ok (.aload_n 1, 1) := by decide +kernel
theorem dL_law_736 : decode cL_law 736 = .ok (.aload_n 0, 1) := by decide +kernel
theorem dL_law_737 : decode cL_law 737 = .ok (.iload_n 3, 1) := by decide +kernel
theorem dL_law_738 : decode cL_law 738 = .ok (.iconst 1, 1) := by decide +kernel
theorem dL_law_739 : decode cL_law 739 = .ok (.iadd, 1) := by decide +kernel
theorem dL_law_740 : decode cL_law 740 = .ok (.iaload, 1) := by decide +kernel
theorem dL_law_741 : decode cL_law 741 = .ok (.invokevirtual 103, 3) := by decide +kernel
theorem dL_law_744 : decode cL_law 744 = .ok (.aload_n 2, 1) := by decide +kernel
theorem dL_law_745 : decode cL_law 745 = .ok (.aload_n 0, 1) := by decide +kernel
theorem dL_law_746 : decode cL_law 746 = .ok (.iload_n 3, 1) := by decide +kernel
theorem dL_law_747 : decode cL_law 747 = .ok (.iconst 1, 1) := by decide +kernel
theorem dL_law_748 : decode cL_law 748 = .ok (.iadd, 1) := by decide +kernel
theorem dL_law_749 : decode cL_law 749 = .ok (.iaload, 1) := by decide +kernel
theorem dL_law_750 : decode cL_law 750 = .ok (.invokevirtual 106, 3) := by decide +kernel
theorem dL_law_753 : decode cL_law 753 = .ok (.if_icmp .eq 28, 3) := by decide +kernel
theorem dL_law_756 : decode cL_law 756 = .ok (.iconst 0, 1) := by decide +kernel
theorem dL_law_757 : decode cL_law 757 = .ok (.ireturn, 1) := by decide +kernel
theorem dL_law_758 : decode cL_law 758 = .ok (.aload_n 1, 1) := by decide +kernel
theorem dL_law_759 : decode cL_law 759 = .ok (.aload_n 0, 1) := by decide +kernel
theorem dL_law_760 : decode cL_law 760 = .ok (.iload_n 3, 1) := by decide +kernel
theorem dL_law_761 : decode cL_law 761 = .ok (.iconst 1, 1) := by decide +kernel
theorem dL_law_762 : decode cL_law 762 = .ok (.iadd, 1) := by decide +kernel
theorem dL_law_763 : decode cL_law 763 = .ok (.iaload, 1) := by decide +kernel
theorem dL_law_764 : decode cL_law 764 = .ok (.invokevirtual 107, 3) := by decide +kernel
theorem dL_law_767 : decode cL_law 767 = .ok (.aload_n 2, 1) := by decide +kernel
theorem dL_law_768 : decode cL_law 768 = .ok (.aload_n 0, 1) := by decide +kernel
theorem dL_law_769 : decode cL_law 769 = .ok (.iload_n 3, 1) := by decide +kernel
theorem dL_law_770 : decode cL_law 770 = .ok (.iconst 1, 1) := by decide +kernel
theorem dL_law_771 : decode cL_law 771 = .ok (.iadd, 1) := by decide +kernel
theorem dL_law_772 : decode cL_law 772 = .ok (.iaload, 1) := by decide +kernel
theorem dL_law_773 : decode cL_law 773 = .ok (.invokevirtual 110, 3) := by decide +kernel
theorem dL_law_776 : decode cL_law 776 = .ok (.if_icmp .eq 5, 3) := by decide +kernel
theorem dL_law_779 : decode cL_law 779 = .ok (.iconst 0, 1) := by decide +kernel
theorem dL_law_780 : decode cL_law 780 = .ok (.ireturn, 1) := by decide +kernel
theorem dL_law_781 : decode cL_law 781 = .ok (.iinc 3 6, 3) := by decide +kernel
theorem dL_law_784 : decode cL_law 784 = .ok (.goto (-766), 3) := by decide +kernel
theorem dL_law_787 : decode cL_law 787 = .ok (.iconst 1, 1) := by decide +kernel
theorem dL_law_788 : decode cL_law 788 = .ok (.ireturn, 1) := by decide +kernel
