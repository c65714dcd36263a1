theorem dX4_tear_15 : decode cX4_tear 15 = .ok (.ireturn, 1) := by decide +kernel
theorem dX4_tear_16 : decode cX4_tear 16 = .ok (.aload_n 0, 1) := by decide +kernel
theorem dX4_tear_17 : decode cX4_tear 17 = .ok (.getfield 14, 3) := by decide +kernel
theorem dX4_tear_20 : decode cX4_tear 20 = .ok (.iload_n 1, 1) := by decide +kernel
theorem dX4_tear_21 : decode cX4_tear 21 = .ok (.invokevirtual 90, 3) := by decide +kernel
theorem dX4_tear_24 : decode cX4_tear 24 = .ok (.iconst 1, 1) := by decide +kernel
theorem dX4_tear_25 : decode cX4_tear 25 = .ok (.ireturn, 1) := by decide +kernel
theorem dX4_copy_0 : decode cX4_copy 0 = .ok (.aload_n 0, 1) := by decide +kernel
theorem dX4_copy_1 : decode cX4_copy 1 = .ok (.getfield 14, 3) := by decide +kernel
theorem dX4_copy_4 : decode cX4_copy 4 = .ok (.iload_n 1, 1) := by decide +kernel
theorem dX4_copy_5 : decode cX4_copy 5 = .ok (.invokevirtual 60, 3) := by decide +kernel
theorem dX4_copy_8 : decode cX4_copy 8 = .ok (.ifCond .eq 14, 3) := by decide +kernel
theorem dX4_copy_11 : decode cX4_copy 11 = .ok (.aload_n 0, 1) := by decide +kernel
theorem dX4_copy_12 : decode cX4_copy 12 = .ok (.getfield 14, 3) := by decide +kernel
theorem dX4_copy_15 : decode cX4_copy 15 = .ok (.iload_n 3, 1) := by decide +kernel
theorem dX4_copy_16 : decode cX4_copy 16 = .ok (.invokevirtual 60, 3) := by decide +kernel
theorem dX4_copy_19 : decode cX4_copy 19 = .ok (.ifCond .ne 5, 3) := by decide +kernel
theorem dX4_copy_22 : decode cX4_copy 22 = .ok (.iconst (-1), 1) := by decide +kernel
theorem dX4_copy_23 : decode cX4_copy 23 = .ok (.ireturn, 1) := by decide +kernel
theorem dX4_copy_24 : decode cX4_copy 24 = .ok (.iload 5, 2) := by decide +kernel
theorem dX4_copy_26 : decode cX4_copy 26 = .ok (.ifCond .ge 9, 3) := by decide +kernel
theorem dX4_copy_29 : decode cX4_copy 29 = .ok (.aload_n 0, 1) := by decide +kernel
theorem dX4_copy_30 : decode cX4_copy 30 = .ok (.iconst 5, 1) := by decide +kernel
theorem dX4_copy_31 : decode cX4_copy 31 = .ok (.invokevirtual 64, 3) := by decide +kernel
theorem dX4_copy_34 : decode cX4_copy 34 = .ok (.ireturn, 1) := by decide +kernel
theorem dX4_copy_35 : decode cX4_copy 35 = .ok (.aload_n 0, 1) := by decide +kernel
theorem dX4_copy_36 : decode cX4_copy 36 = .ok (.getfield 14, 3) := by decide +kernel
theorem dX4_copy_39 : decode cX4_copy 39 = .ok (.iload_n 1, 1) := by decide +kernel
theorem dX4_copy_40 : decode cX4_copy 40 = .ok (.invokevirtual 94, 3) := by decide +kernel
theorem dX4_copy_43 : decode cX4_copy 43 = .ok (.ifCond .eq 14, 3) := by decide +kernel
theorem dX4_copy_46 : decode cX4_copy 46 = .ok (.aload_n 0, 1) := by decide +kernel
theorem dX4_copy_47 : decode cX4_copy 47 = .ok (.getfield 14, 3) := by decide +kernel
theorem dX4_copy_50 : decode cX4_copy 50 = .ok (.iload_n 3, 1) := by decide +kernel
theorem dX4_copy_51 : decode cX4_copy 51 = .ok (.invokevirtual 94, 3) := by decide +kernel
theorem dX4_copy_54 : decode cX4_copy 54 = .ok (.ifCond .ne 9, 3) := by decide +kernel
theorem dX4_copy_57 : decode cX4_copy 57 = .ok (.aload_n 0, 1) := by decide +kernel
theorem dX4_copy_58 : decode cX4_copy 58 = .ok (.iconst 1, 1) := by decide +kernel
theorem dX4_copy_59 : decode cX4_copy 59 = .ok (.invokevirtual 64, 3) := by decide +kernel
theorem dX4_copy_62 : decode cX4_copy 62 = .ok (.ireturn, 1) := by decide +kernel
theorem dX4_copy_63 : decode cX4_copy 63 = .ok (.aload_n 0, 1) := by decide +kernel
theorem dX4_copy_64 : decode cX4_copy 64 = .ok (.getfield 14, 3) := by decide +kernel
theorem dX4_copy_67 : decode cX4_copy 67 = .ok (.iload_n 1, 1) := by decide +kernel
theorem dX4_copy_68 : decode cX4_copy 68 = .ok (.iload_n 2, 1) := by decide +kernel
theorem dX4_copy_69 : decode cX4_copy 69 = .ok (.iload 5, 2) := by decide +kernel
theorem dX4_copy_71 : decode cX4_copy 71 = .ok (.invokevirtual 97, 3) := by decide +kernel
theorem dX4_copy_74 : decode cX4_copy 74 = .ok (.ifCond .eq 18, 3) := by decide +kernel
theorem dX4_copy_77 : decode cX4_copy 77 = .ok (.aload_n 0, 1) := by decide +kernel
theorem dX4_copy_78 : decode cX4_copy 78 = .ok (.getfield 14, 3) := by decide +kernel
theorem dX4_copy_81 : decode cX4_copy 81 = .ok (.iload_n 3, 1) := by decide +kernel
theorem dX4_copy_82 : decode cX4_copy 82 = .ok (.iload 4, 2) := by decide +kernel
theorem dX4_copy_84 : decode cX4_copy 84 = .ok (.iload 5, 2) := by decide +kernel
theorem dX4_copy_86 : decode cX4_copy 86 = .ok (.invokevirtual 97, 3) := by decide +kernel
theorem dX4_copy_89 : decode cX4_copy 89 = .ok (.ifCond .ne 9, 3) := by decide +kernel
theorem dX4_copy_92 : decode cX4_copy 92 = .ok (.aload_n 0, 1) := by decide +kernel
theorem dX4_copy_93 : decode cX4_copy 93 = .ok (.iconst 2, 1) := by decide +kernel
theorem dX4_copy_94 : decode cX4_copy 94 = .ok (.invokevirtual 64, 3) := by decide +kernel
theorem dX4_copy_97 : decode cX4_copy 97 = .ok (.ireturn, 1) := by decide +kernel
theorem dX4_copy_98 : decode cX4_copy 98 = .ok (.aload_n 0, 1) := by decide +kernel
theorem dX4_copy_99 : decode cX4_copy 99 = .ok (.getfield 14, 3) := by decide +kernel
theorem dX4_copy_102 : decode cX4_copy 102 = .ok (.iload_n 1, 1) := by decide +kernel
theorem dX4_copy_103 : decode cX4_copy 103 = .ok (.iload_n 2, 1) := by decide +kernel
theorem dX4_copy_104 : decode cX4_copy 104 = .ok (.iload_n 3, 1) := by decide +kernel
theorem dX4_copy_105 : decode cX4_copy 105 = .ok (.iload 4, 2) := by decide +kernel
theorem dX4_copy_107 : decode cX4_copy 107 = .ok (.iload 5, 2) := by decide +kernel
theorem dX4_copy_109 : decode cX4_copy 109 = .ok (.invokevirtual 101, 3) := by decide +kernel
theorem dX4_copy_112 : decode cX4_copy 112 = .ok (.iconst 1, 1) := by decide +kernel
theorem dX4_copy_113 : decode cX4_copy 113 = .ok (.ireturn, 1) := by decide +kernel
theorem dX4_mean_0 : decode cX4_mean 0 = .ok (.aload_n 0, 1) := by decide +kernel
theorem dX4_mean_1 : decode cX4_mean 1 = .ok (.aload_n 0, 1) := by decide +kernel
theorem dX4_mean_2 : decode cX4_mean 2 = .ok (.getfield 14, 3) := by decide +kernel
theorem dX4_mean_5 : decode cX4_mean 5 = .ok (.iload_n 1, 1) := by decide +kernel
theorem dX4_mean_6 : decode cX4_mean 6 = .ok (.invokevirtual 86, 3) := by decide +kernel
theorem dX4_mean_9 : decode cX4_mean 9 = .ok (.istore_n 2, 1) := by decide +kernel
theorem dX4_mean_10 : decode cX4_mean 10 = .ok (.iload_n 2, 1) := by decide +kernel
theorem dX4_mean_11 : decode cX4_mean 11 = .ok (.ifCond .eq 5, 3) := by decide +kernel
theorem dX4_mean_14 : decode cX4_mean 14 = .ok (.iload_n 2, 1) := by decide +kernel
theorem dX4_mean_15 : decode cX4_mean 15 = .ok (.ireturn, 1) := by decide +kernel
theorem dX4_mean_16 : decode cX4_mean 16 = .ok (.aload_n 0, 1) := by decide +kernel
theorem dX4_mean_17 : decode cX4_mean 17 = .ok (.getfield 14, 3) := by decide +kernel
theorem dX4_mean_20 : decode cX4_mean 20 = .ok (.iload_n 1, 1) := by decide +kernel
theorem dX4_mean_21 : decode cX4_mean 21 = .ok (.invokevirtual 105, 3) := by decide +kernel
theorem dX4_mean_24 : decode cX4_mean 24 = .ok (.istore_n 3, 1) := by decide +kernel
theorem dX4_mean_25 : decode cX4_mean 25 = .ok (.iload_n 3, 1) := by decide +kernel
theorem dX4_mean_26 : decode cX4_mean 26 = .ok (.ifCond .gt 9, 3) := by decide +kernel
theorem dX4_mean_29 : decode cX4_mean 29 = .ok (.aload_n 0, 1) := by decide +kernel
theorem dX4_mean_30 : decode cX4_mean 30 = .ok (.iconst 4, 1) := by decide +kernel
theorem dX4_mean_31 : decode cX4_mean 31 = .ok (.invokevirtual 64, 3) := by decide +kernel
theorem dX4_mean_34 : decode cX4_mean 34 = .ok (.ireturn, 1) := by decide +kernel
theorem dX4_mean_35 : decode cX4_mean 35 = .ok (.lconst 0, 1) := by decide +kernel
theorem dX4_mean_36 : decode cX4_mean 36 = .ok (.lstore 4, 2) := by decide +kernel
theorem dX4_mean_38 : decode cX4_mean 38 = .ok (.iconst 0, 1) := by decide +kernel
theorem dX4_mean_39 : decode cX4_mean 39 = .ok (.istore 6, 2) := by decide +kernel
theorem dX4_mean_41 : decode cX4_mean 41 = .ok (.iload 6, 2) := by decide +kernel
theorem dX4_mean_43 : decode cX4_mean 43 = .ok (.iload_n 3, 1) := by decide +kernel
theorem dX4_mean_44 : decode cX4_mean 44 = .ok (.if_icmp .ge 25, 3) := by decide +kernel
theorem dX4_mean_47 : decode cX4_mean 47 = .ok (.lload 4, 2) := by decide +kernel
theorem dX4_mean_49 : decode cX4_mean 49 = .ok (.aload_n 0, 1) := by decide +kernel
theorem dX4_mean_50 : decode cX4_mean 50 = .ok (.getfield 14, 3) := by decide +kernel
theorem dX4_mean_53 : decode cX4_mean 53 = .ok (.iload_n 1, 1) := by decide +kernel
theorem dX4_mean_54 : decode cX4_mean 54 = .ok (.iload 6, 2) := by decide +kernel
theorem dX4_mean_56 : decode cX4_mean 56 = .ok (.invokevirtual 76, 3) := by decide +kernel
theorem dX4_mean_59 : decode cX4_mean 59 = .ok (.i2l, 1) := by decide +kernel
theorem dX4_mean_60 : decode cX4_mean 60 = .ok (.ladd, 1) := by decide +kernel
theorem dX4_mean_61 : decode cX4_mean 61 = .ok (.lstore 4, 2) := by decide +kernel
theorem dX4_mean_63 : decode cX4_mean 63 = .ok (.iinc 6 1, 3) := by decide +kernel
theorem dX4_mean_66 : decode cX4_mean 66 = .ok (.goto (-25), 3) := by decide +kernel
theorem dX4_mean_69 : decode cX4_mean 69 = .ok (.aload_n 0, 1) := by decide +kernel
theorem dX4_mean_70 : decode cX4_mean 70 = .ok (.lload 4, 2) := by decide +kernel
theorem dX4_mean_72 : decode cX4_mean 72 = .ok (.iload_n 3, 1) := by decide +kernel
theorem dX4_mean_73 : decode cX4_mean 73 = .ok (.i2l, 1) := by decide +kernel
theorem dX4_mean_74 : decode cX4_mean 74 = .ok (.ldiv, 1) := by decide +kernel
theorem dX4_mean_75 : decode cX4_mean 75 = .ok (.l2i, 1) := by decide +kernel
theorem dX4_mean_76 : decode cX4_mean 76 = .ok (.invokevirtual 83, 3) := by decide +kernel
theorem dX4_mean_79 : decode cX4_mean 79 = .ok (.ireturn, 1) := by decide +kernel
theorem dX4_text_0 : decode cX4_text 0 = .ok (.aload_n 0, 1) := by decide +kernel
theorem dX4_text_1 : decode cX4_text 1 = .ok (.getfield 18, 3) := by decide +kernel
theorem dX4_text_4 : decode cX4_text 4 = .ok (.iload_n 1, 1) := by decide +kernel
theorem dX4_text_5 : decode cX4_text 5 = .ok (.invokevirtual 60, 3) := by decide +kernel
theorem dX4_text_8 : decode cX4_text 8 = .ok (.ifCond .eq 9, 3) := by decide +kernel
theorem dX4_text_11 : decode cX4_text 11 = .ok (.iload_n 2, 1) := by decide +kernel
theorem dX4_text_12 : decode cX4_text 12 = .ok (.bipush 60, 2) := by decide +kernel
theorem dX4_text_14 : decode cX4_text 14 = .ok (.if_icmp .le 5, 3) := by decide +kernel
theorem dX4_text_17 : decode cX4_text 17 = .ok (.iconst (-1), 1) := by decide +kernel
theorem dX4_text_18 : decode cX4_text 18 = .ok (.ireturn, 1) := by decide +kernel
theorem dX4_text_19 : decode cX4_text 19 = .ok (.iload_n 2, 1) := by decide +kernel
theorem dX4_text_20 : decode cX4_text 20 = .ok (.ifCond .ge 9, 3) := by decide +kernel
theorem dX4_text_23 : decode cX4_text 23 = .ok (.aload_n 0, 1) := by decide +kernel
theorem dX4_text_24 : decode cX4_text 24 = .ok (.iconst 5, 1) := by decide +kernel
theorem dX4_text_25 : decode cX4_text 25 = .ok (.invokevirtual 64, 3) := by decide +kernel
theorem dX4_text_28 : decode cX4_text 28 = .ok (.ireturn, 1) := by decide +kernel
theorem dX4_text_29 : decode cX4_text 29 = .ok (.aload_n 0, 1) := by decide +kernel
theorem dX4_text_30 : decode cX4_text 30 = .ok (.getfield 18, 3) := by decide +kernel
theorem dX4_text_33 : decode cX4_text 33 = .ok (.iload_n 1, 1) := by decide +kernel
theorem dX4_text_34 : decode cX4_text 34 = .ok (.iload_n 2, 1) := by decide +kernel
theorem dX4_text_35 : decode cX4_text 35 = .ok (.bipush 32, 2) := by decide +kernel
theorem dX4_text_37 : decode cX4_text 37 = .ok (.invokevirtual 68, 3) := by decide +kernel
theorem dX4_text_40 : decode cX4_text 40 = .ok (.iload_n 2, 1) := by decide +kernel
theorem dX4_text_41 : decode cX4_text 41 = .ok (.ireturn, 1) := by decide +kernel
theorem dX4_put_0 : decode cX4_put 0 = .ok (.aload_n 0, 1) := by decide +kernel
theorem dX4_put_1 : decode cX4_put 1 = .ok (.aload_n 0, 1) := by decide +kernel
theorem dX4_put_2 : decode cX4_put 2 = .ok (.getfield 18, 3) := by decide +kernel
theorem dX4_put_5 : decode cX4_put 5 = .ok (.iload_n 1, 1) := by decide +kernel
theorem dX4_put_6 : decode cX4_put 6 = .ok (.iload_n 2, 1) := by decide +kernel
theorem dX4_put_7 : decode cX4_put 7 = .ok (.invokevirtual 72, 3) := by decide +kernel
theorem dX4_put_10 : decode cX4_put 10 = .ok (.istore 4, 2) := by decide +kernel
theorem dX4_put_12 : decode cX4_put 12 = .ok (.iload 4, 2) := by decide +kernel
theorem dX4_put_14 : decode cX4_put 14 = .ok (.ifCond .eq 6, 3) := by decide +kernel
theorem dX4_put_17 : decode cX4_put 17 = .ok (.iload 4, 2) := by decide +kernel
theorem dX4_put_19 : decode cX4_put 19 = .ok (.ireturn, 1) := by decide +kernel
theorem dX4_put_20 : decode cX4_put 20 = .ok (.aload_n 0, 1) := by decide +kernel
theorem dX4_put_21 : decode cX4_put 21 = .ok (.getfield 18, 3) := by decide +kernel
theorem dX4_put_24 : decode cX4_put 24 = .ok (.iload_n 1, 1) := by decide +kernel
theorem dX4_put_25 : decode cX4_put 25 = .ok (.iload_n 2, 1) := by decide +kernel
theorem dX4_put_26 : decode cX4_put 26 = .ok (.invokevirtual 76, 3) := by decide +kernel
theorem dX4_put_29 : decode cX4_put 29 = .ok (.istore 5, 2) := by decide +kernel
theorem dX4_put_31 : decode cX4_put 31 = .ok (.aload_n 0, 1) := by decide +kernel
theorem dX4_put_32 : decode cX4_put 32 = .ok (.getfield 18, 3) := by decide +kernel
theorem dX4_put_35 : decode cX4_put 35 = .ok (.iload_n 1, 1) := by decide +kernel
theorem dX4_put_36 : decode cX4_put 36 = .ok (.iload_n 2, 1) := by decide +kernel
theorem dX4_put_37 : decode cX4_put 37 = .ok (.iload_n 3, 1) := by decide +kernel
theorem dX4_put_38 : decode cX4_put 38 = .ok (.i2b, 1) := by decide +kernel
theorem dX4_put_39 : decode cX4_put 39 = .ok (.invokevirtual 80, 3) := by decide +kernel
theorem dX4_put_42 : decode cX4_put 42 = .ok (.iload 5, 2) := by decide +kernel
theorem dX4_put_44 : decode cX4_put 44 = .ok (.sipush 1000, 3) := by decide +kernel
theorem dX4_put_47 : decode cX4_put 47 = .ok (.iadd, 1) := by decide +kernel
theorem dX4_put_48 : decode cX4_put 48 = .ok (.ireturn, 1) := by decide +kernel
theorem dX4_fault_0 : decode cX4_fault 0 = .ok (.aload_n 0, 1) := by decide +kernel
theorem dX4_fault_1 : decode cX4_fault 1 = .ok (.aload_n 0, 1) := by decide +kernel
theorem dX4_fault_2 : decode cX4_fault 2 = .ok (.getfield 18, 3) := by decide +kernel
theorem dX4_fault_5 : decode cX4_fault 5 = .ok (.iload_n 1, 1) := by decide +kernel
theorem dX4_fault_6 : decode cX4_fault 6 = .ok (.invokevirtual 86, 3) := by decide +kernel
theorem dX4_fault_9 : decode cX4_fault 9 = .ok (.istore_n 2, 1) := by decide +kernel
theorem dX4_fault_10 : decode cX4_fault 10 = .ok (.iload_n 2, 1) := by decide +kernel
theorem dX4_fault_11 : decode cX4_fault 11 = .ok (.ifCond .eq 7, 3) := by decide +kernel
theorem dX4_fault_14 : decode cX4_fault 14 = .ok (.iload_n 2, 1) := by decide +kernel
theorem dX4_fault_15 : decode cX4_fault 15 = .ok (.goto 15, 3) := by decide +kernel
theorem dX4_fault_18 : decode cX4_fault 18 = .ok (.aload_n 0, 1) := by decide +kernel
theorem dX4_fault_19 : decode cX4_fault 19 = .ok (.getfield 27, 3) := by decide +kernel
theorem dX4_fault_22 : decode cX4_fault 22 = .ok (.aload_n 0, 1) := by decide +kernel
theorem dX4_fault_23 : decode cX4_fault 23 = .ok (.getfield 18, 3) := by decide +kernel
theorem dX4_fault_26 : decode cX4_fault 26 = .ok (.iload_n 1, 1) := by decide +kernel
theorem dX4_fault_27 : decode cX4_fault 27 = .ok (.invokevirtual 108, 3) := by decide +kernel
theorem dX4_fault_30 : decode cX4_fault 30 = .ok (.ireturn, 1) := by decide +kernel
theorem dX4_house_0 : decode cX4_house 0 = .ok (.aload_n 0, 1) := by decide +kernel
theorem dX4_house_1 : decode cX4_house 1 = .ok (.aload_n 0, 1) := by decide +kernel
theorem dX4_house_2 : decode cX4_house 2 = .ok (.getfield 18, 3) := by decide +kernel
theorem dX4_house_5 : decode cX4_house 5 = .ok (.iload_n 1, 1) := by decide +kernel
theorem dX4_house_6 : decode cX4_house 6 = .ok (.invokevirtual 86, 3) := by decide +kernel
theorem dX4_house_9 : decode cX4_house 9 = .ok (.istore_n 2, 1) := by decide +kernel
theorem dX4_house_10 : decode cX4_house 10 = .ok (.iload_n 2, 1) := by decide +kernel
theorem dX4_house_11 : decode cX4_house 11 = .ok (.ifCond .eq 5, 3) := by decide +kernel
theorem dX4_house_14 : decode cX4_house 14 = .ok (.iload_n 2, 1) := by decide +kernel
theorem dX4_house_15 : decode cX4_house 15 = .ok (.ireturn, 1) := by decide +kernel
theorem dX4_house_16 : decode cX4_house 16 = .ok (.aload_n 0, 1) := by decide +kernel
theorem dX4_house_17 : decode cX4_house 17 = .ok (.getfield 27, 3) := by decide +kernel
theorem dX4_house_20 : decode cX4_house 20 = .ok (.aload_n 0, 1) := by decide +kernel
theorem dX4_house_21 : decode cX4_house 21 = .ok (.getfield 18, 3) := by decide +kernel
theorem dX4_house_24 : decode cX4_house 24 = .ok (.iload_n 1, 1) := by decide +kernel
theorem dX4_house_25 : decode cX4_house 25 = .ok (.invokevirtual 108, 3) := by decide +kernel
theorem dX4_house_28 : decode cX4_house 28 = .ok (.bipush (-9), 2) := by decide +kernel
theorem dX4_house_30 : decode cX4_house 30 = .ok (.if_icmp .eq 6, 3) := by decide +kernel
theorem dX4_house_33 : decode cX4_house 33 = .ok (.bipush (-4), 2) := by decide +kernel
theorem dX4_house_35 : decode cX4_house 35 = .ok (.ireturn, 1) := by decide +kernel
theorem dX4_house_36 : decode cX4_house 36 = .ok (.aload_n 0, 1) := by decide +kernel
theorem dX4_house_37 : decode cX4_house 37 = .ok (.getfield 31, 3) := by decide +kernel
theorem dX4_house_40 : decode cX4_house 40 = .ok (.aload_n 0, 1) := by decide +kernel
theorem dX4_house_41 : decode cX4_house 41 = .ok (.getfield 18, 3) := by decide +kernel
theorem dX4_house_44 : decode cX4_house 44 = .ok (.iload_n 1, 1) := by decide +kernel
theorem dX4_house_45 : decode cX4_house 45 = .ok (.invokevirtual 108, 3) := by decide +kernel
theorem dX4_house_48 : decode cX4_house 48 = .ok (.pop, 1) := by decide +kernel
theorem dX4_house_49 : decode cX4_house 49 = .ok (.aload_n 0, 1) := by decide +kernel
theorem dX4_house_50 : decode cX4_house 50 = .ok (.getfield 39, 3) := by decide +kernel
theorem dX4_house_53 : decode cX4_house 53 = .ok (.invokevirtual 111, 3) := by decide +kernel
theorem dX4_house_56 : decode cX4_house 56 = .ok (.iconst 0, 1) := by decide +kernel
theorem dX4_house_57 : decode cX4_house 57 = .ok (.istore_n 3, 1) := by decide +kernel
theorem dX4_house_58 : decode cX4_house 58 = .ok (.iload_n 3, 1) := by decide +kernel
theorem dX4_house_59 : decode cX4_house 59 = .ok (.iconst 3, 1) := by decide +kernel
theorem dX4_house_60 : decode cX4_house 60 = .ok (.if_icmp .ge 17, 3) := by decide +kernel
theorem dX4_house_63 : decode cX4_house 63 = .ok (.aload_n 0, 1) := by decide +kernel
theorem dX4_house_64 : decode cX4_house 64 = .ok (.getfield 21, 3) := by decide +kernel
theorem dX4_house_67 : decode cX4_house 67 = .ok (.iload_n 3, 1) := by decide +kernel
theorem dX4_house_68 : decode cX4_house 68 = .ok (.invokevirtual 90, 3) := by decide +kernel
theorem dX4_house_71 : decode cX4_house 71 = .ok (.iinc 3 1, 3) := by decide +kernel
theorem dX4_house_74 : decode cX4_house 74 = .ok (.goto (-16), 3) := by decide +kernel
theorem dX4_house_77 : decode cX4_house 77 = .ok (.aload_n 0, 1) := by decide +kernel
theorem dX4_house_78 : decode cX4_house 78 = .ok (.getfield 31, 3) := by decide +kernel
theorem dX4_house_81 : decode cX4_house 81 = .ok (.getfield 114, 3) := by decide +kernel
theorem dX4_house_84 : decode cX4_house 84 = .ok (.ireturn, 1) := by decide +kernel
theorem dX4_sitter_0 : decode cX4_sitter 0 = .ok (.aload_n 0, 1) := by decide +kernel
theorem dX4_sitter_1 : decode cX4_sitter 1 = .ok (.getfield 31, 3) := by decide +kernel
theorem dX4_sitter_4 : decode cX4_sitter 4 = .ok (.iload_n 1, 1) := by decide +kernel
theorem dX4_sitter_5 : decode cX4_sitter 5 = .ok (.invokevirtual 118, 3) := by decide +kernel
theorem dX4_sitter_8 : decode cX4_sitter 8 = .ok (.ifCond .eq 13, 3) := by decide +kernel
theorem dX4_sitter_11 : decode cX4_sitter 11 = .ok (.iload_n 2, 1) := by decide +kernel
theorem dX4_sitter_12 : decode cX4_sitter 12 = .ok (.ifCond .lt 9, 3) := by decide +kernel
theorem dX4_sitter_15 : decode cX4_sitter 15 = .ok (.iload_n 2, 1) := by decide +kernel
theorem dX4_sitter_16 : decode cX4_sitter 16 = .ok (.bipush 8, 2) := by decide +kernel
theorem dX4_sitter_18 : decode cX4_sitter 18 = .ok (.if_icmp .lt 5, 3) := by decide +kernel
theorem dX4_sitter_21 : decode cX4_sitter 21 = .ok (.iconst (-1), 1) := by decide +kernel
theorem dX4_sitter_22 : decode cX4_sitter 22 = .ok (.ireturn, 1) := by decide +kernel
theorem dX4_sitter_23 : decode cX4_sitter 23 = .ok (.aload_n 0, 1) := by decide +kernel
theorem dX4_sitter_24 : decode cX4_sitter 24 = .ok (.aload_n 0, 1) := by decide +kernel
theorem dX4_sitter_25 : decode cX4_sitter 25 = .ok (.getfield 39, 3) := by decide +kernel
theorem dX4_sitter_28 : decode cX4_sitter 28 = .ok (.iload_n 1, 1) := by decide +kernel
theorem dX4_sitter_29 : decode cX4_sitter 29 = .ok (.iload_n 2, 1) := by decide +kernel
theorem dX4_sitter_30 : decode cX4_sitter 30 = .ok (.invokevirtual 121, 3) := by decide +kernel
theorem dX4_sitter_33 : decode cX4_sitter 33 = .ok (.invokevirtual 83, 3) := by decide +kernel
theorem dX4_sitter_36 : decode cX4_sitter 36 = .ok (.ireturn, 1) := by decide +kernel
theorem dX4_mark_0 : decode cX4_mark 0 = .ok (.aload_n 0, 1) := by decide +kernel
theorem dX4_mark_1 : decode cX4_mark 1 = .ok (.getfield 31, 3) := by decide +kernel
theorem dX4_mark_4 : decode cX4_mark 4 = .ok (.iload_n 1, 1) := by decide +kernel
theorem dX4_mark_5 : decode cX4_mark 5 = .ok (.invokevirtual 118, 3) := by decide +kernel
theorem dX4_mark_8 : decode cX4_mark 8 = .ok (.ifCond .eq 13, 3) := by decide +kernel
theorem dX4_mark_11 : decode cX4_mark 11 = .ok (.iload_n 2, 1) := by decide +kernel
theorem dX4_mark_12 : decode cX4_mark 12 = .ok (.ifCond .le 9, 3) := by decide +kernel
theorem dX4_mark_15 : decode cX4_mark 15 = .ok (.iload_n 2, 1) := by decide +kernel
theorem dX4_mark_16 : decode cX4_mark 16 = .ok (.bipush 6, 2) := by decide +kernel
theorem dX4_mark_18 : decode cX4_mark 18 = .ok (.if_icmp .lt 5, 3) := by decide +kernel
theorem dX4_mark_21 : decode cX4_mark 21 = .ok (.iconst (-1), 1) := by decide +kernel
theorem dX4_mark_22 : decode cX4_mark 22 = .ok (.ireturn, 1) := by decide +kernel
theorem dX4_mark_23 : decode cX4_mark 23 = .ok (.aload_n 0, 1) := by decide +kernel
theorem dX4_mark_24 : decode cX4_mark 24 = .ok (.getfield 31, 3) := by decide +kernel
theorem dX4_mark_27 : decode cX4_mark 27 = .ok (.getfield 124, 3) := by decide +kernel
theorem dX4_mark_30 : decode cX4_mark 30 = .ok (.iload_n 1, 1) := by decide +kernel
theorem dX4_mark_31 : decode cX4_mark 31 = .ok (.iaload, 1) := by decide +kernel
theorem dX4_mark_32 : decode cX4_mark 32 = .ok (.iload_n 2, 1) := by decide +kernel
theorem dX4_mark_33 : decode cX4_mark 33 = .ok (.invokestatic 127, 3) := by decide +kernel
theorem dX4_mark_36 : decode cX4_mark 36 = .ok (.ifCond .eq 15, 3) := by decide +kernel
theorem dX4_mark_39 : decode cX4_mark 39 = .ok (.aload_n 0, 1) := by decide +kernel
theorem dX4_mark_40 : decode cX4_mark 40 = .ok (.getfield 39, 3) := by decide +kernel
theorem dX4_mark_43 : decode cX4_mark 43 = .ok (.iload_n 1, 1) := by decide +kernel
theorem dX4_mark_44 : decode cX4_mark 44 = .ok (.iload_n 2, 1) := by decide +kernel
theorem dX4_mark_45 : decode cX4_mark 45 = .ok (.invokevirtual 131, 3) := by decide +kernel
theorem dX4_mark_48 : decode cX4_mark 48 = .ok (.goto 8, 3) := by decide +kernel
theorem dX4_mark_51 : decode cX4_mark 51 = .ok (.aload_n 0, 1) := by decide +kernel
theorem dX4_mark_52 : decode cX4_mark 52 = .ok (.iconst 3, 1) := by decide +kernel
theorem dX4_mark_53 : decode cX4_mark 53 = .ok (.invokevirtual 64, 3) := by decide +kernel
theorem dX4_mark_56 : decode cX4_mark 56 = .ok (.ireturn, 1) := by decide +kernel
theorem dX4_lines_0 : decode cX4_lines 0 = .ok (.iload_n 1, 1) := by decide +kernel
theorem dX4_lines_1 : decode cX4_lines 1 = .ok (.ifCond .lt 14, 3) := by decide +kernel
theorem dX4_lines_4 : decode cX4_lines 4 = .ok (.iload_n 1, 1) := by decide +kernel
theorem dX4_lines_5 : decode cX4_lines 5 = .ok (.aload_n 0, 1) := by decide +kernel
theorem dX4_lines_6 : decode cX4_lines 6 = .ok (.getfield 31, 3) := by decide +kernel
theorem dX4_lines_9 : decode cX4_lines 9 = .ok (.getfield 134, 3) := by decide +kernel
theorem dX4_lines_12 : decode cX4_lines 12 = .ok (.if_icmp .lt 7, 3) := by decide +kernel
theorem dX4_lines_15 : decode cX4_lines 15 = .ok (.iconst (-1), 1) := by decide +kernel
theorem dX4_lines_16 : decode cX4_lines 16 = .ok (.goto 12, 3) := by decide +kernel
theorem dX4_lines_19 : decode cX4_lines 19 = .ok (.aload_n 0, 1) := by decide +kernel
theorem dX4_lines_20 : decode cX4_lines 20 = .ok (.getfield 31, 3) := by decide +kernel
theorem dX4_lines_23 : decode cX4_lines 23 = .ok (.getfield 137, 3) := by decide +kernel
theorem dX4_lines_26 : decode cX4_lines 26 = .ok (.iload_n 1, 1) := by decide +kernel
theorem dX4_lines_27 : decode cX4_lines 27 = .ok (.iaload, 1) := by decide +kernel
theorem dX4_lines_28 : decode cX4_lines 28 = .ok (.ireturn, 1) := by decide +kernel
theorem dX4_call_0 : decode cX4_call 0 = .ok (.aload_n 0, 1) := by decide +kernel
theorem dX4_call_1 : decode cX4_call 1 = .ok (.getfield 31, 3) := by decide +kernel
theorem dX4_call_4 : decode cX4_call 4 = .ok (.iload_n 1, 1) := by decide +kernel
theorem dX4_call_5 : decode cX4_call 5 = .ok (.invokevirtual 118, 3) := by decide +kernel
theorem dX4_call_8 : decode cX4_call 8 = .ok (.ifCond .ne 5, 3) := by decide +kernel
theorem dX4_call_11 : decode cX4_call 11 = .ok (.iconst (-1), 1) := by decide +kernel
theorem dX4_call_12 : decode cX4_call 12 = .ok (.ireturn, 1) := by decide +kernel
theorem dX4_call_13 : decode cX4_call 13 = .ok (.aload_n 0, 1) := by decide +kernel
theorem dX4_call_14 : decode cX4_call 14 = .ok (.getfield 39, 3) := by decide +kernel
theorem dX4_call_17 : decode cX4_call 17 = .ok (.invokevirtual 140, 3) := by decide +kernel
theorem dX4_call_20 : decode cX4_call 20 = .ok (.ifCond .eq 17, 3) := by decide +kernel
theorem dX4_call_23 : decode cX4_call 23 = .ok (.aload_n 0, 1) := by decide +kernel
theorem dX4_call_24 : decode cX4_call 24 = .ok (.getfield 39, 3) := by decide +kernel
theorem dX4_call_27 : decode cX4_call 27 = .ok (.invokevirtual 144, 3) := by decide +kernel
theorem dX4_call_30 : decode cX4_call 30 = .ok (.iload_n 1, 1) := by decide +kernel
theorem dX4_call_31 : decode cX4_call 31 = .ok (.invokestatic 147, 3) := by decide +kernel
theorem dX4_call_34 : decode cX4_call 34 = .ok (.ifCond .ne 6, 3) := by decide +kernel
theorem dX4_call_37 : decode cX4_call 37 = .ok (.bipush (-4), 2) := by decide +kernel
theorem dX4_call_39 : decode cX4_call 39 = .ok (.ireturn, 1) := by decide +kernel
theorem dX4_call_40 : decode cX4_call 40 = .ok (.aload_n 0, 1) := by decide +kernel
theorem dX4_call_41 : decode cX4_call 41 = .ok (.getfield 39, 3) := by decide +kernel
theorem dX4_call_44 : decode cX4_call 44 = .ok (.getfield 150, 3) := by decide +kernel
theorem dX4_call_47 : decode cX4_call 47 = .ok (.bipush 40, 2) := by decide +kernel
theorem dX4_call_49 : decode cX4_call 49 = .ok (.if_icmp .lt 6, 3) := by decide +kernel
theorem dX4_call_52 : decode cX4_call 52 = .ok (.bipush (-2), 2) := by decide +kernel
theorem dX4_call_54 : decode cX4_call 54 = .ok (.ireturn, 1) := by decide +kernel
theorem dX4_call_55 : decode cX4_call 55 = .ok (.aload_n 0, 1) := by decide +kernel
theorem dX4_call_56 : decode cX4_call 56 = .ok (.getfield 39, 3) := by decide +kernel
theorem dX4_call_59 : decode cX4_call 59 = .ok (.iload_n 1, 1) := by decide +kernel
theorem dX4_call_60 : decode cX4_call 60 = .ok (.invokevirtual 153, 3) := by decide +kernel
theorem dX4_call_63 : decode cX4_call 63 = .ok (.istore_n 2, 1) := by decide +kernel
theorem dX4_call_64 : decode cX4_call 64 = .ok (.aload_n 0, 1) := by decide +kernel
theorem dX4_call_65 : decode cX4_call 65 = .ok (.getfield 39, 3) := by decide +kernel
theorem dX4_call_68 : decode cX4_call 68 = .ok (.getfield 156, 3) := by decide +kernel
theorem dX4_call_71 : decode cX4_call 71 = .ok (.istore_n 3, 1) := by decide +kernel
theorem dX4_call_72 : decode cX4_call 72 = .ok (.aload_n 0, 1) := by decide +kernel
theorem dX4_call_73 : decode cX4_call 73 = .ok (.getfield 39, 3) := by decide +kernel
theorem dX4_call_76 : decode cX4_call 76 = .ok (.iload_n 1, 1) := by decide +kernel
theorem dX4_call_77 : decode cX4_call 77 = .ok (.invokevirtual 159, 3) := by decide +kernel
theorem dX4_call_80 : decode cX4_call 80 = .ok (.aload_n 0, 1) := by decide +kernel
theorem dX4_call_81 : decode cX4_call 81 = .ok (.iload_n 2, 1) := by decide +kernel
theorem dX4_call_82 : decode cX4_call 82 = .ok (.invokevirtual 83, 3) := by decide +kernel
theorem dX4_call_85 : decode cX4_call 85 = .ok (.pop, 1) := by decide +kernel
theorem dX4_call_86 : decode cX4_call 86 = .ok (.aload_n 0, 1) := by decide +kernel
theorem dX4_call_87 : decode cX4_call 87 = .ok (.getfield 39, 3) := by decide +kernel
theorem dX4_call_90 : decode cX4_call 90 = .ok (.getfield 156, 3) := by decide +kernel
theorem dX4_call_93 : decode cX4_call 93 = .ok (.iload_n 3, 1) := by decide +kernel
theorem dX4_call_94 : decode cX4_call 94 = .ok (.isub, 1) := by decide +kernel
theorem dX4_call_95 : decode cX4_call 95 = .ok (.ireturn, 1) := by decide +kernel
theorem dX4_cut_0 : decode cX4_cut 0 = .ok (.aload_n 0, 1) := by decide +kernel
theorem dX4_cut_1 : decode cX4_cut 1 = .ok (.getfield 39, 3) := by decide +kernel
theorem dX4_cut_4 : decode cX4_cut 4 = .ok (.invokevirtual 140, 3) := by decide +kernel
theorem dX4_cut_7 : decode cX4_cut 7 = .ok (.ifCond .ne 6, 3) := by decide +kernel
theorem dX4_cut_10 : decode cX4_cut 10 = .ok (.bipush (-4), 2) := by decide +kernel
theorem dX4_cut_12 : decode cX4_cut 12 = .ok (.ireturn, 1) := by decide +kernel
theorem dX4_cut_13 : decode cX4_cut 13 = .ok (.aload_n 0, 1) := by decide +kernel
theorem dX4_cut_14 : decode cX4_cut 14 = .ok (.getfield 39, 3) := by decide +kernel
theorem dX4_cut_17 : decode cX4_cut 17 = .ok (.getfield 150, 3) := by decide +kernel
theorem dX4_cut_20 : decode cX4_cut 20 = .ok (.bipush 40, 2) := by decide +kernel
theorem dX4_cut_22 : decode cX4_cut 22 = .ok (.if_icmp .lt 6, 3) := by decide +kernel
theorem dX4_cut_25 : decode cX4_cut 25 = .ok (.bipush (-2), 2) := by decide +kernel
theorem dX4_cut_27 : decode cX4_cut 27 = .ok (.ireturn, 1) := by decide +kernel
theorem dX4_cut_28 : decode cX4_cut 28 = .ok (.aload_n 0, 1) := by decide +kernel
theorem dX4_cut_29 : decode cX4_cut 29 = .ok (.getfield 39, 3) := by decide +kernel
theorem dX4_cut_32 : decode cX4_cut 32 = .ok (.bipush (-9), 2) := by decide +kernel
theorem dX4_cut_34 : decode cX4_cut 34 = .ok (.invokevirtual 159, 3) := by decide +kernel
theorem dX4_cut_37 : decode cX4_cut 37 = .ok (.aload_n 0, 1) := by decide +kernel
theorem dX4_cut_38 : decode cX4_cut 38 = .ok (.getfield 39, 3) := by decide +kernel
theorem dX4_cut_41 : decode cX4_cut 41 = .ok (.getfield 162, 3) := by decide +kernel
theorem dX4_cut_44 : decode cX4_cut 44 = .ok (.ireturn, 1) := by decide +kernel
theorem dX4_change_0 : decode cX4_change 0 = .ok (.aload_n 0, 1) := by decide +kernel
theorem dX4_change_1 : decode cX4_change 1 = .ok (.getfield 31, 3) := by decide +kernel
theorem dX4_change_4 : decode cX4_change 4 = .ok (.iload_n 1, 1) := by decide +kernel
theorem dX4_change_5 : decode cX4_change 5 = .ok (.invokevirtual 118, 3) := by decide +kernel
theorem dX4_change_8 : decode cX4_change 8 = .ok (.ifCond .eq 19, 3) := by decide +kernel
theorem dX4_change_11 : decode cX4_change 11 = .ok (.aload_n 0, 1) := by decide +kernel
theorem dX4_change_12 : decode cX4_change 12 = .ok (.getfield 31, 3) := by decide +kernel
theorem dX4_change_15 : decode cX4_change 15 = .ok (.iload_n 2, 1) := by decide +kernel
theorem dX4_change_16 : decode cX4_change 16 = .ok (.invokevirtual 118, 3) := by decide +kernel
theorem dX4_change_19 : decode cX4_change 19 = .ok (.ifCond .eq 8, 3) := by decide +kernel
theorem dX4_change_22 : decode cX4_change 22 = .ok (.iload_n 1, 1) := by decide +kernel
theorem dX4_change_23 : decode cX4_change 23 = .ok (.iload_n 2, 1) := by decide +kernel
theorem dX4_change_24 : decode cX4_change 24 = .ok (.if_icmp .ne 5, 3) := by decide +kernel
theorem dX4_change_27 : decode cX4_change 27 = .ok (.iconst (-1), 1) := by decide +kernel
theorem dX4_change_28 : decode cX4_change 28 = .ok (.ireturn, 1) := by decide +kernel
theorem dX4_change_29 : decode cX4_change 29 = .ok (.aload_n 0, 1) := by decide +kernel
theorem dX4_change_30 : decode cX4_change 30 = .ok (.getfield 39, 3) := by decide +kernel
theorem dX4_change_33 : decode cX4_change 33 = .ok (.getfield 150, 3) := by decide +kernel
theorem dX4_change_36 : decode cX4_change 36 = .ok (.bipush 40, 2) := by decide +kernel
theorem dX4_change_38 : decode cX4_change 38 = .ok (.if_icmp .lt 6, 3) := by decide +kernel
theorem dX4_change_41 : decode cX4_change 41 = .ok (.bipush (-2), 2) := by decide +kernel
theorem dX4_change_43 : decode cX4_change 43 = .ok (.ireturn, 1) := by decide +kernel
theorem dX4_change_44 : decode cX4_change 44 = .ok (.aload_n 0, 1) := by decide +kernel
theorem dX4_change_45 : decode cX4_change 45 = .ok (.getfield 39, 3) := by decide +kernel
theorem dX4_change_48 : decode cX4_change 48 = .ok (.iload_n 1, 1) := by decide +kernel
theorem dX4_change_49 : decode cX4_change 49 = .ok (.iload_n 2, 1) := by decide +kernel
theorem dX4_change_50 : decode cX4_change 50 = .ok (.invokestatic 165, 3) := by decide +kernel
theorem dX4_change_53 : decode cX4_change 53 = .ok (.invokevirtual 159, 3) := by decide +kernel
theorem dX4_change_56 : decode cX4_change 56 = .ok (.aload_n 0, 1) := by decide +kernel
theorem dX4_change_57 : decode cX4_change 57 = .ok (.getfield 39, 3) := by decide +kernel
theorem dX4_change_60 : decode cX4_change 60 = .ok (.invokevirtual 144, 3) := by decide +kernel
theorem dX4_change_63 : decode cX4_change 63 = .ok (.invokestatic 168, 3) := by decide +kernel
theorem dX4_change_66 : decode cX4_change 66 = .ok (.ireturn, 1) := by decide +kernel
theorem dX4_undo_0 : decode cX4_undo 0 = .ok (.aload_n 0, 1) := by decide +kernel
theorem dX4_undo_1 : decode cX4_undo 1 = .ok (.getfield 39, 3) := by decide +kernel
theorem dX4_undo_4 : decode cX4_undo 4 = .ok (.getfield 150, 3) := by decide +kernel
theorem dX4_undo_7 : decode cX4_undo 7 = .ok (.istore_n 2, 1) := by decide +kernel
theorem dX4_undo_8 : decode cX4_undo 8 = .ok (.iload_n 1, 1) := by decide +kernel
theorem dX4_undo_9 : decode cX4_undo 9 = .ok (.ifCond .lt 8, 3) := by decide +kernel
theorem dX4_undo_12 : decode cX4_undo 12 = .ok (.iload_n 1, 1) := by decide +kernel
theorem dX4_undo_13 : decode cX4_undo 13 = .ok (.iload_n 2, 1) := by decide +kernel
theorem dX4_undo_14 : decode cX4_undo 14 = .ok (.if_icmp .le 5, 3) := by decide +kernel
theorem dX4_undo_17 : decode cX4_undo 17 = .ok (.iconst (-1), 1) := by decide +kernel
theorem dX4_undo_18 : decode cX4_undo 18 = .ok (.ireturn, 1) := by decide +kernel
theorem dX4_undo_19 : decode cX4_undo 19 = .ok (.aload_n 0, 1) := by decide +kernel
theorem dX4_undo_20 : decode cX4_undo 20 = .ok (.getfield 39, 3) := by decide +kernel
theorem dX4_undo_23 : decode cX4_undo 23 = .ok (.invokevirtual 111, 3) := by decide +kernel
theorem dX4_undo_26 : decode cX4_undo 26 = .ok (.iconst 0, 1) := by decide +kernel
theorem dX4_undo_27 : decode cX4_undo 27 = .ok (.istore_n 3, 1) := by decide +kernel
theorem dX4_undo_28 : decode cX4_undo 28 = .ok (.iload_n 3, 1) := by decide +kernel
theorem dX4_undo_29 : decode cX4_undo 29 = .ok (.iload_n 1, 1) := by decide +kernel
theorem dX4_undo_30 : decode cX4_undo 30 = .ok (.if_icmp .ge 31, 3) := by decide +kernel
theorem dX4_undo_33 : decode cX4_undo 33 = .ok (.iload_n 3, 1) := by decide +kernel
theorem dX4_undo_34 : decode cX4_undo 34 = .ok (.bipush 40, 2) := by decide +kernel
theorem dX4_undo_36 : decode cX4_undo 36 = .ok (.if_icmp .ge 25, 3) := by decide +kernel
theorem dX4_undo_39 : decode cX4_undo 39 = .ok (.aload_n 0, 1) := by decide +kernel
theorem dX4_undo_40 : decode cX4_undo 40 = .ok (.getfield 39, 3) := by decide +kernel
theorem dX4_undo_43 : decode cX4_undo 43 = .ok (.aload_n 0, 1) := by decide +kernel
theorem dX4_undo_44 : decode cX4_undo 44 = .ok (.getfield 39, 3) := by decide +kernel
theorem dX4_undo_47 : decode cX4_undo 47 = .ok (.getfield 173, 3) := by decide +kernel
theorem dX4_undo_50 : decode cX4_undo 50 = .ok (.iload_n 3, 1) := by decide +kernel
theorem dX4_undo_51 : decode cX4_undo 51 = .ok (.iaload, 1) := by decide +kernel
theorem dX4_undo_52 : decode cX4_undo 52 = .ok (.invokevirtual 159, 3) := by decide +kernel
theorem dX4_undo_55 : decode cX4_undo 55 = .ok (.iinc 3 1, 3) := by decide +kernel
theorem dX4_undo_58 : decode cX4_undo 58 = .ok (.goto (-30), 3) := by decide +kernel
theorem dX4_undo_61 : decode cX4_undo 61 = .ok (.iload_n 2, 1) := by decide +kernel
theorem dX4_undo_62 : decode cX4_undo 62 = .ok (.iload_n 1, 1) := by decide +kernel
theorem dX4_undo_63 : decode cX4_undo 63 = .ok (.isub, 1) := by decide +kernel
theorem dX4_undo_64 : decode cX4_undo 64 = .ok (.ireturn, 1) := by decide +kernel
theorem dX4_keep_0 : decode cX4_keep 0 = .ok (.aload_n 0, 1) := by decide +kernel
theorem dX4_keep_1 : decode cX4_keep 1 = .ok (.getfield 21, 3) := by decide +kernel
theorem dX4_keep_4 : decode cX4_keep 4 = .ok (.iload_n 1, 1) := by decide +kernel
theorem dX4_keep_5 : decode cX4_keep 5 = .ok (.invokevirtual 60, 3) := by decide +kernel
theorem dX4_keep_8 : decode cX4_keep 8 = .ok (.ifCond .ne 5, 3) := by decide +kernel
theorem dX4_keep_11 : decode cX4_keep 11 = .ok (.iconst (-1), 1) := by decide +kernel
theorem dX4_keep_12 : decode cX4_keep 12 = .ok (.ireturn, 1) := by decide +kernel
theorem dX4_keep_13 : decode cX4_keep 13 = .ok (.aload_n 0, 1) := by decide +kernel
theorem dX4_keep_14 : decode cX4_keep 14 = .ok (.getfield 31, 3) := by decide +kernel
theorem dX4_keep_17 : decode cX4_keep 17 = .ok (.getfield 114, 3) := by decide +kernel
theorem dX4_keep_20 : decode cX4_keep 20 = .ok (.ifCond .ne 6, 3) := by decide +kernel
theorem dX4_keep_23 : decode cX4_keep 23 = .ok (.bipush (-4), 2) := by decide +kernel
theorem dX4_keep_25 : decode cX4_keep 25 = .ok (.ireturn, 1) := by decide +kernel
theorem dX4_keep_26 : decode cX4_keep 26 = .ok (.aload_n 0, 1) := by decide +kernel
theorem dX4_keep_27 : decode cX4_keep 27 = .ok (.getfield 21, 3) := by decide +kernel
theorem dX4_keep_30 : decode cX4_keep 30 = .ok (.iload_n 1, 1) := by decide +kernel
theorem dX4_keep_31 : decode cX4_keep 31 = .ok (.aload_n 0, 1) := by decide +kernel
theorem dX4_keep_32 : decode cX4_keep 32 = .ok (.getfield 39, 3) := by decide +kernel
theorem dX4_keep_35 : decode cX4_keep 35 = .ok (.getfield 150, 3) := by decide +kernel
theorem dX4_keep_38 : decode cX4_keep 38 = .ok (.iconst 0, 1) := by decide +kernel
theorem dX4_keep_39 : decode cX4_keep 39 = .ok (.invokevirtual 68, 3) := by decide +kernel
theorem dX4_keep_42 : decode cX4_keep 42 = .ok (.iconst 0, 1) := by decide +kernel
theorem dX4_keep_43 : decode cX4_keep 43 = .ok (.istore_n 2, 1) := by decide +kernel
theorem dX4_keep_44 : decode cX4_keep 44 = .ok (.iload_n 2, 1) := by decide +kernel
theorem dX4_keep_45 : decode cX4_keep 45 = .ok (.aload_n 0, 1) := by decide +kernel
theorem dX4_keep_46 : decode cX4_keep 46 = .ok (.getfield 39, 3) := by decide +kernel
theorem dX4_keep_49 : decode cX4_keep 49 = .ok (.getfield 150, 3) := by decide +kernel
theorem dX4_keep_52 : decode cX4_keep 52 = .ok (.if_icmp .ge 27, 3) := by decide +kernel
theorem dX4_keep_55 : decode cX4_keep 55 = .ok (.aload_n 0, 1) := by decide +kernel
theorem dX4_keep_56 : decode cX4_keep 56 = .ok (.getfield 21, 3) := by decide +kernel
theorem dX4_keep_59 : decode cX4_keep 59 = .ok (.iload_n 1, 1) := by decide +kernel
theorem dX4_keep_60 : decode cX4_keep 60 = .ok (.iload_n 2, 1) := by decide +kernel
theorem dX4_keep_61 : decode cX4_keep 61 = .ok (.aload_n 0, 1) := by decide +kernel
theorem dX4_keep_62 : decode cX4_keep 62 = .ok (.getfield 39, 3) := by decide +kernel
theorem dX4_keep_65 : decode cX4_keep 65 = .ok (.getfield 173, 3) := by decide +kernel
theorem dX4_keep_68 : decode cX4_keep 68 = .ok (.iload_n 2, 1) := by decide +kernel
theorem dX4_keep_69 : decode cX4_keep 69 = .ok (.iaload, 1) := by decide +kernel
theorem dX4_keep_70 : decode cX4_keep 70 = .ok (.invokevirtual 80, 3) := by decide +kernel
theorem dX4_keep_73 : decode cX4_keep 73 = .ok (.iinc 2 1, 3) := by decide +kernel
theorem dX4_keep_76 : decode cX4_keep 76 = .ok (.goto (-32), 3) := by decide +kernel
theorem dX4_keep_79 : decode cX4_keep 79 = .ok (.aload_n 0, 1) := by decide +kernel
theorem dX4_keep_80 : decode cX4_keep 80 = .ok (.getfield 39, 3) := by decide +kernel
theorem dX4_keep_83 : decode cX4_keep 83 = .ok (.getfield 150, 3) := by decide +kernel
theorem dX4_keep_86 : decode cX4_keep 86 = .ok (.ireturn, 1) := by decide +kernel
theorem dX4_on_0 : decode cX4_on 0 = .ok (.aload_n 0, 1) := by decide +kernel
theorem dX4_on_1 : decode cX4_on 1 = .ok (.aload_n 0, 1) := by decide +kernel
theorem dX4_on_2 : decode cX4_on 2 = .ok (.getfield 21, 3) := by decide +kernel
theorem dX4_on_5 : decode cX4_on 5 = .ok (.iload_n 1, 1) := by decide +kernel
theorem dX4_on_6 : decode cX4_on 6 = .ok (.invokevirtual 86, 3) := by decide +kernel
theorem dX4_on_9 : decode cX4_on 9 = .ok (.istore_n 2, 1) := by decide +kernel
theorem dX4_on_10 : decode cX4_on 10 = .ok (.iload_n 2, 1) := by decide +kernel
theorem dX4_on_11 : decode cX4_on 11 = .ok (.ifCond .eq 5, 3) := by decide +kernel
theorem dX4_on_14 : decode cX4_on 14 = .ok (.iload_n 2, 1) := by decide +kernel
theorem dX4_on_15 : decode cX4_on 15 = .ok (.ireturn, 1) := by decide +kernel
theorem dX4_on_16 : decode cX4_on 16 = .ok (.aload_n 0, 1) := by decide +kernel
theorem dX4_on_17 : decode cX4_on 17 = .ok (.getfield 39, 3) := by decide +kernel
theorem dX4_on_20 : decode cX4_on 20 = .ok (.invokevirtual 111, 3) := by decide +kernel
theorem dX4_on_23 : decode cX4_on 23 = .ok (.iconst 0, 1) := by decide +kernel
theorem dX4_on_24 : decode cX4_on 24 = .ok (.istore_n 3, 1) := by decide +kernel
theorem dX4_on_25 : decode cX4_on 25 = .ok (.iload_n 3, 1) := by decide +kernel
theorem dX4_on_26 : decode cX4_on 26 = .ok (.aload_n 0, 1) := by decide +kernel
theorem dX4_on_27 : decode cX4_on 27 = .ok (.getfield 21, 3) := by decide +kernel
theorem dX4_on_30 : decode cX4_on 30 = .ok (.iload_n 1, 1) := by decide +kernel
theorem dX4_on_31 : decode cX4_on 31 = .ok (.invokevirtual 105, 3) := by decide +kernel
theorem dX4_on_34 : decode cX4_on 34 = .ok (.if_icmp .ge 25, 3) := by decide +kernel
theorem dX4_on_37 : decode cX4_on 37 = .ok (.aload_n 0, 1) := by decide +kernel
theorem dX4_on_38 : decode cX4_on 38 = .ok (.getfield 39, 3) := by decide +kernel
theorem dX4_on_41 : decode cX4_on 41 = .ok (.aload_n 0, 1) := by decide +kernel
theorem dX4_on_42 : decode cX4_on 42 = .ok (.getfield 21, 3) := by decide +kernel
theorem dX4_on_45 : decode cX4_on 45 = .ok (.iload_n 1, 1) := by decide +kernel
theorem dX4_on_46 : decode cX4_on 46 = .ok (.iload_n 3, 1) := by decide +kernel
theorem dX4_on_47 : decode cX4_on 47 = .ok (.invokevirtual 76, 3) := by decide +kernel
theorem dX4_on_50 : decode cX4_on 50 = .ok (.invokevirtual 159, 3) := by decide +kernel
theorem dX4_on_53 : decode cX4_on 53 = .ok (.iinc 3 1, 3) := by decide +kernel
theorem dX4_on_56 : decode cX4_on 56 = .ok (.goto (-31), 3) := by decide +kernel
theorem dX4_on_59 : decode cX4_on 59 = .ok (.aload_n 0, 1) := by decide +kernel
theorem dX4_on_60 : decode cX4_on 60 = .ok (.getfield 39, 3) := by decide +kernel
theorem dX4_on_63 : decode cX4_on 63 = .ok (.getfield 150, 3) := by decide +kernel
theorem dX4_on_66 : decode cX4_on 66 = .ok (.ireturn, 1) := by decide +kernel
theorem dX4_can_0 : decode cX4_can 0 = .ok (.aload_n 0, 1) := by decide +kernel
theorem dX4_can_1 : decode cX4_can 1 = .ok (.getfield 39, 3) := by decide +kernel
theorem dX4_can_4 : decode cX4_can 4 = .ok (.invokevirtual 144, 3) := by decide +kernel
theorem dX4_can_7 : decode cX4_can 7 = .ok (.ireturn, 1) := by decide +kernel
theorem dX4_play_0 : decode cX4_play 0 = .ok (.aload_n 0, 1) := by decide +kernel
theorem dX4_play_1 : decode cX4_play 1 = .ok (.getfield 14, 3) := by decide +kernel
theorem dX4_play_4 : decode cX4_play 4 = .ok (.iload_n 1, 1) := by decide +kernel
theorem dX4_play_5 : decode cX4_play 5 = .ok (.invokevirtual 60, 3) := by decide +kernel
theorem dX4_play_8 : decode cX4_play 8 = .ok (.ifCond .ne 5, 3) := by decide +kernel
theorem dX4_play_11 : decode cX4_play 11 = .ok (.iconst (-1), 1) := by decide +kernel
theorem dX4_play_12 : decode cX4_play 12 = .ok (.ireturn, 1) := by decide +kernel
theorem dX4_play_13 : decode cX4_play 13 = .ok (.aload_n 0, 1) := by decide +kernel
theorem dX4_play_14 : decode cX4_play 14 = .ok (.getfield 31, 3) := by decide +kernel
theorem dX4_play_17 : decode cX4_play 17 = .ok (.getfield 114, 3) := by decide +kernel
theorem dX4_play_20 : decode cX4_play 20 = .ok (.ifCond .ne 6, 3) := by decide +kernel
theorem dX4_play_23 : decode cX4_play 23 = .ok (.bipush (-4), 2) := by decide +kernel
theorem dX4_play_25 : decode cX4_play 25 = .ok (.ireturn, 1) := by decide +kernel
theorem dX4_play_26 : decode cX4_play 26 = .ok (.aload_n 0, 1) := by decide +kernel
theorem dX4_play_27 : decode cX4_play 27 = .ok (.getfield 14, 3) := by decide +kernel
theorem dX4_play_30 : decode cX4_play 30 = .ok (.iload_n 1, 1) := by decide +kernel
theorem dX4_play_31 : decode cX4_play 31 = .ok (.invokevirtual 94, 3) := by decide +kernel
theorem dX4_play_34 : decode cX4_play 34 = .ok (.ifCond .ne 9, 3) := by decide +kernel
theorem dX4_play_37 : decode cX4_play 37 = .ok (.aload_n 0, 1) := by decide +kernel
theorem dX4_play_38 : decode cX4_play 38 = .ok (.iconst 1, 1) := by decide +kernel
theorem dX4_play_39 : decode cX4_play 39 = .ok (.invokevirtual 64, 3) := by decide +kernel
theorem dX4_play_42 : decode cX4_play 42 = .ok (.ireturn, 1) := by decide +kernel
theorem dX4_play_43 : decode cX4_play 43 = .ok (.aload_n 0, 1) := by decide +kernel
theorem dX4_play_44 : decode cX4_play 44 = .ok (.getfield 14, 3) := by decide +kernel
theorem dX4_play_47 : decode cX4_play 47 = .ok (.iload_n 1, 1) := by decide +kernel
theorem dX4_play_48 : decode cX4_play 48 = .ok (.invokevirtual 105, 3) := by decide +kernel
theorem dX4_play_51 : decode cX4_play 51 = .ok (.aload_n 0, 1) := by decide +kernel
theorem dX4_play_52 : decode cX4_play 52 = .ok (.getfield 39, 3) := by decide +kernel
theorem dX4_play_55 : decode cX4_play 55 = .ok (.invokevirtual 140, 3) := by decide +kernel
theorem dX4_play_58 : decode cX4_play 58 = .ok (.if_icmp .le 9, 3) := by decide +kernel
theorem dX4_play_61 : decode cX4_play 61 = .ok (.aload_n 0, 1) := by decide +kernel
theorem dX4_play_62 : decode cX4_play 62 = .ok (.iconst 5, 1) := by decide +kernel
theorem dX4_play_63 : decode cX4_play 63 = .ok (.invokevirtual 64, 3) := by decide +kernel
theorem dX4_play_66 : decode cX4_play 66 = .ok (.ireturn, 1) := by decide +kernel
theorem dX4_play_67 : decode cX4_play 67 = .ok (.aload_n 0, 1) := by decide +kernel
theorem dX4_play_68 : decode cX4_play 68 = .ok (.iload_n 1, 1) := by decide +kernel
theorem dX4_play_69 : decode cX4_play 69 = .ok (.invokevirtual 176, 3) := by decide +kernel
theorem dX4_play_72 : decode cX4_play 72 = .ok (.ifCond .ne 9, 3) := by decide +kernel
theorem dX4_play_75 : decode cX4_play 75 = .ok (.aload_n 0, 1) := by decide +kernel
theorem dX4_play_76 : decode cX4_play 76 = .ok (.iconst 3, 1) := by decide +kernel
theorem dX4_play_77 : decode cX4_play 77 = .ok (.invokevirtual 64, 3) := by decide +kernel
theorem dX4_play_80 : decode cX4_play 80 = .ok (.ireturn, 1) := by decide +kernel
theorem dX4_play_81 : decode cX4_play 81 = .ok (.aload_n 0, 1) := by decide +kernel
theorem dX4_play_82 : decode cX4_play 82 = .ok (.getfield 48, 3) := by decide +kernel
theorem dX4_play_85 : decode cX4_play 85 = .ok (.aload_n 0, 1) := by decide +kernel
theorem dX4_play_86 : decode cX4_play 86 = .ok (.getfield 14, 3) := by decide +kernel
theorem dX4_play_89 : decode cX4_play 89 = .ok (.iload_n 1, 1) := by decide +kernel
theorem dX4_play_90 : decode cX4_play 90 = .ok (.invokevirtual 179, 3) := by decide +kernel
theorem dX4_play_93 : decode cX4_play 93 = .ok (.istore_n 2, 1) := by decide +kernel
theorem dX4_play_94 : decode cX4_play 94 = .ok (.aload_n 0, 1) := by decide +kernel
theorem dX4_play_95 : decode cX4_play 95 = .ok (.aload_n 0, 1) := by decide +kernel
theorem dX4_play_96 : decode cX4_play 96 = .ok (.getfield 48, 3) := by decide +kernel
theorem dX4_play_99 : decode cX4_play 99 = .ok (.getfield 182, 3) := by decide +kernel
theorem dX4_play_102 : decode cX4_play 102 = .ok (.invokevirtual 83, 3) := by decide +kernel
theorem dX4_play_105 : decode cX4_play 105 = .ok (.pop, 1) := by decide +kernel
theorem dX4_play_106 : decode cX4_play 106 = .ok (.iload_n 2, 1) := by decide +kernel
theorem dX4_play_107 : decode cX4_play 107 = .ok (.ireturn, 1) := by decide +kernel
theorem dX4_best_0 : decode cX4_best 0 = .ok (.aload_n 0, 1) := by decide +kernel
theorem dX4_best_1 : decode cX4_best 1 = .ok (.getfield 14, 3) := by decide +kernel
theorem dX4_best_4 : decode cX4_best 4 = .ok (.iload_n 1, 1) := by decide +kernel
theorem dX4_best_5 : decode cX4_best 5 = .ok (.invokevirtual 60, 3) := by decide +kernel
theorem dX4_best_8 : decode cX4_best 8 = .ok (.ifCond .ne 5, 3) := by decide +kernel
theorem dX4_best_11 : decode cX4_best 11 = .ok (.iconst (-1), 1) := by decide +kernel
theorem dX4_best_12 : decode cX4_best 12 = .ok (.ireturn, 1) := by decide +kernel
theorem dX4_best_13 : decode cX4_best 13 = .ok (.aload_n 0, 1) := by decide +kernel
theorem dX4_best_14 : decode cX4_best 14 = .ok (.getfield 31, 3) := by decide +kernel
theorem dX4_best_17 : decode cX4_best 17 = .ok (.getfield 114, 3) := by decide +kernel
theorem dX4_best_20 : decode cX4_best 20 = .ok (.ifCond .ne 6, 3) := by decide +kernel
theorem dX4_best_23 : decode cX4_best 23 = .ok (.bipush (-4), 2) := by decide +kernel
theorem dX4_best_25 : decode cX4_best 25 = .ok (.ireturn, 1) := by decide +kernel
theorem dX4_best_26 : decode cX4_best 26 = .ok (.aload_n 0, 1) := by decide +kernel
theorem dX4_best_27 : decode cX4_best 27 = .ok (.getfield 48, 3) := by decide +kernel
theorem dX4_best_30 : decode cX4_best 30 = .ok (.aload_n 0, 1) := by decide +kernel
theorem dX4_best_31 : decode cX4_best 31 = .ok (.getfield 39, 3) := by decide +kernel
theorem dX4_best_34 : decode cX4_best 34 = .ok (.invokevirtual 185, 3) := by decide +kernel
theorem dX4_best_37 : decode cX4_best 37 = .ok (.iconst 0, 1) := by decide +kernel
theorem dX4_best_38 : decode cX4_best 38 = .ok (.invokevirtual 188, 3) := by decide +kernel
theorem dX4_best_41 : decode cX4_best 41 = .ok (.istore_n 2, 1) := by decide +kernel
theorem dX4_best_42 : decode cX4_best 42 = .ok (.aload_n 0, 1) := by decide +kernel
theorem dX4_best_43 : decode cX4_best 43 = .ok (.getfield 48, 3) := by decide +kernel
theorem dX4_best_46 : decode cX4_best 46 = .ok (.invokevirtual 191, 3) := by decide +kernel
theorem dX4_best_49 : decode cX4_best 49 = .ok (.aload_n 0, 1) := by decide +kernel
theorem dX4_best_50 : decode cX4_best 50 = .ok (.getfield 39, 3) := by decide +kernel
theorem dX4_best_53 : decode cX4_best 53 = .ok (.invokevirtual 140, 3) := by decide +kernel
theorem dX4_best_56 : decode cX4_best 56 = .ok (.istore_n 3, 1) := by decide +kernel
theorem dX4_best_57 : decode cX4_best 57 = .ok (.aload_n 0, 1) := by decide +kernel
theorem dX4_best_58 : decode cX4_best 58 = .ok (.getfield 14, 3) := by decide +kernel
theorem dX4_best_61 : decode cX4_best 61 = .ok (.iload_n 1, 1) := by decide +kernel
theorem dX4_best_62 : decode cX4_best 62 = .ok (.iload_n 3, 1) := by decide +kernel
theorem dX4_best_63 : decode cX4_best 63 = .ok (.bipush (-9), 2) := by decide +kernel
theorem dX4_best_65 : decode cX4_best 65 = .ok (.invokevirtual 68, 3) := by decide +kernel
theorem dX4_best_68 : decode cX4_best 68 = .ok (.iconst 0, 1) := by decide +kernel
theorem dX4_best_69 : decode cX4_best 69 = .ok (.istore 4, 2) := by decide +kernel
theorem dX4_best_71 : decode cX4_best 71 = .ok (.iload 4, 2) := by decide +kernel
theorem dX4_best_73 : decode cX4_best 73 = .ok (.iload_n 3, 1) := by decide +kernel
theorem dX4_best_74 : decode cX4_best 74 = .ok (.if_icmp .ge 36, 3) := by decide +kernel
theorem dX4_best_77 : decode cX4_best 77 = .ok (.aload_n 0, 1) := by decide +kernel
theorem dX4_best_78 : decode cX4_best 78 = .ok (.getfield 14, 3) := by decide +kernel
theorem dX4_best_81 : decode cX4_best 81 = .ok (.iload_n 1, 1) := by decide +kernel
theorem dX4_best_82 : decode cX4_best 82 = .ok (.iload 4, 2) := by decide +kernel
theorem dX4_best_84 : decode cX4_best 84 = .ok (.aload_n 0, 1) := by decide +kernel
theorem dX4_best_85 : decode cX4_best 85 = .ok (.getfield 48, 3) := by decide +kernel
theorem dX4_best_88 : decode cX4_best 88 = .ok (.aload_n 0, 1) := by decide +kernel
theorem dX4_best_89 : decode cX4_best 89 = .ok (.getfield 39, 3) := by decide +kernel
theorem dX4_best_92 : decode cX4_best 92 = .ok (.getfield 162, 3) := by decide +kernel
theorem dX4_best_95 : decode cX4_best 95 = .ok (.iload 4, 2) := by decide +kernel
theorem dX4_best_97 : decode cX4_best 97 = .ok (.iadd, 1) := by decide +kernel
theorem dX4_best_98 : decode cX4_best 98 = .ok (.invokevirtual 194, 3) := by decide +kernel
theorem dX4_best_101 : decode cX4_best 101 = .ok (.invokevirtual 80, 3) := by decide +kernel
theorem dX4_best_104 : decode cX4_best 104 = .ok (.iinc 4 1, 3) := by decide +kernel
theorem dX4_best_107 : decode cX4_best 107 = .ok (.goto (-36), 3) := by decide +kernel
theorem dX4_best_110 : decode cX4_best 110 = .ok (.aload_n 0, 1) := by decide +kernel
theorem dX4_best_111 : decode cX4_best 111 = .ok (.aload_n 0, 1) := by decide +kernel
theorem dX4_best_112 : decode cX4_best 112 = .ok (.getfield 48, 3) := by decide +kernel
theorem dX4_best_115 : decode cX4_best 115 = .ok (.getfield 197, 3) := by decide +kernel
theorem dX4_best_118 : decode cX4_best 118 = .ok (.invokevirtual 83, 3) := by decide +kernel
theorem dX4_best_121 : decode cX4_best 121 = .ok (.pop, 1) := by decide +kernel
theorem dX4_best_122 : decode cX4_best 122 = .ok (.iload_n 2, 1) := by decide +kernel
theorem dX4_best_123 : decode cX4_best 123 = .ok (.ireturn, 1) := by decide +kernel
theorem dX4_least_0 : decode cX4_least 0 = .ok (.aload_n 0, 1) := by decide +kernel
theorem dX4_least_1 : decode cX4_least 1 = .ok (.getfield 31, 3) := by decide +kernel
theorem dX4_least_4 : decode cX4_least 4 = .ok (.getfield 114, 3) := by decide +kernel
theorem dX4_least_7 : decode cX4_least 7 = .ok (.ifCond .ne 6, 3) := by decide +kernel
theorem dX4_least_10 : decode cX4_least 10 = .ok (.bipush (-4), 2) := by decide +kernel
theorem dX4_least_12 : decode cX4_least 12 = .ok (.ireturn, 1) := by decide +kernel
theorem dX4_least_13 : decode cX4_least 13 = .ok (.aload_n 0, 1) := by decide +kernel
theorem dX4_least_14 : decode cX4_least 14 = .ok (.getfield 39, 3) := by decide +kernel
theorem dX4_least_17 : decode cX4_least 17 = .ok (.invokevirtual 144, 3) := by decide +kernel
theorem dX4_least_20 : decode cX4_least 20 = .ok (.invokestatic 168, 3) := by decide +kernel
theorem dX4_least_23 : decode cX4_least 23 = .ok (.aload_n 0, 1) := by decide +kernel
theorem dX4_least_24 : decode cX4_least 24 = .ok (.getfield 39, 3) := by decide +kernel
theorem dX4_least_27 : decode cX4_least 27 = .ok (.invokevirtual 140, 3) := by decide +kernel
theorem dX4_least_30 : decode cX4_least 30 = .ok (.if_icmp .ge 6, 3) := by decide +kernel
theorem dX4_least_33 : decode cX4_least 33 = .ok (.bipush (-9), 2) := by decide +kernel
theorem dX4_least_35 : decode cX4_least 35 = .ok (.ireturn, 1) := by decide +kernel
theorem dX4_least_36 : decode cX4_least 36 = .ok (.aload_n 0, 1) := by decide +kernel
theorem dX4_least_37 : decode cX4_least 37 = .ok (.getfield 48, 3) := by decide +kernel
theorem dX4_least_40 : decode cX4_least 40 = .ok (.invokevirtual 200, 3) := by decide +kernel
theorem dX4_least_43 : decode cX4_least 43 = .ok (.istore_n 1, 1) := by decide +kernel
theorem dX4_least_44 : decode cX4_least 44 = .ok (.aload_n 0, 1) := by decide +kernel
theorem dX4_least_45 : decode cX4_least 45 = .ok (.aload_n 0, 1) := by decide +kernel
theorem dX4_least_46 : decode cX4_least 46 = .ok (.getfield 48, 3) := by decide +kernel
theorem dX4_least_49 : decode cX4_least 49 = .ok (.getfield 203, 3) := by decide +kernel
theorem dX4_least_52 : decode cX4_least 52 = .ok (.invokevirtual 83, 3) := by decide +kernel
theorem dX4_least_55 : decode cX4_least 55 = .ok (.pop, 1) := by decide +kernel
theorem dX4_least_56 : decode cX4_least 56 = .ok (.iload_n 1, 1) := by decide +kernel
theorem dX4_least_57 : decode cX4_least 57 = .ok (.ireturn, 1) := by decide +kernel
theorem dX4_ways_0 : decode cX4_ways 0 = .ok (.iload_n 1, 1) := by decide +kernel
theorem dX4_ways_1 : decode cX4_ways 1 = .ok (.ifCond .lt 9, 3) := by decide +kernel
theorem dX4_ways_4 : decode cX4_ways 4 = .ok (.iload_n 1, 1) := by decide +kernel
theorem dX4_ways_5 : decode cX4_ways 5 = .ok (.bipush 6, 2) := by decide +kernel
theorem dX4_ways_7 : decode cX4_ways 7 = .ok (.if_icmp .le 5, 3) := by decide +kernel
theorem dX4_ways_10 : decode cX4_ways 10 = .ok (.iconst (-1), 1) := by decide +kernel
theorem dX4_ways_11 : decode cX4_ways 11 = .ok (.ireturn, 1) := by decide +kernel
theorem dX4_ways_12 : decode cX4_ways 12 = .ok (.aload_n 0, 1) := by decide +kernel
theorem dX4_ways_13 : decode cX4_ways 13 = .ok (.getfield 31, 3) := by decide +kernel
theorem dX4_ways_16 : decode cX4_ways 16 = .ok (.getfield 114, 3) := by decide +kernel
theorem dX4_ways_19 : decode cX4_ways 19 = .ok (.ifCond .ne 6, 3) := by decide +kernel
theorem dX4_ways_22 : decode cX4_ways 22 = .ok (.bipush (-4), 2) := by decide +kernel
theorem dX4_ways_24 : decode cX4_ways 24 = .ok (.ireturn, 1) := by decide +kernel
theorem dX4_ways_25 : decode cX4_ways 25 = .ok (.aload_n 0, 1) := by decide +kernel
theorem dX4_ways_26 : decode cX4_ways 26 = .ok (.getfield 48, 3) := by decide +kernel
theorem dX4_ways_29 : decode cX4_ways 29 = .ok (.iload_n 1, 1) := by decide +kernel
theorem dX4_ways_30 : decode cX4_ways 30 = .ok (.invokevirtual 206, 3) := by decide +kernel
theorem dX4_ways_33 : decode cX4_ways 33 = .ok (.aload_n 0, 1) := by decide +kernel
theorem dX4_ways_34 : decode cX4_ways 34 = .ok (.aload_n 0, 1) := by decide +kernel
theorem dX4_ways_35 : decode cX4_ways 35 = .ok (.getfield 48, 3) := by decide +kernel
theorem dX4_ways_38 : decode cX4_ways 38 = .ok (.getfield 209, 3) := by decide +kernel
theorem dX4_ways_41 : decode cX4_ways 41 = .ok (.lconst 1, 1) := by decide +kernel
theorem dX4_ways_42 : decode cX4_ways 42 = .ok (.invokevirtual 212, 3) := by decide +kernel
theorem dX4_ways_45 : decode cX4_ways 45 = .ok (.aload_n 0, 1) := by decide +kernel
theorem dX4_ways_46 : decode cX4_ways 46 = .ok (.aload_n 0, 1) := by decide +kernel
theorem dX4_ways_47 : decode cX4_ways 47 = .ok (.getfield 48, 3) := by decide +kernel
theorem dX4_ways_50 : decode cX4_ways 50 = .ok (.getfield 216, 3) := by decide +kernel
theorem dX4_ways_53 : decode cX4_ways 53 = .ok (.invokevirtual 83, 3) := by decide +kernel
theorem dX4_ways_56 : decode cX4_ways 56 = .ok (.ireturn, 1) := by decide +kernel
theorem dX4_seats_0 : decode cX4_seats 0 = .ok (.aload_n 0, 1) := by decide +kernel
theorem dX4_seats_1 : decode cX4_seats 1 = .ok (.getfield 31, 3) := by decide +kernel
theorem dX4_seats_4 : decode cX4_seats 4 = .ok (.getfield 114, 3) := by decide +kernel
theorem dX4_seats_7 : decode cX4_seats 7 = .ok (.ifCond .ne 6, 3) := by decide +kernel
theorem dX4_seats_10 : decode cX4_seats 10 = .ok (.bipush (-4), 2) := by decide +kernel
theorem dX4_seats_12 : decode cX4_seats 12 = .ok (.ireturn, 1) := by decide +kernel
theorem dX4_seats_13 : decode cX4_seats 13 = .ok (.aload_n 0, 1) := by decide +kernel
theorem dX4_seats_14 : decode cX4_seats 14 = .ok (.getfield 39, 3) := by decide +kernel
theorem dX4_seats_17 : decode cX4_seats 17 = .ok (.invokevirtual 185, 3) := by decide +kernel
theorem dX4_seats_20 : decode cX4_seats 20 = .ok (.istore_n 1, 1) := by decide +kernel
theorem dX4_seats_21 : decode cX4_seats 21 = .ok (.aload_n 0, 1) := by decide +kernel
theorem dX4_seats_22 : decode cX4_seats 22 = .ok (.getfield 48, 3) := by decide +kernel
theorem dX4_seats_25 : decode cX4_seats 25 = .ok (.iload_n 1, 1) := by decide +kernel
theorem dX4_seats_26 : decode cX4_seats 26 = .ok (.iconst 0, 1) := by decide +kernel
theorem dX4_seats_27 : decode cX4_seats 27 = .ok (.invokevirtual 188, 3) := by decide +kernel
theorem dX4_seats_30 : decode cX4_seats 30 = .ok (.istore_n 2, 1) := by decide +kernel
theorem dX4_seats_31 : decode cX4_seats 31 = .ok (.bipush (-9), 2) := by decide +kernel
theorem dX4_seats_33 : decode cX4_seats 33 = .ok (.istore_n 3, 1) := by decide +kernel
theorem dX4_seats_34 : decode cX4_seats 34 = .ok (.iconst 0, 1) := by decide +kernel
theorem dX4_seats_35 : decode cX4_seats 35 = .ok (.istore 4, 2) := by decide +kernel
theorem dX4_seats_37 : decode cX4_seats 37 = .ok (.iload 4, 2) := by decide +kernel
theorem dX4_seats_39 : decode cX4_seats 39 = .ok (.aload_n 0, 1) := by decide +kernel
theorem dX4_seats_40 : decode cX4_seats 40 = .ok (.getfield 31, 3) := by decide +kernel
theorem dX4_seats_43 : decode cX4_seats 43 = .ok (.getfield 114, 3) := by decide +kernel
theorem dX4_seats_46 : decode cX4_seats 46 = .ok (.if_icmp .ge 89, 3) := by decide +kernel
theorem dX4_seats_49 : decode cX4_seats 49 = .ok (.iload 4, 2) := by decide +kernel
theorem dX4_seats_51 : decode cX4_seats 51 = .ok (.iconst 1, 1) := by decide +kernel
theorem dX4_seats_52 : decode cX4_seats 52 = .ok (.iadd, 1) := by decide +kernel
theorem dX4_seats_53 : decode cX4_seats 53 = .ok (.istore 5, 2) := by decide +kernel
theorem dX4_seats_55 : decode cX4_seats 55 = .ok (.iload 5, 2) := by decide +kernel
theorem dX4_seats_57 : decode cX4_seats 57 = .ok (.aload_n 0, 1) := by decide +kernel
theorem dX4_seats_58 : decode cX4_seats 58 = .ok (.getfield 31, 3) := by decide +kernel
theorem dX4_seats_61 : decode cX4_seats 61 = .ok (.getfield 114, 3) := by decide +kernel
theorem dX4_seats_64 : decode cX4_seats 64 = .ok (.if_icmp .ge 65, 3) := by decide +kernel
theorem dX4_seats_67 : decode cX4_seats 67 = .ok (.aload_n 0, 1) := by decide +kernel
theorem dX4_seats_68 : decode cX4_seats 68 = .ok (.getfield 39, 3) := by decide +kernel
theorem dX4_seats_71 : decode cX4_seats 71 = .ok (.iload 4, 2) := by decide +kernel
theorem dX4_seats_73 : decode cX4_seats 73 = .ok (.iload 5, 2) := by decide +kernel
theorem dX4_seats_75 : decode cX4_seats 75 = .ok (.invokevirtual 219, 3) := by decide +kernel
theorem dX4_seats_78 : decode cX4_seats 78 = .ok (.istore 6, 2) := by decide +kernel
theorem dX4_seats_80 : decode cX4_seats 80 = .ok (.iload 6, 2) := by decide +kernel
theorem dX4_seats_82 : decode cX4_seats 82 = .ok (.iload_n 1, 1) := by decide +kernel
theorem dX4_seats_83 : decode cX4_seats 83 = .ok (.iconst (-1), 1) := by decide +kernel
theorem dX4_seats_84 : decode cX4_seats 84 = .ok (.ixor, 1) := by decide +kernel
theorem dX4_seats_85 : decode cX4_seats 85 = .ok (.iand, 1) := by decide +kernel
theorem dX4_seats_86 : decode cX4_seats 86 = .ok (.ifCond .ne 7, 3) := by decide +kernel
theorem dX4_seats_89 : decode cX4_seats 89 = .ok (.iconst 0, 1) := by decide +kernel
theorem dX4_seats_90 : decode cX4_seats 90 = .ok (.goto 13, 3) := by decide +kernel
theorem dX4_seats_93 : decode cX4_seats 93 = .ok (.aload_n 0, 1) := by decide +kernel
theorem dX4_seats_94 : decode cX4_seats 94 = .ok (.getfield 48, 3) := by decide +kernel
theorem dX4_seats_97 : decode cX4_seats 97 = .ok (.iload 6, 2) := by decide +kernel
theorem dX4_seats_99 : decode cX4_seats 99 = .ok (.iload_n 2, 1) := by decide +kernel
theorem dX4_seats_100 : decode cX4_seats 100 = .ok (.invokevirtual 188, 3) := by decide +kernel
theorem dX4_seats_103 : decode cX4_seats 103 = .ok (.istore 7, 2) := by decide +kernel
theorem dX4_seats_105 : decode cX4_seats 105 = .ok (.iload 7, 2) := by decide +kernel
theorem dX4_seats_107 : decode cX4_seats 107 = .ok (.iload_n 2, 1) := by decide +kernel
theorem dX4_seats_108 : decode cX4_seats 108 = .ok (.if_icmp .le 15, 3) := by decide +kernel
theorem dX4_seats_111 : decode cX4_seats 111 = .ok (.iload 7, 2) := by decide +kernel
theorem dX4_seats_113 : decode cX4_seats 113 = .ok (.istore_n 2, 1) := by decide +kernel
theorem dX4_seats_114 : decode cX4_seats 114 = .ok (.bipush 10, 2) := by decide +kernel
theorem dX4_seats_116 : decode cX4_seats 116 = .ok (.iload 4, 2) := by decide +kernel
theorem dX4_seats_118 : decode cX4_seats 118 = .ok (.imul, 1) := by decide +kernel
theorem dX4_seats_119 : decode cX4_seats 119 = .ok (.iload 5, 2) := by decide +kernel
theorem dX4_seats_121 : decode cX4_seats 121 = .ok (.iadd, 1) := by decide +kernel
theorem dX4_seats_122 : decode cX4_seats 122 = .ok (.istore_n 3, 1) := by decide +kernel
theorem dX4_seats_123 : decode cX4_seats 123 = .ok (.iinc 5 1, 3) := by decide +kernel
theorem dX4_seats_126 : decode cX4_seats 126 = .ok (.goto (-71), 3) := by decide +kernel
theorem dX4_seats_129 : decode cX4_seats 129 = .ok (.iinc 4 1, 3) := by decide +kernel
theorem dX4_seats_132 : decode cX4_seats 132 = .ok (.goto (-95), 3) := by decide +kernel
theorem dX4_seats_135 : decode cX4_seats 135 = .ok (.iload_n 3, 1) := by decide +kernel
theorem dX4_seats_136 : decode cX4_seats 136 = .ok (.bipush (-9), 2) := by decide +kernel
theorem dX4_seats_138 : decode cX4_seats 138 = .ok (.if_icmp .eq 9, 3) := by decide +kernel
theorem dX4_seats_141 : decode cX4_seats 141 = .ok (.aload_n 0, 1) := by decide +kernel
theorem dX4_seats_142 : decode cX4_seats 142 = .ok (.iload_n 2, 1) := by decide +kernel
theorem dX4_seats_143 : decode cX4_seats 143 = .ok (.invokevirtual 83, 3) := by decide +kernel
theorem dX4_seats_146 : decode cX4_seats 146 = .ok (.pop, 1) := by decide +kernel
theorem dX4_seats_147 : decode cX4_seats 147 = .ok (.iload_n 3, 1) := by decide +kernel
theorem dX4_seats_148 : decode cX4_seats 148 = .ok (.ireturn, 1) := by decide +kernel
theorem dX4_beside_0 : decode cX4_beside 0 = .ok (.aload_n 0, 1) := by decide +kernel
theorem dX4_beside_1 : decode cX4_beside 1 = .ok (.getfield 31, 3) := by decide +kernel
theorem dX4_beside_4 : decode cX4_beside 4 = .ok (.getfield 114, 3) := by decide +kernel
theorem dX4_beside_7 : decode cX4_beside 7 = .ok (.ifCond .ne 6, 3) := by decide +kernel
theorem dX4_beside_10 : decode cX4_beside 10 = .ok (.bipush (-4), 2) := by decide +kernel
theorem dX4_beside_12 : decode cX4_beside 12 = .ok (.ireturn, 1) := by decide +kernel
theorem dX4_beside_13 : decode cX4_beside 13 = .ok (.aload_n 0, 1) := by decide +kernel
theorem dX4_beside_14 : decode cX4_beside 14 = .ok (.getfield 39, 3) := by decide +kernel
theorem dX4_beside_17 : decode cX4_beside 17 = .ok (.invokevirtual 222, 3) := by decide +kernel
theorem dX4_beside_20 : decode cX4_beside 20 = .ok (.istore_n 1, 1) := by decide +kernel
theorem dX4_beside_21 : decode cX4_beside 21 = .ok (.iconst 0, 1) := by decide +kernel
theorem dX4_beside_22 : decode cX4_beside 22 = .ok (.istore_n 2, 1) := by decide +kernel
theorem dX4_beside_23 : decode cX4_beside 23 = .ok (.iconst 0, 1) := by decide +kernel
theorem dX4_beside_24 : decode cX4_beside 24 = .ok (.istore_n 3, 1) := by decide +kernel
theorem dX4_beside_25 : decode cX4_beside 25 = .ok (.iconst 0, 1) := by decide +kernel
theorem dX4_beside_26 : decode cX4_beside 26 = .ok (.istore 4, 2) := by decide +kernel
theorem dX4_beside_28 : decode cX4_beside 28 = .ok (.iload 4, 2) := by decide +kernel
theorem dX4_beside_30 : decode cX4_beside 30 = .ok (.bipush 9, 2) := by decide +kernel
theorem dX4_beside_32 : decode cX4_beside 32 = .ok (.if_icmp .gt 32, 3) := by decide +kernel
theorem dX4_beside_35 : decode cX4_beside 35 = .ok (.iload_n 1, 1) := by decide +kernel
theorem dX4_beside_36 : decode cX4_beside 36 = .ok (.iload 4, 2) := by decide +kernel
theorem dX4_beside_38 : decode cX4_beside 38 = .ok (.invokestatic 147, 3) := by decide +kernel
theorem dX4_beside_41 : decode cX4_beside 41 = .ok (.ifCond .eq 9, 3) := by decide +kernel
theorem dX4_beside_44 : decode cX4_beside 44 = .ok (.iload_n 3, 1) := by decide +kernel
theorem dX4_beside_45 : decode cX4_beside 45 = .ok (.iconst 1, 1) := by decide +kernel
theorem dX4_beside_46 : decode cX4_beside 46 = .ok (.iadd, 1) := by decide +kernel
theorem dX4_beside_47 : decode cX4_beside 47 = .ok (.goto 4, 3) := by decide +kernel
theorem dX4_beside_50 : decode cX4_beside 50 = .ok (.iconst 0, 1) := by decide +kernel
theorem dX4_beside_51 : decode cX4_beside 51 = .ok (.istore_n 3, 1) := by decide +kernel
theorem dX4_beside_52 : decode cX4_beside 52 = .ok (.iload_n 2, 1) := by decide +kernel
theorem dX4_beside_53 : decode cX4_beside 53 = .ok (.iload_n 3, 1) := by decide +kernel
theorem dX4_beside_54 : decode cX4_beside 54 = .ok (.invokestatic 225, 3) := by decide +kernel
theorem dX4_beside_57 : decode cX4_beside 57 = .ok (.istore_n 2, 1) := by decide +kernel
theorem dX4_beside_58 : decode cX4_beside 58 = .ok (.iinc 4 1, 3) := by decide +kernel
theorem dX4_beside_61 : decode cX4_beside 61 = .ok (.goto (-33), 3) := by decide +kernel
theorem dX4_beside_64 : decode cX4_beside 64 = .ok (.aload_n 0, 1) := by decide +kernel
theorem dX4_beside_65 : decode cX4_beside 65 = .ok (.iload_n 2, 1) := by decide +kernel
theorem dX4_beside_66 : decode cX4_beside 66 = .ok (.invokevirtual 83, 3) := by decide +kernel
theorem dX4_beside_69 : decode cX4_beside 69 = .ok (.pop, 1) := by decide +kernel
theorem dX4_beside_70 : decode cX4_beside 70 = .ok (.iload_n 1, 1) := by decide +kernel
theorem dX4_beside_71 : decode cX4_beside 71 = .ok (.iload_n 1, 1) := by decide +kernel
theorem dX4_beside_72 : decode cX4_beside 72 = .ok (.iconst 1, 1) := by decide +kernel
theorem dX4_beside_73 : decode cX4_beside 73 = .ok (.ishl, 1) := by decide +kernel
theorem dX4_beside_74 : decode cX4_beside 74 = .ok (.iand, 1) := by decide +kernel
theorem dX4_beside_75 : decode cX4_beside 75 = .ok (.invokestatic 168, 3) := by decide +kernel
theorem dX4_beside_78 : decode cX4_beside 78 = .ok (.ireturn, 1) := by decide +kernel
theorem dX4_apart_0 : decode cX4_apart 0 = .ok (.aload_n 0, 1) := by decide +kernel
theorem dX4_apart_1 : decode cX4_apart 1 = .ok (.getfield 31, 3) := by decide +kernel
theorem dX4_apart_4 : decode cX4_apart 4 = .ok (.getfield 114, 3) := by decide +kernel
theorem dX4_apart_7 : decode cX4_apart 7 = .ok (.ifCond .ne 6, 3) := by decide +kernel
theorem dX4_apart_10 : decode cX4_apart 10 = .ok (.bipush (-4), 2) := by decide +kernel
theorem dX4_apart_12 : decode cX4_apart 12 = .ok (.ireturn, 1) := by decide +kernel
theorem dX4_apart_13 : decode cX4_apart 13 = .ok (.aload_n 0, 1) := by decide +kernel
theorem dX4_apart_14 : decode cX4_apart 14 = .ok (.getfield 31, 3) := by decide +kernel
theorem dX4_apart_17 : decode cX4_apart 17 = .ok (.getfield 114, 3) := by decide +kernel
theorem dX4_apart_20 : decode cX4_apart 20 = .ok (.istore_n 1, 1) := by decide +kernel
theorem dX4_apart_21 : decode cX4_apart 21 = .ok (.iconst 1, 1) := by decide +kernel
theorem dX4_apart_22 : decode cX4_apart 22 = .ok (.aload_n 0, 1) := by decide +kernel
theorem dX4_apart_23 : decode cX4_apart 23 = .ok (.getfield 31, 3) := by decide +kernel
theorem dX4_apart_26 : decode cX4_apart 26 = .ok (.getfield 114, 3) := by decide +kernel
theorem dX4_apart_29 : decode cX4_apart 29 = .ok (.ishl, 1) := by decide +kernel
theorem dX4_apart_30 : decode cX4_apart 30 = .ok (.iconst 1, 1) := by decide +kernel
theorem dX4_apart_31 : decode cX4_apart 31 = .ok (.isub, 1) := by decide +kernel
theorem dX4_apart_32 : decode cX4_apart 32 = .ok (.istore_n 2, 1) := by decide +kernel
theorem dX4_apart_33 : decode cX4_apart 33 = .ok (.iconst 0, 1) := by decide +kernel
theorem dX4_apart_34 : decode cX4_apart 34 = .ok (.istore_n 3, 1) := by decide +kernel
theorem dX4_apart_35 : decode cX4_apart 35 = .ok (.iload_n 3, 1) := by decide +kernel
theorem dX4_apart_36 : decode cX4_apart 36 = .ok (.iconst 1, 1) := by decide +kernel
theorem dX4_apart_37 : decode cX4_apart 37 = .ok (.aload_n 0, 1) := by decide +kernel
theorem dX4_apart_38 : decode cX4_apart 38 = .ok (.getfield 31, 3) := by decide +kernel
theorem dX4_apart_41 : decode cX4_apart 41 = .ok (.getfield 114, 3) := by decide +kernel
theorem dX4_apart_44 : decode cX4_apart 44 = .ok (.ishl, 1) := by decide +kernel
theorem dX4_apart_45 : decode cX4_apart 45 = .ok (.if_icmp .ge 44, 3) := by decide +kernel
theorem dX4_apart_48 : decode cX4_apart 48 = .ok (.aload_n 0, 1) := by decide +kernel
theorem dX4_apart_49 : decode cX4_apart 49 = .ok (.getfield 39, 3) := by decide +kernel
theorem dX4_apart_52 : decode cX4_apart 52 = .ok (.iload_n 3, 1) := by decide +kernel
theorem dX4_apart_53 : decode cX4_apart 53 = .ok (.invokevirtual 230, 3) := by decide +kernel
theorem dX4_apart_56 : decode cX4_apart 56 = .ok (.istore 4, 2) := by decide +kernel
theorem dX4_apart_58 : decode cX4_apart 58 = .ok (.iload_n 3, 1) := by decide +kernel
theorem dX4_apart_59 : decode cX4_apart 59 = .ok (.invokestatic 168, 3) := by decide +kernel
theorem dX4_apart_62 : decode cX4_apart 62 = .ok (.iload_n 1, 1) := by decide +kernel
theorem dX4_apart_63 : decode cX4_apart 63 = .ok (.if_icmp .ge 20, 3) := by decide +kernel
theorem dX4_apart_66 : decode cX4_apart 66 = .ok (.iload 4, 2) := by decide +kernel
theorem dX4_apart_68 : decode cX4_apart 68 = .ok (.iload 4, 2) := by decide +kernel
theorem dX4_apart_70 : decode cX4_apart 70 = .ok (.iconst 1, 1) := by decide +kernel
theorem dX4_apart_71 : decode cX4_apart 71 = .ok (.ishl, 1) := by decide +kernel
theorem dX4_apart_72 : decode cX4_apart 72 = .ok (.iand, 1) := by decide +kernel
theorem dX4_apart_73 : decode cX4_apart 73 = .ok (.ifCond .ne 10, 3) := by decide +kernel
theorem dX4_apart_76 : decode cX4_apart 76 = .ok (.iload_n 3, 1) := by decide +kernel
theorem dX4_apart_77 : decode cX4_apart 77 = .ok (.invokestatic 168, 3) := by decide +kernel
theorem dX4_apart_80 : decode cX4_apart 80 = .ok (.istore_n 1, 1) := by decide +kernel
theorem dX4_apart_81 : decode cX4_apart 81 = .ok (.iload_n 3, 1) := by decide +kernel
theorem dX4_apart_82 : decode cX4_apart 82 = .ok (.istore_n 2, 1) := by decide +kernel
theorem dX4_apart_83 : decode cX4_apart 83 = .ok (.iinc 3 1, 3) := by decide +kernel
theorem dX4_apart_86 : decode cX4_apart 86 = .ok (.goto (-51), 3) := by decide +kernel
theorem dX4_apart_89 : decode cX4_apart 89 = .ok (.aload_n 0, 1) := by decide +kernel
theorem dX4_apart_90 : decode cX4_apart 90 = .ok (.iload_n 2, 1) := by decide +kernel
theorem dX4_apart_91 : decode cX4_apart 91 = .ok (.invokevirtual 83, 3) := by decide +kernel
theorem dX4_apart_94 : decode cX4_apart 94 = .ok (.pop, 1) := by decide +kernel
theorem dX4_apart_95 : decode cX4_apart 95 = .ok (.iload_n 1, 1) := by decide +kernel
theorem dX4_apart_96 : decode cX4_apart 96 = .ok (.ireturn, 1) := by decide +kernel
theorem dX4_frights_0 : decode cX4_frights 0 = .ok (.aload_n 0, 1) := by decide +kernel
theorem dX4_frights_1 : decode cX4_frights 1 = .ok (.iload_n 1, 1) := by decide +kernel
theorem dX4_frights_2 : decode cX4_frights 2 = .ok (.iload_n 2, 1) := by decide +kernel
theorem dX4_frights_3 : decode cX4_frights 3 = .ok (.invokevirtual 233, 3) := by decide +kernel
theorem dX4_frights_6 : decode cX4_frights 6 = .ok (.istore_n 3, 1) := by decide +kernel
theorem dX4_frights_7 : decode cX4_frights 7 = .ok (.iload_n 3, 1) := by decide +kernel
theorem dX4_frights_8 : decode cX4_frights 8 = .ok (.ifCond .eq 5, 3) := by decide +kernel
theorem dX4_frights_11 : decode cX4_frights 11 = .ok (.iload_n 3, 1) := by decide +kernel
theorem dX4_frights_12 : decode cX4_frights 12 = .ok (.ireturn, 1) := by decide +kernel
theorem dX4_frights_13 : decode cX4_frights 13 = .ok (.aload_n 0, 1) := by decide +kernel
theorem dX4_frights_14 : decode cX4_frights 14 = .ok (.getfield 31, 3) := by decide +kernel
theorem dX4_frights_17 : decode cX4_frights 17 = .ok (.getfield 124, 3) := by decide +kernel
theorem dX4_frights_20 : decode cX4_frights 20 = .ok (.iload_n 1, 1) := by decide +kernel
theorem dX4_frights_21 : decode cX4_frights 21 = .ok (.iaload, 1) := by decide +kernel
theorem dX4_frights_22 : decode cX4_frights 22 = .ok (.istore 4, 2) := by decide +kernel
theorem dX4_frights_24 : decode cX4_frights 24 = .ok (.aload_n 0, 1) := by decide +kernel
theorem dX4_frights_25 : decode cX4_frights 25 = .ok (.getfield 31, 3) := by decide +kernel
theorem dX4_frights_28 : decode cX4_frights 28 = .ok (.iload_n 1, 1) := by decide +kernel
theorem dX4_frights_29 : decode cX4_frights 29 = .ok (.aload_n 0, 1) := by decide +kernel
theorem dX4_frights_30 : decode cX4_frights 30 = .ok (.getfield 39, 3) := by decide +kernel
theorem dX4_frights_33 : decode cX4_frights 33 = .ok (.getfield 236, 3) := by decide +kernel
theorem dX4_frights_36 : decode cX4_frights 36 = .ok (.invokevirtual 239, 3) := by decide +kernel
theorem dX4_frights_39 : decode cX4_frights 39 = .ok (.istore 5, 2) := by decide +kernel
theorem dX4_frights_41 : decode cX4_frights 41 = .ok (.iconst 0, 1) := by decide +kernel
theorem dX4_frights_42 : decode cX4_frights 42 = .ok (.istore 6, 2) := by decide +kernel
theorem dX4_frights_44 : decode cX4_frights 44 = .ok (.iconst 0, 1) := by decide +kernel
theorem dX4_frights_45 : decode cX4_frights 45 = .ok (.istore 7, 2) := by decide +kernel
theorem dX4_frights_47 : decode cX4_frights 47 = .ok (.iconst 0, 1) := by decide +kernel
theorem dX4_frights_48 : decode cX4_frights 48 = .ok (.istore 8, 2) := by decide +kernel
theorem dX4_frights_50 : decode cX4_frights 50 = .ok (.iload 8, 2) := by decide +kernel
theorem dX4_frights_52 : decode cX4_frights 52 = .ok (.bipush 9, 2) := by decide +kernel
theorem dX4_frights_54 : decode cX4_frights 54 = .ok (.if_icmp .gt 73, 3) := by decide +kernel
theorem dX4_frights_57 : decode cX4_frights 57 = .ok (.aload_n 0, 1) := by decide +kernel
theorem dX4_frights_58 : decode cX4_frights 58 = .ok (.iload_n 2, 1) := by decide +kernel
theorem dX4_frights_59 : decode cX4_frights 59 = .ok (.iload 4, 2) := by decide +kernel
theorem dX4_frights_61 : decode cX4_frights 61 = .ok (.aload_n 0, 1) := by decide +kernel
theorem dX4_frights_62 : decode cX4_frights 62 = .ok (.getfield 31, 3) := by decide +kernel
theorem dX4_frights_65 : decode cX4_frights 65 = .ok (.getfield 242, 3) := by decide +kernel
theorem dX4_frights_68 : decode cX4_frights 68 = .ok (.iload_n 1, 1) := by decide +kernel
theorem dX4_frights_69 : decode cX4_frights 69 = .ok (.iaload, 1) := by decide +kernel
theorem dX4_frights_70 : decode cX4_frights 70 = .ok (.iload 8, 2) := by decide +kernel
theorem dX4_frights_72 : decode cX4_frights 72 = .ok (.iload 5, 2) := by decide +kernel
theorem dX4_frights_74 : decode cX4_frights 74 = .ok (.invokevirtual 245, 3) := by decide +kernel
theorem dX4_frights_77 : decode cX4_frights 77 = .ok (.ifCond .eq 12, 3) := by decide +kernel
theorem dX4_frights_80 : decode cX4_frights 80 = .ok (.iload 6, 2) := by decide +kernel
theorem dX4_frights_82 : decode cX4_frights 82 = .ok (.iconst 1, 1) := by decide +kernel
theorem dX4_frights_83 : decode cX4_frights 83 = .ok (.iload 8, 2) := by decide +kernel
theorem dX4_frights_85 : decode cX4_frights 85 = .ok (.ishl, 1) := by decide +kernel
theorem dX4_frights_86 : decode cX4_frights 86 = .ok (.ior, 1) := by decide +kernel
theorem dX4_frights_87 : decode cX4_frights 87 = .ok (.istore 6, 2) := by decide +kernel
theorem dX4_frights_89 : decode cX4_frights 89 = .ok (.aload_n 0, 1) := by decide +kernel
theorem dX4_frights_90 : decode cX4_frights 90 = .ok (.iload_n 2, 1) := by decide +kernel
theorem dX4_frights_91 : decode cX4_frights 91 = .ok (.iload 4, 2) := by decide +kernel
theorem dX4_frights_93 : decode cX4_frights 93 = .ok (.iload 8, 2) := by decide +kernel
theorem dX4_frights_95 : decode cX4_frights 95 = .ok (.aload_n 0, 1) := by decide +kernel
theorem dX4_frights_96 : decode cX4_frights 96 = .ok (.getfield 31, 3) := by decide +kernel
theorem dX4_frights_99 : decode cX4_frights 99 = .ok (.getfield 249, 3) := by decide +kernel
theorem dX4_frights_102 : decode cX4_frights 102 = .ok (.iload_n 1, 1) := by decide +kernel
theorem dX4_frights_103 : decode cX4_frights 103 = .ok (.iaload, 1) := by decide +kernel
theorem dX4_frights_104 : decode cX4_frights 104 = .ok (.iload 5, 2) := by decide +kernel
theorem dX4_frights_106 : decode cX4_frights 106 = .ok (.invokevirtual 245, 3) := by decide +kernel
theorem dX4_frights_109 : decode cX4_frights 109 = .ok (.ifCond .eq 12, 3) := by decide +kernel
theorem dX4_frights_112 : decode cX4_frights 112 = .ok (.iload 7, 2) := by decide +kernel
theorem dX4_frights_114 : decode cX4_frights 114 = .ok (.iconst 1, 1) := by decide +kernel
theorem dX4_frights_115 : decode cX4_frights 115 = .ok (.iload 8, 2) := by decide +kernel
theorem dX4_frights_117 : decode cX4_frights 117 = .ok (.ishl, 1) := by decide +kernel
theorem dX4_frights_118 : decode cX4_frights 118 = .ok (.ior, 1) := by decide +kernel
theorem dX4_frights_119 : decode cX4_frights 119 = .ok (.istore 7, 2) := by decide +kernel
theorem dX4_frights_121 : decode cX4_frights 121 = .ok (.iinc 8 1, 3) := by decide +kernel
theorem dX4_frights_124 : decode cX4_frights 124 = .ok (.goto (-74), 3) := by decide +kernel
theorem dX4_frights_127 : decode cX4_frights 127 = .ok (.aload_n 0, 1) := by decide +kernel
theorem dX4_frights_128 : decode cX4_frights 128 = .ok (.iload 7, 2) := by decide +kernel
theorem dX4_frights_130 : decode cX4_frights 130 = .ok (.invokevirtual 83, 3) := by decide +kernel
theorem dX4_frights_133 : decode cX4_frights 133 = .ok (.pop, 1) := by decide +kernel
theorem dX4_frights_134 : decode cX4_frights 134 = .ok (.iload 6, 2) := by decide +kernel
theorem dX4_frights_136 : decode cX4_frights 136 = .ok (.ireturn, 1) := by decide +kernel
theorem dX4_kinds_0 : decode cX4_kinds 0 = .ok (.aload_n 0, 1) := by decide +kernel
theorem dX4_kinds_1 : decode cX4_kinds 1 = .ok (.iload_n 1, 1) := by decide +kernel
theorem dX4_kinds_2 : decode cX4_kinds 2 = .ok (.iload_n 2, 1) := by decide +kernel
theorem dX4_kinds_3 : decode cX4_kinds 3 = .ok (.invokevirtual 233, 3) := by decide +kernel
theorem dX4_kinds_6 : decode cX4_kinds 6 = .ok (.istore_n 3, 1) := by decide +kernel
theorem dX4_kinds_7 : decode cX4_kinds 7 = .ok (.iload_n 3, 1) := by decide +kernel
theorem dX4_kinds_8 : decode cX4_kinds 8 = .ok (.ifCond .eq 5, 3) := by decide +kernel
theorem dX4_kinds_11 : decode cX4_kinds 11 = .ok (.iload_n 3, 1) := by decide +kernel
theorem dX4_kinds_12 : decode cX4_kinds 12 = .ok (.ireturn, 1) := by decide +kernel
theorem dX4_kinds_13 : decode cX4_kinds 13 = .ok (.aload_n 0, 1) := by decide +kernel
theorem dX4_kinds_14 : decode cX4_kinds 14 = .ok (.getfield 31, 3) := by decide +kernel
theorem dX4_kinds_17 : decode cX4_kinds 17 = .ok (.iload_n 1, 1) := by decide +kernel
theorem dX4_kinds_18 : decode cX4_kinds 18 = .ok (.aload_n 0, 1) := by decide +kernel
theorem dX4_kinds_19 : decode cX4_kinds 19 = .ok (.getfield 39, 3) := by decide +kernel
theorem dX4_kinds_22 : decode cX4_kinds 22 = .ok (.getfield 236, 3) := by decide +kernel
theorem dX4_kinds_25 : decode cX4_kinds 25 = .ok (.invokevirtual 239, 3) := by decide +kernel
theorem dX4_kinds_28 : decode cX4_kinds 28 = .ok (.istore 4, 2) := by decide +kernel
theorem dX4_kinds_30 : decode cX4_kinds 30 = .ok (.iconst 0, 1) := by decide +kernel
theorem dX4_kinds_31 : decode cX4_kinds 31 = .ok (.istore 5, 2) := by decide +kernel
theorem dX4_kinds_33 : decode cX4_kinds 33 = .ok (.iconst 0, 1) := by decide +kernel
theorem dX4_kinds_34 : decode cX4_kinds 34 = .ok (.istore 6, 2) := by decide +kernel
theorem dX4_kinds_36 : decode cX4_kinds 36 = .ok (.iload 6, 2) := by decide +kernel
theorem dX4_kinds_38 : decode cX4_kinds 38 = .ok (.bipush 6, 2) := by decide +kernel
theorem dX4_kinds_40 : decode cX4_kinds 40 = .ok (.if_icmp .ge 48, 3) := by decide +kernel
theorem dX4_kinds_43 : decode cX4_kinds 43 = .ok (.aload_n 0, 1) := by decide +kernel
theorem dX4_kinds_44 : decode cX4_kinds 44 = .ok (.iload_n 2, 1) := by decide +kernel
theorem dX4_kinds_45 : decode cX4_kinds 45 = .ok (.iload 6, 2) := by decide +kernel
theorem dX4_kinds_47 : decode cX4_kinds 47 = .ok (.aload_n 0, 1) := by decide +kernel
theorem dX4_kinds_48 : decode cX4_kinds 48 = .ok (.getfield 31, 3) := by decide +kernel
theorem dX4_kinds_51 : decode cX4_kinds 51 = .ok (.getfield 242, 3) := by decide +kernel
theorem dX4_kinds_54 : decode cX4_kinds 54 = .ok (.iload_n 1, 1) := by decide +kernel
theorem dX4_kinds_55 : decode cX4_kinds 55 = .ok (.iaload, 1) := by decide +kernel
theorem dX4_kinds_56 : decode cX4_kinds 56 = .ok (.aload_n 0, 1) := by decide +kernel
theorem dX4_kinds_57 : decode cX4_kinds 57 = .ok (.getfield 31, 3) := by decide +kernel
theorem dX4_kinds_60 : decode cX4_kinds 60 = .ok (.getfield 249, 3) := by decide +kernel
theorem dX4_kinds_63 : decode cX4_kinds 63 = .ok (.iload_n 1, 1) := by decide +kernel
theorem dX4_kinds_64 : decode cX4_kinds 64 = .ok (.iaload, 1) := by decide +kernel
theorem dX4_kinds_65 : decode cX4_kinds 65 = .ok (.iload 4, 2) := by decide +kernel
theorem dX4_kinds_67 : decode cX4_kinds 67 = .ok (.invokevirtual 245, 3) := by decide +kernel
theorem dX4_kinds_70 : decode cX4_kinds 70 = .ok (.ifCond .eq 12, 3) := by decide +kernel
theorem dX4_kinds_73 : decode cX4_kinds 73 = .ok (.iload 5, 2) := by decide +kernel
theorem dX4_kinds_75 : decode cX4_kinds 75 = .ok (.iconst 1, 1) := by decide +kernel
theorem dX4_kinds_76 : decode cX4_kinds 76 = .ok (.iload 6, 2) := by decide +kernel
theorem dX4_kinds_78 : decode cX4_kinds 78 = .ok (.ishl, 1) := by decide +kernel
theorem dX4_kinds_79 : decode cX4_kinds 79 = .ok (.ior, 1) := by decide +kernel
theorem dX4_kinds_80 : decode cX4_kinds 80 = .ok (.istore 5, 2) := by decide +kernel
theorem dX4_kinds_82 : decode cX4_kinds 82 = .ok (.iinc 6 1, 3) := by decide +kernel
theorem dX4_kinds_85 : decode cX4_kinds 85 = .ok (.goto (-49), 3) := by decide +kernel
theorem dX4_kinds_88 : decode cX4_kinds 88 = .ok (.iload 5, 2) := by decide +kernel
theorem dX4_kinds_90 : decode cX4_kinds 90 = .ok (.ireturn, 1) := by decide +kernel
theorem dX4_whom_0 : decode cX4_whom 0 = .ok (.iload_n 1, 1) := by decide +kernel
theorem dX4_whom_1 : decode cX4_whom 1 = .ok (.ifCond .lt 9, 3) := by decide +kernel
theorem dX4_whom_4 : decode cX4_whom 4 = .ok (.iload_n 1, 1) := by decide +kernel
theorem dX4_whom_5 : decode cX4_whom 5 = .ok (.bipush 9, 2) := by decide +kernel
theorem dX4_whom_7 : decode cX4_whom 7 = .ok (.if_icmp .le 5, 3) := by decide +kernel
theorem dX4_whom_10 : decode cX4_whom 10 = .ok (.iconst (-1), 1) := by decide +kernel
theorem dX4_whom_11 : decode cX4_whom 11 = .ok (.ireturn, 1) := by decide +kernel
theorem dX4_whom_12 : decode cX4_whom 12 = .ok (.aload_n 0, 1) := by decide +kernel
theorem dX4_whom_13 : decode cX4_whom 13 = .ok (.getfield 39, 3) := by decide +kernel
theorem dX4_whom_16 : decode cX4_whom 16 = .ok (.invokevirtual 140, 3) := by decide +kernel
theorem dX4_whom_19 : decode cX4_whom 19 = .ok (.ifCond .ne 6, 3) := by decide +kernel
theorem dX4_whom_22 : decode cX4_whom 22 = .ok (.bipush (-4), 2) := by decide +kernel
theorem dX4_whom_24 : decode cX4_whom 24 = .ok (.ireturn, 1) := by decide +kernel
theorem dX4_whom_25 : decode cX4_whom 25 = .ok (.aload_n 0, 1) := by decide +kernel
theorem dX4_whom_26 : decode cX4_whom 26 = .ok (.getfield 39, 3) := by decide +kernel
theorem dX4_whom_29 : decode cX4_whom 29 = .ok (.invokevirtual 144, 3) := by decide +kernel
theorem dX4_whom_32 : decode cX4_whom 32 = .ok (.istore_n 2, 1) := by decide +kernel
theorem dX4_whom_33 : decode cX4_whom 33 = .ok (.iconst 0, 1) := by decide +kernel
theorem dX4_whom_34 : decode cX4_whom 34 = .ok (.istore_n 3, 1) := by decide +kernel
theorem dX4_whom_35 : decode cX4_whom 35 = .ok (.iconst 0, 1) := by decide +kernel
theorem dX4_whom_36 : decode cX4_whom 36 = .ok (.istore 4, 2) := by decide +kernel
theorem dX4_whom_38 : decode cX4_whom 38 = .ok (.iconst 0, 1) := by decide +kernel
theorem dX4_whom_39 : decode cX4_whom 39 = .ok (.istore 5, 2) := by decide +kernel
theorem dX4_whom_41 : decode cX4_whom 41 = .ok (.iload 5, 2) := by decide +kernel
theorem dX4_whom_43 : decode cX4_whom 43 = .ok (.aload_n 0, 1) := by decide +kernel
theorem dX4_whom_44 : decode cX4_whom 44 = .ok (.getfield 31, 3) := by decide +kernel
theorem dX4_whom_47 : decode cX4_whom 47 = .ok (.getfield 114, 3) := by decide +kernel
theorem dX4_whom_50 : decode cX4_whom 50 = .ok (.if_icmp .ge 55, 3) := by decide +kernel
theorem dX4_whom_53 : decode cX4_whom 53 = .ok (.iload_n 2, 1) := by decide +kernel
theorem dX4_whom_54 : decode cX4_whom 54 = .ok (.iload 5, 2) := by decide +kernel
theorem dX4_whom_56 : decode cX4_whom 56 = .ok (.invokestatic 147, 3) := by decide +kernel
theorem dX4_whom_59 : decode cX4_whom 59 = .ok (.ifCond .eq 40, 3) := by decide +kernel
theorem dX4_whom_62 : decode cX4_whom 62 = .ok (.aload_n 0, 1) := by decide +kernel
theorem dX4_whom_63 : decode cX4_whom 63 = .ok (.getfield 39, 3) := by decide +kernel
theorem dX4_whom_66 : decode cX4_whom 66 = .ok (.iload 5, 2) := by decide +kernel
theorem dX4_whom_68 : decode cX4_whom 68 = .ok (.invokevirtual 153, 3) := by decide +kernel
theorem dX4_whom_71 : decode cX4_whom 71 = .ok (.istore 6, 2) := by decide +kernel
theorem dX4_whom_73 : decode cX4_whom 73 = .ok (.iload 4, 2) := by decide +kernel
theorem dX4_whom_75 : decode cX4_whom 75 = .ok (.iconst 1, 1) := by decide +kernel
theorem dX4_whom_76 : decode cX4_whom 76 = .ok (.iload 6, 2) := by decide +kernel
theorem dX4_whom_78 : decode cX4_whom 78 = .ok (.ishl, 1) := by decide +kernel
theorem dX4_whom_79 : decode cX4_whom 79 = .ok (.ior, 1) := by decide +kernel
theorem dX4_whom_80 : decode cX4_whom 80 = .ok (.istore 4, 2) := by decide +kernel
theorem dX4_whom_82 : decode cX4_whom 82 = .ok (.iload_n 3, 1) := by decide +kernel
theorem dX4_whom_83 : decode cX4_whom 83 = .ok (.iload 6, 2) := by decide +kernel
theorem dX4_whom_85 : decode cX4_whom 85 = .ok (.iload_n 1, 1) := by decide +kernel
theorem dX4_whom_86 : decode cX4_whom 86 = .ok (.if_icmp .ne 10, 3) := by decide +kernel
theorem dX4_whom_89 : decode cX4_whom 89 = .ok (.iconst 1, 1) := by decide +kernel
theorem dX4_whom_90 : decode cX4_whom 90 = .ok (.iload 5, 2) := by decide +kernel
theorem dX4_whom_92 : decode cX4_whom 92 = .ok (.ishl, 1) := by decide +kernel
theorem dX4_whom_93 : decode cX4_whom 93 = .ok (.goto 4, 3) := by decide +kernel
theorem dX4_whom_96 : decode cX4_whom 96 = .ok (.iconst 0, 1) := by decide +kernel
theorem dX4_whom_97 : decode cX4_whom 97 = .ok (.ior, 1) := by decide +kernel
theorem dX4_whom_98 : decode cX4_whom 98 = .ok (.istore_n 3, 1) := by decide +kernel
theorem dX4_whom_99 : decode cX4_whom 99 = .ok (.iinc 5 1, 3) := by decide +kernel
theorem dX4_whom_102 : decode cX4_whom 102 = .ok (.goto (-61), 3) := by decide +kernel
theorem dX4_whom_105 : decode cX4_whom 105 = .ok (.aload_n 0, 1) := by decide +kernel
theorem dX4_whom_106 : decode cX4_whom 106 = .ok (.iload 4, 2) := by decide +kernel
theorem dX4_whom_108 : decode cX4_whom 108 = .ok (.invokestatic 168, 3) := by decide +kernel
theorem dX4_whom_111 : decode cX4_whom 111 = .ok (.invokevirtual 83, 3) := by decide +kernel
theorem dX4_whom_114 : decode cX4_whom 114 = .ok (.pop, 1) := by decide +kernel
theorem dX4_whom_115 : decode cX4_whom 115 = .ok (.iload_n 3, 1) := by decide +kernel
theorem dX4_whom_116 : decode cX4_whom 116 = .ok (.ireturn, 1) := by decide +kernel
theorem dX4_duel_0 : decode cX4_duel 0 = .ok (.iload_n 1, 1) := by decide +kernel
theorem dX4_duel_1 : decode cX4_duel 1 = .ok (.ifCond .lt 8, 3) := by decide +kernel
theorem dX4_duel_4 : decode cX4_duel 4 = .ok (.iload_n 1, 1) := by decide +kernel
theorem dX4_duel_5 : decode cX4_duel 5 = .ok (.iconst 4, 1) := by decide +kernel
theorem dX4_duel_6 : decode cX4_duel 6 = .ok (.if_icmp .le 5, 3) := by decide +kernel
theorem dX4_duel_9 : decode cX4_duel 9 = .ok (.iconst (-1), 1) := by decide +kernel
theorem dX4_duel_10 : decode cX4_duel 10 = .ok (.ireturn, 1) := by decide +kernel
theorem dX4_duel_11 : decode cX4_duel 11 = .ok (.aload_n 0, 1) := by decide +kernel
theorem dX4_duel_12 : decode cX4_duel 12 = .ok (.getfield 31, 3) := by decide +kernel
theorem dX4_duel_15 : decode cX4_duel 15 = .ok (.getfield 114, 3) := by decide +kernel
theorem dX4_duel_18 : decode cX4_duel 18 = .ok (.ifCond .ne 8, 3) := by decide +kernel
theorem dX4_duel_21 : decode cX4_duel 21 = .ok (.bipush (-4), 2) := by decide +kernel
theorem dX4_duel_23 : decode cX4_duel 23 = .ok (.goto 21, 3) := by decide +kernel
theorem dX4_duel_26 : decode cX4_duel 26 = .ok (.aload_n 0, 1) := by decide +kernel
theorem dX4_duel_27 : decode cX4_duel 27 = .ok (.getfield 48, 3) := by decide +kernel
theorem dX4_duel_30 : decode cX4_duel 30 = .ok (.iload_n 1, 1) := by decide +kernel
theorem dX4_duel_31 : decode cX4_duel 31 = .ok (.aload_n 0, 1) := by decide +kernel
theorem dX4_duel_32 : decode cX4_duel 32 = .ok (.getfield 39, 3) := by decide +kernel
theorem dX4_duel_35 : decode cX4_duel 35 = .ok (.invokevirtual 140, 3) := by decide +kernel
theorem dX4_duel_38 : decode cX4_duel 38 = .ok (.invokestatic 252, 3) := by decide +kernel
theorem dX4_duel_41 : decode cX4_duel 41 = .ok (.invokevirtual 255, 3) := by decide +kernel
theorem dX4_duel_44 : decode cX4_duel 44 = .ok (.ireturn, 1) := by decide +kernel
theorem dX4_odds_0 : decode cX4_odds 0 = .ok (.iload_n 1, 1) := by decide +kernel
theorem dX4_odds_1 : decode cX4_odds 1 = .ok (.ifCond .lt 9, 3) := by decide +kernel
theorem dX4_odds_4 : decode cX4_odds 4 = .ok (.iload_n 1, 1) := by decide +kernel
theorem dX4_odds_5 : decode cX4_odds 5 = .ok (.bipush 6, 2) := by decide +kernel
theorem dX4_odds_7 : decode cX4_odds 7 = .ok (.if_icmp .le 5, 3) := by decide +kernel
theorem dX4_odds_10 : decode cX4_odds 10 = .ok (.iconst (-1), 1) := by decide +kernel
theorem dX4_odds_11 : decode cX4_odds 11 = .ok (.ireturn, 1) := by decide +kernel
theorem dX4_odds_12 : decode cX4_odds 12 = .ok (.aload_n 0, 1) := by decide +kernel
theorem dX4_odds_13 : decode cX4_odds 13 = .ok (.getfield 31, 3) := by decide +kernel
theorem dX4_odds_16 : decode cX4_odds 16 = .ok (.getfield 114, 3) := by decide +kernel
theorem dX4_odds_19 : decode cX4_odds 19 = .ok (.ifCond .ne 6, 3) := by decide +kernel
theorem dX4_odds_22 : decode cX4_odds 22 = .ok (.bipush (-4), 2) := by decide +kernel
theorem dX4_odds_24 : decode cX4_odds 24 = .ok (.ireturn, 1) := by decide +kernel
theorem dX4_odds_25 : decode cX4_odds 25 = .ok (.aload_n 0, 1) := by decide +kernel
theorem dX4_odds_26 : decode cX4_odds 26 = .ok (.getfield 48, 3) := by decide +kernel
theorem dX4_odds_29 : decode cX4_odds 29 = .ok (.iload_n 1, 1) := by decide +kernel
theorem dX4_odds_30 : decode cX4_odds 30 = .ok (.invokevirtual 258, 3) := by decide +kernel
theorem dX4_odds_33 : decode cX4_odds 33 = .ok (.aload_n 0, 1) := by decide +kernel
theorem dX4_odds_34 : decode cX4_odds 34 = .ok (.aload_n 0, 1) := by decide +kernel
theorem dX4_odds_35 : decode cX4_odds 35 = .ok (.getfield 48, 3) := by decide +kernel
theorem dX4_odds_38 : decode cX4_odds 38 = .ok (.getfield 261, 3) := by decide +kernel
theorem dX4_odds_41 : decode cX4_odds 41 = .ok (.aload_n 0, 1) := by decide +kernel
theorem dX4_odds_42 : decode cX4_odds 42 = .ok (.getfield 48, 3) := by decide +kernel
theorem dX4_odds_45 : decode cX4_odds 45 = .ok (.getfield 264, 3) := by decide +kernel
theorem dX4_odds_48 : decode cX4_odds 48 = .ok (.invokevirtual 212, 3) := by decide +kernel
theorem dX4_odds_51 : decode cX4_odds 51 = .ok (.iconst 1, 1) := by decide +kernel
theorem dX4_odds_52 : decode cX4_odds 52 = .ok (.ireturn, 1) := by decide +kernel
theorem dX4_mid_0 : decode cX4_mid 0 = .ok (.aload_n 0, 1) := by decide +kernel
theorem dX4_mid_1 : decode cX4_mid 1 = .ok (.getfield 31, 3) := by decide +kernel
theorem dX4_mid_4 : decode cX4_mid 4 = .ok (.getfield 114, 3) := by decide +kernel
theorem dX4_mid_7 : decode cX4_mid 7 = .ok (.ifCond .ne 6, 3) := by decide +kernel
theorem dX4_mid_10 : decode cX4_mid 10 = .ok (.bipush (-4), 2) := by decide +kernel
theorem dX4_mid_12 : decode cX4_mid 12 = .ok (.ireturn, 1) := by decide +kernel
theorem dX4_mid_13 : decode cX4_mid 13 = .ok (.aload_n 0, 1) := by decide +kernel
theorem dX4_mid_14 : decode cX4_mid 14 = .ok (.getfield 48, 3) := by decide +kernel
theorem dX4_mid_17 : decode cX4_mid 17 = .ok (.iconst 0, 1) := by decide +kernel
theorem dX4_mid_18 : decode cX4_mid 18 = .ok (.invokevirtual 258, 3) := by decide +kernel
theorem dX4_mid_21 : decode cX4_mid 21 = .ok (.aload_n 0, 1) := by decide +kernel
theorem dX4_mid_22 : decode cX4_mid 22 = .ok (.aload_n 0, 1) := by decide +kernel
theorem dX4_mid_23 : decode cX4_mid 23 = .ok (.getfield 48, 3) := by decide +kernel
theorem dX4_mid_26 : decode cX4_mid 26 = .ok (.getfield 267, 3) := by decide +kernel
theorem dX4_mid_29 : decode cX4_mid 29 = .ok (.aload_n 0, 1) := by decide +kernel
theorem dX4_mid_30 : decode cX4_mid 30 = .ok (.getfield 48, 3) := by decide +kernel
theorem dX4_mid_33 : decode cX4_mid 33 = .ok (.getfield 264, 3) := by decide +kernel
theorem dX4_mid_36 : decode cX4_mid 36 = .ok (.invokevirtual 212, 3) := by decide +kernel
theorem dX4_mid_39 : decode cX4_mid 39 = .ok (.iconst 1, 1) := by decide +kernel
theorem dX4_mid_40 : decode cX4_mid 40 = .ok (.ireturn, 1) := by decide +kernel
theorem dX4_lots_0 : decode cX4_lots 0 = .ok (.iload_n 1, 1) := by decide +kernel
theorem dX4_lots_1 : decode cX4_lots 1 = .ok (.iconst 1, 1) := by decide +kernel
theorem dX4_lots_2 : decode cX4_lots 2 = .ok (.if_icmp .lt 10, 3) := by decide +kernel
theorem dX4_lots_5 : decode cX4_lots 5 = .ok (.iload_n 1, 1) := by decide +kernel
theorem dX4_lots_6 : decode cX4_lots 6 = .ok (.ldc_w 270, 3) := by decide +kernel
theorem dX4_lots_9 : decode cX4_lots 9 = .ok (.if_icmp .lt 5, 3) := by decide +kernel
theorem dX4_lots_12 : decode cX4_lots 12 = .ok (.iconst (-1), 1) := by decide +kernel
theorem dX4_lots_13 : decode cX4_lots 13 = .ok (.ireturn, 1) := by decide +kernel
theorem dX4_lots_14 : decode cX4_lots 14 = .ok (.aload_n 0, 1) := by decide +kernel
theorem dX4_lots_15 : decode cX4_lots 15 = .ok (.getfield 39, 3) := by decide +kernel
theorem dX4_lots_18 : decode cX4_lots 18 = .ok (.invokevirtual 140, 3) := by decide +kernel
theorem dX4_lots_21 : decode cX4_lots 21 = .ok (.istore_n 2, 1) := by decide +kernel
theorem dX4_lots_22 : decode cX4_lots 22 = .ok (.iload_n 2, 1) := by decide +kernel
theorem dX4_lots_23 : decode cX4_lots 23 = .ok (.ifCond .ne 6, 3) := by decide +kernel
theorem dX4_lots_26 : decode cX4_lots 26 = .ok (.bipush (-4), 2) := by decide +kernel
theorem dX4_lots_28 : decode cX4_lots 28 = .ok (.ireturn, 1) := by decide +kernel
theorem dX4_lots_29 : decode cX4_lots 29 = .ok (.aload_n 0, 1) := by decide +kernel
theorem dX4_lots_30 : decode cX4_lots 30 = .ok (.getfield 39, 3) := by decide +kernel
theorem dX4_lots_33 : decode cX4_lots 33 = .ok (.getfield 150, 3) := by decide +kernel
theorem dX4_lots_36 : decode cX4_lots 36 = .ok (.iload_n 2, 1) := by decide +kernel
theorem dX4_lots_37 : decode cX4_lots 37 = .ok (.iadd, 1) := by decide +kernel
theorem dX4_lots_38 : decode cX4_lots 38 = .ok (.bipush 40, 2) := by decide +kernel
theorem dX4_lots_40 : decode cX4_lots 40 = .ok (.if_icmp .le 6, 3) := by decide +kernel
theorem dX4_lots_43 : decode cX4_lots 43 = .ok (.bipush (-2), 2) := by decide +kernel
theorem dX4_lots_45 : decode cX4_lots 45 = .ok (.ireturn, 1) := by decide +kernel
theorem dX4_lots_46 : decode cX4_lots 46 = .ok (.aload_n 0, 1) := by decide +kernel
theorem dX4_lots_47 : decode cX4_lots 47 = .ok (.getfield 39, 3) := by decide +kernel
theorem dX4_lots_50 : decode cX4_lots 50 = .ok (.getfield 156, 3) := by decide +kernel
theorem dX4_lots_53 : decode cX4_lots 53 = .ok (.istore_n 3, 1) := by decide +kernel
theorem dX4_lots_54 : decode cX4_lots 54 = .ok (.iload_n 1, 1) := by decide +kernel
theorem dX4_lots_55 : decode cX4_lots 55 = .ok (.i2l, 1) := by decide +kernel
theorem dX4_lots_56 : decode cX4_lots 56 = .ok (.lstore 4, 2) := by decide +kernel
theorem dX4_lots_58 : decode cX4_lots 58 = .ok (.iconst 0, 1) := by decide +kernel
theorem dX4_lots_59 : decode cX4_lots 59 = .ok (.istore 6, 2) := by decide +kernel
theorem dX4_lots_61 : decode cX4_lots 61 = .ok (.iload 6, 2) := by decide +kernel
theorem dX4_lots_63 : decode cX4_lots 63 = .ok (.iload_n 2, 1) := by decide +kernel
theorem dX4_lots_64 : decode cX4_lots 64 = .ok (.if_icmp .ge 45, 3) := by decide +kernel
theorem dX4_lots_67 : decode cX4_lots 67 = .ok (.lload 4, 2) := by decide +kernel
theorem dX4_lots_69 : decode cX4_lots 69 = .ok (.ldc2_w 271, 3) := by decide +kernel
theorem dX4_lots_72 : decode cX4_lots 72 = .ok (.lmul, 1) := by decide +kernel
theorem dX4_lots_73 : decode cX4_lots 73 = .ok (.ldc2_w 273, 3) := by decide +kernel
theorem dX4_lots_76 : decode cX4_lots 76 = .ok (.lrem, 1) := by decide +kernel
theorem dX4_lots_77 : decode cX4_lots 77 = .ok (.lstore 4, 2) := by decide +kernel
theorem dX4_lots_79 : decode cX4_lots 79 = .ok (.aload_n 0, 1) := by decide +kernel
theorem dX4_lots_80 : decode cX4_lots 80 = .ok (.getfield 39, 3) := by decide +kernel
theorem dX4_lots_83 : decode cX4_lots 83 = .ok (.aload_n 0, 1) := by decide +kernel
theorem dX4_lots_84 : decode cX4_lots 84 = .ok (.getfield 39, 3) := by decide +kernel
theorem dX4_lots_87 : decode cX4_lots 87 = .ok (.invokevirtual 144, 3) := by decide +kernel
theorem dX4_lots_90 : decode cX4_lots 90 = .ok (.lload 4, 2) := by decide +kernel
theorem dX4_lots_92 : decode cX4_lots 92 = .ok (.ldc2_w 275, 3) := by decide +kernel
theorem dX4_lots_95 : decode cX4_lots 95 = .ok (.ldiv, 1) := by decide +kernel
theorem dX4_lots_96 : decode cX4_lots 96 = .ok (.l2i, 1) := by decide +kernel
theorem dX4_lots_97 : decode cX4_lots 97 = .ok (.invokestatic 277, 3) := by decide +kernel
theorem dX4_lots_100 : decode cX4_lots 100 = .ok (.invokevirtual 159, 3) := by decide +kernel
theorem dX4_lots_103 : decode cX4_lots 103 = .ok (.iinc 6 1, 3) := by decide +kernel
theorem dX4_lots_106 : decode cX4_lots 106 = .ok (.goto (-45), 3) := by decide +kernel
theorem dX4_lots_109 : decode cX4_lots 109 = .ok (.aload_n 0, 1) := by decide +kernel
theorem dX4_lots_110 : decode cX4_lots 110 = .ok (.getfield 39, 3) := by decide +kernel
theorem dX4_lots_113 : decode cX4_lots 113 = .ok (.getfield 156, 3) := by decide +kernel
theorem dX4_lots_116 : decode cX4_lots 116 = .ok (.iload_n 3, 1) := by decide +kernel
theorem dX4_lots_117 : decode cX4_lots 117 = .ok (.isub, 1) := by decide +kernel
theorem dX4_lots_118 : decode cX4_lots 118 = .ok (.ireturn, 1) := by decide +kernel
theorem dX4_asked_0 : decode cX4_asked 0 = .ok (.aload_n 0, 1) := by decide +kernel
theorem dX4_asked_1 : decode cX4_asked 1 = .ok (.getfield 280, 3) := by decide +kernel
theorem dX4_asked_4 : decode cX4_asked 4 = .ok (.ireturn, 1) := by decide +kernel
theorem dX4_upper_0 : decode cX4_upper 0 = .ok (.aload_n 0, 1) := by decide +kernel
theorem dX4_upper_1 : decode cX4_upper 1 = .ok (.getfield 283, 3) := by decide +kernel
theorem dX4_upper_4 : decode cX4_upper 4 = .ok (.lreturn, 1) := by decide +kernel
theorem dX4_lower_0 : decode cX4_lower 0 = .ok (.aload_n 0, 1) := by decide +kernel
theorem dX4_lower_1 : decode cX4_lower 1 = .ok (.getfield 56, 3) := by decide +kernel
theorem dX4_lower_4 : decode cX4_lower 4 = .ok (.lreturn, 1) := by decide +kernel
theorem dX4_count_0 : decode cX4_count 0 = .ok (.iload_n 1, 1) := by decide +kernel
theorem dX4_count_1 : decode cX4_count 1 = .ok (.ifCond .lt 9, 3) := by decide +kernel
theorem dX4_count_4 : decode cX4_count 4 = .ok (.iload_n 1, 1) := by decide +kernel
theorem dX4_count_5 : decode cX4_count 5 = .ok (.bipush 11, 2) := by decide +kernel
theorem dX4_count_7 : decode cX4_count 7 = .ok (.if_icmp .lt 7, 3) := by decide +kernel
theorem dX4_count_10 : decode cX4_count 10 = .ok (.iconst (-1), 1) := by decide +kernel
theorem dX4_count_11 : decode cX4_count 11 = .ok (.goto 8, 3) := by decide +kernel
theorem dX4_count_14 : decode cX4_count 14 = .ok (.aload_n 0, 1) := by decide +kernel
theorem dX4_count_15 : decode cX4_count 15 = .ok (.iload_n 1, 1) := by decide +kernel
theorem dX4_count_16 : decode cX4_count 16 = .ok (.invokevirtual 286, 3) := by decide +kernel
theorem dX4_count_19 : decode cX4_count 19 = .ok (.ireturn, 1) := by decide +kernel
theorem dX4_applause_0 : decode cX4_applause 0 = .ok (.aload_n 0, 1) := by decide +kernel
theorem dX4_applause_1 : decode cX4_applause 1 = .ok (.getfield 39, 3) := by decide +kernel
theorem dX4_applause_4 : decode cX4_applause 4 = .ok (.getfield 289, 3) := by decide +kernel
theorem dX4_applause_7 : decode cX4_applause 7 = .ok (.sipush 1000, 3) := by decide +kernel
theorem dX4_applause_10 : decode cX4_applause 10 = .ok (.iadd, 1) := by decide +kernel
theorem dX4_applause_11 : decode cX4_applause 11 = .ok (.ireturn, 1) := by decide +kernel
theorem dX4_finding_0 : decode cX4_finding 0 = .ok (.aload_n 0, 1) := by decide +kernel
theorem dX4_finding_1 : decode cX4_finding 1 = .ok (.getfield 292, 3) := by decide +kernel
theorem dX4_finding_4 : decode cX4_finding 4 = .ok (.ireturn, 1) := by decide +kernel
theorem dX4_findings_0 : decode cX4_findings 0 = .ok (.iload_n 1, 1) := by decide +kernel
theorem dX4_findings_1 : decode cX4_findings 1 = .ok (.iconst 1, 1) := by decide +kernel
theorem dX4_findings_2 : decode cX4_findings 2 = .ok (.if_icmp .lt 8, 3) := by decide +kernel
theorem dX4_findings_5 : decode cX4_findings 5 = .ok (.iload_n 1, 1) := by decide +kernel
theorem dX4_findings_6 : decode cX4_findings 6 = .ok (.iconst 5, 1) := by decide +kernel
theorem dX4_findings_7 : decode cX4_findings 7 = .ok (.if_icmp .le 7, 3) := by decide +kernel
theorem dX4_findings_10 : decode cX4_findings 10 = .ok (.iconst (-1), 1) := by decide +kernel
theorem dX4_findings_11 : decode cX4_findings 11 = .ok (.goto 9, 3) := by decide +kernel
theorem dX4_findings_14 : decode cX4_findings 14 = .ok (.aload_n 0, 1) := by decide +kernel
theorem dX4_findings_15 : decode cX4_findings 15 = .ok (.getfield 52, 3) := by decide +kernel
theorem dX4_findings_18 : decode cX4_findings 18 = .ok (.iload_n 1, 1) := by decide +kernel
theorem dX4_findings_19 : decode cX4_findings 19 = .ok (.iaload, 1) := by decide +kernel
theorem dX4_findings_20 : decode cX4_findings 20 = .ok (.ireturn, 1) := by decide +kernel
theorem dX4_digest_0 : decode cX4_digest 0 = .ok (.ldc2_w 295, 3) := by decide +kernel
theorem dX4_digest_3 : decode cX4_digest 3 = .ok (.lstore_n 1, 1) := by decide +kernel
theorem dX4_digest_4 : decode cX4_digest 4 = .ok (.iconst 0, 1) := by decide +kernel
theorem dX4_digest_5 : decode cX4_digest 5 = .ok (.istore_n 3, 1) := by decide +kernel
theorem dX4_digest_6 : decode cX4_digest 6 = .ok (.iload_n 3, 1) := by decide +kernel
theorem dX4_digest_7 : decode cX4_digest 7 = .ok (.bipush 11, 2) := by decide +kernel
theorem dX4_digest_9 : decode cX4_digest 9 = .ok (.if_icmp .ge 22, 3) := by decide +kernel
theorem dX4_digest_12 : decode cX4_digest 12 = .ok (.ldc2_w 297, 3) := by decide +kernel
theorem dX4_digest_15 : decode cX4_digest 15 = .ok (.lload_n 1, 1) := by decide +kernel
theorem dX4_digest_16 : decode cX4_digest 16 = .ok (.lmul, 1) := by decide +kernel
theorem dX4_digest_17 : decode cX4_digest 17 = .ok (.aload_n 0, 1) := by decide +kernel
theorem dX4_digest_18 : decode cX4_digest 18 = .ok (.iload_n 3, 1) := by decide +kernel
theorem dX4_digest_19 : decode cX4_digest 19 = .ok (.invokevirtual 286, 3) := by decide +kernel
theorem dX4_digest_22 : decode cX4_digest 22 = .ok (.i2l, 1) := by decide +kernel
theorem dX4_digest_23 : decode cX4_digest 23 = .ok (.ladd, 1) := by decide +kernel
theorem dX4_digest_24 : decode cX4_digest 24 = .ok (.lstore_n 1, 1) := by decide +kernel
theorem dX4_digest_25 : decode cX4_digest 25 = .ok (.iinc 3 1, 3) := by decide +kernel
theorem dX4_digest_28 : decode cX4_digest 28 = .ok (.goto (-22), 3) := by decide +kernel
theorem dX4_digest_31 : decode cX4_digest 31 = .ok (.ldc2_w 297, 3) := by decide +kernel
theorem dX4_digest_34 : decode cX4_digest 34 = .ok (.lload_n 1, 1) := by decide +kernel
theorem dX4_digest_35 : decode cX4_digest 35 = .ok (.lmul, 1) := by decide +kernel
theorem dX4_digest_36 : decode cX4_digest 36 = .ok (.aload_n 0, 1) := by decide +kernel
theorem dX4_digest_37 : decode cX4_digest 37 = .ok (.getfield 39, 3) := by decide +kernel
theorem dX4_digest_40 : decode cX4_digest 40 = .ok (.getfield 289, 3) := by decide +kernel
theorem dX4_digest_43 : decode cX4_digest 43 = .ok (.i2l, 1) := by decide +kernel
theorem dX4_digest_44 : decode cX4_digest 44 = .ok (.ladd, 1) := by decide +kernel
theorem dX4_digest_45 : decode cX4_digest 45 = .ok (.ldc2_w 299, 3) := by decide +kernel
theorem dX4_digest_48 : decode cX4_digest 48 = .ok (.ladd, 1) := by decide +kernel
theorem dX4_digest_49 : decode cX4_digest 49 = .ok (.lstore_n 1, 1) := by decide +kernel
theorem dX4_digest_50 : decode cX4_digest 50 = .ok (.iconst 0, 1) := by decide +kernel
theorem dX4_digest_51 : decode cX4_digest 51 = .ok (.istore_n 3, 1) := by decide +kernel
theorem dX4_digest_52 : decode cX4_digest 52 = .ok (.iload_n 3, 1) := by decide +kernel
theorem dX4_digest_53 : decode cX4_digest 53 = .ok (.aload_n 0, 1) := by decide +kernel
theorem dX4_digest_54 : decode cX4_digest 54 = .ok (.getfield 31, 3) := by decide +kernel
theorem dX4_digest_57 : decode cX4_digest 57 = .ok (.getfield 134, 3) := by decide +kernel
theorem dX4_digest_60 : decode cX4_digest 60 = .ok (.if_icmp .ge 26, 3) := by decide +kernel
theorem dX4_digest_63 : decode cX4_digest 63 = .ok (.ldc2_w 297, 3) := by decide +kernel
theorem dX4_digest_66 : decode cX4_digest 66 = .ok (.lload_n 1, 1) := by decide +kernel
theorem dX4_digest_67 : decode cX4_digest 67 = .ok (.lmul, 1) := by decide +kernel
theorem dX4_digest_68 : decode cX4_digest 68 = .ok (.aload_n 0, 1) := by decide +kernel
theorem dX4_digest_69 : decode cX4_digest 69 = .ok (.getfield 31, 3) := by decide +kernel
theorem dX4_digest_72 : decode cX4_digest 72 = .ok (.getfield 137, 3) := by decide +kernel
theorem dX4_digest_75 : decode cX4_digest 75 = .ok (.iload_n 3, 1) := by decide +kernel
theorem dX4_digest_76 : decode cX4_digest 76 = .ok (.iaload, 1) := by decide +kernel
theorem dX4_digest_77 : decode cX4_digest 77 = .ok (.i2l, 1) := by decide +kernel
theorem dX4_digest_78 : decode cX4_digest 78 = .ok (.ladd, 1) := by decide +kernel
theorem dX4_digest_79 : decode cX4_digest 79 = .ok (.lstore_n 1, 1) := by decide +kernel
theorem dX4_digest_80 : decode cX4_digest 80 = .ok (.iinc 3 1, 3) := by decide +kernel
theorem dX4_digest_83 : decode cX4_digest 83 = .ok (.goto (-31), 3) := by decide +kernel
theorem dX4_digest_86 : decode cX4_digest 86 = .ok (.iconst 0, 1) := by decide +kernel
theorem dX4_digest_87 : decode cX4_digest 87 = .ok (.istore_n 3, 1) := by decide +kernel
theorem dX4_digest_88 : decode cX4_digest 88 = .ok (.iload_n 3, 1) := by decide +kernel
theorem dX4_digest_89 : decode cX4_digest 89 = .ok (.aload_n 0, 1) := by decide +kernel
theorem dX4_digest_90 : decode cX4_digest 90 = .ok (.getfield 31, 3) := by decide +kernel
theorem dX4_digest_93 : decode cX4_digest 93 = .ok (.getfield 114, 3) := by decide +kernel
theorem dX4_digest_96 : decode cX4_digest 96 = .ok (.if_icmp .ge 43, 3) := by decide +kernel
theorem dX4_digest_99 : decode cX4_digest 99 = .ok (.iconst 0, 1) := by decide +kernel
theorem dX4_digest_100 : decode cX4_digest 100 = .ok (.istore 4, 2) := by decide +kernel
theorem dX4_digest_102 : decode cX4_digest 102 = .ok (.iload 4, 2) := by decide +kernel
theorem dX4_digest_104 : decode cX4_digest 104 = .ok (.bipush 8, 2) := by decide +kernel
theorem dX4_digest_106 : decode cX4_digest 106 = .ok (.if_icmp .ge 27, 3) := by decide +kernel
theorem dX4_digest_109 : decode cX4_digest 109 = .ok (.ldc2_w 297, 3) := by decide +kernel
theorem dX4_digest_112 : decode cX4_digest 112 = .ok (.lload_n 1, 1) := by decide +kernel
theorem dX4_digest_113 : decode cX4_digest 113 = .ok (.lmul, 1) := by decide +kernel
theorem dX4_digest_114 : decode cX4_digest 114 = .ok (.aload_n 0, 1) := by decide +kernel
theorem dX4_digest_115 : decode cX4_digest 115 = .ok (.getfield 39, 3) := by decide +kernel
theorem dX4_digest_118 : decode cX4_digest 118 = .ok (.iload_n 3, 1) := by decide +kernel
theorem dX4_digest_119 : decode cX4_digest 119 = .ok (.iload 4, 2) := by decide +kernel
theorem dX4_digest_121 : decode cX4_digest 121 = .ok (.invokevirtual 121, 3) := by decide +kernel
theorem dX4_digest_124 : decode cX4_digest 124 = .ok (.i2l, 1) := by decide +kernel
theorem dX4_digest_125 : decode cX4_digest 125 = .ok (.ladd, 1) := by decide +kernel
theorem dX4_digest_126 : decode cX4_digest 126 = .ok (.lstore_n 1, 1) := by decide +kernel
theorem dX4_digest_127 : decode cX4_digest 127 = .ok (.iinc 4 1, 3) := by decide +kernel
theorem dX4_digest_130 : decode cX4_digest 130 = .ok (.goto (-28), 3) := by decide +kernel
theorem dX4_digest_133 : decode cX4_digest 133 = .ok (.iinc 3 1, 3) := by decide +kernel
theorem dX4_digest_136 : decode cX4_digest 136 = .ok (.goto (-48), 3) := by decide +kernel
theorem dX4_digest_139 : decode cX4_digest 139 = .ok (.iconst 0, 1) := by decide +kernel
theorem dX4_digest_140 : decode cX4_digest 140 = .ok (.istore_n 3, 1) := by decide +kernel
theorem dX4_digest_141 : decode cX4_digest 141 = .ok (.iload_n 3, 1) := by decide +kernel
theorem dX4_digest_142 : decode cX4_digest 142 = .ok (.iconst 3, 1) := by decide +kernel
theorem dX4_digest_143 : decode cX4_digest 143 = .ok (.if_icmp .ge 25, 3) := by decide +kernel
theorem dX4_digest_146 : decode cX4_digest 146 = .ok (.ldc2_w 297, 3) := by decide +kernel
theorem dX4_digest_149 : decode cX4_digest 149 = .ok (.lload_n 1, 1) := by decide +kernel
theorem dX4_digest_150 : decode cX4_digest 150 = .ok (.lmul, 1) := by decide +kernel
theorem dX4_digest_151 : decode cX4_digest 151 = .ok (.aload_n 0, 1) := by decide +kernel
theorem dX4_digest_152 : decode cX4_digest 152 = .ok (.getfield 21, 3) := by decide +kernel
theorem dX4_digest_155 : decode cX4_digest 155 = .ok (.iload_n 3, 1) := by decide +kernel
theorem dX4_digest_156 : decode cX4_digest 156 = .ok (.invokevirtual 105, 3) := by decide +kernel
theorem dX4_digest_159 : decode cX4_digest 159 = .ok (.i2l, 1) := by decide +kernel
theorem dX4_digest_160 : decode cX4_digest 160 = .ok (.ladd, 1) := by decide +kernel
theorem dX4_digest_161 : decode cX4_digest 161 = .ok (.lstore_n 1, 1) := by decide +kernel
theorem dX4_digest_162 : decode cX4_digest 162 = .ok (.iinc 3 1, 3) := by decide +kernel
theorem dX4_digest_165 : decode cX4_digest 165 = .ok (.goto (-24), 3) := by decide +kernel
theorem dX4_digest_168 : decode cX4_digest 168 = .ok (.aload_n 0, 1) := by decide +kernel
theorem dX4_digest_169 : decode cX4_digest 169 = .ok (.getfield 18, 3) := by decide +kernel
theorem dX4_digest_172 : decode cX4_digest 172 = .ok (.aload_n 0, 1) := by decide +kernel
theorem dX4_digest_173 : decode cX4_digest 173 = .ok (.getfield 14, 3) := by decide +kernel
theorem dX4_digest_176 : decode cX4_digest 176 = .ok (.lload_n 1, 1) := by decide +kernel
theorem dX4_digest_177 : decode cX4_digest 177 = .ok (.invokevirtual 301, 3) := by decide +kernel
theorem dX4_digest_180 : decode cX4_digest 180 = .ok (.invokevirtual 301, 3) := by decide +kernel
theorem dX4_digest_183 : decode cX4_digest 183 = .ok (.lreturn, 1) := by decide +kernel
theorem dX4_tell_0 : decode cX4_tell 0 = .ok (.aload_n 0, 1) := by decide +kernel
theorem dX4_tell_1 : decode cX4_tell 1 = .ok (.iload_n 1, 1) := by decide +kernel
theorem dX4_tell_2 : decode cX4_tell 2 = .ok (.putfield 280, 3) := by decide +kernel
theorem dX4_tell_5 : decode cX4_tell 5 = .ok (.iconst 1, 1) := by decide +kernel
theorem dX4_tell_6 : decode cX4_tell 6 = .ok (.ireturn, 1) := by decide +kernel
theorem dX4_tellFraction_0 : decode cX4_tellFraction 0 = .ok (.lload_n 1, 1) := by decide +kernel
theorem dX4_tellFraction_1 : decode cX4_tellFraction 1 = .ok (.invokestatic 305, 3) := by decide +kernel
theorem dX4_tellFraction_4 : decode cX4_tellFraction 4 = .ok (.lload_n 3, 1) := by decide +kernel
theorem dX4_tellFraction_5 : decode cX4_tellFraction 5 = .ok (.invokestatic 308, 3) := by decide +kernel
theorem dX4_tellFraction_8 : decode cX4_tellFraction 8 = .ok (.lstore 5, 2) := by decide +kernel
theorem dX4_tellFraction_10 : decode cX4_tellFraction 10 = .ok (.lload 5, 2) := by decide +kernel
theorem dX4_tellFraction_12 : decode cX4_tellFraction 12 = .ok (.lconst 0, 1) := by decide +kernel
theorem dX4_tellFraction_13 : decode cX4_tellFraction 13 = .ok (.lcmp, 1) := by decide +kernel
theorem dX4_tellFraction_14 : decode cX4_tellFraction 14 = .ok (.ifCond .le 19, 3) := by decide +kernel
theorem dX4_tellFraction_17 : decode cX4_tellFraction 17 = .ok (.aload_n 0, 1) := by decide +kernel
theorem dX4_tellFraction_18 : decode cX4_tellFraction 18 = .ok (.lload_n 1, 1) := by decide +kernel
theorem dX4_tellFraction_19 : decode cX4_tellFraction 19 = .ok (.lload 5, 2) := by decide +kernel
theorem dX4_tellFraction_21 : decode cX4_tellFraction 21 = .ok (.ldiv, 1) := by decide +kernel
theorem dX4_tellFraction_22 : decode cX4_tellFraction 22 = .ok (.putfield 283, 3) := by decide +kernel
theorem dX4_tellFraction_25 : decode cX4_tellFraction 25 = .ok (.aload_n 0, 1) := by decide +kernel
theorem dX4_tellFraction_26 : decode cX4_tellFraction 26 = .ok (.lload_n 3, 1) := by decide +kernel
theorem dX4_tellFraction_27 : decode cX4_tellFraction 27 = .ok (.lload 5, 2) := by decide +kernel
theorem dX4_tellFraction_29 : decode cX4_tellFraction 29 = .ok (.ldiv, 1) := by decide +kernel
theorem dX4_tellFraction_30 : decode cX4_tellFraction 30 = .ok (.putfield 56, 3) := by decide +kernel
theorem dX4_tellFraction_33 : decode cX4_tellFraction 33 = .ok (.return_, 1) := by decide +kernel
theorem dX4_greatestDivisor_0 : decode cX4_greatestDivisor 0 = .ok (.lload_n 0, 1) := by decide +kernel
theorem dX4_greatestDivisor_1 : decode cX4_greatestDivisor 1 = .ok (.lstore 4, 2) := by decide +kernel
theorem dX4_greatestDivisor_3 : decode cX4_greatestDivisor 3 = .ok (.lload_n 2, 1) := by decide +kernel
theorem dX4_greatestDivisor_4 : decode cX4_greatestDivisor 4 = .ok (.lstore 6, 2) := by decide +kernel
theorem dX4_greatestDivisor_6 : decode cX4_greatestDivisor 6 = .ok (.iconst 0, 1) := by decide +kernel
theorem dX4_greatestDivisor_7 : decode cX4_greatestDivisor 7 = .ok (.istore 8, 2) := by decide +kernel
theorem dX4_greatestDivisor_9 : decode cX4_greatestDivisor 9 = .ok (.iload 8, 2) := by decide +kernel
theorem dX4_greatestDivisor_11 : decode cX4_greatestDivisor 11 = .ok (.bipush 100, 2) := by decide +kernel
theorem dX4_greatestDivisor_13 : decode cX4_greatestDivisor 13 = .ok (.if_icmp .ge 31, 3) := by decide +kernel
theorem dX4_greatestDivisor_16 : decode cX4_greatestDivisor 16 = .ok (.lload 6, 2) := by decide +kernel
theorem dX4_greatestDivisor_18 : decode cX4_greatestDivisor 18 = .ok (.lconst 0, 1) := by decide +kernel
theorem dX4_greatestDivisor_19 : decode cX4_greatestDivisor 19 = .ok (.lcmp, 1) := by decide +kernel
theorem dX4_greatestDivisor_20 : decode cX4_greatestDivisor 20 = .ok (.ifCond .eq 24, 3) := by decide +kernel
theorem dX4_greatestDivisor_23 : decode cX4_greatestDivisor 23 = .ok (.lload 4, 2) := by decide +kernel
theorem dX4_greatestDivisor_25 : decode cX4_greatestDivisor 25 = .ok (.lload 6, 2) := by decide +kernel
theorem dX4_greatestDivisor_27 : decode cX4_greatestDivisor 27 = .ok (.lrem, 1) := by decide +kernel
theorem dX4_greatestDivisor_28 : decode cX4_greatestDivisor 28 = .ok (.lstore 9, 2) := by decide +kernel
theorem dX4_greatestDivisor_30 : decode cX4_greatestDivisor 30 = .ok (.lload 6, 2) := by decide +kernel
theorem dX4_greatestDivisor_32 : decode cX4_greatestDivisor 32 = .ok (.lstore 4, 2) := by decide +kernel
theorem dX4_greatestDivisor_34 : decode cX4_greatestDivisor 34 = .ok (.lload 9, 2) := by decide +kernel
theorem dX4_greatestDivisor_36 : decode cX4_greatestDivisor 36 = .ok (.lstore 6, 2) := by decide +kernel
theorem dX4_greatestDivisor_38 : decode cX4_greatestDivisor 38 = .ok (.iinc 8 1, 3) := by decide +kernel
theorem dX4_greatestDivisor_41 : decode cX4_greatestDivisor 41 = .ok (.goto (-32), 3) := by decide +kernel
theorem dX4_greatestDivisor_44 : decode cX4_greatestDivisor 44 = .ok (.lload 4, 2) := by decide +kernel
theorem dX4_greatestDivisor_46 : decode cX4_greatestDivisor 46 = .ok (.lreturn, 1) := by decide +kernel
theorem dX4_refuse_0 : decode cX4_refuse 0 = .ok (.aload_n 0, 1) := by decide +kernel
theorem dX4_refuse_1 : decode cX4_refuse 1 = .ok (.iload_n 1, 1) := by decide +kernel
theorem dX4_refuse_2 : decode cX4_refuse 2 = .ok (.putfield 292, 3) := by decide +kernel
theorem dX4_refuse_5 : decode cX4_refuse 5 = .ok (.iload_n 1, 1) := by decide +kernel
theorem dX4_refuse_6 : decode cX4_refuse 6 = .ok (.ifCond .lt 22, 3) := by decide +kernel
theorem dX4_refuse_9 : decode cX4_refuse 9 = .ok (.iload_n 1, 1) := by decide +kernel
theorem dX4_refuse_10 : decode cX4_refuse 10 = .ok (.aload_n 0, 1) := by decide +kernel
theorem dX4_refuse_11 : decode cX4_refuse 11 = .ok (.getfield 52, 3) := by decide +kernel
theorem dX4_refuse_14 : decode cX4_refuse 14 = .ok (.arraylength, 1) := by decide +kernel
theorem dX4_refuse_15 : decode cX4_refuse 15 = .ok (.if_icmp .ge 13, 3) := by decide +kernel
theorem dX4_refuse_18 : decode cX4_refuse 18 = .ok (.aload_n 0, 1) := by decide +kernel
theorem dX4_refuse_19 : decode cX4_refuse 19 = .ok (.getfield 52, 3) := by decide +kernel
theorem dX4_refuse_22 : decode cX4_refuse 22 = .ok (.iload_n 1, 1) := by decide +kernel
theorem dX4_refuse_23 : decode cX4_refuse 23 = .ok (.dup2, 1) := by decide +kernel
theorem dX4_refuse_24 : decode cX4_refuse 24 = .ok (.iaload, 1) := by decide +kernel
theorem dX4_refuse_25 : decode cX4_refuse 25 = .ok (.iconst 1, 1) := by decide +kernel
theorem dX4_refuse_26 : decode cX4_refuse 26 = .ok (.iadd, 1) := by decide +kernel
theorem dX4_refuse_27 : decode cX4_refuse 27 = .ok (.iastore, 1) := by decide +kernel
theorem dX4_refuse_28 : decode cX4_refuse 28 = .ok (.bipush (-3), 2) := by decide +kernel
theorem dX4_refuse_30 : decode cX4_refuse 30 = .ok (.ireturn, 1) := by decide +kernel
theorem dX4_refusalOfPlace_0 : decode cX4_refusalOfPlace 0 = .ok (.aload_n 1, 1) := by decide +kernel
theorem dX4_refusalOfPlace_1 : decode cX4_refusalOfPlace 1 = .ok (.iload_n 2, 1) := by decide +kernel
theorem dX4_refusalOfPlace_2 : decode cX4_refusalOfPlace 2 = .ok (.invokevirtual 60, 3) := by decide +kernel
theorem dX4_refusalOfPlace_5 : decode cX4_refusalOfPlace 5 = .ok (.ifCond .ne 5, 3) := by decide +kernel
theorem dX4_refusalOfPlace_8 : decode cX4_refusalOfPlace 8 = .ok (.iconst (-1), 1) := by decide +kernel
theorem dX4_refusalOfPlace_9 : decode cX4_refusalOfPlace 9 = .ok (.ireturn, 1) := by decide +kernel
theorem dX4_refusalOfPlace_10 : decode cX4_refusalOfPlace 10 = .ok (.aload_n 1, 1) := by decide +kernel
theorem dX4_refusalOfPlace_11 : decode cX4_refusalOfPlace 11 = .ok (.iload_n 2, 1) := by decide +kernel
theorem dX4_refusalOfPlace_12 : decode cX4_refusalOfPlace 12 = .ok (.invokevirtual 94, 3) := by decide +kernel
theorem dX4_refusalOfPlace_15 : decode cX4_refusalOfPlace 15 = .ok (.ifCond .eq 7, 3) := by decide +kernel
theorem dX4_refusalOfPlace_18 : decode cX4_refusalOfPlace 18 = .ok (.iconst 0, 1) := by decide +kernel
theorem dX4_refusalOfPlace_19 : decode cX4_refusalOfPlace 19 = .ok (.goto 8, 3) := by decide +kernel
theorem dX4_refusalOfPlace_22 : decode cX4_refusalOfPlace 22 = .ok (.aload_n 0, 1) := by decide +kernel
theorem dX4_refusalOfPlace_23 : decode cX4_refusalOfPlace 23 = .ok (.iconst 1, 1) := by decide +kernel
theorem dX4_refusalOfPlace_24 : decode cX4_refusalOfPlace 24 = .ok (.invokevirtual 64, 3) := by decide +kernel
theorem dX4_refusalOfPlace_27 : decode cX4_refusalOfPlace 27 = .ok (.ireturn, 1) := by decide +kernel
theorem dX4_refusalOfItem_0 : decode cX4_refusalOfItem 0 = .ok (.aload_n 0, 1) := by decide +kernel
theorem dX4_refusalOfItem_1 : decode cX4_refusalOfItem 1 = .ok (.aload_n 1, 1) := by decide +kernel
theorem dX4_refusalOfItem_2 : decode cX4_refusalOfItem 2 = .ok (.iload_n 2, 1) := by decide +kernel
theorem dX4_refusalOfItem_3 : decode cX4_refusalOfItem 3 = .ok (.invokevirtual 86, 3) := by decide +kernel
theorem dX4_refusalOfItem_6 : decode cX4_refusalOfItem 6 = .ok (.istore 4, 2) := by decide +kernel
theorem dX4_refusalOfItem_8 : decode cX4_refusalOfItem 8 = .ok (.iload 4, 2) := by decide +kernel
theorem dX4_refusalOfItem_10 : decode cX4_refusalOfItem 10 = .ok (.ifCond .eq 6, 3) := by decide +kernel
theorem dX4_refusalOfItem_13 : decode cX4_refusalOfItem 13 = .ok (.iload 4, 2) := by decide +kernel
theorem dX4_refusalOfItem_15 : decode cX4_refusalOfItem 15 = .ok (.ireturn, 1) := by decide +kernel
theorem dX4_refusalOfItem_16 : decode cX4_refusalOfItem 16 = .ok (.aload_n 1, 1) := by decide +kernel
theorem dX4_refusalOfItem_17 : decode cX4_refusalOfItem 17 = .ok (.iload_n 2, 1) := by decide +kernel
theorem dX4_refusalOfItem_18 : decode cX4_refusalOfItem 18 = .ok (.iload_n 3, 1) := by decide +kernel
theorem dX4_refusalOfItem_19 : decode cX4_refusalOfItem 19 = .ok (.invokevirtual 312, 3) := by decide +kernel
theorem dX4_refusalOfItem_22 : decode cX4_refusalOfItem 22 = .ok (.ifCond .eq 7, 3) := by decide +kernel
theorem dX4_refusalOfItem_25 : decode cX4_refusalOfItem 25 = .ok (.iconst 0, 1) := by decide +kernel
theorem dX4_refusalOfItem_26 : decode cX4_refusalOfItem 26 = .ok (.goto 8, 3) := by decide +kernel
theorem dX4_refusalOfItem_29 : decode cX4_refusalOfItem 29 = .ok (.aload_n 0, 1) := by decide +kernel
theorem dX4_refusalOfItem_30 : decode cX4_refusalOfItem 30 = .ok (.iconst 2, 1) := by decide +kernel
theorem dX4_refusalOfItem_31 : decode cX4_refusalOfItem 31 = .ok (.invokevirtual 64, 3) := by decide +kernel
theorem dX4_refusalOfItem_34 : decode cX4_refusalOfItem 34 = .ok (.ireturn, 1) := by decide +kernel
theorem dX4_refusalOfNotices_0 : decode cX4_refusalOfNotices 0 = .ok (.aload_n 0, 1) := by decide +kernel
theorem dX4_refusalOfNotices_1 : decode cX4_refusalOfNotices 1 = .ok (.getfield 31, 3) := by decide +kernel
theorem dX4_refusalOfNotices_4 : decode cX4_refusalOfNotices 4 = .ok (.iload_n 1, 1) := by decide +kernel
theorem dX4_refusalOfNotices_5 : decode cX4_refusalOfNotices 5 = .ok (.invokevirtual 118, 3) := by decide +kernel
theorem dX4_refusalOfNotices_8 : decode cX4_refusalOfNotices 8 = .ok (.ifCond .eq 14, 3) := by decide +kernel
theorem dX4_refusalOfNotices_11 : decode cX4_refusalOfNotices 11 = .ok (.aload_n 0, 1) := by decide +kernel
theorem dX4_refusalOfNotices_12 : decode cX4_refusalOfNotices 12 = .ok (.getfield 14, 3) := by decide +kernel
theorem dX4_refusalOfNotices_15 : decode cX4_refusalOfNotices 15 = .ok (.iload_n 2, 1) := by decide +kernel
theorem dX4_refusalOfNotices_16 : decode cX4_refusalOfNotices 16 = .ok (.invokevirtual 60, 3) := by decide +kernel
theorem dX4_refusalOfNotices_19 : decode cX4_refusalOfNotices 19 = .ok (.ifCond .ne 5, 3) := by decide +kernel
theorem dX4_refusalOfNotices_22 : decode cX4_refusalOfNotices 22 = .ok (.iconst (-1), 1) := by decide +kernel
theorem dX4_refusalOfNotices_23 : decode cX4_refusalOfNotices 23 = .ok (.ireturn, 1) := by decide +kernel
theorem dX4_refusalOfNotices_24 : decode cX4_refusalOfNotices 24 = .ok (.aload_n 0, 1) := by decide +kernel
theorem dX4_refusalOfNotices_25 : decode cX4_refusalOfNotices 25 = .ok (.getfield 14, 3) := by decide +kernel
theorem dX4_refusalOfNotices_28 : decode cX4_refusalOfNotices 28 = .ok (.iload_n 2, 1) := by decide +kernel
theorem dX4_refusalOfNotices_29 : decode cX4_refusalOfNotices 29 = .ok (.invokevirtual 94, 3) := by decide +kernel
theorem dX4_refusalOfNotices_32 : decode cX4_refusalOfNotices 32 = .ok (.ifCond .ne 9, 3) := by decide +kernel
theorem dX4_refusalOfNotices_35 : decode cX4_refusalOfNotices 35 = .ok (.aload_n 0, 1) := by decide +kernel
theorem dX4_refusalOfNotices_36 : decode cX4_refusalOfNotices 36 = .ok (.iconst 1, 1) := by decide +kernel
theorem dX4_refusalOfNotices_37 : decode cX4_refusalOfNotices 37 = .ok (.invokevirtual 64, 3) := by decide +kernel
theorem dX4_refusalOfNotices_40 : decode cX4_refusalOfNotices 40 = .ok (.ireturn, 1) := by decide +kernel
theorem dX4_refusalOfNotices_41 : decode cX4_refusalOfNotices 41 = .ok (.aload_n 0, 1) := by decide +kernel
theorem dX4_refusalOfNotices_42 : decode cX4_refusalOfNotices 42 = .ok (.getfield 14, 3) := by decide +kernel
theorem dX4_refusalOfNotices_45 : decode cX4_refusalOfNotices 45 = .ok (.iload_n 2, 1) := by decide +kernel
theorem dX4_refusalOfNotices_46 : decode cX4_refusalOfNotices 46 = .ok (.invokevirtual 105, 3) := by decide +kernel
theorem dX4_refusalOfNotices_49 : decode cX4_refusalOfNotices 49 = .ok (.iconst 3, 1) := by decide +kernel
theorem dX4_refusalOfNotices_50 : decode cX4_refusalOfNotices 50 = .ok (.irem, 1) := by decide +kernel
theorem dX4_refusalOfNotices_51 : decode cX4_refusalOfNotices 51 = .ok (.ifCond .eq 9, 3) := by decide +kernel
theorem dX4_refusalOfNotices_54 : decode cX4_refusalOfNotices 54 = .ok (.aload_n 0, 1) := by decide +kernel
theorem dX4_refusalOfNotices_55 : decode cX4_refusalOfNotices 55 = .ok (.iconst 5, 1) := by decide +kernel
theorem dX4_refusalOfNotices_56 : decode cX4_refusalOfNotices 56 = .ok (.invokevirtual 64, 3) := by decide +kernel
theorem dX4_refusalOfNotices_59 : decode cX4_refusalOfNotices 59 = .ok (.ireturn, 1) := by decide +kernel
theorem dX4_refusalOfNotices_60 : decode cX4_refusalOfNotices 60 = .ok (.aload_n 0, 1) := by decide +kernel
theorem dX4_refusalOfNotices_61 : decode cX4_refusalOfNotices 61 = .ok (.iload_n 2, 1) := by decide +kernel
theorem dX4_refusalOfNotices_62 : decode cX4_refusalOfNotices 62 = .ok (.invokevirtual 315, 3) := by decide +kernel
theorem dX4_refusalOfNotices_65 : decode cX4_refusalOfNotices 65 = .ok (.ifCond .eq 7, 3) := by decide +kernel
theorem dX4_refusalOfNotices_68 : decode cX4_refusalOfNotices 68 = .ok (.iconst 0, 1) := by decide +kernel
theorem dX4_refusalOfNotices_69 : decode cX4_refusalOfNotices 69 = .ok (.goto 8, 3) := by decide +kernel
theorem dX4_refusalOfNotices_72 : decode cX4_refusalOfNotices 72 = .ok (.aload_n 0, 1) := by decide +kernel
theorem dX4_refusalOfNotices_73 : decode cX4_refusalOfNotices 73 = .ok (.iconst 3, 1) := by decide +kernel
theorem dX4_refusalOfNotices_74 : decode cX4_refusalOfNotices 74 = .ok (.invokevirtual 64, 3) := by decide +kernel
theorem dX4_refusalOfNotices_77 : decode cX4_refusalOfNotices 77 = .ok (.ireturn, 1) := by decide +kernel
theorem dX4_countOf_0 : decode cX4_countOf 0 = .ok (.iload_n 1, 1) := by decide +kernel
theorem dX4_countOf_1 : decode cX4_countOf 1 = .ok (.tableswitch 135 0 9 #[55, 63, 71, 79, 87, 95, 103, 111, 119, 127], 55) := by decide +kernel
theorem dX4_countOf_56 : decode cX4_countOf 56 = .ok (.aload_n 0, 1) := by decide +kernel
theorem dX4_countOf_57 : decode cX4_countOf 57 = .ok (.getfield 31, 3) := by decide +kernel
theorem dX4_countOf_60 : decode cX4_countOf 60 = .ok (.getfield 114, 3) := by decide +kernel
theorem dX4_countOf_63 : decode cX4_countOf 63 = .ok (.ireturn, 1) := by decide +kernel
theorem dX4_countOf_64 : decode cX4_countOf 64 = .ok (.aload_n 0, 1) := by decide +kernel
theorem dX4_countOf_65 : decode cX4_countOf 65 = .ok (.getfield 31, 3) := by decide +kernel
theorem dX4_countOf_68 : decode cX4_countOf 68 = .ok (.getfield 134, 3) := by decide +kernel
theorem dX4_countOf_71 : decode cX4_countOf 71 = .ok (.ireturn, 1) := by decide +kernel
theorem dX4_countOf_72 : decode cX4_countOf 72 = .ok (.aload_n 0, 1) := by decide +kernel
theorem dX4_countOf_73 : decode cX4_countOf 73 = .ok (.getfield 39, 3) := by decide +kernel
theorem dX4_countOf_76 : decode cX4_countOf 76 = .ok (.getfield 162, 3) := by decide +kernel
theorem dX4_countOf_79 : decode cX4_countOf 79 = .ok (.ireturn, 1) := by decide +kernel
theorem dX4_countOf_80 : decode cX4_countOf 80 = .ok (.aload_n 0, 1) := by decide +kernel
theorem dX4_countOf_81 : decode cX4_countOf 81 = .ok (.getfield 39, 3) := by decide +kernel
theorem dX4_countOf_84 : decode cX4_countOf 84 = .ok (.getfield 150, 3) := by decide +kernel
theorem dX4_countOf_87 : decode cX4_countOf 87 = .ok (.ireturn, 1) := by decide +kernel
theorem dX4_countOf_88 : decode cX4_countOf 88 = .ok (.aload_n 0, 1) := by decide +kernel
theorem dX4_countOf_89 : decode cX4_countOf 89 = .ok (.getfield 39, 3) := by decide +kernel
theorem dX4_countOf_92 : decode cX4_countOf 92 = .ok (.getfield 318, 3) := by decide +kernel
theorem dX4_countOf_95 : decode cX4_countOf 95 = .ok (.ireturn, 1) := by decide +kernel
theorem dX4_countOf_96 : decode cX4_countOf 96 = .ok (.aload_n 0, 1) := by decide +kernel
theorem dX4_countOf_97 : decode cX4_countOf 97 = .ok (.getfield 39, 3) := by decide +kernel
theorem dX4_countOf_100 : decode cX4_countOf 100 = .ok (.getfield 321, 3) := by decide +kernel
theorem dX4_countOf_103 : decode cX4_countOf 103 = .ok (.ireturn, 1) := by decide +kernel
theorem dX4_countOf_104 : decode cX4_countOf 104 = .ok (.aload_n 0, 1) := by decide +kernel
theorem dX4_countOf_105 : decode cX4_countOf 105 = .ok (.getfield 39, 3) := by decide +kernel
theorem dX4_countOf_108 : decode cX4_countOf 108 = .ok (.getfield 156, 3) := by decide +kernel
theorem dX4_countOf_111 : decode cX4_countOf 111 = .ok (.ireturn, 1) := by decide +kernel
theorem dX4_countOf_112 : decode cX4_countOf 112 = .ok (.aload_n 0, 1) := by decide +kernel
theorem dX4_countOf_113 : decode cX4_countOf 113 = .ok (.getfield 31, 3) := by decide +kernel
theorem dX4_countOf_116 : decode cX4_countOf 116 = .ok (.invokevirtual 324, 3) := by decide +kernel
theorem dX4_countOf_119 : decode cX4_countOf 119 = .ok (.ireturn, 1) := by decide +kernel
theorem dX4_countOf_120 : decode cX4_countOf 120 = .ok (.aload_n 0, 1) := by decide +kernel
theorem dX4_countOf_121 : decode cX4_countOf 121 = .ok (.getfield 14, 3) := by decide +kernel
theorem dX4_countOf_124 : decode cX4_countOf 124 = .ok (.invokevirtual 327, 3) := by decide +kernel
theorem dX4_countOf_127 : decode cX4_countOf 127 = .ok (.ireturn, 1) := by decide +kernel
theorem dX4_countOf_128 : decode cX4_countOf 128 = .ok (.aload_n 0, 1) := by decide +kernel
theorem dX4_countOf_129 : decode cX4_countOf 129 = .ok (.getfield 18, 3) := by decide +kernel
theorem dX4_countOf_132 : decode cX4_countOf 132 = .ok (.invokevirtual 327, 3) := by decide +kernel
theorem dX4_countOf_135 : decode cX4_countOf 135 = .ok (.ireturn, 1) := by decide +kernel
theorem dX4_countOf_136 : decode cX4_countOf 136 = .ok (.aload_n 0, 1) := by decide +kernel
theorem dX4_countOf_137 : decode cX4_countOf 137 = .ok (.getfield 21, 3) := by decide +kernel
theorem dX4_countOf_140 : decode cX4_countOf 140 = .ok (.invokevirtual 327, 3) := by decide +kernel
theorem dX4_countOf_143 : decode cX4_countOf 143 = .ok (.ireturn, 1) := by decide +kernel
theorem dX4_isPlan_0 : decode cX4_isPlan 0 = .ok (.aload_n 0, 1) := by decide +kernel
theorem dX4_isPlan_1 : decode cX4_isPlan 1 = .ok (.getfield 39, 3) := by decide +kernel
theorem dX4_isPlan_4 : decode cX4_isPlan 4 = .ok (.invokevirtual 144, 3) := by decide +kernel
theorem dX4_isPlan_7 : decode cX4_isPlan 7 = .ok (.istore_n 2, 1) := by decide +kernel
theorem dX4_isPlan_8 : decode cX4_isPlan 8 = .ok (.iconst 0, 1) := by decide +kernel
theorem dX4_isPlan_9 : decode cX4_isPlan 9 = .ok (.istore_n 3, 1) := by decide +kernel
theorem dX4_isPlan_10 : decode cX4_isPlan 10 = .ok (.iload_n 3, 1) := by decide +kernel
theorem dX4_isPlan_11 : decode cX4_isPlan 11 = .ok (.aload_n 0, 1) := by decide +kernel
theorem dX4_isPlan_12 : decode cX4_isPlan 12 = .ok (.getfield 14, 3) := by decide +kernel
theorem dX4_isPlan_15 : decode cX4_isPlan 15 = .ok (.iload_n 1, 1) := by decide +kernel
theorem dX4_isPlan_16 : decode cX4_isPlan 16 = .ok (.invokevirtual 105, 3) := by decide +kernel
theorem dX4_isPlan_19 : decode cX4_isPlan 19 = .ok (.if_icmp .ge 59, 3) := by decide +kernel
theorem dX4_isPlan_22 : decode cX4_isPlan 22 = .ok (.aload_n 0, 1) := by decide +kernel
theorem dX4_isPlan_23 : decode cX4_isPlan 23 = .ok (.getfield 14, 3) := by decide +kernel
theorem dX4_isPlan_26 : decode cX4_isPlan 26 = .ok (.iload_n 1, 1) := by decide +kernel
theorem dX4_isPlan_27 : decode cX4_isPlan 27 = .ok (.iload_n 3, 1) := by decide +kernel
theorem dX4_isPlan_28 : decode cX4_isPlan 28 = .ok (.invokevirtual 76, 3) := by decide +kernel
theorem dX4_isPlan_31 : decode cX4_isPlan 31 = .ok (.istore 4, 2) := by decide +kernel
theorem dX4_isPlan_33 : decode cX4_isPlan 33 = .ok (.iload 4, 2) := by decide +kernel
theorem dX4_isPlan_35 : decode cX4_isPlan 35 = .ok (.bipush (-9), 2) := by decide +kernel
theorem dX4_isPlan_37 : decode cX4_isPlan 37 = .ok (.if_icmp .eq 35, 3) := by decide +kernel
theorem dX4_isPlan_40 : decode cX4_isPlan 40 = .ok (.aload_n 0, 1) := by decide +kernel
theorem dX4_isPlan_41 : decode cX4_isPlan 41 = .ok (.getfield 31, 3) := by decide +kernel
theorem dX4_isPlan_44 : decode cX4_isPlan 44 = .ok (.iload 4, 2) := by decide +kernel
theorem dX4_isPlan_46 : decode cX4_isPlan 46 = .ok (.invokevirtual 118, 3) := by decide +kernel
theorem dX4_isPlan_49 : decode cX4_isPlan 49 = .ok (.ifCond .eq 12, 3) := by decide +kernel
theorem dX4_isPlan_52 : decode cX4_isPlan 52 = .ok (.iload_n 2, 1) := by decide +kernel
theorem dX4_isPlan_53 : decode cX4_isPlan 53 = .ok (.iload 4, 2) := by decide +kernel
theorem dX4_isPlan_55 : decode cX4_isPlan 55 = .ok (.invokestatic 147, 3) := by decide +kernel
theorem dX4_isPlan_58 : decode cX4_isPlan 58 = .ok (.ifCond .ne 5, 3) := by decide +kernel
theorem dX4_isPlan_61 : decode cX4_isPlan 61 = .ok (.iconst 0, 1) := by decide +kernel
theorem dX4_isPlan_62 : decode cX4_isPlan 62 = .ok (.ireturn, 1) := by decide +kernel
theorem dX4_isPlan_63 : decode cX4_isPlan 63 = .ok (.iload_n 2, 1) := by decide +kernel
theorem dX4_isPlan_64 : decode cX4_isPlan 64 = .ok (.iconst 1, 1) := by decide +kernel
theorem dX4_isPlan_65 : decode cX4_isPlan 65 = .ok (.iload 4, 2) := by decide +kernel
theorem dX4_isPlan_67 : decode cX4_isPlan 67 = .ok (.ishl, 1) := by decide +kernel
theorem dX4_isPlan_68 : decode cX4_isPlan 68 = .ok (.iconst (-1), 1) := by decide +kernel
theorem dX4_isPlan_69 : decode cX4_isPlan 69 = .ok (.ixor, 1) := by decide +kernel
theorem dX4_isPlan_70 : decode cX4_isPlan 70 = .ok (.iand, 1) := by decide +kernel
theorem dX4_isPlan_71 : decode cX4_isPlan 71 = .ok (.istore_n 2, 1) := by decide +kernel
theorem dX4_isPlan_72 : decode cX4_isPlan 72 = .ok (.iinc 3 1, 3) := by decide +kernel
theorem dX4_isPlan_75 : decode cX4_isPlan 75 = .ok (.goto (-65), 3) := by decide +kernel
theorem dX4_isPlan_78 : decode cX4_isPlan 78 = .ok (.iconst 1, 1) := by decide +kernel
theorem dX4_isPlan_79 : decode cX4_isPlan 79 = .ok (.ireturn, 1) := by decide +kernel
theorem dX4_areNotices_0 : decode cX4_areNotices 0 = .ok (.iconst 0, 1) := by decide +kernel
theorem dX4_areNotices_1 : decode cX4_areNotices 1 = .ok (.istore_n 2, 1) := by decide +kernel
theorem dX4_areNotices_2 : decode cX4_areNotices 2 = .ok (.iload_n 2, 1) := by decide +kernel
theorem dX4_areNotices_3 : decode cX4_areNotices 3 = .ok (.iconst 2, 1) := by decide +kernel
theorem dX4_areNotices_4 : decode cX4_areNotices 4 = .ok (.iadd, 1) := by decide +kernel
theorem dX4_areNotices_5 : decode cX4_areNotices 5 = .ok (.aload_n 0, 1) := by decide +kernel
theorem dX4_areNotices_6 : decode cX4_areNotices 6 = .ok (.getfield 14, 3) := by decide +kernel
theorem dX4_areNotices_9 : decode cX4_areNotices 9 = .ok (.iload_n 1, 1) := by decide +kernel
theorem dX4_areNotices_10 : decode cX4_areNotices 10 = .ok (.invokevirtual 105, 3) := by decide +kernel
theorem dX4_areNotices_13 : decode cX4_areNotices 13 = .ok (.if_icmp .ge 83, 3) := by decide +kernel
theorem dX4_areNotices_16 : decode cX4_areNotices 16 = .ok (.aload_n 0, 1) := by decide +kernel
theorem dX4_areNotices_17 : decode cX4_areNotices 17 = .ok (.getfield 14, 3) := by decide +kernel
theorem dX4_areNotices_20 : decode cX4_areNotices 20 = .ok (.iload_n 1, 1) := by decide +kernel
theorem dX4_areNotices_21 : decode cX4_areNotices 21 = .ok (.iload_n 2, 1) := by decide +kernel
theorem dX4_areNotices_22 : decode cX4_areNotices 22 = .ok (.invokevirtual 76, 3) := by decide +kernel
theorem dX4_areNotices_25 : decode cX4_areNotices 25 = .ok (.istore_n 3, 1) := by decide +kernel
theorem dX4_areNotices_26 : decode cX4_areNotices 26 = .ok (.aload_n 0, 1) := by decide +kernel
theorem dX4_areNotices_27 : decode cX4_areNotices 27 = .ok (.getfield 14, 3) := by decide +kernel
theorem dX4_areNotices_30 : decode cX4_areNotices 30 = .ok (.iload_n 1, 1) := by decide +kernel
theorem dX4_areNotices_31 : decode cX4_areNotices 31 = .ok (.iload_n 2, 1) := by decide +kernel
theorem dX4_areNotices_32 : decode cX4_areNotices 32 = .ok (.iconst 1, 1) := by decide +kernel
theorem dX4_areNotices_33 : decode cX4_areNotices 33 = .ok (.iadd, 1) := by decide +kernel
theorem dX4_areNotices_34 : decode cX4_areNotices 34 = .ok (.invokevirtual 76, 3) := by decide +kernel
theorem dX4_areNotices_37 : decode cX4_areNotices 37 = .ok (.istore 4, 2) := by decide +kernel
theorem dX4_areNotices_39 : decode cX4_areNotices 39 = .ok (.aload_n 0, 1) := by decide +kernel
theorem dX4_areNotices_40 : decode cX4_areNotices 40 = .ok (.getfield 14, 3) := by decide +kernel
theorem dX4_areNotices_43 : decode cX4_areNotices 43 = .ok (.iload_n 1, 1) := by decide +kernel
theorem dX4_areNotices_44 : decode cX4_areNotices 44 = .ok (.iload_n 2, 1) := by decide +kernel
theorem dX4_areNotices_45 : decode cX4_areNotices 45 = .ok (.iconst 2, 1) := by decide +kernel
theorem dX4_areNotices_46 : decode cX4_areNotices 46 = .ok (.iadd, 1) := by decide +kernel
theorem dX4_areNotices_47 : decode cX4_areNotices 47 = .ok (.invokevirtual 76, 3) := by decide +kernel
theorem dX4_areNotices_50 : decode cX4_areNotices 50 = .ok (.istore 5, 2) := by decide +kernel
theorem dX4_areNotices_52 : decode cX4_areNotices 52 = .ok (.iload_n 3, 1) := by decide +kernel
theorem dX4_areNotices_53 : decode cX4_areNotices 53 = .ok (.iconst 1, 1) := by decide +kernel
theorem dX4_areNotices_54 : decode cX4_areNotices 54 = .ok (.if_icmp .lt 34, 3) := by decide +kernel
theorem dX4_areNotices_57 : decode cX4_areNotices 57 = .ok (.iload_n 3, 1) := by decide +kernel
theorem dX4_areNotices_58 : decode cX4_areNotices 58 = .ok (.bipush 9, 2) := by decide +kernel
theorem dX4_areNotices_60 : decode cX4_areNotices 60 = .ok (.if_icmp .gt 28, 3) := by decide +kernel
theorem dX4_areNotices_63 : decode cX4_areNotices 63 = .ok (.iload 4, 2) := by decide +kernel
theorem dX4_areNotices_65 : decode cX4_areNotices 65 = .ok (.bipush (-9), 2) := by decide +kernel
theorem dX4_areNotices_67 : decode cX4_areNotices 67 = .ok (.if_icmp .lt 21, 3) := by decide +kernel
theorem dX4_areNotices_70 : decode cX4_areNotices 70 = .ok (.iload 4, 2) := by decide +kernel
theorem dX4_areNotices_72 : decode cX4_areNotices 72 = .ok (.bipush 20, 2) := by decide +kernel
theorem dX4_areNotices_74 : decode cX4_areNotices 74 = .ok (.if_icmp .gt 14, 3) := by decide +kernel
theorem dX4_areNotices_77 : decode cX4_areNotices 77 = .ok (.iload 5, 2) := by decide +kernel
theorem dX4_areNotices_79 : decode cX4_areNotices 79 = .ok (.ifCond .lt 9, 3) := by decide +kernel
theorem dX4_areNotices_82 : decode cX4_areNotices 82 = .ok (.iload 5, 2) := by decide +kernel
theorem dX4_areNotices_84 : decode cX4_areNotices 84 = .ok (.iconst 1, 1) := by decide +kernel
theorem dX4_areNotices_85 : decode cX4_areNotices 85 = .ok (.if_icmp .le 5, 3) := by decide +kernel
theorem dX4_areNotices_88 : decode cX4_areNotices 88 = .ok (.iconst 0, 1) := by decide +kernel
theorem dX4_areNotices_89 : decode cX4_areNotices 89 = .ok (.ireturn, 1) := by decide +kernel
theorem dX4_areNotices_90 : decode cX4_areNotices 90 = .ok (.iinc 2 3, 3) := by decide +kernel
theorem dX4_areNotices_93 : decode cX4_areNotices 93 = .ok (.goto (-91), 3) := by decide +kernel
theorem dX4_areNotices_96 : decode cX4_areNotices 96 = .ok (.iconst 1, 1) := by decide +kernel
theorem dX4_areNotices_97 : decode cX4_areNotices 97 = .ok (.ireturn, 1) := by decide +kernel
theorem dX4_fitsNotices_0 : decode cX4_fitsNotices 0 = .ok (.iconst 0, 1) := by decide +kernel
theorem dX4_fitsNotices_1 : decode cX4_fitsNotices 1 = .ok (.istore 6, 2) := by decide +kernel
theorem dX4_fitsNotices_3 : decode cX4_fitsNotices 3 = .ok (.iload 6, 2) := by decide +kernel
theorem dX4_fitsNotices_5 : decode cX4_fitsNotices 5 = .ok (.iconst 2, 1) := by decide +kernel
theorem dX4_fitsNotices_6 : decode cX4_fitsNotices 6 = .ok (.iadd, 1) := by decide +kernel
theorem dX4_fitsNotices_7 : decode cX4_fitsNotices 7 = .ok (.aload_n 0, 1) := by decide +kernel
theorem dX4_fitsNotices_8 : decode cX4_fitsNotices 8 = .ok (.getfield 14, 3) := by decide +kernel
theorem dX4_fitsNotices_11 : decode cX4_fitsNotices 11 = .ok (.iload_n 1, 1) := by decide +kernel
theorem dX4_fitsNotices_12 : decode cX4_fitsNotices 12 = .ok (.invokevirtual 105, 3) := by decide +kernel
theorem dX4_fitsNotices_15 : decode cX4_fitsNotices 15 = .ok (.if_icmp .ge 82, 3) := by decide +kernel
theorem dX4_fitsNotices_18 : decode cX4_fitsNotices 18 = .ok (.iload_n 2, 1) := by decide +kernel
theorem dX4_fitsNotices_19 : decode cX4_fitsNotices 19 = .ok (.iload_n 3, 1) := by decide +kernel
theorem dX4_fitsNotices_20 : decode cX4_fitsNotices 20 = .ok (.iload 4, 2) := by decide +kernel
theorem dX4_fitsNotices_22 : decode cX4_fitsNotices 22 = .ok (.aload_n 0, 1) := by decide +kernel
theorem dX4_fitsNotices_23 : decode cX4_fitsNotices 23 = .ok (.getfield 14, 3) := by decide +kernel
theorem dX4_fitsNotices_26 : decode cX4_fitsNotices 26 = .ok (.iload_n 1, 1) := by decide +kernel
theorem dX4_fitsNotices_27 : decode cX4_fitsNotices 27 = .ok (.iload 6, 2) := by decide +kernel
theorem dX4_fitsNotices_29 : decode cX4_fitsNotices 29 = .ok (.iconst 1, 1) := by decide +kernel
theorem dX4_fitsNotices_30 : decode cX4_fitsNotices 30 = .ok (.iadd, 1) := by decide +kernel
theorem dX4_fitsNotices_31 : decode cX4_fitsNotices 31 = .ok (.invokevirtual 76, 3) := by decide +kernel
theorem dX4_fitsNotices_34 : decode cX4_fitsNotices 34 = .ok (.iload 5, 2) := by decide +kernel
theorem dX4_fitsNotices_36 : decode cX4_fitsNotices 36 = .ok (.invokestatic 330, 3) := by decide +kernel
theorem dX4_fitsNotices_39 : decode cX4_fitsNotices 39 = .ok (.istore 7, 2) := by decide +kernel
theorem dX4_fitsNotices_41 : decode cX4_fitsNotices 41 = .ok (.iload 7, 2) := by decide +kernel
theorem dX4_fitsNotices_43 : decode cX4_fitsNotices 43 = .ok (.aload_n 0, 1) := by decide +kernel
theorem dX4_fitsNotices_44 : decode cX4_fitsNotices 44 = .ok (.getfield 14, 3) := by decide +kernel
theorem dX4_fitsNotices_47 : decode cX4_fitsNotices 47 = .ok (.iload_n 1, 1) := by decide +kernel
theorem dX4_fitsNotices_48 : decode cX4_fitsNotices 48 = .ok (.iload 6, 2) := by decide +kernel
theorem dX4_fitsNotices_50 : decode cX4_fitsNotices 50 = .ok (.invokevirtual 76, 3) := by decide +kernel
theorem dX4_fitsNotices_53 : decode cX4_fitsNotices 53 = .ok (.if_icmp .lt 7, 3) := by decide +kernel
theorem dX4_fitsNotices_56 : decode cX4_fitsNotices 56 = .ok (.iconst 1, 1) := by decide +kernel
theorem dX4_fitsNotices_57 : decode cX4_fitsNotices 57 = .ok (.goto 4, 3) := by decide +kernel
theorem dX4_fitsNotices_60 : decode cX4_fitsNotices 60 = .ok (.iconst 0, 1) := by decide +kernel
theorem dX4_fitsNotices_61 : decode cX4_fitsNotices 61 = .ok (.istore 8, 2) := by decide +kernel
theorem dX4_fitsNotices_63 : decode cX4_fitsNotices 63 = .ok (.iload 8, 2) := by decide +kernel
theorem dX4_fitsNotices_65 : decode cX4_fitsNotices 65 = .ok (.aload_n 0, 1) := by decide +kernel
theorem dX4_fitsNotices_66 : decode cX4_fitsNotices 66 = .ok (.getfield 14, 3) := by decide +kernel
theorem dX4_fitsNotices_69 : decode cX4_fitsNotices 69 = .ok (.iload_n 1, 1) := by decide +kernel
theorem dX4_fitsNotices_70 : decode cX4_fitsNotices 70 = .ok (.iload 6, 2) := by decide +kernel
theorem dX4_fitsNotices_72 : decode cX4_fitsNotices 72 = .ok (.iconst 2, 1) := by decide +kernel
theorem dX4_fitsNotices_73 : decode cX4_fitsNotices 73 = .ok (.iadd, 1) := by decide +kernel
theorem dX4_fitsNotices_74 : decode cX4_fitsNotices 74 = .ok (.invokevirtual 76, 3) := by decide +kernel
theorem dX4_fitsNotices_77 : decode cX4_fitsNotices 77 = .ok (.iconst 1, 1) := by decide +kernel
theorem dX4_fitsNotices_78 : decode cX4_fitsNotices 78 = .ok (.if_icmp .ne 7, 3) := by decide +kernel
theorem dX4_fitsNotices_81 : decode cX4_fitsNotices 81 = .ok (.iconst 1, 1) := by decide +kernel
theorem dX4_fitsNotices_82 : decode cX4_fitsNotices 82 = .ok (.goto 4, 3) := by decide +kernel
theorem dX4_fitsNotices_85 : decode cX4_fitsNotices 85 = .ok (.iconst 0, 1) := by decide +kernel
theorem dX4_fitsNotices_86 : decode cX4_fitsNotices 86 = .ok (.if_icmp .eq 5, 3) := by decide +kernel
theorem dX4_fitsNotices_89 : decode cX4_fitsNotices 89 = .ok (.iconst 0, 1) := by decide +kernel
theorem dX4_fitsNotices_90 : decode cX4_fitsNotices 90 = .ok (.ireturn, 1) := by decide +kernel
theorem dX4_fitsNotices_91 : decode cX4_fitsNotices 91 = .ok (.iinc 6 3, 3) := by decide +kernel
theorem dX4_fitsNotices_94 : decode cX4_fitsNotices 94 = .ok (.goto (-91), 3) := by decide +kernel
theorem dX4_fitsNotices_97 : decode cX4_fitsNotices 97 = .ok (.iconst 1, 1) := by decide +kernel
theorem dX4_fitsNotices_98 : decode cX4_fitsNotices 98 = .ok (.ireturn, 1) := by decide +kernel
theorem dX4_isIn_0 : decode cX4_isIn 0 = .ok (.iload_n 1, 1) := by decide +kernel
theorem dX4_isIn_1 : decode cX4_isIn 1 = .ok (.ifCond .lt 21, 3) := by decide +kernel
theorem dX4_isIn_4 : decode cX4_isIn 4 = .ok (.iload_n 1, 1) := by decide +kernel
theorem dX4_isIn_5 : decode cX4_isIn 5 = .ok (.bipush 32, 2) := by decide +kernel
theorem dX4_isIn_7 : decode cX4_isIn 7 = .ok (.if_icmp .ge 15, 3) := by decide +kernel
theorem dX4_isIn_10 : decode cX4_isIn 10 = .ok (.iload_n 0, 1) := by decide +kernel
theorem dX4_isIn_11 : decode cX4_isIn 11 = .ok (.iload_n 1, 1) := by decide +kernel
theorem dX4_isIn_12 : decode cX4_isIn 12 = .ok (.ishr, 1) := by decide +kernel
theorem dX4_isIn_13 : decode cX4_isIn 13 = .ok (.iconst 1, 1) := by decide +kernel
theorem dX4_isIn_14 : decode cX4_isIn 14 = .ok (.iand, 1) := by decide +kernel
theorem dX4_isIn_15 : decode cX4_isIn 15 = .ok (.ifCond .eq 7, 3) := by decide +kernel
theorem dX4_isIn_18 : decode cX4_isIn 18 = .ok (.iconst 1, 1) := by decide +kernel
theorem dX4_isIn_19 : decode cX4_isIn 19 = .ok (.goto 4, 3) := by decide +kernel
theorem dX4_isIn_22 : decode cX4_isIn 22 = .ok (.iconst 0, 1) := by decide +kernel
theorem dX4_isIn_23 : decode cX4_isIn 23 = .ok (.ireturn, 1) := by decide +kernel
theorem dX4_isOfKind_0 : decode cX4_isOfKind 0 = .ok (.iload_n 1, 1) := by decide +kernel
theorem dX4_isOfKind_1 : decode cX4_isOfKind 1 = .ok (.tableswitch 70 0 3 #[31, 33, 70, 54], 31) := by decide +kernel
theorem dX4_isOfKind_32 : decode cX4_isOfKind 32 = .ok (.iconst 1, 1) := by decide +kernel
theorem dX4_isOfKind_33 : decode cX4_isOfKind 33 = .ok (.ireturn, 1) := by decide +kernel
theorem dX4_isOfKind_34 : decode cX4_isOfKind 34 = .ok (.iload_n 0, 1) := by decide +kernel
theorem dX4_isOfKind_35 : decode cX4_isOfKind 35 = .ok (.iconst 1, 1) := by decide +kernel
theorem dX4_isOfKind_36 : decode cX4_isOfKind 36 = .ok (.if_icmp .eq 13, 3) := by decide +kernel
theorem dX4_isOfKind_39 : decode cX4_isOfKind 39 = .ok (.iload_n 0, 1) := by decide +kernel
theorem dX4_isOfKind_40 : decode cX4_isOfKind 40 = .ok (.iconst 3, 1) := by decide +kernel
theorem dX4_isOfKind_41 : decode cX4_isOfKind 41 = .ok (.if_icmp .eq 8, 3) := by decide +kernel
theorem dX4_isOfKind_44 : decode cX4_isOfKind 44 = .ok (.iload_n 0, 1) := by decide +kernel
theorem dX4_isOfKind_45 : decode cX4_isOfKind 45 = .ok (.iconst 5, 1) := by decide +kernel
theorem dX4_isOfKind_46 : decode cX4_isOfKind 46 = .ok (.if_icmp .ne 7, 3) := by decide +kernel
theorem dX4_isOfKind_49 : decode cX4_isOfKind 49 = .ok (.iconst 1, 1) := by decide +kernel
theorem dX4_isOfKind_50 : decode cX4_isOfKind 50 = .ok (.goto 4, 3) := by decide +kernel
theorem dX4_isOfKind_53 : decode cX4_isOfKind 53 = .ok (.iconst 0, 1) := by decide +kernel
theorem dX4_isOfKind_54 : decode cX4_isOfKind 54 = .ok (.ireturn, 1) := by decide +kernel
theorem dX4_isOfKind_55 : decode cX4_isOfKind 55 = .ok (.iload_n 0, 1) := by decide +kernel
theorem dX4_isOfKind_56 : decode cX4_isOfKind 56 = .ok (.iconst 3, 1) := by decide +kernel
theorem dX4_isOfKind_57 : decode cX4_isOfKind 57 = .ok (.if_icmp .eq 8, 3) := by decide +kernel
theorem dX4_isOfKind_60 : decode cX4_isOfKind 60 = .ok (.iload_n 0, 1) := by decide +kernel
theorem dX4_isOfKind_61 : decode cX4_isOfKind 61 = .ok (.iconst 5, 1) := by decide +kernel
theorem dX4_isOfKind_62 : decode cX4_isOfKind 62 = .ok (.if_icmp .ne 7, 3) := by decide +kernel
theorem dX4_isOfKind_65 : decode cX4_isOfKind 65 = .ok (.iconst 1, 1) := by decide +kernel
theorem dX4_isOfKind_66 : decode cX4_isOfKind 66 = .ok (.goto 4, 3) := by decide +kernel
theorem dX4_isOfKind_69 : decode cX4_isOfKind 69 = .ok (.iconst 0, 1) := by decide +kernel
theorem dX4_isOfKind_70 : decode cX4_isOfKind 70 = .ok (.ireturn, 1) := by decide +kernel
theorem dX4_isOfKind_71 : decode cX4_isOfKind 71 = .ok (.iload_n 0, 1) := by decide +kernel
theorem dX4_isOfKind_72 : decode cX4_isOfKind 72 = .ok (.iload_n 1, 1) := by decide +kernel
theorem dX4_isOfKind_73 : decode cX4_isOfKind 73 = .ok (.if_icmp .ne 7, 3) := by decide +kernel
theorem dX4_isOfKind_76 : decode cX4_isOfKind 76 = .ok (.iconst 1, 1) := by decide +kernel
theorem dX4_isOfKind_77 : decode cX4_isOfKind 77 = .ok (.goto 4, 3) := by decide +kernel
theorem dX4_isOfKind_80 : decode cX4_isOfKind 80 = .ok (.iconst 0, 1) := by decide +kernel
theorem dX4_isOfKind_81 : decode cX4_isOfKind 81 = .ok (.ireturn, 1) := by decide +kernel
theorem dX4_isCallableFrom_0 : decode cX4_isCallableFrom 0 = .ok (.iload_n 0, 1) := by decide +kernel
theorem dX4_isCallableFrom_1 : decode cX4_isCallableFrom 1 = .ok (.lookupswitch 52 #[(2, 27), (4, 40)], 27) := by decide +kernel
theorem dX4_isCallableFrom_28 : decode cX4_isCallableFrom 28 = .ok (.iload_n 1, 1) := by decide +kernel
theorem dX4_isCallableFrom_29 : decode cX4_isCallableFrom 29 = .ok (.iconst 2, 1) := by decide +kernel
theorem dX4_isCallableFrom_30 : decode cX4_isCallableFrom 30 = .ok (.irem, 1) := by decide +kernel
theorem dX4_isCallableFrom_31 : decode cX4_isCallableFrom 31 = .ok (.iconst 1, 1) := by decide +kernel
theorem dX4_isCallableFrom_32 : decode cX4_isCallableFrom 32 = .ok (.if_icmp .ne 7, 3) := by decide +kernel
theorem dX4_isCallableFrom_35 : decode cX4_isCallableFrom 35 = .ok (.iconst 1, 1) := by decide +kernel
theorem dX4_isCallableFrom_36 : decode cX4_isCallableFrom 36 = .ok (.goto 4, 3) := by decide +kernel
theorem dX4_isCallableFrom_39 : decode cX4_isCallableFrom 39 = .ok (.iconst 0, 1) := by decide +kernel
theorem dX4_isCallableFrom_40 : decode cX4_isCallableFrom 40 = .ok (.ireturn, 1) := by decide +kernel
theorem dX4_isCallableFrom_41 : decode cX4_isCallableFrom 41 = .ok (.iload_n 1, 1) := by decide +kernel
theorem dX4_isCallableFrom_42 : decode cX4_isCallableFrom 42 = .ok (.bipush 7, 2) := by decide +kernel
theorem dX4_isCallableFrom_44 : decode cX4_isCallableFrom 44 = .ok (.if_icmp .ge 7, 3) := by decide +kernel
theorem dX4_isCallableFrom_47 : decode cX4_isCallableFrom 47 = .ok (.iconst 1, 1) := by decide +kernel
theorem dX4_isCallableFrom_48 : decode cX4_isCallableFrom 48 = .ok (.goto 4, 3) := by decide +kernel
theorem dX4_isCallableFrom_51 : decode cX4_isCallableFrom 51 = .ok (.iconst 0, 1) := by decide +kernel
theorem dX4_isCallableFrom_52 : decode cX4_isCallableFrom 52 = .ok (.ireturn, 1) := by decide +kernel
theorem dX4_isCallableFrom_53 : decode cX4_isCallableFrom 53 = .ok (.iconst 1, 1) := by decide +kernel
theorem dX4_isCallableFrom_54 : decode cX4_isCallableFrom 54 = .ok (.ireturn, 1) := by decide +kernel
theorem dX4_fears_0 : decode cX4_fears 0 = .ok (.iconst 0, 1) := by decide +kernel
theorem dX4_fears_1 : decode cX4_fears 1 = .ok (.iload_n 1, 1) := by decide +kernel
theorem dX4_fears_2 : decode cX4_fears 2 = .ok (.iload_n 2, 1) := by decide +kernel
theorem dX4_fears_3 : decode cX4_fears 3 = .ok (.isub, 1) := by decide +kernel
theorem dX4_fears_4 : decode cX4_fears 4 = .ok (.invokestatic 225, 3) := by decide +kernel
theorem dX4_fears_7 : decode cX4_fears 7 = .ok (.istore_n 3, 1) := by decide +kernel
theorem dX4_fears_8 : decode cX4_fears 8 = .ok (.iload_n 0, 1) := by decide +kernel
theorem dX4_fears_9 : decode cX4_fears 9 = .ok (.iconst 3, 1) := by decide +kernel
theorem dX4_fears_10 : decode cX4_fears 10 = .ok (.invokestatic 127, 3) := by decide +kernel
theorem dX4_fears_13 : decode cX4_fears 13 = .ok (.ifCond .eq 9, 3) := by decide +kernel
theorem dX4_fears_16 : decode cX4_fears 16 = .ok (.iload_n 3, 1) := by decide +kernel
theorem dX4_fears_17 : decode cX4_fears 17 = .ok (.iconst 2, 1) := by decide +kernel
theorem dX4_fears_18 : decode cX4_fears 18 = .ok (.idiv, 1) := by decide +kernel
theorem dX4_fears_19 : decode cX4_fears 19 = .ok (.goto 4, 3) := by decide +kernel
theorem dX4_fears_22 : decode cX4_fears 22 = .ok (.iload_n 3, 1) := by decide +kernel
theorem dX4_fears_23 : decode cX4_fears 23 = .ok (.ireturn, 1) := by decide +kernel
theorem dX4_says_0 : decode cX4_says 0 = .ok (.iconst 0, 1) := by decide +kernel
theorem dX4_says_1 : decode cX4_says 1 = .ok (.iload_n 1, 1) := by decide +kernel
theorem dX4_says_2 : decode cX4_says 2 = .ok (.iload_n 0, 1) := by decide +kernel
theorem dX4_says_3 : decode cX4_says 3 = .ok (.iload_n 2, 1) := by decide +kernel
theorem dX4_says_4 : decode cX4_says 4 = .ok (.iload_n 3, 1) := by decide +kernel
theorem dX4_says_5 : decode cX4_says 5 = .ok (.invokestatic 334, 3) := by decide +kernel
theorem dX4_says_8 : decode cX4_says 8 = .ok (.isub, 1) := by decide +kernel
theorem dX4_says_9 : decode cX4_says 9 = .ok (.invokestatic 225, 3) := by decide +kernel
theorem dX4_says_12 : decode cX4_says 12 = .ok (.istore 5, 2) := by decide +kernel
theorem dX4_says_14 : decode cX4_says 14 = .ok (.iload_n 0, 1) := by decide +kernel
theorem dX4_says_15 : decode cX4_says 15 = .ok (.iconst 1, 1) := by decide +kernel
theorem dX4_says_16 : decode cX4_says 16 = .ok (.invokestatic 127, 3) := by decide +kernel
theorem dX4_says_19 : decode cX4_says 19 = .ok (.ifCond .eq 6, 3) := by decide +kernel
theorem dX4_says_22 : decode cX4_says 22 = .ok (.iinc 5 2, 3) := by decide +kernel
theorem dX4_says_25 : decode cX4_says 25 = .ok (.iload_n 0, 1) := by decide +kernel
theorem dX4_says_26 : decode cX4_says 26 = .ok (.iconst 5, 1) := by decide +kernel
theorem dX4_says_27 : decode cX4_says 27 = .ok (.if_icmp .ne 11, 3) := by decide +kernel
theorem dX4_says_30 : decode cX4_says 30 = .ok (.iload 5, 2) := by decide +kernel
theorem dX4_says_32 : decode cX4_says 32 = .ok (.iload 4, 2) := by decide +kernel
theorem dX4_says_34 : decode cX4_says 34 = .ok (.iadd, 1) := by decide +kernel
theorem dX4_says_35 : decode cX4_says 35 = .ok (.goto 5, 3) := by decide +kernel
theorem dX4_says_38 : decode cX4_says 38 = .ok (.iload 5, 2) := by decide +kernel
theorem dX4_says_40 : decode cX4_says 40 = .ok (.ireturn, 1) := by decide +kernel
theorem dX4_drawn_0 : decode cX4_drawn 0 = .ok (.iload_n 0, 1) := by decide +kernel
theorem dX4_drawn_1 : decode cX4_drawn 1 = .ok (.invokestatic 168, 3) := by decide +kernel
theorem dX4_drawn_4 : decode cX4_drawn 4 = .ok (.istore_n 2, 1) := by decide +kernel
theorem dX4_drawn_5 : decode cX4_drawn 5 = .ok (.iload_n 2, 1) := by decide +kernel
theorem dX4_drawn_6 : decode cX4_drawn 6 = .ok (.ifCond .ne 6, 3) := by decide +kernel
theorem dX4_drawn_9 : decode cX4_drawn 9 = .ok (.bipush (-9), 2) := by decide +kernel
theorem dX4_drawn_11 : decode cX4_drawn 11 = .ok (.ireturn, 1) := by decide +kernel
theorem dX4_drawn_12 : decode cX4_drawn 12 = .ok (.iload_n 1, 1) := by decide +kernel
theorem dX4_drawn_13 : decode cX4_drawn 13 = .ok (.iload_n 2, 1) := by decide +kernel
theorem dX4_drawn_14 : decode cX4_drawn 14 = .ok (.invokestatic 338, 3) := by decide +kernel
theorem dX4_drawn_17 : decode cX4_drawn 17 = .ok (.istore_n 3, 1) := by decide +kernel
theorem dX4_drawn_18 : decode cX4_drawn 18 = .ok (.iconst 0, 1) := by decide +kernel
theorem dX4_drawn_19 : decode cX4_drawn 19 = .ok (.istore 4, 2) := by decide +kernel
theorem dX4_drawn_21 : decode cX4_drawn 21 = .ok (.iload 4, 2) := by decide +kernel
theorem dX4_drawn_23 : decode cX4_drawn 23 = .ok (.bipush 6, 2) := by decide +kernel
theorem dX4_drawn_25 : decode cX4_drawn 25 = .ok (.if_icmp .ge 28, 3) := by decide +kernel
theorem dX4_drawn_28 : decode cX4_drawn 28 = .ok (.iload_n 0, 1) := by decide +kernel
theorem dX4_drawn_29 : decode cX4_drawn 29 = .ok (.iload 4, 2) := by decide +kernel
theorem dX4_drawn_31 : decode cX4_drawn 31 = .ok (.invokestatic 147, 3) := by decide +kernel
theorem dX4_drawn_34 : decode cX4_drawn 34 = .ok (.ifCond .eq 13, 3) := by decide +kernel
theorem dX4_drawn_37 : decode cX4_drawn 37 = .ok (.iload_n 3, 1) := by decide +kernel
theorem dX4_drawn_38 : decode cX4_drawn 38 = .ok (.ifCond .ne 6, 3) := by decide +kernel
theorem dX4_drawn_41 : decode cX4_drawn 41 = .ok (.iload 4, 2) := by decide +kernel
theorem dX4_drawn_43 : decode cX4_drawn 43 = .ok (.ireturn, 1) := by decide +kernel
theorem dX4_drawn_44 : decode cX4_drawn 44 = .ok (.iinc 3 (-1), 3) := by decide +kernel
theorem dX4_drawn_47 : decode cX4_drawn 47 = .ok (.iinc 4 1, 3) := by decide +kernel
theorem dX4_drawn_50 : decode cX4_drawn 50 = .ok (.goto (-29), 3) := by decide +kernel
theorem dX4_drawn_53 : decode cX4_drawn 53 = .ok (.bipush (-9), 2) := by decide +kernel
theorem dX4_drawn_55 : decode cX4_drawn 55 = .ok (.ireturn, 1) := by decide +kernel
theorem dX5_init_0 : decode cX5_init 0 = .ok (.aload_n 0, 1) := by decide +kernel
theorem dX5_init_1 : decode cX5_init 1 = .ok (.invokespecial 1, 3) := by decide +kernel
theorem dX5_init_4 : decode cX5_init 4 = .ok (.aload_n 0, 1) := by decide +kernel
theorem dX5_init_5 : decode cX5_init 5 = .ok (.sipush 1972, 3) := by decide +kernel
theorem dX5_init_8 : decode cX5_init 8 = .ok (.newarray .int, 2) := by decide +kernel
theorem dX5_init_10 : decode cX5_init 10 = .ok (.putfield 7, 3) := by decide +kernel
theorem dX5_init_13 : decode cX5_init 13 = .ok (.aload_n 0, 1) := by decide +kernel
theorem dX5_init_14 : decode cX5_init 14 = .ok (.bipush 6, 2) := by decide +kernel
theorem dX5_init_16 : decode cX5_init 16 = .ok (.newarray .int, 2) := by decide +kernel
theorem dX5_init_18 : decode cX5_init 18 = .ok (.putfield 13, 3) := by decide +kernel
theorem dX5_init_21 : decode cX5_init 21 = .ok (.aload_n 0, 1) := by decide +kernel
theorem dX5_init_22 : decode cX5_init 22 = .ok (.bipush 6, 2) := by decide +kernel
theorem dX5_init_24 : decode cX5_init 24 = .ok (.newarray .int, 2) := by decide +kernel
theorem dX5_init_26 : decode cX5_init 26 = .ok (.putfield 16, 3) := by decide +kernel
theorem dX5_init_29 : decode cX5_init 29 = .ok (.aload_n 0, 1) := by decide +kernel
theorem dX5_init_30 : decode cX5_init 30 = .ok (.bipush 6, 2) := by decide +kernel
theorem dX5_init_32 : decode cX5_init 32 = .ok (.newarray .int, 2) := by decide +kernel
theorem dX5_init_34 : decode cX5_init 34 = .ok (.putfield 19, 3) := by decide +kernel
theorem dX5_init_37 : decode cX5_init 37 = .ok (.aload_n 0, 1) := by decide +kernel
theorem dX5_init_38 : decode cX5_init 38 = .ok (.bipush 6, 2) := by decide +kernel
theorem dX5_init_40 : decode cX5_init 40 = .ok (.newarray .int, 2) := by decide +kernel
theorem dX5_init_42 : decode cX5_init 42 = .ok (.putfield 22, 3) := by decide +kernel
theorem dX5_init_45 : decode cX5_init 45 = .ok (.aload_n 0, 1) := by decide +kernel
theorem dX5_init_46 : decode cX5_init 46 = .ok (.bipush 6, 2) := by decide +kernel
theorem dX5_init_48 : decode cX5_init 48 = .ok (.newarray .int, 2) := by decide +kernel
theorem dX5_init_50 : decode cX5_init 50 = .ok (.dup, 1) := by decide +kernel
theorem dX5_init_51 : decode cX5_init 51 = .ok (.iconst 0, 1) := by decide +kernel
theorem dX5_init_52 : decode cX5_init 52 = .ok (.iconst (-1), 1) := by decide +kernel
theorem dX5_init_53 : decode cX5_init 53 = .ok (.iastore, 1) := by decide +kernel
theorem dX5_init_54 : decode cX5_init 54 = .ok (.dup, 1) := by decide +kernel
theorem dX5_init_55 : decode cX5_init 55 = .ok (.iconst 1, 1) := by decide +kernel
theorem dX5_init_56 : decode cX5_init 56 = .ok (.iconst (-1), 1) := by decide +kernel
theorem dX5_init_57 : decode cX5_init 57 = .ok (.iastore, 1) := by decide +kernel
theorem dX5_init_58 : decode cX5_init 58 = .ok (.dup, 1) := by decide +kernel
theorem dX5_init_59 : decode cX5_init 59 = .ok (.iconst 2, 1) := by decide +kernel
theorem dX5_init_60 : decode cX5_init 60 = .ok (.iconst (-1), 1) := by decide +kernel
theorem dX5_init_61 : decode cX5_init 61 = .ok (.iastore, 1) := by decide +kernel
theorem dX5_init_62 : decode cX5_init 62 = .ok (.dup, 1) := by decide +kernel
theorem dX5_init_63 : decode cX5_init 63 = .ok (.iconst 3, 1) := by decide +kernel
theorem dX5_init_64 : decode cX5_init 64 = .ok (.iconst (-1), 1) := by decide +kernel
theorem dX5_init_65 : decode cX5_init 65 = .ok (.iastore, 1) := by decide +kernel
theorem dX5_init_66 : decode cX5_init 66 = .ok (.dup, 1) := by decide +kernel
theorem dX5_init_67 : decode cX5_init 67 = .ok (.iconst 4, 1) := by decide +kernel
theorem dX5_init_68 : decode cX5_init 68 = .ok (.iconst (-1), 1) := by decide +kernel
theorem dX5_init_69 : decode cX5_init 69 = .ok (.iastore, 1) := by decide +kernel
theorem dX5_init_70 : decode cX5_init 70 = .ok (.dup, 1) := by decide +kernel
theorem dX5_init_71 : decode cX5_init 71 = .ok (.iconst 5, 1) := by decide +kernel
theorem dX5_init_72 : decode cX5_init 72 = .ok (.iconst (-1), 1) := by decide +kernel
theorem dX5_init_73 : decode cX5_init 73 = .ok (.iastore, 1) := by decide +kernel
theorem dX5_init_74 : decode cX5_init 74 = .ok (.putfield 25, 3) := by decide +kernel
theorem dX5_init_77 : decode cX5_init 77 = .ok (.aload_n 0, 1) := by decide +kernel
theorem dX5_init_78 : decode cX5_init 78 = .ok (.sipush 240, 3) := by decide +kernel
theorem dX5_init_81 : decode cX5_init 81 = .ok (.newarray .int, 2) := by decide +kernel
theorem dX5_init_83 : decode cX5_init 83 = .ok (.putfield 28, 3) := by decide +kernel
theorem dX5_init_86 : decode cX5_init 86 = .ok (.aload_n 0, 1) := by decide +kernel
theorem dX5_init_87 : decode cX5_init 87 = .ok (.iconst 4, 1) := by decide +kernel
theorem dX5_init_88 : decode cX5_init 88 = .ok (.newarray .int, 2) := by decide +kernel
theorem dX5_init_90 : decode cX5_init 90 = .ok (.dup, 1) := by decide +kernel
theorem dX5_init_91 : decode cX5_init 91 = .ok (.iconst 0, 1) := by decide +kernel
theorem dX5_init_92 : decode cX5_init 92 = .ok (.iconst (-1), 1) := by decide +kernel
theorem dX5_init_93 : decode cX5_init 93 = .ok (.iastore, 1) := by decide +kernel
theorem dX5_init_94 : decode cX5_init 94 = .ok (.dup, 1) := by decide +kernel
theorem dX5_init_95 : decode cX5_init 95 = .ok (.iconst 1, 1) := by decide +kernel
theorem dX5_init_96 : decode cX5_init 96 = .ok (.iconst (-1), 1) := by decide +kernel
theorem dX5_init_97 : decode cX5_init 97 = .ok (.iastore, 1) := by decide +kernel
theorem dX5_init_98 : decode cX5_init 98 = .ok (.dup, 1) := by decide +kernel
theorem dX5_init_99 : decode cX5_init 99 = .ok (.iconst 2, 1) := by decide +kernel
theorem dX5_init_100 : decode cX5_init 100 = .ok (.iconst (-1), 1) := by decide +kernel
theorem dX5_init_101 : decode cX5_init 101 = .ok (.iastore, 1) := by decide +kernel
theorem dX5_init_102 : decode cX5_init 102 = .ok (.dup, 1) := by decide +kernel
theorem dX5_init_103 : decode cX5_init 103 = .ok (.iconst 3, 1) := by decide +kernel
theorem dX5_init_104 : decode cX5_init 104 = .ok (.iconst (-1), 1) := by decide +kernel
theorem dX5_init_105 : decode cX5_init 105 = .ok (.iastore, 1) := by decide +kernel
theorem dX5_init_106 : decode cX5_init 106 = .ok (.putfield 31, 3) := by decide +kernel
theorem dX5_init_109 : decode cX5_init 109 = .ok (.aload_n 0, 1) := by decide +kernel
theorem dX5_init_110 : decode cX5_init 110 = .ok (.sipush 240, 3) := by decide +kernel
theorem dX5_init_113 : decode cX5_init 113 = .ok (.newarray .int, 2) := by decide +kernel
theorem dX5_init_115 : decode cX5_init 115 = .ok (.putfield 34, 3) := by decide +kernel
theorem dX5_init_118 : decode cX5_init 118 = .ok (.aload_n 0, 1) := by decide +kernel
theorem dX5_init_119 : decode cX5_init 119 = .ok (.lconst 1, 1) := by decide +kernel
theorem dX5_init_120 : decode cX5_init 120 = .ok (.putfield 37, 3) := by decide +kernel
theorem dX5_init_123 : decode cX5_init 123 = .ok (.aload_n 0, 1) := by decide +kernel
theorem dX5_init_124 : decode cX5_init 124 = .ok (.bipush 6, 2) := by decide +kernel
theorem dX5_init_126 : decode cX5_init 126 = .ok (.newarray .int, 2) := by decide +kernel
theorem dX5_init_128 : decode cX5_init 128 = .ok (.putfield 41, 3) := by decide +kernel
theorem dX5_init_131 : decode cX5_init 131 = .ok (.aload_n 0, 1) := by decide +kernel
theorem dX5_init_132 : decode cX5_init 132 = .ok (.bipush 6, 2) := by decide +kernel
theorem dX5_init_134 : decode cX5_init 134 = .ok (.newarray .int, 2) := by decide +kernel
theorem dX5_init_136 : decode cX5_init 136 = .ok (.putfield 44, 3) := by decide +kernel
theorem dX5_init_139 : decode cX5_init 139 = .ok (.aload_n 0, 1) := by decide +kernel
theorem dX5_init_140 : decode cX5_init 140 = .ok (.bipush 24, 2) := by decide +kernel
theorem dX5_init_142 : decode cX5_init 142 = .ok (.newarray .int, 2) := by decide +kernel
theorem dX5_init_144 : decode cX5_init 144 = .ok (.putfield 47, 3) := by decide +kernel
theorem dX5_init_147 : decode cX5_init 147 = .ok (.aload_n 0, 1) := by decide +kernel
theorem dX5_init_148 : decode cX5_init 148 = .ok (.bipush 7, 2) := by decide +kernel
theorem dX5_init_150 : decode cX5_init 150 = .ok (.newarray .int, 2) := by decide +kernel
theorem dX5_init_152 : decode cX5_init 152 = .ok (.putfield 50, 3) := by decide +kernel
theorem dX5_init_155 : decode cX5_init 155 = .ok (.aload_n 0, 1) := by decide +kernel
theorem dX5_init_156 : decode cX5_init 156 = .ok (.bipush 7, 2) := by decide +kernel
theorem dX5_init_158 : decode cX5_init 158 = .ok (.newarray .int, 2) := by decide +kernel
theorem dX5_init_160 : decode cX5_init 160 = .ok (.putfield 53, 3) := by decide +kernel
theorem dX5_init_163 : decode cX5_init 163 = .ok (.aload_n 0, 1) := by decide +kernel
theorem dX5_init_164 : decode cX5_init 164 = .ok (.bipush 7, 2) := by decide +kernel
theorem dX5_init_166 : decode cX5_init 166 = .ok (.newarray .int, 2) := by decide +kernel
theorem dX5_init_168 : decode cX5_init 168 = .ok (.putfield 56, 3) := by decide +kernel
theorem dX5_init_171 : decode cX5_init 171 = .ok (.aload_n 0, 1) := by decide +kernel
theorem dX5_init_172 : decode cX5_init 172 = .ok (.bipush 7, 2) := by decide +kernel
theorem dX5_init_174 : decode cX5_init 174 = .ok (.newarray .int, 2) := by decide +kernel
theorem dX5_init_176 : decode cX5_init 176 = .ok (.putfield 59, 3) := by decide +kernel
theorem dX5_init_179 : decode cX5_init 179 = .ok (.aload_n 0, 1) := by decide +kernel
theorem dX5_init_180 : decode cX5_init 180 = .ok (.bipush 7, 2) := by decide +kernel
theorem dX5_init_182 : decode cX5_init 182 = .ok (.newarray .int, 2) := by decide +kernel
theorem dX5_init_184 : decode cX5_init 184 = .ok (.putfield 62, 3) := by decide +kernel
theorem dX5_init_187 : decode cX5_init 187 = .ok (.aload_n 0, 1) := by decide +kernel
theorem dX5_init_188 : decode cX5_init 188 = .ok (.bipush 7, 2) := by decide +kernel
theorem dX5_init_190 : decode cX5_init 190 = .ok (.newarray .int, 2) := by decide +kernel
theorem dX5_init_192 : decode cX5_init 192 = .ok (.putfield 65, 3) := by decide +kernel
theorem dX5_init_195 : decode cX5_init 195 = .ok (.iconst 1, 1) := by decide +kernel
theorem dX5_init_196 : decode cX5_init 196 = .ok (.istore_n 1, 1) := by decide +kernel
theorem dX5_init_197 : decode cX5_init 197 = .ok (.iload_n 1, 1) := by decide +kernel
theorem dX5_init_198 : decode cX5_init 198 = .ok (.iconst 4, 1) := by decide +kernel
theorem dX5_init_199 : decode cX5_init 199 = .ok (.if_icmp .ge 22, 3) := by decide +kernel
theorem dX5_init_202 : decode cX5_init 202 = .ok (.aload_n 0, 1) := by decide +kernel
theorem dX5_init_203 : decode cX5_init 203 = .ok (.getfield 7, 3) := by decide +kernel
theorem dX5_init_206 : decode cX5_init 206 = .ok (.sipush 493, 3) := by decide +kernel
theorem dX5_init_209 : decode cX5_init 209 = .ok (.iload_n 1, 1) := by decide +kernel
theorem dX5_init_210 : decode cX5_init 210 = .ok (.imul, 1) := by decide +kernel
theorem dX5_init_211 : decode cX5_init 211 = .ok (.iconst 0, 1) := by decide +kernel
theorem dX5_init_212 : decode cX5_init 212 = .ok (.iadd, 1) := by decide +kernel
theorem dX5_init_213 : decode cX5_init 213 = .ok (.iconst (-1), 1) := by decide +kernel
theorem dX5_init_214 : decode cX5_init 214 = .ok (.iastore, 1) := by decide +kernel
theorem dX5_init_215 : decode cX5_init 215 = .ok (.iinc 1 1, 3) := by decide +kernel
theorem dX5_init_218 : decode cX5_init 218 = .ok (.goto (-21), 3) := by decide +kernel
theorem dX5_init_221 : decode cX5_init 221 = .ok (.return_, 1) := by decide +kernel
theorem dX5_bits_0 : decode cX5_bits 0 = .ok (.iconst 0, 1) := by decide +kernel
theorem dX5_bits_1 : decode cX5_bits 1 = .ok (.istore_n 1, 1) := by decide +kernel
theorem dX5_bits_2 : decode cX5_bits 2 = .ok (.iconst 0, 1) := by decide +kernel
theorem dX5_bits_3 : decode cX5_bits 3 = .ok (.istore_n 2, 1) := by decide +kernel
theorem dX5_bits_4 : decode cX5_bits 4 = .ok (.iload_n 2, 1) := by decide +kernel
theorem dX5_bits_5 : decode cX5_bits 5 = .ok (.bipush 10, 2) := by decide +kernel
theorem dX5_bits_7 : decode cX5_bits 7 = .ok (.if_icmp .ge 17, 3) := by decide +kernel
theorem dX5_bits_10 : decode cX5_bits 10 = .ok (.iload_n 1, 1) := by decide +kernel
theorem dX5_bits_11 : decode cX5_bits 11 = .ok (.iload_n 0, 1) := by decide +kernel
theorem dX5_bits_12 : decode cX5_bits 12 = .ok (.iload_n 2, 1) := by decide +kernel
theorem dX5_bits_13 : decode cX5_bits 13 = .ok (.ishr, 1) := by decide +kernel
theorem dX5_bits_14 : decode cX5_bits 14 = .ok (.iconst 1, 1) := by decide +kernel
theorem dX5_bits_15 : decode cX5_bits 15 = .ok (.iand, 1) := by decide +kernel
theorem dX5_bits_16 : decode cX5_bits 16 = .ok (.iadd, 1) := by decide +kernel
theorem dX5_bits_17 : decode cX5_bits 17 = .ok (.istore_n 1, 1) := by decide +kernel
theorem dX5_bits_18 : decode cX5_bits 18 = .ok (.iinc 2 1, 3) := by decide +kernel
theorem dX5_bits_21 : decode cX5_bits 21 = .ok (.goto (-17), 3) := by decide +kernel
theorem dX5_bits_24 : decode cX5_bits 24 = .ok (.iload_n 1, 1) := by decide +kernel
theorem dX5_bits_25 : decode cX5_bits 25 = .ok (.ireturn, 1) := by decide +kernel
theorem dX5_atLeast_0 : decode cX5_atLeast 0 = .ok (.iload_n 0, 1) := by decide +kernel
theorem dX5_atLeast_1 : decode cX5_atLeast 1 = .ok (.ifCond .ge 7, 3) := by decide +kernel
theorem dX5_atLeast_4 : decode cX5_atLeast 4 = .ok (.iconst 0, 1) := by decide +kernel
theorem dX5_atLeast_5 : decode cX5_atLeast 5 = .ok (.goto 4, 3) := by decide +kernel
theorem dX5_atLeast_8 : decode cX5_atLeast 8 = .ok (.iload_n 0, 1) := by decide +kernel
theorem dX5_atLeast_9 : decode cX5_atLeast 9 = .ok (.ireturn, 1) := by decide +kernel
theorem dX5_in_0 : decode cX5_in 0 = .ok (.lload_n 0, 1) := by decide +kernel
theorem dX5_in_1 : decode cX5_in 1 = .ok (.lload_n 2, 1) := by decide +kernel
theorem dX5_in_2 : decode cX5_in 2 = .ok (.lcmp, 1) := by decide +kernel
theorem dX5_in_3 : decode cX5_in 3 = .ok (.ifCond .lt 14, 3) := by decide +kernel
theorem dX5_in_6 : decode cX5_in 6 = .ok (.lload_n 0, 1) := by decide +kernel
theorem dX5_in_7 : decode cX5_in 7 = .ok (.lload 4, 2) := by decide +kernel
theorem dX5_in_9 : decode cX5_in 9 = .ok (.lcmp, 1) := by decide +kernel
theorem dX5_in_10 : decode cX5_in 10 = .ok (.ifCond .gt 7, 3) := by decide +kernel
theorem dX5_in_13 : decode cX5_in 13 = .ok (.iconst 1, 1) := by decide +kernel
theorem dX5_in_14 : decode cX5_in 14 = .ok (.goto 4, 3) := by decide +kernel
theorem dX5_in_17 : decode cX5_in 17 = .ok (.iconst 0, 1) := by decide +kernel
theorem dX5_in_18 : decode cX5_in 18 = .ok (.ireturn, 1) := by decide +kernel
theorem dX5_has_0 : decode cX5_has 0 = .ok (.iload_n 0, 1) := by decide +kernel
theorem dX5_has_1 : decode cX5_has 1 = .ok (.iload_n 1, 1) := by decide +kernel
theorem dX5_has_2 : decode cX5_has 2 = .ok (.ishr, 1) := by decide +kernel
theorem dX5_has_3 : decode cX5_has 3 = .ok (.iconst 1, 1) := by decide +kernel
theorem dX5_has_4 : decode cX5_has 4 = .ok (.iand, 1) := by decide +kernel
theorem dX5_has_5 : decode cX5_has 5 = .ok (.iconst 1, 1) := by decide +kernel
theorem dX5_has_6 : decode cX5_has 6 = .ok (.if_icmp .ne 7, 3) := by decide +kernel
theorem dX5_has_9 : decode cX5_has 9 = .ok (.iconst 1, 1) := by decide +kernel
theorem dX5_has_10 : decode cX5_has 10 = .ok (.goto 4, 3) := by decide +kernel
theorem dX5_has_13 : decode cX5_has 13 = .ok (.iconst 0, 1) := by decide +kernel
theorem dX5_has_14 : decode cX5_has 14 = .ok (.ireturn, 1) := by decide +kernel
theorem dX5_find_0 : decode cX5_find 0 = .ok (.aload_n 0, 1) := by decide +kernel
theorem dX5_find_1 : decode cX5_find 1 = .ok (.iload_n 1, 1) := by decide +kernel
theorem dX5_find_2 : decode cX5_find 2 = .ok (.putfield 68, 3) := by decide +kernel
theorem dX5_find_5 : decode cX5_find 5 = .ok (.aload_n 0, 1) := by decide +kernel
theorem dX5_find_6 : decode cX5_find 6 = .ok (.getfield 41, 3) := by decide +kernel
theorem dX5_find_9 : decode cX5_find 9 = .ok (.iload_n 1, 1) := by decide +kernel
theorem dX5_find_10 : decode cX5_find 10 = .ok (.dup2, 1) := by decide +kernel
theorem dX5_find_11 : decode cX5_find 11 = .ok (.iaload, 1) := by decide +kernel
theorem dX5_find_12 : decode cX5_find 12 = .ok (.iconst 1, 1) := by decide +kernel
theorem dX5_find_13 : decode cX5_find 13 = .ok (.iadd, 1) := by decide +kernel
theorem dX5_find_14 : decode cX5_find 14 = .ok (.iastore, 1) := by decide +kernel
theorem dX5_find_15 : decode cX5_find 15 = .ok (.bipush (-3), 2) := by decide +kernel
theorem dX5_find_17 : decode cX5_find 17 = .ok (.ireturn, 1) := by decide +kernel
theorem dX5_tell_0 : decode cX5_tell 0 = .ok (.aload_n 0, 1) := by decide +kernel
theorem dX5_tell_1 : decode cX5_tell 1 = .ok (.iload_n 1, 1) := by decide +kernel
theorem dX5_tell_2 : decode cX5_tell 2 = .ok (.putfield 72, 3) := by decide +kernel
theorem dX5_tell_5 : decode cX5_tell 5 = .ok (.iconst 1, 1) := by decide +kernel
theorem dX5_tell_6 : decode cX5_tell 6 = .ok (.ireturn, 1) := by decide +kernel
theorem dX5_isRow_0 : decode cX5_isRow 0 = .ok (.iload_n 0, 1) := by decide +kernel
theorem dX5_isRow_1 : decode cX5_isRow 1 = .ok (.i2l, 1) := by decide +kernel
theorem dX5_isRow_2 : decode cX5_isRow 2 = .ok (.lconst 0, 1) := by decide +kernel
theorem dX5_isRow_3 : decode cX5_isRow 3 = .ok (.ldc2_w 75, 3) := by decide +kernel
theorem dX5_isRow_6 : decode cX5_isRow 6 = .ok (.invokestatic 77, 3) := by decide +kernel
theorem dX5_isRow_9 : decode cX5_isRow 9 = .ok (.ireturn, 1) := by decide +kernel
theorem dX5_isText_0 : decode cX5_isText 0 = .ok (.iload_n 0, 1) := by decide +kernel
theorem dX5_isText_1 : decode cX5_isText 1 = .ok (.i2l, 1) := by decide +kernel
theorem dX5_isText_2 : decode cX5_isText 2 = .ok (.lconst 0, 1) := by decide +kernel
theorem dX5_isText_3 : decode cX5_isText 3 = .ok (.ldc2_w 81, 3) := by decide +kernel
theorem dX5_isText_6 : decode cX5_isText 6 = .ok (.invokestatic 77, 3) := by decide +kernel
theorem dX5_isText_9 : decode cX5_isText 9 = .ok (.ireturn, 1) := by decide +kernel
theorem dX5_row_0 : decode cX5_row 0 = .ok (.iload_n 1, 1) := by decide +kernel
theorem dX5_row_1 : decode cX5_row 1 = .ok (.invokestatic 83, 3) := by decide +kernel
theorem dX5_row_4 : decode cX5_row 4 = .ok (.ifCond .eq 9, 3) := by decide +kernel
theorem dX5_row_7 : decode cX5_row 7 = .ok (.iload_n 2, 1) := by decide +kernel
theorem dX5_row_8 : decode cX5_row 8 = .ok (.bipush 40, 2) := by decide +kernel
theorem dX5_row_10 : decode cX5_row 10 = .ok (.if_icmp .le 5, 3) := by decide +kernel
theorem dX5_row_13 : decode cX5_row 13 = .ok (.iconst (-1), 1) := by decide +kernel
theorem dX5_row_14 : decode cX5_row 14 = .ok (.ireturn, 1) := by decide +kernel
theorem dX5_row_15 : decode cX5_row 15 = .ok (.iload_n 2, 1) := by decide +kernel
theorem dX5_row_16 : decode cX5_row 16 = .ok (.ifCond .ge 9, 3) := by decide +kernel
theorem dX5_row_19 : decode cX5_row 19 = .ok (.aload_n 0, 1) := by decide +kernel
theorem dX5_row_20 : decode cX5_row 20 = .ok (.iconst 5, 1) := by decide +kernel
theorem dX5_row_21 : decode cX5_row 21 = .ok (.invokevirtual 87, 3) := by decide +kernel
theorem dX5_row_24 : decode cX5_row 24 = .ok (.ireturn, 1) := by decide +kernel
theorem dX5_row_25 : decode cX5_row 25 = .ok (.aload_n 0, 1) := by decide +kernel
theorem dX5_row_26 : decode cX5_row 26 = .ok (.iload_n 1, 1) := by decide +kernel
theorem dX5_row_27 : decode cX5_row 27 = .ok (.iload_n 2, 1) := by decide +kernel
theorem dX5_row_28 : decode cX5_row 28 = .ok (.invokevirtual 91, 3) := by decide +kernel
theorem dX5_row_31 : decode cX5_row 31 = .ok (.iload_n 2, 1) := by decide +kernel
theorem dX5_row_32 : decode cX5_row 32 = .ok (.ireturn, 1) := by decide +kernel
theorem dX5_makeRow_0 : decode cX5_makeRow 0 = .ok (.aload_n 0, 1) := by decide +kernel
theorem dX5_makeRow_1 : decode cX5_makeRow 1 = .ok (.getfield 25, 3) := by decide +kernel
theorem dX5_makeRow_4 : decode cX5_makeRow 4 = .ok (.iload_n 1, 1) := by decide +kernel
theorem dX5_makeRow_5 : decode cX5_makeRow 5 = .ok (.iload_n 2, 1) := by decide +kernel
theorem dX5_makeRow_6 : decode cX5_makeRow 6 = .ok (.iastore, 1) := by decide +kernel
theorem dX5_makeRow_7 : decode cX5_makeRow 7 = .ok (.iconst 0, 1) := by decide +kernel
theorem dX5_makeRow_8 : decode cX5_makeRow 8 = .ok (.istore_n 3, 1) := by decide +kernel
theorem dX5_makeRow_9 : decode cX5_makeRow 9 = .ok (.iload_n 3, 1) := by decide +kernel
theorem dX5_makeRow_10 : decode cX5_makeRow 10 = .ok (.bipush 40, 2) := by decide +kernel
theorem dX5_makeRow_12 : decode cX5_makeRow 12 = .ok (.if_icmp .ge 21, 3) := by decide +kernel
theorem dX5_makeRow_15 : decode cX5_makeRow 15 = .ok (.aload_n 0, 1) := by decide +kernel
theorem dX5_makeRow_16 : decode cX5_makeRow 16 = .ok (.getfield 28, 3) := by decide +kernel
theorem dX5_makeRow_19 : decode cX5_makeRow 19 = .ok (.bipush 40, 2) := by decide +kernel
theorem dX5_makeRow_21 : decode cX5_makeRow 21 = .ok (.iload_n 1, 1) := by decide +kernel
theorem dX5_makeRow_22 : decode cX5_makeRow 22 = .ok (.imul, 1) := by decide +kernel
theorem dX5_makeRow_23 : decode cX5_makeRow 23 = .ok (.iload_n 3, 1) := by decide +kernel
theorem dX5_makeRow_24 : decode cX5_makeRow 24 = .ok (.iadd, 1) := by decide +kernel
theorem dX5_makeRow_25 : decode cX5_makeRow 25 = .ok (.iconst 0, 1) := by decide +kernel
theorem dX5_makeRow_26 : decode cX5_makeRow 26 = .ok (.iastore, 1) := by decide +kernel
theorem dX5_makeRow_27 : decode cX5_makeRow 27 = .ok (.iinc 3 1, 3) := by decide +kernel
theorem dX5_makeRow_30 : decode cX5_makeRow 30 = .ok (.goto (-21), 3) := by decide +kernel
theorem dX5_makeRow_33 : decode cX5_makeRow 33 = .ok (.return_, 1) := by decide +kernel
theorem dX5_refused_0 : decode cX5_refused 0 = .ok (.iload_n 1, 1) := by decide +kernel
theorem dX5_refused_1 : decode cX5_refused 1 = .ok (.invokestatic 83, 3) := by decide +kernel
theorem dX5_refused_4 : decode cX5_refused 4 = .ok (.ifCond .ne 7, 3) := by decide +kernel
theorem dX5_refused_7 : decode cX5_refused 7 = .ok (.iconst (-1), 1) := by decide +kernel
theorem dX5_refused_8 : decode cX5_refused 8 = .ok (.goto 47, 3) := by decide +kernel
theorem dX5_refused_11 : decode cX5_refused 11 = .ok (.aload_n 0, 1) := by decide +kernel
theorem dX5_refused_12 : decode cX5_refused 12 = .ok (.getfield 25, 3) := by decide +kernel
theorem dX5_refused_15 : decode cX5_refused 15 = .ok (.iload_n 1, 1) := by decide +kernel
theorem dX5_refused_16 : decode cX5_refused 16 = .ok (.iaload, 1) := by decide +kernel
theorem dX5_refused_17 : decode cX5_refused 17 = .ok (.ifCond .ge 11, 3) := by decide +kernel
theorem dX5_refused_20 : decode cX5_refused 20 = .ok (.aload_n 0, 1) := by decide +kernel
theorem dX5_refused_21 : decode cX5_refused 21 = .ok (.iconst 1, 1) := by decide +kernel
theorem dX5_refused_22 : decode cX5_refused 22 = .ok (.invokevirtual 87, 3) := by decide +kernel
theorem dX5_refused_25 : decode cX5_refused 25 = .ok (.goto 30, 3) := by decide +kernel
theorem dX5_refused_28 : decode cX5_refused 28 = .ok (.iload_n 2, 1) := by decide +kernel
theorem dX5_refused_29 : decode cX5_refused 29 = .ok (.i2l, 1) := by decide +kernel
theorem dX5_refused_30 : decode cX5_refused 30 = .ok (.lconst 0, 1) := by decide +kernel
theorem dX5_refused_31 : decode cX5_refused 31 = .ok (.aload_n 0, 1) := by decide +kernel
theorem dX5_refused_32 : decode cX5_refused 32 = .ok (.getfield 25, 3) := by decide +kernel
theorem dX5_refused_35 : decode cX5_refused 35 = .ok (.iload_n 1, 1) := by decide +kernel
theorem dX5_refused_36 : decode cX5_refused 36 = .ok (.iaload, 1) := by decide +kernel
theorem dX5_refused_37 : decode cX5_refused 37 = .ok (.iconst 1, 1) := by decide +kernel
theorem dX5_refused_38 : decode cX5_refused 38 = .ok (.isub, 1) := by decide +kernel
theorem dX5_refused_39 : decode cX5_refused 39 = .ok (.i2l, 1) := by decide +kernel
theorem dX5_refused_40 : decode cX5_refused 40 = .ok (.invokestatic 77, 3) := by decide +kernel
theorem dX5_refused_43 : decode cX5_refused 43 = .ok (.ifCond .eq 7, 3) := by decide +kernel
theorem dX5_refused_46 : decode cX5_refused 46 = .ok (.iconst 0, 1) := by decide +kernel
theorem dX5_refused_47 : decode cX5_refused 47 = .ok (.goto 8, 3) := by decide +kernel
theorem dX5_refused_50 : decode cX5_refused 50 = .ok (.aload_n 0, 1) := by decide +kernel
theorem dX5_refused_51 : decode cX5_refused 51 = .ok (.iconst 2, 1) := by decide +kernel
theorem dX5_refused_52 : decode cX5_refused 52 = .ok (.invokevirtual 87, 3) := by decide +kernel
theorem dX5_refused_55 : decode cX5_refused 55 = .ok (.ireturn, 1) := by decide +kernel
theorem dX5_lay_0 : decode cX5_lay 0 = .ok (.aload_n 0, 1) := by decide +kernel
theorem dX5_lay_1 : decode cX5_lay 1 = .ok (.iload_n 1, 1) := by decide +kernel
theorem dX5_lay_2 : decode cX5_lay 2 = .ok (.iload_n 2, 1) := by decide +kernel
theorem dX5_lay_3 : decode cX5_lay 3 = .ok (.invokevirtual 95, 3) := by decide +kernel
theorem dX5_lay_6 : decode cX5_lay 6 = .ok (.istore 4, 2) := by decide +kernel
theorem dX5_lay_8 : decode cX5_lay 8 = .ok (.iload 4, 2) := by decide +kernel
theorem dX5_lay_10 : decode cX5_lay 10 = .ok (.ifCond .eq 6, 3) := by decide +kernel
theorem dX5_lay_13 : decode cX5_lay 13 = .ok (.iload 4, 2) := by decide +kernel
theorem dX5_lay_15 : decode cX5_lay 15 = .ok (.ireturn, 1) := by decide +kernel
theorem dX5_lay_16 : decode cX5_lay 16 = .ok (.aload_n 0, 1) := by decide +kernel
theorem dX5_lay_17 : decode cX5_lay 17 = .ok (.getfield 28, 3) := by decide +kernel
theorem dX5_lay_20 : decode cX5_lay 20 = .ok (.bipush 40, 2) := by decide +kernel
theorem dX5_lay_22 : decode cX5_lay 22 = .ok (.iload_n 1, 1) := by decide +kernel
theorem dX5_lay_23 : decode cX5_lay 23 = .ok (.imul, 1) := by decide +kernel
theorem dX5_lay_24 : decode cX5_lay 24 = .ok (.iload_n 2, 1) := by decide +kernel
theorem dX5_lay_25 : decode cX5_lay 25 = .ok (.iadd, 1) := by decide +kernel
theorem dX5_lay_26 : decode cX5_lay 26 = .ok (.iaload, 1) := by decide +kernel
theorem dX5_lay_27 : decode cX5_lay 27 = .ok (.istore 5, 2) := by decide +kernel
theorem dX5_lay_29 : decode cX5_lay 29 = .ok (.aload_n 0, 1) := by decide +kernel
theorem dX5_lay_30 : decode cX5_lay 30 = .ok (.getfield 28, 3) := by decide +kernel
theorem dX5_lay_33 : decode cX5_lay 33 = .ok (.bipush 40, 2) := by decide +kernel
theorem dX5_lay_35 : decode cX5_lay 35 = .ok (.iload_n 1, 1) := by decide +kernel
theorem dX5_lay_36 : decode cX5_lay 36 = .ok (.imul, 1) := by decide +kernel
theorem dX5_lay_37 : decode cX5_lay 37 = .ok (.iload_n 2, 1) := by decide +kernel
theorem dX5_lay_38 : decode cX5_lay 38 = .ok (.iadd, 1) := by decide +kernel
theorem dX5_lay_39 : decode cX5_lay 39 = .ok (.iload_n 3, 1) := by decide +kernel
theorem dX5_lay_40 : decode cX5_lay 40 = .ok (.iastore, 1) := by decide +kernel
theorem dX5_lay_41 : decode cX5_lay 41 = .ok (.aload_n 0, 1) := by decide +kernel
theorem dX5_lay_42 : decode cX5_lay 42 = .ok (.iload 5, 2) := by decide +kernel
theorem dX5_lay_44 : decode cX5_lay 44 = .ok (.invokevirtual 99, 3) := by decide +kernel
theorem dX5_lay_47 : decode cX5_lay 47 = .ok (.ireturn, 1) := by decide +kernel
theorem dX5_at_0 : decode cX5_at 0 = .ok (.aload_n 0, 1) := by decide +kernel
theorem dX5_at_1 : decode cX5_at 1 = .ok (.iload_n 1, 1) := by decide +kernel
theorem dX5_at_2 : decode cX5_at 2 = .ok (.iload_n 2, 1) := by decide +kernel
theorem dX5_at_3 : decode cX5_at 3 = .ok (.invokevirtual 95, 3) := by decide +kernel
theorem dX5_at_6 : decode cX5_at 6 = .ok (.istore_n 3, 1) := by decide +kernel
theorem dX5_at_7 : decode cX5_at 7 = .ok (.iload_n 3, 1) := by decide +kernel
theorem dX5_at_8 : decode cX5_at 8 = .ok (.ifCond .eq 7, 3) := by decide +kernel
theorem dX5_at_11 : decode cX5_at 11 = .ok (.iload_n 3, 1) := by decide +kernel
theorem dX5_at_12 : decode cX5_at 12 = .ok (.goto 18, 3) := by decide +kernel
theorem dX5_at_15 : decode cX5_at 15 = .ok (.aload_n 0, 1) := by decide +kernel
theorem dX5_at_16 : decode cX5_at 16 = .ok (.aload_n 0, 1) := by decide +kernel
theorem dX5_at_17 : decode cX5_at 17 = .ok (.getfield 28, 3) := by decide +kernel
theorem dX5_at_20 : decode cX5_at 20 = .ok (.bipush 40, 2) := by decide +kernel
theorem dX5_at_22 : decode cX5_at 22 = .ok (.iload_n 1, 1) := by decide +kernel
theorem dX5_at_23 : decode cX5_at 23 = .ok (.imul, 1) := by decide +kernel
theorem dX5_at_24 : decode cX5_at 24 = .ok (.iload_n 2, 1) := by decide +kernel
theorem dX5_at_25 : decode cX5_at 25 = .ok (.iadd, 1) := by decide +kernel
theorem dX5_at_26 : decode cX5_at 26 = .ok (.iaload, 1) := by decide +kernel
theorem dX5_at_27 : decode cX5_at 27 = .ok (.invokevirtual 99, 3) := by decide +kernel
theorem dX5_at_30 : decode cX5_at 30 = .ok (.ireturn, 1) := by decide +kernel
theorem dX5_tear_0 : decode cX5_tear 0 = .ok (.iload_n 1, 1) := by decide +kernel
theorem dX5_tear_1 : decode cX5_tear 1 = .ok (.invokestatic 83, 3) := by decide +kernel
theorem dX5_tear_4 : decode cX5_tear 4 = .ok (.ifCond .ne 5, 3) := by decide +kernel
theorem dX5_tear_7 : decode cX5_tear 7 = .ok (.iconst (-1), 1) := by decide +kernel
theorem dX5_tear_8 : decode cX5_tear 8 = .ok (.ireturn, 1) := by decide +kernel
theorem dX5_tear_9 : decode cX5_tear 9 = .ok (.aload_n 0, 1) := by decide +kernel
theorem dX5_tear_10 : decode cX5_tear 10 = .ok (.getfield 25, 3) := by decide +kernel
theorem dX5_tear_13 : decode cX5_tear 13 = .ok (.iload_n 1, 1) := by decide +kernel
theorem dX5_tear_14 : decode cX5_tear 14 = .ok (.iaload, 1) := by decide +kernel
theorem dX5_tear_15 : decode cX5_tear 15 = .ok (.ifCond .ge 9, 3) := by decide +kernel
theorem dX5_tear_18 : decode cX5_tear 18 = .ok (.aload_n 0, 1) := by decide +kernel
theorem dX5_tear_19 : decode cX5_tear 19 = .ok (.iconst 1, 1) := by decide +kernel
theorem dX5_tear_20 : decode cX5_tear 20 = .ok (.invokevirtual 87, 3) := by decide +kernel
theorem dX5_tear_23 : decode cX5_tear 23 = .ok (.ireturn, 1) := by decide +kernel
theorem dX5_tear_24 : decode cX5_tear 24 = .ok (.aload_n 0, 1) := by decide +kernel
theorem dX5_tear_25 : decode cX5_tear 25 = .ok (.getfield 25, 3) := by decide +kernel
theorem dX5_tear_28 : decode cX5_tear 28 = .ok (.iload_n 1, 1) := by decide +kernel
theorem dX5_tear_29 : decode cX5_tear 29 = .ok (.iconst (-1), 1) := by decide +kernel
theorem dX5_tear_30 : decode cX5_tear 30 = .ok (.iastore, 1) := by decide +kernel
theorem dX5_tear_31 : decode cX5_tear 31 = .ok (.iconst 1, 1) := by decide +kernel
theorem dX5_tear_32 : decode cX5_tear 32 = .ok (.ireturn, 1) := by decide +kernel
theorem dX5_isSpan_0 : decode cX5_isSpan 0 = .ok (.iload_n 2, 1) := by decide +kernel
theorem dX5_isSpan_1 : decode cX5_isSpan 1 = .ok (.ifCond .lt 23, 3) := by decide +kernel
theorem dX5_isSpan_4 : decode cX5_isSpan 4 = .ok (.iload_n 2, 1) := by decide +kernel
theorem dX5_isSpan_5 : decode cX5_isSpan 5 = .ok (.i2l, 1) := by decide +kernel
theorem dX5_isSpan_6 : decode cX5_isSpan 6 = .ok (.iload_n 3, 1) := by decide +kernel
theorem dX5_isSpan_7 : decode cX5_isSpan 7 = .ok (.i2l, 1) := by decide +kernel
theorem dX5_isSpan_8 : decode cX5_isSpan 8 = .ok (.ladd, 1) := by decide +kernel
theorem dX5_isSpan_9 : decode cX5_isSpan 9 = .ok (.aload_n 0, 1) := by decide +kernel
theorem dX5_isSpan_10 : decode cX5_isSpan 10 = .ok (.getfield 25, 3) := by decide +kernel
theorem dX5_isSpan_13 : decode cX5_isSpan 13 = .ok (.iload_n 1, 1) := by decide +kernel
theorem dX5_isSpan_14 : decode cX5_isSpan 14 = .ok (.iaload, 1) := by decide +kernel
theorem dX5_isSpan_15 : decode cX5_isSpan 15 = .ok (.i2l, 1) := by decide +kernel
theorem dX5_isSpan_16 : decode cX5_isSpan 16 = .ok (.lcmp, 1) := by decide +kernel
theorem dX5_isSpan_17 : decode cX5_isSpan 17 = .ok (.ifCond .gt 7, 3) := by decide +kernel
theorem dX5_isSpan_20 : decode cX5_isSpan 20 = .ok (.iconst 1, 1) := by decide +kernel
theorem dX5_isSpan_21 : decode cX5_isSpan 21 = .ok (.goto 4, 3) := by decide +kernel
theorem dX5_isSpan_24 : decode cX5_isSpan 24 = .ok (.iconst 0, 1) := by decide +kernel
theorem dX5_isSpan_25 : decode cX5_isSpan 25 = .ok (.ireturn, 1) := by decide +kernel
theorem dX5_copy_0 : decode cX5_copy 0 = .ok (.iload_n 1, 1) := by decide +kernel
theorem dX5_copy_1 : decode cX5_copy 1 = .ok (.invokestatic 83, 3) := by decide +kernel
theorem dX5_copy_4 : decode cX5_copy 4 = .ok (.ifCond .eq 10, 3) := by decide +kernel
theorem dX5_copy_7 : decode cX5_copy 7 = .ok (.iload_n 3, 1) := by decide +kernel
theorem dX5_copy_8 : decode cX5_copy 8 = .ok (.invokestatic 83, 3) := by decide +kernel
theorem dX5_copy_11 : decode cX5_copy 11 = .ok (.ifCond .ne 5, 3) := by decide +kernel
theorem dX5_copy_14 : decode cX5_copy 14 = .ok (.iconst (-1), 1) := by decide +kernel
theorem dX5_copy_15 : decode cX5_copy 15 = .ok (.ireturn, 1) := by decide +kernel
theorem dX5_copy_16 : decode cX5_copy 16 = .ok (.iload 5, 2) := by decide +kernel
theorem dX5_copy_18 : decode cX5_copy 18 = .ok (.ifCond .ge 9, 3) := by decide +kernel
theorem dX5_copy_21 : decode cX5_copy 21 = .ok (.aload_n 0, 1) := by decide +kernel
theorem dX5_copy_22 : decode cX5_copy 22 = .ok (.iconst 5, 1) := by decide +kernel
theorem dX5_copy_23 : decode cX5_copy 23 = .ok (.invokevirtual 87, 3) := by decide +kernel
theorem dX5_copy_26 : decode cX5_copy 26 = .ok (.ireturn, 1) := by decide +kernel
theorem dX5_copy_27 : decode cX5_copy 27 = .ok (.aload_n 0, 1) := by decide +kernel
theorem dX5_copy_28 : decode cX5_copy 28 = .ok (.getfield 25, 3) := by decide +kernel
theorem dX5_copy_31 : decode cX5_copy 31 = .ok (.iload_n 1, 1) := by decide +kernel
theorem dX5_copy_32 : decode cX5_copy 32 = .ok (.iaload, 1) := by decide +kernel
theorem dX5_copy_33 : decode cX5_copy 33 = .ok (.ifCond .lt 12, 3) := by decide +kernel
theorem dX5_copy_36 : decode cX5_copy 36 = .ok (.aload_n 0, 1) := by decide +kernel
theorem dX5_copy_37 : decode cX5_copy 37 = .ok (.getfield 25, 3) := by decide +kernel
