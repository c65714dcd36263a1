theorem dX5_copy_40 : decode cX5_copy 40 = .ok (.iload_n 3, 1) := by decide +kernel
theorem dX5_copy_41 : decode cX5_copy 41 = .ok (.iaload, 1) := by decide +kernel
theorem dX5_copy_42 : decode cX5_copy 42 = .ok (.ifCond .ge 9, 3) := by decide +kernel
theorem dX5_copy_45 : decode cX5_copy 45 = .ok (.aload_n 0, 1) := by decide +kernel
theorem dX5_copy_46 : decode cX5_copy 46 = .ok (.iconst 1, 1) := by decide +kernel
theorem dX5_copy_47 : decode cX5_copy 47 = .ok (.invokevirtual 87, 3) := by decide +kernel
theorem dX5_copy_50 : decode cX5_copy 50 = .ok (.ireturn, 1) := by decide +kernel
theorem dX5_copy_51 : decode cX5_copy 51 = .ok (.aload_n 0, 1) := by decide +kernel
theorem dX5_copy_52 : decode cX5_copy 52 = .ok (.iload_n 1, 1) := by decide +kernel
theorem dX5_copy_53 : decode cX5_copy 53 = .ok (.iload_n 2, 1) := by decide +kernel
theorem dX5_copy_54 : decode cX5_copy 54 = .ok (.iload 5, 2) := by decide +kernel
theorem dX5_copy_56 : decode cX5_copy 56 = .ok (.invokevirtual 102, 3) := by decide +kernel
theorem dX5_copy_59 : decode cX5_copy 59 = .ok (.ifCond .eq 15, 3) := by decide +kernel
theorem dX5_copy_62 : decode cX5_copy 62 = .ok (.aload_n 0, 1) := by decide +kernel
theorem dX5_copy_63 : decode cX5_copy 63 = .ok (.iload_n 3, 1) := by decide +kernel
theorem dX5_copy_64 : decode cX5_copy 64 = .ok (.iload 4, 2) := by decide +kernel
theorem dX5_copy_66 : decode cX5_copy 66 = .ok (.iload 5, 2) := by decide +kernel
theorem dX5_copy_68 : decode cX5_copy 68 = .ok (.invokevirtual 102, 3) := by decide +kernel
theorem dX5_copy_71 : decode cX5_copy 71 = .ok (.ifCond .ne 9, 3) := by decide +kernel
theorem dX5_copy_74 : decode cX5_copy 74 = .ok (.aload_n 0, 1) := by decide +kernel
theorem dX5_copy_75 : decode cX5_copy 75 = .ok (.iconst 2, 1) := by decide +kernel
theorem dX5_copy_76 : decode cX5_copy 76 = .ok (.invokevirtual 87, 3) := by decide +kernel
theorem dX5_copy_79 : decode cX5_copy 79 = .ok (.ireturn, 1) := by decide +kernel
theorem dX5_copy_80 : decode cX5_copy 80 = .ok (.iload_n 2, 1) := by decide +kernel
theorem dX5_copy_81 : decode cX5_copy 81 = .ok (.iload 4, 2) := by decide +kernel
theorem dX5_copy_83 : decode cX5_copy 83 = .ok (.if_icmp .ge 7, 3) := by decide +kernel
theorem dX5_copy_86 : decode cX5_copy 86 = .ok (.iconst 1, 1) := by decide +kernel
theorem dX5_copy_87 : decode cX5_copy 87 = .ok (.goto 4, 3) := by decide +kernel
theorem dX5_copy_90 : decode cX5_copy 90 = .ok (.iconst 0, 1) := by decide +kernel
theorem dX5_copy_91 : decode cX5_copy 91 = .ok (.istore 6, 2) := by decide +kernel
theorem dX5_copy_93 : decode cX5_copy 93 = .ok (.iconst 0, 1) := by decide +kernel
theorem dX5_copy_94 : decode cX5_copy 94 = .ok (.istore 7, 2) := by decide +kernel
theorem dX5_copy_96 : decode cX5_copy 96 = .ok (.iload 7, 2) := by decide +kernel
theorem dX5_copy_98 : decode cX5_copy 98 = .ok (.iload 5, 2) := by decide +kernel
theorem dX5_copy_100 : decode cX5_copy 100 = .ok (.if_icmp .ge 57, 3) := by decide +kernel
theorem dX5_copy_103 : decode cX5_copy 103 = .ok (.iload 6, 2) := by decide +kernel
theorem dX5_copy_105 : decode cX5_copy 105 = .ok (.ifCond .eq 13, 3) := by decide +kernel
theorem dX5_copy_108 : decode cX5_copy 108 = .ok (.iload 5, 2) := by decide +kernel
theorem dX5_copy_110 : decode cX5_copy 110 = .ok (.iconst 1, 1) := by decide +kernel
theorem dX5_copy_111 : decode cX5_copy 111 = .ok (.isub, 1) := by decide +kernel
theorem dX5_copy_112 : decode cX5_copy 112 = .ok (.iload 7, 2) := by decide +kernel
theorem dX5_copy_114 : decode cX5_copy 114 = .ok (.isub, 1) := by decide +kernel
theorem dX5_copy_115 : decode cX5_copy 115 = .ok (.goto 5, 3) := by decide +kernel
theorem dX5_copy_118 : decode cX5_copy 118 = .ok (.iload 7, 2) := by decide +kernel
theorem dX5_copy_120 : decode cX5_copy 120 = .ok (.istore 8, 2) := by decide +kernel
theorem dX5_copy_122 : decode cX5_copy 122 = .ok (.aload_n 0, 1) := by decide +kernel
theorem dX5_copy_123 : decode cX5_copy 123 = .ok (.getfield 28, 3) := by decide +kernel
theorem dX5_copy_126 : decode cX5_copy 126 = .ok (.bipush 40, 2) := by decide +kernel
theorem dX5_copy_128 : decode cX5_copy 128 = .ok (.iload_n 3, 1) := by decide +kernel
theorem dX5_copy_129 : decode cX5_copy 129 = .ok (.imul, 1) := by decide +kernel
theorem dX5_copy_130 : decode cX5_copy 130 = .ok (.iload 4, 2) := by decide +kernel
theorem dX5_copy_132 : decode cX5_copy 132 = .ok (.iadd, 1) := by decide +kernel
theorem dX5_copy_133 : decode cX5_copy 133 = .ok (.iload 8, 2) := by decide +kernel
theorem dX5_copy_135 : decode cX5_copy 135 = .ok (.iadd, 1) := by decide +kernel
theorem dX5_copy_136 : decode cX5_copy 136 = .ok (.aload_n 0, 1) := by decide +kernel
theorem dX5_copy_137 : decode cX5_copy 137 = .ok (.getfield 28, 3) := by decide +kernel
theorem dX5_copy_140 : decode cX5_copy 140 = .ok (.bipush 40, 2) := by decide +kernel
theorem dX5_copy_142 : decode cX5_copy 142 = .ok (.iload_n 1, 1) := by decide +kernel
theorem dX5_copy_143 : decode cX5_copy 143 = .ok (.imul, 1) := by decide +kernel
theorem dX5_copy_144 : decode cX5_copy 144 = .ok (.iload_n 2, 1) := by decide +kernel
theorem dX5_copy_145 : decode cX5_copy 145 = .ok (.iadd, 1) := by decide +kernel
theorem dX5_copy_146 : decode cX5_copy 146 = .ok (.iload 8, 2) := by decide +kernel
theorem dX5_copy_148 : decode cX5_copy 148 = .ok (.iadd, 1) := by decide +kernel
theorem dX5_copy_149 : decode cX5_copy 149 = .ok (.iaload, 1) := by decide +kernel
theorem dX5_copy_150 : decode cX5_copy 150 = .ok (.iastore, 1) := by decide +kernel
theorem dX5_copy_151 : decode cX5_copy 151 = .ok (.iinc 7 1, 3) := by decide +kernel
theorem dX5_copy_154 : decode cX5_copy 154 = .ok (.goto (-58), 3) := by decide +kernel
theorem dX5_copy_157 : decode cX5_copy 157 = .ok (.iconst 1, 1) := by decide +kernel
theorem dX5_copy_158 : decode cX5_copy 158 = .ok (.ireturn, 1) := by decide +kernel
theorem dX5_mean_0 : decode cX5_mean 0 = .ok (.iload_n 1, 1) := by decide +kernel
theorem dX5_mean_1 : decode cX5_mean 1 = .ok (.invokestatic 83, 3) := by decide +kernel
theorem dX5_mean_4 : decode cX5_mean 4 = .ok (.ifCond .ne 5, 3) := by decide +kernel
theorem dX5_mean_7 : decode cX5_mean 7 = .ok (.iconst (-1), 1) := by decide +kernel
theorem dX5_mean_8 : decode cX5_mean 8 = .ok (.ireturn, 1) := by decide +kernel
theorem dX5_mean_9 : decode cX5_mean 9 = .ok (.aload_n 0, 1) := by decide +kernel
theorem dX5_mean_10 : decode cX5_mean 10 = .ok (.getfield 25, 3) := by decide +kernel
theorem dX5_mean_13 : decode cX5_mean 13 = .ok (.iload_n 1, 1) := by decide +kernel
theorem dX5_mean_14 : decode cX5_mean 14 = .ok (.iaload, 1) := by decide +kernel
theorem dX5_mean_15 : decode cX5_mean 15 = .ok (.ifCond .ge 9, 3) := by decide +kernel
theorem dX5_mean_18 : decode cX5_mean 18 = .ok (.aload_n 0, 1) := by decide +kernel
theorem dX5_mean_19 : decode cX5_mean 19 = .ok (.iconst 1, 1) := by decide +kernel
theorem dX5_mean_20 : decode cX5_mean 20 = .ok (.invokevirtual 87, 3) := by decide +kernel
theorem dX5_mean_23 : decode cX5_mean 23 = .ok (.ireturn, 1) := by decide +kernel
theorem dX5_mean_24 : decode cX5_mean 24 = .ok (.aload_n 0, 1) := by decide +kernel
theorem dX5_mean_25 : decode cX5_mean 25 = .ok (.getfield 25, 3) := by decide +kernel
theorem dX5_mean_28 : decode cX5_mean 28 = .ok (.iload_n 1, 1) := by decide +kernel
theorem dX5_mean_29 : decode cX5_mean 29 = .ok (.iaload, 1) := by decide +kernel
theorem dX5_mean_30 : decode cX5_mean 30 = .ok (.ifCond .ne 9, 3) := by decide +kernel
theorem dX5_mean_33 : decode cX5_mean 33 = .ok (.aload_n 0, 1) := by decide +kernel
theorem dX5_mean_34 : decode cX5_mean 34 = .ok (.iconst 4, 1) := by decide +kernel
theorem dX5_mean_35 : decode cX5_mean 35 = .ok (.invokevirtual 87, 3) := by decide +kernel
theorem dX5_mean_38 : decode cX5_mean 38 = .ok (.ireturn, 1) := by decide +kernel
theorem dX5_mean_39 : decode cX5_mean 39 = .ok (.lconst 0, 1) := by decide +kernel
theorem dX5_mean_40 : decode cX5_mean 40 = .ok (.lstore_n 2, 1) := by decide +kernel
theorem dX5_mean_41 : decode cX5_mean 41 = .ok (.iconst 0, 1) := by decide +kernel
theorem dX5_mean_42 : decode cX5_mean 42 = .ok (.istore 4, 2) := by decide +kernel
theorem dX5_mean_44 : decode cX5_mean 44 = .ok (.iload 4, 2) := by decide +kernel
theorem dX5_mean_46 : decode cX5_mean 46 = .ok (.aload_n 0, 1) := by decide +kernel
theorem dX5_mean_47 : decode cX5_mean 47 = .ok (.getfield 25, 3) := by decide +kernel
theorem dX5_mean_50 : decode cX5_mean 50 = .ok (.iload_n 1, 1) := by decide +kernel
theorem dX5_mean_51 : decode cX5_mean 51 = .ok (.iaload, 1) := by decide +kernel
theorem dX5_mean_52 : decode cX5_mean 52 = .ok (.if_icmp .ge 25, 3) := by decide +kernel
theorem dX5_mean_55 : decode cX5_mean 55 = .ok (.lload_n 2, 1) := by decide +kernel
theorem dX5_mean_56 : decode cX5_mean 56 = .ok (.aload_n 0, 1) := by decide +kernel
theorem dX5_mean_57 : decode cX5_mean 57 = .ok (.getfield 28, 3) := by decide +kernel
theorem dX5_mean_60 : decode cX5_mean 60 = .ok (.bipush 40, 2) := by decide +kernel
theorem dX5_mean_62 : decode cX5_mean 62 = .ok (.iload_n 1, 1) := by decide +kernel
theorem dX5_mean_63 : decode cX5_mean 63 = .ok (.imul, 1) := by decide +kernel
theorem dX5_mean_64 : decode cX5_mean 64 = .ok (.iload 4, 2) := by decide +kernel
theorem dX5_mean_66 : decode cX5_mean 66 = .ok (.iadd, 1) := by decide +kernel
theorem dX5_mean_67 : decode cX5_mean 67 = .ok (.iaload, 1) := by decide +kernel
theorem dX5_mean_68 : decode cX5_mean 68 = .ok (.i2l, 1) := by decide +kernel
theorem dX5_mean_69 : decode cX5_mean 69 = .ok (.ladd, 1) := by decide +kernel
theorem dX5_mean_70 : decode cX5_mean 70 = .ok (.lstore_n 2, 1) := by decide +kernel
theorem dX5_mean_71 : decode cX5_mean 71 = .ok (.iinc 4 1, 3) := by decide +kernel
theorem dX5_mean_74 : decode cX5_mean 74 = .ok (.goto (-30), 3) := by decide +kernel
theorem dX5_mean_77 : decode cX5_mean 77 = .ok (.aload_n 0, 1) := by decide +kernel
theorem dX5_mean_78 : decode cX5_mean 78 = .ok (.lload_n 2, 1) := by decide +kernel
theorem dX5_mean_79 : decode cX5_mean 79 = .ok (.aload_n 0, 1) := by decide +kernel
theorem dX5_mean_80 : decode cX5_mean 80 = .ok (.getfield 25, 3) := by decide +kernel
theorem dX5_mean_83 : decode cX5_mean 83 = .ok (.iload_n 1, 1) := by decide +kernel
theorem dX5_mean_84 : decode cX5_mean 84 = .ok (.iaload, 1) := by decide +kernel
theorem dX5_mean_85 : decode cX5_mean 85 = .ok (.i2l, 1) := by decide +kernel
theorem dX5_mean_86 : decode cX5_mean 86 = .ok (.ldiv, 1) := by decide +kernel
theorem dX5_mean_87 : decode cX5_mean 87 = .ok (.l2i, 1) := by decide +kernel
theorem dX5_mean_88 : decode cX5_mean 88 = .ok (.invokevirtual 99, 3) := by decide +kernel
theorem dX5_mean_91 : decode cX5_mean 91 = .ok (.ireturn, 1) := by decide +kernel
theorem dX5_text_0 : decode cX5_text 0 = .ok (.iload_n 1, 1) := by decide +kernel
theorem dX5_text_1 : decode cX5_text 1 = .ok (.invokestatic 106, 3) := by decide +kernel
theorem dX5_text_4 : decode cX5_text 4 = .ok (.ifCond .eq 9, 3) := by decide +kernel
theorem dX5_text_7 : decode cX5_text 7 = .ok (.iload_n 2, 1) := by decide +kernel
theorem dX5_text_8 : decode cX5_text 8 = .ok (.bipush 60, 2) := by decide +kernel
theorem dX5_text_10 : decode cX5_text 10 = .ok (.if_icmp .le 5, 3) := by decide +kernel
theorem dX5_text_13 : decode cX5_text 13 = .ok (.iconst (-1), 1) := by decide +kernel
theorem dX5_text_14 : decode cX5_text 14 = .ok (.ireturn, 1) := by decide +kernel
theorem dX5_text_15 : decode cX5_text 15 = .ok (.iload_n 2, 1) := by decide +kernel
theorem dX5_text_16 : decode cX5_text 16 = .ok (.ifCond .ge 9, 3) := by decide +kernel
theorem dX5_text_19 : decode cX5_text 19 = .ok (.aload_n 0, 1) := by decide +kernel
theorem dX5_text_20 : decode cX5_text 20 = .ok (.iconst 5, 1) := by decide +kernel
theorem dX5_text_21 : decode cX5_text 21 = .ok (.invokevirtual 87, 3) := by decide +kernel
theorem dX5_text_24 : decode cX5_text 24 = .ok (.ireturn, 1) := by decide +kernel
theorem dX5_text_25 : decode cX5_text 25 = .ok (.aload_n 0, 1) := by decide +kernel
theorem dX5_text_26 : decode cX5_text 26 = .ok (.getfield 31, 3) := by decide +kernel
theorem dX5_text_29 : decode cX5_text 29 = .ok (.iload_n 1, 1) := by decide +kernel
theorem dX5_text_30 : decode cX5_text 30 = .ok (.iload_n 2, 1) := by decide +kernel
theorem dX5_text_31 : decode cX5_text 31 = .ok (.iastore, 1) := by decide +kernel
theorem dX5_text_32 : decode cX5_text 32 = .ok (.iconst 0, 1) := by decide +kernel
theorem dX5_text_33 : decode cX5_text 33 = .ok (.istore_n 3, 1) := by decide +kernel
theorem dX5_text_34 : decode cX5_text 34 = .ok (.iload_n 3, 1) := by decide +kernel
theorem dX5_text_35 : decode cX5_text 35 = .ok (.bipush 60, 2) := by decide +kernel
theorem dX5_text_37 : decode cX5_text 37 = .ok (.if_icmp .ge 22, 3) := by decide +kernel
theorem dX5_text_40 : decode cX5_text 40 = .ok (.aload_n 0, 1) := by decide +kernel
theorem dX5_text_41 : decode cX5_text 41 = .ok (.getfield 34, 3) := by decide +kernel
theorem dX5_text_44 : decode cX5_text 44 = .ok (.bipush 60, 2) := by decide +kernel
theorem dX5_text_46 : decode cX5_text 46 = .ok (.iload_n 1, 1) := by decide +kernel
theorem dX5_text_47 : decode cX5_text 47 = .ok (.imul, 1) := by decide +kernel
theorem dX5_text_48 : decode cX5_text 48 = .ok (.iload_n 3, 1) := by decide +kernel
theorem dX5_text_49 : decode cX5_text 49 = .ok (.iadd, 1) := by decide +kernel
theorem dX5_text_50 : decode cX5_text 50 = .ok (.bipush 32, 2) := by decide +kernel
theorem dX5_text_52 : decode cX5_text 52 = .ok (.iastore, 1) := by decide +kernel
theorem dX5_text_53 : decode cX5_text 53 = .ok (.iinc 3 1, 3) := by decide +kernel
theorem dX5_text_56 : decode cX5_text 56 = .ok (.goto (-22), 3) := by decide +kernel
theorem dX5_text_59 : decode cX5_text 59 = .ok (.iload_n 2, 1) := by decide +kernel
theorem dX5_text_60 : decode cX5_text 60 = .ok (.ireturn, 1) := by decide +kernel
theorem dX5_put_0 : decode cX5_put 0 = .ok (.iload_n 1, 1) := by decide +kernel
theorem dX5_put_1 : decode cX5_put 1 = .ok (.invokestatic 106, 3) := by decide +kernel
theorem dX5_put_4 : decode cX5_put 4 = .ok (.ifCond .ne 5, 3) := by decide +kernel
theorem dX5_put_7 : decode cX5_put 7 = .ok (.iconst (-1), 1) := by decide +kernel
theorem dX5_put_8 : decode cX5_put 8 = .ok (.ireturn, 1) := by decide +kernel
theorem dX5_put_9 : decode cX5_put 9 = .ok (.aload_n 0, 1) := by decide +kernel
theorem dX5_put_10 : decode cX5_put 10 = .ok (.getfield 31, 3) := by decide +kernel
theorem dX5_put_13 : decode cX5_put 13 = .ok (.iload_n 1, 1) := by decide +kernel
theorem dX5_put_14 : decode cX5_put 14 = .ok (.iaload, 1) := by decide +kernel
theorem dX5_put_15 : decode cX5_put 15 = .ok (.ifCond .ge 9, 3) := by decide +kernel
theorem dX5_put_18 : decode cX5_put 18 = .ok (.aload_n 0, 1) := by decide +kernel
theorem dX5_put_19 : decode cX5_put 19 = .ok (.iconst 1, 1) := by decide +kernel
theorem dX5_put_20 : decode cX5_put 20 = .ok (.invokevirtual 87, 3) := by decide +kernel
theorem dX5_put_23 : decode cX5_put 23 = .ok (.ireturn, 1) := by decide +kernel
theorem dX5_put_24 : decode cX5_put 24 = .ok (.iload_n 2, 1) := by decide +kernel
theorem dX5_put_25 : decode cX5_put 25 = .ok (.i2l, 1) := by decide +kernel
theorem dX5_put_26 : decode cX5_put 26 = .ok (.lconst 0, 1) := by decide +kernel
theorem dX5_put_27 : decode cX5_put 27 = .ok (.aload_n 0, 1) := by decide +kernel
theorem dX5_put_28 : decode cX5_put 28 = .ok (.getfield 31, 3) := by decide +kernel
theorem dX5_put_31 : decode cX5_put 31 = .ok (.iload_n 1, 1) := by decide +kernel
theorem dX5_put_32 : decode cX5_put 32 = .ok (.iaload, 1) := by decide +kernel
theorem dX5_put_33 : decode cX5_put 33 = .ok (.iconst 1, 1) := by decide +kernel
theorem dX5_put_34 : decode cX5_put 34 = .ok (.isub, 1) := by decide +kernel
theorem dX5_put_35 : decode cX5_put 35 = .ok (.i2l, 1) := by decide +kernel
theorem dX5_put_36 : decode cX5_put 36 = .ok (.invokestatic 77, 3) := by decide +kernel
theorem dX5_put_39 : decode cX5_put 39 = .ok (.ifCond .ne 9, 3) := by decide +kernel
theorem dX5_put_42 : decode cX5_put 42 = .ok (.aload_n 0, 1) := by decide +kernel
theorem dX5_put_43 : decode cX5_put 43 = .ok (.iconst 2, 1) := by decide +kernel
theorem dX5_put_44 : decode cX5_put 44 = .ok (.invokevirtual 87, 3) := by decide +kernel
theorem dX5_put_47 : decode cX5_put 47 = .ok (.ireturn, 1) := by decide +kernel
theorem dX5_put_48 : decode cX5_put 48 = .ok (.aload_n 0, 1) := by decide +kernel
theorem dX5_put_49 : decode cX5_put 49 = .ok (.getfield 34, 3) := by decide +kernel
theorem dX5_put_52 : decode cX5_put 52 = .ok (.bipush 60, 2) := by decide +kernel
theorem dX5_put_54 : decode cX5_put 54 = .ok (.iload_n 1, 1) := by decide +kernel
theorem dX5_put_55 : decode cX5_put 55 = .ok (.imul, 1) := by decide +kernel
theorem dX5_put_56 : decode cX5_put 56 = .ok (.iload_n 2, 1) := by decide +kernel
theorem dX5_put_57 : decode cX5_put 57 = .ok (.iadd, 1) := by decide +kernel
theorem dX5_put_58 : decode cX5_put 58 = .ok (.iaload, 1) := by decide +kernel
theorem dX5_put_59 : decode cX5_put 59 = .ok (.istore 4, 2) := by decide +kernel
theorem dX5_put_61 : decode cX5_put 61 = .ok (.aload_n 0, 1) := by decide +kernel
theorem dX5_put_62 : decode cX5_put 62 = .ok (.getfield 34, 3) := by decide +kernel
theorem dX5_put_65 : decode cX5_put 65 = .ok (.bipush 60, 2) := by decide +kernel
theorem dX5_put_67 : decode cX5_put 67 = .ok (.iload_n 1, 1) := by decide +kernel
theorem dX5_put_68 : decode cX5_put 68 = .ok (.imul, 1) := by decide +kernel
theorem dX5_put_69 : decode cX5_put 69 = .ok (.iload_n 2, 1) := by decide +kernel
theorem dX5_put_70 : decode cX5_put 70 = .ok (.iadd, 1) := by decide +kernel
theorem dX5_put_71 : decode cX5_put 71 = .ok (.iload_n 3, 1) := by decide +kernel
theorem dX5_put_72 : decode cX5_put 72 = .ok (.i2b, 1) := by decide +kernel
theorem dX5_put_73 : decode cX5_put 73 = .ok (.iastore, 1) := by decide +kernel
theorem dX5_put_74 : decode cX5_put 74 = .ok (.iload 4, 2) := by decide +kernel
theorem dX5_put_76 : decode cX5_put 76 = .ok (.sipush 1000, 3) := by decide +kernel
theorem dX5_put_79 : decode cX5_put 79 = .ok (.iadd, 1) := by decide +kernel
theorem dX5_put_80 : decode cX5_put 80 = .ok (.ireturn, 1) := by decide +kernel
theorem dX5_here_0 : decode cX5_here 0 = .ok (.aload_n 0, 1) := by decide +kernel
theorem dX5_here_1 : decode cX5_here 1 = .ok (.getfield 34, 3) := by decide +kernel
theorem dX5_here_4 : decode cX5_here 4 = .ok (.aload_n 0, 1) := by decide +kernel
theorem dX5_here_5 : decode cX5_here 5 = .ok (.getfield 109, 3) := by decide +kernel
theorem dX5_here_8 : decode cX5_here 8 = .ok (.aload_n 0, 1) := by decide +kernel
theorem dX5_here_9 : decode cX5_here 9 = .ok (.getfield 112, 3) := by decide +kernel
theorem dX5_here_12 : decode cX5_here 12 = .ok (.iadd, 1) := by decide +kernel
theorem dX5_here_13 : decode cX5_here 13 = .ok (.iaload, 1) := by decide +kernel
theorem dX5_here_14 : decode cX5_here 14 = .ok (.ireturn, 1) := by decide +kernel
theorem dX5_skip_0 : decode cX5_skip 0 = .ok (.aload_n 0, 1) := by decide +kernel
theorem dX5_skip_1 : decode cX5_skip 1 = .ok (.getfield 112, 3) := by decide +kernel
theorem dX5_skip_4 : decode cX5_skip 4 = .ok (.aload_n 0, 1) := by decide +kernel
theorem dX5_skip_5 : decode cX5_skip 5 = .ok (.getfield 115, 3) := by decide +kernel
theorem dX5_skip_8 : decode cX5_skip 8 = .ok (.if_icmp .ge 25, 3) := by decide +kernel
theorem dX5_skip_11 : decode cX5_skip 11 = .ok (.aload_n 0, 1) := by decide +kernel
theorem dX5_skip_12 : decode cX5_skip 12 = .ok (.invokevirtual 118, 3) := by decide +kernel
theorem dX5_skip_15 : decode cX5_skip 15 = .ok (.bipush 32, 2) := by decide +kernel
theorem dX5_skip_17 : decode cX5_skip 17 = .ok (.if_icmp .ne 16, 3) := by decide +kernel
theorem dX5_skip_20 : decode cX5_skip 20 = .ok (.aload_n 0, 1) := by decide +kernel
theorem dX5_skip_21 : decode cX5_skip 21 = .ok (.dup, 1) := by decide +kernel
theorem dX5_skip_22 : decode cX5_skip 22 = .ok (.getfield 112, 3) := by decide +kernel
theorem dX5_skip_25 : decode cX5_skip 25 = .ok (.iconst 1, 1) := by decide +kernel
theorem dX5_skip_26 : decode cX5_skip 26 = .ok (.iadd, 1) := by decide +kernel
theorem dX5_skip_27 : decode cX5_skip 27 = .ok (.putfield 112, 3) := by decide +kernel
theorem dX5_skip_30 : decode cX5_skip 30 = .ok (.goto (-30), 3) := by decide +kernel
theorem dX5_skip_33 : decode cX5_skip 33 = .ok (.return_, 1) := by decide +kernel
theorem dX5_isFigure_0 : decode cX5_isFigure 0 = .ok (.aload_n 0, 1) := by decide +kernel
theorem dX5_isFigure_1 : decode cX5_isFigure 1 = .ok (.getfield 112, 3) := by decide +kernel
theorem dX5_isFigure_4 : decode cX5_isFigure 4 = .ok (.aload_n 0, 1) := by decide +kernel
theorem dX5_isFigure_5 : decode cX5_isFigure 5 = .ok (.getfield 115, 3) := by decide +kernel
theorem dX5_isFigure_8 : decode cX5_isFigure 8 = .ok (.if_icmp .ge 28, 3) := by decide +kernel
theorem dX5_isFigure_11 : decode cX5_isFigure 11 = .ok (.aload_n 0, 1) := by decide +kernel
theorem dX5_isFigure_12 : decode cX5_isFigure 12 = .ok (.invokevirtual 118, 3) := by decide +kernel
theorem dX5_isFigure_15 : decode cX5_isFigure 15 = .ok (.i2l, 1) := by decide +kernel
theorem dX5_isFigure_16 : decode cX5_isFigure 16 = .ok (.bipush 48, 2) := by decide +kernel
theorem dX5_isFigure_18 : decode cX5_isFigure 18 = .ok (.iload_n 1, 1) := by decide +kernel
theorem dX5_isFigure_19 : decode cX5_isFigure 19 = .ok (.iadd, 1) := by decide +kernel
theorem dX5_isFigure_20 : decode cX5_isFigure 20 = .ok (.i2l, 1) := by decide +kernel
theorem dX5_isFigure_21 : decode cX5_isFigure 21 = .ok (.bipush 48, 2) := by decide +kernel
theorem dX5_isFigure_23 : decode cX5_isFigure 23 = .ok (.iload_n 2, 1) := by decide +kernel
theorem dX5_isFigure_24 : decode cX5_isFigure 24 = .ok (.iadd, 1) := by decide +kernel
theorem dX5_isFigure_25 : decode cX5_isFigure 25 = .ok (.i2l, 1) := by decide +kernel
theorem dX5_isFigure_26 : decode cX5_isFigure 26 = .ok (.invokestatic 77, 3) := by decide +kernel
theorem dX5_isFigure_29 : decode cX5_isFigure 29 = .ok (.ifCond .eq 7, 3) := by decide +kernel
theorem dX5_isFigure_32 : decode cX5_isFigure 32 = .ok (.iconst 1, 1) := by decide +kernel
theorem dX5_isFigure_33 : decode cX5_isFigure 33 = .ok (.goto 4, 3) := by decide +kernel
theorem dX5_isFigure_36 : decode cX5_isFigure 36 = .ok (.iconst 0, 1) := by decide +kernel
theorem dX5_isFigure_37 : decode cX5_isFigure 37 = .ok (.ireturn, 1) := by decide +kernel
theorem dX5_figure_0 : decode cX5_figure 0 = .ok (.aload_n 0, 1) := by decide +kernel
theorem dX5_figure_1 : decode cX5_figure 1 = .ok (.iload_n 1, 1) := by decide +kernel
theorem dX5_figure_2 : decode cX5_figure 2 = .ok (.iload_n 2, 1) := by decide +kernel
theorem dX5_figure_3 : decode cX5_figure 3 = .ok (.invokevirtual 122, 3) := by decide +kernel
theorem dX5_figure_6 : decode cX5_figure 6 = .ok (.ifCond .ne 6, 3) := by decide +kernel
theorem dX5_figure_9 : decode cX5_figure 9 = .ok (.bipush (-9), 2) := by decide +kernel
theorem dX5_figure_11 : decode cX5_figure 11 = .ok (.ireturn, 1) := by decide +kernel
theorem dX5_figure_12 : decode cX5_figure 12 = .ok (.aload_n 0, 1) := by decide +kernel
theorem dX5_figure_13 : decode cX5_figure 13 = .ok (.dup, 1) := by decide +kernel
theorem dX5_figure_14 : decode cX5_figure 14 = .ok (.getfield 112, 3) := by decide +kernel
theorem dX5_figure_17 : decode cX5_figure 17 = .ok (.iconst 1, 1) := by decide +kernel
theorem dX5_figure_18 : decode cX5_figure 18 = .ok (.iadd, 1) := by decide +kernel
theorem dX5_figure_19 : decode cX5_figure 19 = .ok (.putfield 112, 3) := by decide +kernel
theorem dX5_figure_22 : decode cX5_figure 22 = .ok (.aload_n 0, 1) := by decide +kernel
theorem dX5_figure_23 : decode cX5_figure 23 = .ok (.getfield 34, 3) := by decide +kernel
theorem dX5_figure_26 : decode cX5_figure 26 = .ok (.aload_n 0, 1) := by decide +kernel
theorem dX5_figure_27 : decode cX5_figure 27 = .ok (.getfield 109, 3) := by decide +kernel
theorem dX5_figure_30 : decode cX5_figure 30 = .ok (.aload_n 0, 1) := by decide +kernel
theorem dX5_figure_31 : decode cX5_figure 31 = .ok (.getfield 112, 3) := by decide +kernel
theorem dX5_figure_34 : decode cX5_figure 34 = .ok (.iadd, 1) := by decide +kernel
theorem dX5_figure_35 : decode cX5_figure 35 = .ok (.iconst 1, 1) := by decide +kernel
theorem dX5_figure_36 : decode cX5_figure 36 = .ok (.isub, 1) := by decide +kernel
theorem dX5_figure_37 : decode cX5_figure 37 = .ok (.iaload, 1) := by decide +kernel
theorem dX5_figure_38 : decode cX5_figure 38 = .ok (.bipush 48, 2) := by decide +kernel
theorem dX5_figure_40 : decode cX5_figure 40 = .ok (.isub, 1) := by decide +kernel
theorem dX5_figure_41 : decode cX5_figure 41 = .ok (.ireturn, 1) := by decide +kernel
theorem dX5_readsPlay_0 : decode cX5_readsPlay 0 = .ok (.aload_n 0, 1) := by decide +kernel
theorem dX5_readsPlay_1 : decode cX5_readsPlay 1 = .ok (.invokevirtual 126, 3) := by decide +kernel
theorem dX5_readsPlay_4 : decode cX5_readsPlay 4 = .ok (.aload_n 0, 1) := by decide +kernel
theorem dX5_readsPlay_5 : decode cX5_readsPlay 5 = .ok (.getfield 112, 3) := by decide +kernel
theorem dX5_readsPlay_8 : decode cX5_readsPlay 8 = .ok (.aload_n 0, 1) := by decide +kernel
theorem dX5_readsPlay_9 : decode cX5_readsPlay 9 = .ok (.getfield 115, 3) := by decide +kernel
theorem dX5_readsPlay_12 : decode cX5_readsPlay 12 = .ok (.if_icmp .eq 12, 3) := by decide +kernel
theorem dX5_readsPlay_15 : decode cX5_readsPlay 15 = .ok (.aload_n 0, 1) := by decide +kernel
theorem dX5_readsPlay_16 : decode cX5_readsPlay 16 = .ok (.invokevirtual 118, 3) := by decide +kernel
theorem dX5_readsPlay_19 : decode cX5_readsPlay 19 = .ok (.bipush 97, 2) := by decide +kernel
theorem dX5_readsPlay_21 : decode cX5_readsPlay 21 = .ok (.if_icmp .eq 5, 3) := by decide +kernel
theorem dX5_readsPlay_24 : decode cX5_readsPlay 24 = .ok (.iconst 0, 1) := by decide +kernel
theorem dX5_readsPlay_25 : decode cX5_readsPlay 25 = .ok (.ireturn, 1) := by decide +kernel
theorem dX5_readsPlay_26 : decode cX5_readsPlay 26 = .ok (.aload_n 0, 1) := by decide +kernel
theorem dX5_readsPlay_27 : decode cX5_readsPlay 27 = .ok (.dup, 1) := by decide +kernel
theorem dX5_readsPlay_28 : decode cX5_readsPlay 28 = .ok (.getfield 112, 3) := by decide +kernel
theorem dX5_readsPlay_31 : decode cX5_readsPlay 31 = .ok (.iconst 1, 1) := by decide +kernel
theorem dX5_readsPlay_32 : decode cX5_readsPlay 32 = .ok (.iadd, 1) := by decide +kernel
theorem dX5_readsPlay_33 : decode cX5_readsPlay 33 = .ok (.putfield 112, 3) := by decide +kernel
theorem dX5_readsPlay_36 : decode cX5_readsPlay 36 = .ok (.aload_n 0, 1) := by decide +kernel
theorem dX5_readsPlay_37 : decode cX5_readsPlay 37 = .ok (.aload_n 0, 1) := by decide +kernel
theorem dX5_readsPlay_38 : decode cX5_readsPlay 38 = .ok (.iconst 0, 1) := by decide +kernel
theorem dX5_readsPlay_39 : decode cX5_readsPlay 39 = .ok (.bipush 9, 2) := by decide +kernel
theorem dX5_readsPlay_41 : decode cX5_readsPlay 41 = .ok (.invokevirtual 129, 3) := by decide +kernel
theorem dX5_readsPlay_44 : decode cX5_readsPlay 44 = .ok (.putfield 132, 3) := by decide +kernel
theorem dX5_readsPlay_47 : decode cX5_readsPlay 47 = .ok (.aload_n 0, 1) := by decide +kernel
theorem dX5_readsPlay_48 : decode cX5_readsPlay 48 = .ok (.getfield 132, 3) := by decide +kernel
theorem dX5_readsPlay_51 : decode cX5_readsPlay 51 = .ok (.bipush (-9), 2) := by decide +kernel
theorem dX5_readsPlay_53 : decode cX5_readsPlay 53 = .ok (.if_icmp .ne 5, 3) := by decide +kernel
theorem dX5_readsPlay_56 : decode cX5_readsPlay 56 = .ok (.iconst 0, 1) := by decide +kernel
theorem dX5_readsPlay_57 : decode cX5_readsPlay 57 = .ok (.ireturn, 1) := by decide +kernel
theorem dX5_readsPlay_58 : decode cX5_readsPlay 58 = .ok (.aload_n 0, 1) := by decide +kernel
theorem dX5_readsPlay_59 : decode cX5_readsPlay 59 = .ok (.iconst 1, 1) := by decide +kernel
theorem dX5_readsPlay_60 : decode cX5_readsPlay 60 = .ok (.bipush 9, 2) := by decide +kernel
theorem dX5_readsPlay_62 : decode cX5_readsPlay 62 = .ok (.invokevirtual 122, 3) := by decide +kernel
theorem dX5_readsPlay_65 : decode cX5_readsPlay 65 = .ok (.ifCond .eq 43, 3) := by decide +kernel
theorem dX5_readsPlay_68 : decode cX5_readsPlay 68 = .ok (.aload_n 0, 1) := by decide +kernel
theorem dX5_readsPlay_69 : decode cX5_readsPlay 69 = .ok (.getfield 135, 3) := by decide +kernel
theorem dX5_readsPlay_72 : decode cX5_readsPlay 72 = .ok (.bipush 6, 2) := by decide +kernel
theorem dX5_readsPlay_74 : decode cX5_readsPlay 74 = .ok (.if_icmp .ne 5, 3) := by decide +kernel
theorem dX5_readsPlay_77 : decode cX5_readsPlay 77 = .ok (.iconst 0, 1) := by decide +kernel
theorem dX5_readsPlay_78 : decode cX5_readsPlay 78 = .ok (.ireturn, 1) := by decide +kernel
theorem dX5_readsPlay_79 : decode cX5_readsPlay 79 = .ok (.aload_n 0, 1) := by decide +kernel
theorem dX5_readsPlay_80 : decode cX5_readsPlay 80 = .ok (.getfield 44, 3) := by decide +kernel
theorem dX5_readsPlay_83 : decode cX5_readsPlay 83 = .ok (.aload_n 0, 1) := by decide +kernel
theorem dX5_readsPlay_84 : decode cX5_readsPlay 84 = .ok (.getfield 135, 3) := by decide +kernel
theorem dX5_readsPlay_87 : decode cX5_readsPlay 87 = .ok (.aload_n 0, 1) := by decide +kernel
theorem dX5_readsPlay_88 : decode cX5_readsPlay 88 = .ok (.iconst 1, 1) := by decide +kernel
theorem dX5_readsPlay_89 : decode cX5_readsPlay 89 = .ok (.bipush 9, 2) := by decide +kernel
theorem dX5_readsPlay_91 : decode cX5_readsPlay 91 = .ok (.invokevirtual 129, 3) := by decide +kernel
theorem dX5_readsPlay_94 : decode cX5_readsPlay 94 = .ok (.iastore, 1) := by decide +kernel
theorem dX5_readsPlay_95 : decode cX5_readsPlay 95 = .ok (.aload_n 0, 1) := by decide +kernel
theorem dX5_readsPlay_96 : decode cX5_readsPlay 96 = .ok (.dup, 1) := by decide +kernel
theorem dX5_readsPlay_97 : decode cX5_readsPlay 97 = .ok (.getfield 135, 3) := by decide +kernel
theorem dX5_readsPlay_100 : decode cX5_readsPlay 100 = .ok (.iconst 1, 1) := by decide +kernel
theorem dX5_readsPlay_101 : decode cX5_readsPlay 101 = .ok (.iadd, 1) := by decide +kernel
theorem dX5_readsPlay_102 : decode cX5_readsPlay 102 = .ok (.putfield 135, 3) := by decide +kernel
theorem dX5_readsPlay_105 : decode cX5_readsPlay 105 = .ok (.goto (-47), 3) := by decide +kernel
theorem dX5_readsPlay_108 : decode cX5_readsPlay 108 = .ok (.aload_n 0, 1) := by decide +kernel
theorem dX5_readsPlay_109 : decode cX5_readsPlay 109 = .ok (.getfield 135, 3) := by decide +kernel
theorem dX5_readsPlay_112 : decode cX5_readsPlay 112 = .ok (.ifCond .le 7, 3) := by decide +kernel
theorem dX5_readsPlay_115 : decode cX5_readsPlay 115 = .ok (.iconst 1, 1) := by decide +kernel
theorem dX5_readsPlay_116 : decode cX5_readsPlay 116 = .ok (.goto 4, 3) := by decide +kernel
theorem dX5_readsPlay_119 : decode cX5_readsPlay 119 = .ok (.iconst 0, 1) := by decide +kernel
theorem dX5_readsPlay_120 : decode cX5_readsPlay 120 = .ok (.ireturn, 1) := by decide +kernel
theorem dX5_kindOfLetter_0 : decode cX5_kindOfLetter 0 = .ok (.iload_n 0, 1) := by decide +kernel
theorem dX5_kindOfLetter_1 : decode cX5_kindOfLetter 1 = .ok (.bipush 115, 2) := by decide +kernel
theorem dX5_kindOfLetter_3 : decode cX5_kindOfLetter 3 = .ok (.if_icmp .ne 7, 3) := by decide +kernel
theorem dX5_kindOfLetter_6 : decode cX5_kindOfLetter 6 = .ok (.iconst 0, 1) := by decide +kernel
theorem dX5_kindOfLetter_7 : decode cX5_kindOfLetter 7 = .ok (.goto 55, 3) := by decide +kernel
theorem dX5_kindOfLetter_10 : decode cX5_kindOfLetter 10 = .ok (.iload_n 0, 1) := by decide +kernel
theorem dX5_kindOfLetter_11 : decode cX5_kindOfLetter 11 = .ok (.bipush 99, 2) := by decide +kernel
theorem dX5_kindOfLetter_13 : decode cX5_kindOfLetter 13 = .ok (.if_icmp .ne 7, 3) := by decide +kernel
theorem dX5_kindOfLetter_16 : decode cX5_kindOfLetter 16 = .ok (.iconst 1, 1) := by decide +kernel
theorem dX5_kindOfLetter_17 : decode cX5_kindOfLetter 17 = .ok (.goto 45, 3) := by decide +kernel
theorem dX5_kindOfLetter_20 : decode cX5_kindOfLetter 20 = .ok (.iload_n 0, 1) := by decide +kernel
theorem dX5_kindOfLetter_21 : decode cX5_kindOfLetter 21 = .ok (.bipush 107, 2) := by decide +kernel
theorem dX5_kindOfLetter_23 : decode cX5_kindOfLetter 23 = .ok (.if_icmp .ne 7, 3) := by decide +kernel
theorem dX5_kindOfLetter_26 : decode cX5_kindOfLetter 26 = .ok (.iconst 2, 1) := by decide +kernel
theorem dX5_kindOfLetter_27 : decode cX5_kindOfLetter 27 = .ok (.goto 35, 3) := by decide +kernel
theorem dX5_kindOfLetter_30 : decode cX5_kindOfLetter 30 = .ok (.iload_n 0, 1) := by decide +kernel
theorem dX5_kindOfLetter_31 : decode cX5_kindOfLetter 31 = .ok (.bipush 117, 2) := by decide +kernel
theorem dX5_kindOfLetter_33 : decode cX5_kindOfLetter 33 = .ok (.if_icmp .ne 7, 3) := by decide +kernel
theorem dX5_kindOfLetter_36 : decode cX5_kindOfLetter 36 = .ok (.iconst 3, 1) := by decide +kernel
theorem dX5_kindOfLetter_37 : decode cX5_kindOfLetter 37 = .ok (.goto 25, 3) := by decide +kernel
theorem dX5_kindOfLetter_40 : decode cX5_kindOfLetter 40 = .ok (.iload_n 0, 1) := by decide +kernel
theorem dX5_kindOfLetter_41 : decode cX5_kindOfLetter 41 = .ok (.bipush 119, 2) := by decide +kernel
theorem dX5_kindOfLetter_43 : decode cX5_kindOfLetter 43 = .ok (.if_icmp .ne 7, 3) := by decide +kernel
theorem dX5_kindOfLetter_46 : decode cX5_kindOfLetter 46 = .ok (.iconst 4, 1) := by decide +kernel
theorem dX5_kindOfLetter_47 : decode cX5_kindOfLetter 47 = .ok (.goto 15, 3) := by decide +kernel
theorem dX5_kindOfLetter_50 : decode cX5_kindOfLetter 50 = .ok (.iload_n 0, 1) := by decide +kernel
theorem dX5_kindOfLetter_51 : decode cX5_kindOfLetter 51 = .ok (.bipush 113, 2) := by decide +kernel
theorem dX5_kindOfLetter_53 : decode cX5_kindOfLetter 53 = .ok (.if_icmp .ne 7, 3) := by decide +kernel
theorem dX5_kindOfLetter_56 : decode cX5_kindOfLetter 56 = .ok (.iconst 5, 1) := by decide +kernel
theorem dX5_kindOfLetter_57 : decode cX5_kindOfLetter 57 = .ok (.goto 5, 3) := by decide +kernel
theorem dX5_kindOfLetter_60 : decode cX5_kindOfLetter 60 = .ok (.bipush (-9), 2) := by decide +kernel
theorem dX5_kindOfLetter_62 : decode cX5_kindOfLetter 62 = .ok (.ireturn, 1) := by decide +kernel
theorem dX5_readsSitter_0 : decode cX5_readsSitter 0 = .ok (.aload_n 0, 1) := by decide +kernel
theorem dX5_readsSitter_1 : decode cX5_readsSitter 1 = .ok (.invokevirtual 118, 3) := by decide +kernel
theorem dX5_readsSitter_4 : decode cX5_readsSitter 4 = .ok (.invokestatic 138, 3) := by decide +kernel
theorem dX5_readsSitter_7 : decode cX5_readsSitter 7 = .ok (.istore_n 1, 1) := by decide +kernel
theorem dX5_readsSitter_8 : decode cX5_readsSitter 8 = .ok (.iload_n 1, 1) := by decide +kernel
theorem dX5_readsSitter_9 : decode cX5_readsSitter 9 = .ok (.bipush (-9), 2) := by decide +kernel
theorem dX5_readsSitter_11 : decode cX5_readsSitter 11 = .ok (.if_icmp .eq 12, 3) := by decide +kernel
theorem dX5_readsSitter_14 : decode cX5_readsSitter 14 = .ok (.aload_n 0, 1) := by decide +kernel
theorem dX5_readsSitter_15 : decode cX5_readsSitter 15 = .ok (.getfield 141, 3) := by decide +kernel
theorem dX5_readsSitter_18 : decode cX5_readsSitter 18 = .ok (.bipush 6, 2) := by decide +kernel
theorem dX5_readsSitter_20 : decode cX5_readsSitter 20 = .ok (.if_icmp .ne 5, 3) := by decide +kernel
theorem dX5_readsSitter_23 : decode cX5_readsSitter 23 = .ok (.iconst 0, 1) := by decide +kernel
theorem dX5_readsSitter_24 : decode cX5_readsSitter 24 = .ok (.ireturn, 1) := by decide +kernel
theorem dX5_readsSitter_25 : decode cX5_readsSitter 25 = .ok (.aload_n 0, 1) := by decide +kernel
theorem dX5_readsSitter_26 : decode cX5_readsSitter 26 = .ok (.dup, 1) := by decide +kernel
theorem dX5_readsSitter_27 : decode cX5_readsSitter 27 = .ok (.getfield 112, 3) := by decide +kernel
theorem dX5_readsSitter_30 : decode cX5_readsSitter 30 = .ok (.iconst 1, 1) := by decide +kernel
theorem dX5_readsSitter_31 : decode cX5_readsSitter 31 = .ok (.iadd, 1) := by decide +kernel
theorem dX5_readsSitter_32 : decode cX5_readsSitter 32 = .ok (.putfield 112, 3) := by decide +kernel
theorem dX5_readsSitter_35 : decode cX5_readsSitter 35 = .ok (.aload_n 0, 1) := by decide +kernel
theorem dX5_readsSitter_36 : decode cX5_readsSitter 36 = .ok (.iconst 0, 1) := by decide +kernel
theorem dX5_readsSitter_37 : decode cX5_readsSitter 37 = .ok (.bipush 9, 2) := by decide +kernel
theorem dX5_readsSitter_39 : decode cX5_readsSitter 39 = .ok (.invokevirtual 129, 3) := by decide +kernel
theorem dX5_readsSitter_42 : decode cX5_readsSitter 42 = .ok (.istore_n 2, 1) := by decide +kernel
theorem dX5_readsSitter_43 : decode cX5_readsSitter 43 = .ok (.iload_n 2, 1) := by decide +kernel
theorem dX5_readsSitter_44 : decode cX5_readsSitter 44 = .ok (.bipush (-9), 2) := by decide +kernel
theorem dX5_readsSitter_46 : decode cX5_readsSitter 46 = .ok (.if_icmp .eq 26, 3) := by decide +kernel
theorem dX5_readsSitter_49 : decode cX5_readsSitter 49 = .ok (.aload_n 0, 1) := by decide +kernel
theorem dX5_readsSitter_50 : decode cX5_readsSitter 50 = .ok (.getfield 144, 3) := by decide +kernel
theorem dX5_readsSitter_53 : decode cX5_readsSitter 53 = .ok (.iload_n 2, 1) := by decide +kernel
theorem dX5_readsSitter_54 : decode cX5_readsSitter 54 = .ok (.invokestatic 147, 3) := by decide +kernel
theorem dX5_readsSitter_57 : decode cX5_readsSitter 57 = .ok (.ifCond .eq 15, 3) := by decide +kernel
theorem dX5_readsSitter_60 : decode cX5_readsSitter 60 = .ok (.aload_n 0, 1) := by decide +kernel
theorem dX5_readsSitter_61 : decode cX5_readsSitter 61 = .ok (.dup, 1) := by decide +kernel
theorem dX5_readsSitter_62 : decode cX5_readsSitter 62 = .ok (.getfield 112, 3) := by decide +kernel
theorem dX5_readsSitter_65 : decode cX5_readsSitter 65 = .ok (.iconst 1, 1) := by decide +kernel
theorem dX5_readsSitter_66 : decode cX5_readsSitter 66 = .ok (.isub, 1) := by decide +kernel
theorem dX5_readsSitter_67 : decode cX5_readsSitter 67 = .ok (.putfield 112, 3) := by decide +kernel
theorem dX5_readsSitter_70 : decode cX5_readsSitter 70 = .ok (.iconst 0, 1) := by decide +kernel
theorem dX5_readsSitter_71 : decode cX5_readsSitter 71 = .ok (.ireturn, 1) := by decide +kernel
theorem dX5_readsSitter_72 : decode cX5_readsSitter 72 = .ok (.iload_n 2, 1) := by decide +kernel
theorem dX5_readsSitter_73 : decode cX5_readsSitter 73 = .ok (.bipush (-9), 2) := by decide +kernel
theorem dX5_readsSitter_75 : decode cX5_readsSitter 75 = .ok (.if_icmp .ne 8, 3) := by decide +kernel
theorem dX5_readsSitter_78 : decode cX5_readsSitter 78 = .ok (.bipush (-9), 2) := by decide +kernel
theorem dX5_readsSitter_80 : decode cX5_readsSitter 80 = .ok (.goto 10, 3) := by decide +kernel
theorem dX5_readsSitter_83 : decode cX5_readsSitter 83 = .ok (.aload_n 0, 1) := by decide +kernel
theorem dX5_readsSitter_84 : decode cX5_readsSitter 84 = .ok (.iconst 0, 1) := by decide +kernel
theorem dX5_readsSitter_85 : decode cX5_readsSitter 85 = .ok (.bipush 9, 2) := by decide +kernel
theorem dX5_readsSitter_87 : decode cX5_readsSitter 87 = .ok (.invokevirtual 129, 3) := by decide +kernel
theorem dX5_readsSitter_90 : decode cX5_readsSitter 90 = .ok (.istore_n 3, 1) := by decide +kernel
theorem dX5_readsSitter_91 : decode cX5_readsSitter 91 = .ok (.iload_n 3, 1) := by decide +kernel
theorem dX5_readsSitter_92 : decode cX5_readsSitter 92 = .ok (.bipush (-9), 2) := by decide +kernel
theorem dX5_readsSitter_94 : decode cX5_readsSitter 94 = .ok (.if_icmp .ne 8, 3) := by decide +kernel
theorem dX5_readsSitter_97 : decode cX5_readsSitter 97 = .ok (.bipush (-9), 2) := by decide +kernel
theorem dX5_readsSitter_99 : decode cX5_readsSitter 99 = .ok (.goto 10, 3) := by decide +kernel
theorem dX5_readsSitter_102 : decode cX5_readsSitter 102 = .ok (.aload_n 0, 1) := by decide +kernel
theorem dX5_readsSitter_103 : decode cX5_readsSitter 103 = .ok (.iconst 0, 1) := by decide +kernel
theorem dX5_readsSitter_104 : decode cX5_readsSitter 104 = .ok (.bipush 9, 2) := by decide +kernel
theorem dX5_readsSitter_106 : decode cX5_readsSitter 106 = .ok (.invokevirtual 129, 3) := by decide +kernel
theorem dX5_readsSitter_109 : decode cX5_readsSitter 109 = .ok (.istore 4, 2) := by decide +kernel
theorem dX5_readsSitter_111 : decode cX5_readsSitter 111 = .ok (.iload 4, 2) := by decide +kernel
theorem dX5_readsSitter_113 : decode cX5_readsSitter 113 = .ok (.bipush (-9), 2) := by decide +kernel
theorem dX5_readsSitter_115 : decode cX5_readsSitter 115 = .ok (.if_icmp .ne 5, 3) := by decide +kernel
theorem dX5_readsSitter_118 : decode cX5_readsSitter 118 = .ok (.iconst 0, 1) := by decide +kernel
theorem dX5_readsSitter_119 : decode cX5_readsSitter 119 = .ok (.ireturn, 1) := by decide +kernel
theorem dX5_readsSitter_120 : decode cX5_readsSitter 120 = .ok (.iconst 4, 1) := by decide +kernel
theorem dX5_readsSitter_121 : decode cX5_readsSitter 121 = .ok (.aload_n 0, 1) := by decide +kernel
theorem dX5_readsSitter_122 : decode cX5_readsSitter 122 = .ok (.getfield 141, 3) := by decide +kernel
theorem dX5_readsSitter_125 : decode cX5_readsSitter 125 = .ok (.imul, 1) := by decide +kernel
theorem dX5_readsSitter_126 : decode cX5_readsSitter 126 = .ok (.istore 5, 2) := by decide +kernel
theorem dX5_readsSitter_128 : decode cX5_readsSitter 128 = .ok (.aload_n 0, 1) := by decide +kernel
theorem dX5_readsSitter_129 : decode cX5_readsSitter 129 = .ok (.getfield 47, 3) := by decide +kernel
theorem dX5_readsSitter_132 : decode cX5_readsSitter 132 = .ok (.iload 5, 2) := by decide +kernel
theorem dX5_readsSitter_134 : decode cX5_readsSitter 134 = .ok (.iload_n 1, 1) := by decide +kernel
theorem dX5_readsSitter_135 : decode cX5_readsSitter 135 = .ok (.iastore, 1) := by decide +kernel
theorem dX5_readsSitter_136 : decode cX5_readsSitter 136 = .ok (.aload_n 0, 1) := by decide +kernel
theorem dX5_readsSitter_137 : decode cX5_readsSitter 137 = .ok (.getfield 47, 3) := by decide +kernel
theorem dX5_readsSitter_140 : decode cX5_readsSitter 140 = .ok (.iload 5, 2) := by decide +kernel
theorem dX5_readsSitter_142 : decode cX5_readsSitter 142 = .ok (.iconst 1, 1) := by decide +kernel
theorem dX5_readsSitter_143 : decode cX5_readsSitter 143 = .ok (.iadd, 1) := by decide +kernel
theorem dX5_readsSitter_144 : decode cX5_readsSitter 144 = .ok (.iload_n 2, 1) := by decide +kernel
theorem dX5_readsSitter_145 : decode cX5_readsSitter 145 = .ok (.iastore, 1) := by decide +kernel
theorem dX5_readsSitter_146 : decode cX5_readsSitter 146 = .ok (.aload_n 0, 1) := by decide +kernel
theorem dX5_readsSitter_147 : decode cX5_readsSitter 147 = .ok (.getfield 47, 3) := by decide +kernel
theorem dX5_readsSitter_150 : decode cX5_readsSitter 150 = .ok (.iload 5, 2) := by decide +kernel
theorem dX5_readsSitter_152 : decode cX5_readsSitter 152 = .ok (.iconst 2, 1) := by decide +kernel
theorem dX5_readsSitter_153 : decode cX5_readsSitter 153 = .ok (.iadd, 1) := by decide +kernel
theorem dX5_readsSitter_154 : decode cX5_readsSitter 154 = .ok (.iload_n 3, 1) := by decide +kernel
theorem dX5_readsSitter_155 : decode cX5_readsSitter 155 = .ok (.iastore, 1) := by decide +kernel
theorem dX5_readsSitter_156 : decode cX5_readsSitter 156 = .ok (.aload_n 0, 1) := by decide +kernel
theorem dX5_readsSitter_157 : decode cX5_readsSitter 157 = .ok (.getfield 47, 3) := by decide +kernel
theorem dX5_readsSitter_160 : decode cX5_readsSitter 160 = .ok (.iload 5, 2) := by decide +kernel
theorem dX5_readsSitter_162 : decode cX5_readsSitter 162 = .ok (.iconst 3, 1) := by decide +kernel
theorem dX5_readsSitter_163 : decode cX5_readsSitter 163 = .ok (.iadd, 1) := by decide +kernel
theorem dX5_readsSitter_164 : decode cX5_readsSitter 164 = .ok (.iload 4, 2) := by decide +kernel
theorem dX5_readsSitter_166 : decode cX5_readsSitter 166 = .ok (.iastore, 1) := by decide +kernel
theorem dX5_readsSitter_167 : decode cX5_readsSitter 167 = .ok (.aload_n 0, 1) := by decide +kernel
theorem dX5_readsSitter_168 : decode cX5_readsSitter 168 = .ok (.dup, 1) := by decide +kernel
theorem dX5_readsSitter_169 : decode cX5_readsSitter 169 = .ok (.getfield 144, 3) := by decide +kernel
theorem dX5_readsSitter_172 : decode cX5_readsSitter 172 = .ok (.iconst 1, 1) := by decide +kernel
theorem dX5_readsSitter_173 : decode cX5_readsSitter 173 = .ok (.iload_n 2, 1) := by decide +kernel
theorem dX5_readsSitter_174 : decode cX5_readsSitter 174 = .ok (.ishl, 1) := by decide +kernel
theorem dX5_readsSitter_175 : decode cX5_readsSitter 175 = .ok (.ior, 1) := by decide +kernel
theorem dX5_readsSitter_176 : decode cX5_readsSitter 176 = .ok (.putfield 144, 3) := by decide +kernel
theorem dX5_readsSitter_179 : decode cX5_readsSitter 179 = .ok (.aload_n 0, 1) := by decide +kernel
theorem dX5_readsSitter_180 : decode cX5_readsSitter 180 = .ok (.dup, 1) := by decide +kernel
theorem dX5_readsSitter_181 : decode cX5_readsSitter 181 = .ok (.getfield 141, 3) := by decide +kernel
theorem dX5_readsSitter_184 : decode cX5_readsSitter 184 = .ok (.iconst 1, 1) := by decide +kernel
theorem dX5_readsSitter_185 : decode cX5_readsSitter 185 = .ok (.iadd, 1) := by decide +kernel
theorem dX5_readsSitter_186 : decode cX5_readsSitter 186 = .ok (.putfield 141, 3) := by decide +kernel
theorem dX5_readsSitter_189 : decode cX5_readsSitter 189 = .ok (.iconst 1, 1) := by decide +kernel
theorem dX5_readsSitter_190 : decode cX5_readsSitter 190 = .ok (.ireturn, 1) := by decide +kernel
theorem dX5_faultOf_0 : decode cX5_faultOf 0 = .ok (.aload_n 0, 1) := by decide +kernel
theorem dX5_faultOf_1 : decode cX5_faultOf 1 = .ok (.bipush 60, 2) := by decide +kernel
theorem dX5_faultOf_3 : decode cX5_faultOf 3 = .ok (.iload_n 1, 1) := by decide +kernel
theorem dX5_faultOf_4 : decode cX5_faultOf 4 = .ok (.imul, 1) := by decide +kernel
theorem dX5_faultOf_5 : decode cX5_faultOf 5 = .ok (.putfield 109, 3) := by decide +kernel
theorem dX5_faultOf_8 : decode cX5_faultOf 8 = .ok (.aload_n 0, 1) := by decide +kernel
theorem dX5_faultOf_9 : decode cX5_faultOf 9 = .ok (.iconst 0, 1) := by decide +kernel
theorem dX5_faultOf_10 : decode cX5_faultOf 10 = .ok (.putfield 112, 3) := by decide +kernel
theorem dX5_faultOf_13 : decode cX5_faultOf 13 = .ok (.aload_n 0, 1) := by decide +kernel
theorem dX5_faultOf_14 : decode cX5_faultOf 14 = .ok (.aload_n 0, 1) := by decide +kernel
theorem dX5_faultOf_15 : decode cX5_faultOf 15 = .ok (.getfield 31, 3) := by decide +kernel
theorem dX5_faultOf_18 : decode cX5_faultOf 18 = .ok (.iload_n 1, 1) := by decide +kernel
theorem dX5_faultOf_19 : decode cX5_faultOf 19 = .ok (.iaload, 1) := by decide +kernel
theorem dX5_faultOf_20 : decode cX5_faultOf 20 = .ok (.putfield 115, 3) := by decide +kernel
theorem dX5_faultOf_23 : decode cX5_faultOf 23 = .ok (.aload_n 0, 1) := by decide +kernel
theorem dX5_faultOf_24 : decode cX5_faultOf 24 = .ok (.iconst 0, 1) := by decide +kernel
theorem dX5_faultOf_25 : decode cX5_faultOf 25 = .ok (.putfield 135, 3) := by decide +kernel
theorem dX5_faultOf_28 : decode cX5_faultOf 28 = .ok (.aload_n 0, 1) := by decide +kernel
theorem dX5_faultOf_29 : decode cX5_faultOf 29 = .ok (.iconst 0, 1) := by decide +kernel
theorem dX5_faultOf_30 : decode cX5_faultOf 30 = .ok (.putfield 141, 3) := by decide +kernel
theorem dX5_faultOf_33 : decode cX5_faultOf 33 = .ok (.aload_n 0, 1) := by decide +kernel
theorem dX5_faultOf_34 : decode cX5_faultOf 34 = .ok (.iconst 0, 1) := by decide +kernel
theorem dX5_faultOf_35 : decode cX5_faultOf 35 = .ok (.putfield 144, 3) := by decide +kernel
theorem dX5_faultOf_38 : decode cX5_faultOf 38 = .ok (.aload_n 0, 1) := by decide +kernel
theorem dX5_faultOf_39 : decode cX5_faultOf 39 = .ok (.invokevirtual 150, 3) := by decide +kernel
theorem dX5_faultOf_42 : decode cX5_faultOf 42 = .ok (.istore_n 2, 1) := by decide +kernel
theorem dX5_faultOf_43 : decode cX5_faultOf 43 = .ok (.iload_n 2, 1) := by decide +kernel
theorem dX5_faultOf_44 : decode cX5_faultOf 44 = .ok (.ifCond .eq 7, 3) := by decide +kernel
theorem dX5_faultOf_47 : decode cX5_faultOf 47 = .ok (.aload_n 0, 1) := by decide +kernel
theorem dX5_faultOf_48 : decode cX5_faultOf 48 = .ok (.invokevirtual 126, 3) := by decide +kernel
theorem dX5_faultOf_51 : decode cX5_faultOf 51 = .ok (.iload_n 2, 1) := by decide +kernel
theorem dX5_faultOf_52 : decode cX5_faultOf 52 = .ok (.ifCond .eq 30, 3) := by decide +kernel
theorem dX5_faultOf_55 : decode cX5_faultOf 55 = .ok (.aload_n 0, 1) := by decide +kernel
theorem dX5_faultOf_56 : decode cX5_faultOf 56 = .ok (.getfield 112, 3) := by decide +kernel
theorem dX5_faultOf_59 : decode cX5_faultOf 59 = .ok (.aload_n 0, 1) := by decide +kernel
theorem dX5_faultOf_60 : decode cX5_faultOf 60 = .ok (.getfield 115, 3) := by decide +kernel
theorem dX5_faultOf_63 : decode cX5_faultOf 63 = .ok (.if_icmp .ge 19, 3) := by decide +kernel
theorem dX5_faultOf_66 : decode cX5_faultOf 66 = .ok (.aload_n 0, 1) := by decide +kernel
theorem dX5_faultOf_67 : decode cX5_faultOf 67 = .ok (.invokevirtual 154, 3) := by decide +kernel
theorem dX5_faultOf_70 : decode cX5_faultOf 70 = .ok (.istore_n 2, 1) := by decide +kernel
theorem dX5_faultOf_71 : decode cX5_faultOf 71 = .ok (.iload_n 2, 1) := by decide +kernel
theorem dX5_faultOf_72 : decode cX5_faultOf 72 = .ok (.ifCond .eq (-21), 3) := by decide +kernel
theorem dX5_faultOf_75 : decode cX5_faultOf 75 = .ok (.aload_n 0, 1) := by decide +kernel
theorem dX5_faultOf_76 : decode cX5_faultOf 76 = .ok (.invokevirtual 126, 3) := by decide +kernel
theorem dX5_faultOf_79 : decode cX5_faultOf 79 = .ok (.goto (-28), 3) := by decide +kernel
theorem dX5_faultOf_82 : decode cX5_faultOf 82 = .ok (.iload_n 2, 1) := by decide +kernel
theorem dX5_faultOf_83 : decode cX5_faultOf 83 = .ok (.ifCond .eq 15, 3) := by decide +kernel
theorem dX5_faultOf_86 : decode cX5_faultOf 86 = .ok (.aload_n 0, 1) := by decide +kernel
theorem dX5_faultOf_87 : decode cX5_faultOf 87 = .ok (.getfield 141, 3) := by decide +kernel
theorem dX5_faultOf_90 : decode cX5_faultOf 90 = .ok (.ifCond .le 8, 3) := by decide +kernel
theorem dX5_faultOf_93 : decode cX5_faultOf 93 = .ok (.bipush (-9), 2) := by decide +kernel
theorem dX5_faultOf_95 : decode cX5_faultOf 95 = .ok (.goto 7, 3) := by decide +kernel
theorem dX5_faultOf_98 : decode cX5_faultOf 98 = .ok (.aload_n 0, 1) := by decide +kernel
theorem dX5_faultOf_99 : decode cX5_faultOf 99 = .ok (.getfield 112, 3) := by decide +kernel
theorem dX5_faultOf_102 : decode cX5_faultOf 102 = .ok (.ireturn, 1) := by decide +kernel
theorem dX5_fault_0 : decode cX5_fault 0 = .ok (.iload_n 1, 1) := by decide +kernel
theorem dX5_fault_1 : decode cX5_fault 1 = .ok (.invokestatic 106, 3) := by decide +kernel
theorem dX5_fault_4 : decode cX5_fault 4 = .ok (.ifCond .ne 5, 3) := by decide +kernel
theorem dX5_fault_7 : decode cX5_fault 7 = .ok (.iconst (-1), 1) := by decide +kernel
theorem dX5_fault_8 : decode cX5_fault 8 = .ok (.ireturn, 1) := by decide +kernel
theorem dX5_fault_9 : decode cX5_fault 9 = .ok (.aload_n 0, 1) := by decide +kernel
theorem dX5_fault_10 : decode cX5_fault 10 = .ok (.getfield 31, 3) := by decide +kernel
theorem dX5_fault_13 : decode cX5_fault 13 = .ok (.iload_n 1, 1) := by decide +kernel
theorem dX5_fault_14 : decode cX5_fault 14 = .ok (.iaload, 1) := by decide +kernel
theorem dX5_fault_15 : decode cX5_fault 15 = .ok (.ifCond .ge 11, 3) := by decide +kernel
theorem dX5_fault_18 : decode cX5_fault 18 = .ok (.aload_n 0, 1) := by decide +kernel
theorem dX5_fault_19 : decode cX5_fault 19 = .ok (.iconst 1, 1) := by decide +kernel
theorem dX5_fault_20 : decode cX5_fault 20 = .ok (.invokevirtual 87, 3) := by decide +kernel
theorem dX5_fault_23 : decode cX5_fault 23 = .ok (.goto 8, 3) := by decide +kernel
theorem dX5_fault_26 : decode cX5_fault 26 = .ok (.aload_n 0, 1) := by decide +kernel
theorem dX5_fault_27 : decode cX5_fault 27 = .ok (.iload_n 1, 1) := by decide +kernel
theorem dX5_fault_28 : decode cX5_fault 28 = .ok (.invokevirtual 157, 3) := by decide +kernel
theorem dX5_fault_31 : decode cX5_fault 31 = .ok (.ireturn, 1) := by decide +kernel
theorem dX5_house_0 : decode cX5_house 0 = .ok (.iload_n 1, 1) := by decide +kernel
theorem dX5_house_1 : decode cX5_house 1 = .ok (.invokestatic 106, 3) := by decide +kernel
theorem dX5_house_4 : decode cX5_house 4 = .ok (.ifCond .ne 5, 3) := by decide +kernel
theorem dX5_house_7 : decode cX5_house 7 = .ok (.iconst (-1), 1) := by decide +kernel
theorem dX5_house_8 : decode cX5_house 8 = .ok (.ireturn, 1) := by decide +kernel
theorem dX5_house_9 : decode cX5_house 9 = .ok (.aload_n 0, 1) := by decide +kernel
theorem dX5_house_10 : decode cX5_house 10 = .ok (.getfield 31, 3) := by decide +kernel
theorem dX5_house_13 : decode cX5_house 13 = .ok (.iload_n 1, 1) := by decide +kernel
theorem dX5_house_14 : decode cX5_house 14 = .ok (.iaload, 1) := by decide +kernel
theorem dX5_house_15 : decode cX5_house 15 = .ok (.ifCond .ge 9, 3) := by decide +kernel
theorem dX5_house_18 : decode cX5_house 18 = .ok (.aload_n 0, 1) := by decide +kernel
theorem dX5_house_19 : decode cX5_house 19 = .ok (.iconst 1, 1) := by decide +kernel
theorem dX5_house_20 : decode cX5_house 20 = .ok (.invokevirtual 87, 3) := by decide +kernel
theorem dX5_house_23 : decode cX5_house 23 = .ok (.ireturn, 1) := by decide +kernel
theorem dX5_house_24 : decode cX5_house 24 = .ok (.aload_n 0, 1) := by decide +kernel
theorem dX5_house_25 : decode cX5_house 25 = .ok (.iload_n 1, 1) := by decide +kernel
theorem dX5_house_26 : decode cX5_house 26 = .ok (.invokevirtual 157, 3) := by decide +kernel
theorem dX5_house_29 : decode cX5_house 29 = .ok (.bipush (-9), 2) := by decide +kernel
theorem dX5_house_31 : decode cX5_house 31 = .ok (.if_icmp .eq 6, 3) := by decide +kernel
theorem dX5_house_34 : decode cX5_house 34 = .ok (.bipush (-4), 2) := by decide +kernel
theorem dX5_house_36 : decode cX5_house 36 = .ok (.ireturn, 1) := by decide +kernel
theorem dX5_house_37 : decode cX5_house 37 = .ok (.aload_n 0, 1) := by decide +kernel
theorem dX5_house_38 : decode cX5_house 38 = .ok (.aload_n 0, 1) := by decide +kernel
theorem dX5_house_39 : decode cX5_house 39 = .ok (.getfield 135, 3) := by decide +kernel
theorem dX5_house_42 : decode cX5_house 42 = .ok (.putfield 160, 3) := by decide +kernel
theorem dX5_house_45 : decode cX5_house 45 = .ok (.aload_n 0, 1) := by decide +kernel
theorem dX5_house_46 : decode cX5_house 46 = .ok (.aload_n 0, 1) := by decide +kernel
theorem dX5_house_47 : decode cX5_house 47 = .ok (.getfield 141, 3) := by decide +kernel
theorem dX5_house_50 : decode cX5_house 50 = .ok (.putfield 163, 3) := by decide +kernel
theorem dX5_house_53 : decode cX5_house 53 = .ok (.iconst 0, 1) := by decide +kernel
theorem dX5_house_54 : decode cX5_house 54 = .ok (.istore_n 2, 1) := by decide +kernel
theorem dX5_house_55 : decode cX5_house 55 = .ok (.iload_n 2, 1) := by decide +kernel
theorem dX5_house_56 : decode cX5_house 56 = .ok (.aload_n 0, 1) := by decide +kernel
theorem dX5_house_57 : decode cX5_house 57 = .ok (.getfield 160, 3) := by decide +kernel
theorem dX5_house_60 : decode cX5_house 60 = .ok (.if_icmp .ge 21, 3) := by decide +kernel
theorem dX5_house_63 : decode cX5_house 63 = .ok (.aload_n 0, 1) := by decide +kernel
theorem dX5_house_64 : decode cX5_house 64 = .ok (.getfield 13, 3) := by decide +kernel
theorem dX5_house_67 : decode cX5_house 67 = .ok (.iload_n 2, 1) := by decide +kernel
theorem dX5_house_68 : decode cX5_house 68 = .ok (.aload_n 0, 1) := by decide +kernel
theorem dX5_house_69 : decode cX5_house 69 = .ok (.getfield 44, 3) := by decide +kernel
theorem dX5_house_72 : decode cX5_house 72 = .ok (.iload_n 2, 1) := by decide +kernel
theorem dX5_house_73 : decode cX5_house 73 = .ok (.iaload, 1) := by decide +kernel
theorem dX5_house_74 : decode cX5_house 74 = .ok (.iastore, 1) := by decide +kernel
theorem dX5_house_75 : decode cX5_house 75 = .ok (.iinc 2 1, 3) := by decide +kernel
theorem dX5_house_78 : decode cX5_house 78 = .ok (.goto (-23), 3) := by decide +kernel
theorem dX5_house_81 : decode cX5_house 81 = .ok (.iconst 0, 1) := by decide +kernel
theorem dX5_house_82 : decode cX5_house 82 = .ok (.istore_n 2, 1) := by decide +kernel
theorem dX5_house_83 : decode cX5_house 83 = .ok (.iload_n 2, 1) := by decide +kernel
theorem dX5_house_84 : decode cX5_house 84 = .ok (.sipush 493, 3) := by decide +kernel
theorem dX5_house_87 : decode cX5_house 87 = .ok (.if_icmp .ge 16, 3) := by decide +kernel
theorem dX5_house_90 : decode cX5_house 90 = .ok (.aload_n 0, 1) := by decide +kernel
theorem dX5_house_91 : decode cX5_house 91 = .ok (.getfield 7, 3) := by decide +kernel
theorem dX5_house_94 : decode cX5_house 94 = .ok (.iload_n 2, 1) := by decide +kernel
theorem dX5_house_95 : decode cX5_house 95 = .ok (.iconst 0, 1) := by decide +kernel
theorem dX5_house_96 : decode cX5_house 96 = .ok (.iastore, 1) := by decide +kernel
theorem dX5_house_97 : decode cX5_house 97 = .ok (.iinc 2 1, 3) := by decide +kernel
theorem dX5_house_100 : decode cX5_house 100 = .ok (.goto (-17), 3) := by decide +kernel
theorem dX5_house_103 : decode cX5_house 103 = .ok (.aload_n 0, 1) := by decide +kernel
theorem dX5_house_104 : decode cX5_house 104 = .ok (.getfield 7, 3) := by decide +kernel
theorem dX5_house_107 : decode cX5_house 107 = .ok (.iconst 2, 1) := by decide +kernel
theorem dX5_house_108 : decode cX5_house 108 = .ok (.aload_n 0, 1) := by decide +kernel
theorem dX5_house_109 : decode cX5_house 109 = .ok (.getfield 132, 3) := by decide +kernel
theorem dX5_house_112 : decode cX5_house 112 = .ok (.iastore, 1) := by decide +kernel
theorem dX5_house_113 : decode cX5_house 113 = .ok (.iconst 0, 1) := by decide +kernel
theorem dX5_house_114 : decode cX5_house 114 = .ok (.istore_n 2, 1) := by decide +kernel
theorem dX5_house_115 : decode cX5_house 115 = .ok (.iload_n 2, 1) := by decide +kernel
theorem dX5_house_116 : decode cX5_house 116 = .ok (.aload_n 0, 1) := by decide +kernel
theorem dX5_house_117 : decode cX5_house 117 = .ok (.getfield 163, 3) := by decide +kernel
theorem dX5_house_120 : decode cX5_house 120 = .ok (.if_icmp .ge 74, 3) := by decide +kernel
theorem dX5_house_123 : decode cX5_house 123 = .ok (.aload_n 0, 1) := by decide +kernel
theorem dX5_house_124 : decode cX5_house 124 = .ok (.getfield 16, 3) := by decide +kernel
theorem dX5_house_127 : decode cX5_house 127 = .ok (.iload_n 2, 1) := by decide +kernel
theorem dX5_house_128 : decode cX5_house 128 = .ok (.aload_n 0, 1) := by decide +kernel
theorem dX5_house_129 : decode cX5_house 129 = .ok (.getfield 47, 3) := by decide +kernel
theorem dX5_house_132 : decode cX5_house 132 = .ok (.iconst 4, 1) := by decide +kernel
theorem dX5_house_133 : decode cX5_house 133 = .ok (.iload_n 2, 1) := by decide +kernel
theorem dX5_house_134 : decode cX5_house 134 = .ok (.imul, 1) := by decide +kernel
theorem dX5_house_135 : decode cX5_house 135 = .ok (.iaload, 1) := by decide +kernel
theorem dX5_house_136 : decode cX5_house 136 = .ok (.iastore, 1) := by decide +kernel
theorem dX5_house_137 : decode cX5_house 137 = .ok (.aload_n 0, 1) := by decide +kernel
theorem dX5_house_138 : decode cX5_house 138 = .ok (.getfield 7, 3) := by decide +kernel
theorem dX5_house_141 : decode cX5_house 141 = .ok (.bipush 7, 2) := by decide +kernel
theorem dX5_house_143 : decode cX5_house 143 = .ok (.iload_n 2, 1) := by decide +kernel
theorem dX5_house_144 : decode cX5_house 144 = .ok (.iadd, 1) := by decide +kernel
theorem dX5_house_145 : decode cX5_house 145 = .ok (.aload_n 0, 1) := by decide +kernel
theorem dX5_house_146 : decode cX5_house 146 = .ok (.getfield 47, 3) := by decide +kernel
theorem dX5_house_149 : decode cX5_house 149 = .ok (.iconst 4, 1) := by decide +kernel
theorem dX5_house_150 : decode cX5_house 150 = .ok (.iload_n 2, 1) := by decide +kernel
theorem dX5_house_151 : decode cX5_house 151 = .ok (.imul, 1) := by decide +kernel
theorem dX5_house_152 : decode cX5_house 152 = .ok (.iconst 1, 1) := by decide +kernel
theorem dX5_house_153 : decode cX5_house 153 = .ok (.iadd, 1) := by decide +kernel
theorem dX5_house_154 : decode cX5_house 154 = .ok (.iaload, 1) := by decide +kernel
theorem dX5_house_155 : decode cX5_house 155 = .ok (.iastore, 1) := by decide +kernel
theorem dX5_house_156 : decode cX5_house 156 = .ok (.aload_n 0, 1) := by decide +kernel
theorem dX5_house_157 : decode cX5_house 157 = .ok (.getfield 19, 3) := by decide +kernel
theorem dX5_house_160 : decode cX5_house 160 = .ok (.iload_n 2, 1) := by decide +kernel
theorem dX5_house_161 : decode cX5_house 161 = .ok (.aload_n 0, 1) := by decide +kernel
theorem dX5_house_162 : decode cX5_house 162 = .ok (.getfield 47, 3) := by decide +kernel
theorem dX5_house_165 : decode cX5_house 165 = .ok (.iconst 4, 1) := by decide +kernel
theorem dX5_house_166 : decode cX5_house 166 = .ok (.iload_n 2, 1) := by decide +kernel
theorem dX5_house_167 : decode cX5_house 167 = .ok (.imul, 1) := by decide +kernel
theorem dX5_house_168 : decode cX5_house 168 = .ok (.iconst 2, 1) := by decide +kernel
theorem dX5_house_169 : decode cX5_house 169 = .ok (.iadd, 1) := by decide +kernel
theorem dX5_house_170 : decode cX5_house 170 = .ok (.iaload, 1) := by decide +kernel
theorem dX5_house_171 : decode cX5_house 171 = .ok (.iastore, 1) := by decide +kernel
theorem dX5_house_172 : decode cX5_house 172 = .ok (.aload_n 0, 1) := by decide +kernel
theorem dX5_house_173 : decode cX5_house 173 = .ok (.getfield 22, 3) := by decide +kernel
theorem dX5_house_176 : decode cX5_house 176 = .ok (.iload_n 2, 1) := by decide +kernel
theorem dX5_house_177 : decode cX5_house 177 = .ok (.aload_n 0, 1) := by decide +kernel
theorem dX5_house_178 : decode cX5_house 178 = .ok (.getfield 47, 3) := by decide +kernel
theorem dX5_house_181 : decode cX5_house 181 = .ok (.iconst 4, 1) := by decide +kernel
theorem dX5_house_182 : decode cX5_house 182 = .ok (.iload_n 2, 1) := by decide +kernel
theorem dX5_house_183 : decode cX5_house 183 = .ok (.imul, 1) := by decide +kernel
theorem dX5_house_184 : decode cX5_house 184 = .ok (.iconst 3, 1) := by decide +kernel
theorem dX5_house_185 : decode cX5_house 185 = .ok (.iadd, 1) := by decide +kernel
theorem dX5_house_186 : decode cX5_house 186 = .ok (.iaload, 1) := by decide +kernel
theorem dX5_house_187 : decode cX5_house 187 = .ok (.iastore, 1) := by decide +kernel
theorem dX5_house_188 : decode cX5_house 188 = .ok (.iinc 2 1, 3) := by decide +kernel
theorem dX5_house_191 : decode cX5_house 191 = .ok (.goto (-76), 3) := by decide +kernel
theorem dX5_house_194 : decode cX5_house 194 = .ok (.iconst 1, 1) := by decide +kernel
theorem dX5_house_195 : decode cX5_house 195 = .ok (.istore_n 2, 1) := by decide +kernel
theorem dX5_house_196 : decode cX5_house 196 = .ok (.iload_n 2, 1) := by decide +kernel
theorem dX5_house_197 : decode cX5_house 197 = .ok (.iconst 4, 1) := by decide +kernel
theorem dX5_house_198 : decode cX5_house 198 = .ok (.if_icmp .ge 22, 3) := by decide +kernel
theorem dX5_house_201 : decode cX5_house 201 = .ok (.aload_n 0, 1) := by decide +kernel
theorem dX5_house_202 : decode cX5_house 202 = .ok (.getfield 7, 3) := by decide +kernel
theorem dX5_house_205 : decode cX5_house 205 = .ok (.sipush 493, 3) := by decide +kernel
theorem dX5_house_208 : decode cX5_house 208 = .ok (.iload_n 2, 1) := by decide +kernel
theorem dX5_house_209 : decode cX5_house 209 = .ok (.imul, 1) := by decide +kernel
theorem dX5_house_210 : decode cX5_house 210 = .ok (.iconst 0, 1) := by decide +kernel
theorem dX5_house_211 : decode cX5_house 211 = .ok (.iadd, 1) := by decide +kernel
theorem dX5_house_212 : decode cX5_house 212 = .ok (.iconst (-1), 1) := by decide +kernel
theorem dX5_house_213 : decode cX5_house 213 = .ok (.iastore, 1) := by decide +kernel
theorem dX5_house_214 : decode cX5_house 214 = .ok (.iinc 2 1, 3) := by decide +kernel
theorem dX5_house_217 : decode cX5_house 217 = .ok (.goto (-21), 3) := by decide +kernel
theorem dX5_house_220 : decode cX5_house 220 = .ok (.aload_n 0, 1) := by decide +kernel
theorem dX5_house_221 : decode cX5_house 221 = .ok (.getfield 163, 3) := by decide +kernel
theorem dX5_house_224 : decode cX5_house 224 = .ok (.ireturn, 1) := by decide +kernel
theorem dX5_isSitter_0 : decode cX5_isSitter 0 = .ok (.iload_n 1, 1) := by decide +kernel
theorem dX5_isSitter_1 : decode cX5_isSitter 1 = .ok (.i2l, 1) := by decide +kernel
theorem dX5_isSitter_2 : decode cX5_isSitter 2 = .ok (.lconst 0, 1) := by decide +kernel
theorem dX5_isSitter_3 : decode cX5_isSitter 3 = .ok (.aload_n 0, 1) := by decide +kernel
theorem dX5_isSitter_4 : decode cX5_isSitter 4 = .ok (.getfield 163, 3) := by decide +kernel
theorem dX5_isSitter_7 : decode cX5_isSitter 7 = .ok (.iconst 1, 1) := by decide +kernel
theorem dX5_isSitter_8 : decode cX5_isSitter 8 = .ok (.isub, 1) := by decide +kernel
theorem dX5_isSitter_9 : decode cX5_isSitter 9 = .ok (.i2l, 1) := by decide +kernel
theorem dX5_isSitter_10 : decode cX5_isSitter 10 = .ok (.invokestatic 77, 3) := by decide +kernel
theorem dX5_isSitter_13 : decode cX5_isSitter 13 = .ok (.ireturn, 1) := by decide +kernel
theorem dX5_isUncle_0 : decode cX5_isUncle 0 = .ok (.iload_n 0, 1) := by decide +kernel
theorem dX5_isUncle_1 : decode cX5_isUncle 1 = .ok (.iconst 3, 1) := by decide +kernel
theorem dX5_isUncle_2 : decode cX5_isUncle 2 = .ok (.if_icmp .eq 8, 3) := by decide +kernel
theorem dX5_isUncle_5 : decode cX5_isUncle 5 = .ok (.iload_n 0, 1) := by decide +kernel
theorem dX5_isUncle_6 : decode cX5_isUncle 6 = .ok (.iconst 5, 1) := by decide +kernel
theorem dX5_isUncle_7 : decode cX5_isUncle 7 = .ok (.if_icmp .ne 7, 3) := by decide +kernel
theorem dX5_isUncle_10 : decode cX5_isUncle 10 = .ok (.iconst 1, 1) := by decide +kernel
theorem dX5_isUncle_11 : decode cX5_isUncle 11 = .ok (.goto 4, 3) := by decide +kernel
theorem dX5_isUncle_14 : decode cX5_isUncle 14 = .ok (.iconst 0, 1) := by decide +kernel
theorem dX5_isUncle_15 : decode cX5_isUncle 15 = .ok (.ireturn, 1) := by decide +kernel
theorem dX5_isClerk_0 : decode cX5_isClerk 0 = .ok (.iload_n 0, 1) := by decide +kernel
theorem dX5_isClerk_1 : decode cX5_isClerk 1 = .ok (.iconst 1, 1) := by decide +kernel
theorem dX5_isClerk_2 : decode cX5_isClerk 2 = .ok (.if_icmp .eq 10, 3) := by decide +kernel
theorem dX5_isClerk_5 : decode cX5_isClerk 5 = .ok (.iload_n 0, 1) := by decide +kernel
theorem dX5_isClerk_6 : decode cX5_isClerk 6 = .ok (.invokestatic 166, 3) := by decide +kernel
theorem dX5_isClerk_9 : decode cX5_isClerk 9 = .ok (.ifCond .eq 7, 3) := by decide +kernel
theorem dX5_isClerk_12 : decode cX5_isClerk 12 = .ok (.iconst 1, 1) := by decide +kernel
theorem dX5_isClerk_13 : decode cX5_isClerk 13 = .ok (.goto 4, 3) := by decide +kernel
theorem dX5_isClerk_16 : decode cX5_isClerk 16 = .ok (.iconst 0, 1) := by decide +kernel
theorem dX5_isClerk_17 : decode cX5_isClerk 17 = .ok (.ireturn, 1) := by decide +kernel
theorem dX5_claques_0 : decode cX5_claques 0 = .ok (.iconst 0, 1) := by decide +kernel
theorem dX5_claques_1 : decode cX5_claques 1 = .ok (.istore_n 3, 1) := by decide +kernel
theorem dX5_claques_2 : decode cX5_claques 2 = .ok (.iconst 0, 1) := by decide +kernel
theorem dX5_claques_3 : decode cX5_claques 3 = .ok (.istore 4, 2) := by decide +kernel
theorem dX5_claques_5 : decode cX5_claques 5 = .ok (.iload 4, 2) := by decide +kernel
theorem dX5_claques_7 : decode cX5_claques 7 = .ok (.aload_n 0, 1) := by decide +kernel
theorem dX5_claques_8 : decode cX5_claques 8 = .ok (.getfield 163, 3) := by decide +kernel
theorem dX5_claques_11 : decode cX5_claques 11 = .ok (.if_icmp .ge 43, 3) := by decide +kernel
theorem dX5_claques_14 : decode cX5_claques 14 = .ok (.iload_n 3, 1) := by decide +kernel
theorem dX5_claques_15 : decode cX5_claques 15 = .ok (.iload 4, 2) := by decide +kernel
theorem dX5_claques_17 : decode cX5_claques 17 = .ok (.iload_n 1, 1) := by decide +kernel
theorem dX5_claques_18 : decode cX5_claques 18 = .ok (.if_icmp .eq 27, 3) := by decide +kernel
theorem dX5_claques_21 : decode cX5_claques 21 = .ok (.aload_n 0, 1) := by decide +kernel
theorem dX5_claques_22 : decode cX5_claques 22 = .ok (.getfield 16, 3) := by decide +kernel
theorem dX5_claques_25 : decode cX5_claques 25 = .ok (.iload 4, 2) := by decide +kernel
theorem dX5_claques_27 : decode cX5_claques 27 = .ok (.iaload, 1) := by decide +kernel
theorem dX5_claques_28 : decode cX5_claques 28 = .ok (.iconst 5, 1) := by decide +kernel
theorem dX5_claques_29 : decode cX5_claques 29 = .ok (.if_icmp .ne 16, 3) := by decide +kernel
theorem dX5_claques_32 : decode cX5_claques 32 = .ok (.iload_n 2, 1) := by decide +kernel
theorem dX5_claques_33 : decode cX5_claques 33 = .ok (.iload 4, 2) := by decide +kernel
theorem dX5_claques_35 : decode cX5_claques 35 = .ok (.invokestatic 147, 3) := by decide +kernel
theorem dX5_claques_38 : decode cX5_claques 38 = .ok (.ifCond .ne 7, 3) := by decide +kernel
theorem dX5_claques_41 : decode cX5_claques 41 = .ok (.iconst 1, 1) := by decide +kernel
theorem dX5_claques_42 : decode cX5_claques 42 = .ok (.goto 4, 3) := by decide +kernel
theorem dX5_claques_45 : decode cX5_claques 45 = .ok (.iconst 0, 1) := by decide +kernel
theorem dX5_claques_46 : decode cX5_claques 46 = .ok (.iadd, 1) := by decide +kernel
theorem dX5_claques_47 : decode cX5_claques 47 = .ok (.istore_n 3, 1) := by decide +kernel
theorem dX5_claques_48 : decode cX5_claques 48 = .ok (.iinc 4 1, 3) := by decide +kernel
theorem dX5_claques_51 : decode cX5_claques 51 = .ok (.goto (-46), 3) := by decide +kernel
theorem dX5_claques_54 : decode cX5_claques 54 = .ok (.iload_n 3, 1) := by decide +kernel
theorem dX5_claques_55 : decode cX5_claques 55 = .ok (.ireturn, 1) := by decide +kernel
theorem dX5_fearsBy_0 : decode cX5_fearsBy 0 = .ok (.iload_n 1, 1) := by decide +kernel
theorem dX5_fearsBy_1 : decode cX5_fearsBy 1 = .ok (.iload_n 2, 1) := by decide +kernel
theorem dX5_fearsBy_2 : decode cX5_fearsBy 2 = .ok (.isub, 1) := by decide +kernel
theorem dX5_fearsBy_3 : decode cX5_fearsBy 3 = .ok (.invokestatic 169, 3) := by decide +kernel
theorem dX5_fearsBy_6 : decode cX5_fearsBy 6 = .ok (.istore_n 3, 1) := by decide +kernel
theorem dX5_fearsBy_7 : decode cX5_fearsBy 7 = .ok (.iload_n 0, 1) := by decide +kernel
theorem dX5_fearsBy_8 : decode cX5_fearsBy 8 = .ok (.invokestatic 166, 3) := by decide +kernel
theorem dX5_fearsBy_11 : decode cX5_fearsBy 11 = .ok (.ifCond .eq 9, 3) := by decide +kernel
theorem dX5_fearsBy_14 : decode cX5_fearsBy 14 = .ok (.iload_n 3, 1) := by decide +kernel
theorem dX5_fearsBy_15 : decode cX5_fearsBy 15 = .ok (.iconst 2, 1) := by decide +kernel
theorem dX5_fearsBy_16 : decode cX5_fearsBy 16 = .ok (.idiv, 1) := by decide +kernel
theorem dX5_fearsBy_17 : decode cX5_fearsBy 17 = .ok (.goto 4, 3) := by decide +kernel
theorem dX5_fearsBy_20 : decode cX5_fearsBy 20 = .ok (.iload_n 3, 1) := by decide +kernel
theorem dX5_fearsBy_21 : decode cX5_fearsBy 21 = .ok (.ireturn, 1) := by decide +kernel
theorem dX5_saysBy_0 : decode cX5_saysBy 0 = .ok (.iload_n 1, 1) := by decide +kernel
theorem dX5_saysBy_1 : decode cX5_saysBy 1 = .ok (.iload_n 0, 1) := by decide +kernel
theorem dX5_saysBy_2 : decode cX5_saysBy 2 = .ok (.iload_n 2, 1) := by decide +kernel
theorem dX5_saysBy_3 : decode cX5_saysBy 3 = .ok (.iload_n 3, 1) := by decide +kernel
theorem dX5_saysBy_4 : decode cX5_saysBy 4 = .ok (.invokestatic 172, 3) := by decide +kernel
theorem dX5_saysBy_7 : decode cX5_saysBy 7 = .ok (.isub, 1) := by decide +kernel
theorem dX5_saysBy_8 : decode cX5_saysBy 8 = .ok (.invokestatic 169, 3) := by decide +kernel
theorem dX5_saysBy_11 : decode cX5_saysBy 11 = .ok (.istore 5, 2) := by decide +kernel
theorem dX5_saysBy_13 : decode cX5_saysBy 13 = .ok (.iload 5, 2) := by decide +kernel
theorem dX5_saysBy_15 : decode cX5_saysBy 15 = .ok (.iload_n 0, 1) := by decide +kernel
theorem dX5_saysBy_16 : decode cX5_saysBy 16 = .ok (.invokestatic 176, 3) := by decide +kernel
theorem dX5_saysBy_19 : decode cX5_saysBy 19 = .ok (.ifCond .eq 7, 3) := by decide +kernel
theorem dX5_saysBy_22 : decode cX5_saysBy 22 = .ok (.iconst 2, 1) := by decide +kernel
theorem dX5_saysBy_23 : decode cX5_saysBy 23 = .ok (.goto 4, 3) := by decide +kernel
theorem dX5_saysBy_26 : decode cX5_saysBy 26 = .ok (.iconst 0, 1) := by decide +kernel
theorem dX5_saysBy_27 : decode cX5_saysBy 27 = .ok (.iadd, 1) := by decide +kernel
theorem dX5_saysBy_28 : decode cX5_saysBy 28 = .ok (.iload_n 0, 1) := by decide +kernel
theorem dX5_saysBy_29 : decode cX5_saysBy 29 = .ok (.iconst 5, 1) := by decide +kernel
theorem dX5_saysBy_30 : decode cX5_saysBy 30 = .ok (.if_icmp .ne 8, 3) := by decide +kernel
theorem dX5_saysBy_33 : decode cX5_saysBy 33 = .ok (.iload 4, 2) := by decide +kernel
theorem dX5_saysBy_35 : decode cX5_saysBy 35 = .ok (.goto 4, 3) := by decide +kernel
theorem dX5_saysBy_38 : decode cX5_saysBy 38 = .ok (.iconst 0, 1) := by decide +kernel
theorem dX5_saysBy_39 : decode cX5_saysBy 39 = .ok (.iadd, 1) := by decide +kernel
theorem dX5_saysBy_40 : decode cX5_saysBy 40 = .ok (.ireturn, 1) := by decide +kernel
theorem dX5_saysOf_0 : decode cX5_saysOf 0 = .ok (.aload_n 0, 1) := by decide +kernel
theorem dX5_saysOf_1 : decode cX5_saysOf 1 = .ok (.getfield 16, 3) := by decide +kernel
theorem dX5_saysOf_4 : decode cX5_saysOf 4 = .ok (.iload_n 1, 1) := by decide +kernel
theorem dX5_saysOf_5 : decode cX5_saysOf 5 = .ok (.iaload, 1) := by decide +kernel
theorem dX5_saysOf_6 : decode cX5_saysOf 6 = .ok (.aload_n 0, 1) := by decide +kernel
theorem dX5_saysOf_7 : decode cX5_saysOf 7 = .ok (.getfield 19, 3) := by decide +kernel
theorem dX5_saysOf_10 : decode cX5_saysOf 10 = .ok (.iload_n 1, 1) := by decide +kernel
theorem dX5_saysOf_11 : decode cX5_saysOf 11 = .ok (.iaload, 1) := by decide +kernel
theorem dX5_saysOf_12 : decode cX5_saysOf 12 = .ok (.aload_n 0, 1) := by decide +kernel
theorem dX5_saysOf_13 : decode cX5_saysOf 13 = .ok (.getfield 22, 3) := by decide +kernel
theorem dX5_saysOf_16 : decode cX5_saysOf 16 = .ok (.iload_n 1, 1) := by decide +kernel
theorem dX5_saysOf_17 : decode cX5_saysOf 17 = .ok (.iaload, 1) := by decide +kernel
theorem dX5_saysOf_18 : decode cX5_saysOf 18 = .ok (.iload_n 2, 1) := by decide +kernel
theorem dX5_saysOf_19 : decode cX5_saysOf 19 = .ok (.aload_n 0, 1) := by decide +kernel
theorem dX5_saysOf_20 : decode cX5_saysOf 20 = .ok (.iload_n 1, 1) := by decide +kernel
theorem dX5_saysOf_21 : decode cX5_saysOf 21 = .ok (.iload_n 3, 1) := by decide +kernel
theorem dX5_saysOf_22 : decode cX5_saysOf 22 = .ok (.invokevirtual 179, 3) := by decide +kernel
theorem dX5_saysOf_25 : decode cX5_saysOf 25 = .ok (.invokestatic 182, 3) := by decide +kernel
theorem dX5_saysOf_28 : decode cX5_saysOf 28 = .ok (.ireturn, 1) := by decide +kernel
theorem dX5_canSit_0 : decode cX5_canSit 0 = .ok (.aload_n 0, 1) := by decide +kernel
theorem dX5_canSit_1 : decode cX5_canSit 1 = .ok (.getfield 7, 3) := by decide +kernel
theorem dX5_canSit_4 : decode cX5_canSit 4 = .ok (.bipush 7, 2) := by decide +kernel
theorem dX5_canSit_6 : decode cX5_canSit 6 = .ok (.iload_n 1, 1) := by decide +kernel
theorem dX5_canSit_7 : decode cX5_canSit 7 = .ok (.iadd, 1) := by decide +kernel
theorem dX5_canSit_8 : decode cX5_canSit 8 = .ok (.iaload, 1) := by decide +kernel
theorem dX5_canSit_9 : decode cX5_canSit 9 = .ok (.istore_n 2, 1) := by decide +kernel
theorem dX5_canSit_10 : decode cX5_canSit 10 = .ok (.aload_n 0, 1) := by decide +kernel
theorem dX5_canSit_11 : decode cX5_canSit 11 = .ok (.getfield 16, 3) := by decide +kernel
theorem dX5_canSit_14 : decode cX5_canSit 14 = .ok (.iload_n 1, 1) := by decide +kernel
theorem dX5_canSit_15 : decode cX5_canSit 15 = .ok (.iaload, 1) := by decide +kernel
theorem dX5_canSit_16 : decode cX5_canSit 16 = .ok (.iconst 2, 1) := by decide +kernel
theorem dX5_canSit_17 : decode cX5_canSit 17 = .ok (.if_icmp .ne 18, 3) := by decide +kernel
theorem dX5_canSit_20 : decode cX5_canSit 20 = .ok (.iload_n 2, 1) := by decide +kernel
theorem dX5_canSit_21 : decode cX5_canSit 21 = .ok (.iconst 2, 1) := by decide +kernel
theorem dX5_canSit_22 : decode cX5_canSit 22 = .ok (.irem, 1) := by decide +kernel
theorem dX5_canSit_23 : decode cX5_canSit 23 = .ok (.iconst 1, 1) := by decide +kernel
theorem dX5_canSit_24 : decode cX5_canSit 24 = .ok (.if_icmp .ne 7, 3) := by decide +kernel
theorem dX5_canSit_27 : decode cX5_canSit 27 = .ok (.iconst 1, 1) := by decide +kernel
theorem dX5_canSit_28 : decode cX5_canSit 28 = .ok (.goto 28, 3) := by decide +kernel
theorem dX5_canSit_31 : decode cX5_canSit 31 = .ok (.iconst 0, 1) := by decide +kernel
theorem dX5_canSit_32 : decode cX5_canSit 32 = .ok (.goto 24, 3) := by decide +kernel
theorem dX5_canSit_35 : decode cX5_canSit 35 = .ok (.aload_n 0, 1) := by decide +kernel
theorem dX5_canSit_36 : decode cX5_canSit 36 = .ok (.getfield 16, 3) := by decide +kernel
theorem dX5_canSit_39 : decode cX5_canSit 39 = .ok (.iload_n 1, 1) := by decide +kernel
theorem dX5_canSit_40 : decode cX5_canSit 40 = .ok (.iaload, 1) := by decide +kernel
theorem dX5_canSit_41 : decode cX5_canSit 41 = .ok (.iconst 4, 1) := by decide +kernel
theorem dX5_canSit_42 : decode cX5_canSit 42 = .ok (.if_icmp .ne 9, 3) := by decide +kernel
theorem dX5_canSit_45 : decode cX5_canSit 45 = .ok (.iload_n 2, 1) := by decide +kernel
theorem dX5_canSit_46 : decode cX5_canSit 46 = .ok (.bipush 7, 2) := by decide +kernel
theorem dX5_canSit_48 : decode cX5_canSit 48 = .ok (.if_icmp .ge 7, 3) := by decide +kernel
theorem dX5_canSit_51 : decode cX5_canSit 51 = .ok (.iconst 1, 1) := by decide +kernel
theorem dX5_canSit_52 : decode cX5_canSit 52 = .ok (.goto 4, 3) := by decide +kernel
theorem dX5_canSit_55 : decode cX5_canSit 55 = .ok (.iconst 0, 1) := by decide +kernel
theorem dX5_canSit_56 : decode cX5_canSit 56 = .ok (.ireturn, 1) := by decide +kernel
theorem dX5_mayCall_0 : decode cX5_mayCall 0 = .ok (.iload_n 2, 1) := by decide +kernel
theorem dX5_mayCall_1 : decode cX5_mayCall 1 = .ok (.iload_n 1, 1) := by decide +kernel
theorem dX5_mayCall_2 : decode cX5_mayCall 2 = .ok (.invokestatic 147, 3) := by decide +kernel
theorem dX5_mayCall_5 : decode cX5_mayCall 5 = .ok (.ifCond .ne 15, 3) := by decide +kernel
theorem dX5_mayCall_8 : decode cX5_mayCall 8 = .ok (.aload_n 0, 1) := by decide +kernel
theorem dX5_mayCall_9 : decode cX5_mayCall 9 = .ok (.iload_n 1, 1) := by decide +kernel
theorem dX5_mayCall_10 : decode cX5_mayCall 10 = .ok (.invokevirtual 186, 3) := by decide +kernel
theorem dX5_mayCall_13 : decode cX5_mayCall 13 = .ok (.ifCond .eq 7, 3) := by decide +kernel
theorem dX5_mayCall_16 : decode cX5_mayCall 16 = .ok (.iconst 1, 1) := by decide +kernel
theorem dX5_mayCall_17 : decode cX5_mayCall 17 = .ok (.goto 4, 3) := by decide +kernel
theorem dX5_mayCall_20 : decode cX5_mayCall 20 = .ok (.iconst 0, 1) := by decide +kernel
theorem dX5_mayCall_21 : decode cX5_mayCall 21 = .ok (.ireturn, 1) := by decide +kernel
theorem dX5_saysNow_0 : decode cX5_saysNow 0 = .ok (.aload_n 0, 1) := by decide +kernel
theorem dX5_saysNow_1 : decode cX5_saysNow 1 = .ok (.iload_n 1, 1) := by decide +kernel
theorem dX5_saysNow_2 : decode cX5_saysNow 2 = .ok (.aload_n 0, 1) := by decide +kernel
theorem dX5_saysNow_3 : decode cX5_saysNow 3 = .ok (.getfield 7, 3) := by decide +kernel
theorem dX5_saysNow_6 : decode cX5_saysNow 6 = .ok (.iconst 4, 1) := by decide +kernel
theorem dX5_saysNow_7 : decode cX5_saysNow 7 = .ok (.iaload, 1) := by decide +kernel
theorem dX5_saysNow_8 : decode cX5_saysNow 8 = .ok (.aload_n 0, 1) := by decide +kernel
theorem dX5_saysNow_9 : decode cX5_saysNow 9 = .ok (.getfield 7, 3) := by decide +kernel
theorem dX5_saysNow_12 : decode cX5_saysNow 12 = .ok (.bipush 6, 2) := by decide +kernel
theorem dX5_saysNow_14 : decode cX5_saysNow 14 = .ok (.iaload, 1) := by decide +kernel
theorem dX5_saysNow_15 : decode cX5_saysNow 15 = .ok (.invokevirtual 189, 3) := by decide +kernel
theorem dX5_saysNow_18 : decode cX5_saysNow 18 = .ok (.ireturn, 1) := by decide +kernel
theorem dX5_toldOf_0 : decode cX5_toldOf 0 = .ok (.iload_n 2, 1) := by decide +kernel
theorem dX5_toldOf_1 : decode cX5_toldOf 1 = .ok (.tableswitch 114 0 6 #[43, 50, 60, 67, 74, 96, 102], 43) := by decide +kernel
theorem dX5_toldOf_44 : decode cX5_toldOf 44 = .ok (.aload_n 0, 1) := by decide +kernel
theorem dX5_toldOf_45 : decode cX5_toldOf 45 = .ok (.getfield 16, 3) := by decide +kernel
theorem dX5_toldOf_48 : decode cX5_toldOf 48 = .ok (.iload_n 1, 1) := by decide +kernel
theorem dX5_toldOf_49 : decode cX5_toldOf 49 = .ok (.iaload, 1) := by decide +kernel
theorem dX5_toldOf_50 : decode cX5_toldOf 50 = .ok (.ireturn, 1) := by decide +kernel
theorem dX5_toldOf_51 : decode cX5_toldOf 51 = .ok (.aload_n 0, 1) := by decide +kernel
theorem dX5_toldOf_52 : decode cX5_toldOf 52 = .ok (.getfield 7, 3) := by decide +kernel
theorem dX5_toldOf_55 : decode cX5_toldOf 55 = .ok (.bipush 7, 2) := by decide +kernel
theorem dX5_toldOf_57 : decode cX5_toldOf 57 = .ok (.iload_n 1, 1) := by decide +kernel
theorem dX5_toldOf_58 : decode cX5_toldOf 58 = .ok (.iadd, 1) := by decide +kernel
theorem dX5_toldOf_59 : decode cX5_toldOf 59 = .ok (.iaload, 1) := by decide +kernel
theorem dX5_toldOf_60 : decode cX5_toldOf 60 = .ok (.ireturn, 1) := by decide +kernel
theorem dX5_toldOf_61 : decode cX5_toldOf 61 = .ok (.aload_n 0, 1) := by decide +kernel
theorem dX5_toldOf_62 : decode cX5_toldOf 62 = .ok (.getfield 19, 3) := by decide +kernel
theorem dX5_toldOf_65 : decode cX5_toldOf 65 = .ok (.iload_n 1, 1) := by decide +kernel
theorem dX5_toldOf_66 : decode cX5_toldOf 66 = .ok (.iaload, 1) := by decide +kernel
theorem dX5_toldOf_67 : decode cX5_toldOf 67 = .ok (.ireturn, 1) := by decide +kernel
theorem dX5_toldOf_68 : decode cX5_toldOf 68 = .ok (.aload_n 0, 1) := by decide +kernel
theorem dX5_toldOf_69 : decode cX5_toldOf 69 = .ok (.getfield 22, 3) := by decide +kernel
theorem dX5_toldOf_72 : decode cX5_toldOf 72 = .ok (.iload_n 1, 1) := by decide +kernel
theorem dX5_toldOf_73 : decode cX5_toldOf 73 = .ok (.iaload, 1) := by decide +kernel
theorem dX5_toldOf_74 : decode cX5_toldOf 74 = .ok (.ireturn, 1) := by decide +kernel
theorem dX5_toldOf_75 : decode cX5_toldOf 75 = .ok (.aload_n 0, 1) := by decide +kernel
theorem dX5_toldOf_76 : decode cX5_toldOf 76 = .ok (.getfield 16, 3) := by decide +kernel
theorem dX5_toldOf_79 : decode cX5_toldOf 79 = .ok (.iload_n 1, 1) := by decide +kernel
theorem dX5_toldOf_80 : decode cX5_toldOf 80 = .ok (.iaload, 1) := by decide +kernel
theorem dX5_toldOf_81 : decode cX5_toldOf 81 = .ok (.aload_n 0, 1) := by decide +kernel
theorem dX5_toldOf_82 : decode cX5_toldOf 82 = .ok (.getfield 22, 3) := by decide +kernel
theorem dX5_toldOf_85 : decode cX5_toldOf 85 = .ok (.iload_n 1, 1) := by decide +kernel
theorem dX5_toldOf_86 : decode cX5_toldOf 86 = .ok (.iaload, 1) := by decide +kernel
theorem dX5_toldOf_87 : decode cX5_toldOf 87 = .ok (.aload_n 0, 1) := by decide +kernel
theorem dX5_toldOf_88 : decode cX5_toldOf 88 = .ok (.getfield 7, 3) := by decide +kernel
theorem dX5_toldOf_91 : decode cX5_toldOf 91 = .ok (.iconst 4, 1) := by decide +kernel
theorem dX5_toldOf_92 : decode cX5_toldOf 92 = .ok (.iaload, 1) := by decide +kernel
theorem dX5_toldOf_93 : decode cX5_toldOf 93 = .ok (.invokestatic 172, 3) := by decide +kernel
theorem dX5_toldOf_96 : decode cX5_toldOf 96 = .ok (.ireturn, 1) := by decide +kernel
theorem dX5_toldOf_97 : decode cX5_toldOf 97 = .ok (.aload_n 0, 1) := by decide +kernel
theorem dX5_toldOf_98 : decode cX5_toldOf 98 = .ok (.iload_n 1, 1) := by decide +kernel
theorem dX5_toldOf_99 : decode cX5_toldOf 99 = .ok (.invokevirtual 192, 3) := by decide +kernel
theorem dX5_toldOf_102 : decode cX5_toldOf 102 = .ok (.ireturn, 1) := by decide +kernel
theorem dX5_toldOf_103 : decode cX5_toldOf 103 = .ok (.aload_n 0, 1) := by decide +kernel
theorem dX5_toldOf_104 : decode cX5_toldOf 104 = .ok (.getfield 7, 3) := by decide +kernel
theorem dX5_toldOf_107 : decode cX5_toldOf 107 = .ok (.bipush 6, 2) := by decide +kernel
theorem dX5_toldOf_109 : decode cX5_toldOf 109 = .ok (.iaload, 1) := by decide +kernel
theorem dX5_toldOf_110 : decode cX5_toldOf 110 = .ok (.iload_n 1, 1) := by decide +kernel
theorem dX5_toldOf_111 : decode cX5_toldOf 111 = .ok (.ishr, 1) := by decide +kernel
theorem dX5_toldOf_112 : decode cX5_toldOf 112 = .ok (.iconst 1, 1) := by decide +kernel
theorem dX5_toldOf_113 : decode cX5_toldOf 113 = .ok (.iand, 1) := by decide +kernel
theorem dX5_toldOf_114 : decode cX5_toldOf 114 = .ok (.ireturn, 1) := by decide +kernel
theorem dX5_toldOf_115 : decode cX5_toldOf 115 = .ok (.aload_n 0, 1) := by decide +kernel
theorem dX5_toldOf_116 : decode cX5_toldOf 116 = .ok (.iload_n 1, 1) := by decide +kernel
theorem dX5_toldOf_117 : decode cX5_toldOf 117 = .ok (.aload_n 0, 1) := by decide +kernel
theorem dX5_toldOf_118 : decode cX5_toldOf 118 = .ok (.getfield 7, 3) := by decide +kernel
theorem dX5_toldOf_121 : decode cX5_toldOf 121 = .ok (.bipush 6, 2) := by decide +kernel
theorem dX5_toldOf_123 : decode cX5_toldOf 123 = .ok (.iaload, 1) := by decide +kernel
theorem dX5_toldOf_124 : decode cX5_toldOf 124 = .ok (.invokevirtual 195, 3) := by decide +kernel
theorem dX5_toldOf_127 : decode cX5_toldOf 127 = .ok (.ifCond .eq 7, 3) := by decide +kernel
theorem dX5_toldOf_130 : decode cX5_toldOf 130 = .ok (.iconst 1, 1) := by decide +kernel
theorem dX5_toldOf_131 : decode cX5_toldOf 131 = .ok (.goto 4, 3) := by decide +kernel
theorem dX5_toldOf_134 : decode cX5_toldOf 134 = .ok (.iconst 0, 1) := by decide +kernel
theorem dX5_toldOf_135 : decode cX5_toldOf 135 = .ok (.ireturn, 1) := by decide +kernel
theorem dX5_sitter_0 : decode cX5_sitter 0 = .ok (.aload_n 0, 1) := by decide +kernel
theorem dX5_sitter_1 : decode cX5_sitter 1 = .ok (.iload_n 1, 1) := by decide +kernel
theorem dX5_sitter_2 : decode cX5_sitter 2 = .ok (.invokevirtual 198, 3) := by decide +kernel
theorem dX5_sitter_5 : decode cX5_sitter 5 = .ok (.ifCond .eq 28, 3) := by decide +kernel
theorem dX5_sitter_8 : decode cX5_sitter 8 = .ok (.iload_n 2, 1) := by decide +kernel
theorem dX5_sitter_9 : decode cX5_sitter 9 = .ok (.i2l, 1) := by decide +kernel
theorem dX5_sitter_10 : decode cX5_sitter 10 = .ok (.lconst 0, 1) := by decide +kernel
theorem dX5_sitter_11 : decode cX5_sitter 11 = .ok (.ldc2_w 201, 3) := by decide +kernel
theorem dX5_sitter_14 : decode cX5_sitter 14 = .ok (.invokestatic 77, 3) := by decide +kernel
theorem dX5_sitter_17 : decode cX5_sitter 17 = .ok (.ifCond .eq 16, 3) := by decide +kernel
theorem dX5_sitter_20 : decode cX5_sitter 20 = .ok (.aload_n 0, 1) := by decide +kernel
theorem dX5_sitter_21 : decode cX5_sitter 21 = .ok (.aload_n 0, 1) := by decide +kernel
theorem dX5_sitter_22 : decode cX5_sitter 22 = .ok (.iload_n 1, 1) := by decide +kernel
theorem dX5_sitter_23 : decode cX5_sitter 23 = .ok (.iload_n 2, 1) := by decide +kernel
theorem dX5_sitter_24 : decode cX5_sitter 24 = .ok (.invokevirtual 203, 3) := by decide +kernel
theorem dX5_sitter_27 : decode cX5_sitter 27 = .ok (.invokevirtual 99, 3) := by decide +kernel
theorem dX5_sitter_30 : decode cX5_sitter 30 = .ok (.goto 4, 3) := by decide +kernel
theorem dX5_sitter_33 : decode cX5_sitter 33 = .ok (.iconst (-1), 1) := by decide +kernel
theorem dX5_sitter_34 : decode cX5_sitter 34 = .ok (.ireturn, 1) := by decide +kernel
theorem dX5_isOf_0 : decode cX5_isOf 0 = .ok (.aload_n 0, 1) := by decide +kernel
theorem dX5_isOf_1 : decode cX5_isOf 1 = .ok (.getfield 16, 3) := by decide +kernel
theorem dX5_isOf_4 : decode cX5_isOf 4 = .ok (.iload_n 1, 1) := by decide +kernel
theorem dX5_isOf_5 : decode cX5_isOf 5 = .ok (.iaload, 1) := by decide +kernel
theorem dX5_isOf_6 : decode cX5_isOf 6 = .ok (.iload_n 2, 1) := by decide +kernel
theorem dX5_isOf_7 : decode cX5_isOf 7 = .ok (.if_icmp .eq 37, 3) := by decide +kernel
theorem dX5_isOf_10 : decode cX5_isOf 10 = .ok (.iload_n 2, 1) := by decide +kernel
theorem dX5_isOf_11 : decode cX5_isOf 11 = .ok (.iconst 1, 1) := by decide +kernel
theorem dX5_isOf_12 : decode cX5_isOf 12 = .ok (.if_icmp .ne 15, 3) := by decide +kernel
theorem dX5_isOf_15 : decode cX5_isOf 15 = .ok (.aload_n 0, 1) := by decide +kernel
theorem dX5_isOf_16 : decode cX5_isOf 16 = .ok (.getfield 16, 3) := by decide +kernel
theorem dX5_isOf_19 : decode cX5_isOf 19 = .ok (.iload_n 1, 1) := by decide +kernel
theorem dX5_isOf_20 : decode cX5_isOf 20 = .ok (.iaload, 1) := by decide +kernel
theorem dX5_isOf_21 : decode cX5_isOf 21 = .ok (.invokestatic 176, 3) := by decide +kernel
theorem dX5_isOf_24 : decode cX5_isOf 24 = .ok (.ifCond .ne 20, 3) := by decide +kernel
theorem dX5_isOf_27 : decode cX5_isOf 27 = .ok (.iload_n 2, 1) := by decide +kernel
theorem dX5_isOf_28 : decode cX5_isOf 28 = .ok (.iconst 3, 1) := by decide +kernel
theorem dX5_isOf_29 : decode cX5_isOf 29 = .ok (.if_icmp .ne 19, 3) := by decide +kernel
theorem dX5_isOf_32 : decode cX5_isOf 32 = .ok (.aload_n 0, 1) := by decide +kernel
theorem dX5_isOf_33 : decode cX5_isOf 33 = .ok (.getfield 16, 3) := by decide +kernel
theorem dX5_isOf_36 : decode cX5_isOf 36 = .ok (.iload_n 1, 1) := by decide +kernel
theorem dX5_isOf_37 : decode cX5_isOf 37 = .ok (.iaload, 1) := by decide +kernel
theorem dX5_isOf_38 : decode cX5_isOf 38 = .ok (.invokestatic 166, 3) := by decide +kernel
theorem dX5_isOf_41 : decode cX5_isOf 41 = .ok (.ifCond .eq 7, 3) := by decide +kernel
theorem dX5_isOf_44 : decode cX5_isOf 44 = .ok (.iconst 1, 1) := by decide +kernel
theorem dX5_isOf_45 : decode cX5_isOf 45 = .ok (.goto 4, 3) := by decide +kernel
theorem dX5_isOf_48 : decode cX5_isOf 48 = .ok (.iconst 0, 1) := by decide +kernel
theorem dX5_isOf_49 : decode cX5_isOf 49 = .ok (.ireturn, 1) := by decide +kernel
theorem dX5_easyScenes_0 : decode cX5_easyScenes 0 = .ok (.iconst 0, 1) := by decide +kernel
theorem dX5_easyScenes_1 : decode cX5_easyScenes 1 = .ok (.istore_n 2, 1) := by decide +kernel
theorem dX5_easyScenes_2 : decode cX5_easyScenes 2 = .ok (.aload_n 0, 1) := by decide +kernel
theorem dX5_easyScenes_3 : decode cX5_easyScenes 3 = .ok (.getfield 7, 3) := by decide +kernel
theorem dX5_easyScenes_6 : decode cX5_easyScenes 6 = .ok (.iconst 1, 1) := by decide +kernel
theorem dX5_easyScenes_7 : decode cX5_easyScenes 7 = .ok (.iaload, 1) := by decide +kernel
theorem dX5_easyScenes_8 : decode cX5_easyScenes 8 = .ok (.istore_n 3, 1) := by decide +kernel
theorem dX5_easyScenes_9 : decode cX5_easyScenes 9 = .ok (.iload_n 3, 1) := by decide +kernel
theorem dX5_easyScenes_10 : decode cX5_easyScenes 10 = .ok (.aload_n 0, 1) := by decide +kernel
theorem dX5_easyScenes_11 : decode cX5_easyScenes 11 = .ok (.getfield 160, 3) := by decide +kernel
theorem dX5_easyScenes_14 : decode cX5_easyScenes 14 = .ok (.if_icmp .ge 31, 3) := by decide +kernel
theorem dX5_easyScenes_17 : decode cX5_easyScenes 17 = .ok (.iload_n 2, 1) := by decide +kernel
theorem dX5_easyScenes_18 : decode cX5_easyScenes 18 = .ok (.aload_n 0, 1) := by decide +kernel
theorem dX5_easyScenes_19 : decode cX5_easyScenes 19 = .ok (.getfield 13, 3) := by decide +kernel
theorem dX5_easyScenes_22 : decode cX5_easyScenes 22 = .ok (.iload_n 3, 1) := by decide +kernel
theorem dX5_easyScenes_23 : decode cX5_easyScenes 23 = .ok (.iaload, 1) := by decide +kernel
theorem dX5_easyScenes_24 : decode cX5_easyScenes 24 = .ok (.aload_n 0, 1) := by decide +kernel
theorem dX5_easyScenes_25 : decode cX5_easyScenes 25 = .ok (.iload_n 1, 1) := by decide +kernel
theorem dX5_easyScenes_26 : decode cX5_easyScenes 26 = .ok (.invokevirtual 192, 3) := by decide +kernel
theorem dX5_easyScenes_29 : decode cX5_easyScenes 29 = .ok (.if_icmp .gt 7, 3) := by decide +kernel
theorem dX5_easyScenes_32 : decode cX5_easyScenes 32 = .ok (.iconst 1, 1) := by decide +kernel
theorem dX5_easyScenes_33 : decode cX5_easyScenes 33 = .ok (.goto 4, 3) := by decide +kernel
theorem dX5_easyScenes_36 : decode cX5_easyScenes 36 = .ok (.iconst 0, 1) := by decide +kernel
theorem dX5_easyScenes_37 : decode cX5_easyScenes 37 = .ok (.iadd, 1) := by decide +kernel
theorem dX5_easyScenes_38 : decode cX5_easyScenes 38 = .ok (.istore_n 2, 1) := by decide +kernel
theorem dX5_easyScenes_39 : decode cX5_easyScenes 39 = .ok (.iinc 3 1, 3) := by decide +kernel
theorem dX5_easyScenes_42 : decode cX5_easyScenes 42 = .ok (.goto (-33), 3) := by decide +kernel
theorem dX5_easyScenes_45 : decode cX5_easyScenes 45 = .ok (.iload_n 2, 1) := by decide +kernel
theorem dX5_easyScenes_46 : decode cX5_easyScenes 46 = .ok (.ireturn, 1) := by decide +kernel
theorem dX5_evenOthers_0 : decode cX5_evenOthers 0 = .ok (.iconst 0, 1) := by decide +kernel
theorem dX5_evenOthers_1 : decode cX5_evenOthers 1 = .ok (.istore_n 2, 1) := by decide +kernel
theorem dX5_evenOthers_2 : decode cX5_evenOthers 2 = .ok (.iconst 0, 1) := by decide +kernel
theorem dX5_evenOthers_3 : decode cX5_evenOthers 3 = .ok (.istore_n 3, 1) := by decide +kernel
theorem dX5_evenOthers_4 : decode cX5_evenOthers 4 = .ok (.iload_n 3, 1) := by decide +kernel
theorem dX5_evenOthers_5 : decode cX5_evenOthers 5 = .ok (.aload_n 0, 1) := by decide +kernel
theorem dX5_evenOthers_6 : decode cX5_evenOthers 6 = .ok (.getfield 163, 3) := by decide +kernel
theorem dX5_evenOthers_9 : decode cX5_evenOthers 9 = .ok (.if_icmp .ge 36, 3) := by decide +kernel
theorem dX5_evenOthers_12 : decode cX5_evenOthers 12 = .ok (.iload_n 2, 1) := by decide +kernel
theorem dX5_evenOthers_13 : decode cX5_evenOthers 13 = .ok (.iload_n 3, 1) := by decide +kernel
theorem dX5_evenOthers_14 : decode cX5_evenOthers 14 = .ok (.iload_n 1, 1) := by decide +kernel
theorem dX5_evenOthers_15 : decode cX5_evenOthers 15 = .ok (.if_icmp .eq 21, 3) := by decide +kernel
theorem dX5_evenOthers_18 : decode cX5_evenOthers 18 = .ok (.aload_n 0, 1) := by decide +kernel
theorem dX5_evenOthers_19 : decode cX5_evenOthers 19 = .ok (.getfield 7, 3) := by decide +kernel
theorem dX5_evenOthers_22 : decode cX5_evenOthers 22 = .ok (.bipush 7, 2) := by decide +kernel
theorem dX5_evenOthers_24 : decode cX5_evenOthers 24 = .ok (.iload_n 3, 1) := by decide +kernel
theorem dX5_evenOthers_25 : decode cX5_evenOthers 25 = .ok (.iadd, 1) := by decide +kernel
theorem dX5_evenOthers_26 : decode cX5_evenOthers 26 = .ok (.iaload, 1) := by decide +kernel
theorem dX5_evenOthers_27 : decode cX5_evenOthers 27 = .ok (.iconst 2, 1) := by decide +kernel
theorem dX5_evenOthers_28 : decode cX5_evenOthers 28 = .ok (.irem, 1) := by decide +kernel
theorem dX5_evenOthers_29 : decode cX5_evenOthers 29 = .ok (.ifCond .ne 7, 3) := by decide +kernel
theorem dX5_evenOthers_32 : decode cX5_evenOthers 32 = .ok (.iconst 1, 1) := by decide +kernel
theorem dX5_evenOthers_33 : decode cX5_evenOthers 33 = .ok (.goto 4, 3) := by decide +kernel
theorem dX5_evenOthers_36 : decode cX5_evenOthers 36 = .ok (.iconst 0, 1) := by decide +kernel
theorem dX5_evenOthers_37 : decode cX5_evenOthers 37 = .ok (.iadd, 1) := by decide +kernel
theorem dX5_evenOthers_38 : decode cX5_evenOthers 38 = .ok (.istore_n 2, 1) := by decide +kernel
theorem dX5_evenOthers_39 : decode cX5_evenOthers 39 = .ok (.iinc 3 1, 3) := by decide +kernel
theorem dX5_evenOthers_42 : decode cX5_evenOthers 42 = .ok (.goto (-38), 3) := by decide +kernel
theorem dX5_evenOthers_45 : decode cX5_evenOthers 45 = .ok (.iload_n 2, 1) := by decide +kernel
theorem dX5_evenOthers_46 : decode cX5_evenOthers 46 = .ok (.ireturn, 1) := by decide +kernel
theorem dX5_mark_0 : decode cX5_mark 0 = .ok (.aload_n 0, 1) := by decide +kernel
theorem dX5_mark_1 : decode cX5_mark 1 = .ok (.iload_n 1, 1) := by decide +kernel
theorem dX5_mark_2 : decode cX5_mark 2 = .ok (.invokevirtual 198, 3) := by decide +kernel
theorem dX5_mark_5 : decode cX5_mark 5 = .ok (.ifCond .eq 15, 3) := by decide +kernel
theorem dX5_mark_8 : decode cX5_mark 8 = .ok (.iload_n 2, 1) := by decide +kernel
theorem dX5_mark_9 : decode cX5_mark 9 = .ok (.i2l, 1) := by decide +kernel
theorem dX5_mark_10 : decode cX5_mark 10 = .ok (.lconst 1, 1) := by decide +kernel
theorem dX5_mark_11 : decode cX5_mark 11 = .ok (.ldc2_w 75, 3) := by decide +kernel
theorem dX5_mark_14 : decode cX5_mark 14 = .ok (.invokestatic 77, 3) := by decide +kernel
theorem dX5_mark_17 : decode cX5_mark 17 = .ok (.ifCond .ne 5, 3) := by decide +kernel
theorem dX5_mark_20 : decode cX5_mark 20 = .ok (.iconst (-1), 1) := by decide +kernel
theorem dX5_mark_21 : decode cX5_mark 21 = .ok (.ireturn, 1) := by decide +kernel
theorem dX5_mark_22 : decode cX5_mark 22 = .ok (.aload_n 0, 1) := by decide +kernel
theorem dX5_mark_23 : decode cX5_mark 23 = .ok (.iload_n 1, 1) := by decide +kernel
theorem dX5_mark_24 : decode cX5_mark 24 = .ok (.iload_n 2, 1) := by decide +kernel
theorem dX5_mark_25 : decode cX5_mark 25 = .ok (.invokevirtual 206, 3) := by decide +kernel
theorem dX5_mark_28 : decode cX5_mark 28 = .ok (.ifCond .ne 9, 3) := by decide +kernel
theorem dX5_mark_31 : decode cX5_mark 31 = .ok (.aload_n 0, 1) := by decide +kernel
theorem dX5_mark_32 : decode cX5_mark 32 = .ok (.iconst 3, 1) := by decide +kernel
theorem dX5_mark_33 : decode cX5_mark 33 = .ok (.invokevirtual 87, 3) := by decide +kernel
theorem dX5_mark_36 : decode cX5_mark 36 = .ok (.ireturn, 1) := by decide +kernel
theorem dX5_mark_37 : decode cX5_mark 37 = .ok (.iload_n 2, 1) := by decide +kernel
theorem dX5_mark_38 : decode cX5_mark 38 = .ok (.tableswitch 82 1 4 #[30, 36, 42, 66], 30) := by decide +kernel
theorem dX5_mark_68 : decode cX5_mark 68 = .ok (.aload_n 0, 1) := by decide +kernel
theorem dX5_mark_69 : decode cX5_mark 69 = .ok (.iload_n 1, 1) := by decide +kernel
theorem dX5_mark_70 : decode cX5_mark 70 = .ok (.invokevirtual 209, 3) := by decide +kernel
theorem dX5_mark_73 : decode cX5_mark 73 = .ok (.ireturn, 1) := by decide +kernel
theorem dX5_mark_74 : decode cX5_mark 74 = .ok (.aload_n 0, 1) := by decide +kernel
theorem dX5_mark_75 : decode cX5_mark 75 = .ok (.iload_n 1, 1) := by decide +kernel
theorem dX5_mark_76 : decode cX5_mark 76 = .ok (.invokevirtual 212, 3) := by decide +kernel
theorem dX5_mark_79 : decode cX5_mark 79 = .ok (.ireturn, 1) := by decide +kernel
theorem dX5_mark_80 : decode cX5_mark 80 = .ok (.aload_n 0, 1) := by decide +kernel
theorem dX5_mark_81 : decode cX5_mark 81 = .ok (.getfield 22, 3) := by decide +kernel
theorem dX5_mark_84 : decode cX5_mark 84 = .ok (.iload_n 1, 1) := by decide +kernel
theorem dX5_mark_85 : decode cX5_mark 85 = .ok (.iaload, 1) := by decide +kernel
theorem dX5_mark_86 : decode cX5_mark 86 = .ok (.aload_n 0, 1) := by decide +kernel
theorem dX5_mark_87 : decode cX5_mark 87 = .ok (.getfield 7, 3) := by decide +kernel
theorem dX5_mark_90 : decode cX5_mark 90 = .ok (.iconst 4, 1) := by decide +kernel
theorem dX5_mark_91 : decode cX5_mark 91 = .ok (.iaload, 1) := by decide +kernel
theorem dX5_mark_92 : decode cX5_mark 92 = .ok (.isub, 1) := by decide +kernel
theorem dX5_mark_93 : decode cX5_mark 93 = .ok (.invokestatic 169, 3) := by decide +kernel
theorem dX5_mark_96 : decode cX5_mark 96 = .ok (.aload_n 0, 1) := by decide +kernel
theorem dX5_mark_97 : decode cX5_mark 97 = .ok (.iload_n 1, 1) := by decide +kernel
theorem dX5_mark_98 : decode cX5_mark 98 = .ok (.iconst 4, 1) := by decide +kernel
theorem dX5_mark_99 : decode cX5_mark 99 = .ok (.invokevirtual 203, 3) := by decide +kernel
theorem dX5_mark_102 : decode cX5_mark 102 = .ok (.isub, 1) := by decide +kernel
theorem dX5_mark_103 : decode cX5_mark 103 = .ok (.ireturn, 1) := by decide +kernel
theorem dX5_mark_104 : decode cX5_mark 104 = .ok (.bipush 7, 2) := by decide +kernel
theorem dX5_mark_106 : decode cX5_mark 106 = .ok (.aload_n 0, 1) := by decide +kernel
theorem dX5_mark_107 : decode cX5_mark 107 = .ok (.getfield 7, 3) := by decide +kernel
theorem dX5_mark_110 : decode cX5_mark 110 = .ok (.bipush 7, 2) := by decide +kernel
theorem dX5_mark_112 : decode cX5_mark 112 = .ok (.iload_n 1, 1) := by decide +kernel
theorem dX5_mark_113 : decode cX5_mark 113 = .ok (.iadd, 1) := by decide +kernel
theorem dX5_mark_114 : decode cX5_mark 114 = .ok (.iaload, 1) := by decide +kernel
theorem dX5_mark_115 : decode cX5_mark 115 = .ok (.isub, 1) := by decide +kernel
theorem dX5_mark_116 : decode cX5_mark 116 = .ok (.invokestatic 169, 3) := by decide +kernel
theorem dX5_mark_119 : decode cX5_mark 119 = .ok (.ireturn, 1) := by decide +kernel
theorem dX5_mark_120 : decode cX5_mark 120 = .ok (.aload_n 0, 1) := by decide +kernel
theorem dX5_mark_121 : decode cX5_mark 121 = .ok (.iload_n 1, 1) := by decide +kernel
theorem dX5_mark_122 : decode cX5_mark 122 = .ok (.aload_n 0, 1) := by decide +kernel
theorem dX5_mark_123 : decode cX5_mark 123 = .ok (.getfield 7, 3) := by decide +kernel
theorem dX5_mark_126 : decode cX5_mark 126 = .ok (.bipush 6, 2) := by decide +kernel
theorem dX5_mark_128 : decode cX5_mark 128 = .ok (.iaload, 1) := by decide +kernel
theorem dX5_mark_129 : decode cX5_mark 129 = .ok (.invokevirtual 179, 3) := by decide +kernel
theorem dX5_mark_132 : decode cX5_mark 132 = .ok (.ireturn, 1) := by decide +kernel
theorem dX5_lines_0 : decode cX5_lines 0 = .ok (.iload_n 1, 1) := by decide +kernel
theorem dX5_lines_1 : decode cX5_lines 1 = .ok (.i2l, 1) := by decide +kernel
theorem dX5_lines_2 : decode cX5_lines 2 = .ok (.lconst 0, 1) := by decide +kernel
theorem dX5_lines_3 : decode cX5_lines 3 = .ok (.aload_n 0, 1) := by decide +kernel
theorem dX5_lines_4 : decode cX5_lines 4 = .ok (.getfield 160, 3) := by decide +kernel
theorem dX5_lines_7 : decode cX5_lines 7 = .ok (.iconst 1, 1) := by decide +kernel
theorem dX5_lines_8 : decode cX5_lines 8 = .ok (.isub, 1) := by decide +kernel
theorem dX5_lines_9 : decode cX5_lines 9 = .ok (.i2l, 1) := by decide +kernel
theorem dX5_lines_10 : decode cX5_lines 10 = .ok (.invokestatic 77, 3) := by decide +kernel
theorem dX5_lines_13 : decode cX5_lines 13 = .ok (.ifCond .eq 12, 3) := by decide +kernel
theorem dX5_lines_16 : decode cX5_lines 16 = .ok (.aload_n 0, 1) := by decide +kernel
theorem dX5_lines_17 : decode cX5_lines 17 = .ok (.getfield 13, 3) := by decide +kernel
theorem dX5_lines_20 : decode cX5_lines 20 = .ok (.iload_n 1, 1) := by decide +kernel
theorem dX5_lines_21 : decode cX5_lines 21 = .ok (.iaload, 1) := by decide +kernel
theorem dX5_lines_22 : decode cX5_lines 22 = .ok (.goto 4, 3) := by decide +kernel
theorem dX5_lines_25 : decode cX5_lines 25 = .ok (.iconst (-1), 1) := by decide +kernel
theorem dX5_lines_26 : decode cX5_lines 26 = .ok (.ireturn, 1) := by decide +kernel
theorem dX5_keepPast_0 : decode cX5_keepPast 0 = .ok (.iconst 0, 1) := by decide +kernel
theorem dX5_keepPast_1 : decode cX5_keepPast 1 = .ok (.istore_n 1, 1) := by decide +kernel
theorem dX5_keepPast_2 : decode cX5_keepPast 2 = .ok (.iload_n 1, 1) := by decide +kernel
theorem dX5_keepPast_3 : decode cX5_keepPast 3 = .ok (.bipush 12, 2) := by decide +kernel
theorem dX5_keepPast_5 : decode cX5_keepPast 5 = .ok (.if_icmp .ge 36, 3) := by decide +kernel
theorem dX5_keepPast_8 : decode cX5_keepPast 8 = .ok (.aload_n 0, 1) := by decide +kernel
theorem dX5_keepPast_9 : decode cX5_keepPast 9 = .ok (.getfield 7, 3) := by decide +kernel
theorem dX5_keepPast_12 : decode cX5_keepPast 12 = .ok (.bipush 13, 2) := by decide +kernel
theorem dX5_keepPast_14 : decode cX5_keepPast 14 = .ok (.bipush 12, 2) := by decide +kernel
theorem dX5_keepPast_16 : decode cX5_keepPast 16 = .ok (.aload_n 0, 1) := by decide +kernel
theorem dX5_keepPast_17 : decode cX5_keepPast 17 = .ok (.getfield 7, 3) := by decide +kernel
theorem dX5_keepPast_20 : decode cX5_keepPast 20 = .ok (.iconst 0, 1) := by decide +kernel
theorem dX5_keepPast_21 : decode cX5_keepPast 21 = .ok (.iaload, 1) := by decide +kernel
theorem dX5_keepPast_22 : decode cX5_keepPast 22 = .ok (.imul, 1) := by decide +kernel
theorem dX5_keepPast_23 : decode cX5_keepPast 23 = .ok (.iadd, 1) := by decide +kernel
theorem dX5_keepPast_24 : decode cX5_keepPast 24 = .ok (.iload_n 1, 1) := by decide +kernel
theorem dX5_keepPast_25 : decode cX5_keepPast 25 = .ok (.iadd, 1) := by decide +kernel
theorem dX5_keepPast_26 : decode cX5_keepPast 26 = .ok (.aload_n 0, 1) := by decide +kernel
theorem dX5_keepPast_27 : decode cX5_keepPast 27 = .ok (.getfield 7, 3) := by decide +kernel
theorem dX5_keepPast_30 : decode cX5_keepPast 30 = .ok (.iconst 1, 1) := by decide +kernel
theorem dX5_keepPast_31 : decode cX5_keepPast 31 = .ok (.iload_n 1, 1) := by decide +kernel
theorem dX5_keepPast_32 : decode cX5_keepPast 32 = .ok (.iadd, 1) := by decide +kernel
theorem dX5_keepPast_33 : decode cX5_keepPast 33 = .ok (.iaload, 1) := by decide +kernel
theorem dX5_keepPast_34 : decode cX5_keepPast 34 = .ok (.iastore, 1) := by decide +kernel
theorem dX5_keepPast_35 : decode cX5_keepPast 35 = .ok (.iinc 1 1, 3) := by decide +kernel
theorem dX5_keepPast_38 : decode cX5_keepPast 38 = .ok (.goto (-36), 3) := by decide +kernel
theorem dX5_keepPast_41 : decode cX5_keepPast 41 = .ok (.aload_n 0, 1) := by decide +kernel
theorem dX5_keepPast_42 : decode cX5_keepPast 42 = .ok (.getfield 7, 3) := by decide +kernel
theorem dX5_keepPast_45 : decode cX5_keepPast 45 = .ok (.iconst 0, 1) := by decide +kernel
theorem dX5_keepPast_46 : decode cX5_keepPast 46 = .ok (.dup2, 1) := by decide +kernel
theorem dX5_keepPast_47 : decode cX5_keepPast 47 = .ok (.iaload, 1) := by decide +kernel
theorem dX5_keepPast_48 : decode cX5_keepPast 48 = .ok (.iconst 1, 1) := by decide +kernel
theorem dX5_keepPast_49 : decode cX5_keepPast 49 = .ok (.iadd, 1) := by decide +kernel
theorem dX5_keepPast_50 : decode cX5_keepPast 50 = .ok (.iastore, 1) := by decide +kernel
theorem dX5_keepPast_51 : decode cX5_keepPast 51 = .ok (.return_, 1) := by decide +kernel
theorem dX5_lacking_0 : decode cX5_lacking 0 = .ok (.aload_n 0, 1) := by decide +kernel
theorem dX5_lacking_1 : decode cX5_lacking 1 = .ok (.getfield 13, 3) := by decide +kernel
theorem dX5_lacking_4 : decode cX5_lacking 4 = .ok (.iload_n 2, 1) := by decide +kernel
theorem dX5_lacking_5 : decode cX5_lacking 5 = .ok (.iaload, 1) := by decide +kernel
theorem dX5_lacking_6 : decode cX5_lacking 6 = .ok (.aload_n 0, 1) := by decide +kernel
theorem dX5_lacking_7 : decode cX5_lacking 7 = .ok (.iload_n 1, 1) := by decide +kernel
theorem dX5_lacking_8 : decode cX5_lacking 8 = .ok (.iload_n 3, 1) := by decide +kernel
theorem dX5_lacking_9 : decode cX5_lacking 9 = .ok (.iload 4, 2) := by decide +kernel
theorem dX5_lacking_11 : decode cX5_lacking 11 = .ok (.invokevirtual 189, 3) := by decide +kernel
theorem dX5_lacking_14 : decode cX5_lacking 14 = .ok (.isub, 1) := by decide +kernel
theorem dX5_lacking_15 : decode cX5_lacking 15 = .ok (.invokestatic 169, 3) := by decide +kernel
theorem dX5_lacking_18 : decode cX5_lacking 18 = .ok (.ireturn, 1) := by decide +kernel
theorem dX5_doCall_0 : decode cX5_doCall 0 = .ok (.aload_n 0, 1) := by decide +kernel
theorem dX5_doCall_1 : decode cX5_doCall 1 = .ok (.invokevirtual 215, 3) := by decide +kernel
theorem dX5_doCall_4 : decode cX5_doCall 4 = .ok (.aload_n 0, 1) := by decide +kernel
theorem dX5_doCall_5 : decode cX5_doCall 5 = .ok (.iload_n 1, 1) := by decide +kernel
theorem dX5_doCall_6 : decode cX5_doCall 6 = .ok (.aload_n 0, 1) := by decide +kernel
theorem dX5_doCall_7 : decode cX5_doCall 7 = .ok (.getfield 7, 3) := by decide +kernel
theorem dX5_doCall_10 : decode cX5_doCall 10 = .ok (.iconst 1, 1) := by decide +kernel
theorem dX5_doCall_11 : decode cX5_doCall 11 = .ok (.iaload, 1) := by decide +kernel
theorem dX5_doCall_12 : decode cX5_doCall 12 = .ok (.aload_n 0, 1) := by decide +kernel
theorem dX5_doCall_13 : decode cX5_doCall 13 = .ok (.getfield 7, 3) := by decide +kernel
theorem dX5_doCall_16 : decode cX5_doCall 16 = .ok (.iconst 4, 1) := by decide +kernel
theorem dX5_doCall_17 : decode cX5_doCall 17 = .ok (.iaload, 1) := by decide +kernel
theorem dX5_doCall_18 : decode cX5_doCall 18 = .ok (.aload_n 0, 1) := by decide +kernel
theorem dX5_doCall_19 : decode cX5_doCall 19 = .ok (.getfield 7, 3) := by decide +kernel
theorem dX5_doCall_22 : decode cX5_doCall 22 = .ok (.bipush 6, 2) := by decide +kernel
theorem dX5_doCall_24 : decode cX5_doCall 24 = .ok (.iaload, 1) := by decide +kernel
theorem dX5_doCall_25 : decode cX5_doCall 25 = .ok (.invokevirtual 218, 3) := by decide +kernel
theorem dX5_doCall_28 : decode cX5_doCall 28 = .ok (.istore_n 2, 1) := by decide +kernel
theorem dX5_doCall_29 : decode cX5_doCall 29 = .ok (.iload_n 2, 1) := by decide +kernel
theorem dX5_doCall_30 : decode cX5_doCall 30 = .ok (.aload_n 0, 1) := by decide +kernel
theorem dX5_doCall_31 : decode cX5_doCall 31 = .ok (.getfield 7, 3) := by decide +kernel
theorem dX5_doCall_34 : decode cX5_doCall 34 = .ok (.iconst 2, 1) := by decide +kernel
theorem dX5_doCall_35 : decode cX5_doCall 35 = .ok (.iaload, 1) := by decide +kernel
theorem dX5_doCall_36 : decode cX5_doCall 36 = .ok (.if_icmp .gt 7, 3) := by decide +kernel
theorem dX5_doCall_39 : decode cX5_doCall 39 = .ok (.iconst 1, 1) := by decide +kernel
theorem dX5_doCall_40 : decode cX5_doCall 40 = .ok (.goto 4, 3) := by decide +kernel
theorem dX5_doCall_43 : decode cX5_doCall 43 = .ok (.iconst 0, 1) := by decide +kernel
theorem dX5_doCall_44 : decode cX5_doCall 44 = .ok (.istore_n 3, 1) := by decide +kernel
theorem dX5_doCall_45 : decode cX5_doCall 45 = .ok (.aload_n 0, 1) := by decide +kernel
theorem dX5_doCall_46 : decode cX5_doCall 46 = .ok (.getfield 7, 3) := by decide +kernel
theorem dX5_doCall_49 : decode cX5_doCall 49 = .ok (.iconst 2, 1) := by decide +kernel
theorem dX5_doCall_50 : decode cX5_doCall 50 = .ok (.dup2, 1) := by decide +kernel
theorem dX5_doCall_51 : decode cX5_doCall 51 = .ok (.iaload, 1) := by decide +kernel
theorem dX5_doCall_52 : decode cX5_doCall 52 = .ok (.iload_n 3, 1) := by decide +kernel
theorem dX5_doCall_53 : decode cX5_doCall 53 = .ok (.ifCond .eq 7, 3) := by decide +kernel
theorem dX5_doCall_56 : decode cX5_doCall 56 = .ok (.iload_n 2, 1) := by decide +kernel
theorem dX5_doCall_57 : decode cX5_doCall 57 = .ok (.goto 4, 3) := by decide +kernel
theorem dX5_doCall_60 : decode cX5_doCall 60 = .ok (.iconst 0, 1) := by decide +kernel
theorem dX5_doCall_61 : decode cX5_doCall 61 = .ok (.isub, 1) := by decide +kernel
theorem dX5_doCall_62 : decode cX5_doCall 62 = .ok (.iastore, 1) := by decide +kernel
theorem dX5_doCall_63 : decode cX5_doCall 63 = .ok (.aload_n 0, 1) := by decide +kernel
theorem dX5_doCall_64 : decode cX5_doCall 64 = .ok (.getfield 7, 3) := by decide +kernel
theorem dX5_doCall_67 : decode cX5_doCall 67 = .ok (.iconst 3, 1) := by decide +kernel
theorem dX5_doCall_68 : decode cX5_doCall 68 = .ok (.dup2, 1) := by decide +kernel
theorem dX5_doCall_69 : decode cX5_doCall 69 = .ok (.iaload, 1) := by decide +kernel
theorem dX5_doCall_70 : decode cX5_doCall 70 = .ok (.iload_n 3, 1) := by decide +kernel
theorem dX5_doCall_71 : decode cX5_doCall 71 = .ok (.ifCond .eq 7, 3) := by decide +kernel
theorem dX5_doCall_74 : decode cX5_doCall 74 = .ok (.iload_n 2, 1) := by decide +kernel
theorem dX5_doCall_75 : decode cX5_doCall 75 = .ok (.goto 4, 3) := by decide +kernel
theorem dX5_doCall_78 : decode cX5_doCall 78 = .ok (.iconst 0, 1) := by decide +kernel
theorem dX5_doCall_79 : decode cX5_doCall 79 = .ok (.iadd, 1) := by decide +kernel
theorem dX5_doCall_80 : decode cX5_doCall 80 = .ok (.iastore, 1) := by decide +kernel
theorem dX5_doCall_81 : decode cX5_doCall 81 = .ok (.aload_n 0, 1) := by decide +kernel
theorem dX5_doCall_82 : decode cX5_doCall 82 = .ok (.getfield 7, 3) := by decide +kernel
theorem dX5_doCall_85 : decode cX5_doCall 85 = .ok (.iconst 4, 1) := by decide +kernel
theorem dX5_doCall_86 : decode cX5_doCall 86 = .ok (.dup2, 1) := by decide +kernel
theorem dX5_doCall_87 : decode cX5_doCall 87 = .ok (.iaload, 1) := by decide +kernel
theorem dX5_doCall_88 : decode cX5_doCall 88 = .ok (.iload_n 3, 1) := by decide +kernel
theorem dX5_doCall_89 : decode cX5_doCall 89 = .ok (.ifCond .ne 7, 3) := by decide +kernel
theorem dX5_doCall_92 : decode cX5_doCall 92 = .ok (.iconst (-1), 1) := by decide +kernel
theorem dX5_doCall_93 : decode cX5_doCall 93 = .ok (.goto 12, 3) := by decide +kernel
theorem dX5_doCall_96 : decode cX5_doCall 96 = .ok (.iload_n 2, 1) := by decide +kernel
theorem dX5_doCall_97 : decode cX5_doCall 97 = .ok (.ifCond .ne 7, 3) := by decide +kernel
theorem dX5_doCall_100 : decode cX5_doCall 100 = .ok (.iconst 2, 1) := by decide +kernel
theorem dX5_doCall_101 : decode cX5_doCall 101 = .ok (.goto 4, 3) := by decide +kernel
theorem dX5_doCall_104 : decode cX5_doCall 104 = .ok (.iconst 1, 1) := by decide +kernel
theorem dX5_doCall_105 : decode cX5_doCall 105 = .ok (.iadd, 1) := by decide +kernel
theorem dX5_doCall_106 : decode cX5_doCall 106 = .ok (.iastore, 1) := by decide +kernel
theorem dX5_doCall_107 : decode cX5_doCall 107 = .ok (.aload_n 0, 1) := by decide +kernel
theorem dX5_doCall_108 : decode cX5_doCall 108 = .ok (.getfield 7, 3) := by decide +kernel
theorem dX5_doCall_111 : decode cX5_doCall 111 = .ok (.iconst 5, 1) := by decide +kernel
theorem dX5_doCall_112 : decode cX5_doCall 112 = .ok (.dup2, 1) := by decide +kernel
theorem dX5_doCall_113 : decode cX5_doCall 113 = .ok (.iaload, 1) := by decide +kernel
theorem dX5_doCall_114 : decode cX5_doCall 114 = .ok (.iload_n 3, 1) := by decide +kernel
theorem dX5_doCall_115 : decode cX5_doCall 115 = .ok (.ifCond .eq 7, 3) := by decide +kernel
theorem dX5_doCall_118 : decode cX5_doCall 118 = .ok (.iconst 1, 1) := by decide +kernel
theorem dX5_doCall_119 : decode cX5_doCall 119 = .ok (.goto 4, 3) := by decide +kernel
theorem dX5_doCall_122 : decode cX5_doCall 122 = .ok (.iconst 0, 1) := by decide +kernel
theorem dX5_doCall_123 : decode cX5_doCall 123 = .ok (.iadd, 1) := by decide +kernel
theorem dX5_doCall_124 : decode cX5_doCall 124 = .ok (.iastore, 1) := by decide +kernel
theorem dX5_doCall_125 : decode cX5_doCall 125 = .ok (.aload_n 0, 1) := by decide +kernel
theorem dX5_doCall_126 : decode cX5_doCall 126 = .ok (.getfield 7, 3) := by decide +kernel
theorem dX5_doCall_129 : decode cX5_doCall 129 = .ok (.bipush 6, 2) := by decide +kernel
theorem dX5_doCall_131 : decode cX5_doCall 131 = .ok (.dup2, 1) := by decide +kernel
theorem dX5_doCall_132 : decode cX5_doCall 132 = .ok (.iaload, 1) := by decide +kernel
theorem dX5_doCall_133 : decode cX5_doCall 133 = .ok (.iconst 1, 1) := by decide +kernel
theorem dX5_doCall_134 : decode cX5_doCall 134 = .ok (.iload_n 1, 1) := by decide +kernel
theorem dX5_doCall_135 : decode cX5_doCall 135 = .ok (.ishl, 1) := by decide +kernel
theorem dX5_doCall_136 : decode cX5_doCall 136 = .ok (.ior, 1) := by decide +kernel
theorem dX5_doCall_137 : decode cX5_doCall 137 = .ok (.iastore, 1) := by decide +kernel
theorem dX5_doCall_138 : decode cX5_doCall 138 = .ok (.aload_n 0, 1) := by decide +kernel
theorem dX5_doCall_139 : decode cX5_doCall 139 = .ok (.getfield 7, 3) := by decide +kernel
theorem dX5_doCall_142 : decode cX5_doCall 142 = .ok (.iconst 1, 1) := by decide +kernel
theorem dX5_doCall_143 : decode cX5_doCall 143 = .ok (.dup2, 1) := by decide +kernel
theorem dX5_doCall_144 : decode cX5_doCall 144 = .ok (.iaload, 1) := by decide +kernel
theorem dX5_doCall_145 : decode cX5_doCall 145 = .ok (.iconst 1, 1) := by decide +kernel
theorem dX5_doCall_146 : decode cX5_doCall 146 = .ok (.iadd, 1) := by decide +kernel
theorem dX5_doCall_147 : decode cX5_doCall 147 = .ok (.iastore, 1) := by decide +kernel
theorem dX5_doCall_148 : decode cX5_doCall 148 = .ok (.iload_n 3, 1) := by decide +kernel
theorem dX5_doCall_149 : decode cX5_doCall 149 = .ok (.ifCond .eq 7, 3) := by decide +kernel
theorem dX5_doCall_152 : decode cX5_doCall 152 = .ok (.iconst 1, 1) := by decide +kernel
theorem dX5_doCall_153 : decode cX5_doCall 153 = .ok (.goto 4, 3) := by decide +kernel
theorem dX5_doCall_156 : decode cX5_doCall 156 = .ok (.iconst 0, 1) := by decide +kernel
theorem dX5_doCall_157 : decode cX5_doCall 157 = .ok (.ireturn, 1) := by decide +kernel
theorem dX5_isOver_0 : decode cX5_isOver 0 = .ok (.aload_n 0, 1) := by decide +kernel
theorem dX5_isOver_1 : decode cX5_isOver 1 = .ok (.getfield 7, 3) := by decide +kernel
theorem dX5_isOver_4 : decode cX5_isOver 4 = .ok (.iconst 1, 1) := by decide +kernel
theorem dX5_isOver_5 : decode cX5_isOver 5 = .ok (.iaload, 1) := by decide +kernel
theorem dX5_isOver_6 : decode cX5_isOver 6 = .ok (.aload_n 0, 1) := by decide +kernel
theorem dX5_isOver_7 : decode cX5_isOver 7 = .ok (.getfield 160, 3) := by decide +kernel
theorem dX5_isOver_10 : decode cX5_isOver 10 = .ok (.if_icmp .ne 7, 3) := by decide +kernel
theorem dX5_isOver_13 : decode cX5_isOver 13 = .ok (.iconst 1, 1) := by decide +kernel
theorem dX5_isOver_14 : decode cX5_isOver 14 = .ok (.goto 4, 3) := by decide +kernel
theorem dX5_isOver_17 : decode cX5_isOver 17 = .ok (.iconst 0, 1) := by decide +kernel
theorem dX5_isOver_18 : decode cX5_isOver 18 = .ok (.ireturn, 1) := by decide +kernel
theorem dX5_call_0 : decode cX5_call 0 = .ok (.aload_n 0, 1) := by decide +kernel
theorem dX5_call_1 : decode cX5_call 1 = .ok (.iload_n 1, 1) := by decide +kernel
theorem dX5_call_2 : decode cX5_call 2 = .ok (.invokevirtual 198, 3) := by decide +kernel
theorem dX5_call_5 : decode cX5_call 5 = .ok (.ifCond .ne 5, 3) := by decide +kernel
theorem dX5_call_8 : decode cX5_call 8 = .ok (.iconst (-1), 1) := by decide +kernel
theorem dX5_call_9 : decode cX5_call 9 = .ok (.ireturn, 1) := by decide +kernel
theorem dX5_call_10 : decode cX5_call 10 = .ok (.aload_n 0, 1) := by decide +kernel
theorem dX5_call_11 : decode cX5_call 11 = .ok (.invokevirtual 222, 3) := by decide +kernel
theorem dX5_call_14 : decode cX5_call 14 = .ok (.ifCond .ne 18, 3) := by decide +kernel
theorem dX5_call_17 : decode cX5_call 17 = .ok (.aload_n 0, 1) := by decide +kernel
theorem dX5_call_18 : decode cX5_call 18 = .ok (.iload_n 1, 1) := by decide +kernel
theorem dX5_call_19 : decode cX5_call 19 = .ok (.aload_n 0, 1) := by decide +kernel
theorem dX5_call_20 : decode cX5_call 20 = .ok (.getfield 7, 3) := by decide +kernel
theorem dX5_call_23 : decode cX5_call 23 = .ok (.bipush 6, 2) := by decide +kernel
theorem dX5_call_25 : decode cX5_call 25 = .ok (.iaload, 1) := by decide +kernel
theorem dX5_call_26 : decode cX5_call 26 = .ok (.invokevirtual 195, 3) := by decide +kernel
theorem dX5_call_29 : decode cX5_call 29 = .ok (.ifCond .ne 6, 3) := by decide +kernel
theorem dX5_call_32 : decode cX5_call 32 = .ok (.bipush (-4), 2) := by decide +kernel
theorem dX5_call_34 : decode cX5_call 34 = .ok (.ireturn, 1) := by decide +kernel
theorem dX5_call_35 : decode cX5_call 35 = .ok (.aload_n 0, 1) := by decide +kernel
theorem dX5_call_36 : decode cX5_call 36 = .ok (.getfield 7, 3) := by decide +kernel
theorem dX5_call_39 : decode cX5_call 39 = .ok (.iconst 0, 1) := by decide +kernel
theorem dX5_call_40 : decode cX5_call 40 = .ok (.iaload, 1) := by decide +kernel
theorem dX5_call_41 : decode cX5_call 41 = .ok (.bipush 40, 2) := by decide +kernel
theorem dX5_call_43 : decode cX5_call 43 = .ok (.if_icmp .ne 6, 3) := by decide +kernel
theorem dX5_call_46 : decode cX5_call 46 = .ok (.bipush (-2), 2) := by decide +kernel
theorem dX5_call_48 : decode cX5_call 48 = .ok (.ireturn, 1) := by decide +kernel
theorem dX5_call_49 : decode cX5_call 49 = .ok (.aload_n 0, 1) := by decide +kernel
theorem dX5_call_50 : decode cX5_call 50 = .ok (.aload_n 0, 1) := by decide +kernel
theorem dX5_call_51 : decode cX5_call 51 = .ok (.iload_n 1, 1) := by decide +kernel
theorem dX5_call_52 : decode cX5_call 52 = .ok (.aload_n 0, 1) := by decide +kernel
theorem dX5_call_53 : decode cX5_call 53 = .ok (.getfield 7, 3) := by decide +kernel
theorem dX5_call_56 : decode cX5_call 56 = .ok (.iconst 1, 1) := by decide +kernel
theorem dX5_call_57 : decode cX5_call 57 = .ok (.iaload, 1) := by decide +kernel
theorem dX5_call_58 : decode cX5_call 58 = .ok (.aload_n 0, 1) := by decide +kernel
theorem dX5_call_59 : decode cX5_call 59 = .ok (.getfield 7, 3) := by decide +kernel
theorem dX5_call_62 : decode cX5_call 62 = .ok (.iconst 4, 1) := by decide +kernel
theorem dX5_call_63 : decode cX5_call 63 = .ok (.iaload, 1) := by decide +kernel
theorem dX5_call_64 : decode cX5_call 64 = .ok (.aload_n 0, 1) := by decide +kernel
theorem dX5_call_65 : decode cX5_call 65 = .ok (.getfield 7, 3) := by decide +kernel
theorem dX5_call_68 : decode cX5_call 68 = .ok (.bipush 6, 2) := by decide +kernel
theorem dX5_call_70 : decode cX5_call 70 = .ok (.iaload, 1) := by decide +kernel
theorem dX5_call_71 : decode cX5_call 71 = .ok (.invokevirtual 218, 3) := by decide +kernel
theorem dX5_call_74 : decode cX5_call 74 = .ok (.putfield 72, 3) := by decide +kernel
theorem dX5_call_77 : decode cX5_call 77 = .ok (.aload_n 0, 1) := by decide +kernel
theorem dX5_call_78 : decode cX5_call 78 = .ok (.iload_n 1, 1) := by decide +kernel
theorem dX5_call_79 : decode cX5_call 79 = .ok (.invokevirtual 225, 3) := by decide +kernel
theorem dX5_call_82 : decode cX5_call 82 = .ok (.ireturn, 1) := by decide +kernel
theorem dX5_doCut_0 : decode cX5_doCut 0 = .ok (.aload_n 0, 1) := by decide +kernel
theorem dX5_doCut_1 : decode cX5_doCut 1 = .ok (.invokevirtual 215, 3) := by decide +kernel
theorem dX5_doCut_4 : decode cX5_doCut 4 = .ok (.aload_n 0, 1) := by decide +kernel
theorem dX5_doCut_5 : decode cX5_doCut 5 = .ok (.getfield 7, 3) := by decide +kernel
theorem dX5_doCut_8 : decode cX5_doCut 8 = .ok (.iconst 1, 1) := by decide +kernel
theorem dX5_doCut_9 : decode cX5_doCut 9 = .ok (.dup2, 1) := by decide +kernel
theorem dX5_doCut_10 : decode cX5_doCut 10 = .ok (.iaload, 1) := by decide +kernel
theorem dX5_doCut_11 : decode cX5_doCut 11 = .ok (.iconst 1, 1) := by decide +kernel
theorem dX5_doCut_12 : decode cX5_doCut 12 = .ok (.iadd, 1) := by decide +kernel
theorem dX5_doCut_13 : decode cX5_doCut 13 = .ok (.iastore, 1) := by decide +kernel
theorem dX5_doCut_14 : decode cX5_doCut 14 = .ok (.return_, 1) := by decide +kernel
theorem dX5_cut_0 : decode cX5_cut 0 = .ok (.aload_n 0, 1) := by decide +kernel
theorem dX5_cut_1 : decode cX5_cut 1 = .ok (.invokevirtual 222, 3) := by decide +kernel
theorem dX5_cut_4 : decode cX5_cut 4 = .ok (.ifCond .eq 6, 3) := by decide +kernel
theorem dX5_cut_7 : decode cX5_cut 7 = .ok (.bipush (-4), 2) := by decide +kernel
theorem dX5_cut_9 : decode cX5_cut 9 = .ok (.ireturn, 1) := by decide +kernel
theorem dX5_cut_10 : decode cX5_cut 10 = .ok (.aload_n 0, 1) := by decide +kernel
theorem dX5_cut_11 : decode cX5_cut 11 = .ok (.getfield 7, 3) := by decide +kernel
theorem dX5_cut_14 : decode cX5_cut 14 = .ok (.iconst 0, 1) := by decide +kernel
theorem dX5_cut_15 : decode cX5_cut 15 = .ok (.iaload, 1) := by decide +kernel
theorem dX5_cut_16 : decode cX5_cut 16 = .ok (.bipush 40, 2) := by decide +kernel
theorem dX5_cut_18 : decode cX5_cut 18 = .ok (.if_icmp .ne 6, 3) := by decide +kernel
theorem dX5_cut_21 : decode cX5_cut 21 = .ok (.bipush (-2), 2) := by decide +kernel
theorem dX5_cut_23 : decode cX5_cut 23 = .ok (.ireturn, 1) := by decide +kernel
theorem dX5_cut_24 : decode cX5_cut 24 = .ok (.aload_n 0, 1) := by decide +kernel
theorem dX5_cut_25 : decode cX5_cut 25 = .ok (.invokevirtual 228, 3) := by decide +kernel
theorem dX5_cut_28 : decode cX5_cut 28 = .ok (.aload_n 0, 1) := by decide +kernel
theorem dX5_cut_29 : decode cX5_cut 29 = .ok (.getfield 7, 3) := by decide +kernel
theorem dX5_cut_32 : decode cX5_cut 32 = .ok (.iconst 1, 1) := by decide +kernel
theorem dX5_cut_33 : decode cX5_cut 33 = .ok (.iaload, 1) := by decide +kernel
theorem dX5_cut_34 : decode cX5_cut 34 = .ok (.ireturn, 1) := by decide +kernel
theorem dX5_swapSeats_0 : decode cX5_swapSeats 0 = .ok (.aload_n 0, 1) := by decide +kernel
theorem dX5_swapSeats_1 : decode cX5_swapSeats 1 = .ok (.getfield 7, 3) := by decide +kernel
theorem dX5_swapSeats_4 : decode cX5_swapSeats 4 = .ok (.bipush 7, 2) := by decide +kernel
theorem dX5_swapSeats_6 : decode cX5_swapSeats 6 = .ok (.iload_n 1, 1) := by decide +kernel
theorem dX5_swapSeats_7 : decode cX5_swapSeats 7 = .ok (.iadd, 1) := by decide +kernel
theorem dX5_swapSeats_8 : decode cX5_swapSeats 8 = .ok (.iaload, 1) := by decide +kernel
theorem dX5_swapSeats_9 : decode cX5_swapSeats 9 = .ok (.istore_n 3, 1) := by decide +kernel
theorem dX5_swapSeats_10 : decode cX5_swapSeats 10 = .ok (.aload_n 0, 1) := by decide +kernel
theorem dX5_swapSeats_11 : decode cX5_swapSeats 11 = .ok (.getfield 7, 3) := by decide +kernel
theorem dX5_swapSeats_14 : decode cX5_swapSeats 14 = .ok (.bipush 7, 2) := by decide +kernel
theorem dX5_swapSeats_16 : decode cX5_swapSeats 16 = .ok (.iload_n 1, 1) := by decide +kernel
theorem dX5_swapSeats_17 : decode cX5_swapSeats 17 = .ok (.iadd, 1) := by decide +kernel
theorem dX5_swapSeats_18 : decode cX5_swapSeats 18 = .ok (.aload_n 0, 1) := by decide +kernel
theorem dX5_swapSeats_19 : decode cX5_swapSeats 19 = .ok (.getfield 7, 3) := by decide +kernel
theorem dX5_swapSeats_22 : decode cX5_swapSeats 22 = .ok (.bipush 7, 2) := by decide +kernel
theorem dX5_swapSeats_24 : decode cX5_swapSeats 24 = .ok (.iload_n 2, 1) := by decide +kernel
theorem dX5_swapSeats_25 : decode cX5_swapSeats 25 = .ok (.iadd, 1) := by decide +kernel
theorem dX5_swapSeats_26 : decode cX5_swapSeats 26 = .ok (.iaload, 1) := by decide +kernel
theorem dX5_swapSeats_27 : decode cX5_swapSeats 27 = .ok (.iastore, 1) := by decide +kernel
theorem dX5_swapSeats_28 : decode cX5_swapSeats 28 = .ok (.aload_n 0, 1) := by decide +kernel
theorem dX5_swapSeats_29 : decode cX5_swapSeats 29 = .ok (.getfield 7, 3) := by decide +kernel
theorem dX5_swapSeats_32 : decode cX5_swapSeats 32 = .ok (.bipush 7, 2) := by decide +kernel
theorem dX5_swapSeats_34 : decode cX5_swapSeats 34 = .ok (.iload_n 2, 1) := by decide +kernel
theorem dX5_swapSeats_35 : decode cX5_swapSeats 35 = .ok (.iadd, 1) := by decide +kernel
theorem dX5_swapSeats_36 : decode cX5_swapSeats 36 = .ok (.iload_n 3, 1) := by decide +kernel
theorem dX5_swapSeats_37 : decode cX5_swapSeats 37 = .ok (.iastore, 1) := by decide +kernel
theorem dX5_swapSeats_38 : decode cX5_swapSeats 38 = .ok (.return_, 1) := by decide +kernel
theorem dX5_canBits_0 : decode cX5_canBits 0 = .ok (.iconst 0, 1) := by decide +kernel
theorem dX5_canBits_1 : decode cX5_canBits 1 = .ok (.istore_n 2, 1) := by decide +kernel
theorem dX5_canBits_2 : decode cX5_canBits 2 = .ok (.iconst 0, 1) := by decide +kernel
theorem dX5_canBits_3 : decode cX5_canBits 3 = .ok (.istore_n 3, 1) := by decide +kernel
theorem dX5_canBits_4 : decode cX5_canBits 4 = .ok (.iload_n 3, 1) := by decide +kernel
theorem dX5_canBits_5 : decode cX5_canBits 5 = .ok (.aload_n 0, 1) := by decide +kernel
theorem dX5_canBits_6 : decode cX5_canBits 6 = .ok (.getfield 163, 3) := by decide +kernel
theorem dX5_canBits_9 : decode cX5_canBits 9 = .ok (.if_icmp .ge 28, 3) := by decide +kernel
theorem dX5_canBits_12 : decode cX5_canBits 12 = .ok (.iload_n 2, 1) := by decide +kernel
theorem dX5_canBits_13 : decode cX5_canBits 13 = .ok (.aload_n 0, 1) := by decide +kernel
theorem dX5_canBits_14 : decode cX5_canBits 14 = .ok (.iload_n 3, 1) := by decide +kernel
theorem dX5_canBits_15 : decode cX5_canBits 15 = .ok (.iload_n 1, 1) := by decide +kernel
theorem dX5_canBits_16 : decode cX5_canBits 16 = .ok (.invokevirtual 195, 3) := by decide +kernel
theorem dX5_canBits_19 : decode cX5_canBits 19 = .ok (.ifCond .eq 9, 3) := by decide +kernel
theorem dX5_canBits_22 : decode cX5_canBits 22 = .ok (.iconst 1, 1) := by decide +kernel
theorem dX5_canBits_23 : decode cX5_canBits 23 = .ok (.iload_n 3, 1) := by decide +kernel
theorem dX5_canBits_24 : decode cX5_canBits 24 = .ok (.ishl, 1) := by decide +kernel
theorem dX5_canBits_25 : decode cX5_canBits 25 = .ok (.goto 4, 3) := by decide +kernel
theorem dX5_canBits_28 : decode cX5_canBits 28 = .ok (.iconst 0, 1) := by decide +kernel
theorem dX5_canBits_29 : decode cX5_canBits 29 = .ok (.ior, 1) := by decide +kernel
theorem dX5_canBits_30 : decode cX5_canBits 30 = .ok (.istore_n 2, 1) := by decide +kernel
theorem dX5_canBits_31 : decode cX5_canBits 31 = .ok (.iinc 3 1, 3) := by decide +kernel
theorem dX5_canBits_34 : decode cX5_canBits 34 = .ok (.goto (-30), 3) := by decide +kernel
theorem dX5_canBits_37 : decode cX5_canBits 37 = .ok (.iload_n 2, 1) := by decide +kernel
theorem dX5_canBits_38 : decode cX5_canBits 38 = .ok (.ireturn, 1) := by decide +kernel
theorem dX5_change_0 : decode cX5_change 0 = .ok (.aload_n 0, 1) := by decide +kernel
theorem dX5_change_1 : decode cX5_change 1 = .ok (.iload_n 1, 1) := by decide +kernel
theorem dX5_change_2 : decode cX5_change 2 = .ok (.invokevirtual 198, 3) := by decide +kernel
theorem dX5_change_5 : decode cX5_change 5 = .ok (.ifCond .eq 16, 3) := by decide +kernel
theorem dX5_change_8 : decode cX5_change 8 = .ok (.aload_n 0, 1) := by decide +kernel
theorem dX5_change_9 : decode cX5_change 9 = .ok (.iload_n 2, 1) := by decide +kernel
theorem dX5_change_10 : decode cX5_change 10 = .ok (.invokevirtual 198, 3) := by decide +kernel
theorem dX5_change_13 : decode cX5_change 13 = .ok (.ifCond .eq 8, 3) := by decide +kernel
theorem dX5_change_16 : decode cX5_change 16 = .ok (.iload_n 1, 1) := by decide +kernel
theorem dX5_change_17 : decode cX5_change 17 = .ok (.iload_n 2, 1) := by decide +kernel
theorem dX5_change_18 : decode cX5_change 18 = .ok (.if_icmp .ne 5, 3) := by decide +kernel
theorem dX5_change_21 : decode cX5_change 21 = .ok (.iconst (-1), 1) := by decide +kernel
theorem dX5_change_22 : decode cX5_change 22 = .ok (.ireturn, 1) := by decide +kernel
theorem dX5_change_23 : decode cX5_change 23 = .ok (.aload_n 0, 1) := by decide +kernel
theorem dX5_change_24 : decode cX5_change 24 = .ok (.getfield 7, 3) := by decide +kernel
theorem dX5_change_27 : decode cX5_change 27 = .ok (.iconst 0, 1) := by decide +kernel
theorem dX5_change_28 : decode cX5_change 28 = .ok (.iaload, 1) := by decide +kernel
theorem dX5_change_29 : decode cX5_change 29 = .ok (.bipush 40, 2) := by decide +kernel
theorem dX5_change_31 : decode cX5_change 31 = .ok (.if_icmp .ne 6, 3) := by decide +kernel
theorem dX5_change_34 : decode cX5_change 34 = .ok (.bipush (-2), 2) := by decide +kernel
theorem dX5_change_36 : decode cX5_change 36 = .ok (.ireturn, 1) := by decide +kernel
theorem dX5_change_37 : decode cX5_change 37 = .ok (.aload_n 0, 1) := by decide +kernel
theorem dX5_change_38 : decode cX5_change 38 = .ok (.invokevirtual 215, 3) := by decide +kernel
theorem dX5_change_41 : decode cX5_change 41 = .ok (.aload_n 0, 1) := by decide +kernel
theorem dX5_change_42 : decode cX5_change 42 = .ok (.iload_n 1, 1) := by decide +kernel
theorem dX5_change_43 : decode cX5_change 43 = .ok (.iload_n 2, 1) := by decide +kernel
theorem dX5_change_44 : decode cX5_change 44 = .ok (.invokevirtual 231, 3) := by decide +kernel
theorem dX5_change_47 : decode cX5_change 47 = .ok (.aload_n 0, 1) := by decide +kernel
theorem dX5_change_48 : decode cX5_change 48 = .ok (.aload_n 0, 1) := by decide +kernel
theorem dX5_change_49 : decode cX5_change 49 = .ok (.getfield 7, 3) := by decide +kernel
theorem dX5_change_52 : decode cX5_change 52 = .ok (.bipush 6, 2) := by decide +kernel
theorem dX5_change_54 : decode cX5_change 54 = .ok (.iaload, 1) := by decide +kernel
theorem dX5_change_55 : decode cX5_change 55 = .ok (.invokevirtual 234, 3) := by decide +kernel
theorem dX5_change_58 : decode cX5_change 58 = .ok (.invokestatic 237, 3) := by decide +kernel
theorem dX5_change_61 : decode cX5_change 61 = .ok (.ireturn, 1) := by decide +kernel
theorem dX5_undo_0 : decode cX5_undo 0 = .ok (.iload_n 1, 1) := by decide +kernel
theorem dX5_undo_1 : decode cX5_undo 1 = .ok (.i2l, 1) := by decide +kernel
theorem dX5_undo_2 : decode cX5_undo 2 = .ok (.lconst 0, 1) := by decide +kernel
theorem dX5_undo_3 : decode cX5_undo 3 = .ok (.aload_n 0, 1) := by decide +kernel
theorem dX5_undo_4 : decode cX5_undo 4 = .ok (.getfield 7, 3) := by decide +kernel
theorem dX5_undo_7 : decode cX5_undo 7 = .ok (.iconst 0, 1) := by decide +kernel
theorem dX5_undo_8 : decode cX5_undo 8 = .ok (.iaload, 1) := by decide +kernel
theorem dX5_undo_9 : decode cX5_undo 9 = .ok (.i2l, 1) := by decide +kernel
theorem dX5_undo_10 : decode cX5_undo 10 = .ok (.invokestatic 77, 3) := by decide +kernel
theorem dX5_undo_13 : decode cX5_undo 13 = .ok (.ifCond .ne 5, 3) := by decide +kernel
theorem dX5_undo_16 : decode cX5_undo 16 = .ok (.iconst (-1), 1) := by decide +kernel
theorem dX5_undo_17 : decode cX5_undo 17 = .ok (.ireturn, 1) := by decide +kernel
theorem dX5_undo_18 : decode cX5_undo 18 = .ok (.aload_n 0, 1) := by decide +kernel
theorem dX5_undo_19 : decode cX5_undo 19 = .ok (.getfield 7, 3) := by decide +kernel
theorem dX5_undo_22 : decode cX5_undo 22 = .ok (.iconst 0, 1) := by decide +kernel
theorem dX5_undo_23 : decode cX5_undo 23 = .ok (.iaload, 1) := by decide +kernel
theorem dX5_undo_24 : decode cX5_undo 24 = .ok (.iload_n 1, 1) := by decide +kernel
theorem dX5_undo_25 : decode cX5_undo 25 = .ok (.isub, 1) := by decide +kernel
theorem dX5_undo_26 : decode cX5_undo 26 = .ok (.istore_n 2, 1) := by decide +kernel
theorem dX5_undo_27 : decode cX5_undo 27 = .ok (.iconst 0, 1) := by decide +kernel
theorem dX5_undo_28 : decode cX5_undo 28 = .ok (.istore_n 3, 1) := by decide +kernel
theorem dX5_undo_29 : decode cX5_undo 29 = .ok (.iload_n 3, 1) := by decide +kernel
theorem dX5_undo_30 : decode cX5_undo 30 = .ok (.bipush 12, 2) := by decide +kernel
theorem dX5_undo_32 : decode cX5_undo 32 = .ok (.if_icmp .ge 35, 3) := by decide +kernel
theorem dX5_undo_35 : decode cX5_undo 35 = .ok (.iload_n 2, 1) := by decide +kernel
theorem dX5_undo_36 : decode cX5_undo 36 = .ok (.ifCond .le 31, 3) := by decide +kernel
theorem dX5_undo_39 : decode cX5_undo 39 = .ok (.aload_n 0, 1) := by decide +kernel
theorem dX5_undo_40 : decode cX5_undo 40 = .ok (.getfield 7, 3) := by decide +kernel
theorem dX5_undo_43 : decode cX5_undo 43 = .ok (.iconst 1, 1) := by decide +kernel
theorem dX5_undo_44 : decode cX5_undo 44 = .ok (.iload_n 3, 1) := by decide +kernel
theorem dX5_undo_45 : decode cX5_undo 45 = .ok (.iadd, 1) := by decide +kernel
theorem dX5_undo_46 : decode cX5_undo 46 = .ok (.aload_n 0, 1) := by decide +kernel
theorem dX5_undo_47 : decode cX5_undo 47 = .ok (.getfield 7, 3) := by decide +kernel
theorem dX5_undo_50 : decode cX5_undo 50 = .ok (.bipush 13, 2) := by decide +kernel
theorem dX5_undo_52 : decode cX5_undo 52 = .ok (.bipush 12, 2) := by decide +kernel
theorem dX5_undo_54 : decode cX5_undo 54 = .ok (.iload_n 1, 1) := by decide +kernel
theorem dX5_undo_55 : decode cX5_undo 55 = .ok (.imul, 1) := by decide +kernel
theorem dX5_undo_56 : decode cX5_undo 56 = .ok (.iadd, 1) := by decide +kernel
theorem dX5_undo_57 : decode cX5_undo 57 = .ok (.iload_n 3, 1) := by decide +kernel
theorem dX5_undo_58 : decode cX5_undo 58 = .ok (.iadd, 1) := by decide +kernel
theorem dX5_undo_59 : decode cX5_undo 59 = .ok (.iaload, 1) := by decide +kernel
theorem dX5_undo_60 : decode cX5_undo 60 = .ok (.iastore, 1) := by decide +kernel
theorem dX5_undo_61 : decode cX5_undo 61 = .ok (.iinc 3 1, 3) := by decide +kernel
theorem dX5_undo_64 : decode cX5_undo 64 = .ok (.goto (-35), 3) := by decide +kernel
theorem dX5_undo_67 : decode cX5_undo 67 = .ok (.aload_n 0, 1) := by decide +kernel
theorem dX5_undo_68 : decode cX5_undo 68 = .ok (.getfield 7, 3) := by decide +kernel
theorem dX5_undo_71 : decode cX5_undo 71 = .ok (.iconst 0, 1) := by decide +kernel
theorem dX5_undo_72 : decode cX5_undo 72 = .ok (.iload_n 1, 1) := by decide +kernel
theorem dX5_undo_73 : decode cX5_undo 73 = .ok (.iastore, 1) := by decide +kernel
theorem dX5_undo_74 : decode cX5_undo 74 = .ok (.iload_n 2, 1) := by decide +kernel
theorem dX5_undo_75 : decode cX5_undo 75 = .ok (.ireturn, 1) := by decide +kernel
theorem dX5_copyHouse_0 : decode cX5_copyHouse 0 = .ok (.iconst 0, 1) := by decide +kernel
theorem dX5_copyHouse_1 : decode cX5_copyHouse 1 = .ok (.istore_n 3, 1) := by decide +kernel
theorem dX5_copyHouse_2 : decode cX5_copyHouse 2 = .ok (.iload_n 3, 1) := by decide +kernel
theorem dX5_copyHouse_3 : decode cX5_copyHouse 3 = .ok (.sipush 493, 3) := by decide +kernel
theorem dX5_copyHouse_6 : decode cX5_copyHouse 6 = .ok (.if_icmp .ge 25, 3) := by decide +kernel
theorem dX5_copyHouse_9 : decode cX5_copyHouse 9 = .ok (.aload_n 0, 1) := by decide +kernel
theorem dX5_copyHouse_10 : decode cX5_copyHouse 10 = .ok (.getfield 7, 3) := by decide +kernel
theorem dX5_copyHouse_13 : decode cX5_copyHouse 13 = .ok (.iload_n 2, 1) := by decide +kernel
theorem dX5_copyHouse_14 : decode cX5_copyHouse 14 = .ok (.iload_n 3, 1) := by decide +kernel
theorem dX5_copyHouse_15 : decode cX5_copyHouse 15 = .ok (.iadd, 1) := by decide +kernel
theorem dX5_copyHouse_16 : decode cX5_copyHouse 16 = .ok (.aload_n 0, 1) := by decide +kernel
theorem dX5_copyHouse_17 : decode cX5_copyHouse 17 = .ok (.getfield 7, 3) := by decide +kernel
theorem dX5_copyHouse_20 : decode cX5_copyHouse 20 = .ok (.iload_n 1, 1) := by decide +kernel
theorem dX5_copyHouse_21 : decode cX5_copyHouse 21 = .ok (.iload_n 3, 1) := by decide +kernel
theorem dX5_copyHouse_22 : decode cX5_copyHouse 22 = .ok (.iadd, 1) := by decide +kernel
theorem dX5_copyHouse_23 : decode cX5_copyHouse 23 = .ok (.iaload, 1) := by decide +kernel
theorem dX5_copyHouse_24 : decode cX5_copyHouse 24 = .ok (.iastore, 1) := by decide +kernel
theorem dX5_copyHouse_25 : decode cX5_copyHouse 25 = .ok (.iinc 3 1, 3) := by decide +kernel
theorem dX5_copyHouse_28 : decode cX5_copyHouse 28 = .ok (.goto (-26), 3) := by decide +kernel
theorem dX5_copyHouse_31 : decode cX5_copyHouse 31 = .ok (.return_, 1) := by decide +kernel
theorem dX5_keep_0 : decode cX5_keep 0 = .ok (.iload_n 1, 1) := by decide +kernel
theorem dX5_keep_1 : decode cX5_keep 1 = .ok (.i2l, 1) := by decide +kernel
theorem dX5_keep_2 : decode cX5_keep 2 = .ok (.lconst 0, 1) := by decide +kernel
theorem dX5_keep_3 : decode cX5_keep 3 = .ok (.ldc2_w 240, 3) := by decide +kernel
theorem dX5_keep_6 : decode cX5_keep 6 = .ok (.invokestatic 77, 3) := by decide +kernel
theorem dX5_keep_9 : decode cX5_keep 9 = .ok (.ifCond .ne 5, 3) := by decide +kernel
theorem dX5_keep_12 : decode cX5_keep 12 = .ok (.iconst (-1), 1) := by decide +kernel
theorem dX5_keep_13 : decode cX5_keep 13 = .ok (.ireturn, 1) := by decide +kernel
theorem dX5_keep_14 : decode cX5_keep 14 = .ok (.aload_n 0, 1) := by decide +kernel
theorem dX5_keep_15 : decode cX5_keep 15 = .ok (.getfield 163, 3) := by decide +kernel
theorem dX5_keep_18 : decode cX5_keep 18 = .ok (.ifCond .ne 6, 3) := by decide +kernel
theorem dX5_keep_21 : decode cX5_keep 21 = .ok (.bipush (-4), 2) := by decide +kernel
theorem dX5_keep_23 : decode cX5_keep 23 = .ok (.ireturn, 1) := by decide +kernel
theorem dX5_keep_24 : decode cX5_keep 24 = .ok (.aload_n 0, 1) := by decide +kernel
theorem dX5_keep_25 : decode cX5_keep 25 = .ok (.iconst 0, 1) := by decide +kernel
theorem dX5_keep_26 : decode cX5_keep 26 = .ok (.sipush 493, 3) := by decide +kernel
theorem dX5_keep_29 : decode cX5_keep 29 = .ok (.iconst 1, 1) := by decide +kernel
theorem dX5_keep_30 : decode cX5_keep 30 = .ok (.iload_n 1, 1) := by decide +kernel
theorem dX5_keep_31 : decode cX5_keep 31 = .ok (.iadd, 1) := by decide +kernel
theorem dX5_keep_32 : decode cX5_keep 32 = .ok (.imul, 1) := by decide +kernel
theorem dX5_keep_33 : decode cX5_keep 33 = .ok (.invokevirtual 242, 3) := by decide +kernel
theorem dX5_keep_36 : decode cX5_keep 36 = .ok (.aload_n 0, 1) := by decide +kernel
theorem dX5_keep_37 : decode cX5_keep 37 = .ok (.getfield 7, 3) := by decide +kernel
theorem dX5_keep_40 : decode cX5_keep 40 = .ok (.iconst 0, 1) := by decide +kernel
theorem dX5_keep_41 : decode cX5_keep 41 = .ok (.iaload, 1) := by decide +kernel
theorem dX5_keep_42 : decode cX5_keep 42 = .ok (.ireturn, 1) := by decide +kernel
theorem dX5_on_0 : decode cX5_on 0 = .ok (.iload_n 1, 1) := by decide +kernel
theorem dX5_on_1 : decode cX5_on 1 = .ok (.i2l, 1) := by decide +kernel
theorem dX5_on_2 : decode cX5_on 2 = .ok (.lconst 0, 1) := by decide +kernel
theorem dX5_on_3 : decode cX5_on 3 = .ok (.ldc2_w 240, 3) := by decide +kernel
theorem dX5_on_6 : decode cX5_on 6 = .ok (.invokestatic 77, 3) := by decide +kernel
theorem dX5_on_9 : decode cX5_on 9 = .ok (.ifCond .ne 5, 3) := by decide +kernel
theorem dX5_on_12 : decode cX5_on 12 = .ok (.iconst (-1), 1) := by decide +kernel
theorem dX5_on_13 : decode cX5_on 13 = .ok (.ireturn, 1) := by decide +kernel
theorem dX5_on_14 : decode cX5_on 14 = .ok (.aload_n 0, 1) := by decide +kernel
theorem dX5_on_15 : decode cX5_on 15 = .ok (.getfield 7, 3) := by decide +kernel
theorem dX5_on_18 : decode cX5_on 18 = .ok (.sipush 493, 3) := by decide +kernel
theorem dX5_on_21 : decode cX5_on 21 = .ok (.iconst 1, 1) := by decide +kernel
theorem dX5_on_22 : decode cX5_on 22 = .ok (.iload_n 1, 1) := by decide +kernel
theorem dX5_on_23 : decode cX5_on 23 = .ok (.iadd, 1) := by decide +kernel
theorem dX5_on_24 : decode cX5_on 24 = .ok (.imul, 1) := by decide +kernel
theorem dX5_on_25 : decode cX5_on 25 = .ok (.iconst 0, 1) := by decide +kernel
theorem dX5_on_26 : decode cX5_on 26 = .ok (.iadd, 1) := by decide +kernel
theorem dX5_on_27 : decode cX5_on 27 = .ok (.iaload, 1) := by decide +kernel
theorem dX5_on_28 : decode cX5_on 28 = .ok (.ifCond .ge 9, 3) := by decide +kernel
theorem dX5_on_31 : decode cX5_on 31 = .ok (.aload_n 0, 1) := by decide +kernel
theorem dX5_on_32 : decode cX5_on 32 = .ok (.iconst 1, 1) := by decide +kernel
theorem dX5_on_33 : decode cX5_on 33 = .ok (.invokevirtual 87, 3) := by decide +kernel
theorem dX5_on_36 : decode cX5_on 36 = .ok (.ireturn, 1) := by decide +kernel
theorem dX5_on_37 : decode cX5_on 37 = .ok (.aload_n 0, 1) := by decide +kernel
theorem dX5_on_38 : decode cX5_on 38 = .ok (.sipush 493, 3) := by decide +kernel
theorem dX5_on_41 : decode cX5_on 41 = .ok (.iconst 1, 1) := by decide +kernel
theorem dX5_on_42 : decode cX5_on 42 = .ok (.iload_n 1, 1) := by decide +kernel
theorem dX5_on_43 : decode cX5_on 43 = .ok (.iadd, 1) := by decide +kernel
theorem dX5_on_44 : decode cX5_on 44 = .ok (.imul, 1) := by decide +kernel
theorem dX5_on_45 : decode cX5_on 45 = .ok (.iconst 0, 1) := by decide +kernel
theorem dX5_on_46 : decode cX5_on 46 = .ok (.invokevirtual 242, 3) := by decide +kernel
theorem dX5_on_49 : decode cX5_on 49 = .ok (.aload_n 0, 1) := by decide +kernel
theorem dX5_on_50 : decode cX5_on 50 = .ok (.getfield 7, 3) := by decide +kernel
theorem dX5_on_53 : decode cX5_on 53 = .ok (.iconst 0, 1) := by decide +kernel
theorem dX5_on_54 : decode cX5_on 54 = .ok (.iaload, 1) := by decide +kernel
theorem dX5_on_55 : decode cX5_on 55 = .ok (.ireturn, 1) := by decide +kernel
theorem dX5_beginPlans_0 : decode cX5_beginPlans 0 = .ok (.aload_n 0, 1) := by decide +kernel
theorem dX5_beginPlans_1 : decode cX5_beginPlans 1 = .ok (.getfield 50, 3) := by decide +kernel
theorem dX5_beginPlans_4 : decode cX5_beginPlans 4 = .ok (.iconst 0, 1) := by decide +kernel
theorem dX5_beginPlans_5 : decode cX5_beginPlans 5 = .ok (.iload_n 1, 1) := by decide +kernel
theorem dX5_beginPlans_6 : decode cX5_beginPlans 6 = .ok (.iastore, 1) := by decide +kernel
theorem dX5_beginPlans_7 : decode cX5_beginPlans 7 = .ok (.aload_n 0, 1) := by decide +kernel
theorem dX5_beginPlans_8 : decode cX5_beginPlans 8 = .ok (.getfield 53, 3) := by decide +kernel
theorem dX5_beginPlans_11 : decode cX5_beginPlans 11 = .ok (.iconst 0, 1) := by decide +kernel
theorem dX5_beginPlans_12 : decode cX5_beginPlans 12 = .ok (.aload_n 0, 1) := by decide +kernel
theorem dX5_beginPlans_13 : decode cX5_beginPlans 13 = .ok (.getfield 7, 3) := by decide +kernel
theorem dX5_beginPlans_16 : decode cX5_beginPlans 16 = .ok (.iconst 4, 1) := by decide +kernel
theorem dX5_beginPlans_17 : decode cX5_beginPlans 17 = .ok (.iaload, 1) := by decide +kernel
theorem dX5_beginPlans_18 : decode cX5_beginPlans 18 = .ok (.iastore, 1) := by decide +kernel
theorem dX5_beginPlans_19 : decode cX5_beginPlans 19 = .ok (.aload_n 0, 1) := by decide +kernel
theorem dX5_beginPlans_20 : decode cX5_beginPlans 20 = .ok (.getfield 56, 3) := by decide +kernel
theorem dX5_beginPlans_23 : decode cX5_beginPlans 23 = .ok (.iconst 0, 1) := by decide +kernel
theorem dX5_beginPlans_24 : decode cX5_beginPlans 24 = .ok (.iconst 0, 1) := by decide +kernel
theorem dX5_beginPlans_25 : decode cX5_beginPlans 25 = .ok (.iastore, 1) := by decide +kernel
theorem dX5_beginPlans_26 : decode cX5_beginPlans 26 = .ok (.aload_n 0, 1) := by decide +kernel
theorem dX5_beginPlans_27 : decode cX5_beginPlans 27 = .ok (.getfield 59, 3) := by decide +kernel
theorem dX5_beginPlans_30 : decode cX5_beginPlans 30 = .ok (.iconst 0, 1) := by decide +kernel
theorem dX5_beginPlans_31 : decode cX5_beginPlans 31 = .ok (.aload_n 0, 1) := by decide +kernel
theorem dX5_beginPlans_32 : decode cX5_beginPlans 32 = .ok (.getfield 7, 3) := by decide +kernel
theorem dX5_beginPlans_35 : decode cX5_beginPlans 35 = .ok (.bipush 6, 2) := by decide +kernel
theorem dX5_beginPlans_37 : decode cX5_beginPlans 37 = .ok (.iaload, 1) := by decide +kernel
theorem dX5_beginPlans_38 : decode cX5_beginPlans 38 = .ok (.iastore, 1) := by decide +kernel
theorem dX5_beginPlans_39 : decode cX5_beginPlans 39 = .ok (.aload_n 0, 1) := by decide +kernel
theorem dX5_beginPlans_40 : decode cX5_beginPlans 40 = .ok (.aload_n 0, 1) := by decide +kernel
theorem dX5_beginPlans_41 : decode cX5_beginPlans 41 = .ok (.getfield 160, 3) := by decide +kernel
theorem dX5_beginPlans_44 : decode cX5_beginPlans 44 = .ok (.aload_n 0, 1) := by decide +kernel
theorem dX5_beginPlans_45 : decode cX5_beginPlans 45 = .ok (.getfield 7, 3) := by decide +kernel
theorem dX5_beginPlans_48 : decode cX5_beginPlans 48 = .ok (.iconst 1, 1) := by decide +kernel
theorem dX5_beginPlans_49 : decode cX5_beginPlans 49 = .ok (.iaload, 1) := by decide +kernel
theorem dX5_beginPlans_50 : decode cX5_beginPlans 50 = .ok (.isub, 1) := by decide +kernel
theorem dX5_beginPlans_51 : decode cX5_beginPlans 51 = .ok (.putfield 245, 3) := by decide +kernel
theorem dX5_beginPlans_54 : decode cX5_beginPlans 54 = .ok (.aload_n 0, 1) := by decide +kernel
theorem dX5_beginPlans_55 : decode cX5_beginPlans 55 = .ok (.getfield 62, 3) := by decide +kernel
theorem dX5_beginPlans_58 : decode cX5_beginPlans 58 = .ok (.iconst 0, 1) := by decide +kernel
theorem dX5_beginPlans_59 : decode cX5_beginPlans 59 = .ok (.iconst (-1), 1) := by decide +kernel
theorem dX5_beginPlans_60 : decode cX5_beginPlans 60 = .ok (.iastore, 1) := by decide +kernel
theorem dX5_beginPlans_61 : decode cX5_beginPlans 61 = .ok (.aload_n 0, 1) := by decide +kernel
theorem dX5_beginPlans_62 : decode cX5_beginPlans 62 = .ok (.iconst 0, 1) := by decide +kernel
theorem dX5_beginPlans_63 : decode cX5_beginPlans 63 = .ok (.putfield 248, 3) := by decide +kernel
theorem dX5_beginPlans_66 : decode cX5_beginPlans 66 = .ok (.return_, 1) := by decide +kernel
theorem dX5_choose_0 : decode cX5_choose 0 = .ok (.iload_n 2, 1) := by decide +kernel
theorem dX5_choose_1 : decode cX5_choose 1 = .ok (.iconst 1, 1) := by decide +kernel
theorem dX5_choose_2 : decode cX5_choose 2 = .ok (.isub, 1) := by decide +kernel
theorem dX5_choose_3 : decode cX5_choose 3 = .ok (.istore_n 3, 1) := by decide +kernel
theorem dX5_choose_4 : decode cX5_choose 4 = .ok (.iload_n 3, 1) := by decide +kernel
theorem dX5_choose_5 : decode cX5_choose 5 = .ok (.ifCond .ge 7, 3) := by decide +kernel
theorem dX5_choose_8 : decode cX5_choose 8 = .ok (.iconst 0, 1) := by decide +kernel
theorem dX5_choose_9 : decode cX5_choose 9 = .ok (.goto 28, 3) := by decide +kernel
theorem dX5_choose_12 : decode cX5_choose 12 = .ok (.aload_n 0, 1) := by decide +kernel
theorem dX5_choose_13 : decode cX5_choose 13 = .ok (.iload_n 3, 1) := by decide +kernel
theorem dX5_choose_14 : decode cX5_choose 14 = .ok (.aload_n 0, 1) := by decide +kernel
theorem dX5_choose_15 : decode cX5_choose 15 = .ok (.getfield 7, 3) := by decide +kernel
theorem dX5_choose_18 : decode cX5_choose 18 = .ok (.iconst 1, 1) := by decide +kernel
theorem dX5_choose_19 : decode cX5_choose 19 = .ok (.iaload, 1) := by decide +kernel
theorem dX5_choose_20 : decode cX5_choose 20 = .ok (.iload_n 1, 1) := by decide +kernel
theorem dX5_choose_21 : decode cX5_choose 21 = .ok (.iadd, 1) := by decide +kernel
theorem dX5_choose_22 : decode cX5_choose 22 = .ok (.aload_n 0, 1) := by decide +kernel
theorem dX5_choose_23 : decode cX5_choose 23 = .ok (.getfield 53, 3) := by decide +kernel
theorem dX5_choose_26 : decode cX5_choose 26 = .ok (.iload_n 1, 1) := by decide +kernel
theorem dX5_choose_27 : decode cX5_choose 27 = .ok (.iaload, 1) := by decide +kernel
theorem dX5_choose_28 : decode cX5_choose 28 = .ok (.aload_n 0, 1) := by decide +kernel
theorem dX5_choose_29 : decode cX5_choose 29 = .ok (.getfield 59, 3) := by decide +kernel
theorem dX5_choose_32 : decode cX5_choose 32 = .ok (.iload_n 1, 1) := by decide +kernel
theorem dX5_choose_33 : decode cX5_choose 33 = .ok (.iaload, 1) := by decide +kernel
theorem dX5_choose_34 : decode cX5_choose 34 = .ok (.invokevirtual 218, 3) := by decide +kernel
theorem dX5_choose_37 : decode cX5_choose 37 = .ok (.istore 4, 2) := by decide +kernel
theorem dX5_choose_39 : decode cX5_choose 39 = .ok (.iload_n 3, 1) := by decide +kernel
theorem dX5_choose_40 : decode cX5_choose 40 = .ok (.ifCond .lt 18, 3) := by decide +kernel
theorem dX5_choose_43 : decode cX5_choose 43 = .ok (.iload 4, 2) := by decide +kernel
theorem dX5_choose_45 : decode cX5_choose 45 = .ok (.aload_n 0, 1) := by decide +kernel
theorem dX5_choose_46 : decode cX5_choose 46 = .ok (.getfield 50, 3) := by decide +kernel
theorem dX5_choose_49 : decode cX5_choose 49 = .ok (.iload_n 1, 1) := by decide +kernel
theorem dX5_choose_50 : decode cX5_choose 50 = .ok (.iaload, 1) := by decide +kernel
theorem dX5_choose_51 : decode cX5_choose 51 = .ok (.if_icmp .gt 7, 3) := by decide +kernel
theorem dX5_choose_54 : decode cX5_choose 54 = .ok (.iconst 1, 1) := by decide +kernel
theorem dX5_choose_55 : decode cX5_choose 55 = .ok (.goto 4, 3) := by decide +kernel
theorem dX5_choose_58 : decode cX5_choose 58 = .ok (.iconst 0, 1) := by decide +kernel
theorem dX5_choose_59 : decode cX5_choose 59 = .ok (.istore 5, 2) := by decide +kernel
theorem dX5_choose_61 : decode cX5_choose 61 = .ok (.aload_n 0, 1) := by decide +kernel
theorem dX5_choose_62 : decode cX5_choose 62 = .ok (.getfield 62, 3) := by decide +kernel
theorem dX5_choose_65 : decode cX5_choose 65 = .ok (.iload_n 1, 1) := by decide +kernel
theorem dX5_choose_66 : decode cX5_choose 66 = .ok (.iload_n 2, 1) := by decide +kernel
theorem dX5_choose_67 : decode cX5_choose 67 = .ok (.iastore, 1) := by decide +kernel
theorem dX5_choose_68 : decode cX5_choose 68 = .ok (.aload_n 0, 1) := by decide +kernel
theorem dX5_choose_69 : decode cX5_choose 69 = .ok (.getfield 50, 3) := by decide +kernel
theorem dX5_choose_72 : decode cX5_choose 72 = .ok (.iload_n 1, 1) := by decide +kernel
theorem dX5_choose_73 : decode cX5_choose 73 = .ok (.iconst 1, 1) := by decide +kernel
theorem dX5_choose_74 : decode cX5_choose 74 = .ok (.iadd, 1) := by decide +kernel
theorem dX5_choose_75 : decode cX5_choose 75 = .ok (.aload_n 0, 1) := by decide +kernel
theorem dX5_choose_76 : decode cX5_choose 76 = .ok (.getfield 50, 3) := by decide +kernel
theorem dX5_choose_79 : decode cX5_choose 79 = .ok (.iload_n 1, 1) := by decide +kernel
theorem dX5_choose_80 : decode cX5_choose 80 = .ok (.iaload, 1) := by decide +kernel
theorem dX5_choose_81 : decode cX5_choose 81 = .ok (.iload 5, 2) := by decide +kernel
theorem dX5_choose_83 : decode cX5_choose 83 = .ok (.ifCond .eq 8, 3) := by decide +kernel
theorem dX5_choose_86 : decode cX5_choose 86 = .ok (.iload 4, 2) := by decide +kernel
theorem dX5_choose_88 : decode cX5_choose 88 = .ok (.goto 4, 3) := by decide +kernel
theorem dX5_choose_91 : decode cX5_choose 91 = .ok (.iconst 0, 1) := by decide +kernel
theorem dX5_choose_92 : decode cX5_choose 92 = .ok (.isub, 1) := by decide +kernel
theorem dX5_choose_93 : decode cX5_choose 93 = .ok (.iastore, 1) := by decide +kernel
theorem dX5_choose_94 : decode cX5_choose 94 = .ok (.aload_n 0, 1) := by decide +kernel
theorem dX5_choose_95 : decode cX5_choose 95 = .ok (.getfield 53, 3) := by decide +kernel
theorem dX5_choose_98 : decode cX5_choose 98 = .ok (.iload_n 1, 1) := by decide +kernel
theorem dX5_choose_99 : decode cX5_choose 99 = .ok (.iconst 1, 1) := by decide +kernel
theorem dX5_choose_100 : decode cX5_choose 100 = .ok (.iadd, 1) := by decide +kernel
theorem dX5_choose_101 : decode cX5_choose 101 = .ok (.aload_n 0, 1) := by decide +kernel
theorem dX5_choose_102 : decode cX5_choose 102 = .ok (.getfield 53, 3) := by decide +kernel
theorem dX5_choose_105 : decode cX5_choose 105 = .ok (.iload_n 1, 1) := by decide +kernel
theorem dX5_choose_106 : decode cX5_choose 106 = .ok (.iaload, 1) := by decide +kernel
theorem dX5_choose_107 : decode cX5_choose 107 = .ok (.iload_n 3, 1) := by decide +kernel
theorem dX5_choose_108 : decode cX5_choose 108 = .ok (.ifCond .ge 7, 3) := by decide +kernel
theorem dX5_choose_111 : decode cX5_choose 111 = .ok (.iconst 0, 1) := by decide +kernel
theorem dX5_choose_112 : decode cX5_choose 112 = .ok (.goto 22, 3) := by decide +kernel
theorem dX5_choose_115 : decode cX5_choose 115 = .ok (.iload 5, 2) := by decide +kernel
theorem dX5_choose_117 : decode cX5_choose 117 = .ok (.ifCond .ne 7, 3) := by decide +kernel
theorem dX5_choose_120 : decode cX5_choose 120 = .ok (.iconst (-1), 1) := by decide +kernel
theorem dX5_choose_121 : decode cX5_choose 121 = .ok (.goto 13, 3) := by decide +kernel
theorem dX5_choose_124 : decode cX5_choose 124 = .ok (.iload 4, 2) := by decide +kernel
theorem dX5_choose_126 : decode cX5_choose 126 = .ok (.ifCond .ne 7, 3) := by decide +kernel
theorem dX5_choose_129 : decode cX5_choose 129 = .ok (.iconst 2, 1) := by decide +kernel
theorem dX5_choose_130 : decode cX5_choose 130 = .ok (.goto 4, 3) := by decide +kernel
theorem dX5_choose_133 : decode cX5_choose 133 = .ok (.iconst 1, 1) := by decide +kernel
theorem dX5_choose_134 : decode cX5_choose 134 = .ok (.iadd, 1) := by decide +kernel
theorem dX5_choose_135 : decode cX5_choose 135 = .ok (.iastore, 1) := by decide +kernel
theorem dX5_choose_136 : decode cX5_choose 136 = .ok (.aload_n 0, 1) := by decide +kernel
theorem dX5_choose_137 : decode cX5_choose 137 = .ok (.getfield 56, 3) := by decide +kernel
theorem dX5_choose_140 : decode cX5_choose 140 = .ok (.iload_n 1, 1) := by decide +kernel
theorem dX5_choose_141 : decode cX5_choose 141 = .ok (.iconst 1, 1) := by decide +kernel
theorem dX5_choose_142 : decode cX5_choose 142 = .ok (.iadd, 1) := by decide +kernel
theorem dX5_choose_143 : decode cX5_choose 143 = .ok (.aload_n 0, 1) := by decide +kernel
theorem dX5_choose_144 : decode cX5_choose 144 = .ok (.getfield 56, 3) := by decide +kernel
theorem dX5_choose_147 : decode cX5_choose 147 = .ok (.iload_n 1, 1) := by decide +kernel
theorem dX5_choose_148 : decode cX5_choose 148 = .ok (.iaload, 1) := by decide +kernel
theorem dX5_choose_149 : decode cX5_choose 149 = .ok (.iload 5, 2) := by decide +kernel
theorem dX5_choose_151 : decode cX5_choose 151 = .ok (.ifCond .eq 7, 3) := by decide +kernel
theorem dX5_choose_154 : decode cX5_choose 154 = .ok (.iconst 1, 1) := by decide +kernel
theorem dX5_choose_155 : decode cX5_choose 155 = .ok (.goto 4, 3) := by decide +kernel
theorem dX5_choose_158 : decode cX5_choose 158 = .ok (.iconst 0, 1) := by decide +kernel
theorem dX5_choose_159 : decode cX5_choose 159 = .ok (.iadd, 1) := by decide +kernel
theorem dX5_choose_160 : decode cX5_choose 160 = .ok (.iastore, 1) := by decide +kernel
theorem dX5_choose_161 : decode cX5_choose 161 = .ok (.aload_n 0, 1) := by decide +kernel
theorem dX5_choose_162 : decode cX5_choose 162 = .ok (.getfield 59, 3) := by decide +kernel
theorem dX5_choose_165 : decode cX5_choose 165 = .ok (.iload_n 1, 1) := by decide +kernel
theorem dX5_choose_166 : decode cX5_choose 166 = .ok (.iconst 1, 1) := by decide +kernel
theorem dX5_choose_167 : decode cX5_choose 167 = .ok (.iadd, 1) := by decide +kernel
theorem dX5_choose_168 : decode cX5_choose 168 = .ok (.aload_n 0, 1) := by decide +kernel
theorem dX5_choose_169 : decode cX5_choose 169 = .ok (.getfield 59, 3) := by decide +kernel
theorem dX5_choose_172 : decode cX5_choose 172 = .ok (.iload_n 1, 1) := by decide +kernel
theorem dX5_choose_173 : decode cX5_choose 173 = .ok (.iaload, 1) := by decide +kernel
theorem dX5_choose_174 : decode cX5_choose 174 = .ok (.iload_n 3, 1) := by decide +kernel
theorem dX5_choose_175 : decode cX5_choose 175 = .ok (.ifCond .ge 7, 3) := by decide +kernel
theorem dX5_choose_178 : decode cX5_choose 178 = .ok (.iconst 0, 1) := by decide +kernel
theorem dX5_choose_179 : decode cX5_choose 179 = .ok (.goto 6, 3) := by decide +kernel
theorem dX5_choose_182 : decode cX5_choose 182 = .ok (.iconst 1, 1) := by decide +kernel
theorem dX5_choose_183 : decode cX5_choose 183 = .ok (.iload_n 3, 1) := by decide +kernel
theorem dX5_choose_184 : decode cX5_choose 184 = .ok (.ishl, 1) := by decide +kernel
theorem dX5_choose_185 : decode cX5_choose 185 = .ok (.ior, 1) := by decide +kernel
theorem dX5_choose_186 : decode cX5_choose 186 = .ok (.iastore, 1) := by decide +kernel
theorem dX5_choose_187 : decode cX5_choose 187 = .ok (.return_, 1) := by decide +kernel
theorem dX5_nextChoice_0 : decode cX5_nextChoice 0 = .ok (.iload_n 2, 1) := by decide +kernel
theorem dX5_nextChoice_1 : decode cX5_nextChoice 1 = .ok (.istore_n 3, 1) := by decide +kernel
theorem dX5_nextChoice_2 : decode cX5_nextChoice 2 = .ok (.iload_n 3, 1) := by decide +kernel
theorem dX5_nextChoice_3 : decode cX5_nextChoice 3 = .ok (.ifCond .le 33, 3) := by decide +kernel
theorem dX5_nextChoice_6 : decode cX5_nextChoice 6 = .ok (.iload_n 3, 1) := by decide +kernel
theorem dX5_nextChoice_7 : decode cX5_nextChoice 7 = .ok (.aload_n 0, 1) := by decide +kernel
theorem dX5_nextChoice_8 : decode cX5_nextChoice 8 = .ok (.getfield 163, 3) := by decide +kernel
theorem dX5_nextChoice_11 : decode cX5_nextChoice 11 = .ok (.if_icmp .gt 25, 3) := by decide +kernel
theorem dX5_nextChoice_14 : decode cX5_nextChoice 14 = .ok (.aload_n 0, 1) := by decide +kernel
theorem dX5_nextChoice_15 : decode cX5_nextChoice 15 = .ok (.iload_n 3, 1) := by decide +kernel
theorem dX5_nextChoice_16 : decode cX5_nextChoice 16 = .ok (.iconst 1, 1) := by decide +kernel
theorem dX5_nextChoice_17 : decode cX5_nextChoice 17 = .ok (.isub, 1) := by decide +kernel
theorem dX5_nextChoice_18 : decode cX5_nextChoice 18 = .ok (.aload_n 0, 1) := by decide +kernel
theorem dX5_nextChoice_19 : decode cX5_nextChoice 19 = .ok (.getfield 59, 3) := by decide +kernel
theorem dX5_nextChoice_22 : decode cX5_nextChoice 22 = .ok (.iload_n 1, 1) := by decide +kernel
theorem dX5_nextChoice_23 : decode cX5_nextChoice 23 = .ok (.iaload, 1) := by decide +kernel
theorem dX5_nextChoice_24 : decode cX5_nextChoice 24 = .ok (.invokevirtual 195, 3) := by decide +kernel
theorem dX5_nextChoice_27 : decode cX5_nextChoice 27 = .ok (.ifCond .ne 9, 3) := by decide +kernel
theorem dX5_nextChoice_30 : decode cX5_nextChoice 30 = .ok (.iinc 3 1, 3) := by decide +kernel
theorem dX5_nextChoice_33 : decode cX5_nextChoice 33 = .ok (.goto (-31), 3) := by decide +kernel
theorem dX5_nextChoice_36 : decode cX5_nextChoice 36 = .ok (.iload_n 3, 1) := by decide +kernel
theorem dX5_nextChoice_37 : decode cX5_nextChoice 37 = .ok (.ireturn, 1) := by decide +kernel
theorem dX5_nextPlan_0 : decode cX5_nextPlan 0 = .ok (.aload_n 0, 1) := by decide +kernel
theorem dX5_nextPlan_1 : decode cX5_nextPlan 1 = .ok (.getfield 248, 3) := by decide +kernel
theorem dX5_nextPlan_4 : decode cX5_nextPlan 4 = .ok (.ifCond .eq 12, 3) := by decide +kernel
theorem dX5_nextPlan_7 : decode cX5_nextPlan 7 = .ok (.aload_n 0, 1) := by decide +kernel
theorem dX5_nextPlan_8 : decode cX5_nextPlan 8 = .ok (.getfield 245, 3) := by decide +kernel
theorem dX5_nextPlan_11 : decode cX5_nextPlan 11 = .ok (.iconst 1, 1) := by decide +kernel
theorem dX5_nextPlan_12 : decode cX5_nextPlan 12 = .ok (.isub, 1) := by decide +kernel
theorem dX5_nextPlan_13 : decode cX5_nextPlan 13 = .ok (.goto 4, 3) := by decide +kernel
theorem dX5_nextPlan_16 : decode cX5_nextPlan 16 = .ok (.iconst 0, 1) := by decide +kernel
theorem dX5_nextPlan_17 : decode cX5_nextPlan 17 = .ok (.istore_n 1, 1) := by decide +kernel
theorem dX5_nextPlan_18 : decode cX5_nextPlan 18 = .ok (.aload_n 0, 1) := by decide +kernel
theorem dX5_nextPlan_19 : decode cX5_nextPlan 19 = .ok (.getfield 245, 3) := by decide +kernel
theorem dX5_nextPlan_22 : decode cX5_nextPlan 22 = .ok (.ifCond .ne 17, 3) := by decide +kernel
theorem dX5_nextPlan_25 : decode cX5_nextPlan 25 = .ok (.aload_n 0, 1) := by decide +kernel
theorem dX5_nextPlan_26 : decode cX5_nextPlan 26 = .ok (.getfield 248, 3) := by decide +kernel
theorem dX5_nextPlan_29 : decode cX5_nextPlan 29 = .ok (.ifCond .ne 10, 3) := by decide +kernel
theorem dX5_nextPlan_32 : decode cX5_nextPlan 32 = .ok (.aload_n 0, 1) := by decide +kernel
theorem dX5_nextPlan_33 : decode cX5_nextPlan 33 = .ok (.iconst 1, 1) := by decide +kernel
theorem dX5_nextPlan_34 : decode cX5_nextPlan 34 = .ok (.putfield 248, 3) := by decide +kernel
theorem dX5_nextPlan_37 : decode cX5_nextPlan 37 = .ok (.iconst 1, 1) := by decide +kernel
theorem dX5_nextPlan_38 : decode cX5_nextPlan 38 = .ok (.ireturn, 1) := by decide +kernel
theorem dX5_nextPlan_39 : decode cX5_nextPlan 39 = .ok (.aload_n 0, 1) := by decide +kernel
theorem dX5_nextPlan_40 : decode cX5_nextPlan 40 = .ok (.iconst 1, 1) := by decide +kernel
theorem dX5_nextPlan_41 : decode cX5_nextPlan 41 = .ok (.putfield 248, 3) := by decide +kernel
theorem dX5_nextPlan_44 : decode cX5_nextPlan 44 = .ok (.iload_n 1, 1) := by decide +kernel
theorem dX5_nextPlan_45 : decode cX5_nextPlan 45 = .ok (.ifCond .lt 60, 3) := by decide +kernel
theorem dX5_nextPlan_48 : decode cX5_nextPlan 48 = .ok (.aload_n 0, 1) := by decide +kernel
theorem dX5_nextPlan_49 : decode cX5_nextPlan 49 = .ok (.iload_n 1, 1) := by decide +kernel
theorem dX5_nextPlan_50 : decode cX5_nextPlan 50 = .ok (.aload_n 0, 1) := by decide +kernel
theorem dX5_nextPlan_51 : decode cX5_nextPlan 51 = .ok (.getfield 62, 3) := by decide +kernel
theorem dX5_nextPlan_54 : decode cX5_nextPlan 54 = .ok (.iload_n 1, 1) := by decide +kernel
theorem dX5_nextPlan_55 : decode cX5_nextPlan 55 = .ok (.iaload, 1) := by decide +kernel
theorem dX5_nextPlan_56 : decode cX5_nextPlan 56 = .ok (.iconst 1, 1) := by decide +kernel
theorem dX5_nextPlan_57 : decode cX5_nextPlan 57 = .ok (.iadd, 1) := by decide +kernel
theorem dX5_nextPlan_58 : decode cX5_nextPlan 58 = .ok (.invokevirtual 252, 3) := by decide +kernel
theorem dX5_nextPlan_61 : decode cX5_nextPlan 61 = .ok (.istore_n 2, 1) := by decide +kernel
theorem dX5_nextPlan_62 : decode cX5_nextPlan 62 = .ok (.iload_n 2, 1) := by decide +kernel
theorem dX5_nextPlan_63 : decode cX5_nextPlan 63 = .ok (.aload_n 0, 1) := by decide +kernel
theorem dX5_nextPlan_64 : decode cX5_nextPlan 64 = .ok (.getfield 163, 3) := by decide +kernel
theorem dX5_nextPlan_67 : decode cX5_nextPlan 67 = .ok (.if_icmp .le 9, 3) := by decide +kernel
theorem dX5_nextPlan_70 : decode cX5_nextPlan 70 = .ok (.iinc 1 (-1), 3) := by decide +kernel
theorem dX5_nextPlan_73 : decode cX5_nextPlan 73 = .ok (.goto 29, 3) := by decide +kernel
theorem dX5_nextPlan_76 : decode cX5_nextPlan 76 = .ok (.aload_n 0, 1) := by decide +kernel
theorem dX5_nextPlan_77 : decode cX5_nextPlan 77 = .ok (.iload_n 1, 1) := by decide +kernel
theorem dX5_nextPlan_78 : decode cX5_nextPlan 78 = .ok (.iload_n 2, 1) := by decide +kernel
theorem dX5_nextPlan_79 : decode cX5_nextPlan 79 = .ok (.invokevirtual 255, 3) := by decide +kernel
theorem dX5_nextPlan_82 : decode cX5_nextPlan 82 = .ok (.iinc 1 1, 3) := by decide +kernel
theorem dX5_nextPlan_85 : decode cX5_nextPlan 85 = .ok (.iload_n 1, 1) := by decide +kernel
theorem dX5_nextPlan_86 : decode cX5_nextPlan 86 = .ok (.aload_n 0, 1) := by decide +kernel
theorem dX5_nextPlan_87 : decode cX5_nextPlan 87 = .ok (.getfield 245, 3) := by decide +kernel
theorem dX5_nextPlan_90 : decode cX5_nextPlan 90 = .ok (.if_icmp .ne 5, 3) := by decide +kernel
theorem dX5_nextPlan_93 : decode cX5_nextPlan 93 = .ok (.iconst 1, 1) := by decide +kernel
theorem dX5_nextPlan_94 : decode cX5_nextPlan 94 = .ok (.ireturn, 1) := by decide +kernel
theorem dX5_nextPlan_95 : decode cX5_nextPlan 95 = .ok (.aload_n 0, 1) := by decide +kernel
theorem dX5_nextPlan_96 : decode cX5_nextPlan 96 = .ok (.getfield 62, 3) := by decide +kernel
theorem dX5_nextPlan_99 : decode cX5_nextPlan 99 = .ok (.iload_n 1, 1) := by decide +kernel
theorem dX5_nextPlan_100 : decode cX5_nextPlan 100 = .ok (.iconst (-1), 1) := by decide +kernel
theorem dX5_nextPlan_101 : decode cX5_nextPlan 101 = .ok (.iastore, 1) := by decide +kernel
theorem dX5_nextPlan_102 : decode cX5_nextPlan 102 = .ok (.goto (-58), 3) := by decide +kernel
theorem dX5_nextPlan_105 : decode cX5_nextPlan 105 = .ok (.iconst 0, 1) := by decide +kernel
theorem dX5_nextPlan_106 : decode cX5_nextPlan 106 = .ok (.ireturn, 1) := by decide +kernel
theorem dX5_can_0 : decode cX5_can 0 = .ok (.aload_n 0, 1) := by decide +kernel
theorem dX5_can_1 : decode cX5_can 1 = .ok (.aload_n 0, 1) := by decide +kernel
theorem dX5_can_2 : decode cX5_can 2 = .ok (.getfield 7, 3) := by decide +kernel
theorem dX5_can_5 : decode cX5_can 5 = .ok (.bipush 6, 2) := by decide +kernel
theorem dX5_can_7 : decode cX5_can 7 = .ok (.iaload, 1) := by decide +kernel
theorem dX5_can_8 : decode cX5_can 8 = .ok (.invokevirtual 234, 3) := by decide +kernel
theorem dX5_can_11 : decode cX5_can 11 = .ok (.ireturn, 1) := by decide +kernel
theorem dX5_noPlan_0 : decode cX5_noPlan 0 = .ok (.aload_n 0, 1) := by decide +kernel
theorem dX5_noPlan_1 : decode cX5_noPlan 1 = .ok (.getfield 163, 3) := by decide +kernel
theorem dX5_noPlan_4 : decode cX5_noPlan 4 = .ok (.ifCond .ne 6, 3) := by decide +kernel
theorem dX5_noPlan_7 : decode cX5_noPlan 7 = .ok (.bipush (-4), 2) := by decide +kernel
theorem dX5_noPlan_9 : decode cX5_noPlan 9 = .ok (.ireturn, 1) := by decide +kernel
theorem dX5_noPlan_10 : decode cX5_noPlan 10 = .ok (.aload_n 0, 1) := by decide +kernel
theorem dX5_noPlan_11 : decode cX5_noPlan 11 = .ok (.getfield 25, 3) := by decide +kernel
theorem dX5_noPlan_14 : decode cX5_noPlan 14 = .ok (.iload_n 1, 1) := by decide +kernel
theorem dX5_noPlan_15 : decode cX5_noPlan 15 = .ok (.iaload, 1) := by decide +kernel
theorem dX5_noPlan_16 : decode cX5_noPlan 16 = .ok (.ifCond .ge 9, 3) := by decide +kernel
theorem dX5_noPlan_19 : decode cX5_noPlan 19 = .ok (.aload_n 0, 1) := by decide +kernel
theorem dX5_noPlan_20 : decode cX5_noPlan 20 = .ok (.iconst 1, 1) := by decide +kernel
theorem dX5_noPlan_21 : decode cX5_noPlan 21 = .ok (.invokevirtual 87, 3) := by decide +kernel
theorem dX5_noPlan_24 : decode cX5_noPlan 24 = .ok (.ireturn, 1) := by decide +kernel
theorem dX5_noPlan_25 : decode cX5_noPlan 25 = .ok (.aload_n 0, 1) := by decide +kernel
theorem dX5_noPlan_26 : decode cX5_noPlan 26 = .ok (.getfield 25, 3) := by decide +kernel
theorem dX5_noPlan_29 : decode cX5_noPlan 29 = .ok (.iload_n 1, 1) := by decide +kernel
theorem dX5_noPlan_30 : decode cX5_noPlan 30 = .ok (.iaload, 1) := by decide +kernel
theorem dX5_noPlan_31 : decode cX5_noPlan 31 = .ok (.aload_n 0, 1) := by decide +kernel
theorem dX5_noPlan_32 : decode cX5_noPlan 32 = .ok (.getfield 160, 3) := by decide +kernel
theorem dX5_noPlan_35 : decode cX5_noPlan 35 = .ok (.aload_n 0, 1) := by decide +kernel
theorem dX5_noPlan_36 : decode cX5_noPlan 36 = .ok (.getfield 7, 3) := by decide +kernel
theorem dX5_noPlan_39 : decode cX5_noPlan 39 = .ok (.iconst 1, 1) := by decide +kernel
theorem dX5_noPlan_40 : decode cX5_noPlan 40 = .ok (.iaload, 1) := by decide +kernel
theorem dX5_noPlan_41 : decode cX5_noPlan 41 = .ok (.isub, 1) := by decide +kernel
theorem dX5_noPlan_42 : decode cX5_noPlan 42 = .ok (.if_icmp .le 9, 3) := by decide +kernel
theorem dX5_noPlan_45 : decode cX5_noPlan 45 = .ok (.aload_n 0, 1) := by decide +kernel
theorem dX5_noPlan_46 : decode cX5_noPlan 46 = .ok (.iconst 5, 1) := by decide +kernel
theorem dX5_noPlan_47 : decode cX5_noPlan 47 = .ok (.invokevirtual 87, 3) := by decide +kernel
theorem dX5_noPlan_50 : decode cX5_noPlan 50 = .ok (.ireturn, 1) := by decide +kernel
theorem dX5_noPlan_51 : decode cX5_noPlan 51 = .ok (.aload_n 0, 1) := by decide +kernel
theorem dX5_noPlan_52 : decode cX5_noPlan 52 = .ok (.aload_n 0, 1) := by decide +kernel
theorem dX5_noPlan_53 : decode cX5_noPlan 53 = .ok (.getfield 7, 3) := by decide +kernel
theorem dX5_noPlan_56 : decode cX5_noPlan 56 = .ok (.iconst 2, 1) := by decide +kernel
theorem dX5_noPlan_57 : decode cX5_noPlan 57 = .ok (.iaload, 1) := by decide +kernel
theorem dX5_noPlan_58 : decode cX5_noPlan 58 = .ok (.invokevirtual 258, 3) := by decide +kernel
theorem dX5_noPlan_61 : decode cX5_noPlan 61 = .ok (.iconst 0, 1) := by decide +kernel
theorem dX5_noPlan_62 : decode cX5_noPlan 62 = .ok (.istore_n 2, 1) := by decide +kernel
theorem dX5_noPlan_63 : decode cX5_noPlan 63 = .ok (.iload_n 2, 1) := by decide +kernel
theorem dX5_noPlan_64 : decode cX5_noPlan 64 = .ok (.aload_n 0, 1) := by decide +kernel
theorem dX5_noPlan_65 : decode cX5_noPlan 65 = .ok (.getfield 25, 3) := by decide +kernel
theorem dX5_noPlan_68 : decode cX5_noPlan 68 = .ok (.iload_n 1, 1) := by decide +kernel
theorem dX5_noPlan_69 : decode cX5_noPlan 69 = .ok (.iaload, 1) := by decide +kernel
theorem dX5_noPlan_70 : decode cX5_noPlan 70 = .ok (.if_icmp .ge 73, 3) := by decide +kernel
theorem dX5_noPlan_73 : decode cX5_noPlan 73 = .ok (.aload_n 0, 1) := by decide +kernel
theorem dX5_noPlan_74 : decode cX5_noPlan 74 = .ok (.getfield 28, 3) := by decide +kernel
theorem dX5_noPlan_77 : decode cX5_noPlan 77 = .ok (.bipush 40, 2) := by decide +kernel
theorem dX5_noPlan_79 : decode cX5_noPlan 79 = .ok (.iload_n 1, 1) := by decide +kernel
theorem dX5_noPlan_80 : decode cX5_noPlan 80 = .ok (.imul, 1) := by decide +kernel
theorem dX5_noPlan_81 : decode cX5_noPlan 81 = .ok (.iload_n 2, 1) := by decide +kernel
theorem dX5_noPlan_82 : decode cX5_noPlan 82 = .ok (.iadd, 1) := by decide +kernel
theorem dX5_noPlan_83 : decode cX5_noPlan 83 = .ok (.iaload, 1) := by decide +kernel
theorem dX5_noPlan_84 : decode cX5_noPlan 84 = .ok (.istore_n 3, 1) := by decide +kernel
theorem dX5_noPlan_85 : decode cX5_noPlan 85 = .ok (.iload_n 3, 1) := by decide +kernel
theorem dX5_noPlan_86 : decode cX5_noPlan 86 = .ok (.bipush (-9), 2) := by decide +kernel
theorem dX5_noPlan_88 : decode cX5_noPlan 88 = .ok (.if_icmp .eq 31, 3) := by decide +kernel
theorem dX5_noPlan_91 : decode cX5_noPlan 91 = .ok (.aload_n 0, 1) := by decide +kernel
theorem dX5_noPlan_92 : decode cX5_noPlan 92 = .ok (.iload_n 3, 1) := by decide +kernel
theorem dX5_noPlan_93 : decode cX5_noPlan 93 = .ok (.invokevirtual 198, 3) := by decide +kernel
theorem dX5_noPlan_96 : decode cX5_noPlan 96 = .ok (.ifCond .eq 17, 3) := by decide +kernel
theorem dX5_noPlan_99 : decode cX5_noPlan 99 = .ok (.aload_n 0, 1) := by decide +kernel
theorem dX5_noPlan_100 : decode cX5_noPlan 100 = .ok (.iload_n 3, 1) := by decide +kernel
theorem dX5_noPlan_101 : decode cX5_noPlan 101 = .ok (.aload_n 0, 1) := by decide +kernel
theorem dX5_noPlan_102 : decode cX5_noPlan 102 = .ok (.getfield 59, 3) := by decide +kernel
theorem dX5_noPlan_105 : decode cX5_noPlan 105 = .ok (.iload_n 2, 1) := by decide +kernel
theorem dX5_noPlan_106 : decode cX5_noPlan 106 = .ok (.iaload, 1) := by decide +kernel
theorem dX5_noPlan_107 : decode cX5_noPlan 107 = .ok (.invokevirtual 195, 3) := by decide +kernel
theorem dX5_noPlan_110 : decode cX5_noPlan 110 = .ok (.ifCond .ne 9, 3) := by decide +kernel
theorem dX5_noPlan_113 : decode cX5_noPlan 113 = .ok (.aload_n 0, 1) := by decide +kernel
theorem dX5_noPlan_114 : decode cX5_noPlan 114 = .ok (.iconst 3, 1) := by decide +kernel
theorem dX5_noPlan_115 : decode cX5_noPlan 115 = .ok (.invokevirtual 87, 3) := by decide +kernel
theorem dX5_noPlan_118 : decode cX5_noPlan 118 = .ok (.ireturn, 1) := by decide +kernel
theorem dX5_noPlan_119 : decode cX5_noPlan 119 = .ok (.aload_n 0, 1) := by decide +kernel
theorem dX5_noPlan_120 : decode cX5_noPlan 120 = .ok (.iload_n 2, 1) := by decide +kernel
theorem dX5_noPlan_121 : decode cX5_noPlan 121 = .ok (.iload_n 3, 1) := by decide +kernel
theorem dX5_noPlan_122 : decode cX5_noPlan 122 = .ok (.bipush (-9), 2) := by decide +kernel
theorem dX5_noPlan_124 : decode cX5_noPlan 124 = .ok (.if_icmp .ne 7, 3) := by decide +kernel
theorem dX5_noPlan_127 : decode cX5_noPlan 127 = .ok (.iconst 0, 1) := by decide +kernel
theorem dX5_noPlan_128 : decode cX5_noPlan 128 = .ok (.goto 6, 3) := by decide +kernel
theorem dX5_noPlan_131 : decode cX5_noPlan 131 = .ok (.iload_n 3, 1) := by decide +kernel
theorem dX5_noPlan_132 : decode cX5_noPlan 132 = .ok (.iconst 1, 1) := by decide +kernel
theorem dX5_noPlan_133 : decode cX5_noPlan 133 = .ok (.iadd, 1) := by decide +kernel
theorem dX5_noPlan_134 : decode cX5_noPlan 134 = .ok (.invokevirtual 255, 3) := by decide +kernel
theorem dX5_noPlan_137 : decode cX5_noPlan 137 = .ok (.iinc 2 1, 3) := by decide +kernel
theorem dX5_noPlan_140 : decode cX5_noPlan 140 = .ok (.goto (-77), 3) := by decide +kernel
theorem dX5_noPlan_143 : decode cX5_noPlan 143 = .ok (.iconst 0, 1) := by decide +kernel
theorem dX5_noPlan_144 : decode cX5_noPlan 144 = .ok (.ireturn, 1) := by decide +kernel
theorem dX5_play_0 : decode cX5_play 0 = .ok (.iload_n 1, 1) := by decide +kernel
theorem dX5_play_1 : decode cX5_play 1 = .ok (.invokestatic 83, 3) := by decide +kernel
theorem dX5_play_4 : decode cX5_play 4 = .ok (.ifCond .ne 5, 3) := by decide +kernel
theorem dX5_play_7 : decode cX5_play 7 = .ok (.iconst (-1), 1) := by decide +kernel
theorem dX5_play_8 : decode cX5_play 8 = .ok (.ireturn, 1) := by decide +kernel
theorem dX5_play_9 : decode cX5_play 9 = .ok (.aload_n 0, 1) := by decide +kernel
theorem dX5_play_10 : decode cX5_play 10 = .ok (.iload_n 1, 1) := by decide +kernel
theorem dX5_play_11 : decode cX5_play 11 = .ok (.invokevirtual 262, 3) := by decide +kernel
theorem dX5_play_14 : decode cX5_play 14 = .ok (.istore_n 2, 1) := by decide +kernel
theorem dX5_play_15 : decode cX5_play 15 = .ok (.iload_n 2, 1) := by decide +kernel
theorem dX5_play_16 : decode cX5_play 16 = .ok (.ifCond .eq 5, 3) := by decide +kernel
theorem dX5_play_19 : decode cX5_play 19 = .ok (.iload_n 2, 1) := by decide +kernel
theorem dX5_play_20 : decode cX5_play 20 = .ok (.ireturn, 1) := by decide +kernel
theorem dX5_play_21 : decode cX5_play 21 = .ok (.aload_n 0, 1) := by decide +kernel
theorem dX5_play_22 : decode cX5_play 22 = .ok (.aload_n 0, 1) := by decide +kernel
theorem dX5_play_23 : decode cX5_play 23 = .ok (.getfield 53, 3) := by decide +kernel
theorem dX5_play_26 : decode cX5_play 26 = .ok (.aload_n 0, 1) := by decide +kernel
theorem dX5_play_27 : decode cX5_play 27 = .ok (.getfield 25, 3) := by decide +kernel
theorem dX5_play_30 : decode cX5_play 30 = .ok (.iload_n 1, 1) := by decide +kernel
theorem dX5_play_31 : decode cX5_play 31 = .ok (.iaload, 1) := by decide +kernel
theorem dX5_play_32 : decode cX5_play 32 = .ok (.iaload, 1) := by decide +kernel
theorem dX5_play_33 : decode cX5_play 33 = .ok (.putfield 72, 3) := by decide +kernel
theorem dX5_play_36 : decode cX5_play 36 = .ok (.aload_n 0, 1) := by decide +kernel
theorem dX5_play_37 : decode cX5_play 37 = .ok (.getfield 56, 3) := by decide +kernel
theorem dX5_play_40 : decode cX5_play 40 = .ok (.aload_n 0, 1) := by decide +kernel
theorem dX5_play_41 : decode cX5_play 41 = .ok (.getfield 25, 3) := by decide +kernel
theorem dX5_play_44 : decode cX5_play 44 = .ok (.iload_n 1, 1) := by decide +kernel
theorem dX5_play_45 : decode cX5_play 45 = .ok (.iaload, 1) := by decide +kernel
theorem dX5_play_46 : decode cX5_play 46 = .ok (.iaload, 1) := by decide +kernel
theorem dX5_play_47 : decode cX5_play 47 = .ok (.ireturn, 1) := by decide +kernel
theorem dX5_best_0 : decode cX5_best 0 = .ok (.iload_n 1, 1) := by decide +kernel
theorem dX5_best_1 : decode cX5_best 1 = .ok (.invokestatic 83, 3) := by decide +kernel
theorem dX5_best_4 : decode cX5_best 4 = .ok (.ifCond .ne 5, 3) := by decide +kernel
theorem dX5_best_7 : decode cX5_best 7 = .ok (.iconst (-1), 1) := by decide +kernel
theorem dX5_best_8 : decode cX5_best 8 = .ok (.ireturn, 1) := by decide +kernel
theorem dX5_best_9 : decode cX5_best 9 = .ok (.aload_n 0, 1) := by decide +kernel
theorem dX5_best_10 : decode cX5_best 10 = .ok (.getfield 163, 3) := by decide +kernel
theorem dX5_best_13 : decode cX5_best 13 = .ok (.ifCond .ne 6, 3) := by decide +kernel
theorem dX5_best_16 : decode cX5_best 16 = .ok (.bipush (-4), 2) := by decide +kernel
theorem dX5_best_18 : decode cX5_best 18 = .ok (.ireturn, 1) := by decide +kernel
theorem dX5_best_19 : decode cX5_best 19 = .ok (.iconst (-1), 1) := by decide +kernel
theorem dX5_best_20 : decode cX5_best 20 = .ok (.istore_n 2, 1) := by decide +kernel
theorem dX5_best_21 : decode cX5_best 21 = .ok (.sipush 999, 3) := by decide +kernel
theorem dX5_best_24 : decode cX5_best 24 = .ok (.istore_n 3, 1) := by decide +kernel
theorem dX5_best_25 : decode cX5_best 25 = .ok (.aload_n 0, 1) := by decide +kernel
theorem dX5_best_26 : decode cX5_best 26 = .ok (.aload_n 0, 1) := by decide +kernel
theorem dX5_best_27 : decode cX5_best 27 = .ok (.getfield 7, 3) := by decide +kernel
theorem dX5_best_30 : decode cX5_best 30 = .ok (.iconst 2, 1) := by decide +kernel
theorem dX5_best_31 : decode cX5_best 31 = .ok (.iaload, 1) := by decide +kernel
theorem dX5_best_32 : decode cX5_best 32 = .ok (.invokevirtual 258, 3) := by decide +kernel
theorem dX5_best_35 : decode cX5_best 35 = .ok (.aload_n 0, 1) := by decide +kernel
theorem dX5_best_36 : decode cX5_best 36 = .ok (.invokevirtual 265, 3) := by decide +kernel
theorem dX5_best_39 : decode cX5_best 39 = .ok (.ifCond .eq 122, 3) := by decide +kernel
theorem dX5_best_42 : decode cX5_best 42 = .ok (.aload_n 0, 1) := by decide +kernel
theorem dX5_best_43 : decode cX5_best 43 = .ok (.getfield 56, 3) := by decide +kernel
theorem dX5_best_46 : decode cX5_best 46 = .ok (.aload_n 0, 1) := by decide +kernel
theorem dX5_best_47 : decode cX5_best 47 = .ok (.getfield 245, 3) := by decide +kernel
theorem dX5_best_50 : decode cX5_best 50 = .ok (.iaload, 1) := by decide +kernel
theorem dX5_best_51 : decode cX5_best 51 = .ok (.istore 4, 2) := by decide +kernel
theorem dX5_best_53 : decode cX5_best 53 = .ok (.aload_n 0, 1) := by decide +kernel
theorem dX5_best_54 : decode cX5_best 54 = .ok (.getfield 7, 3) := by decide +kernel
theorem dX5_best_57 : decode cX5_best 57 = .ok (.iconst 2, 1) := by decide +kernel
theorem dX5_best_58 : decode cX5_best 58 = .ok (.iaload, 1) := by decide +kernel
theorem dX5_best_59 : decode cX5_best 59 = .ok (.aload_n 0, 1) := by decide +kernel
theorem dX5_best_60 : decode cX5_best 60 = .ok (.getfield 50, 3) := by decide +kernel
theorem dX5_best_63 : decode cX5_best 63 = .ok (.aload_n 0, 1) := by decide +kernel
theorem dX5_best_64 : decode cX5_best 64 = .ok (.getfield 245, 3) := by decide +kernel
theorem dX5_best_67 : decode cX5_best 67 = .ok (.iaload, 1) := by decide +kernel
theorem dX5_best_68 : decode cX5_best 68 = .ok (.isub, 1) := by decide +kernel
theorem dX5_best_69 : decode cX5_best 69 = .ok (.istore 5, 2) := by decide +kernel
theorem dX5_best_71 : decode cX5_best 71 = .ok (.iload 4, 2) := by decide +kernel
theorem dX5_best_73 : decode cX5_best 73 = .ok (.iload_n 2, 1) := by decide +kernel
theorem dX5_best_74 : decode cX5_best 74 = .ok (.if_icmp .gt 15, 3) := by decide +kernel
theorem dX5_best_77 : decode cX5_best 77 = .ok (.iload 4, 2) := by decide +kernel
theorem dX5_best_79 : decode cX5_best 79 = .ok (.iload_n 2, 1) := by decide +kernel
theorem dX5_best_80 : decode cX5_best 80 = .ok (.if_icmp .ne 78, 3) := by decide +kernel
theorem dX5_best_83 : decode cX5_best 83 = .ok (.iload 5, 2) := by decide +kernel
theorem dX5_best_85 : decode cX5_best 85 = .ok (.iload_n 3, 1) := by decide +kernel
theorem dX5_best_86 : decode cX5_best 86 = .ok (.if_icmp .ge 72, 3) := by decide +kernel
theorem dX5_best_89 : decode cX5_best 89 = .ok (.iload 4, 2) := by decide +kernel
theorem dX5_best_91 : decode cX5_best 91 = .ok (.istore_n 2, 1) := by decide +kernel
theorem dX5_best_92 : decode cX5_best 92 = .ok (.iload 5, 2) := by decide +kernel
theorem dX5_best_94 : decode cX5_best 94 = .ok (.istore_n 3, 1) := by decide +kernel
theorem dX5_best_95 : decode cX5_best 95 = .ok (.aload_n 0, 1) := by decide +kernel
theorem dX5_best_96 : decode cX5_best 96 = .ok (.iload_n 1, 1) := by decide +kernel
theorem dX5_best_97 : decode cX5_best 97 = .ok (.aload_n 0, 1) := by decide +kernel
theorem dX5_best_98 : decode cX5_best 98 = .ok (.getfield 245, 3) := by decide +kernel
theorem dX5_best_101 : decode cX5_best 101 = .ok (.invokevirtual 91, 3) := by decide +kernel
theorem dX5_best_104 : decode cX5_best 104 = .ok (.iconst 0, 1) := by decide +kernel
theorem dX5_best_105 : decode cX5_best 105 = .ok (.istore 6, 2) := by decide +kernel
theorem dX5_best_107 : decode cX5_best 107 = .ok (.iload 6, 2) := by decide +kernel
theorem dX5_best_109 : decode cX5_best 109 = .ok (.aload_n 0, 1) := by decide +kernel
theorem dX5_best_110 : decode cX5_best 110 = .ok (.getfield 245, 3) := by decide +kernel
theorem dX5_best_113 : decode cX5_best 113 = .ok (.if_icmp .ge 45, 3) := by decide +kernel
theorem dX5_best_116 : decode cX5_best 116 = .ok (.aload_n 0, 1) := by decide +kernel
theorem dX5_best_117 : decode cX5_best 117 = .ok (.getfield 28, 3) := by decide +kernel
theorem dX5_best_120 : decode cX5_best 120 = .ok (.bipush 40, 2) := by decide +kernel
theorem dX5_best_122 : decode cX5_best 122 = .ok (.iload_n 1, 1) := by decide +kernel
theorem dX5_best_123 : decode cX5_best 123 = .ok (.imul, 1) := by decide +kernel
theorem dX5_best_124 : decode cX5_best 124 = .ok (.iload 6, 2) := by decide +kernel
theorem dX5_best_126 : decode cX5_best 126 = .ok (.iadd, 1) := by decide +kernel
theorem dX5_best_127 : decode cX5_best 127 = .ok (.aload_n 0, 1) := by decide +kernel
theorem dX5_best_128 : decode cX5_best 128 = .ok (.getfield 62, 3) := by decide +kernel
theorem dX5_best_131 : decode cX5_best 131 = .ok (.iload 6, 2) := by decide +kernel
theorem dX5_best_133 : decode cX5_best 133 = .ok (.iaload, 1) := by decide +kernel
theorem dX5_best_134 : decode cX5_best 134 = .ok (.ifCond .ne 8, 3) := by decide +kernel
theorem dX5_best_137 : decode cX5_best 137 = .ok (.bipush (-9), 2) := by decide +kernel
theorem dX5_best_139 : decode cX5_best 139 = .ok (.goto 12, 3) := by decide +kernel
theorem dX5_best_142 : decode cX5_best 142 = .ok (.aload_n 0, 1) := by decide +kernel
theorem dX5_best_143 : decode cX5_best 143 = .ok (.getfield 62, 3) := by decide +kernel
theorem dX5_best_146 : decode cX5_best 146 = .ok (.iload 6, 2) := by decide +kernel
theorem dX5_best_148 : decode cX5_best 148 = .ok (.iaload, 1) := by decide +kernel
theorem dX5_best_149 : decode cX5_best 149 = .ok (.iconst 1, 1) := by decide +kernel
theorem dX5_best_150 : decode cX5_best 150 = .ok (.isub, 1) := by decide +kernel
theorem dX5_best_151 : decode cX5_best 151 = .ok (.iastore, 1) := by decide +kernel
theorem dX5_best_152 : decode cX5_best 152 = .ok (.iinc 6 1, 3) := by decide +kernel
theorem dX5_best_155 : decode cX5_best 155 = .ok (.goto (-48), 3) := by decide +kernel
theorem dX5_best_158 : decode cX5_best 158 = .ok (.goto (-123), 3) := by decide +kernel
theorem dX5_best_161 : decode cX5_best 161 = .ok (.aload_n 0, 1) := by decide +kernel
theorem dX5_best_162 : decode cX5_best 162 = .ok (.iload_n 3, 1) := by decide +kernel
theorem dX5_best_163 : decode cX5_best 163 = .ok (.putfield 72, 3) := by decide +kernel
theorem dX5_best_166 : decode cX5_best 166 = .ok (.iload_n 2, 1) := by decide +kernel
theorem dX5_best_167 : decode cX5_best 167 = .ok (.ireturn, 1) := by decide +kernel
theorem dX5_least_0 : decode cX5_least 0 = .ok (.aload_n 0, 1) := by decide +kernel
theorem dX5_least_1 : decode cX5_least 1 = .ok (.getfield 163, 3) := by decide +kernel
theorem dX5_least_4 : decode cX5_least 4 = .ok (.ifCond .ne 6, 3) := by decide +kernel
theorem dX5_least_7 : decode cX5_least 7 = .ok (.bipush (-4), 2) := by decide +kernel
theorem dX5_least_9 : decode cX5_least 9 = .ok (.ireturn, 1) := by decide +kernel
theorem dX5_least_10 : decode cX5_least 10 = .ok (.sipush 999, 3) := by decide +kernel
theorem dX5_least_13 : decode cX5_least 13 = .ok (.istore_n 1, 1) := by decide +kernel
theorem dX5_least_14 : decode cX5_least 14 = .ok (.bipush (-9), 2) := by decide +kernel
theorem dX5_least_16 : decode cX5_least 16 = .ok (.istore_n 2, 1) := by decide +kernel
theorem dX5_least_17 : decode cX5_least 17 = .ok (.aload_n 0, 1) := by decide +kernel
theorem dX5_least_18 : decode cX5_least 18 = .ok (.sipush 999, 3) := by decide +kernel
theorem dX5_least_21 : decode cX5_least 21 = .ok (.invokevirtual 258, 3) := by decide +kernel
theorem dX5_least_24 : decode cX5_least 24 = .ok (.aload_n 0, 1) := by decide +kernel
theorem dX5_least_25 : decode cX5_least 25 = .ok (.invokevirtual 265, 3) := by decide +kernel
theorem dX5_least_28 : decode cX5_least 28 = .ok (.ifCond .eq 64, 3) := by decide +kernel
theorem dX5_least_31 : decode cX5_least 31 = .ok (.sipush 999, 3) := by decide +kernel
theorem dX5_least_34 : decode cX5_least 34 = .ok (.aload_n 0, 1) := by decide +kernel
theorem dX5_least_35 : decode cX5_least 35 = .ok (.getfield 50, 3) := by decide +kernel
theorem dX5_least_38 : decode cX5_least 38 = .ok (.aload_n 0, 1) := by decide +kernel
theorem dX5_least_39 : decode cX5_least 39 = .ok (.getfield 245, 3) := by decide +kernel
theorem dX5_least_42 : decode cX5_least 42 = .ok (.iaload, 1) := by decide +kernel
theorem dX5_least_43 : decode cX5_least 43 = .ok (.isub, 1) := by decide +kernel
theorem dX5_least_44 : decode cX5_least 44 = .ok (.istore_n 3, 1) := by decide +kernel
theorem dX5_least_45 : decode cX5_least 45 = .ok (.aload_n 0, 1) := by decide +kernel
theorem dX5_least_46 : decode cX5_least 46 = .ok (.getfield 56, 3) := by decide +kernel
theorem dX5_least_49 : decode cX5_least 49 = .ok (.aload_n 0, 1) := by decide +kernel
theorem dX5_least_50 : decode cX5_least 50 = .ok (.getfield 245, 3) := by decide +kernel
theorem dX5_least_53 : decode cX5_least 53 = .ok (.iaload, 1) := by decide +kernel
theorem dX5_least_54 : decode cX5_least 54 = .ok (.aload_n 0, 1) := by decide +kernel
theorem dX5_least_55 : decode cX5_least 55 = .ok (.getfield 245, 3) := by decide +kernel
theorem dX5_least_58 : decode cX5_least 58 = .ok (.if_icmp .ne 31, 3) := by decide +kernel
theorem dX5_least_61 : decode cX5_least 61 = .ok (.iload_n 3, 1) := by decide +kernel
theorem dX5_least_62 : decode cX5_least 62 = .ok (.iload_n 1, 1) := by decide +kernel
theorem dX5_least_63 : decode cX5_least 63 = .ok (.if_icmp .ge 26, 3) := by decide +kernel
theorem dX5_least_66 : decode cX5_least 66 = .ok (.iload_n 3, 1) := by decide +kernel
theorem dX5_least_67 : decode cX5_least 67 = .ok (.istore_n 1, 1) := by decide +kernel
theorem dX5_least_68 : decode cX5_least 68 = .ok (.aload_n 0, 1) := by decide +kernel
theorem dX5_least_69 : decode cX5_least 69 = .ok (.getfield 245, 3) := by decide +kernel
theorem dX5_least_72 : decode cX5_least 72 = .ok (.ifCond .ne 8, 3) := by decide +kernel
theorem dX5_least_75 : decode cX5_least 75 = .ok (.bipush (-9), 2) := by decide +kernel
theorem dX5_least_77 : decode cX5_least 77 = .ok (.goto 11, 3) := by decide +kernel
theorem dX5_least_80 : decode cX5_least 80 = .ok (.aload_n 0, 1) := by decide +kernel
theorem dX5_least_81 : decode cX5_least 81 = .ok (.getfield 62, 3) := by decide +kernel
theorem dX5_least_84 : decode cX5_least 84 = .ok (.iconst 0, 1) := by decide +kernel
theorem dX5_least_85 : decode cX5_least 85 = .ok (.iaload, 1) := by decide +kernel
theorem dX5_least_86 : decode cX5_least 86 = .ok (.iconst 1, 1) := by decide +kernel
theorem dX5_least_87 : decode cX5_least 87 = .ok (.isub, 1) := by decide +kernel
theorem dX5_least_88 : decode cX5_least 88 = .ok (.istore_n 2, 1) := by decide +kernel
theorem dX5_least_89 : decode cX5_least 89 = .ok (.goto (-65), 3) := by decide +kernel
theorem dX5_least_92 : decode cX5_least 92 = .ok (.iload_n 1, 1) := by decide +kernel
theorem dX5_least_93 : decode cX5_least 93 = .ok (.sipush 999, 3) := by decide +kernel
theorem dX5_least_96 : decode cX5_least 96 = .ok (.if_icmp .ne 6, 3) := by decide +kernel
theorem dX5_least_99 : decode cX5_least 99 = .ok (.bipush (-9), 2) := by decide +kernel
theorem dX5_least_101 : decode cX5_least 101 = .ok (.ireturn, 1) := by decide +kernel
theorem dX5_least_102 : decode cX5_least 102 = .ok (.aload_n 0, 1) := by decide +kernel
theorem dX5_least_103 : decode cX5_least 103 = .ok (.iload_n 2, 1) := by decide +kernel
theorem dX5_least_104 : decode cX5_least 104 = .ok (.putfield 72, 3) := by decide +kernel
theorem dX5_least_107 : decode cX5_least 107 = .ok (.iload_n 1, 1) := by decide +kernel
theorem dX5_least_108 : decode cX5_least 108 = .ok (.ireturn, 1) := by decide +kernel
theorem dX5_ways_0 : decode cX5_ways 0 = .ok (.iload_n 1, 1) := by decide +kernel
theorem dX5_ways_1 : decode cX5_ways 1 = .ok (.i2l, 1) := by decide +kernel
theorem dX5_ways_2 : decode cX5_ways 2 = .ok (.lconst 0, 1) := by decide +kernel
theorem dX5_ways_3 : decode cX5_ways 3 = .ok (.ldc2_w 268, 3) := by decide +kernel
theorem dX5_ways_6 : decode cX5_ways 6 = .ok (.invokestatic 77, 3) := by decide +kernel
theorem dX5_ways_9 : decode cX5_ways 9 = .ok (.ifCond .ne 5, 3) := by decide +kernel
theorem dX5_ways_12 : decode cX5_ways 12 = .ok (.iconst (-1), 1) := by decide +kernel
theorem dX5_ways_13 : decode cX5_ways 13 = .ok (.ireturn, 1) := by decide +kernel
theorem dX5_ways_14 : decode cX5_ways 14 = .ok (.aload_n 0, 1) := by decide +kernel
theorem dX5_ways_15 : decode cX5_ways 15 = .ok (.getfield 163, 3) := by decide +kernel
theorem dX5_ways_18 : decode cX5_ways 18 = .ok (.ifCond .ne 6, 3) := by decide +kernel
theorem dX5_ways_21 : decode cX5_ways 21 = .ok (.bipush (-4), 2) := by decide +kernel
theorem dX5_ways_23 : decode cX5_ways 23 = .ok (.ireturn, 1) := by decide +kernel
theorem dX5_ways_24 : decode cX5_ways 24 = .ok (.aload_n 0, 1) := by decide +kernel
theorem dX5_ways_25 : decode cX5_ways 25 = .ok (.lconst 0, 1) := by decide +kernel
theorem dX5_ways_26 : decode cX5_ways 26 = .ok (.putfield 270, 3) := by decide +kernel
theorem dX5_ways_29 : decode cX5_ways 29 = .ok (.aload_n 0, 1) := by decide +kernel
theorem dX5_ways_30 : decode cX5_ways 30 = .ok (.lconst 1, 1) := by decide +kernel
theorem dX5_ways_31 : decode cX5_ways 31 = .ok (.putfield 37, 3) := by decide +kernel
theorem dX5_ways_34 : decode cX5_ways 34 = .ok (.bipush 63, 2) := by decide +kernel
theorem dX5_ways_36 : decode cX5_ways 36 = .ok (.istore_n 2, 1) := by decide +kernel
theorem dX5_ways_37 : decode cX5_ways 37 = .ok (.aload_n 0, 1) := by decide +kernel
theorem dX5_ways_38 : decode cX5_ways 38 = .ok (.aload_n 0, 1) := by decide +kernel
theorem dX5_ways_39 : decode cX5_ways 39 = .ok (.getfield 7, 3) := by decide +kernel
theorem dX5_ways_42 : decode cX5_ways 42 = .ok (.iconst 2, 1) := by decide +kernel
theorem dX5_ways_43 : decode cX5_ways 43 = .ok (.iaload, 1) := by decide +kernel
theorem dX5_ways_44 : decode cX5_ways 44 = .ok (.invokevirtual 258, 3) := by decide +kernel
theorem dX5_ways_47 : decode cX5_ways 47 = .ok (.aload_n 0, 1) := by decide +kernel
theorem dX5_ways_48 : decode cX5_ways 48 = .ok (.invokevirtual 265, 3) := by decide +kernel
theorem dX5_ways_51 : decode cX5_ways 51 = .ok (.ifCond .eq 51, 3) := by decide +kernel
theorem dX5_ways_54 : decode cX5_ways 54 = .ok (.aload_n 0, 1) := by decide +kernel
theorem dX5_ways_55 : decode cX5_ways 55 = .ok (.getfield 56, 3) := by decide +kernel
theorem dX5_ways_58 : decode cX5_ways 58 = .ok (.aload_n 0, 1) := by decide +kernel
theorem dX5_ways_59 : decode cX5_ways 59 = .ok (.getfield 245, 3) := by decide +kernel
theorem dX5_ways_62 : decode cX5_ways 62 = .ok (.iaload, 1) := by decide +kernel
theorem dX5_ways_63 : decode cX5_ways 63 = .ok (.iload_n 1, 1) := by decide +kernel
theorem dX5_ways_64 : decode cX5_ways 64 = .ok (.if_icmp .lt (-17), 3) := by decide +kernel
theorem dX5_ways_67 : decode cX5_ways 67 = .ok (.aload_n 0, 1) := by decide +kernel
theorem dX5_ways_68 : decode cX5_ways 68 = .ok (.dup, 1) := by decide +kernel
theorem dX5_ways_69 : decode cX5_ways 69 = .ok (.getfield 270, 3) := by decide +kernel
theorem dX5_ways_72 : decode cX5_ways 72 = .ok (.lconst 1, 1) := by decide +kernel
theorem dX5_ways_73 : decode cX5_ways 73 = .ok (.ladd, 1) := by decide +kernel
theorem dX5_ways_74 : decode cX5_ways 74 = .ok (.putfield 270, 3) := by decide +kernel
theorem dX5_ways_77 : decode cX5_ways 77 = .ok (.iload_n 2, 1) := by decide +kernel
theorem dX5_ways_78 : decode cX5_ways 78 = .ok (.aload_n 0, 1) := by decide +kernel
theorem dX5_ways_79 : decode cX5_ways 79 = .ok (.getfield 59, 3) := by decide +kernel
theorem dX5_ways_82 : decode cX5_ways 82 = .ok (.aload_n 0, 1) := by decide +kernel
theorem dX5_ways_83 : decode cX5_ways 83 = .ok (.getfield 245, 3) := by decide +kernel
theorem dX5_ways_86 : decode cX5_ways 86 = .ok (.iaload, 1) := by decide +kernel
theorem dX5_ways_87 : decode cX5_ways 87 = .ok (.aload_n 0, 1) := by decide +kernel
theorem dX5_ways_88 : decode cX5_ways 88 = .ok (.getfield 7, 3) := by decide +kernel
theorem dX5_ways_91 : decode cX5_ways 91 = .ok (.bipush 6, 2) := by decide +kernel
theorem dX5_ways_93 : decode cX5_ways 93 = .ok (.iaload, 1) := by decide +kernel
theorem dX5_ways_94 : decode cX5_ways 94 = .ok (.iconst (-1), 1) := by decide +kernel
theorem dX5_ways_95 : decode cX5_ways 95 = .ok (.ixor, 1) := by decide +kernel
theorem dX5_ways_96 : decode cX5_ways 96 = .ok (.iand, 1) := by decide +kernel
theorem dX5_ways_97 : decode cX5_ways 97 = .ok (.iand, 1) := by decide +kernel
theorem dX5_ways_98 : decode cX5_ways 98 = .ok (.istore_n 2, 1) := by decide +kernel
theorem dX5_ways_99 : decode cX5_ways 99 = .ok (.goto (-52), 3) := by decide +kernel
theorem dX5_ways_102 : decode cX5_ways 102 = .ok (.aload_n 0, 1) := by decide +kernel
theorem dX5_ways_103 : decode cX5_ways 103 = .ok (.aload_n 0, 1) := by decide +kernel
theorem dX5_ways_104 : decode cX5_ways 104 = .ok (.getfield 270, 3) := by decide +kernel
theorem dX5_ways_107 : decode cX5_ways 107 = .ok (.lconst 0, 1) := by decide +kernel
theorem dX5_ways_108 : decode cX5_ways 108 = .ok (.lcmp, 1) := by decide +kernel
theorem dX5_ways_109 : decode cX5_ways 109 = .ok (.ifCond .ne 7, 3) := by decide +kernel
theorem dX5_ways_112 : decode cX5_ways 112 = .ok (.iconst 0, 1) := by decide +kernel
theorem dX5_ways_113 : decode cX5_ways 113 = .ok (.goto 4, 3) := by decide +kernel
theorem dX5_ways_116 : decode cX5_ways 116 = .ok (.iload_n 2, 1) := by decide +kernel
theorem dX5_ways_117 : decode cX5_ways 117 = .ok (.putfield 72, 3) := by decide +kernel
theorem dX5_ways_120 : decode cX5_ways 120 = .ok (.iconst 1, 1) := by decide +kernel
theorem dX5_ways_121 : decode cX5_ways 121 = .ok (.ireturn, 1) := by decide +kernel
theorem dX5_mostCarried_0 : decode cX5_mostCarried 0 = .ok (.iconst 0, 1) := by decide +kernel
theorem dX5_mostCarried_1 : decode cX5_mostCarried 1 = .ok (.istore_n 1, 1) := by decide +kernel
theorem dX5_mostCarried_2 : decode cX5_mostCarried 2 = .ok (.aload_n 0, 1) := by decide +kernel
theorem dX5_mostCarried_3 : decode cX5_mostCarried 3 = .ok (.aload_n 0, 1) := by decide +kernel
theorem dX5_mostCarried_4 : decode cX5_mostCarried 4 = .ok (.getfield 7, 3) := by decide +kernel
theorem dX5_mostCarried_7 : decode cX5_mostCarried 7 = .ok (.iconst 2, 1) := by decide +kernel
theorem dX5_mostCarried_8 : decode cX5_mostCarried 8 = .ok (.iaload, 1) := by decide +kernel
theorem dX5_mostCarried_9 : decode cX5_mostCarried 9 = .ok (.invokevirtual 258, 3) := by decide +kernel
theorem dX5_mostCarried_12 : decode cX5_mostCarried 12 = .ok (.aload_n 0, 1) := by decide +kernel
theorem dX5_mostCarried_13 : decode cX5_mostCarried 13 = .ok (.invokevirtual 265, 3) := by decide +kernel
theorem dX5_mostCarried_16 : decode cX5_mostCarried 16 = .ok (.ifCond .eq 33, 3) := by decide +kernel
theorem dX5_mostCarried_19 : decode cX5_mostCarried 19 = .ok (.aload_n 0, 1) := by decide +kernel
theorem dX5_mostCarried_20 : decode cX5_mostCarried 20 = .ok (.getfield 56, 3) := by decide +kernel
theorem dX5_mostCarried_23 : decode cX5_mostCarried 23 = .ok (.aload_n 0, 1) := by decide +kernel
theorem dX5_mostCarried_24 : decode cX5_mostCarried 24 = .ok (.getfield 245, 3) := by decide +kernel
theorem dX5_mostCarried_27 : decode cX5_mostCarried 27 = .ok (.iaload, 1) := by decide +kernel
theorem dX5_mostCarried_28 : decode cX5_mostCarried 28 = .ok (.iload_n 1, 1) := by decide +kernel
theorem dX5_mostCarried_29 : decode cX5_mostCarried 29 = .ok (.if_icmp .le 15, 3) := by decide +kernel
theorem dX5_mostCarried_32 : decode cX5_mostCarried 32 = .ok (.aload_n 0, 1) := by decide +kernel
theorem dX5_mostCarried_33 : decode cX5_mostCarried 33 = .ok (.getfield 56, 3) := by decide +kernel
theorem dX5_mostCarried_36 : decode cX5_mostCarried 36 = .ok (.aload_n 0, 1) := by decide +kernel
theorem dX5_mostCarried_37 : decode cX5_mostCarried 37 = .ok (.getfield 245, 3) := by decide +kernel
