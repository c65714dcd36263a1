theorem dX5_mostCarried_40 : decode cX5_mostCarried 40 = .ok (.iaload, 1) := by decide +kernel
theorem dX5_mostCarried_41 : decode cX5_mostCarried 41 = .ok (.goto 4, 3) := by decide +kernel
theorem dX5_mostCarried_44 : decode cX5_mostCarried 44 = .ok (.iload_n 1, 1) := by decide +kernel
theorem dX5_mostCarried_45 : decode cX5_mostCarried 45 = .ok (.istore_n 1, 1) := by decide +kernel
theorem dX5_mostCarried_46 : decode cX5_mostCarried 46 = .ok (.goto (-34), 3) := by decide +kernel
theorem dX5_mostCarried_49 : decode cX5_mostCarried 49 = .ok (.iload_n 1, 1) := by decide +kernel
theorem dX5_mostCarried_50 : decode cX5_mostCarried 50 = .ok (.ireturn, 1) := by decide +kernel
theorem dX5_seats_0 : decode cX5_seats 0 = .ok (.aload_n 0, 1) := by decide +kernel
theorem dX5_seats_1 : decode cX5_seats 1 = .ok (.getfield 163, 3) := by decide +kernel
theorem dX5_seats_4 : decode cX5_seats 4 = .ok (.ifCond .ne 6, 3) := by decide +kernel
theorem dX5_seats_7 : decode cX5_seats 7 = .ok (.bipush (-4), 2) := by decide +kernel
theorem dX5_seats_9 : decode cX5_seats 9 = .ok (.ireturn, 1) := by decide +kernel
theorem dX5_seats_10 : decode cX5_seats 10 = .ok (.aload_n 0, 1) := by decide +kernel
theorem dX5_seats_11 : decode cX5_seats 11 = .ok (.invokevirtual 273, 3) := by decide +kernel
theorem dX5_seats_14 : decode cX5_seats 14 = .ok (.istore_n 1, 1) := by decide +kernel
theorem dX5_seats_15 : decode cX5_seats 15 = .ok (.bipush (-9), 2) := by decide +kernel
theorem dX5_seats_17 : decode cX5_seats 17 = .ok (.istore_n 2, 1) := by decide +kernel
theorem dX5_seats_18 : decode cX5_seats 18 = .ok (.iconst 0, 1) := by decide +kernel
theorem dX5_seats_19 : decode cX5_seats 19 = .ok (.istore_n 3, 1) := by decide +kernel
theorem dX5_seats_20 : decode cX5_seats 20 = .ok (.iload_n 3, 1) := by decide +kernel
theorem dX5_seats_21 : decode cX5_seats 21 = .ok (.aload_n 0, 1) := by decide +kernel
theorem dX5_seats_22 : decode cX5_seats 22 = .ok (.getfield 163, 3) := by decide +kernel
theorem dX5_seats_25 : decode cX5_seats 25 = .ok (.if_icmp .ge 80, 3) := by decide +kernel
theorem dX5_seats_28 : decode cX5_seats 28 = .ok (.iload_n 3, 1) := by decide +kernel
theorem dX5_seats_29 : decode cX5_seats 29 = .ok (.iconst 1, 1) := by decide +kernel
theorem dX5_seats_30 : decode cX5_seats 30 = .ok (.iadd, 1) := by decide +kernel
theorem dX5_seats_31 : decode cX5_seats 31 = .ok (.istore 4, 2) := by decide +kernel
theorem dX5_seats_33 : decode cX5_seats 33 = .ok (.iload 4, 2) := by decide +kernel
theorem dX5_seats_35 : decode cX5_seats 35 = .ok (.aload_n 0, 1) := by decide +kernel
theorem dX5_seats_36 : decode cX5_seats 36 = .ok (.getfield 163, 3) := by decide +kernel
theorem dX5_seats_39 : decode cX5_seats 39 = .ok (.if_icmp .ge 60, 3) := by decide +kernel
theorem dX5_seats_42 : decode cX5_seats 42 = .ok (.aload_n 0, 1) := by decide +kernel
theorem dX5_seats_43 : decode cX5_seats 43 = .ok (.iload_n 3, 1) := by decide +kernel
theorem dX5_seats_44 : decode cX5_seats 44 = .ok (.iload 4, 2) := by decide +kernel
theorem dX5_seats_46 : decode cX5_seats 46 = .ok (.invokevirtual 231, 3) := by decide +kernel
theorem dX5_seats_49 : decode cX5_seats 49 = .ok (.aload_n 0, 1) := by decide +kernel
theorem dX5_seats_50 : decode cX5_seats 50 = .ok (.invokevirtual 273, 3) := by decide +kernel
theorem dX5_seats_53 : decode cX5_seats 53 = .ok (.istore 5, 2) := by decide +kernel
theorem dX5_seats_55 : decode cX5_seats 55 = .ok (.aload_n 0, 1) := by decide +kernel
theorem dX5_seats_56 : decode cX5_seats 56 = .ok (.iload_n 3, 1) := by decide +kernel
theorem dX5_seats_57 : decode cX5_seats 57 = .ok (.iload 4, 2) := by decide +kernel
theorem dX5_seats_59 : decode cX5_seats 59 = .ok (.invokevirtual 231, 3) := by decide +kernel
theorem dX5_seats_62 : decode cX5_seats 62 = .ok (.iload 5, 2) := by decide +kernel
theorem dX5_seats_64 : decode cX5_seats 64 = .ok (.iload_n 1, 1) := by decide +kernel
theorem dX5_seats_65 : decode cX5_seats 65 = .ok (.if_icmp .le 13, 3) := by decide +kernel
theorem dX5_seats_68 : decode cX5_seats 68 = .ok (.bipush 10, 2) := by decide +kernel
theorem dX5_seats_70 : decode cX5_seats 70 = .ok (.iload_n 3, 1) := by decide +kernel
theorem dX5_seats_71 : decode cX5_seats 71 = .ok (.imul, 1) := by decide +kernel
theorem dX5_seats_72 : decode cX5_seats 72 = .ok (.iload 4, 2) := by decide +kernel
theorem dX5_seats_74 : decode cX5_seats 74 = .ok (.iadd, 1) := by decide +kernel
theorem dX5_seats_75 : decode cX5_seats 75 = .ok (.goto 4, 3) := by decide +kernel
theorem dX5_seats_78 : decode cX5_seats 78 = .ok (.iload_n 2, 1) := by decide +kernel
theorem dX5_seats_79 : decode cX5_seats 79 = .ok (.istore_n 2, 1) := by decide +kernel
theorem dX5_seats_80 : decode cX5_seats 80 = .ok (.iload 5, 2) := by decide +kernel
theorem dX5_seats_82 : decode cX5_seats 82 = .ok (.iload_n 1, 1) := by decide +kernel
theorem dX5_seats_83 : decode cX5_seats 83 = .ok (.if_icmp .le 8, 3) := by decide +kernel
theorem dX5_seats_86 : decode cX5_seats 86 = .ok (.iload 5, 2) := by decide +kernel
theorem dX5_seats_88 : decode cX5_seats 88 = .ok (.goto 4, 3) := by decide +kernel
theorem dX5_seats_91 : decode cX5_seats 91 = .ok (.iload_n 1, 1) := by decide +kernel
theorem dX5_seats_92 : decode cX5_seats 92 = .ok (.istore_n 1, 1) := by decide +kernel
theorem dX5_seats_93 : decode cX5_seats 93 = .ok (.iinc 4 1, 3) := by decide +kernel
theorem dX5_seats_96 : decode cX5_seats 96 = .ok (.goto (-63), 3) := by decide +kernel
theorem dX5_seats_99 : decode cX5_seats 99 = .ok (.iinc 3 1, 3) := by decide +kernel
theorem dX5_seats_102 : decode cX5_seats 102 = .ok (.goto (-82), 3) := by decide +kernel
theorem dX5_seats_105 : decode cX5_seats 105 = .ok (.aload_n 0, 1) := by decide +kernel
theorem dX5_seats_106 : decode cX5_seats 106 = .ok (.iload_n 2, 1) := by decide +kernel
theorem dX5_seats_107 : decode cX5_seats 107 = .ok (.bipush (-9), 2) := by decide +kernel
theorem dX5_seats_109 : decode cX5_seats 109 = .ok (.if_icmp .ne 10, 3) := by decide +kernel
theorem dX5_seats_112 : decode cX5_seats 112 = .ok (.aload_n 0, 1) := by decide +kernel
theorem dX5_seats_113 : decode cX5_seats 113 = .ok (.getfield 72, 3) := by decide +kernel
theorem dX5_seats_116 : decode cX5_seats 116 = .ok (.goto 4, 3) := by decide +kernel
theorem dX5_seats_119 : decode cX5_seats 119 = .ok (.iload_n 1, 1) := by decide +kernel
theorem dX5_seats_120 : decode cX5_seats 120 = .ok (.putfield 72, 3) := by decide +kernel
theorem dX5_seats_123 : decode cX5_seats 123 = .ok (.iload_n 2, 1) := by decide +kernel
theorem dX5_seats_124 : decode cX5_seats 124 = .ok (.ireturn, 1) := by decide +kernel
theorem dX5_seatsOf_0 : decode cX5_seatsOf 0 = .ok (.iconst 0, 1) := by decide +kernel
theorem dX5_seatsOf_1 : decode cX5_seatsOf 1 = .ok (.istore_n 2, 1) := by decide +kernel
theorem dX5_seatsOf_2 : decode cX5_seatsOf 2 = .ok (.iconst 0, 1) := by decide +kernel
theorem dX5_seatsOf_3 : decode cX5_seatsOf 3 = .ok (.istore_n 3, 1) := by decide +kernel
theorem dX5_seatsOf_4 : decode cX5_seatsOf 4 = .ok (.iload_n 3, 1) := by decide +kernel
theorem dX5_seatsOf_5 : decode cX5_seatsOf 5 = .ok (.aload_n 0, 1) := by decide +kernel
theorem dX5_seatsOf_6 : decode cX5_seatsOf 6 = .ok (.getfield 163, 3) := by decide +kernel
theorem dX5_seatsOf_9 : decode cX5_seatsOf 9 = .ok (.if_icmp .ge 35, 3) := by decide +kernel
theorem dX5_seatsOf_12 : decode cX5_seatsOf 12 = .ok (.iload_n 2, 1) := by decide +kernel
theorem dX5_seatsOf_13 : decode cX5_seatsOf 13 = .ok (.iload_n 1, 1) := by decide +kernel
theorem dX5_seatsOf_14 : decode cX5_seatsOf 14 = .ok (.iload_n 3, 1) := by decide +kernel
theorem dX5_seatsOf_15 : decode cX5_seatsOf 15 = .ok (.invokestatic 147, 3) := by decide +kernel
theorem dX5_seatsOf_18 : decode cX5_seatsOf 18 = .ok (.ifCond .eq 17, 3) := by decide +kernel
theorem dX5_seatsOf_21 : decode cX5_seatsOf 21 = .ok (.iconst 1, 1) := by decide +kernel
theorem dX5_seatsOf_22 : decode cX5_seatsOf 22 = .ok (.aload_n 0, 1) := by decide +kernel
theorem dX5_seatsOf_23 : decode cX5_seatsOf 23 = .ok (.getfield 7, 3) := by decide +kernel
theorem dX5_seatsOf_26 : decode cX5_seatsOf 26 = .ok (.bipush 7, 2) := by decide +kernel
theorem dX5_seatsOf_28 : decode cX5_seatsOf 28 = .ok (.iload_n 3, 1) := by decide +kernel
theorem dX5_seatsOf_29 : decode cX5_seatsOf 29 = .ok (.iadd, 1) := by decide +kernel
theorem dX5_seatsOf_30 : decode cX5_seatsOf 30 = .ok (.iaload, 1) := by decide +kernel
theorem dX5_seatsOf_31 : decode cX5_seatsOf 31 = .ok (.ishl, 1) := by decide +kernel
theorem dX5_seatsOf_32 : decode cX5_seatsOf 32 = .ok (.goto 4, 3) := by decide +kernel
theorem dX5_seatsOf_35 : decode cX5_seatsOf 35 = .ok (.iconst 0, 1) := by decide +kernel
theorem dX5_seatsOf_36 : decode cX5_seatsOf 36 = .ok (.ior, 1) := by decide +kernel
theorem dX5_seatsOf_37 : decode cX5_seatsOf 37 = .ok (.istore_n 2, 1) := by decide +kernel
theorem dX5_seatsOf_38 : decode cX5_seatsOf 38 = .ok (.iinc 3 1, 3) := by decide +kernel
theorem dX5_seatsOf_41 : decode cX5_seatsOf 41 = .ok (.goto (-37), 3) := by decide +kernel
theorem dX5_seatsOf_44 : decode cX5_seatsOf 44 = .ok (.iload_n 2, 1) := by decide +kernel
theorem dX5_seatsOf_45 : decode cX5_seatsOf 45 = .ok (.ireturn, 1) := by decide +kernel
theorem dX5_beside_0 : decode cX5_beside 0 = .ok (.aload_n 0, 1) := by decide +kernel
theorem dX5_beside_1 : decode cX5_beside 1 = .ok (.getfield 163, 3) := by decide +kernel
theorem dX5_beside_4 : decode cX5_beside 4 = .ok (.ifCond .ne 6, 3) := by decide +kernel
theorem dX5_beside_7 : decode cX5_beside 7 = .ok (.bipush (-4), 2) := by decide +kernel
theorem dX5_beside_9 : decode cX5_beside 9 = .ok (.ireturn, 1) := by decide +kernel
theorem dX5_beside_10 : decode cX5_beside 10 = .ok (.aload_n 0, 1) := by decide +kernel
theorem dX5_beside_11 : decode cX5_beside 11 = .ok (.bipush 63, 2) := by decide +kernel
theorem dX5_beside_13 : decode cX5_beside 13 = .ok (.invokevirtual 276, 3) := by decide +kernel
theorem dX5_beside_16 : decode cX5_beside 16 = .ok (.istore_n 1, 1) := by decide +kernel
theorem dX5_beside_17 : decode cX5_beside 17 = .ok (.iconst 0, 1) := by decide +kernel
theorem dX5_beside_18 : decode cX5_beside 18 = .ok (.istore_n 2, 1) := by decide +kernel
theorem dX5_beside_19 : decode cX5_beside 19 = .ok (.iconst 0, 1) := by decide +kernel
theorem dX5_beside_20 : decode cX5_beside 20 = .ok (.istore_n 3, 1) := by decide +kernel
theorem dX5_beside_21 : decode cX5_beside 21 = .ok (.iconst 0, 1) := by decide +kernel
theorem dX5_beside_22 : decode cX5_beside 22 = .ok (.istore 4, 2) := by decide +kernel
theorem dX5_beside_24 : decode cX5_beside 24 = .ok (.iload 4, 2) := by decide +kernel
theorem dX5_beside_26 : decode cX5_beside 26 = .ok (.bipush 10, 2) := by decide +kernel
theorem dX5_beside_28 : decode cX5_beside 28 = .ok (.if_icmp .ge 37, 3) := by decide +kernel
theorem dX5_beside_31 : decode cX5_beside 31 = .ok (.iload_n 1, 1) := by decide +kernel
theorem dX5_beside_32 : decode cX5_beside 32 = .ok (.iload 4, 2) := by decide +kernel
theorem dX5_beside_34 : decode cX5_beside 34 = .ok (.invokestatic 147, 3) := by decide +kernel
theorem dX5_beside_37 : decode cX5_beside 37 = .ok (.ifCond .eq 9, 3) := by decide +kernel
theorem dX5_beside_40 : decode cX5_beside 40 = .ok (.iload_n 3, 1) := by decide +kernel
theorem dX5_beside_41 : decode cX5_beside 41 = .ok (.iconst 1, 1) := by decide +kernel
theorem dX5_beside_42 : decode cX5_beside 42 = .ok (.iadd, 1) := by decide +kernel
theorem dX5_beside_43 : decode cX5_beside 43 = .ok (.goto 4, 3) := by decide +kernel
theorem dX5_beside_46 : decode cX5_beside 46 = .ok (.iconst 0, 1) := by decide +kernel
theorem dX5_beside_47 : decode cX5_beside 47 = .ok (.istore_n 3, 1) := by decide +kernel
theorem dX5_beside_48 : decode cX5_beside 48 = .ok (.iload_n 3, 1) := by decide +kernel
theorem dX5_beside_49 : decode cX5_beside 49 = .ok (.iload_n 2, 1) := by decide +kernel
theorem dX5_beside_50 : decode cX5_beside 50 = .ok (.if_icmp .le 7, 3) := by decide +kernel
theorem dX5_beside_53 : decode cX5_beside 53 = .ok (.iload_n 3, 1) := by decide +kernel
theorem dX5_beside_54 : decode cX5_beside 54 = .ok (.goto 4, 3) := by decide +kernel
theorem dX5_beside_57 : decode cX5_beside 57 = .ok (.iload_n 2, 1) := by decide +kernel
theorem dX5_beside_58 : decode cX5_beside 58 = .ok (.istore_n 2, 1) := by decide +kernel
theorem dX5_beside_59 : decode cX5_beside 59 = .ok (.iinc 4 1, 3) := by decide +kernel
theorem dX5_beside_62 : decode cX5_beside 62 = .ok (.goto (-38), 3) := by decide +kernel
theorem dX5_beside_65 : decode cX5_beside 65 = .ok (.aload_n 0, 1) := by decide +kernel
theorem dX5_beside_66 : decode cX5_beside 66 = .ok (.iload_n 2, 1) := by decide +kernel
theorem dX5_beside_67 : decode cX5_beside 67 = .ok (.putfield 72, 3) := by decide +kernel
theorem dX5_beside_70 : decode cX5_beside 70 = .ok (.iload_n 1, 1) := by decide +kernel
theorem dX5_beside_71 : decode cX5_beside 71 = .ok (.iload_n 1, 1) := by decide +kernel
theorem dX5_beside_72 : decode cX5_beside 72 = .ok (.iconst 1, 1) := by decide +kernel
theorem dX5_beside_73 : decode cX5_beside 73 = .ok (.ishr, 1) := by decide +kernel
theorem dX5_beside_74 : decode cX5_beside 74 = .ok (.iand, 1) := by decide +kernel
theorem dX5_beside_75 : decode cX5_beside 75 = .ok (.invokestatic 237, 3) := by decide +kernel
theorem dX5_beside_78 : decode cX5_beside 78 = .ok (.ireturn, 1) := by decide +kernel
theorem dX5_apart_0 : decode cX5_apart 0 = .ok (.aload_n 0, 1) := by decide +kernel
theorem dX5_apart_1 : decode cX5_apart 1 = .ok (.getfield 163, 3) := by decide +kernel
theorem dX5_apart_4 : decode cX5_apart 4 = .ok (.ifCond .ne 6, 3) := by decide +kernel
theorem dX5_apart_7 : decode cX5_apart 7 = .ok (.bipush (-4), 2) := by decide +kernel
theorem dX5_apart_9 : decode cX5_apart 9 = .ok (.ireturn, 1) := by decide +kernel
theorem dX5_apart_10 : decode cX5_apart 10 = .ok (.iconst 1, 1) := by decide +kernel
theorem dX5_apart_11 : decode cX5_apart 11 = .ok (.aload_n 0, 1) := by decide +kernel
theorem dX5_apart_12 : decode cX5_apart 12 = .ok (.getfield 163, 3) := by decide +kernel
theorem dX5_apart_15 : decode cX5_apart 15 = .ok (.ishl, 1) := by decide +kernel
theorem dX5_apart_16 : decode cX5_apart 16 = .ok (.iconst 1, 1) := by decide +kernel
theorem dX5_apart_17 : decode cX5_apart 17 = .ok (.isub, 1) := by decide +kernel
theorem dX5_apart_18 : decode cX5_apart 18 = .ok (.istore_n 1, 1) := by decide +kernel
theorem dX5_apart_19 : decode cX5_apart 19 = .ok (.sipush 999, 3) := by decide +kernel
theorem dX5_apart_22 : decode cX5_apart 22 = .ok (.istore_n 2, 1) := by decide +kernel
theorem dX5_apart_23 : decode cX5_apart 23 = .ok (.iconst 0, 1) := by decide +kernel
theorem dX5_apart_24 : decode cX5_apart 24 = .ok (.istore_n 3, 1) := by decide +kernel
theorem dX5_apart_25 : decode cX5_apart 25 = .ok (.iload_n 3, 1) := by decide +kernel
theorem dX5_apart_26 : decode cX5_apart 26 = .ok (.iload_n 1, 1) := by decide +kernel
theorem dX5_apart_27 : decode cX5_apart 27 = .ok (.if_icmp .gt 76, 3) := by decide +kernel
theorem dX5_apart_30 : decode cX5_apart 30 = .ok (.aload_n 0, 1) := by decide +kernel
theorem dX5_apart_31 : decode cX5_apart 31 = .ok (.iload_n 1, 1) := by decide +kernel
theorem dX5_apart_32 : decode cX5_apart 32 = .ok (.iload_n 3, 1) := by decide +kernel
theorem dX5_apart_33 : decode cX5_apart 33 = .ok (.iconst (-1), 1) := by decide +kernel
theorem dX5_apart_34 : decode cX5_apart 34 = .ok (.ixor, 1) := by decide +kernel
theorem dX5_apart_35 : decode cX5_apart 35 = .ok (.iand, 1) := by decide +kernel
theorem dX5_apart_36 : decode cX5_apart 36 = .ok (.invokevirtual 276, 3) := by decide +kernel
theorem dX5_apart_39 : decode cX5_apart 39 = .ok (.istore 4, 2) := by decide +kernel
theorem dX5_apart_41 : decode cX5_apart 41 = .ok (.iload 4, 2) := by decide +kernel
theorem dX5_apart_43 : decode cX5_apart 43 = .ok (.iload 4, 2) := by decide +kernel
theorem dX5_apart_45 : decode cX5_apart 45 = .ok (.iconst 1, 1) := by decide +kernel
theorem dX5_apart_46 : decode cX5_apart 46 = .ok (.ishr, 1) := by decide +kernel
theorem dX5_apart_47 : decode cX5_apart 47 = .ok (.iand, 1) := by decide +kernel
theorem dX5_apart_48 : decode cX5_apart 48 = .ok (.ifCond .ne 15, 3) := by decide +kernel
theorem dX5_apart_51 : decode cX5_apart 51 = .ok (.iload_n 3, 1) := by decide +kernel
theorem dX5_apart_52 : decode cX5_apart 52 = .ok (.invokestatic 237, 3) := by decide +kernel
theorem dX5_apart_55 : decode cX5_apart 55 = .ok (.iload_n 2, 1) := by decide +kernel
theorem dX5_apart_56 : decode cX5_apart 56 = .ok (.if_icmp .ge 7, 3) := by decide +kernel
theorem dX5_apart_59 : decode cX5_apart 59 = .ok (.iconst 1, 1) := by decide +kernel
theorem dX5_apart_60 : decode cX5_apart 60 = .ok (.goto 4, 3) := by decide +kernel
theorem dX5_apart_63 : decode cX5_apart 63 = .ok (.iconst 0, 1) := by decide +kernel
theorem dX5_apart_64 : decode cX5_apart 64 = .ok (.istore 5, 2) := by decide +kernel
theorem dX5_apart_66 : decode cX5_apart 66 = .ok (.aload_n 0, 1) := by decide +kernel
theorem dX5_apart_67 : decode cX5_apart 67 = .ok (.iload 5, 2) := by decide +kernel
theorem dX5_apart_69 : decode cX5_apart 69 = .ok (.ifCond .eq 7, 3) := by decide +kernel
theorem dX5_apart_72 : decode cX5_apart 72 = .ok (.iload_n 3, 1) := by decide +kernel
theorem dX5_apart_73 : decode cX5_apart 73 = .ok (.goto 7, 3) := by decide +kernel
theorem dX5_apart_76 : decode cX5_apart 76 = .ok (.aload_n 0, 1) := by decide +kernel
theorem dX5_apart_77 : decode cX5_apart 77 = .ok (.getfield 72, 3) := by decide +kernel
theorem dX5_apart_80 : decode cX5_apart 80 = .ok (.putfield 72, 3) := by decide +kernel
theorem dX5_apart_83 : decode cX5_apart 83 = .ok (.iload 5, 2) := by decide +kernel
theorem dX5_apart_85 : decode cX5_apart 85 = .ok (.ifCond .eq 10, 3) := by decide +kernel
theorem dX5_apart_88 : decode cX5_apart 88 = .ok (.iload_n 3, 1) := by decide +kernel
theorem dX5_apart_89 : decode cX5_apart 89 = .ok (.invokestatic 237, 3) := by decide +kernel
theorem dX5_apart_92 : decode cX5_apart 92 = .ok (.goto 4, 3) := by decide +kernel
theorem dX5_apart_95 : decode cX5_apart 95 = .ok (.iload_n 2, 1) := by decide +kernel
theorem dX5_apart_96 : decode cX5_apart 96 = .ok (.istore_n 2, 1) := by decide +kernel
theorem dX5_apart_97 : decode cX5_apart 97 = .ok (.iinc 3 1, 3) := by decide +kernel
theorem dX5_apart_100 : decode cX5_apart 100 = .ok (.goto (-75), 3) := by decide +kernel
theorem dX5_apart_103 : decode cX5_apart 103 = .ok (.iload_n 2, 1) := by decide +kernel
theorem dX5_apart_104 : decode cX5_apart 104 = .ok (.ireturn, 1) := by decide +kernel
theorem dX5_noNotices_0 : decode cX5_noNotices 0 = .ok (.aload_n 0, 1) := by decide +kernel
theorem dX5_noNotices_1 : decode cX5_noNotices 1 = .ok (.getfield 25, 3) := by decide +kernel
theorem dX5_noNotices_4 : decode cX5_noNotices 4 = .ok (.iload_n 1, 1) := by decide +kernel
theorem dX5_noNotices_5 : decode cX5_noNotices 5 = .ok (.iaload, 1) := by decide +kernel
theorem dX5_noNotices_6 : decode cX5_noNotices 6 = .ok (.ifCond .ge 9, 3) := by decide +kernel
theorem dX5_noNotices_9 : decode cX5_noNotices 9 = .ok (.aload_n 0, 1) := by decide +kernel
theorem dX5_noNotices_10 : decode cX5_noNotices 10 = .ok (.iconst 1, 1) := by decide +kernel
theorem dX5_noNotices_11 : decode cX5_noNotices 11 = .ok (.invokevirtual 87, 3) := by decide +kernel
theorem dX5_noNotices_14 : decode cX5_noNotices 14 = .ok (.ireturn, 1) := by decide +kernel
theorem dX5_noNotices_15 : decode cX5_noNotices 15 = .ok (.aload_n 0, 1) := by decide +kernel
theorem dX5_noNotices_16 : decode cX5_noNotices 16 = .ok (.getfield 25, 3) := by decide +kernel
theorem dX5_noNotices_19 : decode cX5_noNotices 19 = .ok (.iload_n 1, 1) := by decide +kernel
theorem dX5_noNotices_20 : decode cX5_noNotices 20 = .ok (.iaload, 1) := by decide +kernel
theorem dX5_noNotices_21 : decode cX5_noNotices 21 = .ok (.iconst 3, 1) := by decide +kernel
theorem dX5_noNotices_22 : decode cX5_noNotices 22 = .ok (.irem, 1) := by decide +kernel
theorem dX5_noNotices_23 : decode cX5_noNotices 23 = .ok (.ifCond .eq 9, 3) := by decide +kernel
theorem dX5_noNotices_26 : decode cX5_noNotices 26 = .ok (.aload_n 0, 1) := by decide +kernel
theorem dX5_noNotices_27 : decode cX5_noNotices 27 = .ok (.iconst 5, 1) := by decide +kernel
theorem dX5_noNotices_28 : decode cX5_noNotices 28 = .ok (.invokevirtual 87, 3) := by decide +kernel
theorem dX5_noNotices_31 : decode cX5_noNotices 31 = .ok (.ireturn, 1) := by decide +kernel
theorem dX5_noNotices_32 : decode cX5_noNotices 32 = .ok (.iconst 1, 1) := by decide +kernel
theorem dX5_noNotices_33 : decode cX5_noNotices 33 = .ok (.istore_n 2, 1) := by decide +kernel
theorem dX5_noNotices_34 : decode cX5_noNotices 34 = .ok (.bipush 40, 2) := by decide +kernel
theorem dX5_noNotices_36 : decode cX5_noNotices 36 = .ok (.iload_n 1, 1) := by decide +kernel
theorem dX5_noNotices_37 : decode cX5_noNotices 37 = .ok (.imul, 1) := by decide +kernel
theorem dX5_noNotices_38 : decode cX5_noNotices 38 = .ok (.istore_n 3, 1) := by decide +kernel
theorem dX5_noNotices_39 : decode cX5_noNotices 39 = .ok (.iload_n 3, 1) := by decide +kernel
theorem dX5_noNotices_40 : decode cX5_noNotices 40 = .ok (.bipush 40, 2) := by decide +kernel
theorem dX5_noNotices_42 : decode cX5_noNotices 42 = .ok (.iload_n 1, 1) := by decide +kernel
theorem dX5_noNotices_43 : decode cX5_noNotices 43 = .ok (.imul, 1) := by decide +kernel
theorem dX5_noNotices_44 : decode cX5_noNotices 44 = .ok (.aload_n 0, 1) := by decide +kernel
theorem dX5_noNotices_45 : decode cX5_noNotices 45 = .ok (.getfield 25, 3) := by decide +kernel
theorem dX5_noNotices_48 : decode cX5_noNotices 48 = .ok (.iload_n 1, 1) := by decide +kernel
theorem dX5_noNotices_49 : decode cX5_noNotices 49 = .ok (.iaload, 1) := by decide +kernel
theorem dX5_noNotices_50 : decode cX5_noNotices 50 = .ok (.iadd, 1) := by decide +kernel
theorem dX5_noNotices_51 : decode cX5_noNotices 51 = .ok (.if_icmp .ge 74, 3) := by decide +kernel
theorem dX5_noNotices_54 : decode cX5_noNotices 54 = .ok (.iload_n 2, 1) := by decide +kernel
theorem dX5_noNotices_55 : decode cX5_noNotices 55 = .ok (.ifCond .eq 62, 3) := by decide +kernel
theorem dX5_noNotices_58 : decode cX5_noNotices 58 = .ok (.aload_n 0, 1) := by decide +kernel
theorem dX5_noNotices_59 : decode cX5_noNotices 59 = .ok (.getfield 28, 3) := by decide +kernel
theorem dX5_noNotices_62 : decode cX5_noNotices 62 = .ok (.iload_n 3, 1) := by decide +kernel
theorem dX5_noNotices_63 : decode cX5_noNotices 63 = .ok (.iaload, 1) := by decide +kernel
theorem dX5_noNotices_64 : decode cX5_noNotices 64 = .ok (.i2l, 1) := by decide +kernel
theorem dX5_noNotices_65 : decode cX5_noNotices 65 = .ok (.lconst 1, 1) := by decide +kernel
theorem dX5_noNotices_66 : decode cX5_noNotices 66 = .ok (.ldc2_w 279, 3) := by decide +kernel
theorem dX5_noNotices_69 : decode cX5_noNotices 69 = .ok (.invokestatic 77, 3) := by decide +kernel
theorem dX5_noNotices_72 : decode cX5_noNotices 72 = .ok (.ifCond .eq 45, 3) := by decide +kernel
theorem dX5_noNotices_75 : decode cX5_noNotices 75 = .ok (.aload_n 0, 1) := by decide +kernel
theorem dX5_noNotices_76 : decode cX5_noNotices 76 = .ok (.getfield 28, 3) := by decide +kernel
theorem dX5_noNotices_79 : decode cX5_noNotices 79 = .ok (.iload_n 3, 1) := by decide +kernel
theorem dX5_noNotices_80 : decode cX5_noNotices 80 = .ok (.iconst 1, 1) := by decide +kernel
theorem dX5_noNotices_81 : decode cX5_noNotices 81 = .ok (.iadd, 1) := by decide +kernel
theorem dX5_noNotices_82 : decode cX5_noNotices 82 = .ok (.iaload, 1) := by decide +kernel
theorem dX5_noNotices_83 : decode cX5_noNotices 83 = .ok (.i2l, 1) := by decide +kernel
theorem dX5_noNotices_84 : decode cX5_noNotices 84 = .ok (.ldc2_w 281, 3) := by decide +kernel
theorem dX5_noNotices_87 : decode cX5_noNotices 87 = .ok (.ldc2_w 283, 3) := by decide +kernel
theorem dX5_noNotices_90 : decode cX5_noNotices 90 = .ok (.invokestatic 77, 3) := by decide +kernel
theorem dX5_noNotices_93 : decode cX5_noNotices 93 = .ok (.ifCond .eq 24, 3) := by decide +kernel
theorem dX5_noNotices_96 : decode cX5_noNotices 96 = .ok (.aload_n 0, 1) := by decide +kernel
theorem dX5_noNotices_97 : decode cX5_noNotices 97 = .ok (.getfield 28, 3) := by decide +kernel
theorem dX5_noNotices_100 : decode cX5_noNotices 100 = .ok (.iload_n 3, 1) := by decide +kernel
theorem dX5_noNotices_101 : decode cX5_noNotices 101 = .ok (.iconst 2, 1) := by decide +kernel
theorem dX5_noNotices_102 : decode cX5_noNotices 102 = .ok (.iadd, 1) := by decide +kernel
theorem dX5_noNotices_103 : decode cX5_noNotices 103 = .ok (.iaload, 1) := by decide +kernel
theorem dX5_noNotices_104 : decode cX5_noNotices 104 = .ok (.i2l, 1) := by decide +kernel
theorem dX5_noNotices_105 : decode cX5_noNotices 105 = .ok (.lconst 0, 1) := by decide +kernel
theorem dX5_noNotices_106 : decode cX5_noNotices 106 = .ok (.lconst 1, 1) := by decide +kernel
theorem dX5_noNotices_107 : decode cX5_noNotices 107 = .ok (.invokestatic 77, 3) := by decide +kernel
theorem dX5_noNotices_110 : decode cX5_noNotices 110 = .ok (.ifCond .eq 7, 3) := by decide +kernel
theorem dX5_noNotices_113 : decode cX5_noNotices 113 = .ok (.iconst 1, 1) := by decide +kernel
theorem dX5_noNotices_114 : decode cX5_noNotices 114 = .ok (.goto 4, 3) := by decide +kernel
theorem dX5_noNotices_117 : decode cX5_noNotices 117 = .ok (.iconst 0, 1) := by decide +kernel
theorem dX5_noNotices_118 : decode cX5_noNotices 118 = .ok (.istore_n 2, 1) := by decide +kernel
theorem dX5_noNotices_119 : decode cX5_noNotices 119 = .ok (.iinc 3 3, 3) := by decide +kernel
theorem dX5_noNotices_122 : decode cX5_noNotices 122 = .ok (.goto (-83), 3) := by decide +kernel
theorem dX5_noNotices_125 : decode cX5_noNotices 125 = .ok (.iload_n 2, 1) := by decide +kernel
theorem dX5_noNotices_126 : decode cX5_noNotices 126 = .ok (.ifCond .eq 7, 3) := by decide +kernel
theorem dX5_noNotices_129 : decode cX5_noNotices 129 = .ok (.iconst 0, 1) := by decide +kernel
theorem dX5_noNotices_130 : decode cX5_noNotices 130 = .ok (.goto 8, 3) := by decide +kernel
theorem dX5_noNotices_133 : decode cX5_noNotices 133 = .ok (.aload_n 0, 1) := by decide +kernel
theorem dX5_noNotices_134 : decode cX5_noNotices 134 = .ok (.iconst 3, 1) := by decide +kernel
theorem dX5_noNotices_135 : decode cX5_noNotices 135 = .ok (.invokevirtual 87, 3) := by decide +kernel
theorem dX5_noNotices_138 : decode cX5_noNotices 138 = .ok (.ireturn, 1) := by decide +kernel
theorem dX5_isNoticed_0 : decode cX5_isNoticed 0 = .ok (.iconst 1, 1) := by decide +kernel
theorem dX5_isNoticed_1 : decode cX5_isNoticed 1 = .ok (.istore 6, 2) := by decide +kernel
theorem dX5_isNoticed_3 : decode cX5_isNoticed 3 = .ok (.bipush 40, 2) := by decide +kernel
theorem dX5_isNoticed_5 : decode cX5_isNoticed 5 = .ok (.iload_n 1, 1) := by decide +kernel
theorem dX5_isNoticed_6 : decode cX5_isNoticed 6 = .ok (.imul, 1) := by decide +kernel
theorem dX5_isNoticed_7 : decode cX5_isNoticed 7 = .ok (.istore 7, 2) := by decide +kernel
theorem dX5_isNoticed_9 : decode cX5_isNoticed 9 = .ok (.iload 7, 2) := by decide +kernel
theorem dX5_isNoticed_11 : decode cX5_isNoticed 11 = .ok (.bipush 40, 2) := by decide +kernel
theorem dX5_isNoticed_13 : decode cX5_isNoticed 13 = .ok (.iload_n 1, 1) := by decide +kernel
theorem dX5_isNoticed_14 : decode cX5_isNoticed 14 = .ok (.imul, 1) := by decide +kernel
theorem dX5_isNoticed_15 : decode cX5_isNoticed 15 = .ok (.aload_n 0, 1) := by decide +kernel
theorem dX5_isNoticed_16 : decode cX5_isNoticed 16 = .ok (.getfield 25, 3) := by decide +kernel
theorem dX5_isNoticed_19 : decode cX5_isNoticed 19 = .ok (.iload_n 1, 1) := by decide +kernel
theorem dX5_isNoticed_20 : decode cX5_isNoticed 20 = .ok (.iaload, 1) := by decide +kernel
theorem dX5_isNoticed_21 : decode cX5_isNoticed 21 = .ok (.iadd, 1) := by decide +kernel
theorem dX5_isNoticed_22 : decode cX5_isNoticed 22 = .ok (.if_icmp .ge 79, 3) := by decide +kernel
theorem dX5_isNoticed_25 : decode cX5_isNoticed 25 = .ok (.iload_n 2, 1) := by decide +kernel
theorem dX5_isNoticed_26 : decode cX5_isNoticed 26 = .ok (.iload_n 3, 1) := by decide +kernel
theorem dX5_isNoticed_27 : decode cX5_isNoticed 27 = .ok (.iload 4, 2) := by decide +kernel
theorem dX5_isNoticed_29 : decode cX5_isNoticed 29 = .ok (.aload_n 0, 1) := by decide +kernel
theorem dX5_isNoticed_30 : decode cX5_isNoticed 30 = .ok (.getfield 28, 3) := by decide +kernel
theorem dX5_isNoticed_33 : decode cX5_isNoticed 33 = .ok (.iload 7, 2) := by decide +kernel
theorem dX5_isNoticed_35 : decode cX5_isNoticed 35 = .ok (.iconst 1, 1) := by decide +kernel
theorem dX5_isNoticed_36 : decode cX5_isNoticed 36 = .ok (.iadd, 1) := by decide +kernel
theorem dX5_isNoticed_37 : decode cX5_isNoticed 37 = .ok (.iaload, 1) := by decide +kernel
theorem dX5_isNoticed_38 : decode cX5_isNoticed 38 = .ok (.iload 5, 2) := by decide +kernel
theorem dX5_isNoticed_40 : decode cX5_isNoticed 40 = .ok (.invokestatic 182, 3) := by decide +kernel
theorem dX5_isNoticed_43 : decode cX5_isNoticed 43 = .ok (.aload_n 0, 1) := by decide +kernel
theorem dX5_isNoticed_44 : decode cX5_isNoticed 44 = .ok (.getfield 28, 3) := by decide +kernel
theorem dX5_isNoticed_47 : decode cX5_isNoticed 47 = .ok (.iload 7, 2) := by decide +kernel
theorem dX5_isNoticed_49 : decode cX5_isNoticed 49 = .ok (.iaload, 1) := by decide +kernel
theorem dX5_isNoticed_50 : decode cX5_isNoticed 50 = .ok (.if_icmp .lt 7, 3) := by decide +kernel
theorem dX5_isNoticed_53 : decode cX5_isNoticed 53 = .ok (.iconst 1, 1) := by decide +kernel
theorem dX5_isNoticed_54 : decode cX5_isNoticed 54 = .ok (.goto 4, 3) := by decide +kernel
theorem dX5_isNoticed_57 : decode cX5_isNoticed 57 = .ok (.iconst 0, 1) := by decide +kernel
theorem dX5_isNoticed_58 : decode cX5_isNoticed 58 = .ok (.istore 8, 2) := by decide +kernel
theorem dX5_isNoticed_60 : decode cX5_isNoticed 60 = .ok (.iload 6, 2) := by decide +kernel
theorem dX5_isNoticed_62 : decode cX5_isNoticed 62 = .ok (.ifCond .eq 30, 3) := by decide +kernel
theorem dX5_isNoticed_65 : decode cX5_isNoticed 65 = .ok (.iload 8, 2) := by decide +kernel
theorem dX5_isNoticed_67 : decode cX5_isNoticed 67 = .ok (.aload_n 0, 1) := by decide +kernel
theorem dX5_isNoticed_68 : decode cX5_isNoticed 68 = .ok (.getfield 28, 3) := by decide +kernel
theorem dX5_isNoticed_71 : decode cX5_isNoticed 71 = .ok (.iload 7, 2) := by decide +kernel
theorem dX5_isNoticed_73 : decode cX5_isNoticed 73 = .ok (.iconst 2, 1) := by decide +kernel
theorem dX5_isNoticed_74 : decode cX5_isNoticed 74 = .ok (.iadd, 1) := by decide +kernel
theorem dX5_isNoticed_75 : decode cX5_isNoticed 75 = .ok (.iaload, 1) := by decide +kernel
theorem dX5_isNoticed_76 : decode cX5_isNoticed 76 = .ok (.iconst 1, 1) := by decide +kernel
theorem dX5_isNoticed_77 : decode cX5_isNoticed 77 = .ok (.if_icmp .ne 7, 3) := by decide +kernel
theorem dX5_isNoticed_80 : decode cX5_isNoticed 80 = .ok (.iconst 1, 1) := by decide +kernel
theorem dX5_isNoticed_81 : decode cX5_isNoticed 81 = .ok (.goto 4, 3) := by decide +kernel
theorem dX5_isNoticed_84 : decode cX5_isNoticed 84 = .ok (.iconst 0, 1) := by decide +kernel
theorem dX5_isNoticed_85 : decode cX5_isNoticed 85 = .ok (.if_icmp .ne 7, 3) := by decide +kernel
theorem dX5_isNoticed_88 : decode cX5_isNoticed 88 = .ok (.iconst 1, 1) := by decide +kernel
theorem dX5_isNoticed_89 : decode cX5_isNoticed 89 = .ok (.goto 4, 3) := by decide +kernel
theorem dX5_isNoticed_92 : decode cX5_isNoticed 92 = .ok (.iconst 0, 1) := by decide +kernel
theorem dX5_isNoticed_93 : decode cX5_isNoticed 93 = .ok (.istore 6, 2) := by decide +kernel
theorem dX5_isNoticed_95 : decode cX5_isNoticed 95 = .ok (.iinc 7 3, 3) := by decide +kernel
theorem dX5_isNoticed_98 : decode cX5_isNoticed 98 = .ok (.goto (-89), 3) := by decide +kernel
theorem dX5_isNoticed_101 : decode cX5_isNoticed 101 = .ok (.iload 6, 2) := by decide +kernel
theorem dX5_isNoticed_103 : decode cX5_isNoticed 103 = .ok (.ireturn, 1) := by decide +kernel
theorem dX5_frights_0 : decode cX5_frights 0 = .ok (.aload_n 0, 1) := by decide +kernel
theorem dX5_frights_1 : decode cX5_frights 1 = .ok (.iload_n 1, 1) := by decide +kernel
theorem dX5_frights_2 : decode cX5_frights 2 = .ok (.invokevirtual 198, 3) := by decide +kernel
theorem dX5_frights_5 : decode cX5_frights 5 = .ok (.ifCond .eq 10, 3) := by decide +kernel
theorem dX5_frights_8 : decode cX5_frights 8 = .ok (.iload_n 2, 1) := by decide +kernel
theorem dX5_frights_9 : decode cX5_frights 9 = .ok (.invokestatic 83, 3) := by decide +kernel
theorem dX5_frights_12 : decode cX5_frights 12 = .ok (.ifCond .ne 5, 3) := by decide +kernel
theorem dX5_frights_15 : decode cX5_frights 15 = .ok (.iconst (-1), 1) := by decide +kernel
theorem dX5_frights_16 : decode cX5_frights 16 = .ok (.ireturn, 1) := by decide +kernel
theorem dX5_frights_17 : decode cX5_frights 17 = .ok (.aload_n 0, 1) := by decide +kernel
theorem dX5_frights_18 : decode cX5_frights 18 = .ok (.iload_n 2, 1) := by decide +kernel
theorem dX5_frights_19 : decode cX5_frights 19 = .ok (.invokevirtual 285, 3) := by decide +kernel
theorem dX5_frights_22 : decode cX5_frights 22 = .ok (.istore_n 3, 1) := by decide +kernel
theorem dX5_frights_23 : decode cX5_frights 23 = .ok (.iload_n 3, 1) := by decide +kernel
theorem dX5_frights_24 : decode cX5_frights 24 = .ok (.ifCond .eq 5, 3) := by decide +kernel
theorem dX5_frights_27 : decode cX5_frights 27 = .ok (.iload_n 3, 1) := by decide +kernel
theorem dX5_frights_28 : decode cX5_frights 28 = .ok (.ireturn, 1) := by decide +kernel
theorem dX5_frights_29 : decode cX5_frights 29 = .ok (.aload_n 0, 1) := by decide +kernel
theorem dX5_frights_30 : decode cX5_frights 30 = .ok (.iload_n 1, 1) := by decide +kernel
theorem dX5_frights_31 : decode cX5_frights 31 = .ok (.aload_n 0, 1) := by decide +kernel
theorem dX5_frights_32 : decode cX5_frights 32 = .ok (.getfield 7, 3) := by decide +kernel
theorem dX5_frights_35 : decode cX5_frights 35 = .ok (.bipush 6, 2) := by decide +kernel
theorem dX5_frights_37 : decode cX5_frights 37 = .ok (.iaload, 1) := by decide +kernel
theorem dX5_frights_38 : decode cX5_frights 38 = .ok (.invokevirtual 179, 3) := by decide +kernel
theorem dX5_frights_41 : decode cX5_frights 41 = .ok (.istore 4, 2) := by decide +kernel
theorem dX5_frights_43 : decode cX5_frights 43 = .ok (.iconst 0, 1) := by decide +kernel
theorem dX5_frights_44 : decode cX5_frights 44 = .ok (.istore 5, 2) := by decide +kernel
theorem dX5_frights_46 : decode cX5_frights 46 = .ok (.aload_n 0, 1) := by decide +kernel
theorem dX5_frights_47 : decode cX5_frights 47 = .ok (.iconst 0, 1) := by decide +kernel
theorem dX5_frights_48 : decode cX5_frights 48 = .ok (.putfield 72, 3) := by decide +kernel
theorem dX5_frights_51 : decode cX5_frights 51 = .ok (.iconst 0, 1) := by decide +kernel
theorem dX5_frights_52 : decode cX5_frights 52 = .ok (.istore 6, 2) := by decide +kernel
theorem dX5_frights_54 : decode cX5_frights 54 = .ok (.iload 6, 2) := by decide +kernel
theorem dX5_frights_56 : decode cX5_frights 56 = .ok (.bipush 10, 2) := by decide +kernel
theorem dX5_frights_58 : decode cX5_frights 58 = .ok (.if_icmp .ge 87, 3) := by decide +kernel
theorem dX5_frights_61 : decode cX5_frights 61 = .ok (.iload 5, 2) := by decide +kernel
theorem dX5_frights_63 : decode cX5_frights 63 = .ok (.aload_n 0, 1) := by decide +kernel
theorem dX5_frights_64 : decode cX5_frights 64 = .ok (.iload_n 2, 1) := by decide +kernel
theorem dX5_frights_65 : decode cX5_frights 65 = .ok (.aload_n 0, 1) := by decide +kernel
theorem dX5_frights_66 : decode cX5_frights 66 = .ok (.getfield 16, 3) := by decide +kernel
theorem dX5_frights_69 : decode cX5_frights 69 = .ok (.iload_n 1, 1) := by decide +kernel
theorem dX5_frights_70 : decode cX5_frights 70 = .ok (.iaload, 1) := by decide +kernel
theorem dX5_frights_71 : decode cX5_frights 71 = .ok (.aload_n 0, 1) := by decide +kernel
theorem dX5_frights_72 : decode cX5_frights 72 = .ok (.getfield 19, 3) := by decide +kernel
theorem dX5_frights_75 : decode cX5_frights 75 = .ok (.iload_n 1, 1) := by decide +kernel
theorem dX5_frights_76 : decode cX5_frights 76 = .ok (.iaload, 1) := by decide +kernel
theorem dX5_frights_77 : decode cX5_frights 77 = .ok (.iload 6, 2) := by decide +kernel
theorem dX5_frights_79 : decode cX5_frights 79 = .ok (.iload 4, 2) := by decide +kernel
theorem dX5_frights_81 : decode cX5_frights 81 = .ok (.invokevirtual 288, 3) := by decide +kernel
theorem dX5_frights_84 : decode cX5_frights 84 = .ok (.ifCond .eq 10, 3) := by decide +kernel
theorem dX5_frights_87 : decode cX5_frights 87 = .ok (.iconst 1, 1) := by decide +kernel
theorem dX5_frights_88 : decode cX5_frights 88 = .ok (.iload 6, 2) := by decide +kernel
theorem dX5_frights_90 : decode cX5_frights 90 = .ok (.ishl, 1) := by decide +kernel
theorem dX5_frights_91 : decode cX5_frights 91 = .ok (.goto 4, 3) := by decide +kernel
theorem dX5_frights_94 : decode cX5_frights 94 = .ok (.iconst 0, 1) := by decide +kernel
theorem dX5_frights_95 : decode cX5_frights 95 = .ok (.ior, 1) := by decide +kernel
theorem dX5_frights_96 : decode cX5_frights 96 = .ok (.istore 5, 2) := by decide +kernel
theorem dX5_frights_98 : decode cX5_frights 98 = .ok (.aload_n 0, 1) := by decide +kernel
theorem dX5_frights_99 : decode cX5_frights 99 = .ok (.dup, 1) := by decide +kernel
theorem dX5_frights_100 : decode cX5_frights 100 = .ok (.getfield 72, 3) := by decide +kernel
theorem dX5_frights_103 : decode cX5_frights 103 = .ok (.aload_n 0, 1) := by decide +kernel
theorem dX5_frights_104 : decode cX5_frights 104 = .ok (.iload_n 2, 1) := by decide +kernel
theorem dX5_frights_105 : decode cX5_frights 105 = .ok (.aload_n 0, 1) := by decide +kernel
theorem dX5_frights_106 : decode cX5_frights 106 = .ok (.getfield 16, 3) := by decide +kernel
theorem dX5_frights_109 : decode cX5_frights 109 = .ok (.iload_n 1, 1) := by decide +kernel
theorem dX5_frights_110 : decode cX5_frights 110 = .ok (.iaload, 1) := by decide +kernel
theorem dX5_frights_111 : decode cX5_frights 111 = .ok (.iload 6, 2) := by decide +kernel
theorem dX5_frights_113 : decode cX5_frights 113 = .ok (.aload_n 0, 1) := by decide +kernel
theorem dX5_frights_114 : decode cX5_frights 114 = .ok (.getfield 22, 3) := by decide +kernel
theorem dX5_frights_117 : decode cX5_frights 117 = .ok (.iload_n 1, 1) := by decide +kernel
theorem dX5_frights_118 : decode cX5_frights 118 = .ok (.iaload, 1) := by decide +kernel
theorem dX5_frights_119 : decode cX5_frights 119 = .ok (.iload 4, 2) := by decide +kernel
theorem dX5_frights_121 : decode cX5_frights 121 = .ok (.invokevirtual 288, 3) := by decide +kernel
theorem dX5_frights_124 : decode cX5_frights 124 = .ok (.ifCond .eq 10, 3) := by decide +kernel
theorem dX5_frights_127 : decode cX5_frights 127 = .ok (.iconst 1, 1) := by decide +kernel
theorem dX5_frights_128 : decode cX5_frights 128 = .ok (.iload 6, 2) := by decide +kernel
theorem dX5_frights_130 : decode cX5_frights 130 = .ok (.ishl, 1) := by decide +kernel
theorem dX5_frights_131 : decode cX5_frights 131 = .ok (.goto 4, 3) := by decide +kernel
theorem dX5_frights_134 : decode cX5_frights 134 = .ok (.iconst 0, 1) := by decide +kernel
theorem dX5_frights_135 : decode cX5_frights 135 = .ok (.ior, 1) := by decide +kernel
theorem dX5_frights_136 : decode cX5_frights 136 = .ok (.putfield 72, 3) := by decide +kernel
theorem dX5_frights_139 : decode cX5_frights 139 = .ok (.iinc 6 1, 3) := by decide +kernel
theorem dX5_frights_142 : decode cX5_frights 142 = .ok (.goto (-88), 3) := by decide +kernel
theorem dX5_frights_145 : decode cX5_frights 145 = .ok (.iload 5, 2) := by decide +kernel
theorem dX5_frights_147 : decode cX5_frights 147 = .ok (.ireturn, 1) := by decide +kernel
theorem dX5_kinds_0 : decode cX5_kinds 0 = .ok (.aload_n 0, 1) := by decide +kernel
theorem dX5_kinds_1 : decode cX5_kinds 1 = .ok (.iload_n 1, 1) := by decide +kernel
theorem dX5_kinds_2 : decode cX5_kinds 2 = .ok (.invokevirtual 198, 3) := by decide +kernel
theorem dX5_kinds_5 : decode cX5_kinds 5 = .ok (.ifCond .eq 10, 3) := by decide +kernel
theorem dX5_kinds_8 : decode cX5_kinds 8 = .ok (.iload_n 2, 1) := by decide +kernel
theorem dX5_kinds_9 : decode cX5_kinds 9 = .ok (.invokestatic 83, 3) := by decide +kernel
theorem dX5_kinds_12 : decode cX5_kinds 12 = .ok (.ifCond .ne 5, 3) := by decide +kernel
theorem dX5_kinds_15 : decode cX5_kinds 15 = .ok (.iconst (-1), 1) := by decide +kernel
theorem dX5_kinds_16 : decode cX5_kinds 16 = .ok (.ireturn, 1) := by decide +kernel
theorem dX5_kinds_17 : decode cX5_kinds 17 = .ok (.aload_n 0, 1) := by decide +kernel
theorem dX5_kinds_18 : decode cX5_kinds 18 = .ok (.iload_n 2, 1) := by decide +kernel
theorem dX5_kinds_19 : decode cX5_kinds 19 = .ok (.invokevirtual 285, 3) := by decide +kernel
theorem dX5_kinds_22 : decode cX5_kinds 22 = .ok (.istore_n 3, 1) := by decide +kernel
theorem dX5_kinds_23 : decode cX5_kinds 23 = .ok (.iload_n 3, 1) := by decide +kernel
theorem dX5_kinds_24 : decode cX5_kinds 24 = .ok (.ifCond .eq 5, 3) := by decide +kernel
theorem dX5_kinds_27 : decode cX5_kinds 27 = .ok (.iload_n 3, 1) := by decide +kernel
theorem dX5_kinds_28 : decode cX5_kinds 28 = .ok (.ireturn, 1) := by decide +kernel
theorem dX5_kinds_29 : decode cX5_kinds 29 = .ok (.iconst 0, 1) := by decide +kernel
theorem dX5_kinds_30 : decode cX5_kinds 30 = .ok (.istore 4, 2) := by decide +kernel
theorem dX5_kinds_32 : decode cX5_kinds 32 = .ok (.iconst 0, 1) := by decide +kernel
theorem dX5_kinds_33 : decode cX5_kinds 33 = .ok (.istore 5, 2) := by decide +kernel
theorem dX5_kinds_35 : decode cX5_kinds 35 = .ok (.iload 5, 2) := by decide +kernel
theorem dX5_kinds_37 : decode cX5_kinds 37 = .ok (.bipush 6, 2) := by decide +kernel
theorem dX5_kinds_39 : decode cX5_kinds 39 = .ok (.if_icmp .ge 56, 3) := by decide +kernel
theorem dX5_kinds_42 : decode cX5_kinds 42 = .ok (.iload 4, 2) := by decide +kernel
theorem dX5_kinds_44 : decode cX5_kinds 44 = .ok (.aload_n 0, 1) := by decide +kernel
theorem dX5_kinds_45 : decode cX5_kinds 45 = .ok (.iload_n 2, 1) := by decide +kernel
theorem dX5_kinds_46 : decode cX5_kinds 46 = .ok (.iload 5, 2) := by decide +kernel
theorem dX5_kinds_48 : decode cX5_kinds 48 = .ok (.aload_n 0, 1) := by decide +kernel
theorem dX5_kinds_49 : decode cX5_kinds 49 = .ok (.getfield 19, 3) := by decide +kernel
theorem dX5_kinds_52 : decode cX5_kinds 52 = .ok (.iload_n 1, 1) := by decide +kernel
theorem dX5_kinds_53 : decode cX5_kinds 53 = .ok (.iaload, 1) := by decide +kernel
theorem dX5_kinds_54 : decode cX5_kinds 54 = .ok (.aload_n 0, 1) := by decide +kernel
theorem dX5_kinds_55 : decode cX5_kinds 55 = .ok (.getfield 22, 3) := by decide +kernel
theorem dX5_kinds_58 : decode cX5_kinds 58 = .ok (.iload_n 1, 1) := by decide +kernel
theorem dX5_kinds_59 : decode cX5_kinds 59 = .ok (.iaload, 1) := by decide +kernel
theorem dX5_kinds_60 : decode cX5_kinds 60 = .ok (.aload_n 0, 1) := by decide +kernel
theorem dX5_kinds_61 : decode cX5_kinds 61 = .ok (.iload_n 1, 1) := by decide +kernel
theorem dX5_kinds_62 : decode cX5_kinds 62 = .ok (.aload_n 0, 1) := by decide +kernel
theorem dX5_kinds_63 : decode cX5_kinds 63 = .ok (.getfield 7, 3) := by decide +kernel
theorem dX5_kinds_66 : decode cX5_kinds 66 = .ok (.bipush 6, 2) := by decide +kernel
theorem dX5_kinds_68 : decode cX5_kinds 68 = .ok (.iaload, 1) := by decide +kernel
theorem dX5_kinds_69 : decode cX5_kinds 69 = .ok (.invokevirtual 179, 3) := by decide +kernel
theorem dX5_kinds_72 : decode cX5_kinds 72 = .ok (.invokevirtual 288, 3) := by decide +kernel
theorem dX5_kinds_75 : decode cX5_kinds 75 = .ok (.ifCond .eq 10, 3) := by decide +kernel
theorem dX5_kinds_78 : decode cX5_kinds 78 = .ok (.iconst 1, 1) := by decide +kernel
theorem dX5_kinds_79 : decode cX5_kinds 79 = .ok (.iload 5, 2) := by decide +kernel
theorem dX5_kinds_81 : decode cX5_kinds 81 = .ok (.ishl, 1) := by decide +kernel
theorem dX5_kinds_82 : decode cX5_kinds 82 = .ok (.goto 4, 3) := by decide +kernel
theorem dX5_kinds_85 : decode cX5_kinds 85 = .ok (.iconst 0, 1) := by decide +kernel
theorem dX5_kinds_86 : decode cX5_kinds 86 = .ok (.ior, 1) := by decide +kernel
theorem dX5_kinds_87 : decode cX5_kinds 87 = .ok (.istore 4, 2) := by decide +kernel
theorem dX5_kinds_89 : decode cX5_kinds 89 = .ok (.iinc 5 1, 3) := by decide +kernel
theorem dX5_kinds_92 : decode cX5_kinds 92 = .ok (.goto (-57), 3) := by decide +kernel
theorem dX5_kinds_95 : decode cX5_kinds 95 = .ok (.iload 4, 2) := by decide +kernel
theorem dX5_kinds_97 : decode cX5_kinds 97 = .ok (.ireturn, 1) := by decide +kernel
theorem dX5_whom_0 : decode cX5_whom 0 = .ok (.iload_n 1, 1) := by decide +kernel
theorem dX5_whom_1 : decode cX5_whom 1 = .ok (.i2l, 1) := by decide +kernel
theorem dX5_whom_2 : decode cX5_whom 2 = .ok (.lconst 0, 1) := by decide +kernel
theorem dX5_whom_3 : decode cX5_whom 3 = .ok (.ldc2_w 279, 3) := by decide +kernel
theorem dX5_whom_6 : decode cX5_whom 6 = .ok (.invokestatic 77, 3) := by decide +kernel
theorem dX5_whom_9 : decode cX5_whom 9 = .ok (.ifCond .ne 5, 3) := by decide +kernel
theorem dX5_whom_12 : decode cX5_whom 12 = .ok (.iconst (-1), 1) := by decide +kernel
theorem dX5_whom_13 : decode cX5_whom 13 = .ok (.ireturn, 1) := by decide +kernel
theorem dX5_whom_14 : decode cX5_whom 14 = .ok (.aload_n 0, 1) := by decide +kernel
theorem dX5_whom_15 : decode cX5_whom 15 = .ok (.invokevirtual 222, 3) := by decide +kernel
theorem dX5_whom_18 : decode cX5_whom 18 = .ok (.ifCond .eq 6, 3) := by decide +kernel
theorem dX5_whom_21 : decode cX5_whom 21 = .ok (.bipush (-4), 2) := by decide +kernel
theorem dX5_whom_23 : decode cX5_whom 23 = .ok (.ireturn, 1) := by decide +kernel
theorem dX5_whom_24 : decode cX5_whom 24 = .ok (.iconst 0, 1) := by decide +kernel
theorem dX5_whom_25 : decode cX5_whom 25 = .ok (.istore_n 2, 1) := by decide +kernel
theorem dX5_whom_26 : decode cX5_whom 26 = .ok (.iconst 0, 1) := by decide +kernel
theorem dX5_whom_27 : decode cX5_whom 27 = .ok (.istore_n 3, 1) := by decide +kernel
theorem dX5_whom_28 : decode cX5_whom 28 = .ok (.iconst 0, 1) := by decide +kernel
theorem dX5_whom_29 : decode cX5_whom 29 = .ok (.istore 4, 2) := by decide +kernel
theorem dX5_whom_31 : decode cX5_whom 31 = .ok (.iload 4, 2) := by decide +kernel
theorem dX5_whom_33 : decode cX5_whom 33 = .ok (.aload_n 0, 1) := by decide +kernel
theorem dX5_whom_34 : decode cX5_whom 34 = .ok (.getfield 163, 3) := by decide +kernel
theorem dX5_whom_37 : decode cX5_whom 37 = .ok (.if_icmp .ge 76, 3) := by decide +kernel
theorem dX5_whom_40 : decode cX5_whom 40 = .ok (.aload_n 0, 1) := by decide +kernel
theorem dX5_whom_41 : decode cX5_whom 41 = .ok (.iload 4, 2) := by decide +kernel
theorem dX5_whom_43 : decode cX5_whom 43 = .ok (.aload_n 0, 1) := by decide +kernel
theorem dX5_whom_44 : decode cX5_whom 44 = .ok (.getfield 7, 3) := by decide +kernel
theorem dX5_whom_47 : decode cX5_whom 47 = .ok (.bipush 6, 2) := by decide +kernel
theorem dX5_whom_49 : decode cX5_whom 49 = .ok (.iaload, 1) := by decide +kernel
theorem dX5_whom_50 : decode cX5_whom 50 = .ok (.invokevirtual 195, 3) := by decide +kernel
theorem dX5_whom_53 : decode cX5_whom 53 = .ok (.ifCond .eq 54, 3) := by decide +kernel
theorem dX5_whom_56 : decode cX5_whom 56 = .ok (.aload_n 0, 1) := by decide +kernel
theorem dX5_whom_57 : decode cX5_whom 57 = .ok (.iload 4, 2) := by decide +kernel
theorem dX5_whom_59 : decode cX5_whom 59 = .ok (.aload_n 0, 1) := by decide +kernel
theorem dX5_whom_60 : decode cX5_whom 60 = .ok (.getfield 7, 3) := by decide +kernel
theorem dX5_whom_63 : decode cX5_whom 63 = .ok (.iconst 1, 1) := by decide +kernel
theorem dX5_whom_64 : decode cX5_whom 64 = .ok (.iaload, 1) := by decide +kernel
theorem dX5_whom_65 : decode cX5_whom 65 = .ok (.aload_n 0, 1) := by decide +kernel
theorem dX5_whom_66 : decode cX5_whom 66 = .ok (.getfield 7, 3) := by decide +kernel
theorem dX5_whom_69 : decode cX5_whom 69 = .ok (.iconst 4, 1) := by decide +kernel
theorem dX5_whom_70 : decode cX5_whom 70 = .ok (.iaload, 1) := by decide +kernel
theorem dX5_whom_71 : decode cX5_whom 71 = .ok (.aload_n 0, 1) := by decide +kernel
theorem dX5_whom_72 : decode cX5_whom 72 = .ok (.getfield 7, 3) := by decide +kernel
theorem dX5_whom_75 : decode cX5_whom 75 = .ok (.bipush 6, 2) := by decide +kernel
theorem dX5_whom_77 : decode cX5_whom 77 = .ok (.iaload, 1) := by decide +kernel
theorem dX5_whom_78 : decode cX5_whom 78 = .ok (.invokevirtual 218, 3) := by decide +kernel
theorem dX5_whom_81 : decode cX5_whom 81 = .ok (.istore 5, 2) := by decide +kernel
theorem dX5_whom_83 : decode cX5_whom 83 = .ok (.iload_n 2, 1) := by decide +kernel
theorem dX5_whom_84 : decode cX5_whom 84 = .ok (.iload 5, 2) := by decide +kernel
theorem dX5_whom_86 : decode cX5_whom 86 = .ok (.iload_n 1, 1) := by decide +kernel
theorem dX5_whom_87 : decode cX5_whom 87 = .ok (.if_icmp .ne 10, 3) := by decide +kernel
theorem dX5_whom_90 : decode cX5_whom 90 = .ok (.iconst 1, 1) := by decide +kernel
theorem dX5_whom_91 : decode cX5_whom 91 = .ok (.iload 4, 2) := by decide +kernel
theorem dX5_whom_93 : decode cX5_whom 93 = .ok (.ishl, 1) := by decide +kernel
theorem dX5_whom_94 : decode cX5_whom 94 = .ok (.goto 4, 3) := by decide +kernel
theorem dX5_whom_97 : decode cX5_whom 97 = .ok (.iconst 0, 1) := by decide +kernel
theorem dX5_whom_98 : decode cX5_whom 98 = .ok (.ior, 1) := by decide +kernel
theorem dX5_whom_99 : decode cX5_whom 99 = .ok (.istore_n 2, 1) := by decide +kernel
theorem dX5_whom_100 : decode cX5_whom 100 = .ok (.iload_n 3, 1) := by decide +kernel
theorem dX5_whom_101 : decode cX5_whom 101 = .ok (.iconst 1, 1) := by decide +kernel
theorem dX5_whom_102 : decode cX5_whom 102 = .ok (.iload 5, 2) := by decide +kernel
theorem dX5_whom_104 : decode cX5_whom 104 = .ok (.ishl, 1) := by decide +kernel
theorem dX5_whom_105 : decode cX5_whom 105 = .ok (.ior, 1) := by decide +kernel
theorem dX5_whom_106 : decode cX5_whom 106 = .ok (.istore_n 3, 1) := by decide +kernel
theorem dX5_whom_107 : decode cX5_whom 107 = .ok (.iinc 4 1, 3) := by decide +kernel
theorem dX5_whom_110 : decode cX5_whom 110 = .ok (.goto (-79), 3) := by decide +kernel
theorem dX5_whom_113 : decode cX5_whom 113 = .ok (.aload_n 0, 1) := by decide +kernel
theorem dX5_whom_114 : decode cX5_whom 114 = .ok (.iload_n 3, 1) := by decide +kernel
theorem dX5_whom_115 : decode cX5_whom 115 = .ok (.invokestatic 237, 3) := by decide +kernel
theorem dX5_whom_118 : decode cX5_whom 118 = .ok (.putfield 72, 3) := by decide +kernel
theorem dX5_whom_121 : decode cX5_whom 121 = .ok (.iload_n 2, 1) := by decide +kernel
theorem dX5_whom_122 : decode cX5_whom 122 = .ok (.ireturn, 1) := by decide +kernel
theorem dX5_beginTurn_0 : decode cX5_beginTurn 0 = .ok (.aload_n 0, 1) := by decide +kernel
theorem dX5_beginTurn_1 : decode cX5_beginTurn 1 = .ok (.getfield 62, 3) := by decide +kernel
theorem dX5_beginTurn_4 : decode cX5_beginTurn 4 = .ok (.iload_n 1, 1) := by decide +kernel
theorem dX5_beginTurn_5 : decode cX5_beginTurn 5 = .ok (.iconst 0, 1) := by decide +kernel
theorem dX5_beginTurn_6 : decode cX5_beginTurn 6 = .ok (.iastore, 1) := by decide +kernel
theorem dX5_beginTurn_7 : decode cX5_beginTurn 7 = .ok (.aload_n 0, 1) := by decide +kernel
theorem dX5_beginTurn_8 : decode cX5_beginTurn 8 = .ok (.getfield 65, 3) := by decide +kernel
theorem dX5_beginTurn_11 : decode cX5_beginTurn 11 = .ok (.iload_n 1, 1) := by decide +kernel
theorem dX5_beginTurn_12 : decode cX5_beginTurn 12 = .ok (.bipush (-9), 2) := by decide +kernel
theorem dX5_beginTurn_14 : decode cX5_beginTurn 14 = .ok (.iastore, 1) := by decide +kernel
theorem dX5_beginTurn_15 : decode cX5_beginTurn 15 = .ok (.return_, 1) := by decide +kernel
theorem dX5_take_0 : decode cX5_take 0 = .ok (.aload_n 0, 1) := by decide +kernel
theorem dX5_take_1 : decode cX5_take 1 = .ok (.getfield 65, 3) := by decide +kernel
theorem dX5_take_4 : decode cX5_take 4 = .ok (.iload_n 1, 1) := by decide +kernel
theorem dX5_take_5 : decode cX5_take 5 = .ok (.iaload, 1) := by decide +kernel
theorem dX5_take_6 : decode cX5_take 6 = .ok (.bipush (-9), 2) := by decide +kernel
theorem dX5_take_8 : decode cX5_take 8 = .ok (.if_icmp .eq 32, 3) := by decide +kernel
theorem dX5_take_11 : decode cX5_take 11 = .ok (.iload_n 1, 1) := by decide +kernel
theorem dX5_take_12 : decode cX5_take 12 = .ok (.iconst 2, 1) := by decide +kernel
theorem dX5_take_13 : decode cX5_take 13 = .ok (.irem, 1) := by decide +kernel
theorem dX5_take_14 : decode cX5_take 14 = .ok (.ifCond .ne 16, 3) := by decide +kernel
theorem dX5_take_17 : decode cX5_take 17 = .ok (.iload_n 2, 1) := by decide +kernel
theorem dX5_take_18 : decode cX5_take 18 = .ok (.aload_n 0, 1) := by decide +kernel
theorem dX5_take_19 : decode cX5_take 19 = .ok (.getfield 65, 3) := by decide +kernel
theorem dX5_take_22 : decode cX5_take 22 = .ok (.iload_n 1, 1) := by decide +kernel
theorem dX5_take_23 : decode cX5_take 23 = .ok (.iaload, 1) := by decide +kernel
theorem dX5_take_24 : decode cX5_take 24 = .ok (.if_icmp .le 20, 3) := by decide +kernel
theorem dX5_take_27 : decode cX5_take 27 = .ok (.goto 13, 3) := by decide +kernel
theorem dX5_take_30 : decode cX5_take 30 = .ok (.iload_n 2, 1) := by decide +kernel
theorem dX5_take_31 : decode cX5_take 31 = .ok (.aload_n 0, 1) := by decide +kernel
theorem dX5_take_32 : decode cX5_take 32 = .ok (.getfield 65, 3) := by decide +kernel
theorem dX5_take_35 : decode cX5_take 35 = .ok (.iload_n 1, 1) := by decide +kernel
theorem dX5_take_36 : decode cX5_take 36 = .ok (.iaload, 1) := by decide +kernel
theorem dX5_take_37 : decode cX5_take 37 = .ok (.if_icmp .ge 7, 3) := by decide +kernel
theorem dX5_take_40 : decode cX5_take 40 = .ok (.iconst 1, 1) := by decide +kernel
theorem dX5_take_41 : decode cX5_take 41 = .ok (.goto 4, 3) := by decide +kernel
theorem dX5_take_44 : decode cX5_take 44 = .ok (.iconst 0, 1) := by decide +kernel
theorem dX5_take_45 : decode cX5_take 45 = .ok (.istore_n 3, 1) := by decide +kernel
theorem dX5_take_46 : decode cX5_take 46 = .ok (.aload_n 0, 1) := by decide +kernel
theorem dX5_take_47 : decode cX5_take 47 = .ok (.getfield 65, 3) := by decide +kernel
theorem dX5_take_50 : decode cX5_take 50 = .ok (.iload_n 1, 1) := by decide +kernel
theorem dX5_take_51 : decode cX5_take 51 = .ok (.iload_n 3, 1) := by decide +kernel
theorem dX5_take_52 : decode cX5_take 52 = .ok (.ifCond .eq 7, 3) := by decide +kernel
theorem dX5_take_55 : decode cX5_take 55 = .ok (.iload_n 2, 1) := by decide +kernel
theorem dX5_take_56 : decode cX5_take 56 = .ok (.goto 9, 3) := by decide +kernel
theorem dX5_take_59 : decode cX5_take 59 = .ok (.aload_n 0, 1) := by decide +kernel
theorem dX5_take_60 : decode cX5_take 60 = .ok (.getfield 65, 3) := by decide +kernel
theorem dX5_take_63 : decode cX5_take 63 = .ok (.iload_n 1, 1) := by decide +kernel
theorem dX5_take_64 : decode cX5_take 64 = .ok (.iaload, 1) := by decide +kernel
theorem dX5_take_65 : decode cX5_take 65 = .ok (.iastore, 1) := by decide +kernel
theorem dX5_take_66 : decode cX5_take 66 = .ok (.return_, 1) := by decide +kernel
theorem dX5_duel_0 : decode cX5_duel 0 = .ok (.iload_n 1, 1) := by decide +kernel
theorem dX5_duel_1 : decode cX5_duel 1 = .ok (.i2l, 1) := by decide +kernel
theorem dX5_duel_2 : decode cX5_duel 2 = .ok (.lconst 0, 1) := by decide +kernel
theorem dX5_duel_3 : decode cX5_duel 3 = .ok (.ldc2_w 292, 3) := by decide +kernel
theorem dX5_duel_6 : decode cX5_duel 6 = .ok (.invokestatic 77, 3) := by decide +kernel
theorem dX5_duel_9 : decode cX5_duel 9 = .ok (.ifCond .ne 5, 3) := by decide +kernel
theorem dX5_duel_12 : decode cX5_duel 12 = .ok (.iconst (-1), 1) := by decide +kernel
theorem dX5_duel_13 : decode cX5_duel 13 = .ok (.ireturn, 1) := by decide +kernel
theorem dX5_duel_14 : decode cX5_duel 14 = .ok (.aload_n 0, 1) := by decide +kernel
theorem dX5_duel_15 : decode cX5_duel 15 = .ok (.getfield 163, 3) := by decide +kernel
theorem dX5_duel_18 : decode cX5_duel 18 = .ok (.ifCond .ne 6, 3) := by decide +kernel
theorem dX5_duel_21 : decode cX5_duel 21 = .ok (.bipush (-4), 2) := by decide +kernel
theorem dX5_duel_23 : decode cX5_duel 23 = .ok (.ireturn, 1) := by decide +kernel
theorem dX5_duel_24 : decode cX5_duel 24 = .ok (.aload_n 0, 1) := by decide +kernel
theorem dX5_duel_25 : decode cX5_duel 25 = .ok (.aload_n 0, 1) := by decide +kernel
theorem dX5_duel_26 : decode cX5_duel 26 = .ok (.getfield 7, 3) := by decide +kernel
theorem dX5_duel_29 : decode cX5_duel 29 = .ok (.iconst 2, 1) := by decide +kernel
theorem dX5_duel_30 : decode cX5_duel 30 = .ok (.iaload, 1) := by decide +kernel
theorem dX5_duel_31 : decode cX5_duel 31 = .ok (.invokevirtual 258, 3) := by decide +kernel
theorem dX5_duel_34 : decode cX5_duel 34 = .ok (.iload_n 1, 1) := by decide +kernel
theorem dX5_duel_35 : decode cX5_duel 35 = .ok (.aload_n 0, 1) := by decide +kernel
theorem dX5_duel_36 : decode cX5_duel 36 = .ok (.getfield 245, 3) := by decide +kernel
theorem dX5_duel_39 : decode cX5_duel 39 = .ok (.if_icmp .ge 7, 3) := by decide +kernel
theorem dX5_duel_42 : decode cX5_duel 42 = .ok (.iload_n 1, 1) := by decide +kernel
theorem dX5_duel_43 : decode cX5_duel 43 = .ok (.goto 7, 3) := by decide +kernel
theorem dX5_duel_46 : decode cX5_duel 46 = .ok (.aload_n 0, 1) := by decide +kernel
theorem dX5_duel_47 : decode cX5_duel 47 = .ok (.getfield 245, 3) := by decide +kernel
theorem dX5_duel_50 : decode cX5_duel 50 = .ok (.istore_n 2, 1) := by decide +kernel
theorem dX5_duel_51 : decode cX5_duel 51 = .ok (.iconst 0, 1) := by decide +kernel
theorem dX5_duel_52 : decode cX5_duel 52 = .ok (.istore_n 3, 1) := by decide +kernel
theorem dX5_duel_53 : decode cX5_duel 53 = .ok (.aload_n 0, 1) := by decide +kernel
theorem dX5_duel_54 : decode cX5_duel 54 = .ok (.iconst 0, 1) := by decide +kernel
theorem dX5_duel_55 : decode cX5_duel 55 = .ok (.invokevirtual 294, 3) := by decide +kernel
theorem dX5_duel_58 : decode cX5_duel 58 = .ok (.iload_n 3, 1) := by decide +kernel
theorem dX5_duel_59 : decode cX5_duel 59 = .ok (.ifCond .lt 158, 3) := by decide +kernel
theorem dX5_duel_62 : decode cX5_duel 62 = .ok (.iload_n 3, 1) := by decide +kernel
theorem dX5_duel_63 : decode cX5_duel 63 = .ok (.iload_n 2, 1) := by decide +kernel
theorem dX5_duel_64 : decode cX5_duel 64 = .ok (.if_icmp .ne 12, 3) := by decide +kernel
theorem dX5_duel_67 : decode cX5_duel 67 = .ok (.aload_n 0, 1) := by decide +kernel
theorem dX5_duel_68 : decode cX5_duel 68 = .ok (.getfield 163, 3) := by decide +kernel
theorem dX5_duel_71 : decode cX5_duel 71 = .ok (.iconst 1, 1) := by decide +kernel
theorem dX5_duel_72 : decode cX5_duel 72 = .ok (.iadd, 1) := by decide +kernel
theorem dX5_duel_73 : decode cX5_duel 73 = .ok (.goto 16, 3) := by decide +kernel
theorem dX5_duel_76 : decode cX5_duel 76 = .ok (.aload_n 0, 1) := by decide +kernel
theorem dX5_duel_77 : decode cX5_duel 77 = .ok (.iload_n 3, 1) := by decide +kernel
theorem dX5_duel_78 : decode cX5_duel 78 = .ok (.aload_n 0, 1) := by decide +kernel
theorem dX5_duel_79 : decode cX5_duel 79 = .ok (.getfield 62, 3) := by decide +kernel
theorem dX5_duel_82 : decode cX5_duel 82 = .ok (.iload_n 3, 1) := by decide +kernel
theorem dX5_duel_83 : decode cX5_duel 83 = .ok (.iaload, 1) := by decide +kernel
theorem dX5_duel_84 : decode cX5_duel 84 = .ok (.iconst 1, 1) := by decide +kernel
theorem dX5_duel_85 : decode cX5_duel 85 = .ok (.iadd, 1) := by decide +kernel
theorem dX5_duel_86 : decode cX5_duel 86 = .ok (.invokevirtual 252, 3) := by decide +kernel
theorem dX5_duel_89 : decode cX5_duel 89 = .ok (.istore 4, 2) := by decide +kernel
theorem dX5_duel_91 : decode cX5_duel 91 = .ok (.iload 4, 2) := by decide +kernel
theorem dX5_duel_93 : decode cX5_duel 93 = .ok (.aload_n 0, 1) := by decide +kernel
theorem dX5_duel_94 : decode cX5_duel 94 = .ok (.getfield 163, 3) := by decide +kernel
theorem dX5_duel_97 : decode cX5_duel 97 = .ok (.if_icmp .le 46, 3) := by decide +kernel
theorem dX5_duel_100 : decode cX5_duel 100 = .ok (.aload_n 0, 1) := by decide +kernel
theorem dX5_duel_101 : decode cX5_duel 101 = .ok (.getfield 65, 3) := by decide +kernel
theorem dX5_duel_104 : decode cX5_duel 104 = .ok (.iload_n 3, 1) := by decide +kernel
theorem dX5_duel_105 : decode cX5_duel 105 = .ok (.iaload, 1) := by decide +kernel
theorem dX5_duel_106 : decode cX5_duel 106 = .ok (.bipush (-9), 2) := by decide +kernel
theorem dX5_duel_108 : decode cX5_duel 108 = .ok (.if_icmp .ne 35, 3) := by decide +kernel
theorem dX5_duel_111 : decode cX5_duel 111 = .ok (.iload_n 3, 1) := by decide +kernel
theorem dX5_duel_112 : decode cX5_duel 112 = .ok (.iload_n 2, 1) := by decide +kernel
theorem dX5_duel_113 : decode cX5_duel 113 = .ok (.if_icmp .ge 30, 3) := by decide +kernel
theorem dX5_duel_116 : decode cX5_duel 116 = .ok (.aload_n 0, 1) := by decide +kernel
theorem dX5_duel_117 : decode cX5_duel 117 = .ok (.iload_n 3, 1) := by decide +kernel
theorem dX5_duel_118 : decode cX5_duel 118 = .ok (.iconst 0, 1) := by decide +kernel
theorem dX5_duel_119 : decode cX5_duel 119 = .ok (.invokevirtual 255, 3) := by decide +kernel
theorem dX5_duel_122 : decode cX5_duel 122 = .ok (.aload_n 0, 1) := by decide +kernel
theorem dX5_duel_123 : decode cX5_duel 123 = .ok (.getfield 62, 3) := by decide +kernel
theorem dX5_duel_126 : decode cX5_duel 126 = .ok (.iload_n 3, 1) := by decide +kernel
theorem dX5_duel_127 : decode cX5_duel 127 = .ok (.aload_n 0, 1) := by decide +kernel
theorem dX5_duel_128 : decode cX5_duel 128 = .ok (.getfield 163, 3) := by decide +kernel
theorem dX5_duel_131 : decode cX5_duel 131 = .ok (.iastore, 1) := by decide +kernel
theorem dX5_duel_132 : decode cX5_duel 132 = .ok (.iinc 3 1, 3) := by decide +kernel
theorem dX5_duel_135 : decode cX5_duel 135 = .ok (.aload_n 0, 1) := by decide +kernel
theorem dX5_duel_136 : decode cX5_duel 136 = .ok (.iload_n 3, 1) := by decide +kernel
theorem dX5_duel_137 : decode cX5_duel 137 = .ok (.invokevirtual 294, 3) := by decide +kernel
theorem dX5_duel_140 : decode cX5_duel 140 = .ok (.goto 74, 3) := by decide +kernel
theorem dX5_duel_143 : decode cX5_duel 143 = .ok (.iload 4, 2) := by decide +kernel
theorem dX5_duel_145 : decode cX5_duel 145 = .ok (.aload_n 0, 1) := by decide +kernel
theorem dX5_duel_146 : decode cX5_duel 146 = .ok (.getfield 163, 3) := by decide +kernel
theorem dX5_duel_149 : decode cX5_duel 149 = .ok (.if_icmp .le 50, 3) := by decide +kernel
theorem dX5_duel_152 : decode cX5_duel 152 = .ok (.iload_n 3, 1) := by decide +kernel
theorem dX5_duel_153 : decode cX5_duel 153 = .ok (.iload_n 2, 1) := by decide +kernel
theorem dX5_duel_154 : decode cX5_duel 154 = .ok (.if_icmp .ne 12, 3) := by decide +kernel
theorem dX5_duel_157 : decode cX5_duel 157 = .ok (.aload_n 0, 1) := by decide +kernel
theorem dX5_duel_158 : decode cX5_duel 158 = .ok (.getfield 56, 3) := by decide +kernel
theorem dX5_duel_161 : decode cX5_duel 161 = .ok (.iload_n 3, 1) := by decide +kernel
theorem dX5_duel_162 : decode cX5_duel 162 = .ok (.iaload, 1) := by decide +kernel
theorem dX5_duel_163 : decode cX5_duel 163 = .ok (.goto 9, 3) := by decide +kernel
theorem dX5_duel_166 : decode cX5_duel 166 = .ok (.aload_n 0, 1) := by decide +kernel
theorem dX5_duel_167 : decode cX5_duel 167 = .ok (.getfield 65, 3) := by decide +kernel
theorem dX5_duel_170 : decode cX5_duel 170 = .ok (.iload_n 3, 1) := by decide +kernel
theorem dX5_duel_171 : decode cX5_duel 171 = .ok (.iaload, 1) := by decide +kernel
theorem dX5_duel_172 : decode cX5_duel 172 = .ok (.istore 5, 2) := by decide +kernel
theorem dX5_duel_174 : decode cX5_duel 174 = .ok (.aload_n 0, 1) := by decide +kernel
theorem dX5_duel_175 : decode cX5_duel 175 = .ok (.getfield 65, 3) := by decide +kernel
theorem dX5_duel_178 : decode cX5_duel 178 = .ok (.iload_n 3, 1) := by decide +kernel
theorem dX5_duel_179 : decode cX5_duel 179 = .ok (.iload 5, 2) := by decide +kernel
theorem dX5_duel_181 : decode cX5_duel 181 = .ok (.iastore, 1) := by decide +kernel
theorem dX5_duel_182 : decode cX5_duel 182 = .ok (.iinc 3 (-1), 3) := by decide +kernel
theorem dX5_duel_185 : decode cX5_duel 185 = .ok (.iload_n 3, 1) := by decide +kernel
theorem dX5_duel_186 : decode cX5_duel 186 = .ok (.ifCond .lt 10, 3) := by decide +kernel
theorem dX5_duel_189 : decode cX5_duel 189 = .ok (.aload_n 0, 1) := by decide +kernel
theorem dX5_duel_190 : decode cX5_duel 190 = .ok (.iload_n 3, 1) := by decide +kernel
theorem dX5_duel_191 : decode cX5_duel 191 = .ok (.iload 5, 2) := by decide +kernel
theorem dX5_duel_193 : decode cX5_duel 193 = .ok (.invokevirtual 297, 3) := by decide +kernel
theorem dX5_duel_196 : decode cX5_duel 196 = .ok (.goto 18, 3) := by decide +kernel
theorem dX5_duel_199 : decode cX5_duel 199 = .ok (.aload_n 0, 1) := by decide +kernel
theorem dX5_duel_200 : decode cX5_duel 200 = .ok (.iload_n 3, 1) := by decide +kernel
theorem dX5_duel_201 : decode cX5_duel 201 = .ok (.iload 4, 2) := by decide +kernel
theorem dX5_duel_203 : decode cX5_duel 203 = .ok (.invokevirtual 255, 3) := by decide +kernel
theorem dX5_duel_206 : decode cX5_duel 206 = .ok (.iinc 3 1, 3) := by decide +kernel
theorem dX5_duel_209 : decode cX5_duel 209 = .ok (.aload_n 0, 1) := by decide +kernel
theorem dX5_duel_210 : decode cX5_duel 210 = .ok (.iload_n 3, 1) := by decide +kernel
theorem dX5_duel_211 : decode cX5_duel 211 = .ok (.invokevirtual 294, 3) := by decide +kernel
theorem dX5_duel_214 : decode cX5_duel 214 = .ok (.goto (-156), 3) := by decide +kernel
theorem dX5_duel_217 : decode cX5_duel 217 = .ok (.aload_n 0, 1) := by decide +kernel
theorem dX5_duel_218 : decode cX5_duel 218 = .ok (.getfield 65, 3) := by decide +kernel
theorem dX5_duel_221 : decode cX5_duel 221 = .ok (.iconst 0, 1) := by decide +kernel
theorem dX5_duel_222 : decode cX5_duel 222 = .ok (.iaload, 1) := by decide +kernel
theorem dX5_duel_223 : decode cX5_duel 223 = .ok (.ireturn, 1) := by decide +kernel
theorem dX5_divisor_0 : decode cX5_divisor 0 = .ok (.lload_n 0, 1) := by decide +kernel
theorem dX5_divisor_1 : decode cX5_divisor 1 = .ok (.lconst 0, 1) := by decide +kernel
theorem dX5_divisor_2 : decode cX5_divisor 2 = .ok (.lcmp, 1) := by decide +kernel
theorem dX5_divisor_3 : decode cX5_divisor 3 = .ok (.ifCond .ge 8, 3) := by decide +kernel
theorem dX5_divisor_6 : decode cX5_divisor 6 = .ok (.lload_n 0, 1) := by decide +kernel
theorem dX5_divisor_7 : decode cX5_divisor 7 = .ok (.lneg, 1) := by decide +kernel
theorem dX5_divisor_8 : decode cX5_divisor 8 = .ok (.goto 4, 3) := by decide +kernel
theorem dX5_divisor_11 : decode cX5_divisor 11 = .ok (.lload_n 0, 1) := by decide +kernel
theorem dX5_divisor_12 : decode cX5_divisor 12 = .ok (.lstore 4, 2) := by decide +kernel
theorem dX5_divisor_14 : decode cX5_divisor 14 = .ok (.lload_n 2, 1) := by decide +kernel
theorem dX5_divisor_15 : decode cX5_divisor 15 = .ok (.lstore 6, 2) := by decide +kernel
theorem dX5_divisor_17 : decode cX5_divisor 17 = .ok (.lload 6, 2) := by decide +kernel
theorem dX5_divisor_19 : decode cX5_divisor 19 = .ok (.lconst 0, 1) := by decide +kernel
theorem dX5_divisor_20 : decode cX5_divisor 20 = .ok (.lcmp, 1) := by decide +kernel
theorem dX5_divisor_21 : decode cX5_divisor 21 = .ok (.ifCond .eq 21, 3) := by decide +kernel
theorem dX5_divisor_24 : decode cX5_divisor 24 = .ok (.lload 4, 2) := by decide +kernel
theorem dX5_divisor_26 : decode cX5_divisor 26 = .ok (.lload 6, 2) := by decide +kernel
theorem dX5_divisor_28 : decode cX5_divisor 28 = .ok (.lrem, 1) := by decide +kernel
theorem dX5_divisor_29 : decode cX5_divisor 29 = .ok (.lstore 8, 2) := by decide +kernel
theorem dX5_divisor_31 : decode cX5_divisor 31 = .ok (.lload 6, 2) := by decide +kernel
theorem dX5_divisor_33 : decode cX5_divisor 33 = .ok (.lstore 4, 2) := by decide +kernel
theorem dX5_divisor_35 : decode cX5_divisor 35 = .ok (.lload 8, 2) := by decide +kernel
theorem dX5_divisor_37 : decode cX5_divisor 37 = .ok (.lstore 6, 2) := by decide +kernel
theorem dX5_divisor_39 : decode cX5_divisor 39 = .ok (.goto (-22), 3) := by decide +kernel
theorem dX5_divisor_42 : decode cX5_divisor 42 = .ok (.lload 4, 2) := by decide +kernel
theorem dX5_divisor_44 : decode cX5_divisor 44 = .ok (.lreturn, 1) := by decide +kernel
theorem dX5_tellParts_0 : decode cX5_tellParts 0 = .ok (.lload_n 1, 1) := by decide +kernel
theorem dX5_tellParts_1 : decode cX5_tellParts 1 = .ok (.lload_n 3, 1) := by decide +kernel
theorem dX5_tellParts_2 : decode cX5_tellParts 2 = .ok (.invokestatic 300, 3) := by decide +kernel
theorem dX5_tellParts_5 : decode cX5_tellParts 5 = .ok (.lstore 5, 2) := by decide +kernel
theorem dX5_tellParts_7 : decode cX5_tellParts 7 = .ok (.aload_n 0, 1) := by decide +kernel
theorem dX5_tellParts_8 : decode cX5_tellParts 8 = .ok (.lload_n 1, 1) := by decide +kernel
theorem dX5_tellParts_9 : decode cX5_tellParts 9 = .ok (.lload 5, 2) := by decide +kernel
theorem dX5_tellParts_11 : decode cX5_tellParts 11 = .ok (.ldiv, 1) := by decide +kernel
theorem dX5_tellParts_12 : decode cX5_tellParts 12 = .ok (.putfield 270, 3) := by decide +kernel
theorem dX5_tellParts_15 : decode cX5_tellParts 15 = .ok (.aload_n 0, 1) := by decide +kernel
theorem dX5_tellParts_16 : decode cX5_tellParts 16 = .ok (.lload_n 3, 1) := by decide +kernel
theorem dX5_tellParts_17 : decode cX5_tellParts 17 = .ok (.lload 5, 2) := by decide +kernel
theorem dX5_tellParts_19 : decode cX5_tellParts 19 = .ok (.ldiv, 1) := by decide +kernel
theorem dX5_tellParts_20 : decode cX5_tellParts 20 = .ok (.putfield 37, 3) := by decide +kernel
theorem dX5_tellParts_23 : decode cX5_tellParts 23 = .ok (.iconst 1, 1) := by decide +kernel
theorem dX5_tellParts_24 : decode cX5_tellParts 24 = .ok (.ireturn, 1) := by decide +kernel
theorem dX5_isDrawn_0 : decode cX5_isDrawn 0 = .ok (.iconst 1, 1) := by decide +kernel
theorem dX5_isDrawn_1 : decode cX5_isDrawn 1 = .ok (.istore_n 1, 1) := by decide +kernel
theorem dX5_isDrawn_2 : decode cX5_isDrawn 2 = .ok (.iconst 0, 1) := by decide +kernel
theorem dX5_isDrawn_3 : decode cX5_isDrawn 3 = .ok (.istore_n 2, 1) := by decide +kernel
theorem dX5_isDrawn_4 : decode cX5_isDrawn 4 = .ok (.iload_n 2, 1) := by decide +kernel
theorem dX5_isDrawn_5 : decode cX5_isDrawn 5 = .ok (.aload_n 0, 1) := by decide +kernel
theorem dX5_isDrawn_6 : decode cX5_isDrawn 6 = .ok (.getfield 245, 3) := by decide +kernel
theorem dX5_isDrawn_9 : decode cX5_isDrawn 9 = .ok (.if_icmp .ge 41, 3) := by decide +kernel
theorem dX5_isDrawn_12 : decode cX5_isDrawn 12 = .ok (.iload_n 1, 1) := by decide +kernel
theorem dX5_isDrawn_13 : decode cX5_isDrawn 13 = .ok (.ifCond .eq 29, 3) := by decide +kernel
theorem dX5_isDrawn_16 : decode cX5_isDrawn 16 = .ok (.aload_n 0, 1) := by decide +kernel
theorem dX5_isDrawn_17 : decode cX5_isDrawn 17 = .ok (.getfield 62, 3) := by decide +kernel
theorem dX5_isDrawn_20 : decode cX5_isDrawn 20 = .ok (.iload_n 2, 1) := by decide +kernel
theorem dX5_isDrawn_21 : decode cX5_isDrawn 21 = .ok (.iaload, 1) := by decide +kernel
theorem dX5_isDrawn_22 : decode cX5_isDrawn 22 = .ok (.ifCond .ne 16, 3) := by decide +kernel
theorem dX5_isDrawn_25 : decode cX5_isDrawn 25 = .ok (.aload_n 0, 1) := by decide +kernel
theorem dX5_isDrawn_26 : decode cX5_isDrawn 26 = .ok (.aload_n 0, 1) := by decide +kernel
theorem dX5_isDrawn_27 : decode cX5_isDrawn 27 = .ok (.getfield 59, 3) := by decide +kernel
theorem dX5_isDrawn_30 : decode cX5_isDrawn 30 = .ok (.iload_n 2, 1) := by decide +kernel
theorem dX5_isDrawn_31 : decode cX5_isDrawn 31 = .ok (.iaload, 1) := by decide +kernel
theorem dX5_isDrawn_32 : decode cX5_isDrawn 32 = .ok (.invokevirtual 234, 3) := by decide +kernel
theorem dX5_isDrawn_35 : decode cX5_isDrawn 35 = .ok (.ifCond .ne 7, 3) := by decide +kernel
theorem dX5_isDrawn_38 : decode cX5_isDrawn 38 = .ok (.iconst 1, 1) := by decide +kernel
theorem dX5_isDrawn_39 : decode cX5_isDrawn 39 = .ok (.goto 4, 3) := by decide +kernel
theorem dX5_isDrawn_42 : decode cX5_isDrawn 42 = .ok (.iconst 0, 1) := by decide +kernel
theorem dX5_isDrawn_43 : decode cX5_isDrawn 43 = .ok (.istore_n 1, 1) := by decide +kernel
theorem dX5_isDrawn_44 : decode cX5_isDrawn 44 = .ok (.iinc 2 1, 3) := by decide +kernel
theorem dX5_isDrawn_47 : decode cX5_isDrawn 47 = .ok (.goto (-43), 3) := by decide +kernel
theorem dX5_isDrawn_50 : decode cX5_isDrawn 50 = .ok (.iload_n 1, 1) := by decide +kernel
theorem dX5_isDrawn_51 : decode cX5_isDrawn 51 = .ok (.ireturn, 1) := by decide +kernel
theorem dX5_odds_0 : decode cX5_odds 0 = .ok (.iload_n 1, 1) := by decide +kernel
theorem dX5_odds_1 : decode cX5_odds 1 = .ok (.i2l, 1) := by decide +kernel
theorem dX5_odds_2 : decode cX5_odds 2 = .ok (.lconst 0, 1) := by decide +kernel
theorem dX5_odds_3 : decode cX5_odds 3 = .ok (.ldc2_w 268, 3) := by decide +kernel
theorem dX5_odds_6 : decode cX5_odds 6 = .ok (.invokestatic 77, 3) := by decide +kernel
theorem dX5_odds_9 : decode cX5_odds 9 = .ok (.ifCond .ne 5, 3) := by decide +kernel
theorem dX5_odds_12 : decode cX5_odds 12 = .ok (.iconst (-1), 1) := by decide +kernel
theorem dX5_odds_13 : decode cX5_odds 13 = .ok (.ireturn, 1) := by decide +kernel
theorem dX5_odds_14 : decode cX5_odds 14 = .ok (.aload_n 0, 1) := by decide +kernel
theorem dX5_odds_15 : decode cX5_odds 15 = .ok (.getfield 163, 3) := by decide +kernel
theorem dX5_odds_18 : decode cX5_odds 18 = .ok (.ifCond .ne 6, 3) := by decide +kernel
theorem dX5_odds_21 : decode cX5_odds 21 = .ok (.bipush (-4), 2) := by decide +kernel
theorem dX5_odds_23 : decode cX5_odds 23 = .ok (.ireturn, 1) := by decide +kernel
theorem dX5_odds_24 : decode cX5_odds 24 = .ok (.lconst 0, 1) := by decide +kernel
theorem dX5_odds_25 : decode cX5_odds 25 = .ok (.lstore_n 2, 1) := by decide +kernel
theorem dX5_odds_26 : decode cX5_odds 26 = .ok (.lconst 0, 1) := by decide +kernel
theorem dX5_odds_27 : decode cX5_odds 27 = .ok (.lstore 4, 2) := by decide +kernel
theorem dX5_odds_29 : decode cX5_odds 29 = .ok (.aload_n 0, 1) := by decide +kernel
theorem dX5_odds_30 : decode cX5_odds 30 = .ok (.aload_n 0, 1) := by decide +kernel
theorem dX5_odds_31 : decode cX5_odds 31 = .ok (.getfield 7, 3) := by decide +kernel
theorem dX5_odds_34 : decode cX5_odds 34 = .ok (.iconst 2, 1) := by decide +kernel
theorem dX5_odds_35 : decode cX5_odds 35 = .ok (.iaload, 1) := by decide +kernel
theorem dX5_odds_36 : decode cX5_odds 36 = .ok (.invokevirtual 258, 3) := by decide +kernel
theorem dX5_odds_39 : decode cX5_odds 39 = .ok (.aload_n 0, 1) := by decide +kernel
theorem dX5_odds_40 : decode cX5_odds 40 = .ok (.invokevirtual 265, 3) := by decide +kernel
theorem dX5_odds_43 : decode cX5_odds 43 = .ok (.ifCond .eq 40, 3) := by decide +kernel
theorem dX5_odds_46 : decode cX5_odds 46 = .ok (.aload_n 0, 1) := by decide +kernel
theorem dX5_odds_47 : decode cX5_odds 47 = .ok (.invokevirtual 304, 3) := by decide +kernel
theorem dX5_odds_50 : decode cX5_odds 50 = .ok (.ifCond .eq (-11), 3) := by decide +kernel
theorem dX5_odds_53 : decode cX5_odds 53 = .ok (.lload_n 2, 1) := by decide +kernel
theorem dX5_odds_54 : decode cX5_odds 54 = .ok (.aload_n 0, 1) := by decide +kernel
theorem dX5_odds_55 : decode cX5_odds 55 = .ok (.getfield 56, 3) := by decide +kernel
theorem dX5_odds_58 : decode cX5_odds 58 = .ok (.aload_n 0, 1) := by decide +kernel
theorem dX5_odds_59 : decode cX5_odds 59 = .ok (.getfield 245, 3) := by decide +kernel
theorem dX5_odds_62 : decode cX5_odds 62 = .ok (.iaload, 1) := by decide +kernel
theorem dX5_odds_63 : decode cX5_odds 63 = .ok (.iload_n 1, 1) := by decide +kernel
theorem dX5_odds_64 : decode cX5_odds 64 = .ok (.if_icmp .lt 7, 3) := by decide +kernel
theorem dX5_odds_67 : decode cX5_odds 67 = .ok (.lconst 1, 1) := by decide +kernel
theorem dX5_odds_68 : decode cX5_odds 68 = .ok (.goto 4, 3) := by decide +kernel
theorem dX5_odds_71 : decode cX5_odds 71 = .ok (.lconst 0, 1) := by decide +kernel
theorem dX5_odds_72 : decode cX5_odds 72 = .ok (.ladd, 1) := by decide +kernel
theorem dX5_odds_73 : decode cX5_odds 73 = .ok (.lstore_n 2, 1) := by decide +kernel
theorem dX5_odds_74 : decode cX5_odds 74 = .ok (.lload 4, 2) := by decide +kernel
theorem dX5_odds_76 : decode cX5_odds 76 = .ok (.lconst 1, 1) := by decide +kernel
theorem dX5_odds_77 : decode cX5_odds 77 = .ok (.ladd, 1) := by decide +kernel
theorem dX5_odds_78 : decode cX5_odds 78 = .ok (.lstore 4, 2) := by decide +kernel
theorem dX5_odds_80 : decode cX5_odds 80 = .ok (.goto (-41), 3) := by decide +kernel
theorem dX5_odds_83 : decode cX5_odds 83 = .ok (.aload_n 0, 1) := by decide +kernel
theorem dX5_odds_84 : decode cX5_odds 84 = .ok (.lload_n 2, 1) := by decide +kernel
theorem dX5_odds_85 : decode cX5_odds 85 = .ok (.lload 4, 2) := by decide +kernel
theorem dX5_odds_87 : decode cX5_odds 87 = .ok (.invokevirtual 307, 3) := by decide +kernel
theorem dX5_odds_90 : decode cX5_odds 90 = .ok (.ireturn, 1) := by decide +kernel
theorem dX5_mid_0 : decode cX5_mid 0 = .ok (.aload_n 0, 1) := by decide +kernel
theorem dX5_mid_1 : decode cX5_mid 1 = .ok (.getfield 163, 3) := by decide +kernel
theorem dX5_mid_4 : decode cX5_mid 4 = .ok (.ifCond .ne 6, 3) := by decide +kernel
theorem dX5_mid_7 : decode cX5_mid 7 = .ok (.bipush (-4), 2) := by decide +kernel
theorem dX5_mid_9 : decode cX5_mid 9 = .ok (.ireturn, 1) := by decide +kernel
theorem dX5_mid_10 : decode cX5_mid 10 = .ok (.lconst 0, 1) := by decide +kernel
theorem dX5_mid_11 : decode cX5_mid 11 = .ok (.lstore_n 1, 1) := by decide +kernel
theorem dX5_mid_12 : decode cX5_mid 12 = .ok (.lconst 0, 1) := by decide +kernel
theorem dX5_mid_13 : decode cX5_mid 13 = .ok (.lstore_n 3, 1) := by decide +kernel
theorem dX5_mid_14 : decode cX5_mid 14 = .ok (.aload_n 0, 1) := by decide +kernel
theorem dX5_mid_15 : decode cX5_mid 15 = .ok (.aload_n 0, 1) := by decide +kernel
theorem dX5_mid_16 : decode cX5_mid 16 = .ok (.getfield 7, 3) := by decide +kernel
theorem dX5_mid_19 : decode cX5_mid 19 = .ok (.iconst 2, 1) := by decide +kernel
theorem dX5_mid_20 : decode cX5_mid 20 = .ok (.iaload, 1) := by decide +kernel
theorem dX5_mid_21 : decode cX5_mid 21 = .ok (.invokevirtual 258, 3) := by decide +kernel
theorem dX5_mid_24 : decode cX5_mid 24 = .ok (.aload_n 0, 1) := by decide +kernel
theorem dX5_mid_25 : decode cX5_mid 25 = .ok (.invokevirtual 265, 3) := by decide +kernel
theorem dX5_mid_28 : decode cX5_mid 28 = .ok (.ifCond .eq 30, 3) := by decide +kernel
theorem dX5_mid_31 : decode cX5_mid 31 = .ok (.aload_n 0, 1) := by decide +kernel
theorem dX5_mid_32 : decode cX5_mid 32 = .ok (.invokevirtual 304, 3) := by decide +kernel
theorem dX5_mid_35 : decode cX5_mid 35 = .ok (.ifCond .eq (-11), 3) := by decide +kernel
theorem dX5_mid_38 : decode cX5_mid 38 = .ok (.lload_n 1, 1) := by decide +kernel
theorem dX5_mid_39 : decode cX5_mid 39 = .ok (.aload_n 0, 1) := by decide +kernel
theorem dX5_mid_40 : decode cX5_mid 40 = .ok (.getfield 53, 3) := by decide +kernel
theorem dX5_mid_43 : decode cX5_mid 43 = .ok (.aload_n 0, 1) := by decide +kernel
theorem dX5_mid_44 : decode cX5_mid 44 = .ok (.getfield 245, 3) := by decide +kernel
theorem dX5_mid_47 : decode cX5_mid 47 = .ok (.iaload, 1) := by decide +kernel
theorem dX5_mid_48 : decode cX5_mid 48 = .ok (.i2l, 1) := by decide +kernel
theorem dX5_mid_49 : decode cX5_mid 49 = .ok (.ladd, 1) := by decide +kernel
theorem dX5_mid_50 : decode cX5_mid 50 = .ok (.lstore_n 1, 1) := by decide +kernel
theorem dX5_mid_51 : decode cX5_mid 51 = .ok (.lload_n 3, 1) := by decide +kernel
theorem dX5_mid_52 : decode cX5_mid 52 = .ok (.lconst 1, 1) := by decide +kernel
theorem dX5_mid_53 : decode cX5_mid 53 = .ok (.ladd, 1) := by decide +kernel
theorem dX5_mid_54 : decode cX5_mid 54 = .ok (.lstore_n 3, 1) := by decide +kernel
theorem dX5_mid_55 : decode cX5_mid 55 = .ok (.goto (-31), 3) := by decide +kernel
theorem dX5_mid_58 : decode cX5_mid 58 = .ok (.aload_n 0, 1) := by decide +kernel
theorem dX5_mid_59 : decode cX5_mid 59 = .ok (.lload_n 1, 1) := by decide +kernel
theorem dX5_mid_60 : decode cX5_mid 60 = .ok (.lload_n 3, 1) := by decide +kernel
theorem dX5_mid_61 : decode cX5_mid 61 = .ok (.invokevirtual 307, 3) := by decide +kernel
theorem dX5_mid_64 : decode cX5_mid 64 = .ok (.ireturn, 1) := by decide +kernel
theorem dX5_nth_0 : decode cX5_nth 0 = .ok (.iload_n 1, 1) := by decide +kernel
theorem dX5_nth_1 : decode cX5_nth 1 = .ok (.istore_n 2, 1) := by decide +kernel
theorem dX5_nth_2 : decode cX5_nth 2 = .ok (.iconst 0, 1) := by decide +kernel
theorem dX5_nth_3 : decode cX5_nth 3 = .ok (.istore_n 3, 1) := by decide +kernel
theorem dX5_nth_4 : decode cX5_nth 4 = .ok (.iload_n 0, 1) := by decide +kernel
theorem dX5_nth_5 : decode cX5_nth 5 = .ok (.iload_n 3, 1) := by decide +kernel
theorem dX5_nth_6 : decode cX5_nth 6 = .ok (.invokestatic 147, 3) := by decide +kernel
theorem dX5_nth_9 : decode cX5_nth 9 = .ok (.ifCond .eq 7, 3) := by decide +kernel
theorem dX5_nth_12 : decode cX5_nth 12 = .ok (.iload_n 2, 1) := by decide +kernel
theorem dX5_nth_13 : decode cX5_nth 13 = .ok (.ifCond .le 25, 3) := by decide +kernel
theorem dX5_nth_16 : decode cX5_nth 16 = .ok (.iload_n 2, 1) := by decide +kernel
theorem dX5_nth_17 : decode cX5_nth 17 = .ok (.iload_n 0, 1) := by decide +kernel
theorem dX5_nth_18 : decode cX5_nth 18 = .ok (.iload_n 3, 1) := by decide +kernel
theorem dX5_nth_19 : decode cX5_nth 19 = .ok (.invokestatic 147, 3) := by decide +kernel
theorem dX5_nth_22 : decode cX5_nth 22 = .ok (.ifCond .eq 7, 3) := by decide +kernel
theorem dX5_nth_25 : decode cX5_nth 25 = .ok (.iconst 1, 1) := by decide +kernel
theorem dX5_nth_26 : decode cX5_nth 26 = .ok (.goto 4, 3) := by decide +kernel
theorem dX5_nth_29 : decode cX5_nth 29 = .ok (.iconst 0, 1) := by decide +kernel
theorem dX5_nth_30 : decode cX5_nth 30 = .ok (.isub, 1) := by decide +kernel
theorem dX5_nth_31 : decode cX5_nth 31 = .ok (.istore_n 2, 1) := by decide +kernel
theorem dX5_nth_32 : decode cX5_nth 32 = .ok (.iinc 3 1, 3) := by decide +kernel
theorem dX5_nth_35 : decode cX5_nth 35 = .ok (.goto (-31), 3) := by decide +kernel
theorem dX5_nth_38 : decode cX5_nth 38 = .ok (.iload_n 3, 1) := by decide +kernel
theorem dX5_nth_39 : decode cX5_nth 39 = .ok (.ireturn, 1) := by decide +kernel
theorem dX5_lots_0 : decode cX5_lots 0 = .ok (.iload_n 1, 1) := by decide +kernel
theorem dX5_lots_1 : decode cX5_lots 1 = .ok (.i2l, 1) := by decide +kernel
theorem dX5_lots_2 : decode cX5_lots 2 = .ok (.lconst 1, 1) := by decide +kernel
theorem dX5_lots_3 : decode cX5_lots 3 = .ok (.ldc2_w 311, 3) := by decide +kernel
theorem dX5_lots_6 : decode cX5_lots 6 = .ok (.invokestatic 77, 3) := by decide +kernel
theorem dX5_lots_9 : decode cX5_lots 9 = .ok (.ifCond .ne 5, 3) := by decide +kernel
theorem dX5_lots_12 : decode cX5_lots 12 = .ok (.iconst (-1), 1) := by decide +kernel
theorem dX5_lots_13 : decode cX5_lots 13 = .ok (.ireturn, 1) := by decide +kernel
theorem dX5_lots_14 : decode cX5_lots 14 = .ok (.aload_n 0, 1) := by decide +kernel
theorem dX5_lots_15 : decode cX5_lots 15 = .ok (.invokevirtual 222, 3) := by decide +kernel
theorem dX5_lots_18 : decode cX5_lots 18 = .ok (.ifCond .eq 6, 3) := by decide +kernel
theorem dX5_lots_21 : decode cX5_lots 21 = .ok (.bipush (-4), 2) := by decide +kernel
theorem dX5_lots_23 : decode cX5_lots 23 = .ok (.ireturn, 1) := by decide +kernel
theorem dX5_lots_24 : decode cX5_lots 24 = .ok (.aload_n 0, 1) := by decide +kernel
theorem dX5_lots_25 : decode cX5_lots 25 = .ok (.getfield 7, 3) := by decide +kernel
theorem dX5_lots_28 : decode cX5_lots 28 = .ok (.iconst 0, 1) := by decide +kernel
theorem dX5_lots_29 : decode cX5_lots 29 = .ok (.iaload, 1) := by decide +kernel
theorem dX5_lots_30 : decode cX5_lots 30 = .ok (.aload_n 0, 1) := by decide +kernel
theorem dX5_lots_31 : decode cX5_lots 31 = .ok (.getfield 160, 3) := by decide +kernel
theorem dX5_lots_34 : decode cX5_lots 34 = .ok (.iadd, 1) := by decide +kernel
theorem dX5_lots_35 : decode cX5_lots 35 = .ok (.aload_n 0, 1) := by decide +kernel
theorem dX5_lots_36 : decode cX5_lots 36 = .ok (.getfield 7, 3) := by decide +kernel
theorem dX5_lots_39 : decode cX5_lots 39 = .ok (.iconst 1, 1) := by decide +kernel
theorem dX5_lots_40 : decode cX5_lots 40 = .ok (.iaload, 1) := by decide +kernel
theorem dX5_lots_41 : decode cX5_lots 41 = .ok (.isub, 1) := by decide +kernel
theorem dX5_lots_42 : decode cX5_lots 42 = .ok (.bipush 40, 2) := by decide +kernel
theorem dX5_lots_44 : decode cX5_lots 44 = .ok (.if_icmp .le 6, 3) := by decide +kernel
theorem dX5_lots_47 : decode cX5_lots 47 = .ok (.bipush (-2), 2) := by decide +kernel
theorem dX5_lots_49 : decode cX5_lots 49 = .ok (.ireturn, 1) := by decide +kernel
theorem dX5_lots_50 : decode cX5_lots 50 = .ok (.iload_n 1, 1) := by decide +kernel
theorem dX5_lots_51 : decode cX5_lots 51 = .ok (.i2l, 1) := by decide +kernel
theorem dX5_lots_52 : decode cX5_lots 52 = .ok (.lstore_n 2, 1) := by decide +kernel
theorem dX5_lots_53 : decode cX5_lots 53 = .ok (.iconst 0, 1) := by decide +kernel
theorem dX5_lots_54 : decode cX5_lots 54 = .ok (.istore 4, 2) := by decide +kernel
theorem dX5_lots_56 : decode cX5_lots 56 = .ok (.aload_n 0, 1) := by decide +kernel
theorem dX5_lots_57 : decode cX5_lots 57 = .ok (.invokevirtual 222, 3) := by decide +kernel
theorem dX5_lots_60 : decode cX5_lots 60 = .ok (.ifCond .ne 68, 3) := by decide +kernel
theorem dX5_lots_63 : decode cX5_lots 63 = .ok (.lload_n 2, 1) := by decide +kernel
theorem dX5_lots_64 : decode cX5_lots 64 = .ok (.ldc2_w 313, 3) := by decide +kernel
theorem dX5_lots_67 : decode cX5_lots 67 = .ok (.lmul, 1) := by decide +kernel
theorem dX5_lots_68 : decode cX5_lots 68 = .ok (.ldc2_w 315, 3) := by decide +kernel
theorem dX5_lots_71 : decode cX5_lots 71 = .ok (.lrem, 1) := by decide +kernel
theorem dX5_lots_72 : decode cX5_lots 72 = .ok (.lstore_n 2, 1) := by decide +kernel
theorem dX5_lots_73 : decode cX5_lots 73 = .ok (.aload_n 0, 1) := by decide +kernel
theorem dX5_lots_74 : decode cX5_lots 74 = .ok (.aload_n 0, 1) := by decide +kernel
theorem dX5_lots_75 : decode cX5_lots 75 = .ok (.getfield 7, 3) := by decide +kernel
theorem dX5_lots_78 : decode cX5_lots 78 = .ok (.bipush 6, 2) := by decide +kernel
theorem dX5_lots_80 : decode cX5_lots 80 = .ok (.iaload, 1) := by decide +kernel
theorem dX5_lots_81 : decode cX5_lots 81 = .ok (.invokevirtual 234, 3) := by decide +kernel
theorem dX5_lots_84 : decode cX5_lots 84 = .ok (.istore 5, 2) := by decide +kernel
theorem dX5_lots_86 : decode cX5_lots 86 = .ok (.iload 5, 2) := by decide +kernel
theorem dX5_lots_88 : decode cX5_lots 88 = .ok (.ifCond .ne 10, 3) := by decide +kernel
theorem dX5_lots_91 : decode cX5_lots 91 = .ok (.aload_n 0, 1) := by decide +kernel
theorem dX5_lots_92 : decode cX5_lots 92 = .ok (.invokevirtual 228, 3) := by decide +kernel
theorem dX5_lots_95 : decode cX5_lots 95 = .ok (.goto 30, 3) := by decide +kernel
theorem dX5_lots_98 : decode cX5_lots 98 = .ok (.iload 4, 2) := by decide +kernel
theorem dX5_lots_100 : decode cX5_lots 100 = .ok (.aload_n 0, 1) := by decide +kernel
theorem dX5_lots_101 : decode cX5_lots 101 = .ok (.iload 5, 2) := by decide +kernel
theorem dX5_lots_103 : decode cX5_lots 103 = .ok (.lload_n 2, 1) := by decide +kernel
theorem dX5_lots_104 : decode cX5_lots 104 = .ok (.ldc2_w 317, 3) := by decide +kernel
theorem dX5_lots_107 : decode cX5_lots 107 = .ok (.ldiv, 1) := by decide +kernel
theorem dX5_lots_108 : decode cX5_lots 108 = .ok (.iload 5, 2) := by decide +kernel
theorem dX5_lots_110 : decode cX5_lots 110 = .ok (.invokestatic 237, 3) := by decide +kernel
theorem dX5_lots_113 : decode cX5_lots 113 = .ok (.i2l, 1) := by decide +kernel
theorem dX5_lots_114 : decode cX5_lots 114 = .ok (.lrem, 1) := by decide +kernel
theorem dX5_lots_115 : decode cX5_lots 115 = .ok (.l2i, 1) := by decide +kernel
theorem dX5_lots_116 : decode cX5_lots 116 = .ok (.invokestatic 319, 3) := by decide +kernel
theorem dX5_lots_119 : decode cX5_lots 119 = .ok (.invokevirtual 225, 3) := by decide +kernel
theorem dX5_lots_122 : decode cX5_lots 122 = .ok (.iadd, 1) := by decide +kernel
theorem dX5_lots_123 : decode cX5_lots 123 = .ok (.istore 4, 2) := by decide +kernel
theorem dX5_lots_125 : decode cX5_lots 125 = .ok (.goto (-69), 3) := by decide +kernel
theorem dX5_lots_128 : decode cX5_lots 128 = .ok (.iload 4, 2) := by decide +kernel
theorem dX5_lots_130 : decode cX5_lots 130 = .ok (.ireturn, 1) := by decide +kernel
theorem dX5_asked_0 : decode cX5_asked 0 = .ok (.aload_n 0, 1) := by decide +kernel
theorem dX5_asked_1 : decode cX5_asked 1 = .ok (.getfield 72, 3) := by decide +kernel
theorem dX5_asked_4 : decode cX5_asked 4 = .ok (.ireturn, 1) := by decide +kernel
theorem dX5_upper_0 : decode cX5_upper 0 = .ok (.aload_n 0, 1) := by decide +kernel
theorem dX5_upper_1 : decode cX5_upper 1 = .ok (.getfield 270, 3) := by decide +kernel
theorem dX5_upper_4 : decode cX5_upper 4 = .ok (.lreturn, 1) := by decide +kernel
theorem dX5_lower_0 : decode cX5_lower 0 = .ok (.aload_n 0, 1) := by decide +kernel
theorem dX5_lower_1 : decode cX5_lower 1 = .ok (.getfield 37, 3) := by decide +kernel
theorem dX5_lower_4 : decode cX5_lower 4 = .ok (.lreturn, 1) := by decide +kernel
theorem dX5_clerks_0 : decode cX5_clerks 0 = .ok (.iconst 0, 1) := by decide +kernel
theorem dX5_clerks_1 : decode cX5_clerks 1 = .ok (.istore_n 1, 1) := by decide +kernel
theorem dX5_clerks_2 : decode cX5_clerks 2 = .ok (.iconst 0, 1) := by decide +kernel
theorem dX5_clerks_3 : decode cX5_clerks 3 = .ok (.istore_n 2, 1) := by decide +kernel
theorem dX5_clerks_4 : decode cX5_clerks 4 = .ok (.iload_n 2, 1) := by decide +kernel
theorem dX5_clerks_5 : decode cX5_clerks 5 = .ok (.aload_n 0, 1) := by decide +kernel
theorem dX5_clerks_6 : decode cX5_clerks 6 = .ok (.getfield 163, 3) := by decide +kernel
theorem dX5_clerks_9 : decode cX5_clerks 9 = .ok (.if_icmp .ge 29, 3) := by decide +kernel
theorem dX5_clerks_12 : decode cX5_clerks 12 = .ok (.iload_n 1, 1) := by decide +kernel
theorem dX5_clerks_13 : decode cX5_clerks 13 = .ok (.aload_n 0, 1) := by decide +kernel
theorem dX5_clerks_14 : decode cX5_clerks 14 = .ok (.getfield 16, 3) := by decide +kernel
theorem dX5_clerks_17 : decode cX5_clerks 17 = .ok (.iload_n 2, 1) := by decide +kernel
theorem dX5_clerks_18 : decode cX5_clerks 18 = .ok (.iaload, 1) := by decide +kernel
theorem dX5_clerks_19 : decode cX5_clerks 19 = .ok (.invokestatic 176, 3) := by decide +kernel
theorem dX5_clerks_22 : decode cX5_clerks 22 = .ok (.ifCond .eq 7, 3) := by decide +kernel
theorem dX5_clerks_25 : decode cX5_clerks 25 = .ok (.iconst 1, 1) := by decide +kernel
theorem dX5_clerks_26 : decode cX5_clerks 26 = .ok (.goto 4, 3) := by decide +kernel
theorem dX5_clerks_29 : decode cX5_clerks 29 = .ok (.iconst 0, 1) := by decide +kernel
theorem dX5_clerks_30 : decode cX5_clerks 30 = .ok (.iadd, 1) := by decide +kernel
theorem dX5_clerks_31 : decode cX5_clerks 31 = .ok (.istore_n 1, 1) := by decide +kernel
theorem dX5_clerks_32 : decode cX5_clerks 32 = .ok (.iinc 2 1, 3) := by decide +kernel
theorem dX5_clerks_35 : decode cX5_clerks 35 = .ok (.goto (-31), 3) := by decide +kernel
theorem dX5_clerks_38 : decode cX5_clerks 38 = .ok (.iload_n 1, 1) := by decide +kernel
theorem dX5_clerks_39 : decode cX5_clerks 39 = .ok (.ireturn, 1) := by decide +kernel
theorem dX5_thereOf_0 : decode cX5_thereOf 0 = .ok (.iconst 0, 1) := by decide +kernel
theorem dX5_thereOf_1 : decode cX5_thereOf 1 = .ok (.istore_n 2, 1) := by decide +kernel
theorem dX5_thereOf_2 : decode cX5_thereOf 2 = .ok (.iconst 0, 1) := by decide +kernel
theorem dX5_thereOf_3 : decode cX5_thereOf 3 = .ok (.istore_n 3, 1) := by decide +kernel
theorem dX5_thereOf_4 : decode cX5_thereOf 4 = .ok (.iload_n 3, 1) := by decide +kernel
theorem dX5_thereOf_5 : decode cX5_thereOf 5 = .ok (.bipush 6, 2) := by decide +kernel
theorem dX5_thereOf_7 : decode cX5_thereOf 7 = .ok (.if_icmp .ge 90, 3) := by decide +kernel
theorem dX5_thereOf_10 : decode cX5_thereOf 10 = .ok (.iload_n 2, 1) := by decide +kernel
theorem dX5_thereOf_11 : decode cX5_thereOf 11 = .ok (.iload_n 1, 1) := by decide +kernel
theorem dX5_thereOf_12 : decode cX5_thereOf 12 = .ok (.bipush 8, 2) := by decide +kernel
theorem dX5_thereOf_14 : decode cX5_thereOf 14 = .ok (.if_icmp .ne 20, 3) := by decide +kernel
theorem dX5_thereOf_17 : decode cX5_thereOf 17 = .ok (.aload_n 0, 1) := by decide +kernel
theorem dX5_thereOf_18 : decode cX5_thereOf 18 = .ok (.getfield 25, 3) := by decide +kernel
theorem dX5_thereOf_21 : decode cX5_thereOf 21 = .ok (.iload_n 3, 1) := by decide +kernel
theorem dX5_thereOf_22 : decode cX5_thereOf 22 = .ok (.iaload, 1) := by decide +kernel
theorem dX5_thereOf_23 : decode cX5_thereOf 23 = .ok (.ifCond .ge 7, 3) := by decide +kernel
theorem dX5_thereOf_26 : decode cX5_thereOf 26 = .ok (.iconst 0, 1) := by decide +kernel
theorem dX5_thereOf_27 : decode cX5_thereOf 27 = .ok (.goto 62, 3) := by decide +kernel
theorem dX5_thereOf_30 : decode cX5_thereOf 30 = .ok (.iconst 1, 1) := by decide +kernel
theorem dX5_thereOf_31 : decode cX5_thereOf 31 = .ok (.goto 58, 3) := by decide +kernel
theorem dX5_thereOf_34 : decode cX5_thereOf 34 = .ok (.iload_n 1, 1) := by decide +kernel
theorem dX5_thereOf_35 : decode cX5_thereOf 35 = .ok (.bipush 9, 2) := by decide +kernel
theorem dX5_thereOf_37 : decode cX5_thereOf 37 = .ok (.if_icmp .ne 25, 3) := by decide +kernel
theorem dX5_thereOf_40 : decode cX5_thereOf 40 = .ok (.iload_n 3, 1) := by decide +kernel
theorem dX5_thereOf_41 : decode cX5_thereOf 41 = .ok (.iconst 4, 1) := by decide +kernel
theorem dX5_thereOf_42 : decode cX5_thereOf 42 = .ok (.if_icmp .ge 16, 3) := by decide +kernel
theorem dX5_thereOf_45 : decode cX5_thereOf 45 = .ok (.aload_n 0, 1) := by decide +kernel
theorem dX5_thereOf_46 : decode cX5_thereOf 46 = .ok (.getfield 31, 3) := by decide +kernel
theorem dX5_thereOf_49 : decode cX5_thereOf 49 = .ok (.iload_n 3, 1) := by decide +kernel
theorem dX5_thereOf_50 : decode cX5_thereOf 50 = .ok (.iaload, 1) := by decide +kernel
theorem dX5_thereOf_51 : decode cX5_thereOf 51 = .ok (.ifCond .lt 7, 3) := by decide +kernel
theorem dX5_thereOf_54 : decode cX5_thereOf 54 = .ok (.iconst 1, 1) := by decide +kernel
theorem dX5_thereOf_55 : decode cX5_thereOf 55 = .ok (.goto 34, 3) := by decide +kernel
theorem dX5_thereOf_58 : decode cX5_thereOf 58 = .ok (.iconst 0, 1) := by decide +kernel
theorem dX5_thereOf_59 : decode cX5_thereOf 59 = .ok (.goto 30, 3) := by decide +kernel
theorem dX5_thereOf_62 : decode cX5_thereOf 62 = .ok (.iload_n 3, 1) := by decide +kernel
theorem dX5_thereOf_63 : decode cX5_thereOf 63 = .ok (.iconst 3, 1) := by decide +kernel
theorem dX5_thereOf_64 : decode cX5_thereOf 64 = .ok (.if_icmp .ge 24, 3) := by decide +kernel
theorem dX5_thereOf_67 : decode cX5_thereOf 67 = .ok (.aload_n 0, 1) := by decide +kernel
theorem dX5_thereOf_68 : decode cX5_thereOf 68 = .ok (.getfield 7, 3) := by decide +kernel
theorem dX5_thereOf_71 : decode cX5_thereOf 71 = .ok (.sipush 493, 3) := by decide +kernel
theorem dX5_thereOf_74 : decode cX5_thereOf 74 = .ok (.iconst 1, 1) := by decide +kernel
theorem dX5_thereOf_75 : decode cX5_thereOf 75 = .ok (.iload_n 3, 1) := by decide +kernel
theorem dX5_thereOf_76 : decode cX5_thereOf 76 = .ok (.iadd, 1) := by decide +kernel
theorem dX5_thereOf_77 : decode cX5_thereOf 77 = .ok (.imul, 1) := by decide +kernel
theorem dX5_thereOf_78 : decode cX5_thereOf 78 = .ok (.iconst 0, 1) := by decide +kernel
theorem dX5_thereOf_79 : decode cX5_thereOf 79 = .ok (.iadd, 1) := by decide +kernel
theorem dX5_thereOf_80 : decode cX5_thereOf 80 = .ok (.iaload, 1) := by decide +kernel
theorem dX5_thereOf_81 : decode cX5_thereOf 81 = .ok (.ifCond .lt 7, 3) := by decide +kernel
theorem dX5_thereOf_84 : decode cX5_thereOf 84 = .ok (.iconst 1, 1) := by decide +kernel
theorem dX5_thereOf_85 : decode cX5_thereOf 85 = .ok (.goto 4, 3) := by decide +kernel
theorem dX5_thereOf_88 : decode cX5_thereOf 88 = .ok (.iconst 0, 1) := by decide +kernel
theorem dX5_thereOf_89 : decode cX5_thereOf 89 = .ok (.iadd, 1) := by decide +kernel
theorem dX5_thereOf_90 : decode cX5_thereOf 90 = .ok (.istore_n 2, 1) := by decide +kernel
theorem dX5_thereOf_91 : decode cX5_thereOf 91 = .ok (.iinc 3 1, 3) := by decide +kernel
theorem dX5_thereOf_94 : decode cX5_thereOf 94 = .ok (.goto (-90), 3) := by decide +kernel
theorem dX5_thereOf_97 : decode cX5_thereOf 97 = .ok (.iload_n 2, 1) := by decide +kernel
theorem dX5_thereOf_98 : decode cX5_thereOf 98 = .ok (.ireturn, 1) := by decide +kernel
theorem dX5_countOf_0 : decode cX5_countOf 0 = .ok (.iload_n 1, 1) := by decide +kernel
theorem dX5_countOf_1 : decode cX5_countOf 1 = .ok (.tableswitch 97 0 7 #[47, 52, 57, 64, 71, 78, 85, 92], 47) := by decide +kernel
theorem dX5_countOf_48 : decode cX5_countOf 48 = .ok (.aload_n 0, 1) := by decide +kernel
theorem dX5_countOf_49 : decode cX5_countOf 49 = .ok (.getfield 163, 3) := by decide +kernel
theorem dX5_countOf_52 : decode cX5_countOf 52 = .ok (.ireturn, 1) := by decide +kernel
theorem dX5_countOf_53 : decode cX5_countOf 53 = .ok (.aload_n 0, 1) := by decide +kernel
theorem dX5_countOf_54 : decode cX5_countOf 54 = .ok (.getfield 160, 3) := by decide +kernel
theorem dX5_countOf_57 : decode cX5_countOf 57 = .ok (.ireturn, 1) := by decide +kernel
theorem dX5_countOf_58 : decode cX5_countOf 58 = .ok (.aload_n 0, 1) := by decide +kernel
theorem dX5_countOf_59 : decode cX5_countOf 59 = .ok (.getfield 7, 3) := by decide +kernel
theorem dX5_countOf_62 : decode cX5_countOf 62 = .ok (.iconst 1, 1) := by decide +kernel
theorem dX5_countOf_63 : decode cX5_countOf 63 = .ok (.iaload, 1) := by decide +kernel
theorem dX5_countOf_64 : decode cX5_countOf 64 = .ok (.ireturn, 1) := by decide +kernel
theorem dX5_countOf_65 : decode cX5_countOf 65 = .ok (.aload_n 0, 1) := by decide +kernel
theorem dX5_countOf_66 : decode cX5_countOf 66 = .ok (.getfield 7, 3) := by decide +kernel
theorem dX5_countOf_69 : decode cX5_countOf 69 = .ok (.iconst 0, 1) := by decide +kernel
theorem dX5_countOf_70 : decode cX5_countOf 70 = .ok (.iaload, 1) := by decide +kernel
theorem dX5_countOf_71 : decode cX5_countOf 71 = .ok (.ireturn, 1) := by decide +kernel
theorem dX5_countOf_72 : decode cX5_countOf 72 = .ok (.aload_n 0, 1) := by decide +kernel
theorem dX5_countOf_73 : decode cX5_countOf 73 = .ok (.getfield 7, 3) := by decide +kernel
theorem dX5_countOf_76 : decode cX5_countOf 76 = .ok (.iconst 2, 1) := by decide +kernel
theorem dX5_countOf_77 : decode cX5_countOf 77 = .ok (.iaload, 1) := by decide +kernel
theorem dX5_countOf_78 : decode cX5_countOf 78 = .ok (.ireturn, 1) := by decide +kernel
theorem dX5_countOf_79 : decode cX5_countOf 79 = .ok (.aload_n 0, 1) := by decide +kernel
theorem dX5_countOf_80 : decode cX5_countOf 80 = .ok (.getfield 7, 3) := by decide +kernel
theorem dX5_countOf_83 : decode cX5_countOf 83 = .ok (.iconst 3, 1) := by decide +kernel
theorem dX5_countOf_84 : decode cX5_countOf 84 = .ok (.iaload, 1) := by decide +kernel
theorem dX5_countOf_85 : decode cX5_countOf 85 = .ok (.ireturn, 1) := by decide +kernel
theorem dX5_countOf_86 : decode cX5_countOf 86 = .ok (.aload_n 0, 1) := by decide +kernel
theorem dX5_countOf_87 : decode cX5_countOf 87 = .ok (.getfield 7, 3) := by decide +kernel
theorem dX5_countOf_90 : decode cX5_countOf 90 = .ok (.iconst 5, 1) := by decide +kernel
theorem dX5_countOf_91 : decode cX5_countOf 91 = .ok (.iaload, 1) := by decide +kernel
theorem dX5_countOf_92 : decode cX5_countOf 92 = .ok (.ireturn, 1) := by decide +kernel
theorem dX5_countOf_93 : decode cX5_countOf 93 = .ok (.aload_n 0, 1) := by decide +kernel
theorem dX5_countOf_94 : decode cX5_countOf 94 = .ok (.invokevirtual 322, 3) := by decide +kernel
theorem dX5_countOf_97 : decode cX5_countOf 97 = .ok (.ireturn, 1) := by decide +kernel
theorem dX5_countOf_98 : decode cX5_countOf 98 = .ok (.aload_n 0, 1) := by decide +kernel
theorem dX5_countOf_99 : decode cX5_countOf 99 = .ok (.iload_n 1, 1) := by decide +kernel
theorem dX5_countOf_100 : decode cX5_countOf 100 = .ok (.invokevirtual 325, 3) := by decide +kernel
theorem dX5_countOf_103 : decode cX5_countOf 103 = .ok (.ireturn, 1) := by decide +kernel
theorem dX5_count_0 : decode cX5_count 0 = .ok (.iload_n 1, 1) := by decide +kernel
theorem dX5_count_1 : decode cX5_count 1 = .ok (.i2l, 1) := by decide +kernel
theorem dX5_count_2 : decode cX5_count 2 = .ok (.lconst 0, 1) := by decide +kernel
theorem dX5_count_3 : decode cX5_count 3 = .ok (.ldc2_w 328, 3) := by decide +kernel
theorem dX5_count_6 : decode cX5_count 6 = .ok (.invokestatic 77, 3) := by decide +kernel
theorem dX5_count_9 : decode cX5_count 9 = .ok (.ifCond .eq 11, 3) := by decide +kernel
theorem dX5_count_12 : decode cX5_count 12 = .ok (.aload_n 0, 1) := by decide +kernel
theorem dX5_count_13 : decode cX5_count 13 = .ok (.iload_n 1, 1) := by decide +kernel
theorem dX5_count_14 : decode cX5_count 14 = .ok (.invokevirtual 330, 3) := by decide +kernel
theorem dX5_count_17 : decode cX5_count 17 = .ok (.goto 4, 3) := by decide +kernel
theorem dX5_count_20 : decode cX5_count 20 = .ok (.iconst (-1), 1) := by decide +kernel
theorem dX5_count_21 : decode cX5_count 21 = .ok (.ireturn, 1) := by decide +kernel
theorem dX5_applause_0 : decode cX5_applause 0 = .ok (.sipush 1000, 3) := by decide +kernel
theorem dX5_applause_3 : decode cX5_applause 3 = .ok (.aload_n 0, 1) := by decide +kernel
theorem dX5_applause_4 : decode cX5_applause 4 = .ok (.getfield 7, 3) := by decide +kernel
theorem dX5_applause_7 : decode cX5_applause 7 = .ok (.iconst 4, 1) := by decide +kernel
theorem dX5_applause_8 : decode cX5_applause 8 = .ok (.iaload, 1) := by decide +kernel
theorem dX5_applause_9 : decode cX5_applause 9 = .ok (.iadd, 1) := by decide +kernel
theorem dX5_applause_10 : decode cX5_applause 10 = .ok (.ireturn, 1) := by decide +kernel
theorem dX5_finding_0 : decode cX5_finding 0 = .ok (.aload_n 0, 1) := by decide +kernel
theorem dX5_finding_1 : decode cX5_finding 1 = .ok (.getfield 68, 3) := by decide +kernel
theorem dX5_finding_4 : decode cX5_finding 4 = .ok (.ireturn, 1) := by decide +kernel
theorem dX5_findings_0 : decode cX5_findings 0 = .ok (.iload_n 1, 1) := by decide +kernel
theorem dX5_findings_1 : decode cX5_findings 1 = .ok (.i2l, 1) := by decide +kernel
theorem dX5_findings_2 : decode cX5_findings 2 = .ok (.lconst 1, 1) := by decide +kernel
theorem dX5_findings_3 : decode cX5_findings 3 = .ok (.ldc2_w 75, 3) := by decide +kernel
theorem dX5_findings_6 : decode cX5_findings 6 = .ok (.invokestatic 77, 3) := by decide +kernel
theorem dX5_findings_9 : decode cX5_findings 9 = .ok (.ifCond .eq 12, 3) := by decide +kernel
theorem dX5_findings_12 : decode cX5_findings 12 = .ok (.aload_n 0, 1) := by decide +kernel
theorem dX5_findings_13 : decode cX5_findings 13 = .ok (.getfield 41, 3) := by decide +kernel
theorem dX5_findings_16 : decode cX5_findings 16 = .ok (.iload_n 1, 1) := by decide +kernel
theorem dX5_findings_17 : decode cX5_findings 17 = .ok (.iaload, 1) := by decide +kernel
theorem dX5_findings_18 : decode cX5_findings 18 = .ok (.goto 4, 3) := by decide +kernel
theorem dX5_findings_21 : decode cX5_findings 21 = .ok (.iconst (-1), 1) := by decide +kernel
theorem dX5_findings_22 : decode cX5_findings 22 = .ok (.ireturn, 1) := by decide +kernel
theorem dX5_digest_0 : decode cX5_digest 0 = .ok (.ldc2_w 333, 3) := by decide +kernel
theorem dX5_digest_3 : decode cX5_digest 3 = .ok (.lstore_n 1, 1) := by decide +kernel
theorem dX5_digest_4 : decode cX5_digest 4 = .ok (.iconst 0, 1) := by decide +kernel
theorem dX5_digest_5 : decode cX5_digest 5 = .ok (.istore_n 3, 1) := by decide +kernel
theorem dX5_digest_6 : decode cX5_digest 6 = .ok (.iload_n 3, 1) := by decide +kernel
theorem dX5_digest_7 : decode cX5_digest 7 = .ok (.bipush 11, 2) := by decide +kernel
theorem dX5_digest_9 : decode cX5_digest 9 = .ok (.if_icmp .ge 22, 3) := by decide +kernel
theorem dX5_digest_12 : decode cX5_digest 12 = .ok (.ldc2_w 335, 3) := by decide +kernel
theorem dX5_digest_15 : decode cX5_digest 15 = .ok (.lload_n 1, 1) := by decide +kernel
theorem dX5_digest_16 : decode cX5_digest 16 = .ok (.lmul, 1) := by decide +kernel
theorem dX5_digest_17 : decode cX5_digest 17 = .ok (.aload_n 0, 1) := by decide +kernel
theorem dX5_digest_18 : decode cX5_digest 18 = .ok (.iload_n 3, 1) := by decide +kernel
theorem dX5_digest_19 : decode cX5_digest 19 = .ok (.invokevirtual 330, 3) := by decide +kernel
theorem dX5_digest_22 : decode cX5_digest 22 = .ok (.i2l, 1) := by decide +kernel
theorem dX5_digest_23 : decode cX5_digest 23 = .ok (.ladd, 1) := by decide +kernel
theorem dX5_digest_24 : decode cX5_digest 24 = .ok (.lstore_n 1, 1) := by decide +kernel
theorem dX5_digest_25 : decode cX5_digest 25 = .ok (.iinc 3 1, 3) := by decide +kernel
theorem dX5_digest_28 : decode cX5_digest 28 = .ok (.goto (-22), 3) := by decide +kernel
theorem dX5_digest_31 : decode cX5_digest 31 = .ok (.ldc2_w 335, 3) := by decide +kernel
theorem dX5_digest_34 : decode cX5_digest 34 = .ok (.lload_n 1, 1) := by decide +kernel
theorem dX5_digest_35 : decode cX5_digest 35 = .ok (.lmul, 1) := by decide +kernel
theorem dX5_digest_36 : decode cX5_digest 36 = .ok (.aload_n 0, 1) := by decide +kernel
theorem dX5_digest_37 : decode cX5_digest 37 = .ok (.invokevirtual 337, 3) := by decide +kernel
theorem dX5_digest_40 : decode cX5_digest 40 = .ok (.i2l, 1) := by decide +kernel
theorem dX5_digest_41 : decode cX5_digest 41 = .ok (.ladd, 1) := by decide +kernel
theorem dX5_digest_42 : decode cX5_digest 42 = .ok (.lstore_n 1, 1) := by decide +kernel
theorem dX5_digest_43 : decode cX5_digest 43 = .ok (.iconst 0, 1) := by decide +kernel
theorem dX5_digest_44 : decode cX5_digest 44 = .ok (.istore_n 3, 1) := by decide +kernel
theorem dX5_digest_45 : decode cX5_digest 45 = .ok (.iload_n 3, 1) := by decide +kernel
theorem dX5_digest_46 : decode cX5_digest 46 = .ok (.aload_n 0, 1) := by decide +kernel
theorem dX5_digest_47 : decode cX5_digest 47 = .ok (.getfield 160, 3) := by decide +kernel
theorem dX5_digest_50 : decode cX5_digest 50 = .ok (.if_icmp .ge 23, 3) := by decide +kernel
theorem dX5_digest_53 : decode cX5_digest 53 = .ok (.ldc2_w 335, 3) := by decide +kernel
theorem dX5_digest_56 : decode cX5_digest 56 = .ok (.lload_n 1, 1) := by decide +kernel
theorem dX5_digest_57 : decode cX5_digest 57 = .ok (.lmul, 1) := by decide +kernel
theorem dX5_digest_58 : decode cX5_digest 58 = .ok (.aload_n 0, 1) := by decide +kernel
theorem dX5_digest_59 : decode cX5_digest 59 = .ok (.getfield 13, 3) := by decide +kernel
theorem dX5_digest_62 : decode cX5_digest 62 = .ok (.iload_n 3, 1) := by decide +kernel
theorem dX5_digest_63 : decode cX5_digest 63 = .ok (.iaload, 1) := by decide +kernel
theorem dX5_digest_64 : decode cX5_digest 64 = .ok (.i2l, 1) := by decide +kernel
theorem dX5_digest_65 : decode cX5_digest 65 = .ok (.ladd, 1) := by decide +kernel
theorem dX5_digest_66 : decode cX5_digest 66 = .ok (.lstore_n 1, 1) := by decide +kernel
theorem dX5_digest_67 : decode cX5_digest 67 = .ok (.iinc 3 1, 3) := by decide +kernel
theorem dX5_digest_70 : decode cX5_digest 70 = .ok (.goto (-25), 3) := by decide +kernel
theorem dX5_digest_73 : decode cX5_digest 73 = .ok (.iconst 0, 1) := by decide +kernel
theorem dX5_digest_74 : decode cX5_digest 74 = .ok (.istore_n 3, 1) := by decide +kernel
theorem dX5_digest_75 : decode cX5_digest 75 = .ok (.iload_n 3, 1) := by decide +kernel
theorem dX5_digest_76 : decode cX5_digest 76 = .ok (.bipush 8, 2) := by decide +kernel
theorem dX5_digest_78 : decode cX5_digest 78 = .ok (.aload_n 0, 1) := by decide +kernel
theorem dX5_digest_79 : decode cX5_digest 79 = .ok (.getfield 163, 3) := by decide +kernel
theorem dX5_digest_82 : decode cX5_digest 82 = .ok (.imul, 1) := by decide +kernel
theorem dX5_digest_83 : decode cX5_digest 83 = .ok (.if_icmp .ge 29, 3) := by decide +kernel
theorem dX5_digest_86 : decode cX5_digest 86 = .ok (.ldc2_w 335, 3) := by decide +kernel
theorem dX5_digest_89 : decode cX5_digest 89 = .ok (.lload_n 1, 1) := by decide +kernel
theorem dX5_digest_90 : decode cX5_digest 90 = .ok (.lmul, 1) := by decide +kernel
theorem dX5_digest_91 : decode cX5_digest 91 = .ok (.aload_n 0, 1) := by decide +kernel
theorem dX5_digest_92 : decode cX5_digest 92 = .ok (.iload_n 3, 1) := by decide +kernel
theorem dX5_digest_93 : decode cX5_digest 93 = .ok (.bipush 8, 2) := by decide +kernel
theorem dX5_digest_95 : decode cX5_digest 95 = .ok (.idiv, 1) := by decide +kernel
theorem dX5_digest_96 : decode cX5_digest 96 = .ok (.iload_n 3, 1) := by decide +kernel
theorem dX5_digest_97 : decode cX5_digest 97 = .ok (.bipush 8, 2) := by decide +kernel
theorem dX5_digest_99 : decode cX5_digest 99 = .ok (.irem, 1) := by decide +kernel
theorem dX5_digest_100 : decode cX5_digest 100 = .ok (.invokevirtual 203, 3) := by decide +kernel
theorem dX5_digest_103 : decode cX5_digest 103 = .ok (.i2l, 1) := by decide +kernel
theorem dX5_digest_104 : decode cX5_digest 104 = .ok (.ladd, 1) := by decide +kernel
theorem dX5_digest_105 : decode cX5_digest 105 = .ok (.lstore_n 1, 1) := by decide +kernel
theorem dX5_digest_106 : decode cX5_digest 106 = .ok (.iinc 3 1, 3) := by decide +kernel
theorem dX5_digest_109 : decode cX5_digest 109 = .ok (.goto (-34), 3) := by decide +kernel
theorem dX5_digest_112 : decode cX5_digest 112 = .ok (.iconst 1, 1) := by decide +kernel
theorem dX5_digest_113 : decode cX5_digest 113 = .ok (.istore_n 3, 1) := by decide +kernel
theorem dX5_digest_114 : decode cX5_digest 114 = .ok (.iload_n 3, 1) := by decide +kernel
theorem dX5_digest_115 : decode cX5_digest 115 = .ok (.iconst 4, 1) := by decide +kernel
theorem dX5_digest_116 : decode cX5_digest 116 = .ok (.if_icmp .ge 29, 3) := by decide +kernel
theorem dX5_digest_119 : decode cX5_digest 119 = .ok (.ldc2_w 335, 3) := by decide +kernel
theorem dX5_digest_122 : decode cX5_digest 122 = .ok (.lload_n 1, 1) := by decide +kernel
theorem dX5_digest_123 : decode cX5_digest 123 = .ok (.lmul, 1) := by decide +kernel
theorem dX5_digest_124 : decode cX5_digest 124 = .ok (.aload_n 0, 1) := by decide +kernel
theorem dX5_digest_125 : decode cX5_digest 125 = .ok (.getfield 7, 3) := by decide +kernel
theorem dX5_digest_128 : decode cX5_digest 128 = .ok (.sipush 493, 3) := by decide +kernel
theorem dX5_digest_131 : decode cX5_digest 131 = .ok (.iload_n 3, 1) := by decide +kernel
theorem dX5_digest_132 : decode cX5_digest 132 = .ok (.imul, 1) := by decide +kernel
theorem dX5_digest_133 : decode cX5_digest 133 = .ok (.iconst 0, 1) := by decide +kernel
theorem dX5_digest_134 : decode cX5_digest 134 = .ok (.iadd, 1) := by decide +kernel
theorem dX5_digest_135 : decode cX5_digest 135 = .ok (.iaload, 1) := by decide +kernel
theorem dX5_digest_136 : decode cX5_digest 136 = .ok (.i2l, 1) := by decide +kernel
theorem dX5_digest_137 : decode cX5_digest 137 = .ok (.ladd, 1) := by decide +kernel
theorem dX5_digest_138 : decode cX5_digest 138 = .ok (.lstore_n 1, 1) := by decide +kernel
theorem dX5_digest_139 : decode cX5_digest 139 = .ok (.iinc 3 1, 3) := by decide +kernel
theorem dX5_digest_142 : decode cX5_digest 142 = .ok (.goto (-28), 3) := by decide +kernel
theorem dX5_digest_145 : decode cX5_digest 145 = .ok (.iconst 0, 1) := by decide +kernel
theorem dX5_digest_146 : decode cX5_digest 146 = .ok (.istore_n 3, 1) := by decide +kernel
theorem dX5_digest_147 : decode cX5_digest 147 = .ok (.iload_n 3, 1) := by decide +kernel
theorem dX5_digest_148 : decode cX5_digest 148 = .ok (.bipush 6, 2) := by decide +kernel
theorem dX5_digest_150 : decode cX5_digest 150 = .ok (.if_icmp .ge 63, 3) := by decide +kernel
theorem dX5_digest_153 : decode cX5_digest 153 = .ok (.ldc2_w 335, 3) := by decide +kernel
theorem dX5_digest_156 : decode cX5_digest 156 = .ok (.lload_n 1, 1) := by decide +kernel
theorem dX5_digest_157 : decode cX5_digest 157 = .ok (.lmul, 1) := by decide +kernel
theorem dX5_digest_158 : decode cX5_digest 158 = .ok (.aload_n 0, 1) := by decide +kernel
theorem dX5_digest_159 : decode cX5_digest 159 = .ok (.getfield 25, 3) := by decide +kernel
theorem dX5_digest_162 : decode cX5_digest 162 = .ok (.iload_n 3, 1) := by decide +kernel
theorem dX5_digest_163 : decode cX5_digest 163 = .ok (.iaload, 1) := by decide +kernel
theorem dX5_digest_164 : decode cX5_digest 164 = .ok (.i2l, 1) := by decide +kernel
theorem dX5_digest_165 : decode cX5_digest 165 = .ok (.ladd, 1) := by decide +kernel
theorem dX5_digest_166 : decode cX5_digest 166 = .ok (.lstore_n 1, 1) := by decide +kernel
theorem dX5_digest_167 : decode cX5_digest 167 = .ok (.iconst 0, 1) := by decide +kernel
theorem dX5_digest_168 : decode cX5_digest 168 = .ok (.istore 4, 2) := by decide +kernel
theorem dX5_digest_170 : decode cX5_digest 170 = .ok (.iload 4, 2) := by decide +kernel
theorem dX5_digest_172 : decode cX5_digest 172 = .ok (.aload_n 0, 1) := by decide +kernel
theorem dX5_digest_173 : decode cX5_digest 173 = .ok (.getfield 25, 3) := by decide +kernel
theorem dX5_digest_176 : decode cX5_digest 176 = .ok (.iload_n 3, 1) := by decide +kernel
theorem dX5_digest_177 : decode cX5_digest 177 = .ok (.iaload, 1) := by decide +kernel
theorem dX5_digest_178 : decode cX5_digest 178 = .ok (.if_icmp .ge 29, 3) := by decide +kernel
theorem dX5_digest_181 : decode cX5_digest 181 = .ok (.ldc2_w 335, 3) := by decide +kernel
theorem dX5_digest_184 : decode cX5_digest 184 = .ok (.lload_n 1, 1) := by decide +kernel
theorem dX5_digest_185 : decode cX5_digest 185 = .ok (.lmul, 1) := by decide +kernel
theorem dX5_digest_186 : decode cX5_digest 186 = .ok (.aload_n 0, 1) := by decide +kernel
theorem dX5_digest_187 : decode cX5_digest 187 = .ok (.getfield 28, 3) := by decide +kernel
theorem dX5_digest_190 : decode cX5_digest 190 = .ok (.bipush 40, 2) := by decide +kernel
theorem dX5_digest_192 : decode cX5_digest 192 = .ok (.iload_n 3, 1) := by decide +kernel
theorem dX5_digest_193 : decode cX5_digest 193 = .ok (.imul, 1) := by decide +kernel
theorem dX5_digest_194 : decode cX5_digest 194 = .ok (.iload 4, 2) := by decide +kernel
theorem dX5_digest_196 : decode cX5_digest 196 = .ok (.iadd, 1) := by decide +kernel
theorem dX5_digest_197 : decode cX5_digest 197 = .ok (.iaload, 1) := by decide +kernel
theorem dX5_digest_198 : decode cX5_digest 198 = .ok (.i2l, 1) := by decide +kernel
theorem dX5_digest_199 : decode cX5_digest 199 = .ok (.ladd, 1) := by decide +kernel
theorem dX5_digest_200 : decode cX5_digest 200 = .ok (.lstore_n 1, 1) := by decide +kernel
theorem dX5_digest_201 : decode cX5_digest 201 = .ok (.iinc 4 1, 3) := by decide +kernel
theorem dX5_digest_204 : decode cX5_digest 204 = .ok (.goto (-34), 3) := by decide +kernel
theorem dX5_digest_207 : decode cX5_digest 207 = .ok (.iinc 3 1, 3) := by decide +kernel
theorem dX5_digest_210 : decode cX5_digest 210 = .ok (.goto (-63), 3) := by decide +kernel
theorem dX5_digest_213 : decode cX5_digest 213 = .ok (.iconst 0, 1) := by decide +kernel
theorem dX5_digest_214 : decode cX5_digest 214 = .ok (.istore_n 3, 1) := by decide +kernel
theorem dX5_digest_215 : decode cX5_digest 215 = .ok (.iload_n 3, 1) := by decide +kernel
theorem dX5_digest_216 : decode cX5_digest 216 = .ok (.iconst 4, 1) := by decide +kernel
theorem dX5_digest_217 : decode cX5_digest 217 = .ok (.if_icmp .ge 63, 3) := by decide +kernel
theorem dX5_digest_220 : decode cX5_digest 220 = .ok (.ldc2_w 335, 3) := by decide +kernel
theorem dX5_digest_223 : decode cX5_digest 223 = .ok (.lload_n 1, 1) := by decide +kernel
theorem dX5_digest_224 : decode cX5_digest 224 = .ok (.lmul, 1) := by decide +kernel
theorem dX5_digest_225 : decode cX5_digest 225 = .ok (.aload_n 0, 1) := by decide +kernel
theorem dX5_digest_226 : decode cX5_digest 226 = .ok (.getfield 31, 3) := by decide +kernel
theorem dX5_digest_229 : decode cX5_digest 229 = .ok (.iload_n 3, 1) := by decide +kernel
theorem dX5_digest_230 : decode cX5_digest 230 = .ok (.iaload, 1) := by decide +kernel
theorem dX5_digest_231 : decode cX5_digest 231 = .ok (.i2l, 1) := by decide +kernel
theorem dX5_digest_232 : decode cX5_digest 232 = .ok (.ladd, 1) := by decide +kernel
theorem dX5_digest_233 : decode cX5_digest 233 = .ok (.lstore_n 1, 1) := by decide +kernel
theorem dX5_digest_234 : decode cX5_digest 234 = .ok (.iconst 0, 1) := by decide +kernel
theorem dX5_digest_235 : decode cX5_digest 235 = .ok (.istore 4, 2) := by decide +kernel
theorem dX5_digest_237 : decode cX5_digest 237 = .ok (.iload 4, 2) := by decide +kernel
theorem dX5_digest_239 : decode cX5_digest 239 = .ok (.aload_n 0, 1) := by decide +kernel
theorem dX5_digest_240 : decode cX5_digest 240 = .ok (.getfield 31, 3) := by decide +kernel
theorem dX5_digest_243 : decode cX5_digest 243 = .ok (.iload_n 3, 1) := by decide +kernel
theorem dX5_digest_244 : decode cX5_digest 244 = .ok (.iaload, 1) := by decide +kernel
theorem dX5_digest_245 : decode cX5_digest 245 = .ok (.if_icmp .ge 29, 3) := by decide +kernel
theorem dX5_digest_248 : decode cX5_digest 248 = .ok (.ldc2_w 335, 3) := by decide +kernel
theorem dX5_digest_251 : decode cX5_digest 251 = .ok (.lload_n 1, 1) := by decide +kernel
theorem dX5_digest_252 : decode cX5_digest 252 = .ok (.lmul, 1) := by decide +kernel
theorem dX5_digest_253 : decode cX5_digest 253 = .ok (.aload_n 0, 1) := by decide +kernel
theorem dX5_digest_254 : decode cX5_digest 254 = .ok (.getfield 34, 3) := by decide +kernel
theorem dX5_digest_257 : decode cX5_digest 257 = .ok (.bipush 60, 2) := by decide +kernel
theorem dX5_digest_259 : decode cX5_digest 259 = .ok (.iload_n 3, 1) := by decide +kernel
theorem dX5_digest_260 : decode cX5_digest 260 = .ok (.imul, 1) := by decide +kernel
theorem dX5_digest_261 : decode cX5_digest 261 = .ok (.iload 4, 2) := by decide +kernel
theorem dX5_digest_263 : decode cX5_digest 263 = .ok (.iadd, 1) := by decide +kernel
theorem dX5_digest_264 : decode cX5_digest 264 = .ok (.iaload, 1) := by decide +kernel
theorem dX5_digest_265 : decode cX5_digest 265 = .ok (.i2l, 1) := by decide +kernel
theorem dX5_digest_266 : decode cX5_digest 266 = .ok (.ladd, 1) := by decide +kernel
theorem dX5_digest_267 : decode cX5_digest 267 = .ok (.lstore_n 1, 1) := by decide +kernel
theorem dX5_digest_268 : decode cX5_digest 268 = .ok (.iinc 4 1, 3) := by decide +kernel
theorem dX5_digest_271 : decode cX5_digest 271 = .ok (.goto (-34), 3) := by decide +kernel
theorem dX5_digest_274 : decode cX5_digest 274 = .ok (.iinc 3 1, 3) := by decide +kernel
theorem dX5_digest_277 : decode cX5_digest 277 = .ok (.goto (-62), 3) := by decide +kernel
theorem dX5_digest_280 : decode cX5_digest 280 = .ok (.lload_n 1, 1) := by decide +kernel
theorem dX5_digest_281 : decode cX5_digest 281 = .ok (.lreturn, 1) := by decide +kernel
theorem dJ6_bitCount_0f7a4_0 : decode cJ6_bitCount_0f7a4 0 = .ok (.iload_n 0, 1) := by decide +kernel
theorem dJ6_bitCount_0f7a4_1 : decode cJ6_bitCount_0f7a4 1 = .ok (.iload_n 0, 1) := by decide +kernel
theorem dJ6_bitCount_0f7a4_2 : decode cJ6_bitCount_0f7a4 2 = .ok (.iconst 1, 1) := by decide +kernel
theorem dJ6_bitCount_0f7a4_3 : decode cJ6_bitCount_0f7a4 3 = .ok (.iushr, 1) := by decide +kernel
theorem dJ6_bitCount_0f7a4_4 : decode cJ6_bitCount_0f7a4 4 = .ok (.ldc_w 265, 3) := by decide +kernel
theorem dJ6_bitCount_0f7a4_7 : decode cJ6_bitCount_0f7a4 7 = .ok (.iand, 1) := by decide +kernel
theorem dJ6_bitCount_0f7a4_8 : decode cJ6_bitCount_0f7a4 8 = .ok (.isub, 1) := by decide +kernel
theorem dJ6_bitCount_0f7a4_9 : decode cJ6_bitCount_0f7a4 9 = .ok (.istore_n 0, 1) := by decide +kernel
theorem dJ6_bitCount_0f7a4_10 : decode cJ6_bitCount_0f7a4 10 = .ok (.iload_n 0, 1) := by decide +kernel
theorem dJ6_bitCount_0f7a4_11 : decode cJ6_bitCount_0f7a4 11 = .ok (.ldc_w 266, 3) := by decide +kernel
theorem dJ6_bitCount_0f7a4_14 : decode cJ6_bitCount_0f7a4 14 = .ok (.iand, 1) := by decide +kernel
theorem dJ6_bitCount_0f7a4_15 : decode cJ6_bitCount_0f7a4 15 = .ok (.iload_n 0, 1) := by decide +kernel
theorem dJ6_bitCount_0f7a4_16 : decode cJ6_bitCount_0f7a4 16 = .ok (.iconst 2, 1) := by decide +kernel
theorem dJ6_bitCount_0f7a4_17 : decode cJ6_bitCount_0f7a4 17 = .ok (.iushr, 1) := by decide +kernel
theorem dJ6_bitCount_0f7a4_18 : decode cJ6_bitCount_0f7a4 18 = .ok (.ldc_w 266, 3) := by decide +kernel
theorem dJ6_bitCount_0f7a4_21 : decode cJ6_bitCount_0f7a4 21 = .ok (.iand, 1) := by decide +kernel
theorem dJ6_bitCount_0f7a4_22 : decode cJ6_bitCount_0f7a4 22 = .ok (.iadd, 1) := by decide +kernel
theorem dJ6_bitCount_0f7a4_23 : decode cJ6_bitCount_0f7a4 23 = .ok (.istore_n 0, 1) := by decide +kernel
theorem dJ6_bitCount_0f7a4_24 : decode cJ6_bitCount_0f7a4 24 = .ok (.iload_n 0, 1) := by decide +kernel
theorem dJ6_bitCount_0f7a4_25 : decode cJ6_bitCount_0f7a4 25 = .ok (.iload_n 0, 1) := by decide +kernel
theorem dJ6_bitCount_0f7a4_26 : decode cJ6_bitCount_0f7a4 26 = .ok (.iconst 4, 1) := by decide +kernel
theorem dJ6_bitCount_0f7a4_27 : decode cJ6_bitCount_0f7a4 27 = .ok (.iushr, 1) := by decide +kernel
theorem dJ6_bitCount_0f7a4_28 : decode cJ6_bitCount_0f7a4 28 = .ok (.iadd, 1) := by decide +kernel
theorem dJ6_bitCount_0f7a4_29 : decode cJ6_bitCount_0f7a4 29 = .ok (.ldc_w 267, 3) := by decide +kernel
theorem dJ6_bitCount_0f7a4_32 : decode cJ6_bitCount_0f7a4 32 = .ok (.iand, 1) := by decide +kernel
theorem dJ6_bitCount_0f7a4_33 : decode cJ6_bitCount_0f7a4 33 = .ok (.istore_n 0, 1) := by decide +kernel
theorem dJ6_bitCount_0f7a4_34 : decode cJ6_bitCount_0f7a4 34 = .ok (.iload_n 0, 1) := by decide +kernel
theorem dJ6_bitCount_0f7a4_35 : decode cJ6_bitCount_0f7a4 35 = .ok (.iload_n 0, 1) := by decide +kernel
theorem dJ6_bitCount_0f7a4_36 : decode cJ6_bitCount_0f7a4 36 = .ok (.bipush 8, 2) := by decide +kernel
theorem dJ6_bitCount_0f7a4_38 : decode cJ6_bitCount_0f7a4 38 = .ok (.iushr, 1) := by decide +kernel
theorem dJ6_bitCount_0f7a4_39 : decode cJ6_bitCount_0f7a4 39 = .ok (.iadd, 1) := by decide +kernel
theorem dJ6_bitCount_0f7a4_40 : decode cJ6_bitCount_0f7a4 40 = .ok (.istore_n 0, 1) := by decide +kernel
theorem dJ6_bitCount_0f7a4_41 : decode cJ6_bitCount_0f7a4 41 = .ok (.iload_n 0, 1) := by decide +kernel
theorem dJ6_bitCount_0f7a4_42 : decode cJ6_bitCount_0f7a4 42 = .ok (.iload_n 0, 1) := by decide +kernel
theorem dJ6_bitCount_0f7a4_43 : decode cJ6_bitCount_0f7a4 43 = .ok (.bipush 16, 2) := by decide +kernel
theorem dJ6_bitCount_0f7a4_45 : decode cJ6_bitCount_0f7a4 45 = .ok (.iushr, 1) := by decide +kernel
theorem dJ6_bitCount_0f7a4_46 : decode cJ6_bitCount_0f7a4 46 = .ok (.iadd, 1) := by decide +kernel
theorem dJ6_bitCount_0f7a4_47 : decode cJ6_bitCount_0f7a4 47 = .ok (.istore_n 0, 1) := by decide +kernel
theorem dJ6_bitCount_0f7a4_48 : decode cJ6_bitCount_0f7a4 48 = .ok (.iload_n 0, 1) := by decide +kernel
theorem dJ6_bitCount_0f7a4_49 : decode cJ6_bitCount_0f7a4 49 = .ok (.bipush 63, 2) := by decide +kernel
theorem dJ6_bitCount_0f7a4_51 : decode cJ6_bitCount_0f7a4 51 = .ok (.iand, 1) := by decide +kernel
theorem dJ6_bitCount_0f7a4_52 : decode cJ6_bitCount_0f7a4 52 = .ok (.ireturn, 1) := by decide +kernel
theorem dJ9_floorMod_7cf53_0 : decode cJ9_floorMod_7cf53 0 = .ok (.iload_n 0, 1) := by decide +kernel
theorem dJ9_floorMod_7cf53_1 : decode cJ9_floorMod_7cf53 1 = .ok (.iload_n 1, 1) := by decide +kernel
theorem dJ9_floorMod_7cf53_2 : decode cJ9_floorMod_7cf53 2 = .ok (.irem, 1) := by decide +kernel
theorem dJ9_floorMod_7cf53_3 : decode cJ9_floorMod_7cf53 3 = .ok (.istore_n 2, 1) := by decide +kernel
theorem dJ9_floorMod_7cf53_4 : decode cJ9_floorMod_7cf53 4 = .ok (.iload_n 0, 1) := by decide +kernel
theorem dJ9_floorMod_7cf53_5 : decode cJ9_floorMod_7cf53 5 = .ok (.iload_n 1, 1) := by decide +kernel
theorem dJ9_floorMod_7cf53_6 : decode cJ9_floorMod_7cf53 6 = .ok (.ixor, 1) := by decide +kernel
theorem dJ9_floorMod_7cf53_7 : decode cJ9_floorMod_7cf53 7 = .ok (.ifCond .ge 11, 3) := by decide +kernel
theorem dJ9_floorMod_7cf53_10 : decode cJ9_floorMod_7cf53 10 = .ok (.iload_n 2, 1) := by decide +kernel
theorem dJ9_floorMod_7cf53_11 : decode cJ9_floorMod_7cf53 11 = .ok (.ifCond .eq 7, 3) := by decide +kernel
theorem dJ9_floorMod_7cf53_14 : decode cJ9_floorMod_7cf53 14 = .ok (.iload_n 2, 1) := by decide +kernel
theorem dJ9_floorMod_7cf53_15 : decode cJ9_floorMod_7cf53 15 = .ok (.iload_n 1, 1) := by decide +kernel
theorem dJ9_floorMod_7cf53_16 : decode cJ9_floorMod_7cf53 16 = .ok (.iadd, 1) := by decide +kernel
theorem dJ9_floorMod_7cf53_17 : decode cJ9_floorMod_7cf53 17 = .ok (.ireturn, 1) := by decide +kernel
theorem dJ9_floorMod_7cf53_18 : decode cJ9_floorMod_7cf53 18 = .ok (.iload_n 2, 1) := by decide +kernel
theorem dJ9_floorMod_7cf53_19 : decode cJ9_floorMod_7cf53 19 = .ok (.ireturn, 1) := by decide +kernel
theorem dJ9_abs_067f4_0 : decode cJ9_abs_067f4 0 = .ok (.lload_n 0, 1) := by decide +kernel
theorem dJ9_abs_067f4_1 : decode cJ9_abs_067f4 1 = .ok (.lconst 0, 1) := by decide +kernel
theorem dJ9_abs_067f4_2 : decode cJ9_abs_067f4 2 = .ok (.lcmp, 1) := by decide +kernel
theorem dJ9_abs_067f4_3 : decode cJ9_abs_067f4 3 = .ok (.ifCond .ge 8, 3) := by decide +kernel
theorem dJ9_abs_067f4_6 : decode cJ9_abs_067f4 6 = .ok (.lload_n 0, 1) := by decide +kernel
theorem dJ9_abs_067f4_7 : decode cJ9_abs_067f4 7 = .ok (.lneg, 1) := by decide +kernel
theorem dJ9_abs_067f4_8 : decode cJ9_abs_067f4 8 = .ok (.goto 4, 3) := by decide +kernel
theorem dJ9_abs_067f4_11 : decode cJ9_abs_067f4 11 = .ok (.lload_n 0, 1) := by decide +kernel
theorem dJ9_abs_067f4_12 : decode cJ9_abs_067f4 12 = .ok (.lreturn, 1) := by decide +kernel
theorem dJ9_max_7cf53_0 : decode cJ9_max_7cf53 0 = .ok (.iload_n 0, 1) := by decide +kernel
theorem dJ9_max_7cf53_1 : decode cJ9_max_7cf53 1 = .ok (.iload_n 1, 1) := by decide +kernel
theorem dJ9_max_7cf53_2 : decode cJ9_max_7cf53 2 = .ok (.if_icmp .lt 7, 3) := by decide +kernel
theorem dJ9_max_7cf53_5 : decode cJ9_max_7cf53 5 = .ok (.iload_n 0, 1) := by decide +kernel
theorem dJ9_max_7cf53_6 : decode cJ9_max_7cf53 6 = .ok (.goto 4, 3) := by decide +kernel
theorem dJ9_max_7cf53_9 : decode cJ9_max_7cf53 9 = .ok (.iload_n 1, 1) := by decide +kernel
theorem dJ9_max_7cf53_10 : decode cJ9_max_7cf53 10 = .ok (.ireturn, 1) := by decide +kernel
theorem dJ9_min_7cf53_0 : decode cJ9_min_7cf53 0 = .ok (.iload_n 0, 1) := by decide +kernel
theorem dJ9_min_7cf53_1 : decode cJ9_min_7cf53 1 = .ok (.iload_n 1, 1) := by decide +kernel
theorem dJ9_min_7cf53_2 : decode cJ9_min_7cf53 2 = .ok (.if_icmp .gt 7, 3) := by decide +kernel
theorem dJ9_min_7cf53_5 : decode cJ9_min_7cf53 5 = .ok (.iload_n 0, 1) := by decide +kernel
theorem dJ9_min_7cf53_6 : decode cJ9_min_7cf53 6 = .ok (.goto 4, 3) := by decide +kernel
theorem dJ9_min_7cf53_9 : decode cJ9_min_7cf53 9 = .ok (.iload_n 1, 1) := by decide +kernel
theorem dJ9_min_7cf53_10 : decode cJ9_min_7cf53 10 = .ok (.ireturn, 1) := by decide +kernel
theorem dJ7_fill_53178_0 : decode cJ7_fill_53178 0 = .ok (.iconst 0, 1) := by decide +kernel
theorem dJ7_fill_53178_1 : decode cJ7_fill_53178 1 = .ok (.istore_n 2, 1) := by decide +kernel
theorem dJ7_fill_53178_2 : decode cJ7_fill_53178 2 = .ok (.aload_n 0, 1) := by decide +kernel
theorem dJ7_fill_53178_3 : decode cJ7_fill_53178 3 = .ok (.arraylength, 1) := by decide +kernel
theorem dJ7_fill_53178_4 : decode cJ7_fill_53178 4 = .ok (.istore_n 3, 1) := by decide +kernel
theorem dJ7_fill_53178_5 : decode cJ7_fill_53178 5 = .ok (.iload_n 2, 1) := by decide +kernel
theorem dJ7_fill_53178_6 : decode cJ7_fill_53178 6 = .ok (.iload_n 3, 1) := by decide +kernel
theorem dJ7_fill_53178_7 : decode cJ7_fill_53178 7 = .ok (.if_icmp .ge 13, 3) := by decide +kernel
theorem dJ7_fill_53178_10 : decode cJ7_fill_53178 10 = .ok (.aload_n 0, 1) := by decide +kernel
theorem dJ7_fill_53178_11 : decode cJ7_fill_53178 11 = .ok (.iload_n 2, 1) := by decide +kernel
theorem dJ7_fill_53178_12 : decode cJ7_fill_53178 12 = .ok (.iload_n 1, 1) := by decide +kernel
theorem dJ7_fill_53178_13 : decode cJ7_fill_53178 13 = .ok (.iastore, 1) := by decide +kernel
theorem dJ7_fill_53178_14 : decode cJ7_fill_53178 14 = .ok (.iinc 2 1, 3) := by decide +kernel
theorem dJ7_fill_53178_17 : decode cJ7_fill_53178 17 = .ok (.goto (-12), 3) := by decide +kernel
theorem dJ7_fill_53178_20 : decode cJ7_fill_53178 20 = .ok (.return_, 1) := by decide +kernel
theorem dL_law_0 : decode cL_law 0 = .ok (.new 7, 3) := by decide +kernel
theorem dL_law_3 : decode cL_law 3 = .ok (.dup, 1) := by decide +kernel
theorem dL_law_4 : decode cL_law 4 = .ok (.invokespecial 9, 3) := by decide +kernel
theorem dL_law_7 : decode cL_law 7 = .ok (.astore_n 1, 1) := by decide +kernel
theorem dL_law_8 : decode cL_law 8 = .ok (.new 10, 3) := by decide +kernel
theorem dL_law_11 : decode cL_law 11 = .ok (.dup, 1) := by decide +kernel
theorem dL_law_12 : decode cL_law 12 = .ok (.invokespecial 12, 3) := by decide +kernel
theorem dL_law_15 : decode cL_law 15 = .ok (.astore_n 2, 1) := by decide +kernel
theorem dL_law_16 : decode cL_law 16 = .ok (.iconst 0, 1) := by decide +kernel
theorem dL_law_17 : decode cL_law 17 = .ok (.istore_n 3, 1) := by decide +kernel
theorem dL_law_18 : decode cL_law 18 = .ok (.iload_n 3, 1) := by decide +kernel
theorem dL_law_19 : decode cL_law 19 = .ok (.aload_n 0, 1) := by decide +kernel
theorem dL_law_20 : decode cL_law 20 = .ok (.arraylength, 1) := by decide +kernel
theorem dL_law_21 : decode cL_law 21 = .ok (.bipush 6, 2) := by decide +kernel
theorem dL_law_23 : decode cL_law 23 = .ok (.isub, 1) := by decide +kernel
theorem dL_law_24 : decode cL_law 24 = .ok (.if_icmp .gt 1197, 3) := by decide +kernel
theorem dL_law_27 : decode cL_law 27 = .ok (.aload_n 0, 1) := by decide +kernel
theorem dL_law_28 : decode cL_law 28 = .ok (.iload_n 3, 1) := by decide +kernel
theorem dL_law_29 : decode cL_law 29 = .ok (.iaload, 1) := by decide +kernel
theorem dL_law_30 : decode cL_law 30 = .ok (.bipush 63, 2) := by decide +kernel
theorem dL_law_32 : decode cL_law 32 = .ok (.iand, 1) := by decide +kernel
theorem dL_law_33 : decode cL_law 33 = .ok (.tableswitch 1182 0 41 #[183, 216, 259, 292, 315, 378, 401, 434, 477, 500, 523, 556, 589, 612, 635, 648, 681, 704, 727, 750, 763, 786, 809, 822, 845, 858, 871, 884, 917, 950, 973, 996, 1019, 1032, 1055, 1068, 1082, 1096, 1119, 1132, 1145, 1168], 183) := by decide +kernel
theorem dL_law_216 : decode cL_law 216 = .ok (.aload_n 1, 1) := by decide +kernel
theorem dL_law_217 : decode cL_law 217 = .ok (.aload_n 0, 1) := by decide +kernel
theorem dL_law_218 : decode cL_law 218 = .ok (.iload_n 3, 1) := by decide +kernel
theorem dL_law_219 : decode cL_law 219 = .ok (.iconst 1, 1) := by decide +kernel
theorem dL_law_220 : decode cL_law 220 = .ok (.iadd, 1) := by decide +kernel
theorem dL_law_221 : decode cL_law 221 = .ok (.iaload, 1) := by decide +kernel
theorem dL_law_222 : decode cL_law 222 = .ok (.aload_n 0, 1) := by decide +kernel
theorem dL_law_223 : decode cL_law 223 = .ok (.iload_n 3, 1) := by decide +kernel
theorem dL_law_224 : decode cL_law 224 = .ok (.iconst 2, 1) := by decide +kernel
theorem dL_law_225 : decode cL_law 225 = .ok (.iadd, 1) := by decide +kernel
theorem dL_law_226 : decode cL_law 226 = .ok (.iaload, 1) := by decide +kernel
theorem dL_law_227 : decode cL_law 227 = .ok (.invokevirtual 13, 3) := by decide +kernel
theorem dL_law_230 : decode cL_law 230 = .ok (.aload_n 2, 1) := by decide +kernel
theorem dL_law_231 : decode cL_law 231 = .ok (.aload_n 0, 1) := by decide +kernel
theorem dL_law_232 : decode cL_law 232 = .ok (.iload_n 3, 1) := by decide +kernel
theorem dL_law_233 : decode cL_law 233 = .ok (.iconst 1, 1) := by decide +kernel
theorem dL_law_234 : decode cL_law 234 = .ok (.iadd, 1) := by decide +kernel
theorem dL_law_235 : decode cL_law 235 = .ok (.iaload, 1) := by decide +kernel
theorem dL_law_236 : decode cL_law 236 = .ok (.aload_n 0, 1) := by decide +kernel
theorem dL_law_237 : decode cL_law 237 = .ok (.iload_n 3, 1) := by decide +kernel
theorem dL_law_238 : decode cL_law 238 = .ok (.iconst 2, 1) := by decide +kernel
theorem dL_law_239 : decode cL_law 239 = .ok (.iadd, 1) := by decide +kernel
theorem dL_law_240 : decode cL_law 240 = .ok (.iaload, 1) := by decide +kernel
theorem dL_law_241 : decode cL_law 241 = .ok (.invokevirtual 17, 3) := by decide +kernel
theorem dL_law_244 : decode cL_law 244 = .ok (.if_icmp .eq 971, 3) := by decide +kernel
theorem dL_law_247 : decode cL_law 247 = .ok (.iconst 0, 1) := by decide +kernel
theorem dL_law_248 : decode cL_law 248 = .ok (.ireturn, 1) := by decide +kernel
theorem dL_law_249 : decode cL_law 249 = .ok (.aload_n 1, 1) := by decide +kernel
theorem dL_law_250 : decode cL_law 250 = .ok (.aload_n 0, 1) := by decide +kernel
theorem dL_law_251 : decode cL_law 251 = .ok (.iload_n 3, 1) := by decide +kernel
theorem dL_law_252 : decode cL_law 252 = .ok (.iconst 1, 1) := by decide +kernel
theorem dL_law_253 : decode cL_law 253 = .ok (.iadd, 1) := by decide +kernel
theorem dL_law_254 : decode cL_law 254 = .ok (.iaload, 1) := by decide +kernel
theorem dL_law_255 : decode cL_law 255 = .ok (.aload_n 0, 1) := by decide +kernel
theorem dL_law_256 : decode cL_law 256 = .ok (.iload_n 3, 1) := by decide +kernel
theorem dL_law_257 : decode cL_law 257 = .ok (.iconst 2, 1) := by decide +kernel
theorem dL_law_258 : decode cL_law 258 = .ok (.iadd, 1) := by decide +kernel
theorem dL_law_259 : decode cL_law 259 = .ok (.iaload, 1) := by decide +kernel
theorem dL_law_260 : decode cL_law 260 = .ok (.aload_n 0, 1) := by decide +kernel
theorem dL_law_261 : decode cL_law 261 = .ok (.iload_n 3, 1) := by decide +kernel
theorem dL_law_262 : decode cL_law 262 = .ok (.iconst 3, 1) := by decide +kernel
theorem dL_law_263 : decode cL_law 263 = .ok (.iadd, 1) := by decide +kernel
theorem dL_law_264 : decode cL_law 264 = .ok (.iaload, 1) := by decide +kernel
theorem dL_law_265 : decode cL_law 265 = .ok (.invokevirtual 18, 3) := by decide +kernel
theorem dL_law_268 : decode cL_law 268 = .ok (.aload_n 2, 1) := by decide +kernel
theorem dL_law_269 : decode cL_law 269 = .ok (.aload_n 0, 1) := by decide +kernel
theorem dL_law_270 : decode cL_law 270 = .ok (.iload_n 3, 1) := by decide +kernel
theorem dL_law_271 : decode cL_law 271 = .ok (.iconst 1, 1) := by decide +kernel
theorem dL_law_272 : decode cL_law 272 = .ok (.iadd, 1) := by decide +kernel
theorem dL_law_273 : decode cL_law 273 = .ok (.iaload, 1) := by decide +kernel
theorem dL_law_274 : decode cL_law 274 = .ok (.aload_n 0, 1) := by decide +kernel
theorem dL_law_275 : decode cL_law 275 = .ok (.iload_n 3, 1) := by decide +kernel
theorem dL_law_276 : decode cL_law 276 = .ok (.iconst 2, 1) := by decide +kernel
theorem dL_law_277 : decode cL_law 277 = .ok (.iadd, 1) := by decide +kernel
theorem dL_law_278 : decode cL_law 278 = .ok (.iaload, 1) := by decide +kernel
theorem dL_law_279 : decode cL_law 279 = .ok (.aload_n 0, 1) := by decide +kernel
theorem dL_law_280 : decode cL_law 280 = .ok (.iload_n 3, 1) := by decide +kernel
theorem dL_law_281 : decode cL_law 281 = .ok (.iconst 3, 1) := by decide +kernel
theorem dL_law_282 : decode cL_law 282 = .ok (.iadd, 1) := by decide +kernel
theorem dL_law_283 : decode cL_law 283 = .ok (.iaload, 1) := by decide +kernel
theorem dL_law_284 : decode cL_law 284 = .ok (.invokevirtual 22, 3) := by decide +kernel
theorem dL_law_287 : decode cL_law 287 = .ok (.if_icmp .eq 928, 3) := by decide +kernel
theorem dL_law_290 : decode cL_law 290 = .ok (.iconst 0, 1) := by decide +kernel
theorem dL_law_291 : decode cL_law 291 = .ok (.ireturn, 1) := by decide +kernel
theorem dL_law_292 : decode cL_law 292 = .ok (.aload_n 1, 1) := by decide +kernel
theorem dL_law_293 : decode cL_law 293 = .ok (.aload_n 0, 1) := by decide +kernel
theorem dL_law_294 : decode cL_law 294 = .ok (.iload_n 3, 1) := by decide +kernel
theorem dL_law_295 : decode cL_law 295 = .ok (.iconst 1, 1) := by decide +kernel
theorem dL_law_296 : decode cL_law 296 = .ok (.iadd, 1) := by decide +kernel
theorem dL_law_297 : decode cL_law 297 = .ok (.iaload, 1) := by decide +kernel
theorem dL_law_298 : decode cL_law 298 = .ok (.aload_n 0, 1) := by decide +kernel
theorem dL_law_299 : decode cL_law 299 = .ok (.iload_n 3, 1) := by decide +kernel
theorem dL_law_300 : decode cL_law 300 = .ok (.iconst 2, 1) := by decide +kernel
theorem dL_law_301 : decode cL_law 301 = .ok (.iadd, 1) := by decide +kernel
theorem dL_law_302 : decode cL_law 302 = .ok (.iaload, 1) := by decide +kernel
theorem dL_law_303 : decode cL_law 303 = .ok (.invokevirtual 23, 3) := by decide +kernel
theorem dL_law_306 : decode cL_law 306 = .ok (.aload_n 2, 1) := by decide +kernel
theorem dL_law_307 : decode cL_law 307 = .ok (.aload_n 0, 1) := by decide +kernel
theorem dL_law_308 : decode cL_law 308 = .ok (.iload_n 3, 1) := by decide +kernel
theorem dL_law_309 : decode cL_law 309 = .ok (.iconst 1, 1) := by decide +kernel
theorem dL_law_310 : decode cL_law 310 = .ok (.iadd, 1) := by decide +kernel
theorem dL_law_311 : decode cL_law 311 = .ok (.iaload, 1) := by decide +kernel
theorem dL_law_312 : decode cL_law 312 = .ok (.aload_n 0, 1) := by decide +kernel
theorem dL_law_313 : decode cL_law 313 = .ok (.iload_n 3, 1) := by decide +kernel
theorem dL_law_314 : decode cL_law 314 = .ok (.iconst 2, 1) := by decide +kernel
theorem dL_law_315 : decode cL_law 315 = .ok (.iadd, 1) := by decide +kernel
theorem dL_law_316 : decode cL_law 316 = .ok (.iaload, 1) := by decide +kernel
theorem dL_law_317 : decode cL_law 317 = .ok (.invokevirtual 26, 3) := by decide +kernel
theorem dL_law_320 : decode cL_law 320 = .ok (.if_icmp .eq 895, 3) := by decide +kernel
theorem dL_law_323 : decode cL_law 323 = .ok (.iconst 0, 1) := by decide +kernel
theorem dL_law_324 : decode cL_law 324 = .ok (.ireturn, 1) := by decide +kernel
theorem dL_law_325 : decode cL_law 325 = .ok (.aload_n 1, 1) := by decide +kernel
theorem dL_law_326 : decode cL_law 326 = .ok (.aload_n 0, 1) := by decide +kernel
theorem dL_law_327 : decode cL_law 327 = .ok (.iload_n 3, 1) := by decide +kernel
theorem dL_law_328 : decode cL_law 328 = .ok (.iconst 1, 1) := by decide +kernel
theorem dL_law_329 : decode cL_law 329 = .ok (.iadd, 1) := by decide +kernel
theorem dL_law_330 : decode cL_law 330 = .ok (.iaload, 1) := by decide +kernel
theorem dL_law_331 : decode cL_law 331 = .ok (.invokevirtual 27, 3) := by decide +kernel
theorem dL_law_334 : decode cL_law 334 = .ok (.aload_n 2, 1) := by decide +kernel
theorem dL_law_335 : decode cL_law 335 = .ok (.aload_n 0, 1) := by decide +kernel
theorem dL_law_336 : decode cL_law 336 = .ok (.iload_n 3, 1) := by decide +kernel
theorem dL_law_337 : decode cL_law 337 = .ok (.iconst 1, 1) := by decide +kernel
theorem dL_law_338 : decode cL_law 338 = .ok (.iadd, 1) := by decide +kernel
theorem dL_law_339 : decode cL_law 339 = .ok (.iaload, 1) := by decide +kernel
theorem dL_law_340 : decode cL_law 340 = .ok (.invokevirtual 31, 3) := by decide +kernel
theorem dL_law_343 : decode cL_law 343 = .ok (.if_icmp .eq 872, 3) := by decide +kernel
theorem dL_law_346 : decode cL_law 346 = .ok (.iconst 0, 1) := by decide +kernel
theorem dL_law_347 : decode cL_law 347 = .ok (.ireturn, 1) := by decide +kernel
theorem dL_law_348 : decode cL_law 348 = .ok (.aload_n 1, 1) := by decide +kernel
theorem dL_law_349 : decode cL_law 349 = .ok (.aload_n 0, 1) := by decide +kernel
theorem dL_law_350 : decode cL_law 350 = .ok (.iload_n 3, 1) := by decide +kernel
theorem dL_law_351 : decode cL_law 351 = .ok (.iconst 1, 1) := by decide +kernel
theorem dL_law_352 : decode cL_law 352 = .ok (.iadd, 1) := by decide +kernel
theorem dL_law_353 : decode cL_law 353 = .ok (.iaload, 1) := by decide +kernel
theorem dL_law_354 : decode cL_law 354 = .ok (.aload_n 0, 1) := by decide +kernel
theorem dL_law_355 : decode cL_law 355 = .ok (.iload_n 3, 1) := by decide +kernel
theorem dL_law_356 : decode cL_law 356 = .ok (.iconst 2, 1) := by decide +kernel
theorem dL_law_357 : decode cL_law 357 = .ok (.iadd, 1) := by decide +kernel
theorem dL_law_358 : decode cL_law 358 = .ok (.iaload, 1) := by decide +kernel
theorem dL_law_359 : decode cL_law 359 = .ok (.aload_n 0, 1) := by decide +kernel
theorem dL_law_360 : decode cL_law 360 = .ok (.iload_n 3, 1) := by decide +kernel
theorem dL_law_361 : decode cL_law 361 = .ok (.iconst 3, 1) := by decide +kernel
theorem dL_law_362 : decode cL_law 362 = .ok (.iadd, 1) := by decide +kernel
theorem dL_law_363 : decode cL_law 363 = .ok (.iaload, 1) := by decide +kernel
theorem dL_law_364 : decode cL_law 364 = .ok (.aload_n 0, 1) := by decide +kernel
theorem dL_law_365 : decode cL_law 365 = .ok (.iload_n 3, 1) := by decide +kernel
theorem dL_law_366 : decode cL_law 366 = .ok (.iconst 4, 1) := by decide +kernel
theorem dL_law_367 : decode cL_law 367 = .ok (.iadd, 1) := by decide +kernel
theorem dL_law_368 : decode cL_law 368 = .ok (.iaload, 1) := by decide +kernel
theorem dL_law_369 : decode cL_law 369 = .ok (.aload_n 0, 1) := by decide +kernel
theorem dL_law_370 : decode cL_law 370 = .ok (.iload_n 3, 1) := by decide +kernel
theorem dL_law_371 : decode cL_law 371 = .ok (.iconst 5, 1) := by decide +kernel
theorem dL_law_372 : decode cL_law 372 = .ok (.iadd, 1) := by decide +kernel
theorem dL_law_373 : decode cL_law 373 = .ok (.iaload, 1) := by decide +kernel
theorem dL_law_374 : decode cL_law 374 = .ok (.invokevirtual 32, 3) := by decide +kernel
theorem dL_law_377 : decode cL_law 377 = .ok (.aload_n 2, 1) := by decide +kernel
theorem dL_law_378 : decode cL_law 378 = .ok (.aload_n 0, 1) := by decide +kernel
theorem dL_law_379 : decode cL_law 379 = .ok (.iload_n 3, 1) := by decide +kernel
theorem dL_law_380 : decode cL_law 380 = .ok (.iconst 1, 1) := by decide +kernel
theorem dL_law_381 : decode cL_law 381 = .ok (.iadd, 1) := by decide +kernel
theorem dL_law_382 : decode cL_law 382 = .ok (.iaload, 1) := by decide +kernel
theorem dL_law_383 : decode cL_law 383 = .ok (.aload_n 0, 1) := by decide +kernel
theorem dL_law_384 : decode cL_law 384 = .ok (.iload_n 3, 1) := by decide +kernel
theorem dL_law_385 : decode cL_law 385 = .ok (.iconst 2, 1) := by decide +kernel
theorem dL_law_386 : decode cL_law 386 = .ok (.iadd, 1) := by decide +kernel
theorem dL_law_387 : decode cL_law 387 = .ok (.iaload, 1) := by decide +kernel
theorem dL_law_388 : decode cL_law 388 = .ok (.aload_n 0, 1) := by decide +kernel
theorem dL_law_389 : decode cL_law 389 = .ok (.iload_n 3, 1) := by decide +kernel
theorem dL_law_390 : decode cL_law 390 = .ok (.iconst 3, 1) := by decide +kernel
theorem dL_law_391 : decode cL_law 391 = .ok (.iadd, 1) := by decide +kernel
theorem dL_law_392 : decode cL_law 392 = .ok (.iaload, 1) := by decide +kernel
theorem dL_law_393 : decode cL_law 393 = .ok (.aload_n 0, 1) := by decide +kernel
theorem dL_law_394 : decode cL_law 394 = .ok (.iload_n 3, 1) := by decide +kernel
theorem dL_law_395 : decode cL_law 395 = .ok (.iconst 4, 1) := by decide +kernel
theorem dL_law_396 : decode cL_law 396 = .ok (.iadd, 1) := by decide +kernel
theorem dL_law_397 : decode cL_law 397 = .ok (.iaload, 1) := by decide +kernel
theorem dL_law_398 : decode cL_law 398 = .ok (.aload_n 0, 1) := by decide +kernel
theorem dL_law_399 : decode cL_law 399 = .ok (.iload_n 3, 1) := by decide +kernel
theorem dL_law_400 : decode cL_law 400 = .ok (.iconst 5, 1) := by decide +kernel
theorem dL_law_401 : decode cL_law 401 = .ok (.iadd, 1) := by decide +kernel
theorem dL_law_402 : decode cL_law 402 = .ok (.iaload, 1) := by decide +kernel
theorem dL_law_403 : decode cL_law 403 = .ok (.invokevirtual 36, 3) := by decide +kernel
theorem dL_law_406 : decode cL_law 406 = .ok (.if_icmp .eq 809, 3) := by decide +kernel
theorem dL_law_409 : decode cL_law 409 = .ok (.iconst 0, 1) := by decide +kernel
theorem dL_law_410 : decode cL_law 410 = .ok (.ireturn, 1) := by decide +kernel
theorem dL_law_411 : decode cL_law 411 = .ok (.aload_n 1, 1) := by decide +kernel
theorem dL_law_412 : decode cL_law 412 = .ok (.aload_n 0, 1) := by decide +kernel
theorem dL_law_413 : decode cL_law 413 = .ok (.iload_n 3, 1) := by decide +kernel
theorem dL_law_414 : decode cL_law 414 = .ok (.iconst 1, 1) := by decide +kernel
theorem dL_law_415 : decode cL_law 415 = .ok (.iadd, 1) := by decide +kernel
theorem dL_law_416 : decode cL_law 416 = .ok (.iaload, 1) := by decide +kernel
theorem dL_law_417 : decode cL_law 417 = .ok (.invokevirtual 37, 3) := by decide +kernel
theorem dL_law_420 : decode cL_law 420 = .ok (.aload_n 2, 1) := by decide +kernel
theorem dL_law_421 : decode cL_law 421 = .ok (.aload_n 0, 1) := by decide +kernel
theorem dL_law_422 : decode cL_law 422 = .ok (.iload_n 3, 1) := by decide +kernel
theorem dL_law_423 : decode cL_law 423 = .ok (.iconst 1, 1) := by decide +kernel
theorem dL_law_424 : decode cL_law 424 = .ok (.iadd, 1) := by decide +kernel
theorem dL_law_425 : decode cL_law 425 = .ok (.iaload, 1) := by decide +kernel
theorem dL_law_426 : decode cL_law 426 = .ok (.invokevirtual 40, 3) := by decide +kernel
theorem dL_law_429 : decode cL_law 429 = .ok (.if_icmp .eq 786, 3) := by decide +kernel
theorem dL_law_432 : decode cL_law 432 = .ok (.iconst 0, 1) := by decide +kernel
theorem dL_law_433 : decode cL_law 433 = .ok (.ireturn, 1) := by decide +kernel
theorem dL_law_434 : decode cL_law 434 = .ok (.aload_n 1, 1) := by decide +kernel
theorem dL_law_435 : decode cL_law 435 = .ok (.aload_n 0, 1) := by decide +kernel
theorem dL_law_436 : decode cL_law 436 = .ok (.iload_n 3, 1) := by decide +kernel
theorem dL_law_437 : decode cL_law 437 = .ok (.iconst 1, 1) := by decide +kernel
theorem dL_law_438 : decode cL_law 438 = .ok (.iadd, 1) := by decide +kernel
theorem dL_law_439 : decode cL_law 439 = .ok (.iaload, 1) := by decide +kernel
theorem dL_law_440 : decode cL_law 440 = .ok (.aload_n 0, 1) := by decide +kernel
theorem dL_law_441 : decode cL_law 441 = .ok (.iload_n 3, 1) := by decide +kernel
theorem dL_law_442 : decode cL_law 442 = .ok (.iconst 2, 1) := by decide +kernel
theorem dL_law_443 : decode cL_law 443 = .ok (.iadd, 1) := by decide +kernel
theorem dL_law_444 : decode cL_law 444 = .ok (.iaload, 1) := by decide +kernel
theorem dL_law_445 : decode cL_law 445 = .ok (.invokevirtual 41, 3) := by decide +kernel
theorem dL_law_448 : decode cL_law 448 = .ok (.aload_n 2, 1) := by decide +kernel
theorem dL_law_449 : decode cL_law 449 = .ok (.aload_n 0, 1) := by decide +kernel
theorem dL_law_450 : decode cL_law 450 = .ok (.iload_n 3, 1) := by decide +kernel
theorem dL_law_451 : decode cL_law 451 = .ok (.iconst 1, 1) := by decide +kernel
theorem dL_law_452 : decode cL_law 452 = .ok (.iadd, 1) := by decide +kernel
theorem dL_law_453 : decode cL_law 453 = .ok (.iaload, 1) := by decide +kernel
theorem dL_law_454 : decode cL_law 454 = .ok (.aload_n 0, 1) := by decide +kernel
theorem dL_law_455 : decode cL_law 455 = .ok (.iload_n 3, 1) := by decide +kernel
theorem dL_law_456 : decode cL_law 456 = .ok (.iconst 2, 1) := by decide +kernel
theorem dL_law_457 : decode cL_law 457 = .ok (.iadd, 1) := by decide +kernel
theorem dL_law_458 : decode cL_law 458 = .ok (.iaload, 1) := by decide +kernel
theorem dL_law_459 : decode cL_law 459 = .ok (.invokevirtual 44, 3) := by decide +kernel
theorem dL_law_462 : decode cL_law 462 = .ok (.if_icmp .eq 753, 3) := by decide +kernel
theorem dL_law_465 : decode cL_law 465 = .ok (.iconst 0, 1) := by decide +kernel
theorem dL_law_466 : decode cL_law 466 = .ok (.ireturn, 1) := by decide +kernel
theorem dL_law_467 : decode cL_law 467 = .ok (.aload_n 1, 1) := by decide +kernel
theorem dL_law_468 : decode cL_law 468 = .ok (.aload_n 0, 1) := by decide +kernel
theorem dL_law_469 : decode cL_law 469 = .ok (.iload_n 3, 1) := by decide +kernel
theorem dL_law_470 : decode cL_law 470 = .ok (.iconst 1, 1) := by decide +kernel
theorem dL_law_471 : decode cL_law 471 = .ok (.iadd, 1) := by decide +kernel
theorem dL_law_472 : decode cL_law 472 = .ok (.iaload, 1) := by decide +kernel
theorem dL_law_473 : decode cL_law 473 = .ok (.aload_n 0, 1) := by decide +kernel
theorem dL_law_474 : decode cL_law 474 = .ok (.iload_n 3, 1) := by decide +kernel
theorem dL_law_475 : decode cL_law 475 = .ok (.iconst 2, 1) := by decide +kernel
theorem dL_law_476 : decode cL_law 476 = .ok (.iadd, 1) := by decide +kernel
theorem dL_law_477 : decode cL_law 477 = .ok (.iaload, 1) := by decide +kernel
theorem dL_law_478 : decode cL_law 478 = .ok (.aload_n 0, 1) := by decide +kernel
theorem dL_law_479 : decode cL_law 479 = .ok (.iload_n 3, 1) := by decide +kernel
theorem dL_law_480 : decode cL_law 480 = .ok (.iconst 3, 1) := by decide +kernel
theorem dL_law_481 : decode cL_law 481 = .ok (.iadd, 1) := by decide +kernel
theorem dL_law_482 : decode cL_law 482 = .ok (.iaload, 1) := by decide +kernel
theorem dL_law_483 : decode cL_law 483 = .ok (.invokevirtual 45, 3) := by decide +kernel
theorem dL_law_486 : decode cL_law 486 = .ok (.aload_n 2, 1) := by decide +kernel
theorem dL_law_487 : decode cL_law 487 = .ok (.aload_n 0, 1) := by decide +kernel
theorem dL_law_488 : decode cL_law 488 = .ok (.iload_n 3, 1) := by decide +kernel
theorem dL_law_489 : decode cL_law 489 = .ok (.iconst 1, 1) := by decide +kernel
theorem dL_law_490 : decode cL_law 490 = .ok (.iadd, 1) := by decide +kernel
theorem dL_law_491 : decode cL_law 491 = .ok (.iaload, 1) := by decide +kernel
theorem dL_law_492 : decode cL_law 492 = .ok (.aload_n 0, 1) := by decide +kernel
theorem dL_law_493 : decode cL_law 493 = .ok (.iload_n 3, 1) := by decide +kernel
theorem dL_law_494 : decode cL_law 494 = .ok (.iconst 2, 1) := by decide +kernel
theorem dL_law_495 : decode cL_law 495 = .ok (.iadd, 1) := by decide +kernel
theorem dL_law_496 : decode cL_law 496 = .ok (.iaload, 1) := by decide +kernel
theorem dL_law_497 : decode cL_law 497 = .ok (.aload_n 0, 1) := by decide +kernel
theorem dL_law_498 : decode cL_law 498 = .ok (.iload_n 3, 1) := by decide +kernel
theorem dL_law_499 : decode cL_law 499 = .ok (.iconst 3, 1) := by decide +kernel
theorem dL_law_500 : decode cL_law 500 = .ok (.iadd, 1) := by decide +kernel
theorem dL_law_501 : decode cL_law 501 = .ok (.iaload, 1) := by decide +kernel
theorem dL_law_502 : decode cL_law 502 = .ok (.invokevirtual 48, 3) := by decide +kernel
theorem dL_law_505 : decode cL_law 505 = .ok (.if_icmp .eq 710, 3) := by decide +kernel
theorem dL_law_508 : decode cL_law 508 = .ok (.iconst 0, 1) := by decide +kernel
theorem dL_law_509 : decode cL_law 509 = .ok (.ireturn, 1) := by decide +kernel
theorem dL_law_510 : decode cL_law 510 = .ok (.aload_n 1, 1) := by decide +kernel
theorem dL_law_511 : decode cL_law 511 = .ok (.aload_n 0, 1) := by decide +kernel
theorem dL_law_512 : decode cL_law 512 = .ok (.iload_n 3, 1) := by decide +kernel
theorem dL_law_513 : decode cL_law 513 = .ok (.iconst 1, 1) := by decide +kernel
theorem dL_law_514 : decode cL_law 514 = .ok (.iadd, 1) := by decide +kernel
theorem dL_law_515 : decode cL_law 515 = .ok (.iaload, 1) := by decide +kernel
theorem dL_law_516 : decode cL_law 516 = .ok (.invokevirtual 49, 3) := by decide +kernel
theorem dL_law_519 : decode cL_law 519 = .ok (.aload_n 2, 1) := by decide +kernel
theorem dL_law_520 : decode cL_law 520 = .ok (.aload_n 0, 1) := by decide +kernel
theorem dL_law_521 : decode cL_law 521 = .ok (.iload_n 3, 1) := by decide +kernel
theorem dL_law_522 : decode cL_law 522 = .ok (.iconst 1, 1) := by decide +kernel
theorem dL_law_523 : decode cL_law 523 = .ok (.iadd, 1) := by decide +kernel
theorem dL_law_524 : decode cL_law 524 = .ok (.iaload, 1) := by decide +kernel
theorem dL_law_525 : decode cL_law 525 = .ok (.invokevirtual 52, 3) := by decide +kernel
theorem dL_law_528 : decode cL_law 528 = .ok (.if_icmp .eq 687, 3) := by decide +kernel
theorem dL_law_531 : decode cL_law 531 = .ok (.iconst 0, 1) := by decide +kernel
theorem dL_law_532 : decode cL_law 532 = .ok (.ireturn, 1) := by decide +kernel
theorem dL_law_533 : decode cL_law 533 = .ok (.aload_n 1, 1) := by decide +kernel
theorem dL_law_534 : decode cL_law 534 = .ok (.aload_n 0, 1) := by decide +kernel
theorem dL_law_535 : decode cL_law 535 = .ok (.iload_n 3, 1) := by decide +kernel
theorem dL_law_536 : decode cL_law 536 = .ok (.iconst 1, 1) := by decide +kernel
theorem dL_law_537 : decode cL_law 537 = .ok (.iadd, 1) := by decide +kernel
theorem dL_law_538 : decode cL_law 538 = .ok (.iaload, 1) := by decide +kernel
theorem dL_law_539 : decode cL_law 539 = .ok (.invokevirtual 53, 3) := by decide +kernel
theorem dL_law_542 : decode cL_law 542 = .ok (.aload_n 2, 1) := by decide +kernel
theorem dL_law_543 : decode cL_law 543 = .ok (.aload_n 0, 1) := by decide +kernel
theorem dL_law_544 : decode cL_law 544 = .ok (.iload_n 3, 1) := by decide +kernel
theorem dL_law_545 : decode cL_law 545 = .ok (.iconst 1, 1) := by decide +kernel
theorem dL_law_546 : decode cL_law 546 = .ok (.iadd, 1) := by decide +kernel
theorem dL_law_547 : decode cL_law 547 = .ok (.iaload, 1) := by decide +kernel
theorem dL_law_548 : decode cL_law 548 = .ok (.invokevirtual 56, 3) := by decide +kernel
theorem dL_law_551 : decode cL_law 551 = .ok (.if_icmp .eq 664, 3) := by decide +kernel
theorem dL_law_554 : decode cL_law 554 = .ok (.iconst 0, 1) := by decide +kernel
theorem dL_law_555 : decode cL_law 555 = .ok (.ireturn, 1) := by decide +kernel
theorem dL_law_556 : decode cL_law 556 = .ok (.aload_n 1, 1) := by decide +kernel
theorem dL_law_557 : decode cL_law 557 = .ok (.aload_n 0, 1) := by decide +kernel
theorem dL_law_558 : decode cL_law 558 = .ok (.iload_n 3, 1) := by decide +kernel
theorem dL_law_559 : decode cL_law 559 = .ok (.iconst 1, 1) := by decide +kernel
theorem dL_law_560 : decode cL_law 560 = .ok (.iadd, 1) := by decide +kernel
theorem dL_law_561 : decode cL_law 561 = .ok (.iaload, 1) := by decide +kernel
theorem dL_law_562 : decode cL_law 562 = .ok (.aload_n 0, 1) := by decide +kernel
theorem dL_law_563 : decode cL_law 563 = .ok (.iload_n 3, 1) := by decide +kernel
theorem dL_law_564 : decode cL_law 564 = .ok (.iconst 2, 1) := by decide +kernel
theorem dL_law_565 : decode cL_law 565 = .ok (.iadd, 1) := by decide +kernel
theorem dL_law_566 : decode cL_law 566 = .ok (.iaload, 1) := by decide +kernel
theorem dL_law_567 : decode cL_law 567 = .ok (.invokevirtual 57, 3) := by decide +kernel
theorem dL_law_570 : decode cL_law 570 = .ok (.aload_n 2, 1) := by decide +kernel
theorem dL_law_571 : decode cL_law 571 = .ok (.aload_n 0, 1) := by decide +kernel
theorem dL_law_572 : decode cL_law 572 = .ok (.iload_n 3, 1) := by decide +kernel
theorem dL_law_573 : decode cL_law 573 = .ok (.iconst 1, 1) := by decide +kernel
theorem dL_law_574 : decode cL_law 574 = .ok (.iadd, 1) := by decide +kernel
theorem dL_law_575 : decode cL_law 575 = .ok (.iaload, 1) := by decide +kernel
theorem dL_law_576 : decode cL_law 576 = .ok (.aload_n 0, 1) := by decide +kernel
theorem dL_law_577 : decode cL_law 577 = .ok (.iload_n 3, 1) := by decide +kernel
theorem dL_law_578 : decode cL_law 578 = .ok (.iconst 2, 1) := by decide +kernel
theorem dL_law_579 : decode cL_law 579 = .ok (.iadd, 1) := by decide +kernel
theorem dL_law_580 : decode cL_law 580 = .ok (.iaload, 1) := by decide +kernel
theorem dL_law_581 : decode cL_law 581 = .ok (.invokevirtual 60, 3) := by decide +kernel
theorem dL_law_584 : decode cL_law 584 = .ok (.if_icmp .eq 631, 3) := by decide +kernel
theorem dL_law_587 : decode cL_law 587 = .ok (.iconst 0, 1) := by decide +kernel
theorem dL_law_588 : decode cL_law 588 = .ok (.ireturn, 1) := by decide +kernel
theorem dL_law_589 : decode cL_law 589 = .ok (.aload_n 1, 1) := by decide +kernel
theorem dL_law_590 : decode cL_law 590 = .ok (.aload_n 0, 1) := by decide +kernel
theorem dL_law_591 : decode cL_law 591 = .ok (.iload_n 3, 1) := by decide +kernel
theorem dL_law_592 : decode cL_law 592 = .ok (.iconst 1, 1) := by decide +kernel
theorem dL_law_593 : decode cL_law 593 = .ok (.iadd, 1) := by decide +kernel
theorem dL_law_594 : decode cL_law 594 = .ok (.iaload, 1) := by decide +kernel
theorem dL_law_595 : decode cL_law 595 = .ok (.aload_n 0, 1) := by decide +kernel
theorem dL_law_596 : decode cL_law 596 = .ok (.iload_n 3, 1) := by decide +kernel
theorem dL_law_597 : decode cL_law 597 = .ok (.iconst 2, 1) := by decide +kernel
theorem dL_law_598 : decode cL_law 598 = .ok (.iadd, 1) := by decide +kernel
theorem dL_law_599 : decode cL_law 599 = .ok (.iaload, 1) := by decide +kernel
theorem dL_law_600 : decode cL_law 600 = .ok (.invokevirtual 61, 3) := by decide +kernel
theorem dL_law_603 : decode cL_law 603 = .ok (.aload_n 2, 1) := by decide +kernel
theorem dL_law_604 : decode cL_law 604 = .ok (.aload_n 0, 1) := by decide +kernel
theorem dL_law_605 : decode cL_law 605 = .ok (.iload_n 3, 1) := by decide +kernel
theorem dL_law_606 : decode cL_law 606 = .ok (.iconst 1, 1) := by decide +kernel
theorem dL_law_607 : decode cL_law 607 = .ok (.iadd, 1) := by decide +kernel
theorem dL_law_608 : decode cL_law 608 = .ok (.iaload, 1) := by decide +kernel
theorem dL_law_609 : decode cL_law 609 = .ok (.aload_n 0, 1) := by decide +kernel
theorem dL_law_610 : decode cL_law 610 = .ok (.iload_n 3, 1) := by decide +kernel
theorem dL_law_611 : decode cL_law 611 = .ok (.iconst 2, 1) := by decide +kernel
theorem dL_law_612 : decode cL_law 612 = .ok (.iadd, 1) := by decide +kernel
theorem dL_law_613 : decode cL_law 613 = .ok (.iaload, 1) := by decide +kernel
theorem dL_law_614 : decode cL_law 614 = .ok (.invokevirtual 64, 3) := by decide +kernel
theorem dL_law_617 : decode cL_law 617 = .ok (.if_icmp .eq 598, 3) := by decide +kernel
theorem dL_law_620 : decode cL_law 620 = .ok (.iconst 0, 1) := by decide +kernel
theorem dL_law_621 : decode cL_law 621 = .ok (.ireturn, 1) := by decide +kernel
theorem dL_law_622 : decode cL_law 622 = .ok (.aload_n 1, 1) := by decide +kernel
theorem dL_law_623 : decode cL_law 623 = .ok (.aload_n 0, 1) := by decide +kernel
theorem dL_law_624 : decode cL_law 624 = .ok (.iload_n 3, 1) := by decide +kernel
theorem dL_law_625 : decode cL_law 625 = .ok (.iconst 1, 1) := by decide +kernel
theorem dL_law_626 : decode cL_law 626 = .ok (.iadd, 1) := by decide +kernel
theorem dL_law_627 : decode cL_law 627 = .ok (.iaload, 1) := by decide +kernel
theorem dL_law_628 : decode cL_law 628 = .ok (.invokevirtual 65, 3) := by decide +kernel
theorem dL_law_631 : decode cL_law 631 = .ok (.aload_n 2, 1) := by decide +kernel
theorem dL_law_632 : decode cL_law 632 = .ok (.aload_n 0, 1) := by decide +kernel
theorem dL_law_633 : decode cL_law 633 = .ok (.iload_n 3, 1) := by decide +kernel
theorem dL_law_634 : decode cL_law 634 = .ok (.iconst 1, 1) := by decide +kernel
theorem dL_law_635 : decode cL_law 635 = .ok (.iadd, 1) := by decide +kernel
theorem dL_law_636 : decode cL_law 636 = .ok (.iaload, 1) := by decide +kernel
theorem dL_law_637 : decode cL_law 637 = .ok (.invokevirtual 68, 3) := by decide +kernel
theorem dL_law_640 : decode cL_law 640 = .ok (.if_icmp .eq 575, 3) := by decide +kernel
theorem dL_law_643 : decode cL_law 643 = .ok (.iconst 0, 1) := by decide +kernel
theorem dL_law_644 : decode cL_law 644 = .ok (.ireturn, 1) := by decide +kernel
theorem dL_law_645 : decode cL_law 645 = .ok (.aload_n 1, 1) := by decide +kernel
theorem dL_law_646 : decode cL_law 646 = .ok (.aload_n 0, 1) := by decide +kernel
theorem dL_law_647 : decode cL_law 647 = .ok (.iload_n 3, 1) := by decide +kernel
theorem dL_law_648 : decode cL_law 648 = .ok (.iconst 1, 1) := by decide +kernel
theorem dL_law_649 : decode cL_law 649 = .ok (.iadd, 1) := by decide +kernel
theorem dL_law_650 : decode cL_law 650 = .ok (.iaload, 1) := by decide +kernel
theorem dL_law_651 : decode cL_law 651 = .ok (.invokevirtual 69, 3) := by decide +kernel
theorem dL_law_654 : decode cL_law 654 = .ok (.aload_n 2, 1) := by decide +kernel
theorem dL_law_655 : decode cL_law 655 = .ok (.aload_n 0, 1) := by decide +kernel
theorem dL_law_656 : decode cL_law 656 = .ok (.iload_n 3, 1) := by decide +kernel
theorem dL_law_657 : decode cL_law 657 = .ok (.iconst 1, 1) := by decide +kernel
theorem dL_law_658 : decode cL_law 658 = .ok (.iadd, 1) := by decide +kernel
theorem dL_law_659 : decode cL_law 659 = .ok (.iaload, 1) := by decide +kernel
theorem dL_law_660 : decode cL_law 660 = .ok (.invokevirtual 72, 3) := by decide +kernel
theorem dL_law_663 : decode cL_law 663 = .ok (.if_icmp .eq 552, 3) := by decide +kernel
theorem dL_law_666 : decode cL_law 666 = .ok (.iconst 0, 1) := by decide +kernel
theorem dL_law_667 : decode cL_law 667 = .ok (.ireturn, 1) := by decide +kernel
theorem dL_law_668 : decode cL_law 668 = .ok (.aload_n 1, 1) := by decide +kernel
theorem dL_law_669 : decode cL_law 669 = .ok (.invokevirtual 73, 3) := by decide +kernel
theorem dL_law_672 : decode cL_law 672 = .ok (.aload_n 2, 1) := by decide +kernel
theorem dL_law_673 : decode cL_law 673 = .ok (.invokevirtual 77, 3) := by decide +kernel
theorem dL_law_676 : decode cL_law 676 = .ok (.if_icmp .eq 539, 3) := by decide +kernel
theorem dL_law_679 : decode cL_law 679 = .ok (.iconst 0, 1) := by decide +kernel
theorem dL_law_680 : decode cL_law 680 = .ok (.ireturn, 1) := by decide +kernel
theorem dL_law_681 : decode cL_law 681 = .ok (.aload_n 1, 1) := by decide +kernel
theorem dL_law_682 : decode cL_law 682 = .ok (.aload_n 0, 1) := by decide +kernel
theorem dL_law_683 : decode cL_law 683 = .ok (.iload_n 3, 1) := by decide +kernel
theorem dL_law_684 : decode cL_law 684 = .ok (.iconst 1, 1) := by decide +kernel
theorem dL_law_685 : decode cL_law 685 = .ok (.iadd, 1) := by decide +kernel
theorem dL_law_686 : decode cL_law 686 = .ok (.iaload, 1) := by decide +kernel
theorem dL_law_687 : decode cL_law 687 = .ok (.aload_n 0, 1) := by decide +kernel
theorem dL_law_688 : decode cL_law 688 = .ok (.iload_n 3, 1) := by decide +kernel
theorem dL_law_689 : decode cL_law 689 = .ok (.iconst 2, 1) := by decide +kernel
theorem dL_law_690 : decode cL_law 690 = .ok (.iadd, 1) := by decide +kernel
theorem dL_law_691 : decode cL_law 691 = .ok (.iaload, 1) := by decide +kernel
theorem dL_law_692 : decode cL_law 692 = .ok (.invokevirtual 78, 3) := by decide +kernel
theorem dL_law_695 : decode cL_law 695 = .ok (.aload_n 2, 1) := by decide +kernel
theorem dL_law_696 : decode cL_law 696 = .ok (.aload_n 0, 1) := by decide +kernel
theorem dL_law_697 : decode cL_law 697 = .ok (.iload_n 3, 1) := by decide +kernel
theorem dL_law_698 : decode cL_law 698 = .ok (.iconst 1, 1) := by decide +kernel
theorem dL_law_699 : decode cL_law 699 = .ok (.iadd, 1) := by decide +kernel
theorem dL_law_700 : decode cL_law 700 = .ok (.iaload, 1) := by decide +kernel
theorem dL_law_701 : decode cL_law 701 = .ok (.aload_n 0, 1) := by decide +kernel
theorem dL_law_702 : decode cL_law 702 = .ok (.iload_n 3, 1) := by decide +kernel
theorem dL_law_703 : decode cL_law 703 = .ok (.iconst 2, 1) := by decide +kernel
theorem dL_law_704 : decode cL_law 704 = .ok (.iadd, 1) := by decide +kernel
theorem dL_law_705 : decode cL_law 705 = .ok (.iaload, 1) := by decide +kernel
theorem dL_law_706 : decode cL_law 706 = .ok (.invokevirtual 81, 3) := by decide +kernel
theorem dL_law_709 : decode cL_law 709 = .ok (.if_icmp .eq 506, 3) := by decide +kernel
theorem dL_law_712 : decode cL_law 712 = .ok (.iconst 0, 1) := by decide +kernel
theorem dL_law_713 : decode cL_law 713 = .ok (.ireturn, 1) := by decide +kernel
theorem dL_law_714 : decode cL_law 714 = .ok (.aload_n 1, 1) := by decide +kernel
theorem dL_law_715 : decode cL_law 715 = .ok (.aload_n 0, 1) := by decide +kernel
theorem dL_law_716 : decode cL_law 716 = .ok (.iload_n 3, 1) := by decide +kernel
theorem dL_law_717 : decode cL_law 717 = .ok (.iconst 1, 1) := by decide +kernel
theorem dL_law_718 : decode cL_law 718 = .ok (.iadd, 1) := by decide +kernel
theorem dL_law_719 : decode cL_law 719 = .ok (.iaload, 1) := by decide +kernel
theorem dL_law_720 : decode cL_law 720 = .ok (.invokevirtual 82, 3) := by decide +kernel
theorem dL_law_723 : decode cL_law 723 = .ok (.aload_n 2, 1) := by decide +kernel
theorem dL_law_724 : decode cL_law 724 = .ok (.aload_n 0, 1) := by decide +kernel
theorem dL_law_725 : decode cL_law 725 = .ok (.iload_n 3, 1) := by decide +kernel
theorem dL_law_726 : decode cL_law 726 = .ok (.iconst 1, 1) := by decide +kernel
theorem dL_law_727 : decode cL_law 727 = .ok (.iadd, 1) := by decide +kernel
theorem dL_law_728 : decode cL_law 728 = .ok (.iaload, 1) := by decide +kernel
theorem dL_law_729 : decode cL_law 729 = .ok (.invokevirtual 85, 3) := by decide +kernel
theorem dL_law_732 : decode cL_law 732 = .ok (.if_icmp .eq 483, 3) := by decide +kernel
theorem dL_law_735 : decode cL_law 735 = .ok (.iconst 0, 1) := by decide +kernel
theorem dL_law_736 : decode cL_law 736 = .ok (.ireturn, 1) := by decide +kernel
theorem dL_law_737 : decode cL_law 737 = .ok (.aload_n 1, 1) := by decide +kernel
theorem dL_law_738 : decode cL_law 738 = .ok (.aload_n 0, 1) := by decide +kernel
theorem dL_law_739 : decode cL_law 739 = .ok (.iload_n 3, 1) := by decide +kernel
theorem dL_law_740 : decode cL_law 740 = .ok (.iconst 1, 1) := by decide +kernel
theorem dL_law_741 : decode cL_law 741 = .ok (.iadd, 1) := by decide +kernel
theorem dL_law_742 : decode cL_law 742 = .ok (.iaload, 1) := by decide +kernel
theorem dL_law_743 : decode cL_law 743 = .ok (.invokevirtual 86, 3) := by decide +kernel
theorem dL_law_746 : decode cL_law 746 = .ok (.aload_n 2, 1) := by decide +kernel
theorem dL_law_747 : decode cL_law 747 = .ok (.aload_n 0, 1) := by decide +kernel
theorem dL_law_748 : decode cL_law 748 = .ok (.iload_n 3, 1) := by decide +kernel
theorem dL_law_749 : decode cL_law 749 = .ok (.iconst 1, 1) := by decide +kernel
theorem dL_law_750 : decode cL_law 750 = .ok (.iadd, 1) := by decide +kernel
theorem dL_law_751 : decode cL_law 751 = .ok (.iaload, 1) := by decide +kernel
theorem dL_law_752 : decode cL_law 752 = .ok (.invokevirtual 89, 3) := by decide +kernel
theorem dL_law_755 : decode cL_law 755 = .ok (.if_icmp .eq 460, 3) := by decide +kernel
theorem dL_law_758 : decode cL_law 758 = .ok (.iconst 0, 1) := by decide +kernel
theorem dL_law_759 : decode cL_law 759 = .ok (.ireturn, 1) := by decide +kernel
theorem dL_law_760 : decode cL_law 760 = .ok (.aload_n 1, 1) := by decide +kernel
theorem dL_law_761 : decode cL_law 761 = .ok (.aload_n 0, 1) := by decide +kernel
theorem dL_law_762 : decode cL_law 762 = .ok (.iload_n 3, 1) := by decide +kernel
theorem dL_law_763 : decode cL_law 763 = .ok (.iconst 1, 1) := by decide +kernel
theorem dL_law_764 : decode cL_law 764 = .ok (.iadd, 1) := by decide +kernel
theorem dL_law_765 : decode cL_law 765 = .ok (.iaload, 1) := by decide +kernel
theorem dL_law_766 : decode cL_law 766 = .ok (.invokevirtual 90, 3) := by decide +kernel
theorem dL_law_769 : decode cL_law 769 = .ok (.aload_n 2, 1) := by decide +kernel
theorem dL_law_770 : decode cL_law 770 = .ok (.aload_n 0, 1) := by decide +kernel
theorem dL_law_771 : decode cL_law 771 = .ok (.iload_n 3, 1) := by decide +kernel
theorem dL_law_772 : decode cL_law 772 = .ok (.iconst 1, 1) := by decide +kernel
theorem dL_law_773 : decode cL_law 773 = .ok (.iadd, 1) := by decide +kernel
theorem dL_law_774 : decode cL_law 774 = .ok (.iaload, 1) := by decide +kernel
theorem dL_law_775 : decode cL_law 775 = .ok (.invokevirtual 93, 3) := by decide +kernel
theorem dL_law_778 : decode cL_law 778 = .ok (.if_icmp .eq 437, 3) := by decide +kernel
theorem dL_law_781 : decode cL_law 781 = .ok (.iconst 0, 1) := by decide +kernel
theorem dL_law_782 : decode cL_law 782 = .ok (.ireturn, 1) := by decide +kernel
theorem dL_law_783 : decode cL_law 783 = .ok (.aload_n 1, 1) := by decide +kernel
theorem dL_law_784 : decode cL_law 784 = .ok (.invokevirtual 94, 3) := by decide +kernel
theorem dL_law_787 : decode cL_law 787 = .ok (.aload_n 2, 1) := by decide +kernel
theorem dL_law_788 : decode cL_law 788 = .ok (.invokevirtual 97, 3) := by decide +kernel
theorem dL_law_791 : decode cL_law 791 = .ok (.if_icmp .eq 424, 3) := by decide +kernel
theorem dL_law_794 : decode cL_law 794 = .ok (.iconst 0, 1) := by decide +kernel
theorem dL_law_795 : decode cL_law 795 = .ok (.ireturn, 1) := by decide +kernel
theorem dL_law_796 : decode cL_law 796 = .ok (.aload_n 1, 1) := by decide +kernel
theorem dL_law_797 : decode cL_law 797 = .ok (.aload_n 0, 1) := by decide +kernel
theorem dL_law_798 : decode cL_law 798 = .ok (.iload_n 3, 1) := by decide +kernel
theorem dL_law_799 : decode cL_law 799 = .ok (.iconst 1, 1) := by decide +kernel
theorem dL_law_800 : decode cL_law 800 = .ok (.iadd, 1) := by decide +kernel
theorem dL_law_801 : decode cL_law 801 = .ok (.iaload, 1) := by decide +kernel
theorem dL_law_802 : decode cL_law 802 = .ok (.invokevirtual 98, 3) := by decide +kernel
theorem dL_law_805 : decode cL_law 805 = .ok (.aload_n 2, 1) := by decide +kernel
theorem dL_law_806 : decode cL_law 806 = .ok (.aload_n 0, 1) := by decide +kernel
theorem dL_law_807 : decode cL_law 807 = .ok (.iload_n 3, 1) := by decide +kernel
theorem dL_law_808 : decode cL_law 808 = .ok (.iconst 1, 1) := by decide +kernel
theorem dL_law_809 : decode cL_law 809 = .ok (.iadd, 1) := by decide +kernel
theorem dL_law_810 : decode cL_law 810 = .ok (.iaload, 1) := by decide +kernel
theorem dL_law_811 : decode cL_law 811 = .ok (.invokevirtual 101, 3) := by decide +kernel
theorem dL_law_814 : decode cL_law 814 = .ok (.if_icmp .eq 401, 3) := by decide +kernel
theorem dL_law_817 : decode cL_law 817 = .ok (.iconst 0, 1) := by decide +kernel
theorem dL_law_818 : decode cL_law 818 = .ok (.ireturn, 1) := by decide +kernel
theorem dL_law_819 : decode cL_law 819 = .ok (.aload_n 1, 1) := by decide +kernel
theorem dL_law_820 : decode cL_law 820 = .ok (.aload_n 0, 1) := by decide +kernel
theorem dL_law_821 : decode cL_law 821 = .ok (.iload_n 3, 1) := by decide +kernel
theorem dL_law_822 : decode cL_law 822 = .ok (.iconst 1, 1) := by decide +kernel
theorem dL_law_823 : decode cL_law 823 = .ok (.iadd, 1) := by decide +kernel
theorem dL_law_824 : decode cL_law 824 = .ok (.iaload, 1) := by decide +kernel
theorem dL_law_825 : decode cL_law 825 = .ok (.invokevirtual 102, 3) := by decide +kernel
theorem dL_law_828 : decode cL_law 828 = .ok (.aload_n 2, 1) := by decide +kernel
theorem dL_law_829 : decode cL_law 829 = .ok (.aload_n 0, 1) := by decide +kernel
theorem dL_law_830 : decode cL_law 830 = .ok (.iload_n 3, 1) := by decide +kernel
theorem dL_law_831 : decode cL_law 831 = .ok (.iconst 1, 1) := by decide +kernel
theorem dL_law_832 : decode cL_law 832 = .ok (.iadd, 1) := by decide +kernel
theorem dL_law_833 : decode cL_law 833 = .ok (.iaload, 1) := by decide +kernel
theorem dL_law_834 : decode cL_law 834 = .ok (.invokevirtual 105, 3) := by decide +kernel
theorem dL_law_837 : decode cL_law 837 = .ok (.if_icmp .eq 378, 3) := by decide +kernel
theorem dL_law_840 : decode cL_law 840 = .ok (.iconst 0, 1) := by decide +kernel
theorem dL_law_841 : decode cL_law 841 = .ok (.ireturn, 1) := by decide +kernel
theorem dL_law_842 : decode cL_law 842 = .ok (.aload_n 1, 1) := by decide +kernel
theorem dL_law_843 : decode cL_law 843 = .ok (.invokevirtual 106, 3) := by decide +kernel
theorem dL_law_846 : decode cL_law 846 = .ok (.aload_n 2, 1) := by decide +kernel
theorem dL_law_847 : decode cL_law 847 = .ok (.invokevirtual 109, 3) := by decide +kernel
theorem dL_law_850 : decode cL_law 850 = .ok (.if_icmp .eq 365, 3) := by decide +kernel
theorem dL_law_853 : decode cL_law 853 = .ok (.iconst 0, 1) := by decide +kernel
theorem dL_law_854 : decode cL_law 854 = .ok (.ireturn, 1) := by decide +kernel
theorem dL_law_855 : decode cL_law 855 = .ok (.aload_n 1, 1) := by decide +kernel
theorem dL_law_856 : decode cL_law 856 = .ok (.aload_n 0, 1) := by decide +kernel
theorem dL_law_857 : decode cL_law 857 = .ok (.iload_n 3, 1) := by decide +kernel
theorem dL_law_858 : decode cL_law 858 = .ok (.iconst 1, 1) := by decide +kernel
theorem dL_law_859 : decode cL_law 859 = .ok (.iadd, 1) := by decide +kernel
theorem dL_law_860 : decode cL_law 860 = .ok (.iaload, 1) := by decide +kernel
theorem dL_law_861 : decode cL_law 861 = .ok (.invokevirtual 110, 3) := by decide +kernel
theorem dL_law_864 : decode cL_law 864 = .ok (.aload_n 2, 1) := by decide +kernel
theorem dL_law_865 : decode cL_law 865 = .ok (.aload_n 0, 1) := by decide +kernel
theorem dL_law_866 : decode cL_law 866 = .ok (.iload_n 3, 1) := by decide +kernel
theorem dL_law_867 : decode cL_law 867 = .ok (.iconst 1, 1) := by decide +kernel
theorem dL_law_868 : decode cL_law 868 = .ok (.iadd, 1) := by decide +kernel
theorem dL_law_869 : decode cL_law 869 = .ok (.iaload, 1) := by decide +kernel
theorem dL_law_870 : decode cL_law 870 = .ok (.invokevirtual 113, 3) := by decide +kernel
theorem dL_law_873 : decode cL_law 873 = .ok (.if_icmp .eq 342, 3) := by decide +kernel
theorem dL_law_876 : decode cL_law 876 = .ok (.iconst 0, 1) := by decide +kernel
theorem dL_law_877 : decode cL_law 877 = .ok (.ireturn, 1) := by decide +kernel
theorem dL_law_878 : decode cL_law 878 = .ok (.aload_n 1, 1) := by decide +kernel
theorem dL_law_879 : decode cL_law 879 = .ok (.invokevirtual 114, 3) := by decide +kernel
theorem dL_law_882 : decode cL_law 882 = .ok (.aload_n 2, 1) := by decide +kernel
theorem dL_law_883 : decode cL_law 883 = .ok (.invokevirtual 117, 3) := by decide +kernel
theorem dL_law_886 : decode cL_law 886 = .ok (.if_icmp .eq 329, 3) := by decide +kernel
theorem dL_law_889 : decode cL_law 889 = .ok (.iconst 0, 1) := by decide +kernel
theorem dL_law_890 : decode cL_law 890 = .ok (.ireturn, 1) := by decide +kernel
theorem dL_law_891 : decode cL_law 891 = .ok (.aload_n 1, 1) := by decide +kernel
theorem dL_law_892 : decode cL_law 892 = .ok (.invokevirtual 118, 3) := by decide +kernel
theorem dL_law_895 : decode cL_law 895 = .ok (.aload_n 2, 1) := by decide +kernel
theorem dL_law_896 : decode cL_law 896 = .ok (.invokevirtual 121, 3) := by decide +kernel
theorem dL_law_899 : decode cL_law 899 = .ok (.if_icmp .eq 316, 3) := by decide +kernel
theorem dL_law_902 : decode cL_law 902 = .ok (.iconst 0, 1) := by decide +kernel
theorem dL_law_903 : decode cL_law 903 = .ok (.ireturn, 1) := by decide +kernel
theorem dL_law_904 : decode cL_law 904 = .ok (.aload_n 1, 1) := by decide +kernel
theorem dL_law_905 : decode cL_law 905 = .ok (.invokevirtual 122, 3) := by decide +kernel
theorem dL_law_908 : decode cL_law 908 = .ok (.aload_n 2, 1) := by decide +kernel
theorem dL_law_909 : decode cL_law 909 = .ok (.invokevirtual 125, 3) := by decide +kernel
theorem dL_law_912 : decode cL_law 912 = .ok (.if_icmp .eq 303, 3) := by decide +kernel
theorem dL_law_915 : decode cL_law 915 = .ok (.iconst 0, 1) := by decide +kernel
theorem dL_law_916 : decode cL_law 916 = .ok (.ireturn, 1) := by decide +kernel
theorem dL_law_917 : decode cL_law 917 = .ok (.aload_n 1, 1) := by decide +kernel
theorem dL_law_918 : decode cL_law 918 = .ok (.aload_n 0, 1) := by decide +kernel
theorem dL_law_919 : decode cL_law 919 = .ok (.iload_n 3, 1) := by decide +kernel
theorem dL_law_920 : decode cL_law 920 = .ok (.iconst 1, 1) := by decide +kernel
theorem dL_law_921 : decode cL_law 921 = .ok (.iadd, 1) := by decide +kernel
theorem dL_law_922 : decode cL_law 922 = .ok (.iaload, 1) := by decide +kernel
theorem dL_law_923 : decode cL_law 923 = .ok (.aload_n 0, 1) := by decide +kernel
theorem dL_law_924 : decode cL_law 924 = .ok (.iload_n 3, 1) := by decide +kernel
theorem dL_law_925 : decode cL_law 925 = .ok (.iconst 2, 1) := by decide +kernel
theorem dL_law_926 : decode cL_law 926 = .ok (.iadd, 1) := by decide +kernel
theorem dL_law_927 : decode cL_law 927 = .ok (.iaload, 1) := by decide +kernel
theorem dL_law_928 : decode cL_law 928 = .ok (.invokevirtual 126, 3) := by decide +kernel
theorem dL_law_931 : decode cL_law 931 = .ok (.aload_n 2, 1) := by decide +kernel
theorem dL_law_932 : decode cL_law 932 = .ok (.aload_n 0, 1) := by decide +kernel
theorem dL_law_933 : decode cL_law 933 = .ok (.iload_n 3, 1) := by decide +kernel
theorem dL_law_934 : decode cL_law 934 = .ok (.iconst 1, 1) := by decide +kernel
theorem dL_law_935 : decode cL_law 935 = .ok (.iadd, 1) := by decide +kernel
theorem dL_law_936 : decode cL_law 936 = .ok (.iaload, 1) := by decide +kernel
theorem dL_law_937 : decode cL_law 937 = .ok (.aload_n 0, 1) := by decide +kernel
theorem dL_law_938 : decode cL_law 938 = .ok (.iload_n 3, 1) := by decide +kernel
theorem dL_law_939 : decode cL_law 939 = .ok (.iconst 2, 1) := by decide +kernel
theorem dL_law_940 : decode cL_law 940 = .ok (.iadd, 1) := by decide +kernel
theorem dL_law_941 : decode cL_law 941 = .ok (.iaload, 1) := by decide +kernel
theorem dL_law_942 : decode cL_law 942 = .ok (.invokevirtual 129, 3) := by decide +kernel
theorem dL_law_945 : decode cL_law 945 = .ok (.if_icmp .eq 270, 3) := by decide +kernel
theorem dL_law_948 : decode cL_law 948 = .ok (.iconst 0, 1) := by decide +kernel
theorem dL_law_949 : decode cL_law 949 = .ok (.ireturn, 1) := by decide +kernel
theorem dL_law_950 : decode cL_law 950 = .ok (.aload_n 1, 1) := by decide +kernel
theorem dL_law_951 : decode cL_law 951 = .ok (.aload_n 0, 1) := by decide +kernel
theorem dL_law_952 : decode cL_law 952 = .ok (.iload_n 3, 1) := by decide +kernel
theorem dL_law_953 : decode cL_law 953 = .ok (.iconst 1, 1) := by decide +kernel
theorem dL_law_954 : decode cL_law 954 = .ok (.iadd, 1) := by decide +kernel
theorem dL_law_955 : decode cL_law 955 = .ok (.iaload, 1) := by decide +kernel
theorem dL_law_956 : decode cL_law 956 = .ok (.aload_n 0, 1) := by decide +kernel
theorem dL_law_957 : decode cL_law 957 = .ok (.iload_n 3, 1) := by decide +kernel
theorem dL_law_958 : decode cL_law 958 = .ok (.iconst 2, 1) := by decide +kernel
theorem dL_law_959 : decode cL_law 959 = .ok (.iadd, 1) := by decide +kernel
theorem dL_law_960 : decode cL_law 960 = .ok (.iaload, 1) := by decide +kernel
theorem dL_law_961 : decode cL_law 961 = .ok (.invokevirtual 130, 3) := by decide +kernel
theorem dL_law_964 : decode cL_law 964 = .ok (.aload_n 2, 1) := by decide +kernel
theorem dL_law_965 : decode cL_law 965 = .ok (.aload_n 0, 1) := by decide +kernel
theorem dL_law_966 : decode cL_law 966 = .ok (.iload_n 3, 1) := by decide +kernel
theorem dL_law_967 : decode cL_law 967 = .ok (.iconst 1, 1) := by decide +kernel
theorem dL_law_968 : decode cL_law 968 = .ok (.iadd, 1) := by decide +kernel
theorem dL_law_969 : decode cL_law 969 = .ok (.iaload, 1) := by decide +kernel
theorem dL_law_970 : decode cL_law 970 = .ok (.aload_n 0, 1) := by decide +kernel
theorem dL_law_971 : decode cL_law 971 = .ok (.iload_n 3, 1) := by decide +kernel
theorem dL_law_972 : decode cL_law 972 = .ok (.iconst 2, 1) := by decide +kernel
theorem dL_law_973 : decode cL_law 973 = .ok (.iadd, 1) := by decide +kernel
theorem dL_law_974 : decode cL_law 974 = .ok (.iaload, 1) := by decide +kernel
theorem dL_law_975 : decode cL_law 975 = .ok (.invokevirtual 133, 3) := by decide +kernel
theorem dL_law_978 : decode cL_law 978 = .ok (.if_icmp .eq 237, 3) := by decide +kernel
theorem dL_law_981 : decode cL_law 981 = .ok (.iconst 0, 1) := by decide +kernel
theorem dL_law_982 : decode cL_law 982 = .ok (.ireturn, 1) := by decide +kernel
theorem dL_law_983 : decode cL_law 983 = .ok (.aload_n 1, 1) := by decide +kernel
theorem dL_law_984 : decode cL_law 984 = .ok (.aload_n 0, 1) := by decide +kernel
theorem dL_law_985 : decode cL_law 985 = .ok (.iload_n 3, 1) := by decide +kernel
theorem dL_law_986 : decode cL_law 986 = .ok (.iconst 1, 1) := by decide +kernel
theorem dL_law_987 : decode cL_law 987 = .ok (.iadd, 1) := by decide +kernel
theorem dL_law_988 : decode cL_law 988 = .ok (.iaload, 1) := by decide +kernel
theorem dL_law_989 : decode cL_law 989 = .ok (.invokevirtual 134, 3) := by decide +kernel
theorem dL_law_992 : decode cL_law 992 = .ok (.aload_n 2, 1) := by decide +kernel
theorem dL_law_993 : decode cL_law 993 = .ok (.aload_n 0, 1) := by decide +kernel
theorem dL_law_994 : decode cL_law 994 = .ok (.iload_n 3, 1) := by decide +kernel
theorem dL_law_995 : decode cL_law 995 = .ok (.iconst 1, 1) := by decide +kernel
theorem dL_law_996 : decode cL_law 996 = .ok (.iadd, 1) := by decide +kernel
theorem dL_law_997 : decode cL_law 997 = .ok (.iaload, 1) := by decide +kernel
theorem dL_law_998 : decode cL_law 998 = .ok (.invokevirtual 137, 3) := by decide +kernel
theorem dL_law_1001 : decode cL_law 1001 = .ok (.if_icmp .eq 214, 3) := by decide +kernel
theorem dL_law_1004 : decode cL_law 1004 = .ok (.iconst 0, 1) := by decide +kernel
theorem dL_law_1005 : decode cL_law 1005 = .ok (.ireturn, 1) := by decide +kernel
theorem dL_law_1006 : decode cL_law 1006 = .ok (.aload_n 1, 1) := by decide +kernel
theorem dL_law_1007 : decode cL_law 1007 = .ok (.aload_n 0, 1) := by decide +kernel
theorem dL_law_1008 : decode cL_law 1008 = .ok (.iload_n 3, 1) := by decide +kernel
theorem dL_law_1009 : decode cL_law 1009 = .ok (.iconst 1, 1) := by decide +kernel
theorem dL_law_1010 : decode cL_law 1010 = .ok (.iadd, 1) := by decide +kernel
theorem dL_law_1011 : decode cL_law 1011 = .ok (.iaload, 1) := by decide +kernel
theorem dL_law_1012 : decode cL_law 1012 = .ok (.invokevirtual 138, 3) := by decide +kernel
theorem dL_law_1015 : decode cL_law 1015 = .ok (.aload_n 2, 1) := by decide +kernel
theorem dL_law_1016 : decode cL_law 1016 = .ok (.aload_n 0, 1) := by decide +kernel
theorem dL_law_1017 : decode cL_law 1017 = .ok (.iload_n 3, 1) := by decide +kernel
theorem dL_law_1018 : decode cL_law 1018 = .ok (.iconst 1, 1) := by decide +kernel
theorem dL_law_1019 : decode cL_law 1019 = .ok (.iadd, 1) := by decide +kernel
theorem dL_law_1020 : decode cL_law 1020 = .ok (.iaload, 1) := by decide +kernel
theorem dL_law_1021 : decode cL_law 1021 = .ok (.invokevirtual 141, 3) := by decide +kernel
theorem dL_law_1024 : decode cL_law 1024 = .ok (.if_icmp .eq 191, 3) := by decide +kernel
theorem dL_law_1027 : decode cL_law 1027 = .ok (.iconst 0, 1) := by decide +kernel
theorem dL_law_1028 : decode cL_law 1028 = .ok (.ireturn, 1) := by decide +kernel
theorem dL_law_1029 : decode cL_law 1029 = .ok (.aload_n 1, 1) := by decide +kernel
theorem dL_law_1030 : decode cL_law 1030 = .ok (.aload_n 0, 1) := by decide +kernel
theorem dL_law_1031 : decode cL_law 1031 = .ok (.iload_n 3, 1) := by decide +kernel
theorem dL_law_1032 : decode cL_law 1032 = .ok (.iconst 1, 1) := by decide +kernel
theorem dL_law_1033 : decode cL_law 1033 = .ok (.iadd, 1) := by decide +kernel
theorem dL_law_1034 : decode cL_law 1034 = .ok (.iaload, 1) := by decide +kernel
theorem dL_law_1035 : decode cL_law 1035 = .ok (.invokevirtual 142, 3) := by decide +kernel
theorem dL_law_1038 : decode cL_law 1038 = .ok (.aload_n 2, 1) := by decide +kernel
theorem dL_law_1039 : decode cL_law 1039 = .ok (.aload_n 0, 1) := by decide +kernel
theorem dL_law_1040 : decode cL_law 1040 = .ok (.iload_n 3, 1) := by decide +kernel
theorem dL_law_1041 : decode cL_law 1041 = .ok (.iconst 1, 1) := by decide +kernel
theorem dL_law_1042 : decode cL_law 1042 = .ok (.iadd, 1) := by decide +kernel
theorem dL_law_1043 : decode cL_law 1043 = .ok (.iaload, 1) := by decide +kernel
theorem dL_law_1044 : decode cL_law 1044 = .ok (.invokevirtual 145, 3) := by decide +kernel
theorem dL_law_1047 : decode cL_law 1047 = .ok (.if_icmp .eq 168, 3) := by decide +kernel
theorem dL_law_1050 : decode cL_law 1050 = .ok (.iconst 0, 1) := by decide +kernel
theorem dL_law_1051 : decode cL_law 1051 = .ok (.ireturn, 1) := by decide +kernel
theorem dL_law_1052 : decode cL_law 1052 = .ok (.aload_n 1, 1) := by decide +kernel
theorem dL_law_1053 : decode cL_law 1053 = .ok (.invokevirtual 146, 3) := by decide +kernel
theorem dL_law_1056 : decode cL_law 1056 = .ok (.aload_n 2, 1) := by decide +kernel
theorem dL_law_1057 : decode cL_law 1057 = .ok (.invokevirtual 149, 3) := by decide +kernel
theorem dL_law_1060 : decode cL_law 1060 = .ok (.if_icmp .eq 155, 3) := by decide +kernel
theorem dL_law_1063 : decode cL_law 1063 = .ok (.iconst 0, 1) := by decide +kernel
theorem dL_law_1064 : decode cL_law 1064 = .ok (.ireturn, 1) := by decide +kernel
theorem dL_law_1065 : decode cL_law 1065 = .ok (.aload_n 1, 1) := by decide +kernel
theorem dL_law_1066 : decode cL_law 1066 = .ok (.aload_n 0, 1) := by decide +kernel
theorem dL_law_1067 : decode cL_law 1067 = .ok (.iload_n 3, 1) := by decide +kernel
theorem dL_law_1068 : decode cL_law 1068 = .ok (.iconst 1, 1) := by decide +kernel
theorem dL_law_1069 : decode cL_law 1069 = .ok (.iadd, 1) := by decide +kernel
theorem dL_law_1070 : decode cL_law 1070 = .ok (.iaload, 1) := by decide +kernel
theorem dL_law_1071 : decode cL_law 1071 = .ok (.invokevirtual 150, 3) := by decide +kernel
theorem dL_law_1074 : decode cL_law 1074 = .ok (.aload_n 2, 1) := by decide +kernel
theorem dL_law_1075 : decode cL_law 1075 = .ok (.aload_n 0, 1) := by decide +kernel
theorem dL_law_1076 : decode cL_law 1076 = .ok (.iload_n 3, 1) := by decide +kernel
theorem dL_law_1077 : decode cL_law 1077 = .ok (.iconst 1, 1) := by decide +kernel
theorem dL_law_1078 : decode cL_law 1078 = .ok (.iadd, 1) := by decide +kernel
theorem dL_law_1079 : decode cL_law 1079 = .ok (.iaload, 1) := by decide +kernel
theorem dL_law_1080 : decode cL_law 1080 = .ok (.invokevirtual 153, 3) := by decide +kernel
theorem dL_law_1083 : decode cL_law 1083 = .ok (.if_icmp .eq 132, 3) := by decide +kernel
theorem dL_law_1086 : decode cL_law 1086 = .ok (.iconst 0, 1) := by decide +kernel
theorem dL_law_1087 : decode cL_law 1087 = .ok (.ireturn, 1) := by decide +kernel
theorem dL_law_1088 : decode cL_law 1088 = .ok (.aload_n 1, 1) := by decide +kernel
theorem dL_law_1089 : decode cL_law 1089 = .ok (.invokevirtual 154, 3) := by decide +kernel
theorem dL_law_1092 : decode cL_law 1092 = .ok (.aload_n 2, 1) := by decide +kernel
theorem dL_law_1093 : decode cL_law 1093 = .ok (.invokevirtual 157, 3) := by decide +kernel
theorem dL_law_1096 : decode cL_law 1096 = .ok (.if_icmp .eq 119, 3) := by decide +kernel
theorem dL_law_1099 : decode cL_law 1099 = .ok (.iconst 0, 1) := by decide +kernel
theorem dL_law_1100 : decode cL_law 1100 = .ok (.ireturn, 1) := by decide +kernel
theorem dL_law_1101 : decode cL_law 1101 = .ok (.aload_n 1, 1) := by decide +kernel
theorem dL_law_1102 : decode cL_law 1102 = .ok (.invokevirtual 158, 3) := by decide +kernel
theorem dL_law_1105 : decode cL_law 1105 = .ok (.aload_n 2, 1) := by decide +kernel
theorem dL_law_1106 : decode cL_law 1106 = .ok (.invokevirtual 162, 3) := by decide +kernel
theorem dL_law_1109 : decode cL_law 1109 = .ok (.lcmp, 1) := by decide +kernel
theorem dL_law_1110 : decode cL_law 1110 = .ok (.ifCond .eq 105, 3) := by decide +kernel
theorem dL_law_1113 : decode cL_law 1113 = .ok (.iconst 0, 1) := by decide +kernel
theorem dL_law_1114 : decode cL_law 1114 = .ok (.ireturn, 1) := by decide +kernel
theorem dL_law_1115 : decode cL_law 1115 = .ok (.aload_n 1, 1) := by decide +kernel
theorem dL_law_1116 : decode cL_law 1116 = .ok (.invokevirtual 163, 3) := by decide +kernel
theorem dL_law_1119 : decode cL_law 1119 = .ok (.aload_n 2, 1) := by decide +kernel
theorem dL_law_1120 : decode cL_law 1120 = .ok (.invokevirtual 166, 3) := by decide +kernel
theorem dL_law_1123 : decode cL_law 1123 = .ok (.lcmp, 1) := by decide +kernel
theorem dL_law_1124 : decode cL_law 1124 = .ok (.ifCond .eq 91, 3) := by decide +kernel
theorem dL_law_1127 : decode cL_law 1127 = .ok (.iconst 0, 1) := by decide +kernel
theorem dL_law_1128 : decode cL_law 1128 = .ok (.ireturn, 1) := by decide +kernel
theorem dL_law_1129 : decode cL_law 1129 = .ok (.aload_n 1, 1) := by decide +kernel
theorem dL_law_1130 : decode cL_law 1130 = .ok (.aload_n 0, 1) := by decide +kernel
theorem dL_law_1131 : decode cL_law 1131 = .ok (.iload_n 3, 1) := by decide +kernel
theorem dL_law_1132 : decode cL_law 1132 = .ok (.iconst 1, 1) := by decide +kernel
theorem dL_law_1133 : decode cL_law 1133 = .ok (.iadd, 1) := by decide +kernel
theorem dL_law_1134 : decode cL_law 1134 = .ok (.iaload, 1) := by decide +kernel
theorem dL_law_1135 : decode cL_law 1135 = .ok (.invokevirtual 167, 3) := by decide +kernel
theorem dL_law_1138 : decode cL_law 1138 = .ok (.aload_n 2, 1) := by decide +kernel
theorem dL_law_1139 : decode cL_law 1139 = .ok (.aload_n 0, 1) := by decide +kernel
theorem dL_law_1140 : decode cL_law 1140 = .ok (.iload_n 3, 1) := by decide +kernel
theorem dL_law_1141 : decode cL_law 1141 = .ok (.iconst 1, 1) := by decide +kernel
theorem dL_law_1142 : decode cL_law 1142 = .ok (.iadd, 1) := by decide +kernel
theorem dL_law_1143 : decode cL_law 1143 = .ok (.iaload, 1) := by decide +kernel
theorem dL_law_1144 : decode cL_law 1144 = .ok (.invokevirtual 170, 3) := by decide +kernel
theorem dL_law_1147 : decode cL_law 1147 = .ok (.if_icmp .eq 68, 3) := by decide +kernel
theorem dL_law_1150 : decode cL_law 1150 = .ok (.iconst 0, 1) := by decide +kernel
theorem dL_law_1151 : decode cL_law 1151 = .ok (.ireturn, 1) := by decide +kernel
theorem dL_law_1152 : decode cL_law 1152 = .ok (.aload_n 1, 1) := by decide +kernel
theorem dL_law_1153 : decode cL_law 1153 = .ok (.invokevirtual 171, 3) := by decide +kernel
theorem dL_law_1156 : decode cL_law 1156 = .ok (.aload_n 2, 1) := by decide +kernel
theorem dL_law_1157 : decode cL_law 1157 = .ok (.invokevirtual 174, 3) := by decide +kernel
theorem dL_law_1160 : decode cL_law 1160 = .ok (.if_icmp .eq 55, 3) := by decide +kernel
theorem dL_law_1163 : decode cL_law 1163 = .ok (.iconst 0, 1) := by decide +kernel
theorem dL_law_1164 : decode cL_law 1164 = .ok (.ireturn, 1) := by decide +kernel
theorem dL_law_1165 : decode cL_law 1165 = .ok (.aload_n 1, 1) := by decide +kernel
theorem dL_law_1166 : decode cL_law 1166 = .ok (.invokevirtual 175, 3) := by decide +kernel
theorem dL_law_1169 : decode cL_law 1169 = .ok (.aload_n 2, 1) := by decide +kernel
theorem dL_law_1170 : decode cL_law 1170 = .ok (.invokevirtual 178, 3) := by decide +kernel
theorem dL_law_1173 : decode cL_law 1173 = .ok (.if_icmp .eq 42, 3) := by decide +kernel
theorem dL_law_1176 : decode cL_law 1176 = .ok (.iconst 0, 1) := by decide +kernel
theorem dL_law_1177 : decode cL_law 1177 = .ok (.ireturn, 1) := by decide +kernel
theorem dL_law_1178 : decode cL_law 1178 = .ok (.aload_n 1, 1) := by decide +kernel
theorem dL_law_1179 : decode cL_law 1179 = .ok (.aload_n 0, 1) := by decide +kernel
theorem dL_law_1180 : decode cL_law 1180 = .ok (.iload_n 3, 1) := by decide +kernel
theorem dL_law_1181 : decode cL_law 1181 = .ok (.iconst 1, 1) := by decide +kernel
theorem dL_law_1182 : decode cL_law 1182 = .ok (.iadd, 1) := by decide +kernel
theorem dL_law_1183 : decode cL_law 1183 = .ok (.iaload, 1) := by decide +kernel
theorem dL_law_1184 : decode cL_law 1184 = .ok (.invokevirtual 179, 3) := by decide +kernel
theorem dL_law_1187 : decode cL_law 1187 = .ok (.aload_n 2, 1) := by decide +kernel
theorem dL_law_1188 : decode cL_law 1188 = .ok (.aload_n 0, 1) := by decide +kernel
theorem dL_law_1189 : decode cL_law 1189 = .ok (.iload_n 3, 1) := by decide +kernel
theorem dL_law_1190 : decode cL_law 1190 = .ok (.iconst 1, 1) := by decide +kernel
theorem dL_law_1191 : decode cL_law 1191 = .ok (.iadd, 1) := by decide +kernel
theorem dL_law_1192 : decode cL_law 1192 = .ok (.iaload, 1) := by decide +kernel
theorem dL_law_1193 : decode cL_law 1193 = .ok (.invokevirtual 182, 3) := by decide +kernel
theorem dL_law_1196 : decode cL_law 1196 = .ok (.if_icmp .eq 19, 3) := by decide +kernel
theorem dL_law_1199 : decode cL_law 1199 = .ok (.iconst 0, 1) := by decide +kernel
theorem dL_law_1200 : decode cL_law 1200 = .ok (.ireturn, 1) := by decide +kernel
theorem dL_law_1201 : decode cL_law 1201 = .ok (.aload_n 1, 1) := by decide +kernel
theorem dL_law_1202 : decode cL_law 1202 = .ok (.invokevirtual 183, 3) := by decide +kernel
theorem dL_law_1205 : decode cL_law 1205 = .ok (.aload_n 2, 1) := by decide +kernel
theorem dL_law_1206 : decode cL_law 1206 = .ok (.invokevirtual 186, 3) := by decide +kernel
theorem dL_law_1209 : decode cL_law 1209 = .ok (.lcmp, 1) := by decide +kernel
theorem dL_law_1210 : decode cL_law 1210 = .ok (.ifCond .eq 5, 3) := by decide +kernel
theorem dL_law_1213 : decode cL_law 1213 = .ok (.iconst 0, 1) := by decide +kernel
theorem dL_law_1214 : decode cL_law 1214 = .ok (.ireturn, 1) := by decide +kernel
theorem dL_law_1215 : decode cL_law 1215 = .ok (.iinc 3 6, 3) := by decide +kernel
theorem dL_law_1218 : decode cL_law 1218 = .ok (.goto (-1200), 3) := by decide +kernel
theorem dL_law_1221 : decode cL_law 1221 = .ok (.iconst 1, 1) := by decide +kernel
theorem dL_law_1222 : decode cL_law 1222 = .ok (.ireturn, 1) := by decide +kernel
