theorem dX0_init_0 : decode cX0_init 0 = .ok (.aload_n 0, 1) := by decide +kernel
theorem dX0_init_1 : decode cX0_init 1 = .ok (.invokespecial 3, 3) := by decide +kernel
theorem dX0_init_4 : decode cX0_init 4 = .ok (.aload_n 0, 1) := by decide +kernel
theorem dX0_init_5 : decode cX0_init 5 = .ok (.bipush 6, 2) := by decide +kernel
theorem dX0_init_7 : decode cX0_init 7 = .ok (.newarray .int, 2) := by decide +kernel
theorem dX0_init_9 : decode cX0_init 9 = .ok (.putfield 9, 3) := by decide +kernel
theorem dX0_init_12 : decode cX0_init 12 = .ok (.aload_n 0, 1) := by decide +kernel
theorem dX0_init_13 : decode cX0_init 13 = .ok (.bipush 40, 2) := by decide +kernel
theorem dX0_init_15 : decode cX0_init 15 = .ok (.newarray .int, 2) := by decide +kernel
theorem dX0_init_17 : decode cX0_init 17 = .ok (.putfield 15, 3) := by decide +kernel
theorem dX0_init_20 : decode cX0_init 20 = .ok (.aload_n 0, 1) := by decide +kernel
theorem dX0_init_21 : decode cX0_init 21 = .ok (.aload_n 1, 1) := by decide +kernel
theorem dX0_init_22 : decode cX0_init 22 = .ok (.putfield 18, 3) := by decide +kernel
theorem dX0_init_25 : decode cX0_init 25 = .ok (.return_, 1) := by decide +kernel
theorem dX0_begin_0 : decode cX0_begin 0 = .ok (.aload_n 0, 1) := by decide +kernel
theorem dX0_begin_1 : decode cX0_begin 1 = .ok (.getfield 18, 3) := by decide +kernel
theorem dX0_begin_4 : decode cX0_begin 4 = .ok (.getfield 22, 3) := by decide +kernel
theorem dX0_begin_7 : decode cX0_begin 7 = .ok (.iconst 0, 1) := by decide +kernel
theorem dX0_begin_8 : decode cX0_begin 8 = .ok (.aload_n 0, 1) := by decide +kernel
theorem dX0_begin_9 : decode cX0_begin 9 = .ok (.getfield 9, 3) := by decide +kernel
theorem dX0_begin_12 : decode cX0_begin 12 = .ok (.iconst 0, 1) := by decide +kernel
theorem dX0_begin_13 : decode cX0_begin 13 = .ok (.bipush 6, 2) := by decide +kernel
theorem dX0_begin_15 : decode cX0_begin 15 = .ok (.invokestatic 25, 3) := by decide +kernel
theorem dX0_begin_18 : decode cX0_begin 18 = .ok (.aload_n 0, 1) := by decide +kernel
theorem dX0_begin_19 : decode cX0_begin 19 = .ok (.iconst 0, 1) := by decide +kernel
theorem dX0_begin_20 : decode cX0_begin 20 = .ok (.putfield 31, 3) := by decide +kernel
theorem dX0_begin_23 : decode cX0_begin 23 = .ok (.aload_n 0, 1) := by decide +kernel
theorem dX0_begin_24 : decode cX0_begin 24 = .ok (.iconst 0, 1) := by decide +kernel
theorem dX0_begin_25 : decode cX0_begin 25 = .ok (.putfield 35, 3) := by decide +kernel
theorem dX0_begin_28 : decode cX0_begin 28 = .ok (.aload_n 0, 1) := by decide +kernel
theorem dX0_begin_29 : decode cX0_begin 29 = .ok (.iconst 0, 1) := by decide +kernel
theorem dX0_begin_30 : decode cX0_begin 30 = .ok (.putfield 38, 3) := by decide +kernel
theorem dX0_begin_33 : decode cX0_begin 33 = .ok (.aload_n 0, 1) := by decide +kernel
theorem dX0_begin_34 : decode cX0_begin 34 = .ok (.aload_n 0, 1) := by decide +kernel
theorem dX0_begin_35 : decode cX0_begin 35 = .ok (.getfield 18, 3) := by decide +kernel
theorem dX0_begin_38 : decode cX0_begin 38 = .ok (.getfield 41, 3) := by decide +kernel
theorem dX0_begin_41 : decode cX0_begin 41 = .ok (.putfield 44, 3) := by decide +kernel
theorem dX0_begin_44 : decode cX0_begin 44 = .ok (.aload_n 0, 1) := by decide +kernel
theorem dX0_begin_45 : decode cX0_begin 45 = .ok (.iconst 0, 1) := by decide +kernel
theorem dX0_begin_46 : decode cX0_begin 46 = .ok (.putfield 47, 3) := by decide +kernel
theorem dX0_begin_49 : decode cX0_begin 49 = .ok (.aload_n 0, 1) := by decide +kernel
theorem dX0_begin_50 : decode cX0_begin 50 = .ok (.iconst 0, 1) := by decide +kernel
theorem dX0_begin_51 : decode cX0_begin 51 = .ok (.putfield 50, 3) := by decide +kernel
theorem dX0_begin_54 : decode cX0_begin 54 = .ok (.aload_n 0, 1) := by decide +kernel
theorem dX0_begin_55 : decode cX0_begin 55 = .ok (.iconst 0, 1) := by decide +kernel
theorem dX0_begin_56 : decode cX0_begin 56 = .ok (.putfield 53, 3) := by decide +kernel
theorem dX0_begin_59 : decode cX0_begin 59 = .ok (.return_, 1) := by decide +kernel
theorem dX0_deedOfChange_0 : decode cX0_deedOfChange 0 = .ok (.bipush 10, 2) := by decide +kernel
theorem dX0_deedOfChange_2 : decode cX0_deedOfChange 2 = .ok (.iload_n 0, 1) := by decide +kernel
theorem dX0_deedOfChange_3 : decode cX0_deedOfChange 3 = .ok (.bipush 6, 2) := by decide +kernel
theorem dX0_deedOfChange_5 : decode cX0_deedOfChange 5 = .ok (.imul, 1) := by decide +kernel
theorem dX0_deedOfChange_6 : decode cX0_deedOfChange 6 = .ok (.iadd, 1) := by decide +kernel
theorem dX0_deedOfChange_7 : decode cX0_deedOfChange 7 = .ok (.iload_n 1, 1) := by decide +kernel
theorem dX0_deedOfChange_8 : decode cX0_deedOfChange 8 = .ok (.iadd, 1) := by decide +kernel
theorem dX0_deedOfChange_9 : decode cX0_deedOfChange 9 = .ok (.ireturn, 1) := by decide +kernel
theorem dX0_perform_0 : decode cX0_perform 0 = .ok (.aload_n 0, 1) := by decide +kernel
theorem dX0_perform_1 : decode cX0_perform 1 = .ok (.getfield 31, 3) := by decide +kernel
theorem dX0_perform_4 : decode cX0_perform 4 = .ok (.bipush 40, 2) := by decide +kernel
theorem dX0_perform_6 : decode cX0_perform 6 = .ok (.if_icmp .lt 4, 3) := by decide +kernel
theorem dX0_perform_9 : decode cX0_perform 9 = .ok (.return_, 1) := by decide +kernel
theorem dX0_perform_10 : decode cX0_perform 10 = .ok (.aload_n 0, 1) := by decide +kernel
theorem dX0_perform_11 : decode cX0_perform 11 = .ok (.getfield 15, 3) := by decide +kernel
theorem dX0_perform_14 : decode cX0_perform 14 = .ok (.aload_n 0, 1) := by decide +kernel
theorem dX0_perform_15 : decode cX0_perform 15 = .ok (.getfield 31, 3) := by decide +kernel
theorem dX0_perform_18 : decode cX0_perform 18 = .ok (.iload_n 1, 1) := by decide +kernel
theorem dX0_perform_19 : decode cX0_perform 19 = .ok (.iastore, 1) := by decide +kernel
theorem dX0_perform_20 : decode cX0_perform 20 = .ok (.aload_n 0, 1) := by decide +kernel
theorem dX0_perform_21 : decode cX0_perform 21 = .ok (.dup, 1) := by decide +kernel
theorem dX0_perform_22 : decode cX0_perform 22 = .ok (.getfield 31, 3) := by decide +kernel
theorem dX0_perform_25 : decode cX0_perform 25 = .ok (.iconst 1, 1) := by decide +kernel
theorem dX0_perform_26 : decode cX0_perform 26 = .ok (.iadd, 1) := by decide +kernel
theorem dX0_perform_27 : decode cX0_perform 27 = .ok (.putfield 31, 3) := by decide +kernel
theorem dX0_perform_30 : decode cX0_perform 30 = .ok (.iload_n 1, 1) := by decide +kernel
theorem dX0_perform_31 : decode cX0_perform 31 = .ok (.bipush 10, 2) := by decide +kernel
theorem dX0_perform_33 : decode cX0_perform 33 = .ok (.if_icmp .lt 22, 3) := by decide +kernel
theorem dX0_perform_36 : decode cX0_perform 36 = .ok (.aload_n 0, 1) := by decide +kernel
theorem dX0_perform_37 : decode cX0_perform 37 = .ok (.iload_n 1, 1) := by decide +kernel
theorem dX0_perform_38 : decode cX0_perform 38 = .ok (.bipush 10, 2) := by decide +kernel
theorem dX0_perform_40 : decode cX0_perform 40 = .ok (.isub, 1) := by decide +kernel
theorem dX0_perform_41 : decode cX0_perform 41 = .ok (.bipush 6, 2) := by decide +kernel
theorem dX0_perform_43 : decode cX0_perform 43 = .ok (.idiv, 1) := by decide +kernel
theorem dX0_perform_44 : decode cX0_perform 44 = .ok (.iload_n 1, 1) := by decide +kernel
theorem dX0_perform_45 : decode cX0_perform 45 = .ok (.bipush 10, 2) := by decide +kernel
theorem dX0_perform_47 : decode cX0_perform 47 = .ok (.isub, 1) := by decide +kernel
theorem dX0_perform_48 : decode cX0_perform 48 = .ok (.bipush 6, 2) := by decide +kernel
theorem dX0_perform_50 : decode cX0_perform 50 = .ok (.irem, 1) := by decide +kernel
theorem dX0_perform_51 : decode cX0_perform 51 = .ok (.invokevirtual 56, 3) := by decide +kernel
theorem dX0_perform_54 : decode cX0_perform 54 = .ok (.return_, 1) := by decide +kernel
theorem dX0_perform_55 : decode cX0_perform 55 = .ok (.iload_n 1, 1) := by decide +kernel
theorem dX0_perform_56 : decode cX0_perform 56 = .ok (.bipush (-9), 2) := by decide +kernel
theorem dX0_perform_58 : decode cX0_perform 58 = .ok (.if_icmp .eq 8, 3) := by decide +kernel
theorem dX0_perform_61 : decode cX0_perform 61 = .ok (.aload_n 0, 1) := by decide +kernel
theorem dX0_perform_62 : decode cX0_perform 62 = .ok (.iload_n 1, 1) := by decide +kernel
theorem dX0_perform_63 : decode cX0_perform 63 = .ok (.invokevirtual 60, 3) := by decide +kernel
theorem dX0_perform_66 : decode cX0_perform 66 = .ok (.aload_n 0, 1) := by decide +kernel
theorem dX0_perform_67 : decode cX0_perform 67 = .ok (.dup, 1) := by decide +kernel
theorem dX0_perform_68 : decode cX0_perform 68 = .ok (.getfield 35, 3) := by decide +kernel
theorem dX0_perform_71 : decode cX0_perform 71 = .ok (.iconst 1, 1) := by decide +kernel
theorem dX0_perform_72 : decode cX0_perform 72 = .ok (.iadd, 1) := by decide +kernel
theorem dX0_perform_73 : decode cX0_perform 73 = .ok (.putfield 35, 3) := by decide +kernel
theorem dX0_perform_76 : decode cX0_perform 76 = .ok (.return_, 1) := by decide +kernel
theorem dX0_playScene_0 : decode cX0_playScene 0 = .ok (.aload_n 0, 1) := by decide +kernel
theorem dX0_playScene_1 : decode cX0_playScene 1 = .ok (.getfield 18, 3) := by decide +kernel
theorem dX0_playScene_4 : decode cX0_playScene 4 = .ok (.iload_n 1, 1) := by decide +kernel
theorem dX0_playScene_5 : decode cX0_playScene 5 = .ok (.aload_n 0, 1) := by decide +kernel
theorem dX0_playScene_6 : decode cX0_playScene 6 = .ok (.getfield 35, 3) := by decide +kernel
theorem dX0_playScene_9 : decode cX0_playScene 9 = .ok (.aload_n 0, 1) := by decide +kernel
theorem dX0_playScene_10 : decode cX0_playScene 10 = .ok (.getfield 38, 3) := by decide +kernel
theorem dX0_playScene_13 : decode cX0_playScene 13 = .ok (.aload_n 0, 1) := by decide +kernel
theorem dX0_playScene_14 : decode cX0_playScene 14 = .ok (.getfield 50, 3) := by decide +kernel
theorem dX0_playScene_17 : decode cX0_playScene 17 = .ok (.invokevirtual 64, 3) := by decide +kernel
theorem dX0_playScene_20 : decode cX0_playScene 20 = .ok (.istore_n 2, 1) := by decide +kernel
theorem dX0_playScene_21 : decode cX0_playScene 21 = .ok (.iload_n 2, 1) := by decide +kernel
theorem dX0_playScene_22 : decode cX0_playScene 22 = .ok (.aload_n 0, 1) := by decide +kernel
theorem dX0_playScene_23 : decode cX0_playScene 23 = .ok (.getfield 44, 3) := by decide +kernel
theorem dX0_playScene_26 : decode cX0_playScene 26 = .ok (.if_icmp .gt 54, 3) := by decide +kernel
theorem dX0_playScene_29 : decode cX0_playScene 29 = .ok (.aload_n 0, 1) := by decide +kernel
theorem dX0_playScene_30 : decode cX0_playScene 30 = .ok (.dup, 1) := by decide +kernel
theorem dX0_playScene_31 : decode cX0_playScene 31 = .ok (.getfield 44, 3) := by decide +kernel
theorem dX0_playScene_34 : decode cX0_playScene 34 = .ok (.iload_n 2, 1) := by decide +kernel
theorem dX0_playScene_35 : decode cX0_playScene 35 = .ok (.isub, 1) := by decide +kernel
theorem dX0_playScene_36 : decode cX0_playScene 36 = .ok (.putfield 44, 3) := by decide +kernel
theorem dX0_playScene_39 : decode cX0_playScene 39 = .ok (.aload_n 0, 1) := by decide +kernel
theorem dX0_playScene_40 : decode cX0_playScene 40 = .ok (.dup, 1) := by decide +kernel
theorem dX0_playScene_41 : decode cX0_playScene 41 = .ok (.getfield 47, 3) := by decide +kernel
theorem dX0_playScene_44 : decode cX0_playScene 44 = .ok (.iload_n 2, 1) := by decide +kernel
theorem dX0_playScene_45 : decode cX0_playScene 45 = .ok (.iadd, 1) := by decide +kernel
theorem dX0_playScene_46 : decode cX0_playScene 46 = .ok (.putfield 47, 3) := by decide +kernel
theorem dX0_playScene_49 : decode cX0_playScene 49 = .ok (.aload_n 0, 1) := by decide +kernel
theorem dX0_playScene_50 : decode cX0_playScene 50 = .ok (.dup, 1) := by decide +kernel
theorem dX0_playScene_51 : decode cX0_playScene 51 = .ok (.getfield 50, 3) := by decide +kernel
theorem dX0_playScene_54 : decode cX0_playScene 54 = .ok (.iload_n 2, 1) := by decide +kernel
theorem dX0_playScene_55 : decode cX0_playScene 55 = .ok (.ifCond .ne 7, 3) := by decide +kernel
theorem dX0_playScene_58 : decode cX0_playScene 58 = .ok (.iconst 2, 1) := by decide +kernel
theorem dX0_playScene_59 : decode cX0_playScene 59 = .ok (.goto 4, 3) := by decide +kernel
theorem dX0_playScene_62 : decode cX0_playScene 62 = .ok (.iconst 1, 1) := by decide +kernel
theorem dX0_playScene_63 : decode cX0_playScene 63 = .ok (.iadd, 1) := by decide +kernel
theorem dX0_playScene_64 : decode cX0_playScene 64 = .ok (.putfield 50, 3) := by decide +kernel
theorem dX0_playScene_67 : decode cX0_playScene 67 = .ok (.aload_n 0, 1) := by decide +kernel
theorem dX0_playScene_68 : decode cX0_playScene 68 = .ok (.dup, 1) := by decide +kernel
theorem dX0_playScene_69 : decode cX0_playScene 69 = .ok (.getfield 53, 3) := by decide +kernel
theorem dX0_playScene_72 : decode cX0_playScene 72 = .ok (.iconst 1, 1) := by decide +kernel
theorem dX0_playScene_73 : decode cX0_playScene 73 = .ok (.iadd, 1) := by decide +kernel
theorem dX0_playScene_74 : decode cX0_playScene 74 = .ok (.putfield 53, 3) := by decide +kernel
theorem dX0_playScene_77 : decode cX0_playScene 77 = .ok (.goto 13, 3) := by decide +kernel
theorem dX0_playScene_80 : decode cX0_playScene 80 = .ok (.aload_n 0, 1) := by decide +kernel
theorem dX0_playScene_81 : decode cX0_playScene 81 = .ok (.dup, 1) := by decide +kernel
theorem dX0_playScene_82 : decode cX0_playScene 82 = .ok (.getfield 50, 3) := by decide +kernel
theorem dX0_playScene_85 : decode cX0_playScene 85 = .ok (.iconst 1, 1) := by decide +kernel
theorem dX0_playScene_86 : decode cX0_playScene 86 = .ok (.isub, 1) := by decide +kernel
theorem dX0_playScene_87 : decode cX0_playScene 87 = .ok (.putfield 50, 3) := by decide +kernel
theorem dX0_playScene_90 : decode cX0_playScene 90 = .ok (.aload_n 0, 1) := by decide +kernel
theorem dX0_playScene_91 : decode cX0_playScene 91 = .ok (.dup, 1) := by decide +kernel
theorem dX0_playScene_92 : decode cX0_playScene 92 = .ok (.getfield 38, 3) := by decide +kernel
theorem dX0_playScene_95 : decode cX0_playScene 95 = .ok (.iconst 1, 1) := by decide +kernel
theorem dX0_playScene_96 : decode cX0_playScene 96 = .ok (.iload_n 1, 1) := by decide +kernel
theorem dX0_playScene_97 : decode cX0_playScene 97 = .ok (.ishl, 1) := by decide +kernel
theorem dX0_playScene_98 : decode cX0_playScene 98 = .ok (.ior, 1) := by decide +kernel
theorem dX0_playScene_99 : decode cX0_playScene 99 = .ok (.putfield 38, 3) := by decide +kernel
theorem dX0_playScene_102 : decode cX0_playScene 102 = .ok (.return_, 1) := by decide +kernel
theorem dX0_exchange_0 : decode cX0_exchange 0 = .ok (.aload_n 0, 1) := by decide +kernel
theorem dX0_exchange_1 : decode cX0_exchange 1 = .ok (.getfield 18, 3) := by decide +kernel
theorem dX0_exchange_4 : decode cX0_exchange 4 = .ok (.iload_n 1, 1) := by decide +kernel
theorem dX0_exchange_5 : decode cX0_exchange 5 = .ok (.invokevirtual 68, 3) := by decide +kernel
theorem dX0_exchange_8 : decode cX0_exchange 8 = .ok (.ifCond .eq 40, 3) := by decide +kernel
theorem dX0_exchange_11 : decode cX0_exchange 11 = .ok (.aload_n 0, 1) := by decide +kernel
theorem dX0_exchange_12 : decode cX0_exchange 12 = .ok (.getfield 18, 3) := by decide +kernel
theorem dX0_exchange_15 : decode cX0_exchange 15 = .ok (.iload_n 2, 1) := by decide +kernel
theorem dX0_exchange_16 : decode cX0_exchange 16 = .ok (.invokevirtual 68, 3) := by decide +kernel
theorem dX0_exchange_19 : decode cX0_exchange 19 = .ok (.ifCond .eq 29, 3) := by decide +kernel
theorem dX0_exchange_22 : decode cX0_exchange 22 = .ok (.aload_n 0, 1) := by decide +kernel
theorem dX0_exchange_23 : decode cX0_exchange 23 = .ok (.getfield 9, 3) := by decide +kernel
theorem dX0_exchange_26 : decode cX0_exchange 26 = .ok (.iload_n 1, 1) := by decide +kernel
theorem dX0_exchange_27 : decode cX0_exchange 27 = .ok (.iaload, 1) := by decide +kernel
theorem dX0_exchange_28 : decode cX0_exchange 28 = .ok (.istore_n 3, 1) := by decide +kernel
theorem dX0_exchange_29 : decode cX0_exchange 29 = .ok (.aload_n 0, 1) := by decide +kernel
theorem dX0_exchange_30 : decode cX0_exchange 30 = .ok (.getfield 9, 3) := by decide +kernel
theorem dX0_exchange_33 : decode cX0_exchange 33 = .ok (.iload_n 1, 1) := by decide +kernel
theorem dX0_exchange_34 : decode cX0_exchange 34 = .ok (.aload_n 0, 1) := by decide +kernel
theorem dX0_exchange_35 : decode cX0_exchange 35 = .ok (.getfield 9, 3) := by decide +kernel
theorem dX0_exchange_38 : decode cX0_exchange 38 = .ok (.iload_n 2, 1) := by decide +kernel
theorem dX0_exchange_39 : decode cX0_exchange 39 = .ok (.iaload, 1) := by decide +kernel
theorem dX0_exchange_40 : decode cX0_exchange 40 = .ok (.iastore, 1) := by decide +kernel
theorem dX0_exchange_41 : decode cX0_exchange 41 = .ok (.aload_n 0, 1) := by decide +kernel
theorem dX0_exchange_42 : decode cX0_exchange 42 = .ok (.getfield 9, 3) := by decide +kernel
theorem dX0_exchange_45 : decode cX0_exchange 45 = .ok (.iload_n 2, 1) := by decide +kernel
theorem dX0_exchange_46 : decode cX0_exchange 46 = .ok (.iload_n 3, 1) := by decide +kernel
theorem dX0_exchange_47 : decode cX0_exchange 47 = .ok (.iastore, 1) := by decide +kernel
theorem dX0_exchange_48 : decode cX0_exchange 48 = .ok (.return_, 1) := by decide +kernel
theorem dX0_scenesYet_0 : decode cX0_scenesYet 0 = .ok (.aload_n 0, 1) := by decide +kernel
theorem dX0_scenesYet_1 : decode cX0_scenesYet 1 = .ok (.getfield 18, 3) := by decide +kernel
theorem dX0_scenesYet_4 : decode cX0_scenesYet 4 = .ok (.getfield 72, 3) := by decide +kernel
theorem dX0_scenesYet_7 : decode cX0_scenesYet 7 = .ok (.aload_n 0, 1) := by decide +kernel
theorem dX0_scenesYet_8 : decode cX0_scenesYet 8 = .ok (.getfield 35, 3) := by decide +kernel
theorem dX0_scenesYet_11 : decode cX0_scenesYet 11 = .ok (.isub, 1) := by decide +kernel
theorem dX0_scenesYet_12 : decode cX0_scenesYet 12 = .ok (.ireturn, 1) := by decide +kernel
theorem dX0_lackingNow_0 : decode cX0_lackingNow 0 = .ok (.aload_n 0, 1) := by decide +kernel
theorem dX0_lackingNow_1 : decode cX0_lackingNow 1 = .ok (.getfield 18, 3) := by decide +kernel
theorem dX0_lackingNow_4 : decode cX0_lackingNow 4 = .ok (.iload_n 1, 1) := by decide +kernel
theorem dX0_lackingNow_5 : decode cX0_lackingNow 5 = .ok (.aload_n 0, 1) := by decide +kernel
theorem dX0_lackingNow_6 : decode cX0_lackingNow 6 = .ok (.getfield 35, 3) := by decide +kernel
theorem dX0_lackingNow_9 : decode cX0_lackingNow 9 = .ok (.aload_n 0, 1) := by decide +kernel
theorem dX0_lackingNow_10 : decode cX0_lackingNow 10 = .ok (.getfield 38, 3) := by decide +kernel
theorem dX0_lackingNow_13 : decode cX0_lackingNow 13 = .ok (.aload_n 0, 1) := by decide +kernel
theorem dX0_lackingNow_14 : decode cX0_lackingNow 14 = .ok (.getfield 50, 3) := by decide +kernel
theorem dX0_lackingNow_17 : decode cX0_lackingNow 17 = .ok (.invokevirtual 64, 3) := by decide +kernel
theorem dX0_lackingNow_20 : decode cX0_lackingNow 20 = .ok (.ireturn, 1) := by decide +kernel
theorem dX0_allowed_0 : decode cX0_allowed 0 = .ok (.iconst 0, 1) := by decide +kernel
theorem dX0_allowed_1 : decode cX0_allowed 1 = .ok (.istore_n 1, 1) := by decide +kernel
theorem dX0_allowed_2 : decode cX0_allowed 2 = .ok (.iconst 0, 1) := by decide +kernel
theorem dX0_allowed_3 : decode cX0_allowed 3 = .ok (.istore_n 2, 1) := by decide +kernel
theorem dX0_allowed_4 : decode cX0_allowed 4 = .ok (.iload_n 2, 1) := by decide +kernel
theorem dX0_allowed_5 : decode cX0_allowed 5 = .ok (.aload_n 0, 1) := by decide +kernel
theorem dX0_allowed_6 : decode cX0_allowed 6 = .ok (.getfield 18, 3) := by decide +kernel
theorem dX0_allowed_9 : decode cX0_allowed 9 = .ok (.getfield 75, 3) := by decide +kernel
theorem dX0_allowed_12 : decode cX0_allowed 12 = .ok (.if_icmp .ge 40, 3) := by decide +kernel
theorem dX0_allowed_15 : decode cX0_allowed 15 = .ok (.iload_n 1, 1) := by decide +kernel
theorem dX0_allowed_16 : decode cX0_allowed 16 = .ok (.aload_n 0, 1) := by decide +kernel
theorem dX0_allowed_17 : decode cX0_allowed 17 = .ok (.getfield 18, 3) := by decide +kernel
theorem dX0_allowed_20 : decode cX0_allowed 20 = .ok (.getfield 78, 3) := by decide +kernel
theorem dX0_allowed_23 : decode cX0_allowed 23 = .ok (.iload_n 2, 1) := by decide +kernel
theorem dX0_allowed_24 : decode cX0_allowed 24 = .ok (.iaload, 1) := by decide +kernel
theorem dX0_allowed_25 : decode cX0_allowed 25 = .ok (.aload_n 0, 1) := by decide +kernel
theorem dX0_allowed_26 : decode cX0_allowed 26 = .ok (.getfield 9, 3) := by decide +kernel
theorem dX0_allowed_29 : decode cX0_allowed 29 = .ok (.iload_n 2, 1) := by decide +kernel
theorem dX0_allowed_30 : decode cX0_allowed 30 = .ok (.iaload, 1) := by decide +kernel
theorem dX0_allowed_31 : decode cX0_allowed 31 = .ok (.invokestatic 81, 3) := by decide +kernel
theorem dX0_allowed_34 : decode cX0_allowed 34 = .ok (.ifCond .eq 9, 3) := by decide +kernel
theorem dX0_allowed_37 : decode cX0_allowed 37 = .ok (.iconst 1, 1) := by decide +kernel
theorem dX0_allowed_38 : decode cX0_allowed 38 = .ok (.iload_n 2, 1) := by decide +kernel
theorem dX0_allowed_39 : decode cX0_allowed 39 = .ok (.ishl, 1) := by decide +kernel
theorem dX0_allowed_40 : decode cX0_allowed 40 = .ok (.goto 4, 3) := by decide +kernel
theorem dX0_allowed_43 : decode cX0_allowed 43 = .ok (.iconst 0, 1) := by decide +kernel
theorem dX0_allowed_44 : decode cX0_allowed 44 = .ok (.ior, 1) := by decide +kernel
theorem dX0_allowed_45 : decode cX0_allowed 45 = .ok (.istore_n 1, 1) := by decide +kernel
theorem dX0_allowed_46 : decode cX0_allowed 46 = .ok (.iinc 2 1, 3) := by decide +kernel
theorem dX0_allowed_49 : decode cX0_allowed 49 = .ok (.goto (-45), 3) := by decide +kernel
theorem dX0_allowed_52 : decode cX0_allowed 52 = .ok (.iload_n 1, 1) := by decide +kernel
theorem dX0_allowed_53 : decode cX0_allowed 53 = .ok (.ireturn, 1) := by decide +kernel
theorem dX0_allowedIfChanged_0 : decode cX0_allowedIfChanged 0 = .ok (.aload_n 0, 1) := by decide +kernel
theorem dX0_allowedIfChanged_1 : decode cX0_allowedIfChanged 1 = .ok (.iload_n 1, 1) := by decide +kernel
theorem dX0_allowedIfChanged_2 : decode cX0_allowedIfChanged 2 = .ok (.iload_n 2, 1) := by decide +kernel
theorem dX0_allowedIfChanged_3 : decode cX0_allowedIfChanged 3 = .ok (.invokevirtual 56, 3) := by decide +kernel
theorem dX0_allowedIfChanged_6 : decode cX0_allowedIfChanged 6 = .ok (.aload_n 0, 1) := by decide +kernel
theorem dX0_allowedIfChanged_7 : decode cX0_allowedIfChanged 7 = .ok (.invokevirtual 85, 3) := by decide +kernel
theorem dX0_allowedIfChanged_10 : decode cX0_allowedIfChanged 10 = .ok (.istore_n 3, 1) := by decide +kernel
theorem dX0_allowedIfChanged_11 : decode cX0_allowedIfChanged 11 = .ok (.aload_n 0, 1) := by decide +kernel
theorem dX0_allowedIfChanged_12 : decode cX0_allowedIfChanged 12 = .ok (.iload_n 1, 1) := by decide +kernel
theorem dX0_allowedIfChanged_13 : decode cX0_allowedIfChanged 13 = .ok (.iload_n 2, 1) := by decide +kernel
theorem dX0_allowedIfChanged_14 : decode cX0_allowedIfChanged 14 = .ok (.invokevirtual 56, 3) := by decide +kernel
theorem dX0_allowedIfChanged_17 : decode cX0_allowedIfChanged 17 = .ok (.iload_n 3, 1) := by decide +kernel
theorem dX0_allowedIfChanged_18 : decode cX0_allowedIfChanged 18 = .ok (.ireturn, 1) := by decide +kernel
theorem dX0_free_0 : decode cX0_free 0 = .ok (.aload_n 0, 1) := by decide +kernel
theorem dX0_free_1 : decode cX0_free 1 = .ok (.invokevirtual 85, 3) := by decide +kernel
theorem dX0_free_4 : decode cX0_free 4 = .ok (.aload_n 0, 1) := by decide +kernel
theorem dX0_free_5 : decode cX0_free 5 = .ok (.getfield 38, 3) := by decide +kernel
theorem dX0_free_8 : decode cX0_free 8 = .ok (.iconst (-1), 1) := by decide +kernel
theorem dX0_free_9 : decode cX0_free 9 = .ok (.ixor, 1) := by decide +kernel
theorem dX0_free_10 : decode cX0_free 10 = .ok (.iand, 1) := by decide +kernel
theorem dX0_free_11 : decode cX0_free 11 = .ok (.ireturn, 1) := by decide +kernel
theorem dX0_takenSeats_0 : decode cX0_takenSeats 0 = .ok (.aload_n 0, 1) := by decide +kernel
theorem dX0_takenSeats_1 : decode cX0_takenSeats 1 = .ok (.iconst 0, 1) := by decide +kernel
theorem dX0_takenSeats_2 : decode cX0_takenSeats 2 = .ok (.invokevirtual 89, 3) := by decide +kernel
theorem dX0_takenSeats_5 : decode cX0_takenSeats 5 = .ok (.ireturn, 1) := by decide +kernel
theorem dX0_takenSeatsWithout_0 : decode cX0_takenSeatsWithout 0 = .ok (.iconst 0, 1) := by decide +kernel
theorem dX0_takenSeatsWithout_1 : decode cX0_takenSeatsWithout 1 = .ok (.istore_n 2, 1) := by decide +kernel
theorem dX0_takenSeatsWithout_2 : decode cX0_takenSeatsWithout 2 = .ok (.iconst 0, 1) := by decide +kernel
theorem dX0_takenSeatsWithout_3 : decode cX0_takenSeatsWithout 3 = .ok (.istore_n 3, 1) := by decide +kernel
theorem dX0_takenSeatsWithout_4 : decode cX0_takenSeatsWithout 4 = .ok (.iload_n 3, 1) := by decide +kernel
theorem dX0_takenSeatsWithout_5 : decode cX0_takenSeatsWithout 5 = .ok (.aload_n 0, 1) := by decide +kernel
theorem dX0_takenSeatsWithout_6 : decode cX0_takenSeatsWithout 6 = .ok (.getfield 18, 3) := by decide +kernel
theorem dX0_takenSeatsWithout_9 : decode cX0_takenSeatsWithout 9 = .ok (.getfield 75, 3) := by decide +kernel
theorem dX0_takenSeatsWithout_12 : decode cX0_takenSeatsWithout 12 = .ok (.if_icmp .ge 32, 3) := by decide +kernel
theorem dX0_takenSeatsWithout_15 : decode cX0_takenSeatsWithout 15 = .ok (.iload_n 2, 1) := by decide +kernel
theorem dX0_takenSeatsWithout_16 : decode cX0_takenSeatsWithout 16 = .ok (.iload_n 1, 1) := by decide +kernel
theorem dX0_takenSeatsWithout_17 : decode cX0_takenSeatsWithout 17 = .ok (.iload_n 3, 1) := by decide +kernel
theorem dX0_takenSeatsWithout_18 : decode cX0_takenSeatsWithout 18 = .ok (.invokestatic 93, 3) := by decide +kernel
theorem dX0_takenSeatsWithout_21 : decode cX0_takenSeatsWithout 21 = .ok (.ifCond .eq 7, 3) := by decide +kernel
theorem dX0_takenSeatsWithout_24 : decode cX0_takenSeatsWithout 24 = .ok (.iconst 0, 1) := by decide +kernel
theorem dX0_takenSeatsWithout_25 : decode cX0_takenSeatsWithout 25 = .ok (.goto 11, 3) := by decide +kernel
theorem dX0_takenSeatsWithout_28 : decode cX0_takenSeatsWithout 28 = .ok (.iconst 1, 1) := by decide +kernel
theorem dX0_takenSeatsWithout_29 : decode cX0_takenSeatsWithout 29 = .ok (.aload_n 0, 1) := by decide +kernel
theorem dX0_takenSeatsWithout_30 : decode cX0_takenSeatsWithout 30 = .ok (.getfield 9, 3) := by decide +kernel
theorem dX0_takenSeatsWithout_33 : decode cX0_takenSeatsWithout 33 = .ok (.iload_n 3, 1) := by decide +kernel
theorem dX0_takenSeatsWithout_34 : decode cX0_takenSeatsWithout 34 = .ok (.iaload, 1) := by decide +kernel
theorem dX0_takenSeatsWithout_35 : decode cX0_takenSeatsWithout 35 = .ok (.ishl, 1) := by decide +kernel
theorem dX0_takenSeatsWithout_36 : decode cX0_takenSeatsWithout 36 = .ok (.ior, 1) := by decide +kernel
theorem dX0_takenSeatsWithout_37 : decode cX0_takenSeatsWithout 37 = .ok (.istore_n 2, 1) := by decide +kernel
theorem dX0_takenSeatsWithout_38 : decode cX0_takenSeatsWithout 38 = .ok (.iinc 3 1, 3) := by decide +kernel
theorem dX0_takenSeatsWithout_41 : decode cX0_takenSeatsWithout 41 = .ok (.goto (-37), 3) := by decide +kernel
theorem dX0_takenSeatsWithout_44 : decode cX0_takenSeatsWithout 44 = .ok (.iload_n 2, 1) := by decide +kernel
theorem dX0_takenSeatsWithout_45 : decode cX0_takenSeatsWithout 45 = .ok (.ireturn, 1) := by decide +kernel
theorem dX0_whatOfSitter_0 : decode cX0_whatOfSitter 0 = .ok (.aload_n 0, 1) := by decide +kernel
theorem dX0_whatOfSitter_1 : decode cX0_whatOfSitter 1 = .ok (.getfield 18, 3) := by decide +kernel
theorem dX0_whatOfSitter_4 : decode cX0_whatOfSitter 4 = .ok (.iload_n 1, 1) := by decide +kernel
theorem dX0_whatOfSitter_5 : decode cX0_whatOfSitter 5 = .ok (.invokevirtual 68, 3) := by decide +kernel
theorem dX0_whatOfSitter_8 : decode cX0_whatOfSitter 8 = .ok (.ifCond .ne 5, 3) := by decide +kernel
theorem dX0_whatOfSitter_11 : decode cX0_whatOfSitter 11 = .ok (.iconst (-1), 1) := by decide +kernel
theorem dX0_whatOfSitter_12 : decode cX0_whatOfSitter 12 = .ok (.ireturn, 1) := by decide +kernel
theorem dX0_whatOfSitter_13 : decode cX0_whatOfSitter 13 = .ok (.iload_n 2, 1) := by decide +kernel
theorem dX0_whatOfSitter_14 : decode cX0_whatOfSitter 14 = .ok (.tableswitch 128 0 6 #[42, 52, 59, 69, 79, 105, 111], 42) := by decide +kernel
theorem dX0_whatOfSitter_56 : decode cX0_whatOfSitter 56 = .ok (.aload_n 0, 1) := by decide +kernel
theorem dX0_whatOfSitter_57 : decode cX0_whatOfSitter 57 = .ok (.getfield 18, 3) := by decide +kernel
theorem dX0_whatOfSitter_60 : decode cX0_whatOfSitter 60 = .ok (.getfield 78, 3) := by decide +kernel
theorem dX0_whatOfSitter_63 : decode cX0_whatOfSitter 63 = .ok (.iload_n 1, 1) := by decide +kernel
theorem dX0_whatOfSitter_64 : decode cX0_whatOfSitter 64 = .ok (.iaload, 1) := by decide +kernel
theorem dX0_whatOfSitter_65 : decode cX0_whatOfSitter 65 = .ok (.ireturn, 1) := by decide +kernel
theorem dX0_whatOfSitter_66 : decode cX0_whatOfSitter 66 = .ok (.aload_n 0, 1) := by decide +kernel
theorem dX0_whatOfSitter_67 : decode cX0_whatOfSitter 67 = .ok (.getfield 9, 3) := by decide +kernel
theorem dX0_whatOfSitter_70 : decode cX0_whatOfSitter 70 = .ok (.iload_n 1, 1) := by decide +kernel
theorem dX0_whatOfSitter_71 : decode cX0_whatOfSitter 71 = .ok (.iaload, 1) := by decide +kernel
theorem dX0_whatOfSitter_72 : decode cX0_whatOfSitter 72 = .ok (.ireturn, 1) := by decide +kernel
theorem dX0_whatOfSitter_73 : decode cX0_whatOfSitter 73 = .ok (.aload_n 0, 1) := by decide +kernel
theorem dX0_whatOfSitter_74 : decode cX0_whatOfSitter 74 = .ok (.getfield 18, 3) := by decide +kernel
theorem dX0_whatOfSitter_77 : decode cX0_whatOfSitter 77 = .ok (.getfield 96, 3) := by decide +kernel
theorem dX0_whatOfSitter_80 : decode cX0_whatOfSitter 80 = .ok (.iload_n 1, 1) := by decide +kernel
theorem dX0_whatOfSitter_81 : decode cX0_whatOfSitter 81 = .ok (.iaload, 1) := by decide +kernel
theorem dX0_whatOfSitter_82 : decode cX0_whatOfSitter 82 = .ok (.ireturn, 1) := by decide +kernel
theorem dX0_whatOfSitter_83 : decode cX0_whatOfSitter 83 = .ok (.aload_n 0, 1) := by decide +kernel
theorem dX0_whatOfSitter_84 : decode cX0_whatOfSitter 84 = .ok (.getfield 18, 3) := by decide +kernel
theorem dX0_whatOfSitter_87 : decode cX0_whatOfSitter 87 = .ok (.getfield 99, 3) := by decide +kernel
theorem dX0_whatOfSitter_90 : decode cX0_whatOfSitter 90 = .ok (.iload_n 1, 1) := by decide +kernel
theorem dX0_whatOfSitter_91 : decode cX0_whatOfSitter 91 = .ok (.iaload, 1) := by decide +kernel
theorem dX0_whatOfSitter_92 : decode cX0_whatOfSitter 92 = .ok (.ireturn, 1) := by decide +kernel
theorem dX0_whatOfSitter_93 : decode cX0_whatOfSitter 93 = .ok (.aload_n 0, 1) := by decide +kernel
theorem dX0_whatOfSitter_94 : decode cX0_whatOfSitter 94 = .ok (.getfield 18, 3) := by decide +kernel
theorem dX0_whatOfSitter_97 : decode cX0_whatOfSitter 97 = .ok (.getfield 78, 3) := by decide +kernel
theorem dX0_whatOfSitter_100 : decode cX0_whatOfSitter 100 = .ok (.iload_n 1, 1) := by decide +kernel
theorem dX0_whatOfSitter_101 : decode cX0_whatOfSitter 101 = .ok (.iaload, 1) := by decide +kernel
theorem dX0_whatOfSitter_102 : decode cX0_whatOfSitter 102 = .ok (.aload_n 0, 1) := by decide +kernel
theorem dX0_whatOfSitter_103 : decode cX0_whatOfSitter 103 = .ok (.getfield 18, 3) := by decide +kernel
theorem dX0_whatOfSitter_106 : decode cX0_whatOfSitter 106 = .ok (.getfield 99, 3) := by decide +kernel
theorem dX0_whatOfSitter_109 : decode cX0_whatOfSitter 109 = .ok (.iload_n 1, 1) := by decide +kernel
theorem dX0_whatOfSitter_110 : decode cX0_whatOfSitter 110 = .ok (.iaload, 1) := by decide +kernel
theorem dX0_whatOfSitter_111 : decode cX0_whatOfSitter 111 = .ok (.aload_n 0, 1) := by decide +kernel
theorem dX0_whatOfSitter_112 : decode cX0_whatOfSitter 112 = .ok (.getfield 50, 3) := by decide +kernel
theorem dX0_whatOfSitter_115 : decode cX0_whatOfSitter 115 = .ok (.invokestatic 102, 3) := by decide +kernel
theorem dX0_whatOfSitter_118 : decode cX0_whatOfSitter 118 = .ok (.ireturn, 1) := by decide +kernel
theorem dX0_whatOfSitter_119 : decode cX0_whatOfSitter 119 = .ok (.aload_n 0, 1) := by decide +kernel
theorem dX0_whatOfSitter_120 : decode cX0_whatOfSitter 120 = .ok (.iload_n 1, 1) := by decide +kernel
theorem dX0_whatOfSitter_121 : decode cX0_whatOfSitter 121 = .ok (.invokevirtual 106, 3) := by decide +kernel
theorem dX0_whatOfSitter_124 : decode cX0_whatOfSitter 124 = .ok (.ireturn, 1) := by decide +kernel
theorem dX0_whatOfSitter_125 : decode cX0_whatOfSitter 125 = .ok (.aload_n 0, 1) := by decide +kernel
theorem dX0_whatOfSitter_126 : decode cX0_whatOfSitter 126 = .ok (.getfield 38, 3) := by decide +kernel
theorem dX0_whatOfSitter_129 : decode cX0_whatOfSitter 129 = .ok (.iload_n 1, 1) := by decide +kernel
theorem dX0_whatOfSitter_130 : decode cX0_whatOfSitter 130 = .ok (.invokestatic 93, 3) := by decide +kernel
theorem dX0_whatOfSitter_133 : decode cX0_whatOfSitter 133 = .ok (.ifCond .eq 7, 3) := by decide +kernel
theorem dX0_whatOfSitter_136 : decode cX0_whatOfSitter 136 = .ok (.iconst 1, 1) := by decide +kernel
theorem dX0_whatOfSitter_137 : decode cX0_whatOfSitter 137 = .ok (.goto 4, 3) := by decide +kernel
theorem dX0_whatOfSitter_140 : decode cX0_whatOfSitter 140 = .ok (.iconst 0, 1) := by decide +kernel
theorem dX0_whatOfSitter_141 : decode cX0_whatOfSitter 141 = .ok (.ireturn, 1) := by decide +kernel
theorem dX0_whatOfSitter_142 : decode cX0_whatOfSitter 142 = .ok (.aload_n 0, 1) := by decide +kernel
theorem dX0_whatOfSitter_143 : decode cX0_whatOfSitter 143 = .ok (.invokevirtual 109, 3) := by decide +kernel
theorem dX0_whatOfSitter_146 : decode cX0_whatOfSitter 146 = .ok (.iload_n 1, 1) := by decide +kernel
theorem dX0_whatOfSitter_147 : decode cX0_whatOfSitter 147 = .ok (.invokestatic 93, 3) := by decide +kernel
theorem dX0_whatOfSitter_150 : decode cX0_whatOfSitter 150 = .ok (.ifCond .eq 7, 3) := by decide +kernel
theorem dX0_whatOfSitter_153 : decode cX0_whatOfSitter 153 = .ok (.iconst 1, 1) := by decide +kernel
theorem dX0_whatOfSitter_154 : decode cX0_whatOfSitter 154 = .ok (.goto 4, 3) := by decide +kernel
theorem dX0_whatOfSitter_157 : decode cX0_whatOfSitter 157 = .ok (.iconst 0, 1) := by decide +kernel
theorem dX0_whatOfSitter_158 : decode cX0_whatOfSitter 158 = .ok (.ireturn, 1) := by decide +kernel
theorem dX0_saysNow_0 : decode cX0_saysNow 0 = .ok (.aload_n 0, 1) := by decide +kernel
theorem dX0_saysNow_1 : decode cX0_saysNow 1 = .ok (.getfield 18, 3) := by decide +kernel
theorem dX0_saysNow_4 : decode cX0_saysNow 4 = .ok (.iload_n 1, 1) := by decide +kernel
theorem dX0_saysNow_5 : decode cX0_saysNow 5 = .ok (.aload_n 0, 1) := by decide +kernel
theorem dX0_saysNow_6 : decode cX0_saysNow 6 = .ok (.getfield 38, 3) := by decide +kernel
theorem dX0_saysNow_9 : decode cX0_saysNow 9 = .ok (.invokevirtual 112, 3) := by decide +kernel
theorem dX0_saysNow_12 : decode cX0_saysNow 12 = .ok (.istore_n 2, 1) := by decide +kernel
theorem dX0_saysNow_13 : decode cX0_saysNow 13 = .ok (.aload_n 0, 1) := by decide +kernel
theorem dX0_saysNow_14 : decode cX0_saysNow 14 = .ok (.getfield 18, 3) := by decide +kernel
theorem dX0_saysNow_17 : decode cX0_saysNow 17 = .ok (.getfield 78, 3) := by decide +kernel
theorem dX0_saysNow_20 : decode cX0_saysNow 20 = .ok (.iload_n 1, 1) := by decide +kernel
theorem dX0_saysNow_21 : decode cX0_saysNow 21 = .ok (.iaload, 1) := by decide +kernel
theorem dX0_saysNow_22 : decode cX0_saysNow 22 = .ok (.aload_n 0, 1) := by decide +kernel
theorem dX0_saysNow_23 : decode cX0_saysNow 23 = .ok (.getfield 18, 3) := by decide +kernel
theorem dX0_saysNow_26 : decode cX0_saysNow 26 = .ok (.getfield 96, 3) := by decide +kernel
theorem dX0_saysNow_29 : decode cX0_saysNow 29 = .ok (.iload_n 1, 1) := by decide +kernel
theorem dX0_saysNow_30 : decode cX0_saysNow 30 = .ok (.iaload, 1) := by decide +kernel
theorem dX0_saysNow_31 : decode cX0_saysNow 31 = .ok (.aload_n 0, 1) := by decide +kernel
theorem dX0_saysNow_32 : decode cX0_saysNow 32 = .ok (.getfield 18, 3) := by decide +kernel
theorem dX0_saysNow_35 : decode cX0_saysNow 35 = .ok (.getfield 99, 3) := by decide +kernel
theorem dX0_saysNow_38 : decode cX0_saysNow 38 = .ok (.iload_n 1, 1) := by decide +kernel
theorem dX0_saysNow_39 : decode cX0_saysNow 39 = .ok (.iaload, 1) := by decide +kernel
theorem dX0_saysNow_40 : decode cX0_saysNow 40 = .ok (.aload_n 0, 1) := by decide +kernel
theorem dX0_saysNow_41 : decode cX0_saysNow 41 = .ok (.getfield 50, 3) := by decide +kernel
theorem dX0_saysNow_44 : decode cX0_saysNow 44 = .ok (.iload_n 2, 1) := by decide +kernel
theorem dX0_saysNow_45 : decode cX0_saysNow 45 = .ok (.invokestatic 116, 3) := by decide +kernel
theorem dX0_saysNow_48 : decode cX0_saysNow 48 = .ok (.ireturn, 1) := by decide +kernel
theorem dX0_markOf_0 : decode cX0_markOf 0 = .ok (.aload_n 0, 1) := by decide +kernel
theorem dX0_markOf_1 : decode cX0_markOf 1 = .ok (.getfield 18, 3) := by decide +kernel
theorem dX0_markOf_4 : decode cX0_markOf 4 = .ok (.iload_n 1, 1) := by decide +kernel
theorem dX0_markOf_5 : decode cX0_markOf 5 = .ok (.invokevirtual 68, 3) := by decide +kernel
theorem dX0_markOf_8 : decode cX0_markOf 8 = .ok (.ifCond .ne 5, 3) := by decide +kernel
theorem dX0_markOf_11 : decode cX0_markOf 11 = .ok (.iconst (-1), 1) := by decide +kernel
theorem dX0_markOf_12 : decode cX0_markOf 12 = .ok (.ireturn, 1) := by decide +kernel
theorem dX0_markOf_13 : decode cX0_markOf 13 = .ok (.iload_n 2, 1) := by decide +kernel
theorem dX0_markOf_14 : decode cX0_markOf 14 = .ok (.tableswitch 92 1 4 #[30, 36, 42, 78], 30) := by decide +kernel
theorem dX0_markOf_44 : decode cX0_markOf 44 = .ok (.aload_n 0, 1) := by decide +kernel
theorem dX0_markOf_45 : decode cX0_markOf 45 = .ok (.iload_n 1, 1) := by decide +kernel
theorem dX0_markOf_46 : decode cX0_markOf 46 = .ok (.invokevirtual 120, 3) := by decide +kernel
theorem dX0_markOf_49 : decode cX0_markOf 49 = .ok (.ireturn, 1) := by decide +kernel
theorem dX0_markOf_50 : decode cX0_markOf 50 = .ok (.aload_n 0, 1) := by decide +kernel
theorem dX0_markOf_51 : decode cX0_markOf 51 = .ok (.iload_n 1, 1) := by decide +kernel
theorem dX0_markOf_52 : decode cX0_markOf 52 = .ok (.invokevirtual 123, 3) := by decide +kernel
theorem dX0_markOf_55 : decode cX0_markOf 55 = .ok (.ireturn, 1) := by decide +kernel
theorem dX0_markOf_56 : decode cX0_markOf 56 = .ok (.iconst 0, 1) := by decide +kernel
theorem dX0_markOf_57 : decode cX0_markOf 57 = .ok (.aload_n 0, 1) := by decide +kernel
theorem dX0_markOf_58 : decode cX0_markOf 58 = .ok (.getfield 18, 3) := by decide +kernel
theorem dX0_markOf_61 : decode cX0_markOf 61 = .ok (.getfield 99, 3) := by decide +kernel
theorem dX0_markOf_64 : decode cX0_markOf 64 = .ok (.iload_n 1, 1) := by decide +kernel
theorem dX0_markOf_65 : decode cX0_markOf 65 = .ok (.iaload, 1) := by decide +kernel
theorem dX0_markOf_66 : decode cX0_markOf 66 = .ok (.aload_n 0, 1) := by decide +kernel
theorem dX0_markOf_67 : decode cX0_markOf 67 = .ok (.getfield 50, 3) := by decide +kernel
theorem dX0_markOf_70 : decode cX0_markOf 70 = .ok (.invokestatic 102, 3) := by decide +kernel
theorem dX0_markOf_73 : decode cX0_markOf 73 = .ok (.iconst 3, 1) := by decide +kernel
theorem dX0_markOf_74 : decode cX0_markOf 74 = .ok (.aload_n 0, 1) := by decide +kernel
theorem dX0_markOf_75 : decode cX0_markOf 75 = .ok (.getfield 18, 3) := by decide +kernel
theorem dX0_markOf_78 : decode cX0_markOf 78 = .ok (.getfield 99, 3) := by decide +kernel
theorem dX0_markOf_81 : decode cX0_markOf 81 = .ok (.iload_n 1, 1) := by decide +kernel
theorem dX0_markOf_82 : decode cX0_markOf 82 = .ok (.iaload, 1) := by decide +kernel
theorem dX0_markOf_83 : decode cX0_markOf 83 = .ok (.aload_n 0, 1) := by decide +kernel
theorem dX0_markOf_84 : decode cX0_markOf 84 = .ok (.getfield 50, 3) := by decide +kernel
theorem dX0_markOf_87 : decode cX0_markOf 87 = .ok (.invokestatic 102, 3) := by decide +kernel
theorem dX0_markOf_90 : decode cX0_markOf 90 = .ok (.isub, 1) := by decide +kernel
theorem dX0_markOf_91 : decode cX0_markOf 91 = .ok (.ireturn, 1) := by decide +kernel
theorem dX0_markOf_92 : decode cX0_markOf 92 = .ok (.iconst 0, 1) := by decide +kernel
theorem dX0_markOf_93 : decode cX0_markOf 93 = .ok (.bipush 7, 2) := by decide +kernel
theorem dX0_markOf_95 : decode cX0_markOf 95 = .ok (.aload_n 0, 1) := by decide +kernel
theorem dX0_markOf_96 : decode cX0_markOf 96 = .ok (.getfield 9, 3) := by decide +kernel
theorem dX0_markOf_99 : decode cX0_markOf 99 = .ok (.iload_n 1, 1) := by decide +kernel
theorem dX0_markOf_100 : decode cX0_markOf 100 = .ok (.iaload, 1) := by decide +kernel
theorem dX0_markOf_101 : decode cX0_markOf 101 = .ok (.isub, 1) := by decide +kernel
theorem dX0_markOf_102 : decode cX0_markOf 102 = .ok (.invokestatic 126, 3) := by decide +kernel
theorem dX0_markOf_105 : decode cX0_markOf 105 = .ok (.ireturn, 1) := by decide +kernel
theorem dX0_markOf_106 : decode cX0_markOf 106 = .ok (.aload_n 0, 1) := by decide +kernel
theorem dX0_markOf_107 : decode cX0_markOf 107 = .ok (.getfield 18, 3) := by decide +kernel
theorem dX0_markOf_110 : decode cX0_markOf 110 = .ok (.iload_n 1, 1) := by decide +kernel
theorem dX0_markOf_111 : decode cX0_markOf 111 = .ok (.aload_n 0, 1) := by decide +kernel
theorem dX0_markOf_112 : decode cX0_markOf 112 = .ok (.getfield 38, 3) := by decide +kernel
theorem dX0_markOf_115 : decode cX0_markOf 115 = .ok (.invokevirtual 112, 3) := by decide +kernel
theorem dX0_markOf_118 : decode cX0_markOf 118 = .ok (.ireturn, 1) := by decide +kernel
theorem dX0_scenesWithoutPrompt_0 : decode cX0_scenesWithoutPrompt 0 = .ok (.iconst 0, 1) := by decide +kernel
theorem dX0_scenesWithoutPrompt_1 : decode cX0_scenesWithoutPrompt 1 = .ok (.istore_n 2, 1) := by decide +kernel
theorem dX0_scenesWithoutPrompt_2 : decode cX0_scenesWithoutPrompt 2 = .ok (.aload_n 0, 1) := by decide +kernel
theorem dX0_scenesWithoutPrompt_3 : decode cX0_scenesWithoutPrompt 3 = .ok (.getfield 35, 3) := by decide +kernel
theorem dX0_scenesWithoutPrompt_6 : decode cX0_scenesWithoutPrompt 6 = .ok (.istore_n 3, 1) := by decide +kernel
theorem dX0_scenesWithoutPrompt_7 : decode cX0_scenesWithoutPrompt 7 = .ok (.iload_n 3, 1) := by decide +kernel
theorem dX0_scenesWithoutPrompt_8 : decode cX0_scenesWithoutPrompt 8 = .ok (.aload_n 0, 1) := by decide +kernel
theorem dX0_scenesWithoutPrompt_9 : decode cX0_scenesWithoutPrompt 9 = .ok (.getfield 18, 3) := by decide +kernel
theorem dX0_scenesWithoutPrompt_12 : decode cX0_scenesWithoutPrompt 12 = .ok (.getfield 72, 3) := by decide +kernel
theorem dX0_scenesWithoutPrompt_15 : decode cX0_scenesWithoutPrompt 15 = .ok (.if_icmp .ge 37, 3) := by decide +kernel
theorem dX0_scenesWithoutPrompt_18 : decode cX0_scenesWithoutPrompt 18 = .ok (.iload_n 2, 1) := by decide +kernel
theorem dX0_scenesWithoutPrompt_19 : decode cX0_scenesWithoutPrompt 19 = .ok (.aload_n 0, 1) := by decide +kernel
theorem dX0_scenesWithoutPrompt_20 : decode cX0_scenesWithoutPrompt 20 = .ok (.getfield 18, 3) := by decide +kernel
theorem dX0_scenesWithoutPrompt_23 : decode cX0_scenesWithoutPrompt 23 = .ok (.iload_n 1, 1) := by decide +kernel
theorem dX0_scenesWithoutPrompt_24 : decode cX0_scenesWithoutPrompt 24 = .ok (.iload_n 3, 1) := by decide +kernel
theorem dX0_scenesWithoutPrompt_25 : decode cX0_scenesWithoutPrompt 25 = .ok (.aload_n 0, 1) := by decide +kernel
theorem dX0_scenesWithoutPrompt_26 : decode cX0_scenesWithoutPrompt 26 = .ok (.getfield 38, 3) := by decide +kernel
theorem dX0_scenesWithoutPrompt_29 : decode cX0_scenesWithoutPrompt 29 = .ok (.aload_n 0, 1) := by decide +kernel
theorem dX0_scenesWithoutPrompt_30 : decode cX0_scenesWithoutPrompt 30 = .ok (.getfield 50, 3) := by decide +kernel
theorem dX0_scenesWithoutPrompt_33 : decode cX0_scenesWithoutPrompt 33 = .ok (.invokevirtual 64, 3) := by decide +kernel
theorem dX0_scenesWithoutPrompt_36 : decode cX0_scenesWithoutPrompt 36 = .ok (.ifCond .ne 7, 3) := by decide +kernel
theorem dX0_scenesWithoutPrompt_39 : decode cX0_scenesWithoutPrompt 39 = .ok (.iconst 1, 1) := by decide +kernel
theorem dX0_scenesWithoutPrompt_40 : decode cX0_scenesWithoutPrompt 40 = .ok (.goto 4, 3) := by decide +kernel
theorem dX0_scenesWithoutPrompt_43 : decode cX0_scenesWithoutPrompt 43 = .ok (.iconst 0, 1) := by decide +kernel
theorem dX0_scenesWithoutPrompt_44 : decode cX0_scenesWithoutPrompt 44 = .ok (.iadd, 1) := by decide +kernel
theorem dX0_scenesWithoutPrompt_45 : decode cX0_scenesWithoutPrompt 45 = .ok (.istore_n 2, 1) := by decide +kernel
theorem dX0_scenesWithoutPrompt_46 : decode cX0_scenesWithoutPrompt 46 = .ok (.iinc 3 1, 3) := by decide +kernel
theorem dX0_scenesWithoutPrompt_49 : decode cX0_scenesWithoutPrompt 49 = .ok (.goto (-42), 3) := by decide +kernel
theorem dX0_scenesWithoutPrompt_52 : decode cX0_scenesWithoutPrompt 52 = .ok (.iload_n 2, 1) := by decide +kernel
theorem dX0_scenesWithoutPrompt_53 : decode cX0_scenesWithoutPrompt 53 = .ok (.ireturn, 1) := by decide +kernel
theorem dX0_othersInEvenSeats_0 : decode cX0_othersInEvenSeats 0 = .ok (.iconst 0, 1) := by decide +kernel
theorem dX0_othersInEvenSeats_1 : decode cX0_othersInEvenSeats 1 = .ok (.istore_n 2, 1) := by decide +kernel
theorem dX0_othersInEvenSeats_2 : decode cX0_othersInEvenSeats 2 = .ok (.iconst 0, 1) := by decide +kernel
theorem dX0_othersInEvenSeats_3 : decode cX0_othersInEvenSeats 3 = .ok (.istore_n 3, 1) := by decide +kernel
theorem dX0_othersInEvenSeats_4 : decode cX0_othersInEvenSeats 4 = .ok (.iload_n 3, 1) := by decide +kernel
theorem dX0_othersInEvenSeats_5 : decode cX0_othersInEvenSeats 5 = .ok (.aload_n 0, 1) := by decide +kernel
theorem dX0_othersInEvenSeats_6 : decode cX0_othersInEvenSeats 6 = .ok (.getfield 18, 3) := by decide +kernel
theorem dX0_othersInEvenSeats_9 : decode cX0_othersInEvenSeats 9 = .ok (.getfield 75, 3) := by decide +kernel
theorem dX0_othersInEvenSeats_12 : decode cX0_othersInEvenSeats 12 = .ok (.if_icmp .ge 33, 3) := by decide +kernel
theorem dX0_othersInEvenSeats_15 : decode cX0_othersInEvenSeats 15 = .ok (.iload_n 2, 1) := by decide +kernel
theorem dX0_othersInEvenSeats_16 : decode cX0_othersInEvenSeats 16 = .ok (.iload_n 3, 1) := by decide +kernel
theorem dX0_othersInEvenSeats_17 : decode cX0_othersInEvenSeats 17 = .ok (.iload_n 1, 1) := by decide +kernel
theorem dX0_othersInEvenSeats_18 : decode cX0_othersInEvenSeats 18 = .ok (.if_icmp .eq 18, 3) := by decide +kernel
theorem dX0_othersInEvenSeats_21 : decode cX0_othersInEvenSeats 21 = .ok (.aload_n 0, 1) := by decide +kernel
theorem dX0_othersInEvenSeats_22 : decode cX0_othersInEvenSeats 22 = .ok (.getfield 9, 3) := by decide +kernel
theorem dX0_othersInEvenSeats_25 : decode cX0_othersInEvenSeats 25 = .ok (.iload_n 3, 1) := by decide +kernel
theorem dX0_othersInEvenSeats_26 : decode cX0_othersInEvenSeats 26 = .ok (.iaload, 1) := by decide +kernel
theorem dX0_othersInEvenSeats_27 : decode cX0_othersInEvenSeats 27 = .ok (.iconst 2, 1) := by decide +kernel
theorem dX0_othersInEvenSeats_28 : decode cX0_othersInEvenSeats 28 = .ok (.irem, 1) := by decide +kernel
theorem dX0_othersInEvenSeats_29 : decode cX0_othersInEvenSeats 29 = .ok (.ifCond .ne 7, 3) := by decide +kernel
theorem dX0_othersInEvenSeats_32 : decode cX0_othersInEvenSeats 32 = .ok (.iconst 1, 1) := by decide +kernel
theorem dX0_othersInEvenSeats_33 : decode cX0_othersInEvenSeats 33 = .ok (.goto 4, 3) := by decide +kernel
theorem dX0_othersInEvenSeats_36 : decode cX0_othersInEvenSeats 36 = .ok (.iconst 0, 1) := by decide +kernel
theorem dX0_othersInEvenSeats_37 : decode cX0_othersInEvenSeats 37 = .ok (.iadd, 1) := by decide +kernel
theorem dX0_othersInEvenSeats_38 : decode cX0_othersInEvenSeats 38 = .ok (.istore_n 2, 1) := by decide +kernel
theorem dX0_othersInEvenSeats_39 : decode cX0_othersInEvenSeats 39 = .ok (.iinc 3 1, 3) := by decide +kernel
theorem dX0_othersInEvenSeats_42 : decode cX0_othersInEvenSeats 42 = .ok (.goto (-38), 3) := by decide +kernel
theorem dX0_othersInEvenSeats_45 : decode cX0_othersInEvenSeats 45 = .ok (.iload_n 2, 1) := by decide +kernel
theorem dX0_othersInEvenSeats_46 : decode cX0_othersInEvenSeats 46 = .ok (.ireturn, 1) := by decide +kernel
theorem dX1_init_0 : decode cX1_init 0 = .ok (.aload_n 0, 1) := by decide +kernel
theorem dX1_init_1 : decode cX1_init 1 = .ok (.invokespecial 3, 3) := by decide +kernel
theorem dX1_init_4 : decode cX1_init 4 = .ok (.aload_n 0, 1) := by decide +kernel
theorem dX1_init_5 : decode cX1_init 5 = .ok (.bipush 6, 2) := by decide +kernel
theorem dX1_init_7 : decode cX1_init 7 = .ok (.newarray .int, 2) := by decide +kernel
theorem dX1_init_9 : decode cX1_init 9 = .ok (.putfield 9, 3) := by decide +kernel
theorem dX1_init_12 : decode cX1_init 12 = .ok (.aload_n 0, 1) := by decide +kernel
theorem dX1_init_13 : decode cX1_init 13 = .ok (.bipush 6, 2) := by decide +kernel
theorem dX1_init_15 : decode cX1_init 15 = .ok (.newarray .int, 2) := by decide +kernel
theorem dX1_init_17 : decode cX1_init 17 = .ok (.putfield 15, 3) := by decide +kernel
theorem dX1_init_20 : decode cX1_init 20 = .ok (.aload_n 0, 1) := by decide +kernel
theorem dX1_init_21 : decode cX1_init 21 = .ok (.bipush 6, 2) := by decide +kernel
theorem dX1_init_23 : decode cX1_init 23 = .ok (.newarray .int, 2) := by decide +kernel
theorem dX1_init_25 : decode cX1_init 25 = .ok (.putfield 18, 3) := by decide +kernel
theorem dX1_init_28 : decode cX1_init 28 = .ok (.aload_n 0, 1) := by decide +kernel
theorem dX1_init_29 : decode cX1_init 29 = .ok (.bipush 6, 2) := by decide +kernel
theorem dX1_init_31 : decode cX1_init 31 = .ok (.newarray .int, 2) := by decide +kernel
theorem dX1_init_33 : decode cX1_init 33 = .ok (.putfield 21, 3) := by decide +kernel
theorem dX1_init_36 : decode cX1_init 36 = .ok (.aload_n 0, 1) := by decide +kernel
theorem dX1_init_37 : decode cX1_init 37 = .ok (.bipush 6, 2) := by decide +kernel
theorem dX1_init_39 : decode cX1_init 39 = .ok (.newarray .int, 2) := by decide +kernel
theorem dX1_init_41 : decode cX1_init 41 = .ok (.putfield 24, 3) := by decide +kernel
theorem dX1_init_44 : decode cX1_init 44 = .ok (.return_, 1) := by decide +kernel
theorem dX1_read_0 : decode cX1_read 0 = .ok (.aload_n 0, 1) := by decide +kernel
theorem dX1_read_1 : decode cX1_read 1 = .ok (.iconst 0, 1) := by decide +kernel
theorem dX1_read_2 : decode cX1_read 2 = .ok (.putfield 27, 3) := by decide +kernel
theorem dX1_read_5 : decode cX1_read 5 = .ok (.aload_n 0, 1) := by decide +kernel
theorem dX1_read_6 : decode cX1_read 6 = .ok (.iconst 0, 1) := by decide +kernel
theorem dX1_read_7 : decode cX1_read 7 = .ok (.putfield 31, 3) := by decide +kernel
theorem dX1_read_10 : decode cX1_read 10 = .ok (.aload_n 0, 1) := by decide +kernel
theorem dX1_read_11 : decode cX1_read 11 = .ok (.iconst 0, 1) := by decide +kernel
theorem dX1_read_12 : decode cX1_read 12 = .ok (.putfield 34, 3) := by decide +kernel
theorem dX1_read_15 : decode cX1_read 15 = .ok (.aload_n 0, 1) := by decide +kernel
theorem dX1_read_16 : decode cX1_read 16 = .ok (.iconst 0, 1) := by decide +kernel
theorem dX1_read_17 : decode cX1_read 17 = .ok (.putfield 37, 3) := by decide +kernel
theorem dX1_read_20 : decode cX1_read 20 = .ok (.aload_n 1, 1) := by decide +kernel
theorem dX1_read_21 : decode cX1_read 21 = .ok (.iload_n 2, 1) := by decide +kernel
theorem dX1_read_22 : decode cX1_read 22 = .ok (.iconst 0, 1) := by decide +kernel
theorem dX1_read_23 : decode cX1_read 23 = .ok (.invokestatic 40, 3) := by decide +kernel
theorem dX1_read_26 : decode cX1_read 26 = .ok (.istore_n 3, 1) := by decide +kernel
theorem dX1_read_27 : decode cX1_read 27 = .ok (.aload_n 1, 1) := by decide +kernel
theorem dX1_read_28 : decode cX1_read 28 = .ok (.iload_n 2, 1) := by decide +kernel
theorem dX1_read_29 : decode cX1_read 29 = .ok (.iload_n 3, 1) := by decide +kernel
theorem dX1_read_30 : decode cX1_read 30 = .ok (.invokevirtual 44, 3) := by decide +kernel
theorem dX1_read_33 : decode cX1_read 33 = .ok (.bipush 97, 2) := by decide +kernel
theorem dX1_read_35 : decode cX1_read 35 = .ok (.if_icmp .eq 5, 3) := by decide +kernel
theorem dX1_read_38 : decode cX1_read 38 = .ok (.iload_n 3, 1) := by decide +kernel
theorem dX1_read_39 : decode cX1_read 39 = .ok (.ireturn, 1) := by decide +kernel
theorem dX1_read_40 : decode cX1_read 40 = .ok (.aload_n 0, 1) := by decide +kernel
theorem dX1_read_41 : decode cX1_read 41 = .ok (.aload_n 1, 1) := by decide +kernel
theorem dX1_read_42 : decode cX1_read 42 = .ok (.iload_n 2, 1) := by decide +kernel
theorem dX1_read_43 : decode cX1_read 43 = .ok (.iload_n 3, 1) := by decide +kernel
theorem dX1_read_44 : decode cX1_read 44 = .ok (.iconst 1, 1) := by decide +kernel
theorem dX1_read_45 : decode cX1_read 45 = .ok (.iadd, 1) := by decide +kernel
theorem dX1_read_46 : decode cX1_read 46 = .ok (.invokestatic 50, 3) := by decide +kernel
theorem dX1_read_49 : decode cX1_read 49 = .ok (.putfield 53, 3) := by decide +kernel
theorem dX1_read_52 : decode cX1_read 52 = .ok (.aload_n 0, 1) := by decide +kernel
theorem dX1_read_53 : decode cX1_read 53 = .ok (.getfield 53, 3) := by decide +kernel
theorem dX1_read_56 : decode cX1_read 56 = .ok (.ifCond .ge 7, 3) := by decide +kernel
theorem dX1_read_59 : decode cX1_read 59 = .ok (.iload_n 3, 1) := by decide +kernel
theorem dX1_read_60 : decode cX1_read 60 = .ok (.iconst 1, 1) := by decide +kernel
theorem dX1_read_61 : decode cX1_read 61 = .ok (.iadd, 1) := by decide +kernel
theorem dX1_read_62 : decode cX1_read 62 = .ok (.ireturn, 1) := by decide +kernel
theorem dX1_read_63 : decode cX1_read 63 = .ok (.aload_n 0, 1) := by decide +kernel
theorem dX1_read_64 : decode cX1_read 64 = .ok (.aload_n 1, 1) := by decide +kernel
theorem dX1_read_65 : decode cX1_read 65 = .ok (.iload_n 2, 1) := by decide +kernel
theorem dX1_read_66 : decode cX1_read 66 = .ok (.iload_n 3, 1) := by decide +kernel
theorem dX1_read_67 : decode cX1_read 67 = .ok (.iconst 2, 1) := by decide +kernel
theorem dX1_read_68 : decode cX1_read 68 = .ok (.iadd, 1) := by decide +kernel
theorem dX1_read_69 : decode cX1_read 69 = .ok (.invokevirtual 56, 3) := by decide +kernel
theorem dX1_read_72 : decode cX1_read 72 = .ok (.istore_n 3, 1) := by decide +kernel
theorem dX1_read_73 : decode cX1_read 73 = .ok (.aload_n 0, 1) := by decide +kernel
theorem dX1_read_74 : decode cX1_read 74 = .ok (.getfield 27, 3) := by decide +kernel
theorem dX1_read_77 : decode cX1_read 77 = .ok (.ifCond .ne 5, 3) := by decide +kernel
theorem dX1_read_80 : decode cX1_read 80 = .ok (.iload_n 3, 1) := by decide +kernel
theorem dX1_read_81 : decode cX1_read 81 = .ok (.ireturn, 1) := by decide +kernel
theorem dX1_read_82 : decode cX1_read 82 = .ok (.iconst 0, 1) := by decide +kernel
theorem dX1_read_83 : decode cX1_read 83 = .ok (.istore 4, 2) := by decide +kernel
theorem dX1_read_85 : decode cX1_read 85 = .ok (.iload 4, 2) := by decide +kernel
theorem dX1_read_87 : decode cX1_read 87 = .ok (.bipush 6, 2) := by decide +kernel
theorem dX1_read_89 : decode cX1_read 89 = .ok (.if_icmp .gt 64, 3) := by decide +kernel
theorem dX1_read_92 : decode cX1_read 92 = .ok (.aload_n 1, 1) := by decide +kernel
theorem dX1_read_93 : decode cX1_read 93 = .ok (.iload_n 2, 1) := by decide +kernel
theorem dX1_read_94 : decode cX1_read 94 = .ok (.iload_n 3, 1) := by decide +kernel
theorem dX1_read_95 : decode cX1_read 95 = .ok (.invokestatic 40, 3) := by decide +kernel
theorem dX1_read_98 : decode cX1_read 98 = .ok (.istore_n 3, 1) := by decide +kernel
theorem dX1_read_99 : decode cX1_read 99 = .ok (.iload_n 3, 1) := by decide +kernel
theorem dX1_read_100 : decode cX1_read 100 = .ok (.aload_n 1, 1) := by decide +kernel
theorem dX1_read_101 : decode cX1_read 101 = .ok (.iload_n 2, 1) := by decide +kernel
theorem dX1_read_102 : decode cX1_read 102 = .ok (.invokevirtual 59, 3) := by decide +kernel
theorem dX1_read_105 : decode cX1_read 105 = .ok (.if_icmp .lt 17, 3) := by decide +kernel
theorem dX1_read_108 : decode cX1_read 108 = .ok (.aload_n 0, 1) := by decide +kernel
theorem dX1_read_109 : decode cX1_read 109 = .ok (.getfield 31, 3) := by decide +kernel
theorem dX1_read_112 : decode cX1_read 112 = .ok (.ifCond .ne 7, 3) := by decide +kernel
theorem dX1_read_115 : decode cX1_read 115 = .ok (.iload_n 3, 1) := by decide +kernel
theorem dX1_read_116 : decode cX1_read 116 = .ok (.goto 5, 3) := by decide +kernel
theorem dX1_read_119 : decode cX1_read 119 = .ok (.bipush (-9), 2) := by decide +kernel
theorem dX1_read_121 : decode cX1_read 121 = .ok (.ireturn, 1) := by decide +kernel
theorem dX1_read_122 : decode cX1_read 122 = .ok (.aload_n 0, 1) := by decide +kernel
theorem dX1_read_123 : decode cX1_read 123 = .ok (.aload_n 1, 1) := by decide +kernel
theorem dX1_read_124 : decode cX1_read 124 = .ok (.iload_n 2, 1) := by decide +kernel
theorem dX1_read_125 : decode cX1_read 125 = .ok (.iload_n 3, 1) := by decide +kernel
theorem dX1_read_126 : decode cX1_read 126 = .ok (.invokevirtual 63, 3) := by decide +kernel
theorem dX1_read_129 : decode cX1_read 129 = .ok (.istore 5, 2) := by decide +kernel
theorem dX1_read_131 : decode cX1_read 131 = .ok (.iload 5, 2) := by decide +kernel
theorem dX1_read_133 : decode cX1_read 133 = .ok (.iconst 4, 1) := by decide +kernel
theorem dX1_read_134 : decode cX1_read 134 = .ok (.if_icmp .ge 8, 3) := by decide +kernel
theorem dX1_read_137 : decode cX1_read 137 = .ok (.iload_n 3, 1) := by decide +kernel
theorem dX1_read_138 : decode cX1_read 138 = .ok (.iload 5, 2) := by decide +kernel
theorem dX1_read_140 : decode cX1_read 140 = .ok (.iadd, 1) := by decide +kernel
theorem dX1_read_141 : decode cX1_read 141 = .ok (.ireturn, 1) := by decide +kernel
theorem dX1_read_142 : decode cX1_read 142 = .ok (.iload_n 3, 1) := by decide +kernel
theorem dX1_read_143 : decode cX1_read 143 = .ok (.iload 5, 2) := by decide +kernel
theorem dX1_read_145 : decode cX1_read 145 = .ok (.iadd, 1) := by decide +kernel
theorem dX1_read_146 : decode cX1_read 146 = .ok (.istore_n 3, 1) := by decide +kernel
theorem dX1_read_147 : decode cX1_read 147 = .ok (.iinc 4 1, 3) := by decide +kernel
theorem dX1_read_150 : decode cX1_read 150 = .ok (.goto (-65), 3) := by decide +kernel
theorem dX1_read_153 : decode cX1_read 153 = .ok (.iload_n 3, 1) := by decide +kernel
theorem dX1_read_154 : decode cX1_read 154 = .ok (.ireturn, 1) := by decide +kernel
theorem dX1_readLines_0 : decode cX1_readLines 0 = .ok (.iload_n 3, 1) := by decide +kernel
theorem dX1_readLines_1 : decode cX1_readLines 1 = .ok (.istore 4, 2) := by decide +kernel
theorem dX1_readLines_3 : decode cX1_readLines 3 = .ok (.iconst 0, 1) := by decide +kernel
theorem dX1_readLines_4 : decode cX1_readLines 4 = .ok (.istore 5, 2) := by decide +kernel
theorem dX1_readLines_6 : decode cX1_readLines 6 = .ok (.iload 5, 2) := by decide +kernel
theorem dX1_readLines_8 : decode cX1_readLines 8 = .ok (.bipush 6, 2) := by decide +kernel
theorem dX1_readLines_10 : decode cX1_readLines 10 = .ok (.if_icmp .ge 44, 3) := by decide +kernel
theorem dX1_readLines_13 : decode cX1_readLines 13 = .ok (.aload_n 1, 1) := by decide +kernel
theorem dX1_readLines_14 : decode cX1_readLines 14 = .ok (.iload_n 2, 1) := by decide +kernel
theorem dX1_readLines_15 : decode cX1_readLines 15 = .ok (.iload 4, 2) := by decide +kernel
theorem dX1_readLines_17 : decode cX1_readLines 17 = .ok (.invokestatic 50, 3) := by decide +kernel
theorem dX1_readLines_20 : decode cX1_readLines 20 = .ok (.ifCond .le 34, 3) := by decide +kernel
theorem dX1_readLines_23 : decode cX1_readLines 23 = .ok (.aload_n 0, 1) := by decide +kernel
theorem dX1_readLines_24 : decode cX1_readLines 24 = .ok (.getfield 9, 3) := by decide +kernel
theorem dX1_readLines_27 : decode cX1_readLines 27 = .ok (.iload 5, 2) := by decide +kernel
theorem dX1_readLines_29 : decode cX1_readLines 29 = .ok (.aload_n 1, 1) := by decide +kernel
theorem dX1_readLines_30 : decode cX1_readLines 30 = .ok (.iload_n 2, 1) := by decide +kernel
theorem dX1_readLines_31 : decode cX1_readLines 31 = .ok (.iload 4, 2) := by decide +kernel
theorem dX1_readLines_33 : decode cX1_readLines 33 = .ok (.invokestatic 50, 3) := by decide +kernel
theorem dX1_readLines_36 : decode cX1_readLines 36 = .ok (.iastore, 1) := by decide +kernel
theorem dX1_readLines_37 : decode cX1_readLines 37 = .ok (.aload_n 0, 1) := by decide +kernel
theorem dX1_readLines_38 : decode cX1_readLines 38 = .ok (.iload 5, 2) := by decide +kernel
theorem dX1_readLines_40 : decode cX1_readLines 40 = .ok (.iconst 1, 1) := by decide +kernel
theorem dX1_readLines_41 : decode cX1_readLines 41 = .ok (.iadd, 1) := by decide +kernel
theorem dX1_readLines_42 : decode cX1_readLines 42 = .ok (.putfield 27, 3) := by decide +kernel
theorem dX1_readLines_45 : decode cX1_readLines 45 = .ok (.iinc 4 1, 3) := by decide +kernel
theorem dX1_readLines_48 : decode cX1_readLines 48 = .ok (.iinc 5 1, 3) := by decide +kernel
theorem dX1_readLines_51 : decode cX1_readLines 51 = .ok (.goto (-45), 3) := by decide +kernel
theorem dX1_readLines_54 : decode cX1_readLines 54 = .ok (.iload 4, 2) := by decide +kernel
theorem dX1_readLines_56 : decode cX1_readLines 56 = .ok (.ireturn, 1) := by decide +kernel
theorem dX1_readSitter_0 : decode cX1_readSitter 0 = .ok (.aload_n 0, 1) := by decide +kernel
theorem dX1_readSitter_1 : decode cX1_readSitter 1 = .ok (.getfield 31, 3) := by decide +kernel
theorem dX1_readSitter_4 : decode cX1_readSitter 4 = .ok (.istore 4, 2) := by decide +kernel
theorem dX1_readSitter_6 : decode cX1_readSitter 6 = .ok (.aload_n 1, 1) := by decide +kernel
theorem dX1_readSitter_7 : decode cX1_readSitter 7 = .ok (.iload_n 2, 1) := by decide +kernel
theorem dX1_readSitter_8 : decode cX1_readSitter 8 = .ok (.iload_n 3, 1) := by decide +kernel
theorem dX1_readSitter_9 : decode cX1_readSitter 9 = .ok (.invokestatic 66, 3) := by decide +kernel
theorem dX1_readSitter_12 : decode cX1_readSitter 12 = .ok (.istore 5, 2) := by decide +kernel
theorem dX1_readSitter_14 : decode cX1_readSitter 14 = .ok (.iload 4, 2) := by decide +kernel
theorem dX1_readSitter_16 : decode cX1_readSitter 16 = .ok (.bipush 6, 2) := by decide +kernel
theorem dX1_readSitter_18 : decode cX1_readSitter 18 = .ok (.if_icmp .ge 10, 3) := by decide +kernel
theorem dX1_readSitter_21 : decode cX1_readSitter 21 = .ok (.iload 5, 2) := by decide +kernel
theorem dX1_readSitter_23 : decode cX1_readSitter 23 = .ok (.bipush (-9), 2) := by decide +kernel
theorem dX1_readSitter_25 : decode cX1_readSitter 25 = .ok (.if_icmp .ne 5, 3) := by decide +kernel
theorem dX1_readSitter_28 : decode cX1_readSitter 28 = .ok (.iconst 0, 1) := by decide +kernel
theorem dX1_readSitter_29 : decode cX1_readSitter 29 = .ok (.ireturn, 1) := by decide +kernel
theorem dX1_readSitter_30 : decode cX1_readSitter 30 = .ok (.aload_n 1, 1) := by decide +kernel
theorem dX1_readSitter_31 : decode cX1_readSitter 31 = .ok (.iload_n 2, 1) := by decide +kernel
theorem dX1_readSitter_32 : decode cX1_readSitter 32 = .ok (.iload_n 3, 1) := by decide +kernel
theorem dX1_readSitter_33 : decode cX1_readSitter 33 = .ok (.iconst 1, 1) := by decide +kernel
theorem dX1_readSitter_34 : decode cX1_readSitter 34 = .ok (.iadd, 1) := by decide +kernel
theorem dX1_readSitter_35 : decode cX1_readSitter 35 = .ok (.invokestatic 50, 3) := by decide +kernel
theorem dX1_readSitter_38 : decode cX1_readSitter 38 = .ok (.istore 6, 2) := by decide +kernel
theorem dX1_readSitter_40 : decode cX1_readSitter 40 = .ok (.iload 6, 2) := by decide +kernel
theorem dX1_readSitter_42 : decode cX1_readSitter 42 = .ok (.ifCond .lt 15, 3) := by decide +kernel
theorem dX1_readSitter_45 : decode cX1_readSitter 45 = .ok (.aload_n 0, 1) := by decide +kernel
theorem dX1_readSitter_46 : decode cX1_readSitter 46 = .ok (.getfield 34, 3) := by decide +kernel
theorem dX1_readSitter_49 : decode cX1_readSitter 49 = .ok (.iload 6, 2) := by decide +kernel
theorem dX1_readSitter_51 : decode cX1_readSitter 51 = .ok (.invokestatic 69, 3) := by decide +kernel
theorem dX1_readSitter_54 : decode cX1_readSitter 54 = .ok (.ifCond .eq 5, 3) := by decide +kernel
theorem dX1_readSitter_57 : decode cX1_readSitter 57 = .ok (.iconst 1, 1) := by decide +kernel
theorem dX1_readSitter_58 : decode cX1_readSitter 58 = .ok (.ireturn, 1) := by decide +kernel
theorem dX1_readSitter_59 : decode cX1_readSitter 59 = .ok (.aload_n 0, 1) := by decide +kernel
theorem dX1_readSitter_60 : decode cX1_readSitter 60 = .ok (.getfield 15, 3) := by decide +kernel
theorem dX1_readSitter_63 : decode cX1_readSitter 63 = .ok (.iload 4, 2) := by decide +kernel
theorem dX1_readSitter_65 : decode cX1_readSitter 65 = .ok (.iload 5, 2) := by decide +kernel
theorem dX1_readSitter_67 : decode cX1_readSitter 67 = .ok (.iastore, 1) := by decide +kernel
theorem dX1_readSitter_68 : decode cX1_readSitter 68 = .ok (.aload_n 0, 1) := by decide +kernel
theorem dX1_readSitter_69 : decode cX1_readSitter 69 = .ok (.getfield 18, 3) := by decide +kernel
theorem dX1_readSitter_72 : decode cX1_readSitter 72 = .ok (.iload 4, 2) := by decide +kernel
theorem dX1_readSitter_74 : decode cX1_readSitter 74 = .ok (.iload 6, 2) := by decide +kernel
theorem dX1_readSitter_76 : decode cX1_readSitter 76 = .ok (.iastore, 1) := by decide +kernel
theorem dX1_readSitter_77 : decode cX1_readSitter 77 = .ok (.aload_n 0, 1) := by decide +kernel
theorem dX1_readSitter_78 : decode cX1_readSitter 78 = .ok (.getfield 21, 3) := by decide +kernel
theorem dX1_readSitter_81 : decode cX1_readSitter 81 = .ok (.iload 4, 2) := by decide +kernel
theorem dX1_readSitter_83 : decode cX1_readSitter 83 = .ok (.aload_n 1, 1) := by decide +kernel
theorem dX1_readSitter_84 : decode cX1_readSitter 84 = .ok (.iload_n 2, 1) := by decide +kernel
theorem dX1_readSitter_85 : decode cX1_readSitter 85 = .ok (.iload_n 3, 1) := by decide +kernel
theorem dX1_readSitter_86 : decode cX1_readSitter 86 = .ok (.iconst 2, 1) := by decide +kernel
theorem dX1_readSitter_87 : decode cX1_readSitter 87 = .ok (.iadd, 1) := by decide +kernel
theorem dX1_readSitter_88 : decode cX1_readSitter 88 = .ok (.invokestatic 50, 3) := by decide +kernel
theorem dX1_readSitter_91 : decode cX1_readSitter 91 = .ok (.iastore, 1) := by decide +kernel
theorem dX1_readSitter_92 : decode cX1_readSitter 92 = .ok (.aload_n 0, 1) := by decide +kernel
theorem dX1_readSitter_93 : decode cX1_readSitter 93 = .ok (.getfield 24, 3) := by decide +kernel
theorem dX1_readSitter_96 : decode cX1_readSitter 96 = .ok (.iload 4, 2) := by decide +kernel
theorem dX1_readSitter_98 : decode cX1_readSitter 98 = .ok (.aload_n 1, 1) := by decide +kernel
theorem dX1_readSitter_99 : decode cX1_readSitter 99 = .ok (.iload_n 2, 1) := by decide +kernel
theorem dX1_readSitter_100 : decode cX1_readSitter 100 = .ok (.iload_n 3, 1) := by decide +kernel
theorem dX1_readSitter_101 : decode cX1_readSitter 101 = .ok (.iconst 3, 1) := by decide +kernel
theorem dX1_readSitter_102 : decode cX1_readSitter 102 = .ok (.iadd, 1) := by decide +kernel
theorem dX1_readSitter_103 : decode cX1_readSitter 103 = .ok (.invokestatic 50, 3) := by decide +kernel
theorem dX1_readSitter_106 : decode cX1_readSitter 106 = .ok (.iastore, 1) := by decide +kernel
theorem dX1_readSitter_107 : decode cX1_readSitter 107 = .ok (.aload_n 0, 1) := by decide +kernel
theorem dX1_readSitter_108 : decode cX1_readSitter 108 = .ok (.getfield 21, 3) := by decide +kernel
theorem dX1_readSitter_111 : decode cX1_readSitter 111 = .ok (.iload 4, 2) := by decide +kernel
theorem dX1_readSitter_113 : decode cX1_readSitter 113 = .ok (.iaload, 1) := by decide +kernel
theorem dX1_readSitter_114 : decode cX1_readSitter 114 = .ok (.ifCond .ge 5, 3) := by decide +kernel
theorem dX1_readSitter_117 : decode cX1_readSitter 117 = .ok (.iconst 2, 1) := by decide +kernel
theorem dX1_readSitter_118 : decode cX1_readSitter 118 = .ok (.ireturn, 1) := by decide +kernel
theorem dX1_readSitter_119 : decode cX1_readSitter 119 = .ok (.aload_n 0, 1) := by decide +kernel
theorem dX1_readSitter_120 : decode cX1_readSitter 120 = .ok (.getfield 24, 3) := by decide +kernel
theorem dX1_readSitter_123 : decode cX1_readSitter 123 = .ok (.iload 4, 2) := by decide +kernel
theorem dX1_readSitter_125 : decode cX1_readSitter 125 = .ok (.iaload, 1) := by decide +kernel
theorem dX1_readSitter_126 : decode cX1_readSitter 126 = .ok (.ifCond .ge 5, 3) := by decide +kernel
theorem dX1_readSitter_129 : decode cX1_readSitter 129 = .ok (.iconst 3, 1) := by decide +kernel
theorem dX1_readSitter_130 : decode cX1_readSitter 130 = .ok (.ireturn, 1) := by decide +kernel
theorem dX1_readSitter_131 : decode cX1_readSitter 131 = .ok (.aload_n 0, 1) := by decide +kernel
theorem dX1_readSitter_132 : decode cX1_readSitter 132 = .ok (.dup, 1) := by decide +kernel
theorem dX1_readSitter_133 : decode cX1_readSitter 133 = .ok (.getfield 34, 3) := by decide +kernel
theorem dX1_readSitter_136 : decode cX1_readSitter 136 = .ok (.iconst 1, 1) := by decide +kernel
theorem dX1_readSitter_137 : decode cX1_readSitter 137 = .ok (.iload 6, 2) := by decide +kernel
theorem dX1_readSitter_139 : decode cX1_readSitter 139 = .ok (.ishl, 1) := by decide +kernel
theorem dX1_readSitter_140 : decode cX1_readSitter 140 = .ok (.ior, 1) := by decide +kernel
theorem dX1_readSitter_141 : decode cX1_readSitter 141 = .ok (.putfield 34, 3) := by decide +kernel
theorem dX1_readSitter_144 : decode cX1_readSitter 144 = .ok (.aload_n 0, 1) := by decide +kernel
theorem dX1_readSitter_145 : decode cX1_readSitter 145 = .ok (.dup, 1) := by decide +kernel
theorem dX1_readSitter_146 : decode cX1_readSitter 146 = .ok (.getfield 37, 3) := by decide +kernel
theorem dX1_readSitter_149 : decode cX1_readSitter 149 = .ok (.iload 5, 2) := by decide +kernel
theorem dX1_readSitter_151 : decode cX1_readSitter 151 = .ok (.iconst 5, 1) := by decide +kernel
theorem dX1_readSitter_152 : decode cX1_readSitter 152 = .ok (.if_icmp .ne 10, 3) := by decide +kernel
theorem dX1_readSitter_155 : decode cX1_readSitter 155 = .ok (.iconst 1, 1) := by decide +kernel
theorem dX1_readSitter_156 : decode cX1_readSitter 156 = .ok (.iload 4, 2) := by decide +kernel
theorem dX1_readSitter_158 : decode cX1_readSitter 158 = .ok (.ishl, 1) := by decide +kernel
theorem dX1_readSitter_159 : decode cX1_readSitter 159 = .ok (.goto 4, 3) := by decide +kernel
theorem dX1_readSitter_162 : decode cX1_readSitter 162 = .ok (.iconst 0, 1) := by decide +kernel
theorem dX1_readSitter_163 : decode cX1_readSitter 163 = .ok (.ior, 1) := by decide +kernel
theorem dX1_readSitter_164 : decode cX1_readSitter 164 = .ok (.putfield 37, 3) := by decide +kernel
theorem dX1_readSitter_167 : decode cX1_readSitter 167 = .ok (.aload_n 0, 1) := by decide +kernel
theorem dX1_readSitter_168 : decode cX1_readSitter 168 = .ok (.iload 4, 2) := by decide +kernel
theorem dX1_readSitter_170 : decode cX1_readSitter 170 = .ok (.iconst 1, 1) := by decide +kernel
theorem dX1_readSitter_171 : decode cX1_readSitter 171 = .ok (.iadd, 1) := by decide +kernel
theorem dX1_readSitter_172 : decode cX1_readSitter 172 = .ok (.putfield 31, 3) := by decide +kernel
theorem dX1_readSitter_175 : decode cX1_readSitter 175 = .ok (.iconst 4, 1) := by decide +kernel
theorem dX1_readSitter_176 : decode cX1_readSitter 176 = .ok (.ireturn, 1) := by decide +kernel
theorem dX1_figureAt_0 : decode cX1_figureAt 0 = .ok (.aload_n 0, 1) := by decide +kernel
theorem dX1_figureAt_1 : decode cX1_figureAt 1 = .ok (.iload_n 1, 1) := by decide +kernel
theorem dX1_figureAt_2 : decode cX1_figureAt 2 = .ok (.iload_n 2, 1) := by decide +kernel
theorem dX1_figureAt_3 : decode cX1_figureAt 3 = .ok (.invokevirtual 44, 3) := by decide +kernel
theorem dX1_figureAt_6 : decode cX1_figureAt 6 = .ok (.istore_n 3, 1) := by decide +kernel
theorem dX1_figureAt_7 : decode cX1_figureAt 7 = .ok (.iload_n 3, 1) := by decide +kernel
theorem dX1_figureAt_8 : decode cX1_figureAt 8 = .ok (.bipush 48, 2) := by decide +kernel
theorem dX1_figureAt_10 : decode cX1_figureAt 10 = .ok (.if_icmp .lt 16, 3) := by decide +kernel
theorem dX1_figureAt_13 : decode cX1_figureAt 13 = .ok (.iload_n 3, 1) := by decide +kernel
theorem dX1_figureAt_14 : decode cX1_figureAt 14 = .ok (.bipush 57, 2) := by decide +kernel
theorem dX1_figureAt_16 : decode cX1_figureAt 16 = .ok (.if_icmp .gt 10, 3) := by decide +kernel
theorem dX1_figureAt_19 : decode cX1_figureAt 19 = .ok (.iload_n 3, 1) := by decide +kernel
theorem dX1_figureAt_20 : decode cX1_figureAt 20 = .ok (.bipush 48, 2) := by decide +kernel
theorem dX1_figureAt_22 : decode cX1_figureAt 22 = .ok (.isub, 1) := by decide +kernel
theorem dX1_figureAt_23 : decode cX1_figureAt 23 = .ok (.goto 5, 3) := by decide +kernel
theorem dX1_figureAt_26 : decode cX1_figureAt 26 = .ok (.bipush (-9), 2) := by decide +kernel
theorem dX1_figureAt_28 : decode cX1_figureAt 28 = .ok (.ireturn, 1) := by decide +kernel
theorem dX1_kindAt_0 : decode cX1_kindAt 0 = .ok (.aload_n 0, 1) := by decide +kernel
theorem dX1_kindAt_1 : decode cX1_kindAt 1 = .ok (.iload_n 1, 1) := by decide +kernel
theorem dX1_kindAt_2 : decode cX1_kindAt 2 = .ok (.iload_n 2, 1) := by decide +kernel
theorem dX1_kindAt_3 : decode cX1_kindAt 3 = .ok (.invokevirtual 44, 3) := by decide +kernel
theorem dX1_kindAt_6 : decode cX1_kindAt 6 = .ok (.istore_n 3, 1) := by decide +kernel
theorem dX1_kindAt_7 : decode cX1_kindAt 7 = .ok (.iconst 0, 1) := by decide +kernel
theorem dX1_kindAt_8 : decode cX1_kindAt 8 = .ok (.istore 4, 2) := by decide +kernel
theorem dX1_kindAt_10 : decode cX1_kindAt 10 = .ok (.iload 4, 2) := by decide +kernel
theorem dX1_kindAt_12 : decode cX1_kindAt 12 = .ok (.getstatic 73, 3) := by decide +kernel
theorem dX1_kindAt_15 : decode cX1_kindAt 15 = .ok (.arraylength, 1) := by decide +kernel
theorem dX1_kindAt_16 : decode cX1_kindAt 16 = .ok (.if_icmp .ge 22, 3) := by decide +kernel
theorem dX1_kindAt_19 : decode cX1_kindAt 19 = .ok (.getstatic 73, 3) := by decide +kernel
theorem dX1_kindAt_22 : decode cX1_kindAt 22 = .ok (.iload 4, 2) := by decide +kernel
theorem dX1_kindAt_24 : decode cX1_kindAt 24 = .ok (.caload, 1) := by decide +kernel
theorem dX1_kindAt_25 : decode cX1_kindAt 25 = .ok (.iload_n 3, 1) := by decide +kernel
theorem dX1_kindAt_26 : decode cX1_kindAt 26 = .ok (.if_icmp .ne 6, 3) := by decide +kernel
theorem dX1_kindAt_29 : decode cX1_kindAt 29 = .ok (.iload 4, 2) := by decide +kernel
theorem dX1_kindAt_31 : decode cX1_kindAt 31 = .ok (.ireturn, 1) := by decide +kernel
theorem dX1_kindAt_32 : decode cX1_kindAt 32 = .ok (.iinc 4 1, 3) := by decide +kernel
theorem dX1_kindAt_35 : decode cX1_kindAt 35 = .ok (.goto (-25), 3) := by decide +kernel
theorem dX1_kindAt_38 : decode cX1_kindAt 38 = .ok (.bipush (-9), 2) := by decide +kernel
theorem dX1_kindAt_40 : decode cX1_kindAt 40 = .ok (.ireturn, 1) := by decide +kernel
theorem dX1_pastBlanks_0 : decode cX1_pastBlanks 0 = .ok (.iload_n 2, 1) := by decide +kernel
theorem dX1_pastBlanks_1 : decode cX1_pastBlanks 1 = .ok (.istore_n 3, 1) := by decide +kernel
theorem dX1_pastBlanks_2 : decode cX1_pastBlanks 2 = .ok (.iload_n 3, 1) := by decide +kernel
theorem dX1_pastBlanks_3 : decode cX1_pastBlanks 3 = .ok (.aload_n 0, 1) := by decide +kernel
theorem dX1_pastBlanks_4 : decode cX1_pastBlanks 4 = .ok (.iload_n 1, 1) := by decide +kernel
theorem dX1_pastBlanks_5 : decode cX1_pastBlanks 5 = .ok (.invokevirtual 59, 3) := by decide +kernel
theorem dX1_pastBlanks_8 : decode cX1_pastBlanks 8 = .ok (.if_icmp .ge 20, 3) := by decide +kernel
theorem dX1_pastBlanks_11 : decode cX1_pastBlanks 11 = .ok (.aload_n 0, 1) := by decide +kernel
theorem dX1_pastBlanks_12 : decode cX1_pastBlanks 12 = .ok (.iload_n 1, 1) := by decide +kernel
theorem dX1_pastBlanks_13 : decode cX1_pastBlanks 13 = .ok (.iload_n 3, 1) := by decide +kernel
theorem dX1_pastBlanks_14 : decode cX1_pastBlanks 14 = .ok (.invokevirtual 44, 3) := by decide +kernel
theorem dX1_pastBlanks_17 : decode cX1_pastBlanks 17 = .ok (.bipush 32, 2) := by decide +kernel
theorem dX1_pastBlanks_19 : decode cX1_pastBlanks 19 = .ok (.if_icmp .ne 9, 3) := by decide +kernel
theorem dX1_pastBlanks_22 : decode cX1_pastBlanks 22 = .ok (.iinc 3 1, 3) := by decide +kernel
theorem dX1_pastBlanks_25 : decode cX1_pastBlanks 25 = .ok (.goto (-23), 3) := by decide +kernel
theorem dX1_pastBlanks_28 : decode cX1_pastBlanks 28 = .ok (.iload_n 3, 1) := by decide +kernel
theorem dX1_pastBlanks_29 : decode cX1_pastBlanks 29 = .ok (.ireturn, 1) := by decide +kernel
theorem dX1_isSitter_0 : decode cX1_isSitter 0 = .ok (.iload_n 1, 1) := by decide +kernel
theorem dX1_isSitter_1 : decode cX1_isSitter 1 = .ok (.ifCond .lt 15, 3) := by decide +kernel
theorem dX1_isSitter_4 : decode cX1_isSitter 4 = .ok (.iload_n 1, 1) := by decide +kernel
theorem dX1_isSitter_5 : decode cX1_isSitter 5 = .ok (.aload_n 0, 1) := by decide +kernel
theorem dX1_isSitter_6 : decode cX1_isSitter 6 = .ok (.getfield 31, 3) := by decide +kernel
theorem dX1_isSitter_9 : decode cX1_isSitter 9 = .ok (.if_icmp .ge 7, 3) := by decide +kernel
theorem dX1_isSitter_12 : decode cX1_isSitter 12 = .ok (.iconst 1, 1) := by decide +kernel
theorem dX1_isSitter_13 : decode cX1_isSitter 13 = .ok (.goto 4, 3) := by decide +kernel
theorem dX1_isSitter_16 : decode cX1_isSitter 16 = .ok (.iconst 0, 1) := by decide +kernel
theorem dX1_isSitter_17 : decode cX1_isSitter 17 = .ok (.ireturn, 1) := by decide +kernel
theorem dX1_clerkCount_0 : decode cX1_clerkCount 0 = .ok (.iconst 0, 1) := by decide +kernel
theorem dX1_clerkCount_1 : decode cX1_clerkCount 1 = .ok (.istore_n 1, 1) := by decide +kernel
theorem dX1_clerkCount_2 : decode cX1_clerkCount 2 = .ok (.iconst 0, 1) := by decide +kernel
theorem dX1_clerkCount_3 : decode cX1_clerkCount 3 = .ok (.istore_n 2, 1) := by decide +kernel
theorem dX1_clerkCount_4 : decode cX1_clerkCount 4 = .ok (.iload_n 2, 1) := by decide +kernel
theorem dX1_clerkCount_5 : decode cX1_clerkCount 5 = .ok (.aload_n 0, 1) := by decide +kernel
theorem dX1_clerkCount_6 : decode cX1_clerkCount 6 = .ok (.getfield 31, 3) := by decide +kernel
theorem dX1_clerkCount_9 : decode cX1_clerkCount 9 = .ok (.if_icmp .ge 30, 3) := by decide +kernel
theorem dX1_clerkCount_12 : decode cX1_clerkCount 12 = .ok (.iload_n 1, 1) := by decide +kernel
theorem dX1_clerkCount_13 : decode cX1_clerkCount 13 = .ok (.aload_n 0, 1) := by decide +kernel
theorem dX1_clerkCount_14 : decode cX1_clerkCount 14 = .ok (.getfield 15, 3) := by decide +kernel
theorem dX1_clerkCount_17 : decode cX1_clerkCount 17 = .ok (.iload_n 2, 1) := by decide +kernel
theorem dX1_clerkCount_18 : decode cX1_clerkCount 18 = .ok (.iaload, 1) := by decide +kernel
theorem dX1_clerkCount_19 : decode cX1_clerkCount 19 = .ok (.iconst 1, 1) := by decide +kernel
theorem dX1_clerkCount_20 : decode cX1_clerkCount 20 = .ok (.invokestatic 77, 3) := by decide +kernel
theorem dX1_clerkCount_23 : decode cX1_clerkCount 23 = .ok (.ifCond .eq 7, 3) := by decide +kernel
theorem dX1_clerkCount_26 : decode cX1_clerkCount 26 = .ok (.iconst 1, 1) := by decide +kernel
theorem dX1_clerkCount_27 : decode cX1_clerkCount 27 = .ok (.goto 4, 3) := by decide +kernel
theorem dX1_clerkCount_30 : decode cX1_clerkCount 30 = .ok (.iconst 0, 1) := by decide +kernel
theorem dX1_clerkCount_31 : decode cX1_clerkCount 31 = .ok (.iadd, 1) := by decide +kernel
theorem dX1_clerkCount_32 : decode cX1_clerkCount 32 = .ok (.istore_n 1, 1) := by decide +kernel
theorem dX1_clerkCount_33 : decode cX1_clerkCount 33 = .ok (.iinc 2 1, 3) := by decide +kernel
theorem dX1_clerkCount_36 : decode cX1_clerkCount 36 = .ok (.goto (-32), 3) := by decide +kernel
theorem dX1_clerkCount_39 : decode cX1_clerkCount 39 = .ok (.iload_n 1, 1) := by decide +kernel
theorem dX1_clerkCount_40 : decode cX1_clerkCount 40 = .ok (.ireturn, 1) := by decide +kernel
theorem dX1_otherClaques_0 : decode cX1_otherClaques 0 = .ok (.aload_n 0, 1) := by decide +kernel
theorem dX1_otherClaques_1 : decode cX1_otherClaques 1 = .ok (.getfield 37, 3) := by decide +kernel
theorem dX1_otherClaques_4 : decode cX1_otherClaques 4 = .ok (.iload_n 2, 1) := by decide +kernel
theorem dX1_otherClaques_5 : decode cX1_otherClaques 5 = .ok (.iconst (-1), 1) := by decide +kernel
theorem dX1_otherClaques_6 : decode cX1_otherClaques 6 = .ok (.ixor, 1) := by decide +kernel
theorem dX1_otherClaques_7 : decode cX1_otherClaques 7 = .ok (.iand, 1) := by decide +kernel
theorem dX1_otherClaques_8 : decode cX1_otherClaques 8 = .ok (.iconst 1, 1) := by decide +kernel
theorem dX1_otherClaques_9 : decode cX1_otherClaques 9 = .ok (.iload_n 1, 1) := by decide +kernel
theorem dX1_otherClaques_10 : decode cX1_otherClaques 10 = .ok (.ishl, 1) := by decide +kernel
theorem dX1_otherClaques_11 : decode cX1_otherClaques 11 = .ok (.iconst (-1), 1) := by decide +kernel
theorem dX1_otherClaques_12 : decode cX1_otherClaques 12 = .ok (.ixor, 1) := by decide +kernel
theorem dX1_otherClaques_13 : decode cX1_otherClaques 13 = .ok (.iand, 1) := by decide +kernel
theorem dX1_otherClaques_14 : decode cX1_otherClaques 14 = .ok (.invokestatic 80, 3) := by decide +kernel
theorem dX1_otherClaques_17 : decode cX1_otherClaques 17 = .ok (.ireturn, 1) := by decide +kernel
theorem dX1_lacking_0 : decode cX1_lacking 0 = .ok (.aload_n 0, 1) := by decide +kernel
theorem dX1_lacking_1 : decode cX1_lacking 1 = .ok (.iload_n 1, 1) := by decide +kernel
theorem dX1_lacking_2 : decode cX1_lacking 2 = .ok (.invokevirtual 85, 3) := by decide +kernel
theorem dX1_lacking_5 : decode cX1_lacking 5 = .ok (.ifCond .eq 15, 3) := by decide +kernel
theorem dX1_lacking_8 : decode cX1_lacking 8 = .ok (.iload_n 2, 1) := by decide +kernel
theorem dX1_lacking_9 : decode cX1_lacking 9 = .ok (.ifCond .lt 11, 3) := by decide +kernel
theorem dX1_lacking_12 : decode cX1_lacking 12 = .ok (.iload_n 2, 1) := by decide +kernel
theorem dX1_lacking_13 : decode cX1_lacking 13 = .ok (.aload_n 0, 1) := by decide +kernel
theorem dX1_lacking_14 : decode cX1_lacking 14 = .ok (.getfield 27, 3) := by decide +kernel
theorem dX1_lacking_17 : decode cX1_lacking 17 = .ok (.if_icmp .lt 5, 3) := by decide +kernel
theorem dX1_lacking_20 : decode cX1_lacking 20 = .ok (.iconst 0, 1) := by decide +kernel
theorem dX1_lacking_21 : decode cX1_lacking 21 = .ok (.ireturn, 1) := by decide +kernel
theorem dX1_lacking_22 : decode cX1_lacking 22 = .ok (.aload_n 0, 1) := by decide +kernel
theorem dX1_lacking_23 : decode cX1_lacking 23 = .ok (.getfield 15, 3) := by decide +kernel
theorem dX1_lacking_26 : decode cX1_lacking 26 = .ok (.iload_n 1, 1) := by decide +kernel
theorem dX1_lacking_27 : decode cX1_lacking 27 = .ok (.iaload, 1) := by decide +kernel
theorem dX1_lacking_28 : decode cX1_lacking 28 = .ok (.aload_n 0, 1) := by decide +kernel
theorem dX1_lacking_29 : decode cX1_lacking 29 = .ok (.getfield 21, 3) := by decide +kernel
theorem dX1_lacking_32 : decode cX1_lacking 32 = .ok (.iload_n 1, 1) := by decide +kernel
theorem dX1_lacking_33 : decode cX1_lacking 33 = .ok (.iaload, 1) := by decide +kernel
theorem dX1_lacking_34 : decode cX1_lacking 34 = .ok (.aload_n 0, 1) := by decide +kernel
theorem dX1_lacking_35 : decode cX1_lacking 35 = .ok (.getfield 24, 3) := by decide +kernel
theorem dX1_lacking_38 : decode cX1_lacking 38 = .ok (.iload_n 1, 1) := by decide +kernel
theorem dX1_lacking_39 : decode cX1_lacking 39 = .ok (.iaload, 1) := by decide +kernel
theorem dX1_lacking_40 : decode cX1_lacking 40 = .ok (.iload 4, 2) := by decide +kernel
theorem dX1_lacking_42 : decode cX1_lacking 42 = .ok (.aload_n 0, 1) := by decide +kernel
theorem dX1_lacking_43 : decode cX1_lacking 43 = .ok (.iload_n 1, 1) := by decide +kernel
theorem dX1_lacking_44 : decode cX1_lacking 44 = .ok (.iload_n 3, 1) := by decide +kernel
theorem dX1_lacking_45 : decode cX1_lacking 45 = .ok (.invokevirtual 89, 3) := by decide +kernel
theorem dX1_lacking_48 : decode cX1_lacking 48 = .ok (.invokestatic 92, 3) := by decide +kernel
theorem dX1_lacking_51 : decode cX1_lacking 51 = .ok (.istore 5, 2) := by decide +kernel
theorem dX1_lacking_53 : decode cX1_lacking 53 = .ok (.iconst 0, 1) := by decide +kernel
theorem dX1_lacking_54 : decode cX1_lacking 54 = .ok (.aload_n 0, 1) := by decide +kernel
theorem dX1_lacking_55 : decode cX1_lacking 55 = .ok (.getfield 9, 3) := by decide +kernel
theorem dX1_lacking_58 : decode cX1_lacking 58 = .ok (.iload_n 2, 1) := by decide +kernel
theorem dX1_lacking_59 : decode cX1_lacking 59 = .ok (.iaload, 1) := by decide +kernel
theorem dX1_lacking_60 : decode cX1_lacking 60 = .ok (.iload 5, 2) := by decide +kernel
theorem dX1_lacking_62 : decode cX1_lacking 62 = .ok (.isub, 1) := by decide +kernel
theorem dX1_lacking_63 : decode cX1_lacking 63 = .ok (.invokestatic 96, 3) := by decide +kernel
theorem dX1_lacking_66 : decode cX1_lacking 66 = .ok (.ireturn, 1) := by decide +kernel
theorem dX2_init_0 : decode cX2_init 0 = .ok (.aload_n 0, 1) := by decide +kernel
theorem dX2_init_1 : decode cX2_init 1 = .ok (.invokespecial 3, 3) := by decide +kernel
theorem dX2_init_4 : decode cX2_init 4 = .ok (.aload_n 0, 1) := by decide +kernel
theorem dX2_init_5 : decode cX2_init 5 = .ok (.bipush 6, 2) := by decide +kernel
theorem dX2_init_7 : decode cX2_init 7 = .ok (.newarray .int, 2) := by decide +kernel
theorem dX2_init_9 : decode cX2_init 9 = .ok (.putfield 9, 3) := by decide +kernel
theorem dX2_init_12 : decode cX2_init 12 = .ok (.aload_n 0, 1) := by decide +kernel
theorem dX2_init_13 : decode cX2_init 13 = .ok (.bipush 6, 2) := by decide +kernel
theorem dX2_init_15 : decode cX2_init 15 = .ok (.newarray .int, 2) := by decide +kernel
theorem dX2_init_17 : decode cX2_init 17 = .ok (.putfield 15, 3) := by decide +kernel
theorem dX2_init_20 : decode cX2_init 20 = .ok (.aload_n 0, 1) := by decide +kernel
theorem dX2_init_21 : decode cX2_init 21 = .ok (.bipush 7, 2) := by decide +kernel
theorem dX2_init_23 : decode cX2_init 23 = .ok (.bipush 7, 2) := by decide +kernel
theorem dX2_init_25 : decode cX2_init 25 = .ok (.multianewarray 18 2, 4) := by decide +kernel
theorem dX2_init_29 : decode cX2_init 29 = .ok (.putfield 20, 3) := by decide +kernel
theorem dX2_init_32 : decode cX2_init 32 = .ok (.aload_n 0, 1) := by decide +kernel
theorem dX2_init_33 : decode cX2_init 33 = .ok (.aload_n 1, 1) := by decide +kernel
theorem dX2_init_34 : decode cX2_init 34 = .ok (.putfield 23, 3) := by decide +kernel
theorem dX2_init_37 : decode cX2_init 37 = .ok (.aload_n 0, 1) := by decide +kernel
theorem dX2_init_38 : decode cX2_init 38 = .ok (.aload_n 1, 1) := by decide +kernel
theorem dX2_init_39 : decode cX2_init 39 = .ok (.getfield 27, 3) := by decide +kernel
theorem dX2_init_42 : decode cX2_init 42 = .ok (.putfield 33, 3) := by decide +kernel
theorem dX2_init_45 : decode cX2_init 45 = .ok (.iconst 0, 1) := by decide +kernel
theorem dX2_init_46 : decode cX2_init 46 = .ok (.istore_n 2, 1) := by decide +kernel
theorem dX2_init_47 : decode cX2_init 47 = .ok (.iload_n 2, 1) := by decide +kernel
theorem dX2_init_48 : decode cX2_init 48 = .ok (.bipush 6, 2) := by decide +kernel
theorem dX2_init_50 : decode cX2_init 50 = .ok (.if_icmp .gt 18, 3) := by decide +kernel
theorem dX2_init_53 : decode cX2_init 53 = .ok (.aload_n 0, 1) := by decide +kernel
theorem dX2_init_54 : decode cX2_init 54 = .ok (.getfield 20, 3) := by decide +kernel
theorem dX2_init_57 : decode cX2_init 57 = .ok (.iconst 0, 1) := by decide +kernel
theorem dX2_init_58 : decode cX2_init 58 = .ok (.aaload, 1) := by decide +kernel
theorem dX2_init_59 : decode cX2_init 59 = .ok (.iload_n 2, 1) := by decide +kernel
theorem dX2_init_60 : decode cX2_init 60 = .ok (.iconst 1, 1) := by decide +kernel
theorem dX2_init_61 : decode cX2_init 61 = .ok (.iastore, 1) := by decide +kernel
theorem dX2_init_62 : decode cX2_init 62 = .ok (.iinc 2 1, 3) := by decide +kernel
theorem dX2_init_65 : decode cX2_init 65 = .ok (.goto (-18), 3) := by decide +kernel
theorem dX2_init_68 : decode cX2_init 68 = .ok (.iconst 1, 1) := by decide +kernel
theorem dX2_init_69 : decode cX2_init 69 = .ok (.istore_n 2, 1) := by decide +kernel
theorem dX2_init_70 : decode cX2_init 70 = .ok (.iload_n 2, 1) := by decide +kernel
theorem dX2_init_71 : decode cX2_init 71 = .ok (.bipush 6, 2) := by decide +kernel
theorem dX2_init_73 : decode cX2_init 73 = .ok (.if_icmp .gt 65, 3) := by decide +kernel
theorem dX2_init_76 : decode cX2_init 76 = .ok (.aload_n 0, 1) := by decide +kernel
theorem dX2_init_77 : decode cX2_init 77 = .ok (.getfield 20, 3) := by decide +kernel
theorem dX2_init_80 : decode cX2_init 80 = .ok (.iload_n 2, 1) := by decide +kernel
theorem dX2_init_81 : decode cX2_init 81 = .ok (.aaload, 1) := by decide +kernel
theorem dX2_init_82 : decode cX2_init 82 = .ok (.iconst 0, 1) := by decide +kernel
theorem dX2_init_83 : decode cX2_init 83 = .ok (.iconst 1, 1) := by decide +kernel
theorem dX2_init_84 : decode cX2_init 84 = .ok (.iastore, 1) := by decide +kernel
theorem dX2_init_85 : decode cX2_init 85 = .ok (.iconst 1, 1) := by decide +kernel
theorem dX2_init_86 : decode cX2_init 86 = .ok (.istore_n 3, 1) := by decide +kernel
theorem dX2_init_87 : decode cX2_init 87 = .ok (.iload_n 3, 1) := by decide +kernel
theorem dX2_init_88 : decode cX2_init 88 = .ok (.bipush 6, 2) := by decide +kernel
theorem dX2_init_90 : decode cX2_init 90 = .ok (.if_icmp .gt 42, 3) := by decide +kernel
theorem dX2_init_93 : decode cX2_init 93 = .ok (.aload_n 0, 1) := by decide +kernel
theorem dX2_init_94 : decode cX2_init 94 = .ok (.getfield 20, 3) := by decide +kernel
theorem dX2_init_97 : decode cX2_init 97 = .ok (.iload_n 2, 1) := by decide +kernel
theorem dX2_init_98 : decode cX2_init 98 = .ok (.aaload, 1) := by decide +kernel
theorem dX2_init_99 : decode cX2_init 99 = .ok (.iload_n 3, 1) := by decide +kernel
theorem dX2_init_100 : decode cX2_init 100 = .ok (.aload_n 0, 1) := by decide +kernel
theorem dX2_init_101 : decode cX2_init 101 = .ok (.getfield 20, 3) := by decide +kernel
theorem dX2_init_104 : decode cX2_init 104 = .ok (.iload_n 2, 1) := by decide +kernel
theorem dX2_init_105 : decode cX2_init 105 = .ok (.iconst 1, 1) := by decide +kernel
theorem dX2_init_106 : decode cX2_init 106 = .ok (.isub, 1) := by decide +kernel
theorem dX2_init_107 : decode cX2_init 107 = .ok (.aaload, 1) := by decide +kernel
theorem dX2_init_108 : decode cX2_init 108 = .ok (.iload_n 3, 1) := by decide +kernel
theorem dX2_init_109 : decode cX2_init 109 = .ok (.iaload, 1) := by decide +kernel
theorem dX2_init_110 : decode cX2_init 110 = .ok (.iload_n 3, 1) := by decide +kernel
theorem dX2_init_111 : decode cX2_init 111 = .ok (.aload_n 0, 1) := by decide +kernel
theorem dX2_init_112 : decode cX2_init 112 = .ok (.getfield 20, 3) := by decide +kernel
theorem dX2_init_115 : decode cX2_init 115 = .ok (.iload_n 2, 1) := by decide +kernel
theorem dX2_init_116 : decode cX2_init 116 = .ok (.iconst 1, 1) := by decide +kernel
theorem dX2_init_117 : decode cX2_init 117 = .ok (.isub, 1) := by decide +kernel
theorem dX2_init_118 : decode cX2_init 118 = .ok (.aaload, 1) := by decide +kernel
theorem dX2_init_119 : decode cX2_init 119 = .ok (.iload_n 3, 1) := by decide +kernel
theorem dX2_init_120 : decode cX2_init 120 = .ok (.iconst 1, 1) := by decide +kernel
theorem dX2_init_121 : decode cX2_init 121 = .ok (.isub, 1) := by decide +kernel
theorem dX2_init_122 : decode cX2_init 122 = .ok (.iaload, 1) := by decide +kernel
theorem dX2_init_123 : decode cX2_init 123 = .ok (.imul, 1) := by decide +kernel
theorem dX2_init_124 : decode cX2_init 124 = .ok (.iadd, 1) := by decide +kernel
theorem dX2_init_125 : decode cX2_init 125 = .ok (.iastore, 1) := by decide +kernel
theorem dX2_init_126 : decode cX2_init 126 = .ok (.iinc 3 1, 3) := by decide +kernel
theorem dX2_init_129 : decode cX2_init 129 = .ok (.goto (-42), 3) := by decide +kernel
theorem dX2_init_132 : decode cX2_init 132 = .ok (.iinc 2 1, 3) := by decide +kernel
theorem dX2_init_135 : decode cX2_init 135 = .ok (.goto (-65), 3) := by decide +kernel
theorem dX2_init_138 : decode cX2_init 138 = .ok (.return_, 1) := by decide +kernel
theorem dX2_isFree_0 : decode cX2_isFree 0 = .ok (.aload_n 0, 1) := by decide +kernel
theorem dX2_isFree_1 : decode cX2_isFree 1 = .ok (.getfield 34, 3) := by decide +kernel
theorem dX2_isFree_4 : decode cX2_isFree 4 = .ok (.iload_n 2, 1) := by decide +kernel
theorem dX2_isFree_5 : decode cX2_isFree 5 = .ok (.iconst (-1), 1) := by decide +kernel
theorem dX2_isFree_6 : decode cX2_isFree 6 = .ok (.ixor, 1) := by decide +kernel
theorem dX2_isFree_7 : decode cX2_isFree 7 = .ok (.iand, 1) := by decide +kernel
theorem dX2_isFree_8 : decode cX2_isFree 8 = .ok (.iload_n 1, 1) := by decide +kernel
theorem dX2_isFree_9 : decode cX2_isFree 9 = .ok (.invokestatic 38, 3) := by decide +kernel
theorem dX2_isFree_12 : decode cX2_isFree 12 = .ok (.ireturn, 1) := by decide +kernel
theorem dX2_freeCount_0 : decode cX2_freeCount 0 = .ok (.aload_n 0, 1) := by decide +kernel
theorem dX2_freeCount_1 : decode cX2_freeCount 1 = .ok (.getfield 34, 3) := by decide +kernel
theorem dX2_freeCount_4 : decode cX2_freeCount 4 = .ok (.iload_n 1, 1) := by decide +kernel
theorem dX2_freeCount_5 : decode cX2_freeCount 5 = .ok (.iconst (-1), 1) := by decide +kernel
theorem dX2_freeCount_6 : decode cX2_freeCount 6 = .ok (.ixor, 1) := by decide +kernel
theorem dX2_freeCount_7 : decode cX2_freeCount 7 = .ok (.iand, 1) := by decide +kernel
theorem dX2_freeCount_8 : decode cX2_freeCount 8 = .ok (.invokestatic 42, 3) := by decide +kernel
theorem dX2_freeCount_11 : decode cX2_freeCount 11 = .ok (.ireturn, 1) := by decide +kernel
theorem dX2_hope_0 : decode cX2_hope 0 = .ok (.aload_n 0, 1) := by decide +kernel
theorem dX2_hope_1 : decode cX2_hope 1 = .ok (.getfield 33, 3) := by decide +kernel
theorem dX2_hope_4 : decode cX2_hope 4 = .ok (.getfield 48, 3) := by decide +kernel
theorem dX2_hope_7 : decode cX2_hope 7 = .ok (.iload_n 1, 1) := by decide +kernel
theorem dX2_hope_8 : decode cX2_hope 8 = .ok (.isub, 1) := by decide +kernel
theorem dX2_hope_9 : decode cX2_hope 9 = .ok (.aload_n 0, 1) := by decide +kernel
theorem dX2_hope_10 : decode cX2_hope 10 = .ok (.iload_n 2, 1) := by decide +kernel
theorem dX2_hope_11 : decode cX2_hope 11 = .ok (.invokevirtual 53, 3) := by decide +kernel
theorem dX2_hope_14 : decode cX2_hope 14 = .ok (.invokestatic 56, 3) := by decide +kernel
theorem dX2_hope_17 : decode cX2_hope 17 = .ok (.ireturn, 1) := by decide +kernel
theorem dX2_clappingBehind_0 : decode cX2_clappingBehind 0 = .ok (.iload_n 1, 1) := by decide +kernel
theorem dX2_clappingBehind_1 : decode cX2_clappingBehind 1 = .ok (.iload_n 2, 1) := by decide +kernel
theorem dX2_clappingBehind_2 : decode cX2_clappingBehind 2 = .ok (.if_icmp .le 7, 3) := by decide +kernel
theorem dX2_clappingBehind_5 : decode cX2_clappingBehind 5 = .ok (.iload_n 0, 1) := by decide +kernel
theorem dX2_clappingBehind_6 : decode cX2_clappingBehind 6 = .ok (.iconst 1, 1) := by decide +kernel
theorem dX2_clappingBehind_7 : decode cX2_clappingBehind 7 = .ok (.isub, 1) := by decide +kernel
theorem dX2_clappingBehind_8 : decode cX2_clappingBehind 8 = .ok (.ireturn, 1) := by decide +kernel
theorem dX2_clappingBehind_9 : decode cX2_clappingBehind 9 = .ok (.iload_n 0, 1) := by decide +kernel
theorem dX2_clappingBehind_10 : decode cX2_clappingBehind 10 = .ok (.iload_n 1, 1) := by decide +kernel
theorem dX2_clappingBehind_11 : decode cX2_clappingBehind 11 = .ok (.ifCond .ne 7, 3) := by decide +kernel
theorem dX2_clappingBehind_14 : decode cX2_clappingBehind 14 = .ok (.iconst 2, 1) := by decide +kernel
theorem dX2_clappingBehind_15 : decode cX2_clappingBehind 15 = .ok (.goto 4, 3) := by decide +kernel
theorem dX2_clappingBehind_18 : decode cX2_clappingBehind 18 = .ok (.iconst 1, 1) := by decide +kernel
theorem dX2_clappingBehind_19 : decode cX2_clappingBehind 19 = .ok (.iadd, 1) := by decide +kernel
theorem dX2_clappingBehind_20 : decode cX2_clappingBehind 20 = .ok (.ireturn, 1) := by decide +kernel
theorem dX2_promptsBehind_0 : decode cX2_promptsBehind 0 = .ok (.iload_n 0, 1) := by decide +kernel
theorem dX2_promptsBehind_1 : decode cX2_promptsBehind 1 = .ok (.iload_n 1, 1) := by decide +kernel
theorem dX2_promptsBehind_2 : decode cX2_promptsBehind 2 = .ok (.if_icmp .le 7, 3) := by decide +kernel
theorem dX2_promptsBehind_5 : decode cX2_promptsBehind 5 = .ok (.iload_n 1, 1) := by decide +kernel
theorem dX2_promptsBehind_6 : decode cX2_promptsBehind 6 = .ok (.goto 6, 3) := by decide +kernel
theorem dX2_promptsBehind_9 : decode cX2_promptsBehind 9 = .ok (.iload_n 1, 1) := by decide +kernel
theorem dX2_promptsBehind_10 : decode cX2_promptsBehind 10 = .ok (.iload_n 0, 1) := by decide +kernel
theorem dX2_promptsBehind_11 : decode cX2_promptsBehind 11 = .ok (.isub, 1) := by decide +kernel
theorem dX2_promptsBehind_12 : decode cX2_promptsBehind 12 = .ok (.ireturn, 1) := by decide +kernel
theorem dX2_playPlan_0 : decode cX2_playPlan 0 = .ok (.aload_n 0, 1) := by decide +kernel
theorem dX2_playPlan_1 : decode cX2_playPlan 1 = .ok (.getfield 23, 3) := by decide +kernel
theorem dX2_playPlan_4 : decode cX2_playPlan 4 = .ok (.getfield 62, 3) := by decide +kernel
theorem dX2_playPlan_7 : decode cX2_playPlan 7 = .ok (.istore_n 3, 1) := by decide +kernel
theorem dX2_playPlan_8 : decode cX2_playPlan 8 = .ok (.aload_n 0, 1) := by decide +kernel
theorem dX2_playPlan_9 : decode cX2_playPlan 9 = .ok (.getfield 23, 3) := by decide +kernel
theorem dX2_playPlan_12 : decode cX2_playPlan 12 = .ok (.getfield 65, 3) := by decide +kernel
theorem dX2_playPlan_15 : decode cX2_playPlan 15 = .ok (.istore 4, 2) := by decide +kernel
theorem dX2_playPlan_17 : decode cX2_playPlan 17 = .ok (.iconst 0, 1) := by decide +kernel
theorem dX2_playPlan_18 : decode cX2_playPlan 18 = .ok (.istore 5, 2) := by decide +kernel
theorem dX2_playPlan_20 : decode cX2_playPlan 20 = .ok (.aload_n 0, 1) := by decide +kernel
theorem dX2_playPlan_21 : decode cX2_playPlan 21 = .ok (.aload_n 0, 1) := by decide +kernel
theorem dX2_playPlan_22 : decode cX2_playPlan 22 = .ok (.getfield 23, 3) := by decide +kernel
theorem dX2_playPlan_25 : decode cX2_playPlan 25 = .ok (.getfield 68, 3) := by decide +kernel
theorem dX2_playPlan_28 : decode cX2_playPlan 28 = .ok (.putfield 71, 3) := by decide +kernel
theorem dX2_playPlan_31 : decode cX2_playPlan 31 = .ok (.iconst 0, 1) := by decide +kernel
theorem dX2_playPlan_32 : decode cX2_playPlan 32 = .ok (.istore 6, 2) := by decide +kernel
theorem dX2_playPlan_34 : decode cX2_playPlan 34 = .ok (.iload 6, 2) := by decide +kernel
theorem dX2_playPlan_36 : decode cX2_playPlan 36 = .ok (.aload_n 1, 1) := by decide +kernel
theorem dX2_playPlan_37 : decode cX2_playPlan 37 = .ok (.iload_n 2, 1) := by decide +kernel
theorem dX2_playPlan_38 : decode cX2_playPlan 38 = .ok (.invokevirtual 74, 3) := by decide +kernel
theorem dX2_playPlan_41 : decode cX2_playPlan 41 = .ok (.if_icmp .ge 99, 3) := by decide +kernel
theorem dX2_playPlan_44 : decode cX2_playPlan 44 = .ok (.aload_n 1, 1) := by decide +kernel
theorem dX2_playPlan_45 : decode cX2_playPlan 45 = .ok (.iload_n 2, 1) := by decide +kernel
theorem dX2_playPlan_46 : decode cX2_playPlan 46 = .ok (.iload 6, 2) := by decide +kernel
theorem dX2_playPlan_48 : decode cX2_playPlan 48 = .ok (.invokevirtual 79, 3) := by decide +kernel
theorem dX2_playPlan_51 : decode cX2_playPlan 51 = .ok (.istore 7, 2) := by decide +kernel
theorem dX2_playPlan_53 : decode cX2_playPlan 53 = .ok (.iload 7, 2) := by decide +kernel
theorem dX2_playPlan_55 : decode cX2_playPlan 55 = .ok (.bipush (-9), 2) := by decide +kernel
theorem dX2_playPlan_57 : decode cX2_playPlan 57 = .ok (.if_icmp .eq 77, 3) := by decide +kernel
theorem dX2_playPlan_60 : decode cX2_playPlan 60 = .ok (.aload_n 0, 1) := by decide +kernel
theorem dX2_playPlan_61 : decode cX2_playPlan 61 = .ok (.getfield 33, 3) := by decide +kernel
theorem dX2_playPlan_64 : decode cX2_playPlan 64 = .ok (.iload 7, 2) := by decide +kernel
theorem dX2_playPlan_66 : decode cX2_playPlan 66 = .ok (.aload_n 0, 1) := by decide +kernel
theorem dX2_playPlan_67 : decode cX2_playPlan 67 = .ok (.getfield 23, 3) := by decide +kernel
theorem dX2_playPlan_70 : decode cX2_playPlan 70 = .ok (.getfield 82, 3) := by decide +kernel
theorem dX2_playPlan_73 : decode cX2_playPlan 73 = .ok (.iload 6, 2) := by decide +kernel
theorem dX2_playPlan_75 : decode cX2_playPlan 75 = .ok (.iadd, 1) := by decide +kernel
theorem dX2_playPlan_76 : decode cX2_playPlan 76 = .ok (.iload_n 3, 1) := by decide +kernel
theorem dX2_playPlan_77 : decode cX2_playPlan 77 = .ok (.aload_n 0, 1) := by decide +kernel
theorem dX2_playPlan_78 : decode cX2_playPlan 78 = .ok (.getfield 71, 3) := by decide +kernel
theorem dX2_playPlan_81 : decode cX2_playPlan 81 = .ok (.invokevirtual 85, 3) := by decide +kernel
theorem dX2_playPlan_84 : decode cX2_playPlan 84 = .ok (.istore 8, 2) := by decide +kernel
theorem dX2_playPlan_86 : decode cX2_playPlan 86 = .ok (.iload 5, 2) := by decide +kernel
theorem dX2_playPlan_88 : decode cX2_playPlan 88 = .ok (.iload 8, 2) := by decide +kernel
theorem dX2_playPlan_90 : decode cX2_playPlan 90 = .ok (.iload 4, 2) := by decide +kernel
theorem dX2_playPlan_92 : decode cX2_playPlan 92 = .ok (.if_icmp .gt 7, 3) := by decide +kernel
theorem dX2_playPlan_95 : decode cX2_playPlan 95 = .ok (.iconst 1, 1) := by decide +kernel
theorem dX2_playPlan_96 : decode cX2_playPlan 96 = .ok (.goto 4, 3) := by decide +kernel
theorem dX2_playPlan_99 : decode cX2_playPlan 99 = .ok (.iconst 0, 1) := by decide +kernel
theorem dX2_playPlan_100 : decode cX2_playPlan 100 = .ok (.iadd, 1) := by decide +kernel
theorem dX2_playPlan_101 : decode cX2_playPlan 101 = .ok (.istore 5, 2) := by decide +kernel
theorem dX2_playPlan_103 : decode cX2_playPlan 103 = .ok (.aload_n 0, 1) := by decide +kernel
theorem dX2_playPlan_104 : decode cX2_playPlan 104 = .ok (.aload_n 0, 1) := by decide +kernel
theorem dX2_playPlan_105 : decode cX2_playPlan 105 = .ok (.getfield 71, 3) := by decide +kernel
theorem dX2_playPlan_108 : decode cX2_playPlan 108 = .ok (.iload 8, 2) := by decide +kernel
theorem dX2_playPlan_110 : decode cX2_playPlan 110 = .ok (.iload 4, 2) := by decide +kernel
theorem dX2_playPlan_112 : decode cX2_playPlan 112 = .ok (.invokestatic 89, 3) := by decide +kernel
theorem dX2_playPlan_115 : decode cX2_playPlan 115 = .ok (.putfield 71, 3) := by decide +kernel
theorem dX2_playPlan_118 : decode cX2_playPlan 118 = .ok (.iload 8, 2) := by decide +kernel
theorem dX2_playPlan_120 : decode cX2_playPlan 120 = .ok (.iload 4, 2) := by decide +kernel
theorem dX2_playPlan_122 : decode cX2_playPlan 122 = .ok (.invokestatic 93, 3) := by decide +kernel
theorem dX2_playPlan_125 : decode cX2_playPlan 125 = .ok (.istore 4, 2) := by decide +kernel
theorem dX2_playPlan_127 : decode cX2_playPlan 127 = .ok (.iload_n 3, 1) := by decide +kernel
theorem dX2_playPlan_128 : decode cX2_playPlan 128 = .ok (.iconst 1, 1) := by decide +kernel
theorem dX2_playPlan_129 : decode cX2_playPlan 129 = .ok (.iload 7, 2) := by decide +kernel
theorem dX2_playPlan_131 : decode cX2_playPlan 131 = .ok (.ishl, 1) := by decide +kernel
theorem dX2_playPlan_132 : decode cX2_playPlan 132 = .ok (.ior, 1) := by decide +kernel
theorem dX2_playPlan_133 : decode cX2_playPlan 133 = .ok (.istore_n 3, 1) := by decide +kernel
theorem dX2_playPlan_134 : decode cX2_playPlan 134 = .ok (.iinc 6 1, 3) := by decide +kernel
theorem dX2_playPlan_137 : decode cX2_playPlan 137 = .ok (.goto (-103), 3) := by decide +kernel
theorem dX2_playPlan_140 : decode cX2_playPlan 140 = .ok (.iload 5, 2) := by decide +kernel
theorem dX2_playPlan_142 : decode cX2_playPlan 142 = .ok (.ireturn, 1) := by decide +kernel
theorem dX2_findMost_0 : decode cX2_findMost 0 = .ok (.aload_n 0, 1) := by decide +kernel
theorem dX2_findMost_1 : decode cX2_findMost 1 = .ok (.iload_n 1, 1) := by decide +kernel
theorem dX2_findMost_2 : decode cX2_findMost 2 = .ok (.putfield 34, 3) := by decide +kernel
theorem dX2_findMost_5 : decode cX2_findMost 5 = .ok (.aload_n 0, 1) := by decide +kernel
theorem dX2_findMost_6 : decode cX2_findMost 6 = .ok (.iload_n 2, 1) := by decide +kernel
theorem dX2_findMost_7 : decode cX2_findMost 7 = .ok (.putfield 96, 3) := by decide +kernel
theorem dX2_findMost_10 : decode cX2_findMost 10 = .ok (.aload_n 0, 1) := by decide +kernel
theorem dX2_findMost_11 : decode cX2_findMost 11 = .ok (.aload_n 0, 1) := by decide +kernel
theorem dX2_findMost_12 : decode cX2_findMost 12 = .ok (.getfield 23, 3) := by decide +kernel
theorem dX2_findMost_15 : decode cX2_findMost 15 = .ok (.getfield 82, 3) := by decide +kernel
theorem dX2_findMost_18 : decode cX2_findMost 18 = .ok (.aload_n 0, 1) := by decide +kernel
theorem dX2_findMost_19 : decode cX2_findMost 19 = .ok (.getfield 23, 3) := by decide +kernel
theorem dX2_findMost_22 : decode cX2_findMost 22 = .ok (.getfield 62, 3) := by decide +kernel
theorem dX2_findMost_25 : decode cX2_findMost 25 = .ok (.aload_n 0, 1) := by decide +kernel
theorem dX2_findMost_26 : decode cX2_findMost 26 = .ok (.getfield 23, 3) := by decide +kernel
theorem dX2_findMost_29 : decode cX2_findMost 29 = .ok (.getfield 68, 3) := by decide +kernel
theorem dX2_findMost_32 : decode cX2_findMost 32 = .ok (.aload_n 0, 1) := by decide +kernel
theorem dX2_findMost_33 : decode cX2_findMost 33 = .ok (.getfield 23, 3) := by decide +kernel
theorem dX2_findMost_36 : decode cX2_findMost 36 = .ok (.getfield 65, 3) := by decide +kernel
theorem dX2_findMost_39 : decode cX2_findMost 39 = .ok (.iconst 0, 1) := by decide +kernel
theorem dX2_findMost_40 : decode cX2_findMost 40 = .ok (.invokevirtual 99, 3) := by decide +kernel
theorem dX2_findMost_43 : decode cX2_findMost 43 = .ok (.aload_n 0, 1) := by decide +kernel
theorem dX2_findMost_44 : decode cX2_findMost 44 = .ok (.getfield 96, 3) := by decide +kernel
theorem dX2_findMost_47 : decode cX2_findMost 47 = .ok (.ireturn, 1) := by decide +kernel
theorem dX2_seekMost_0 : decode cX2_seekMost 0 = .ok (.aload_n 0, 1) := by decide +kernel
theorem dX2_seekMost_1 : decode cX2_seekMost 1 = .ok (.aload_n 0, 1) := by decide +kernel
theorem dX2_seekMost_2 : decode cX2_seekMost 2 = .ok (.getfield 96, 3) := by decide +kernel
theorem dX2_seekMost_5 : decode cX2_seekMost 5 = .ok (.iload 5, 2) := by decide +kernel
theorem dX2_seekMost_7 : decode cX2_seekMost 7 = .ok (.invokestatic 103, 3) := by decide +kernel
theorem dX2_seekMost_10 : decode cX2_seekMost 10 = .ok (.putfield 96, 3) := by decide +kernel
theorem dX2_seekMost_13 : decode cX2_seekMost 13 = .ok (.iload_n 1, 1) := by decide +kernel
theorem dX2_seekMost_14 : decode cX2_seekMost 14 = .ok (.aload_n 0, 1) := by decide +kernel
theorem dX2_seekMost_15 : decode cX2_seekMost 15 = .ok (.getfield 33, 3) := by decide +kernel
theorem dX2_seekMost_18 : decode cX2_seekMost 18 = .ok (.getfield 48, 3) := by decide +kernel
theorem dX2_seekMost_21 : decode cX2_seekMost 21 = .ok (.if_icmp .ge 19, 3) := by decide +kernel
theorem dX2_seekMost_24 : decode cX2_seekMost 24 = .ok (.iload 5, 2) := by decide +kernel
theorem dX2_seekMost_26 : decode cX2_seekMost 26 = .ok (.aload_n 0, 1) := by decide +kernel
theorem dX2_seekMost_27 : decode cX2_seekMost 27 = .ok (.iload_n 1, 1) := by decide +kernel
theorem dX2_seekMost_28 : decode cX2_seekMost 28 = .ok (.iload_n 2, 1) := by decide +kernel
theorem dX2_seekMost_29 : decode cX2_seekMost 29 = .ok (.invokevirtual 106, 3) := by decide +kernel
theorem dX2_seekMost_32 : decode cX2_seekMost 32 = .ok (.iadd, 1) := by decide +kernel
theorem dX2_seekMost_33 : decode cX2_seekMost 33 = .ok (.aload_n 0, 1) := by decide +kernel
theorem dX2_seekMost_34 : decode cX2_seekMost 34 = .ok (.getfield 96, 3) := by decide +kernel
theorem dX2_seekMost_37 : decode cX2_seekMost 37 = .ok (.if_icmp .gt 4, 3) := by decide +kernel
theorem dX2_seekMost_40 : decode cX2_seekMost 40 = .ok (.return_, 1) := by decide +kernel
theorem dX2_seekMost_41 : decode cX2_seekMost 41 = .ok (.iconst 0, 1) := by decide +kernel
theorem dX2_seekMost_42 : decode cX2_seekMost 42 = .ok (.istore 6, 2) := by decide +kernel
theorem dX2_seekMost_44 : decode cX2_seekMost 44 = .ok (.iload 6, 2) := by decide +kernel
theorem dX2_seekMost_46 : decode cX2_seekMost 46 = .ok (.aload_n 0, 1) := by decide +kernel
theorem dX2_seekMost_47 : decode cX2_seekMost 47 = .ok (.getfield 33, 3) := by decide +kernel
theorem dX2_seekMost_50 : decode cX2_seekMost 50 = .ok (.getfield 109, 3) := by decide +kernel
theorem dX2_seekMost_53 : decode cX2_seekMost 53 = .ok (.if_icmp .ge 80, 3) := by decide +kernel
theorem dX2_seekMost_56 : decode cX2_seekMost 56 = .ok (.aload_n 0, 1) := by decide +kernel
theorem dX2_seekMost_57 : decode cX2_seekMost 57 = .ok (.iload 6, 2) := by decide +kernel
theorem dX2_seekMost_59 : decode cX2_seekMost 59 = .ok (.iload_n 2, 1) := by decide +kernel
theorem dX2_seekMost_60 : decode cX2_seekMost 60 = .ok (.invokevirtual 112, 3) := by decide +kernel
theorem dX2_seekMost_63 : decode cX2_seekMost 63 = .ok (.ifCond .eq 18, 3) := by decide +kernel
theorem dX2_seekMost_66 : decode cX2_seekMost 66 = .ok (.aload_n 0, 1) := by decide +kernel
theorem dX2_seekMost_67 : decode cX2_seekMost 67 = .ok (.getfield 33, 3) := by decide +kernel
theorem dX2_seekMost_70 : decode cX2_seekMost 70 = .ok (.iload 6, 2) := by decide +kernel
theorem dX2_seekMost_72 : decode cX2_seekMost 72 = .ok (.iload_n 1, 1) := by decide +kernel
theorem dX2_seekMost_73 : decode cX2_seekMost 73 = .ok (.iload_n 2, 1) := by decide +kernel
theorem dX2_seekMost_74 : decode cX2_seekMost 74 = .ok (.iload_n 3, 1) := by decide +kernel
theorem dX2_seekMost_75 : decode cX2_seekMost 75 = .ok (.invokevirtual 85, 3) := by decide +kernel
theorem dX2_seekMost_78 : decode cX2_seekMost 78 = .ok (.goto 5, 3) := by decide +kernel
theorem dX2_seekMost_81 : decode cX2_seekMost 81 = .ok (.bipush (-9), 2) := by decide +kernel
theorem dX2_seekMost_83 : decode cX2_seekMost 83 = .ok (.istore 7, 2) := by decide +kernel
theorem dX2_seekMost_85 : decode cX2_seekMost 85 = .ok (.iload 7, 2) := by decide +kernel
theorem dX2_seekMost_87 : decode cX2_seekMost 87 = .ok (.ifCond .lt 40, 3) := by decide +kernel
theorem dX2_seekMost_90 : decode cX2_seekMost 90 = .ok (.iload 7, 2) := by decide +kernel
theorem dX2_seekMost_92 : decode cX2_seekMost 92 = .ok (.iload 4, 2) := by decide +kernel
theorem dX2_seekMost_94 : decode cX2_seekMost 94 = .ok (.if_icmp .gt 33, 3) := by decide +kernel
theorem dX2_seekMost_97 : decode cX2_seekMost 97 = .ok (.aload_n 0, 1) := by decide +kernel
theorem dX2_seekMost_98 : decode cX2_seekMost 98 = .ok (.iload_n 1, 1) := by decide +kernel
theorem dX2_seekMost_99 : decode cX2_seekMost 99 = .ok (.iconst 1, 1) := by decide +kernel
theorem dX2_seekMost_100 : decode cX2_seekMost 100 = .ok (.iadd, 1) := by decide +kernel
theorem dX2_seekMost_101 : decode cX2_seekMost 101 = .ok (.iload_n 2, 1) := by decide +kernel
theorem dX2_seekMost_102 : decode cX2_seekMost 102 = .ok (.iconst 1, 1) := by decide +kernel
theorem dX2_seekMost_103 : decode cX2_seekMost 103 = .ok (.iload 6, 2) := by decide +kernel
theorem dX2_seekMost_105 : decode cX2_seekMost 105 = .ok (.ishl, 1) := by decide +kernel
theorem dX2_seekMost_106 : decode cX2_seekMost 106 = .ok (.ior, 1) := by decide +kernel
theorem dX2_seekMost_107 : decode cX2_seekMost 107 = .ok (.iload_n 3, 1) := by decide +kernel
theorem dX2_seekMost_108 : decode cX2_seekMost 108 = .ok (.iload 7, 2) := by decide +kernel
theorem dX2_seekMost_110 : decode cX2_seekMost 110 = .ok (.iload 4, 2) := by decide +kernel
theorem dX2_seekMost_112 : decode cX2_seekMost 112 = .ok (.invokestatic 89, 3) := by decide +kernel
theorem dX2_seekMost_115 : decode cX2_seekMost 115 = .ok (.iload 4, 2) := by decide +kernel
theorem dX2_seekMost_117 : decode cX2_seekMost 117 = .ok (.iload 7, 2) := by decide +kernel
theorem dX2_seekMost_119 : decode cX2_seekMost 119 = .ok (.isub, 1) := by decide +kernel
theorem dX2_seekMost_120 : decode cX2_seekMost 120 = .ok (.iload 5, 2) := by decide +kernel
theorem dX2_seekMost_122 : decode cX2_seekMost 122 = .ok (.iconst 1, 1) := by decide +kernel
theorem dX2_seekMost_123 : decode cX2_seekMost 123 = .ok (.iadd, 1) := by decide +kernel
theorem dX2_seekMost_124 : decode cX2_seekMost 124 = .ok (.invokevirtual 99, 3) := by decide +kernel
theorem dX2_seekMost_127 : decode cX2_seekMost 127 = .ok (.iinc 6 1, 3) := by decide +kernel
theorem dX2_seekMost_130 : decode cX2_seekMost 130 = .ok (.goto (-86), 3) := by decide +kernel
theorem dX2_seekMost_133 : decode cX2_seekMost 133 = .ok (.aload_n 0, 1) := by decide +kernel
theorem dX2_seekMost_134 : decode cX2_seekMost 134 = .ok (.iload_n 1, 1) := by decide +kernel
theorem dX2_seekMost_135 : decode cX2_seekMost 135 = .ok (.iconst 1, 1) := by decide +kernel
theorem dX2_seekMost_136 : decode cX2_seekMost 136 = .ok (.iadd, 1) := by decide +kernel
theorem dX2_seekMost_137 : decode cX2_seekMost 137 = .ok (.iload_n 2, 1) := by decide +kernel
theorem dX2_seekMost_138 : decode cX2_seekMost 138 = .ok (.iload_n 3, 1) := by decide +kernel
theorem dX2_seekMost_139 : decode cX2_seekMost 139 = .ok (.iload 4, 2) := by decide +kernel
theorem dX2_seekMost_141 : decode cX2_seekMost 141 = .ok (.iload 5, 2) := by decide +kernel
theorem dX2_seekMost_143 : decode cX2_seekMost 143 = .ok (.invokevirtual 99, 3) := by decide +kernel
theorem dX2_seekMost_146 : decode cX2_seekMost 146 = .ok (.return_, 1) := by decide +kernel
theorem dX2_findFirstOfMost_0 : decode cX2_findFirstOfMost 0 = .ok (.aload_n 0, 1) := by decide +kernel
theorem dX2_findFirstOfMost_1 : decode cX2_findFirstOfMost 1 = .ok (.aload_n 0, 1) := by decide +kernel
theorem dX2_findFirstOfMost_2 : decode cX2_findFirstOfMost 2 = .ok (.getfield 23, 3) := by decide +kernel
theorem dX2_findFirstOfMost_5 : decode cX2_findFirstOfMost 5 = .ok (.getfield 65, 3) := by decide +kernel
theorem dX2_findFirstOfMost_8 : decode cX2_findFirstOfMost 8 = .ok (.iconst 1, 1) := by decide +kernel
theorem dX2_findFirstOfMost_9 : decode cX2_findFirstOfMost 9 = .ok (.iadd, 1) := by decide +kernel
theorem dX2_findFirstOfMost_10 : decode cX2_findFirstOfMost 10 = .ok (.putfield 115, 3) := by decide +kernel
theorem dX2_findFirstOfMost_13 : decode cX2_findFirstOfMost 13 = .ok (.aload_n 0, 1) := by decide +kernel
theorem dX2_findFirstOfMost_14 : decode cX2_findFirstOfMost 14 = .ok (.aload_n 0, 1) := by decide +kernel
theorem dX2_findFirstOfMost_15 : decode cX2_findFirstOfMost 15 = .ok (.getfield 23, 3) := by decide +kernel
theorem dX2_findFirstOfMost_18 : decode cX2_findFirstOfMost 18 = .ok (.getfield 82, 3) := by decide +kernel
theorem dX2_findFirstOfMost_21 : decode cX2_findFirstOfMost 21 = .ok (.aload_n 0, 1) := by decide +kernel
theorem dX2_findFirstOfMost_22 : decode cX2_findFirstOfMost 22 = .ok (.getfield 23, 3) := by decide +kernel
theorem dX2_findFirstOfMost_25 : decode cX2_findFirstOfMost 25 = .ok (.getfield 62, 3) := by decide +kernel
theorem dX2_findFirstOfMost_28 : decode cX2_findFirstOfMost 28 = .ok (.aload_n 0, 1) := by decide +kernel
theorem dX2_findFirstOfMost_29 : decode cX2_findFirstOfMost 29 = .ok (.getfield 23, 3) := by decide +kernel
theorem dX2_findFirstOfMost_32 : decode cX2_findFirstOfMost 32 = .ok (.getfield 68, 3) := by decide +kernel
theorem dX2_findFirstOfMost_35 : decode cX2_findFirstOfMost 35 = .ok (.aload_n 0, 1) := by decide +kernel
theorem dX2_findFirstOfMost_36 : decode cX2_findFirstOfMost 36 = .ok (.getfield 23, 3) := by decide +kernel
theorem dX2_findFirstOfMost_39 : decode cX2_findFirstOfMost 39 = .ok (.getfield 65, 3) := by decide +kernel
theorem dX2_findFirstOfMost_42 : decode cX2_findFirstOfMost 42 = .ok (.iconst 0, 1) := by decide +kernel
theorem dX2_findFirstOfMost_43 : decode cX2_findFirstOfMost 43 = .ok (.invokevirtual 118, 3) := by decide +kernel
theorem dX2_findFirstOfMost_46 : decode cX2_findFirstOfMost 46 = .ok (.return_, 1) := by decide +kernel
theorem dX2_choiceFor_0 : decode cX2_choiceFor 0 = .ok (.iload_n 1, 1) := by decide +kernel
theorem dX2_choiceFor_1 : decode cX2_choiceFor 1 = .ok (.ifCond .lt 18, 3) := by decide +kernel
theorem dX2_choiceFor_4 : decode cX2_choiceFor 4 = .ok (.iload_n 1, 1) := by decide +kernel
theorem dX2_choiceFor_5 : decode cX2_choiceFor 5 = .ok (.bipush 6, 2) := by decide +kernel
theorem dX2_choiceFor_7 : decode cX2_choiceFor 7 = .ok (.if_icmp .ge 12, 3) := by decide +kernel
theorem dX2_choiceFor_10 : decode cX2_choiceFor 10 = .ok (.aload_n 0, 1) := by decide +kernel
theorem dX2_choiceFor_11 : decode cX2_choiceFor 11 = .ok (.getfield 15, 3) := by decide +kernel
theorem dX2_choiceFor_14 : decode cX2_choiceFor 14 = .ok (.iload_n 1, 1) := by decide +kernel
theorem dX2_choiceFor_15 : decode cX2_choiceFor 15 = .ok (.iaload, 1) := by decide +kernel
theorem dX2_choiceFor_16 : decode cX2_choiceFor 16 = .ok (.goto 5, 3) := by decide +kernel
theorem dX2_choiceFor_19 : decode cX2_choiceFor 19 = .ok (.bipush (-9), 2) := by decide +kernel
theorem dX2_choiceFor_21 : decode cX2_choiceFor 21 = .ok (.ireturn, 1) := by decide +kernel
theorem dX2_seekBest_0 : decode cX2_seekBest 0 = .ok (.aload_n 0, 1) := by decide +kernel
theorem dX2_seekBest_1 : decode cX2_seekBest 1 = .ok (.getfield 23, 3) := by decide +kernel
theorem dX2_seekBest_4 : decode cX2_seekBest 4 = .ok (.getfield 65, 3) := by decide +kernel
theorem dX2_seekBest_7 : decode cX2_seekBest 7 = .ok (.iload 4, 2) := by decide +kernel
theorem dX2_seekBest_9 : decode cX2_seekBest 9 = .ok (.isub, 1) := by decide +kernel
theorem dX2_seekBest_10 : decode cX2_seekBest 10 = .ok (.istore 6, 2) := by decide +kernel
theorem dX2_seekBest_12 : decode cX2_seekBest 12 = .ok (.iload 5, 2) := by decide +kernel
theorem dX2_seekBest_14 : decode cX2_seekBest 14 = .ok (.aload_n 0, 1) := by decide +kernel
theorem dX2_seekBest_15 : decode cX2_seekBest 15 = .ok (.iload_n 1, 1) := by decide +kernel
theorem dX2_seekBest_16 : decode cX2_seekBest 16 = .ok (.iload_n 2, 1) := by decide +kernel
theorem dX2_seekBest_17 : decode cX2_seekBest 17 = .ok (.invokevirtual 106, 3) := by decide +kernel
theorem dX2_seekBest_20 : decode cX2_seekBest 20 = .ok (.iadd, 1) := by decide +kernel
theorem dX2_seekBest_21 : decode cX2_seekBest 21 = .ok (.aload_n 0, 1) := by decide +kernel
theorem dX2_seekBest_22 : decode cX2_seekBest 22 = .ok (.getfield 96, 3) := by decide +kernel
theorem dX2_seekBest_25 : decode cX2_seekBest 25 = .ok (.if_icmp .lt 12, 3) := by decide +kernel
theorem dX2_seekBest_28 : decode cX2_seekBest 28 = .ok (.iload 6, 2) := by decide +kernel
theorem dX2_seekBest_30 : decode cX2_seekBest 30 = .ok (.aload_n 0, 1) := by decide +kernel
theorem dX2_seekBest_31 : decode cX2_seekBest 31 = .ok (.getfield 115, 3) := by decide +kernel
theorem dX2_seekBest_34 : decode cX2_seekBest 34 = .ok (.if_icmp .lt 4, 3) := by decide +kernel
theorem dX2_seekBest_37 : decode cX2_seekBest 37 = .ok (.return_, 1) := by decide +kernel
theorem dX2_seekBest_38 : decode cX2_seekBest 38 = .ok (.iload_n 1, 1) := by decide +kernel
theorem dX2_seekBest_39 : decode cX2_seekBest 39 = .ok (.aload_n 0, 1) := by decide +kernel
theorem dX2_seekBest_40 : decode cX2_seekBest 40 = .ok (.getfield 33, 3) := by decide +kernel
theorem dX2_seekBest_43 : decode cX2_seekBest 43 = .ok (.getfield 48, 3) := by decide +kernel
theorem dX2_seekBest_46 : decode cX2_seekBest 46 = .ok (.if_icmp .lt 25, 3) := by decide +kernel
theorem dX2_seekBest_49 : decode cX2_seekBest 49 = .ok (.aload_n 0, 1) := by decide +kernel
theorem dX2_seekBest_50 : decode cX2_seekBest 50 = .ok (.iload 6, 2) := by decide +kernel
theorem dX2_seekBest_52 : decode cX2_seekBest 52 = .ok (.putfield 115, 3) := by decide +kernel
theorem dX2_seekBest_55 : decode cX2_seekBest 55 = .ok (.aload_n 0, 1) := by decide +kernel
theorem dX2_seekBest_56 : decode cX2_seekBest 56 = .ok (.getfield 9, 3) := by decide +kernel
theorem dX2_seekBest_59 : decode cX2_seekBest 59 = .ok (.iconst 0, 1) := by decide +kernel
theorem dX2_seekBest_60 : decode cX2_seekBest 60 = .ok (.aload_n 0, 1) := by decide +kernel
theorem dX2_seekBest_61 : decode cX2_seekBest 61 = .ok (.getfield 15, 3) := by decide +kernel
theorem dX2_seekBest_64 : decode cX2_seekBest 64 = .ok (.iconst 0, 1) := by decide +kernel
theorem dX2_seekBest_65 : decode cX2_seekBest 65 = .ok (.bipush 6, 2) := by decide +kernel
theorem dX2_seekBest_67 : decode cX2_seekBest 67 = .ok (.invokestatic 121, 3) := by decide +kernel
theorem dX2_seekBest_70 : decode cX2_seekBest 70 = .ok (.return_, 1) := by decide +kernel
theorem dX2_seekBest_71 : decode cX2_seekBest 71 = .ok (.aload_n 0, 1) := by decide +kernel
theorem dX2_seekBest_72 : decode cX2_seekBest 72 = .ok (.getfield 9, 3) := by decide +kernel
theorem dX2_seekBest_75 : decode cX2_seekBest 75 = .ok (.iload_n 1, 1) := by decide +kernel
theorem dX2_seekBest_76 : decode cX2_seekBest 76 = .ok (.bipush (-9), 2) := by decide +kernel
theorem dX2_seekBest_78 : decode cX2_seekBest 78 = .ok (.iastore, 1) := by decide +kernel
theorem dX2_seekBest_79 : decode cX2_seekBest 79 = .ok (.aload_n 0, 1) := by decide +kernel
theorem dX2_seekBest_80 : decode cX2_seekBest 80 = .ok (.iload_n 1, 1) := by decide +kernel
theorem dX2_seekBest_81 : decode cX2_seekBest 81 = .ok (.iconst 1, 1) := by decide +kernel
theorem dX2_seekBest_82 : decode cX2_seekBest 82 = .ok (.iadd, 1) := by decide +kernel
theorem dX2_seekBest_83 : decode cX2_seekBest 83 = .ok (.iload_n 2, 1) := by decide +kernel
theorem dX2_seekBest_84 : decode cX2_seekBest 84 = .ok (.iload_n 3, 1) := by decide +kernel
theorem dX2_seekBest_85 : decode cX2_seekBest 85 = .ok (.iload 4, 2) := by decide +kernel
theorem dX2_seekBest_87 : decode cX2_seekBest 87 = .ok (.iload 5, 2) := by decide +kernel
theorem dX2_seekBest_89 : decode cX2_seekBest 89 = .ok (.invokevirtual 118, 3) := by decide +kernel
theorem dX2_seekBest_92 : decode cX2_seekBest 92 = .ok (.iconst 0, 1) := by decide +kernel
theorem dX2_seekBest_93 : decode cX2_seekBest 93 = .ok (.istore 7, 2) := by decide +kernel
theorem dX2_seekBest_95 : decode cX2_seekBest 95 = .ok (.iload 7, 2) := by decide +kernel
theorem dX2_seekBest_97 : decode cX2_seekBest 97 = .ok (.aload_n 0, 1) := by decide +kernel
theorem dX2_seekBest_98 : decode cX2_seekBest 98 = .ok (.getfield 33, 3) := by decide +kernel
theorem dX2_seekBest_101 : decode cX2_seekBest 101 = .ok (.getfield 109, 3) := by decide +kernel
theorem dX2_seekBest_104 : decode cX2_seekBest 104 = .ok (.if_icmp .ge 88, 3) := by decide +kernel
theorem dX2_seekBest_107 : decode cX2_seekBest 107 = .ok (.aload_n 0, 1) := by decide +kernel
theorem dX2_seekBest_108 : decode cX2_seekBest 108 = .ok (.iload 7, 2) := by decide +kernel
theorem dX2_seekBest_110 : decode cX2_seekBest 110 = .ok (.iload_n 2, 1) := by decide +kernel
theorem dX2_seekBest_111 : decode cX2_seekBest 111 = .ok (.invokevirtual 112, 3) := by decide +kernel
theorem dX2_seekBest_114 : decode cX2_seekBest 114 = .ok (.ifCond .eq 18, 3) := by decide +kernel
theorem dX2_seekBest_117 : decode cX2_seekBest 117 = .ok (.aload_n 0, 1) := by decide +kernel
theorem dX2_seekBest_118 : decode cX2_seekBest 118 = .ok (.getfield 33, 3) := by decide +kernel
theorem dX2_seekBest_121 : decode cX2_seekBest 121 = .ok (.iload 7, 2) := by decide +kernel
theorem dX2_seekBest_123 : decode cX2_seekBest 123 = .ok (.iload_n 1, 1) := by decide +kernel
theorem dX2_seekBest_124 : decode cX2_seekBest 124 = .ok (.iload_n 2, 1) := by decide +kernel
theorem dX2_seekBest_125 : decode cX2_seekBest 125 = .ok (.iload_n 3, 1) := by decide +kernel
theorem dX2_seekBest_126 : decode cX2_seekBest 126 = .ok (.invokevirtual 85, 3) := by decide +kernel
theorem dX2_seekBest_129 : decode cX2_seekBest 129 = .ok (.goto 5, 3) := by decide +kernel
theorem dX2_seekBest_132 : decode cX2_seekBest 132 = .ok (.bipush (-9), 2) := by decide +kernel
theorem dX2_seekBest_134 : decode cX2_seekBest 134 = .ok (.istore 8, 2) := by decide +kernel
theorem dX2_seekBest_136 : decode cX2_seekBest 136 = .ok (.iload 8, 2) := by decide +kernel
theorem dX2_seekBest_138 : decode cX2_seekBest 138 = .ok (.ifCond .lt 48, 3) := by decide +kernel
theorem dX2_seekBest_141 : decode cX2_seekBest 141 = .ok (.iload 8, 2) := by decide +kernel
theorem dX2_seekBest_143 : decode cX2_seekBest 143 = .ok (.iload 4, 2) := by decide +kernel
theorem dX2_seekBest_145 : decode cX2_seekBest 145 = .ok (.if_icmp .gt 41, 3) := by decide +kernel
theorem dX2_seekBest_148 : decode cX2_seekBest 148 = .ok (.aload_n 0, 1) := by decide +kernel
theorem dX2_seekBest_149 : decode cX2_seekBest 149 = .ok (.getfield 9, 3) := by decide +kernel
theorem dX2_seekBest_152 : decode cX2_seekBest 152 = .ok (.iload_n 1, 1) := by decide +kernel
theorem dX2_seekBest_153 : decode cX2_seekBest 153 = .ok (.iload 7, 2) := by decide +kernel
theorem dX2_seekBest_155 : decode cX2_seekBest 155 = .ok (.iastore, 1) := by decide +kernel
theorem dX2_seekBest_156 : decode cX2_seekBest 156 = .ok (.aload_n 0, 1) := by decide +kernel
theorem dX2_seekBest_157 : decode cX2_seekBest 157 = .ok (.iload_n 1, 1) := by decide +kernel
theorem dX2_seekBest_158 : decode cX2_seekBest 158 = .ok (.iconst 1, 1) := by decide +kernel
theorem dX2_seekBest_159 : decode cX2_seekBest 159 = .ok (.iadd, 1) := by decide +kernel
theorem dX2_seekBest_160 : decode cX2_seekBest 160 = .ok (.iload_n 2, 1) := by decide +kernel
theorem dX2_seekBest_161 : decode cX2_seekBest 161 = .ok (.iconst 1, 1) := by decide +kernel
theorem dX2_seekBest_162 : decode cX2_seekBest 162 = .ok (.iload 7, 2) := by decide +kernel
theorem dX2_seekBest_164 : decode cX2_seekBest 164 = .ok (.ishl, 1) := by decide +kernel
theorem dX2_seekBest_165 : decode cX2_seekBest 165 = .ok (.ior, 1) := by decide +kernel
theorem dX2_seekBest_166 : decode cX2_seekBest 166 = .ok (.iload_n 3, 1) := by decide +kernel
theorem dX2_seekBest_167 : decode cX2_seekBest 167 = .ok (.iload 8, 2) := by decide +kernel
theorem dX2_seekBest_169 : decode cX2_seekBest 169 = .ok (.iload 4, 2) := by decide +kernel
theorem dX2_seekBest_171 : decode cX2_seekBest 171 = .ok (.invokestatic 89, 3) := by decide +kernel
theorem dX2_seekBest_174 : decode cX2_seekBest 174 = .ok (.iload 4, 2) := by decide +kernel
theorem dX2_seekBest_176 : decode cX2_seekBest 176 = .ok (.iload 8, 2) := by decide +kernel
theorem dX2_seekBest_178 : decode cX2_seekBest 178 = .ok (.isub, 1) := by decide +kernel
theorem dX2_seekBest_179 : decode cX2_seekBest 179 = .ok (.iload 5, 2) := by decide +kernel
theorem dX2_seekBest_181 : decode cX2_seekBest 181 = .ok (.iconst 1, 1) := by decide +kernel
theorem dX2_seekBest_182 : decode cX2_seekBest 182 = .ok (.iadd, 1) := by decide +kernel
theorem dX2_seekBest_183 : decode cX2_seekBest 183 = .ok (.invokevirtual 118, 3) := by decide +kernel
theorem dX2_seekBest_186 : decode cX2_seekBest 186 = .ok (.iinc 7 1, 3) := by decide +kernel
theorem dX2_seekBest_189 : decode cX2_seekBest 189 = .ok (.goto (-94), 3) := by decide +kernel
theorem dX2_seekBest_192 : decode cX2_seekBest 192 = .ok (.return_, 1) := by decide +kernel
theorem dX2_findLeast_0 : decode cX2_findLeast 0 = .ok (.aload_n 0, 1) := by decide +kernel
theorem dX2_findLeast_1 : decode cX2_findLeast 1 = .ok (.aload_n 0, 1) := by decide +kernel
theorem dX2_findLeast_2 : decode cX2_findLeast 2 = .ok (.getfield 23, 3) := by decide +kernel
theorem dX2_findLeast_5 : decode cX2_findLeast 5 = .ok (.invokevirtual 127, 3) := by decide +kernel
theorem dX2_findLeast_8 : decode cX2_findLeast 8 = .ok (.putfield 34, 3) := by decide +kernel
theorem dX2_findLeast_11 : decode cX2_findLeast 11 = .ok (.aload_n 0, 1) := by decide +kernel
theorem dX2_findLeast_12 : decode cX2_findLeast 12 = .ok (.bipush (-9), 2) := by decide +kernel
theorem dX2_findLeast_14 : decode cX2_findLeast 14 = .ok (.putfield 130, 3) := by decide +kernel
theorem dX2_findLeast_17 : decode cX2_findLeast 17 = .ok (.aload_n 0, 1) := by decide +kernel
theorem dX2_findLeast_18 : decode cX2_findLeast 18 = .ok (.bipush 55, 2) := by decide +kernel
theorem dX2_findLeast_20 : decode cX2_findLeast 20 = .ok (.putfield 115, 3) := by decide +kernel
theorem dX2_findLeast_23 : decode cX2_findLeast 23 = .ok (.aload_n 0, 1) := by decide +kernel
theorem dX2_findLeast_24 : decode cX2_findLeast 24 = .ok (.aload_n 0, 1) := by decide +kernel
theorem dX2_findLeast_25 : decode cX2_findLeast 25 = .ok (.getfield 23, 3) := by decide +kernel
theorem dX2_findLeast_28 : decode cX2_findLeast 28 = .ok (.getfield 82, 3) := by decide +kernel
theorem dX2_findLeast_31 : decode cX2_findLeast 31 = .ok (.aload_n 0, 1) := by decide +kernel
theorem dX2_findLeast_32 : decode cX2_findLeast 32 = .ok (.getfield 23, 3) := by decide +kernel
theorem dX2_findLeast_35 : decode cX2_findLeast 35 = .ok (.getfield 62, 3) := by decide +kernel
theorem dX2_findLeast_38 : decode cX2_findLeast 38 = .ok (.aload_n 0, 1) := by decide +kernel
theorem dX2_findLeast_39 : decode cX2_findLeast 39 = .ok (.getfield 23, 3) := by decide +kernel
theorem dX2_findLeast_42 : decode cX2_findLeast 42 = .ok (.getfield 68, 3) := by decide +kernel
theorem dX2_findLeast_45 : decode cX2_findLeast 45 = .ok (.iconst 0, 1) := by decide +kernel
theorem dX2_findLeast_46 : decode cX2_findLeast 46 = .ok (.invokevirtual 133, 3) := by decide +kernel
theorem dX2_findLeast_49 : decode cX2_findLeast 49 = .ok (.aload_n 0, 1) := by decide +kernel
theorem dX2_findLeast_50 : decode cX2_findLeast 50 = .ok (.getfield 115, 3) := by decide +kernel
theorem dX2_findLeast_53 : decode cX2_findLeast 53 = .ok (.ireturn, 1) := by decide +kernel
theorem dX2_seekLeast_0 : decode cX2_seekLeast 0 = .ok (.iload 4, 2) := by decide +kernel
theorem dX2_seekLeast_2 : decode cX2_seekLeast 2 = .ok (.aload_n 0, 1) := by decide +kernel
theorem dX2_seekLeast_3 : decode cX2_seekLeast 3 = .ok (.getfield 115, 3) := by decide +kernel
theorem dX2_seekLeast_6 : decode cX2_seekLeast 6 = .ok (.if_icmp .lt 4, 3) := by decide +kernel
theorem dX2_seekLeast_9 : decode cX2_seekLeast 9 = .ok (.return_, 1) := by decide +kernel
theorem dX2_seekLeast_10 : decode cX2_seekLeast 10 = .ok (.iload_n 1, 1) := by decide +kernel
theorem dX2_seekLeast_11 : decode cX2_seekLeast 11 = .ok (.aload_n 0, 1) := by decide +kernel
theorem dX2_seekLeast_12 : decode cX2_seekLeast 12 = .ok (.getfield 33, 3) := by decide +kernel
theorem dX2_seekLeast_15 : decode cX2_seekLeast 15 = .ok (.getfield 48, 3) := by decide +kernel
theorem dX2_seekLeast_18 : decode cX2_seekLeast 18 = .ok (.if_icmp .lt 42, 3) := by decide +kernel
theorem dX2_seekLeast_21 : decode cX2_seekLeast 21 = .ok (.aload_n 0, 1) := by decide +kernel
theorem dX2_seekLeast_22 : decode cX2_seekLeast 22 = .ok (.iload 4, 2) := by decide +kernel
theorem dX2_seekLeast_24 : decode cX2_seekLeast 24 = .ok (.putfield 115, 3) := by decide +kernel
theorem dX2_seekLeast_27 : decode cX2_seekLeast 27 = .ok (.aload_n 0, 1) := by decide +kernel
theorem dX2_seekLeast_28 : decode cX2_seekLeast 28 = .ok (.iload_n 1, 1) := by decide +kernel
theorem dX2_seekLeast_29 : decode cX2_seekLeast 29 = .ok (.aload_n 0, 1) := by decide +kernel
theorem dX2_seekLeast_30 : decode cX2_seekLeast 30 = .ok (.getfield 23, 3) := by decide +kernel
theorem dX2_seekLeast_33 : decode cX2_seekLeast 33 = .ok (.getfield 82, 3) := by decide +kernel
theorem dX2_seekLeast_36 : decode cX2_seekLeast 36 = .ok (.if_icmp .le 18, 3) := by decide +kernel
theorem dX2_seekLeast_39 : decode cX2_seekLeast 39 = .ok (.aload_n 0, 1) := by decide +kernel
theorem dX2_seekLeast_40 : decode cX2_seekLeast 40 = .ok (.getfield 9, 3) := by decide +kernel
theorem dX2_seekLeast_43 : decode cX2_seekLeast 43 = .ok (.aload_n 0, 1) := by decide +kernel
theorem dX2_seekLeast_44 : decode cX2_seekLeast 44 = .ok (.getfield 23, 3) := by decide +kernel
theorem dX2_seekLeast_47 : decode cX2_seekLeast 47 = .ok (.getfield 82, 3) := by decide +kernel
theorem dX2_seekLeast_50 : decode cX2_seekLeast 50 = .ok (.iaload, 1) := by decide +kernel
theorem dX2_seekLeast_51 : decode cX2_seekLeast 51 = .ok (.goto 5, 3) := by decide +kernel
theorem dX2_seekLeast_54 : decode cX2_seekLeast 54 = .ok (.bipush (-9), 2) := by decide +kernel
theorem dX2_seekLeast_56 : decode cX2_seekLeast 56 = .ok (.putfield 130, 3) := by decide +kernel
theorem dX2_seekLeast_59 : decode cX2_seekLeast 59 = .ok (.return_, 1) := by decide +kernel
theorem dX2_seekLeast_60 : decode cX2_seekLeast 60 = .ok (.iconst 0, 1) := by decide +kernel
theorem dX2_seekLeast_61 : decode cX2_seekLeast 61 = .ok (.istore 5, 2) := by decide +kernel
theorem dX2_seekLeast_63 : decode cX2_seekLeast 63 = .ok (.iload 5, 2) := by decide +kernel
theorem dX2_seekLeast_65 : decode cX2_seekLeast 65 = .ok (.aload_n 0, 1) := by decide +kernel
theorem dX2_seekLeast_66 : decode cX2_seekLeast 66 = .ok (.getfield 33, 3) := by decide +kernel
theorem dX2_seekLeast_69 : decode cX2_seekLeast 69 = .ok (.getfield 109, 3) := by decide +kernel
theorem dX2_seekLeast_72 : decode cX2_seekLeast 72 = .ok (.if_icmp .ge 67, 3) := by decide +kernel
theorem dX2_seekLeast_75 : decode cX2_seekLeast 75 = .ok (.aload_n 0, 1) := by decide +kernel
theorem dX2_seekLeast_76 : decode cX2_seekLeast 76 = .ok (.iload 5, 2) := by decide +kernel
theorem dX2_seekLeast_78 : decode cX2_seekLeast 78 = .ok (.iload_n 2, 1) := by decide +kernel
theorem dX2_seekLeast_79 : decode cX2_seekLeast 79 = .ok (.invokevirtual 112, 3) := by decide +kernel
theorem dX2_seekLeast_82 : decode cX2_seekLeast 82 = .ok (.ifCond .eq 51, 3) := by decide +kernel
theorem dX2_seekLeast_85 : decode cX2_seekLeast 85 = .ok (.aload_n 0, 1) := by decide +kernel
theorem dX2_seekLeast_86 : decode cX2_seekLeast 86 = .ok (.getfield 33, 3) := by decide +kernel
theorem dX2_seekLeast_89 : decode cX2_seekLeast 89 = .ok (.iload 5, 2) := by decide +kernel
theorem dX2_seekLeast_91 : decode cX2_seekLeast 91 = .ok (.iload_n 1, 1) := by decide +kernel
theorem dX2_seekLeast_92 : decode cX2_seekLeast 92 = .ok (.iload_n 2, 1) := by decide +kernel
theorem dX2_seekLeast_93 : decode cX2_seekLeast 93 = .ok (.iload_n 3, 1) := by decide +kernel
theorem dX2_seekLeast_94 : decode cX2_seekLeast 94 = .ok (.invokevirtual 85, 3) := by decide +kernel
theorem dX2_seekLeast_97 : decode cX2_seekLeast 97 = .ok (.istore 6, 2) := by decide +kernel
theorem dX2_seekLeast_99 : decode cX2_seekLeast 99 = .ok (.aload_n 0, 1) := by decide +kernel
theorem dX2_seekLeast_100 : decode cX2_seekLeast 100 = .ok (.getfield 9, 3) := by decide +kernel
theorem dX2_seekLeast_103 : decode cX2_seekLeast 103 = .ok (.iload_n 1, 1) := by decide +kernel
theorem dX2_seekLeast_104 : decode cX2_seekLeast 104 = .ok (.iload 5, 2) := by decide +kernel
theorem dX2_seekLeast_106 : decode cX2_seekLeast 106 = .ok (.iastore, 1) := by decide +kernel
theorem dX2_seekLeast_107 : decode cX2_seekLeast 107 = .ok (.aload_n 0, 1) := by decide +kernel
theorem dX2_seekLeast_108 : decode cX2_seekLeast 108 = .ok (.iload_n 1, 1) := by decide +kernel
theorem dX2_seekLeast_109 : decode cX2_seekLeast 109 = .ok (.iconst 1, 1) := by decide +kernel
theorem dX2_seekLeast_110 : decode cX2_seekLeast 110 = .ok (.iadd, 1) := by decide +kernel
theorem dX2_seekLeast_111 : decode cX2_seekLeast 111 = .ok (.iload_n 2, 1) := by decide +kernel
theorem dX2_seekLeast_112 : decode cX2_seekLeast 112 = .ok (.iconst 1, 1) := by decide +kernel
theorem dX2_seekLeast_113 : decode cX2_seekLeast 113 = .ok (.iload 5, 2) := by decide +kernel
theorem dX2_seekLeast_115 : decode cX2_seekLeast 115 = .ok (.ishl, 1) := by decide +kernel
theorem dX2_seekLeast_116 : decode cX2_seekLeast 116 = .ok (.ior, 1) := by decide +kernel
theorem dX2_seekLeast_117 : decode cX2_seekLeast 117 = .ok (.iload_n 3, 1) := by decide +kernel
theorem dX2_seekLeast_118 : decode cX2_seekLeast 118 = .ok (.iload 6, 2) := by decide +kernel
theorem dX2_seekLeast_120 : decode cX2_seekLeast 120 = .ok (.iload 6, 2) := by decide +kernel
theorem dX2_seekLeast_122 : decode cX2_seekLeast 122 = .ok (.invokestatic 89, 3) := by decide +kernel
theorem dX2_seekLeast_125 : decode cX2_seekLeast 125 = .ok (.iload 4, 2) := by decide +kernel
theorem dX2_seekLeast_127 : decode cX2_seekLeast 127 = .ok (.iload 6, 2) := by decide +kernel
theorem dX2_seekLeast_129 : decode cX2_seekLeast 129 = .ok (.iadd, 1) := by decide +kernel
theorem dX2_seekLeast_130 : decode cX2_seekLeast 130 = .ok (.invokevirtual 133, 3) := by decide +kernel
theorem dX2_seekLeast_133 : decode cX2_seekLeast 133 = .ok (.iinc 5 1, 3) := by decide +kernel
theorem dX2_seekLeast_136 : decode cX2_seekLeast 136 = .ok (.goto (-73), 3) := by decide +kernel
theorem dX2_seekLeast_139 : decode cX2_seekLeast 139 = .ok (.return_, 1) := by decide +kernel
theorem dX2_findWays_0 : decode cX2_findWays 0 = .ok (.aload_n 0, 1) := by decide +kernel
theorem dX2_findWays_1 : decode cX2_findWays 1 = .ok (.aload_n 0, 1) := by decide +kernel
theorem dX2_findWays_2 : decode cX2_findWays 2 = .ok (.getfield 23, 3) := by decide +kernel
theorem dX2_findWays_5 : decode cX2_findWays 5 = .ok (.invokevirtual 127, 3) := by decide +kernel
theorem dX2_findWays_8 : decode cX2_findWays 8 = .ok (.putfield 34, 3) := by decide +kernel
theorem dX2_findWays_11 : decode cX2_findWays 11 = .ok (.aload_n 0, 1) := by decide +kernel
theorem dX2_findWays_12 : decode cX2_findWays 12 = .ok (.iload_n 1, 1) := by decide +kernel
theorem dX2_findWays_13 : decode cX2_findWays 13 = .ok (.putfield 137, 3) := by decide +kernel
theorem dX2_findWays_16 : decode cX2_findWays 16 = .ok (.aload_n 0, 1) := by decide +kernel
theorem dX2_findWays_17 : decode cX2_findWays 17 = .ok (.lconst 0, 1) := by decide +kernel
theorem dX2_findWays_18 : decode cX2_findWays 18 = .ok (.putfield 140, 3) := by decide +kernel
theorem dX2_findWays_21 : decode cX2_findWays 21 = .ok (.aload_n 0, 1) := by decide +kernel
theorem dX2_findWays_22 : decode cX2_findWays 22 = .ok (.aload_n 0, 1) := by decide +kernel
theorem dX2_findWays_23 : decode cX2_findWays 23 = .ok (.getfield 23, 3) := by decide +kernel
theorem dX2_findWays_26 : decode cX2_findWays 26 = .ok (.getfield 62, 3) := by decide +kernel
theorem dX2_findWays_29 : decode cX2_findWays 29 = .ok (.iconst (-1), 1) := by decide +kernel
theorem dX2_findWays_30 : decode cX2_findWays 30 = .ok (.ixor, 1) := by decide +kernel
theorem dX2_findWays_31 : decode cX2_findWays 31 = .ok (.putfield 144, 3) := by decide +kernel
theorem dX2_findWays_34 : decode cX2_findWays 34 = .ok (.aload_n 0, 1) := by decide +kernel
theorem dX2_findWays_35 : decode cX2_findWays 35 = .ok (.aload_n 0, 1) := by decide +kernel
theorem dX2_findWays_36 : decode cX2_findWays 36 = .ok (.getfield 23, 3) := by decide +kernel
theorem dX2_findWays_39 : decode cX2_findWays 39 = .ok (.getfield 82, 3) := by decide +kernel
theorem dX2_findWays_42 : decode cX2_findWays 42 = .ok (.aload_n 0, 1) := by decide +kernel
theorem dX2_findWays_43 : decode cX2_findWays 43 = .ok (.getfield 23, 3) := by decide +kernel
theorem dX2_findWays_46 : decode cX2_findWays 46 = .ok (.getfield 62, 3) := by decide +kernel
theorem dX2_findWays_49 : decode cX2_findWays 49 = .ok (.aload_n 0, 1) := by decide +kernel
theorem dX2_findWays_50 : decode cX2_findWays 50 = .ok (.getfield 23, 3) := by decide +kernel
theorem dX2_findWays_53 : decode cX2_findWays 53 = .ok (.getfield 68, 3) := by decide +kernel
theorem dX2_findWays_56 : decode cX2_findWays 56 = .ok (.aload_n 0, 1) := by decide +kernel
theorem dX2_findWays_57 : decode cX2_findWays 57 = .ok (.getfield 23, 3) := by decide +kernel
theorem dX2_findWays_60 : decode cX2_findWays 60 = .ok (.getfield 65, 3) := by decide +kernel
theorem dX2_findWays_63 : decode cX2_findWays 63 = .ok (.iconst 0, 1) := by decide +kernel
theorem dX2_findWays_64 : decode cX2_findWays 64 = .ok (.invokevirtual 147, 3) := by decide +kernel
theorem dX2_findWays_67 : decode cX2_findWays 67 = .ok (.aload_n 0, 1) := by decide +kernel
theorem dX2_findWays_68 : decode cX2_findWays 68 = .ok (.aload_n 0, 1) := by decide +kernel
theorem dX2_findWays_69 : decode cX2_findWays 69 = .ok (.getfield 140, 3) := by decide +kernel
theorem dX2_findWays_72 : decode cX2_findWays 72 = .ok (.lconst 0, 1) := by decide +kernel
theorem dX2_findWays_73 : decode cX2_findWays 73 = .ok (.lcmp, 1) := by decide +kernel
theorem dX2_findWays_74 : decode cX2_findWays 74 = .ok (.ifCond .ne 7, 3) := by decide +kernel
theorem dX2_findWays_77 : decode cX2_findWays 77 = .ok (.iconst 0, 1) := by decide +kernel
theorem dX2_findWays_78 : decode cX2_findWays 78 = .ok (.goto 7, 3) := by decide +kernel
theorem dX2_findWays_81 : decode cX2_findWays 81 = .ok (.aload_n 0, 1) := by decide +kernel
theorem dX2_findWays_82 : decode cX2_findWays 82 = .ok (.getfield 144, 3) := by decide +kernel
theorem dX2_findWays_85 : decode cX2_findWays 85 = .ok (.putfield 144, 3) := by decide +kernel
theorem dX2_findWays_88 : decode cX2_findWays 88 = .ok (.return_, 1) := by decide +kernel
theorem dX2_seekWays_0 : decode cX2_seekWays 0 = .ok (.iload 5, 2) := by decide +kernel
theorem dX2_seekWays_2 : decode cX2_seekWays 2 = .ok (.aload_n 0, 1) := by decide +kernel
theorem dX2_seekWays_3 : decode cX2_seekWays 3 = .ok (.getfield 137, 3) := by decide +kernel
theorem dX2_seekWays_6 : decode cX2_seekWays 6 = .ok (.if_icmp .lt 42, 3) := by decide +kernel
theorem dX2_seekWays_9 : decode cX2_seekWays 9 = .ok (.aload_n 0, 1) := by decide +kernel
theorem dX2_seekWays_10 : decode cX2_seekWays 10 = .ok (.dup, 1) := by decide +kernel
theorem dX2_seekWays_11 : decode cX2_seekWays 11 = .ok (.getfield 140, 3) := by decide +kernel
theorem dX2_seekWays_14 : decode cX2_seekWays 14 = .ok (.aload_n 0, 1) := by decide +kernel
theorem dX2_seekWays_15 : decode cX2_seekWays 15 = .ok (.aload_n 0, 1) := by decide +kernel
theorem dX2_seekWays_16 : decode cX2_seekWays 16 = .ok (.getfield 33, 3) := by decide +kernel
theorem dX2_seekWays_19 : decode cX2_seekWays 19 = .ok (.getfield 48, 3) := by decide +kernel
theorem dX2_seekWays_22 : decode cX2_seekWays 22 = .ok (.iload_n 1, 1) := by decide +kernel
theorem dX2_seekWays_23 : decode cX2_seekWays 23 = .ok (.isub, 1) := by decide +kernel
theorem dX2_seekWays_24 : decode cX2_seekWays 24 = .ok (.aload_n 0, 1) := by decide +kernel
theorem dX2_seekWays_25 : decode cX2_seekWays 25 = .ok (.iload_n 2, 1) := by decide +kernel
theorem dX2_seekWays_26 : decode cX2_seekWays 26 = .ok (.invokevirtual 53, 3) := by decide +kernel
theorem dX2_seekWays_29 : decode cX2_seekWays 29 = .ok (.invokevirtual 150, 3) := by decide +kernel
theorem dX2_seekWays_32 : decode cX2_seekWays 32 = .ok (.i2l, 1) := by decide +kernel
theorem dX2_seekWays_33 : decode cX2_seekWays 33 = .ok (.ladd, 1) := by decide +kernel
theorem dX2_seekWays_34 : decode cX2_seekWays 34 = .ok (.putfield 140, 3) := by decide +kernel
theorem dX2_seekWays_37 : decode cX2_seekWays 37 = .ok (.aload_n 0, 1) := by decide +kernel
theorem dX2_seekWays_38 : decode cX2_seekWays 38 = .ok (.dup, 1) := by decide +kernel
theorem dX2_seekWays_39 : decode cX2_seekWays 39 = .ok (.getfield 144, 3) := by decide +kernel
theorem dX2_seekWays_42 : decode cX2_seekWays 42 = .ok (.iload_n 2, 1) := by decide +kernel
theorem dX2_seekWays_43 : decode cX2_seekWays 43 = .ok (.iand, 1) := by decide +kernel
theorem dX2_seekWays_44 : decode cX2_seekWays 44 = .ok (.putfield 144, 3) := by decide +kernel
theorem dX2_seekWays_47 : decode cX2_seekWays 47 = .ok (.return_, 1) := by decide +kernel
theorem dX2_seekWays_48 : decode cX2_seekWays 48 = .ok (.iload_n 1, 1) := by decide +kernel
theorem dX2_seekWays_49 : decode cX2_seekWays 49 = .ok (.aload_n 0, 1) := by decide +kernel
theorem dX2_seekWays_50 : decode cX2_seekWays 50 = .ok (.getfield 33, 3) := by decide +kernel
theorem dX2_seekWays_53 : decode cX2_seekWays 53 = .ok (.getfield 48, 3) := by decide +kernel
theorem dX2_seekWays_56 : decode cX2_seekWays 56 = .ok (.if_icmp .ge 19, 3) := by decide +kernel
theorem dX2_seekWays_59 : decode cX2_seekWays 59 = .ok (.iload 5, 2) := by decide +kernel
theorem dX2_seekWays_61 : decode cX2_seekWays 61 = .ok (.aload_n 0, 1) := by decide +kernel
theorem dX2_seekWays_62 : decode cX2_seekWays 62 = .ok (.iload_n 1, 1) := by decide +kernel
theorem dX2_seekWays_63 : decode cX2_seekWays 63 = .ok (.iload_n 2, 1) := by decide +kernel
theorem dX2_seekWays_64 : decode cX2_seekWays 64 = .ok (.invokevirtual 106, 3) := by decide +kernel
theorem dX2_seekWays_67 : decode cX2_seekWays 67 = .ok (.iadd, 1) := by decide +kernel
theorem dX2_seekWays_68 : decode cX2_seekWays 68 = .ok (.aload_n 0, 1) := by decide +kernel
theorem dX2_seekWays_69 : decode cX2_seekWays 69 = .ok (.getfield 137, 3) := by decide +kernel
theorem dX2_seekWays_72 : decode cX2_seekWays 72 = .ok (.if_icmp .ge 4, 3) := by decide +kernel
theorem dX2_seekWays_75 : decode cX2_seekWays 75 = .ok (.return_, 1) := by decide +kernel
theorem dX2_seekWays_76 : decode cX2_seekWays 76 = .ok (.aload_n 0, 1) := by decide +kernel
theorem dX2_seekWays_77 : decode cX2_seekWays 77 = .ok (.iload_n 1, 1) := by decide +kernel
theorem dX2_seekWays_78 : decode cX2_seekWays 78 = .ok (.iconst 1, 1) := by decide +kernel
theorem dX2_seekWays_79 : decode cX2_seekWays 79 = .ok (.iadd, 1) := by decide +kernel
theorem dX2_seekWays_80 : decode cX2_seekWays 80 = .ok (.iload_n 2, 1) := by decide +kernel
theorem dX2_seekWays_81 : decode cX2_seekWays 81 = .ok (.iload_n 3, 1) := by decide +kernel
theorem dX2_seekWays_82 : decode cX2_seekWays 82 = .ok (.iload 4, 2) := by decide +kernel
theorem dX2_seekWays_84 : decode cX2_seekWays 84 = .ok (.iload 5, 2) := by decide +kernel
theorem dX2_seekWays_86 : decode cX2_seekWays 86 = .ok (.invokevirtual 147, 3) := by decide +kernel
theorem dX2_seekWays_89 : decode cX2_seekWays 89 = .ok (.iconst 0, 1) := by decide +kernel
theorem dX2_seekWays_90 : decode cX2_seekWays 90 = .ok (.istore 6, 2) := by decide +kernel
theorem dX2_seekWays_92 : decode cX2_seekWays 92 = .ok (.iload 6, 2) := by decide +kernel
theorem dX2_seekWays_94 : decode cX2_seekWays 94 = .ok (.aload_n 0, 1) := by decide +kernel
theorem dX2_seekWays_95 : decode cX2_seekWays 95 = .ok (.getfield 33, 3) := by decide +kernel
theorem dX2_seekWays_98 : decode cX2_seekWays 98 = .ok (.getfield 109, 3) := by decide +kernel
theorem dX2_seekWays_101 : decode cX2_seekWays 101 = .ok (.if_icmp .ge 76, 3) := by decide +kernel
theorem dX2_seekWays_104 : decode cX2_seekWays 104 = .ok (.aload_n 0, 1) := by decide +kernel
theorem dX2_seekWays_105 : decode cX2_seekWays 105 = .ok (.iload 6, 2) := by decide +kernel
theorem dX2_seekWays_107 : decode cX2_seekWays 107 = .ok (.iload_n 2, 1) := by decide +kernel
theorem dX2_seekWays_108 : decode cX2_seekWays 108 = .ok (.invokevirtual 112, 3) := by decide +kernel
theorem dX2_seekWays_111 : decode cX2_seekWays 111 = .ok (.ifCond .eq 60, 3) := by decide +kernel
theorem dX2_seekWays_114 : decode cX2_seekWays 114 = .ok (.aload_n 0, 1) := by decide +kernel
theorem dX2_seekWays_115 : decode cX2_seekWays 115 = .ok (.getfield 33, 3) := by decide +kernel
theorem dX2_seekWays_118 : decode cX2_seekWays 118 = .ok (.iload 6, 2) := by decide +kernel
theorem dX2_seekWays_120 : decode cX2_seekWays 120 = .ok (.iload_n 1, 1) := by decide +kernel
theorem dX2_seekWays_121 : decode cX2_seekWays 121 = .ok (.iload_n 2, 1) := by decide +kernel
theorem dX2_seekWays_122 : decode cX2_seekWays 122 = .ok (.iload_n 3, 1) := by decide +kernel
theorem dX2_seekWays_123 : decode cX2_seekWays 123 = .ok (.invokevirtual 85, 3) := by decide +kernel
theorem dX2_seekWays_126 : decode cX2_seekWays 126 = .ok (.istore 7, 2) := by decide +kernel
theorem dX2_seekWays_128 : decode cX2_seekWays 128 = .ok (.aload_n 0, 1) := by decide +kernel
theorem dX2_seekWays_129 : decode cX2_seekWays 129 = .ok (.iload_n 1, 1) := by decide +kernel
theorem dX2_seekWays_130 : decode cX2_seekWays 130 = .ok (.iconst 1, 1) := by decide +kernel
theorem dX2_seekWays_131 : decode cX2_seekWays 131 = .ok (.iadd, 1) := by decide +kernel
theorem dX2_seekWays_132 : decode cX2_seekWays 132 = .ok (.iload_n 2, 1) := by decide +kernel
theorem dX2_seekWays_133 : decode cX2_seekWays 133 = .ok (.iconst 1, 1) := by decide +kernel
theorem dX2_seekWays_134 : decode cX2_seekWays 134 = .ok (.iload 6, 2) := by decide +kernel
theorem dX2_seekWays_136 : decode cX2_seekWays 136 = .ok (.ishl, 1) := by decide +kernel
theorem dX2_seekWays_137 : decode cX2_seekWays 137 = .ok (.ior, 1) := by decide +kernel
theorem dX2_seekWays_138 : decode cX2_seekWays 138 = .ok (.iload_n 3, 1) := by decide +kernel
theorem dX2_seekWays_139 : decode cX2_seekWays 139 = .ok (.iload 7, 2) := by decide +kernel
theorem dX2_seekWays_141 : decode cX2_seekWays 141 = .ok (.iload 4, 2) := by decide +kernel
theorem dX2_seekWays_143 : decode cX2_seekWays 143 = .ok (.invokestatic 89, 3) := by decide +kernel
theorem dX2_seekWays_146 : decode cX2_seekWays 146 = .ok (.iload 7, 2) := by decide +kernel
theorem dX2_seekWays_148 : decode cX2_seekWays 148 = .ok (.iload 4, 2) := by decide +kernel
theorem dX2_seekWays_150 : decode cX2_seekWays 150 = .ok (.invokestatic 93, 3) := by decide +kernel
theorem dX2_seekWays_153 : decode cX2_seekWays 153 = .ok (.iload 5, 2) := by decide +kernel
theorem dX2_seekWays_155 : decode cX2_seekWays 155 = .ok (.iload 7, 2) := by decide +kernel
theorem dX2_seekWays_157 : decode cX2_seekWays 157 = .ok (.iload 4, 2) := by decide +kernel
theorem dX2_seekWays_159 : decode cX2_seekWays 159 = .ok (.if_icmp .gt 7, 3) := by decide +kernel
theorem dX2_seekWays_162 : decode cX2_seekWays 162 = .ok (.iconst 1, 1) := by decide +kernel
theorem dX2_seekWays_163 : decode cX2_seekWays 163 = .ok (.goto 4, 3) := by decide +kernel
theorem dX2_seekWays_166 : decode cX2_seekWays 166 = .ok (.iconst 0, 1) := by decide +kernel
theorem dX2_seekWays_167 : decode cX2_seekWays 167 = .ok (.iadd, 1) := by decide +kernel
theorem dX2_seekWays_168 : decode cX2_seekWays 168 = .ok (.invokevirtual 147, 3) := by decide +kernel
theorem dX2_seekWays_171 : decode cX2_seekWays 171 = .ok (.iinc 6 1, 3) := by decide +kernel
theorem dX2_seekWays_174 : decode cX2_seekWays 174 = .ok (.goto (-82), 3) := by decide +kernel
theorem dX2_seekWays_177 : decode cX2_seekWays 177 = .ok (.return_, 1) := by decide +kernel
theorem dX2_plansFor_0 : decode cX2_plansFor 0 = .ok (.iload_n 1, 1) := by decide +kernel
theorem dX2_plansFor_1 : decode cX2_plansFor 1 = .ok (.ifCond .lt 23, 3) := by decide +kernel
theorem dX2_plansFor_4 : decode cX2_plansFor 4 = .ok (.iload_n 1, 1) := by decide +kernel
theorem dX2_plansFor_5 : decode cX2_plansFor 5 = .ok (.bipush 6, 2) := by decide +kernel
theorem dX2_plansFor_7 : decode cX2_plansFor 7 = .ok (.if_icmp .gt 17, 3) := by decide +kernel
theorem dX2_plansFor_10 : decode cX2_plansFor 10 = .ok (.iload_n 2, 1) := by decide +kernel
theorem dX2_plansFor_11 : decode cX2_plansFor 11 = .ok (.ifCond .lt 13, 3) := by decide +kernel
theorem dX2_plansFor_14 : decode cX2_plansFor 14 = .ok (.iload_n 2, 1) := by decide +kernel
theorem dX2_plansFor_15 : decode cX2_plansFor 15 = .ok (.bipush 6, 2) := by decide +kernel
theorem dX2_plansFor_17 : decode cX2_plansFor 17 = .ok (.if_icmp .gt 7, 3) := by decide +kernel
theorem dX2_plansFor_20 : decode cX2_plansFor 20 = .ok (.iconst 1, 1) := by decide +kernel
theorem dX2_plansFor_21 : decode cX2_plansFor 21 = .ok (.goto 4, 3) := by decide +kernel
theorem dX2_plansFor_24 : decode cX2_plansFor 24 = .ok (.iconst 0, 1) := by decide +kernel
theorem dX2_plansFor_25 : decode cX2_plansFor 25 = .ok (.istore_n 3, 1) := by decide +kernel
theorem dX2_plansFor_26 : decode cX2_plansFor 26 = .ok (.iload_n 3, 1) := by decide +kernel
theorem dX2_plansFor_27 : decode cX2_plansFor 27 = .ok (.ifCond .eq 14, 3) := by decide +kernel
theorem dX2_plansFor_30 : decode cX2_plansFor 30 = .ok (.aload_n 0, 1) := by decide +kernel
theorem dX2_plansFor_31 : decode cX2_plansFor 31 = .ok (.getfield 20, 3) := by decide +kernel
theorem dX2_plansFor_34 : decode cX2_plansFor 34 = .ok (.iload_n 1, 1) := by decide +kernel
theorem dX2_plansFor_35 : decode cX2_plansFor 35 = .ok (.aaload, 1) := by decide +kernel
theorem dX2_plansFor_36 : decode cX2_plansFor 36 = .ok (.iload_n 2, 1) := by decide +kernel
theorem dX2_plansFor_37 : decode cX2_plansFor 37 = .ok (.iaload, 1) := by decide +kernel
theorem dX2_plansFor_38 : decode cX2_plansFor 38 = .ok (.goto 4, 3) := by decide +kernel
theorem dX2_plansFor_41 : decode cX2_plansFor 41 = .ok (.iconst 0, 1) := by decide +kernel
theorem dX2_plansFor_42 : decode cX2_plansFor 42 = .ok (.ireturn, 1) := by decide +kernel
theorem dX2_findDuel_0 : decode cX2_findDuel 0 = .ok (.aload_n 0, 1) := by decide +kernel
theorem dX2_findDuel_1 : decode cX2_findDuel 1 = .ok (.aload_n 0, 1) := by decide +kernel
theorem dX2_findDuel_2 : decode cX2_findDuel 2 = .ok (.getfield 23, 3) := by decide +kernel
theorem dX2_findDuel_5 : decode cX2_findDuel 5 = .ok (.invokevirtual 127, 3) := by decide +kernel
theorem dX2_findDuel_8 : decode cX2_findDuel 8 = .ok (.putfield 34, 3) := by decide +kernel
theorem dX2_findDuel_11 : decode cX2_findDuel 11 = .ok (.aload_n 0, 1) := by decide +kernel
theorem dX2_findDuel_12 : decode cX2_findDuel 12 = .ok (.aload_n 0, 1) := by decide +kernel
theorem dX2_findDuel_13 : decode cX2_findDuel 13 = .ok (.getfield 23, 3) := by decide +kernel
theorem dX2_findDuel_16 : decode cX2_findDuel 16 = .ok (.getfield 82, 3) := by decide +kernel
theorem dX2_findDuel_19 : decode cX2_findDuel 19 = .ok (.aload_n 0, 1) := by decide +kernel
theorem dX2_findDuel_20 : decode cX2_findDuel 20 = .ok (.getfield 23, 3) := by decide +kernel
theorem dX2_findDuel_23 : decode cX2_findDuel 23 = .ok (.getfield 82, 3) := by decide +kernel
theorem dX2_findDuel_26 : decode cX2_findDuel 26 = .ok (.iload_n 1, 1) := by decide +kernel
theorem dX2_findDuel_27 : decode cX2_findDuel 27 = .ok (.iadd, 1) := by decide +kernel
theorem dX2_findDuel_28 : decode cX2_findDuel 28 = .ok (.aload_n 0, 1) := by decide +kernel
theorem dX2_findDuel_29 : decode cX2_findDuel 29 = .ok (.getfield 23, 3) := by decide +kernel
theorem dX2_findDuel_32 : decode cX2_findDuel 32 = .ok (.getfield 62, 3) := by decide +kernel
theorem dX2_findDuel_35 : decode cX2_findDuel 35 = .ok (.aload_n 0, 1) := by decide +kernel
theorem dX2_findDuel_36 : decode cX2_findDuel 36 = .ok (.getfield 23, 3) := by decide +kernel
theorem dX2_findDuel_39 : decode cX2_findDuel 39 = .ok (.getfield 68, 3) := by decide +kernel
theorem dX2_findDuel_42 : decode cX2_findDuel 42 = .ok (.aload_n 0, 1) := by decide +kernel
theorem dX2_findDuel_43 : decode cX2_findDuel 43 = .ok (.getfield 23, 3) := by decide +kernel
theorem dX2_findDuel_46 : decode cX2_findDuel 46 = .ok (.getfield 65, 3) := by decide +kernel
theorem dX2_findDuel_49 : decode cX2_findDuel 49 = .ok (.iconst 1, 1) := by decide +kernel
theorem dX2_findDuel_50 : decode cX2_findDuel 50 = .ok (.invokevirtual 153, 3) := by decide +kernel
theorem dX2_findDuel_53 : decode cX2_findDuel 53 = .ok (.ireturn, 1) := by decide +kernel
theorem dX2_duelFrom_0 : decode cX2_duelFrom 0 = .ok (.iload_n 1, 1) := by decide +kernel
theorem dX2_duelFrom_1 : decode cX2_duelFrom 1 = .ok (.iload_n 2, 1) := by decide +kernel
theorem dX2_duelFrom_2 : decode cX2_duelFrom 2 = .ok (.if_icmp .ge 22, 3) := by decide +kernel
theorem dX2_duelFrom_5 : decode cX2_duelFrom 5 = .ok (.iload_n 1, 1) := by decide +kernel
theorem dX2_duelFrom_6 : decode cX2_duelFrom 6 = .ok (.aload_n 0, 1) := by decide +kernel
theorem dX2_duelFrom_7 : decode cX2_duelFrom 7 = .ok (.getfield 33, 3) := by decide +kernel
theorem dX2_duelFrom_10 : decode cX2_duelFrom 10 = .ok (.getfield 48, 3) := by decide +kernel
theorem dX2_duelFrom_13 : decode cX2_duelFrom 13 = .ok (.if_icmp .ge 11, 3) := by decide +kernel
theorem dX2_duelFrom_16 : decode cX2_duelFrom 16 = .ok (.aload_n 0, 1) := by decide +kernel
theorem dX2_duelFrom_17 : decode cX2_duelFrom 17 = .ok (.iload_n 3, 1) := by decide +kernel
theorem dX2_duelFrom_18 : decode cX2_duelFrom 18 = .ok (.invokevirtual 53, 3) := by decide +kernel
theorem dX2_duelFrom_21 : decode cX2_duelFrom 21 = .ok (.ifCond .ne 5, 3) := by decide +kernel
theorem dX2_duelFrom_24 : decode cX2_duelFrom 24 = .ok (.iconst 0, 1) := by decide +kernel
theorem dX2_duelFrom_25 : decode cX2_duelFrom 25 = .ok (.ireturn, 1) := by decide +kernel
theorem dX2_duelFrom_26 : decode cX2_duelFrom 26 = .ok (.iload 6, 2) := by decide +kernel
theorem dX2_duelFrom_28 : decode cX2_duelFrom 28 = .ok (.ifCond .eq 7, 3) := by decide +kernel
theorem dX2_duelFrom_31 : decode cX2_duelFrom 31 = .ok (.iconst (-1), 1) := by decide +kernel
theorem dX2_duelFrom_32 : decode cX2_duelFrom 32 = .ok (.goto 5, 3) := by decide +kernel
theorem dX2_duelFrom_35 : decode cX2_duelFrom 35 = .ok (.bipush 7, 2) := by decide +kernel
theorem dX2_duelFrom_37 : decode cX2_duelFrom 37 = .ok (.istore 7, 2) := by decide +kernel
theorem dX2_duelFrom_39 : decode cX2_duelFrom 39 = .ok (.iconst 0, 1) := by decide +kernel
theorem dX2_duelFrom_40 : decode cX2_duelFrom 40 = .ok (.istore 8, 2) := by decide +kernel
theorem dX2_duelFrom_42 : decode cX2_duelFrom 42 = .ok (.iload 8, 2) := by decide +kernel
theorem dX2_duelFrom_44 : decode cX2_duelFrom 44 = .ok (.aload_n 0, 1) := by decide +kernel
theorem dX2_duelFrom_45 : decode cX2_duelFrom 45 = .ok (.getfield 33, 3) := by decide +kernel
theorem dX2_duelFrom_48 : decode cX2_duelFrom 48 = .ok (.getfield 109, 3) := by decide +kernel
theorem dX2_duelFrom_51 : decode cX2_duelFrom 51 = .ok (.if_icmp .ge 113, 3) := by decide +kernel
theorem dX2_duelFrom_54 : decode cX2_duelFrom 54 = .ok (.aload_n 0, 1) := by decide +kernel
theorem dX2_duelFrom_55 : decode cX2_duelFrom 55 = .ok (.iload 8, 2) := by decide +kernel
theorem dX2_duelFrom_57 : decode cX2_duelFrom 57 = .ok (.iload_n 3, 1) := by decide +kernel
theorem dX2_duelFrom_58 : decode cX2_duelFrom 58 = .ok (.invokevirtual 112, 3) := by decide +kernel
theorem dX2_duelFrom_61 : decode cX2_duelFrom 61 = .ok (.ifCond .eq 97, 3) := by decide +kernel
theorem dX2_duelFrom_64 : decode cX2_duelFrom 64 = .ok (.aload_n 0, 1) := by decide +kernel
theorem dX2_duelFrom_65 : decode cX2_duelFrom 65 = .ok (.getfield 33, 3) := by decide +kernel
theorem dX2_duelFrom_68 : decode cX2_duelFrom 68 = .ok (.iload 8, 2) := by decide +kernel
theorem dX2_duelFrom_70 : decode cX2_duelFrom 70 = .ok (.iload_n 1, 1) := by decide +kernel
theorem dX2_duelFrom_71 : decode cX2_duelFrom 71 = .ok (.iload_n 3, 1) := by decide +kernel
theorem dX2_duelFrom_72 : decode cX2_duelFrom 72 = .ok (.iload 4, 2) := by decide +kernel
theorem dX2_duelFrom_74 : decode cX2_duelFrom 74 = .ok (.invokevirtual 85, 3) := by decide +kernel
theorem dX2_duelFrom_77 : decode cX2_duelFrom 77 = .ok (.istore 9, 2) := by decide +kernel
theorem dX2_duelFrom_79 : decode cX2_duelFrom 79 = .ok (.iload 9, 2) := by decide +kernel
theorem dX2_duelFrom_81 : decode cX2_duelFrom 81 = .ok (.iload 5, 2) := by decide +kernel
theorem dX2_duelFrom_83 : decode cX2_duelFrom 83 = .ok (.if_icmp .gt 7, 3) := by decide +kernel
theorem dX2_duelFrom_86 : decode cX2_duelFrom 86 = .ok (.iconst 1, 1) := by decide +kernel
theorem dX2_duelFrom_87 : decode cX2_duelFrom 87 = .ok (.goto 4, 3) := by decide +kernel
theorem dX2_duelFrom_90 : decode cX2_duelFrom 90 = .ok (.iconst 0, 1) := by decide +kernel
theorem dX2_duelFrom_91 : decode cX2_duelFrom 91 = .ok (.aload_n 0, 1) := by decide +kernel
theorem dX2_duelFrom_92 : decode cX2_duelFrom 92 = .ok (.iload_n 1, 1) := by decide +kernel
theorem dX2_duelFrom_93 : decode cX2_duelFrom 93 = .ok (.iconst 1, 1) := by decide +kernel
theorem dX2_duelFrom_94 : decode cX2_duelFrom 94 = .ok (.iadd, 1) := by decide +kernel
theorem dX2_duelFrom_95 : decode cX2_duelFrom 95 = .ok (.iload_n 2, 1) := by decide +kernel
theorem dX2_duelFrom_96 : decode cX2_duelFrom 96 = .ok (.iload_n 3, 1) := by decide +kernel
theorem dX2_duelFrom_97 : decode cX2_duelFrom 97 = .ok (.iconst 1, 1) := by decide +kernel
theorem dX2_duelFrom_98 : decode cX2_duelFrom 98 = .ok (.iload 8, 2) := by decide +kernel
theorem dX2_duelFrom_100 : decode cX2_duelFrom 100 = .ok (.ishl, 1) := by decide +kernel
theorem dX2_duelFrom_101 : decode cX2_duelFrom 101 = .ok (.ior, 1) := by decide +kernel
theorem dX2_duelFrom_102 : decode cX2_duelFrom 102 = .ok (.iload 4, 2) := by decide +kernel
theorem dX2_duelFrom_104 : decode cX2_duelFrom 104 = .ok (.iload 9, 2) := by decide +kernel
theorem dX2_duelFrom_106 : decode cX2_duelFrom 106 = .ok (.iload 5, 2) := by decide +kernel
theorem dX2_duelFrom_108 : decode cX2_duelFrom 108 = .ok (.invokestatic 89, 3) := by decide +kernel
theorem dX2_duelFrom_111 : decode cX2_duelFrom 111 = .ok (.iload 9, 2) := by decide +kernel
theorem dX2_duelFrom_113 : decode cX2_duelFrom 113 = .ok (.iload 5, 2) := by decide +kernel
theorem dX2_duelFrom_115 : decode cX2_duelFrom 115 = .ok (.invokestatic 93, 3) := by decide +kernel
theorem dX2_duelFrom_118 : decode cX2_duelFrom 118 = .ok (.iload 6, 2) := by decide +kernel
theorem dX2_duelFrom_120 : decode cX2_duelFrom 120 = .ok (.ifCond .ne 7, 3) := by decide +kernel
theorem dX2_duelFrom_123 : decode cX2_duelFrom 123 = .ok (.iconst 1, 1) := by decide +kernel
theorem dX2_duelFrom_124 : decode cX2_duelFrom 124 = .ok (.goto 4, 3) := by decide +kernel
theorem dX2_duelFrom_127 : decode cX2_duelFrom 127 = .ok (.iconst 0, 1) := by decide +kernel
theorem dX2_duelFrom_128 : decode cX2_duelFrom 128 = .ok (.invokevirtual 153, 3) := by decide +kernel
theorem dX2_duelFrom_131 : decode cX2_duelFrom 131 = .ok (.iadd, 1) := by decide +kernel
theorem dX2_duelFrom_132 : decode cX2_duelFrom 132 = .ok (.istore 10, 2) := by decide +kernel
theorem dX2_duelFrom_134 : decode cX2_duelFrom 134 = .ok (.iload 6, 2) := by decide +kernel
theorem dX2_duelFrom_136 : decode cX2_duelFrom 136 = .ok (.ifCond .eq 13, 3) := by decide +kernel
theorem dX2_duelFrom_139 : decode cX2_duelFrom 139 = .ok (.iload 7, 2) := by decide +kernel
theorem dX2_duelFrom_141 : decode cX2_duelFrom 141 = .ok (.iload 10, 2) := by decide +kernel
theorem dX2_duelFrom_143 : decode cX2_duelFrom 143 = .ok (.invokestatic 103, 3) := by decide +kernel
theorem dX2_duelFrom_146 : decode cX2_duelFrom 146 = .ok (.goto 10, 3) := by decide +kernel
theorem dX2_duelFrom_149 : decode cX2_duelFrom 149 = .ok (.iload 7, 2) := by decide +kernel
theorem dX2_duelFrom_151 : decode cX2_duelFrom 151 = .ok (.iload 10, 2) := by decide +kernel
theorem dX2_duelFrom_153 : decode cX2_duelFrom 153 = .ok (.invokestatic 56, 3) := by decide +kernel
theorem dX2_duelFrom_156 : decode cX2_duelFrom 156 = .ok (.istore 7, 2) := by decide +kernel
theorem dX2_duelFrom_158 : decode cX2_duelFrom 158 = .ok (.iinc 8 1, 3) := by decide +kernel
theorem dX2_duelFrom_161 : decode cX2_duelFrom 161 = .ok (.goto (-119), 3) := by decide +kernel
theorem dX2_duelFrom_164 : decode cX2_duelFrom 164 = .ok (.iload 7, 2) := by decide +kernel
theorem dX2_duelFrom_166 : decode cX2_duelFrom 166 = .ok (.ireturn, 1) := by decide +kernel
theorem dX2_findDraws_0 : decode cX2_findDraws 0 = .ok (.aload_n 0, 1) := by decide +kernel
theorem dX2_findDraws_1 : decode cX2_findDraws 1 = .ok (.aload_n 0, 1) := by decide +kernel
theorem dX2_findDraws_2 : decode cX2_findDraws 2 = .ok (.getfield 23, 3) := by decide +kernel
theorem dX2_findDraws_5 : decode cX2_findDraws 5 = .ok (.invokevirtual 127, 3) := by decide +kernel
theorem dX2_findDraws_8 : decode cX2_findDraws 8 = .ok (.putfield 34, 3) := by decide +kernel
theorem dX2_findDraws_11 : decode cX2_findDraws 11 = .ok (.aload_n 0, 1) := by decide +kernel
theorem dX2_findDraws_12 : decode cX2_findDraws 12 = .ok (.iload_n 1, 1) := by decide +kernel
theorem dX2_findDraws_13 : decode cX2_findDraws 13 = .ok (.putfield 137, 3) := by decide +kernel
theorem dX2_findDraws_16 : decode cX2_findDraws 16 = .ok (.aload_n 0, 1) := by decide +kernel
theorem dX2_findDraws_17 : decode cX2_findDraws 17 = .ok (.lconst 0, 1) := by decide +kernel
theorem dX2_findDraws_18 : decode cX2_findDraws 18 = .ok (.putfield 157, 3) := by decide +kernel
theorem dX2_findDraws_21 : decode cX2_findDraws 21 = .ok (.aload_n 0, 1) := by decide +kernel
theorem dX2_findDraws_22 : decode cX2_findDraws 22 = .ok (.lconst 0, 1) := by decide +kernel
theorem dX2_findDraws_23 : decode cX2_findDraws 23 = .ok (.putfield 160, 3) := by decide +kernel
theorem dX2_findDraws_26 : decode cX2_findDraws 26 = .ok (.aload_n 0, 1) := by decide +kernel
theorem dX2_findDraws_27 : decode cX2_findDraws 27 = .ok (.lconst 0, 1) := by decide +kernel
theorem dX2_findDraws_28 : decode cX2_findDraws 28 = .ok (.putfield 163, 3) := by decide +kernel
theorem dX2_findDraws_31 : decode cX2_findDraws 31 = .ok (.aload_n 0, 1) := by decide +kernel
theorem dX2_findDraws_32 : decode cX2_findDraws 32 = .ok (.aload_n 0, 1) := by decide +kernel
theorem dX2_findDraws_33 : decode cX2_findDraws 33 = .ok (.getfield 23, 3) := by decide +kernel
theorem dX2_findDraws_36 : decode cX2_findDraws 36 = .ok (.getfield 82, 3) := by decide +kernel
theorem dX2_findDraws_39 : decode cX2_findDraws 39 = .ok (.aload_n 0, 1) := by decide +kernel
theorem dX2_findDraws_40 : decode cX2_findDraws 40 = .ok (.getfield 23, 3) := by decide +kernel
theorem dX2_findDraws_43 : decode cX2_findDraws 43 = .ok (.getfield 62, 3) := by decide +kernel
theorem dX2_findDraws_46 : decode cX2_findDraws 46 = .ok (.aload_n 0, 1) := by decide +kernel
theorem dX2_findDraws_47 : decode cX2_findDraws 47 = .ok (.getfield 23, 3) := by decide +kernel
theorem dX2_findDraws_50 : decode cX2_findDraws 50 = .ok (.getfield 68, 3) := by decide +kernel
theorem dX2_findDraws_53 : decode cX2_findDraws 53 = .ok (.aload_n 0, 1) := by decide +kernel
theorem dX2_findDraws_54 : decode cX2_findDraws 54 = .ok (.getfield 23, 3) := by decide +kernel
theorem dX2_findDraws_57 : decode cX2_findDraws 57 = .ok (.getfield 65, 3) := by decide +kernel
theorem dX2_findDraws_60 : decode cX2_findDraws 60 = .ok (.iconst 0, 1) := by decide +kernel
theorem dX2_findDraws_61 : decode cX2_findDraws 61 = .ok (.invokevirtual 166, 3) := by decide +kernel
theorem dX2_findDraws_64 : decode cX2_findDraws 64 = .ok (.return_, 1) := by decide +kernel
theorem dX2_seekDraws_0 : decode cX2_seekDraws 0 = .ok (.iload_n 1, 1) := by decide +kernel
theorem dX2_seekDraws_1 : decode cX2_seekDraws 1 = .ok (.aload_n 0, 1) := by decide +kernel
theorem dX2_seekDraws_2 : decode cX2_seekDraws 2 = .ok (.getfield 33, 3) := by decide +kernel
theorem dX2_seekDraws_5 : decode cX2_seekDraws 5 = .ok (.getfield 48, 3) := by decide +kernel
theorem dX2_seekDraws_8 : decode cX2_seekDraws 8 = .ok (.if_icmp .ge 11, 3) := by decide +kernel
theorem dX2_seekDraws_11 : decode cX2_seekDraws 11 = .ok (.aload_n 0, 1) := by decide +kernel
theorem dX2_seekDraws_12 : decode cX2_seekDraws 12 = .ok (.iload_n 2, 1) := by decide +kernel
theorem dX2_seekDraws_13 : decode cX2_seekDraws 13 = .ok (.invokevirtual 53, 3) := by decide +kernel
theorem dX2_seekDraws_16 : decode cX2_seekDraws 16 = .ok (.ifCond .ne 48, 3) := by decide +kernel
theorem dX2_seekDraws_19 : decode cX2_seekDraws 19 = .ok (.aload_n 0, 1) := by decide +kernel
theorem dX2_seekDraws_20 : decode cX2_seekDraws 20 = .ok (.dup, 1) := by decide +kernel
theorem dX2_seekDraws_21 : decode cX2_seekDraws 21 = .ok (.getfield 157, 3) := by decide +kernel
theorem dX2_seekDraws_24 : decode cX2_seekDraws 24 = .ok (.lconst 1, 1) := by decide +kernel
theorem dX2_seekDraws_25 : decode cX2_seekDraws 25 = .ok (.ladd, 1) := by decide +kernel
theorem dX2_seekDraws_26 : decode cX2_seekDraws 26 = .ok (.putfield 157, 3) := by decide +kernel
theorem dX2_seekDraws_29 : decode cX2_seekDraws 29 = .ok (.aload_n 0, 1) := by decide +kernel
theorem dX2_seekDraws_30 : decode cX2_seekDraws 30 = .ok (.dup, 1) := by decide +kernel
theorem dX2_seekDraws_31 : decode cX2_seekDraws 31 = .ok (.getfield 160, 3) := by decide +kernel
theorem dX2_seekDraws_34 : decode cX2_seekDraws 34 = .ok (.iload 5, 2) := by decide +kernel
theorem dX2_seekDraws_36 : decode cX2_seekDraws 36 = .ok (.aload_n 0, 1) := by decide +kernel
theorem dX2_seekDraws_37 : decode cX2_seekDraws 37 = .ok (.getfield 137, 3) := by decide +kernel
theorem dX2_seekDraws_40 : decode cX2_seekDraws 40 = .ok (.if_icmp .lt 7, 3) := by decide +kernel
theorem dX2_seekDraws_43 : decode cX2_seekDraws 43 = .ok (.lconst 1, 1) := by decide +kernel
theorem dX2_seekDraws_44 : decode cX2_seekDraws 44 = .ok (.goto 4, 3) := by decide +kernel
theorem dX2_seekDraws_47 : decode cX2_seekDraws 47 = .ok (.lconst 0, 1) := by decide +kernel
theorem dX2_seekDraws_48 : decode cX2_seekDraws 48 = .ok (.ladd, 1) := by decide +kernel
theorem dX2_seekDraws_49 : decode cX2_seekDraws 49 = .ok (.putfield 160, 3) := by decide +kernel
theorem dX2_seekDraws_52 : decode cX2_seekDraws 52 = .ok (.aload_n 0, 1) := by decide +kernel
theorem dX2_seekDraws_53 : decode cX2_seekDraws 53 = .ok (.dup, 1) := by decide +kernel
theorem dX2_seekDraws_54 : decode cX2_seekDraws 54 = .ok (.getfield 163, 3) := by decide +kernel
theorem dX2_seekDraws_57 : decode cX2_seekDraws 57 = .ok (.iload_n 3, 1) := by decide +kernel
theorem dX2_seekDraws_58 : decode cX2_seekDraws 58 = .ok (.i2l, 1) := by decide +kernel
theorem dX2_seekDraws_59 : decode cX2_seekDraws 59 = .ok (.ladd, 1) := by decide +kernel
theorem dX2_seekDraws_60 : decode cX2_seekDraws 60 = .ok (.putfield 163, 3) := by decide +kernel
theorem dX2_seekDraws_63 : decode cX2_seekDraws 63 = .ok (.return_, 1) := by decide +kernel
theorem dX2_seekDraws_64 : decode cX2_seekDraws 64 = .ok (.iconst 0, 1) := by decide +kernel
theorem dX2_seekDraws_65 : decode cX2_seekDraws 65 = .ok (.istore 6, 2) := by decide +kernel
theorem dX2_seekDraws_67 : decode cX2_seekDraws 67 = .ok (.iload 6, 2) := by decide +kernel
theorem dX2_seekDraws_69 : decode cX2_seekDraws 69 = .ok (.aload_n 0, 1) := by decide +kernel
theorem dX2_seekDraws_70 : decode cX2_seekDraws 70 = .ok (.getfield 33, 3) := by decide +kernel
theorem dX2_seekDraws_73 : decode cX2_seekDraws 73 = .ok (.getfield 109, 3) := by decide +kernel
theorem dX2_seekDraws_76 : decode cX2_seekDraws 76 = .ok (.if_icmp .ge 76, 3) := by decide +kernel
theorem dX2_seekDraws_79 : decode cX2_seekDraws 79 = .ok (.aload_n 0, 1) := by decide +kernel
theorem dX2_seekDraws_80 : decode cX2_seekDraws 80 = .ok (.iload 6, 2) := by decide +kernel
theorem dX2_seekDraws_82 : decode cX2_seekDraws 82 = .ok (.iload_n 2, 1) := by decide +kernel
theorem dX2_seekDraws_83 : decode cX2_seekDraws 83 = .ok (.invokevirtual 112, 3) := by decide +kernel
theorem dX2_seekDraws_86 : decode cX2_seekDraws 86 = .ok (.ifCond .eq 60, 3) := by decide +kernel
theorem dX2_seekDraws_89 : decode cX2_seekDraws 89 = .ok (.aload_n 0, 1) := by decide +kernel
theorem dX2_seekDraws_90 : decode cX2_seekDraws 90 = .ok (.getfield 33, 3) := by decide +kernel
theorem dX2_seekDraws_93 : decode cX2_seekDraws 93 = .ok (.iload 6, 2) := by decide +kernel
theorem dX2_seekDraws_95 : decode cX2_seekDraws 95 = .ok (.iload_n 1, 1) := by decide +kernel
theorem dX2_seekDraws_96 : decode cX2_seekDraws 96 = .ok (.iload_n 2, 1) := by decide +kernel
theorem dX2_seekDraws_97 : decode cX2_seekDraws 97 = .ok (.iload_n 3, 1) := by decide +kernel
theorem dX2_seekDraws_98 : decode cX2_seekDraws 98 = .ok (.invokevirtual 85, 3) := by decide +kernel
theorem dX2_seekDraws_101 : decode cX2_seekDraws 101 = .ok (.istore 7, 2) := by decide +kernel
theorem dX2_seekDraws_103 : decode cX2_seekDraws 103 = .ok (.aload_n 0, 1) := by decide +kernel
theorem dX2_seekDraws_104 : decode cX2_seekDraws 104 = .ok (.iload_n 1, 1) := by decide +kernel
theorem dX2_seekDraws_105 : decode cX2_seekDraws 105 = .ok (.iconst 1, 1) := by decide +kernel
theorem dX2_seekDraws_106 : decode cX2_seekDraws 106 = .ok (.iadd, 1) := by decide +kernel
theorem dX2_seekDraws_107 : decode cX2_seekDraws 107 = .ok (.iload_n 2, 1) := by decide +kernel
theorem dX2_seekDraws_108 : decode cX2_seekDraws 108 = .ok (.iconst 1, 1) := by decide +kernel
theorem dX2_seekDraws_109 : decode cX2_seekDraws 109 = .ok (.iload 6, 2) := by decide +kernel
theorem dX2_seekDraws_111 : decode cX2_seekDraws 111 = .ok (.ishl, 1) := by decide +kernel
theorem dX2_seekDraws_112 : decode cX2_seekDraws 112 = .ok (.ior, 1) := by decide +kernel
theorem dX2_seekDraws_113 : decode cX2_seekDraws 113 = .ok (.iload_n 3, 1) := by decide +kernel
theorem dX2_seekDraws_114 : decode cX2_seekDraws 114 = .ok (.iload 7, 2) := by decide +kernel
theorem dX2_seekDraws_116 : decode cX2_seekDraws 116 = .ok (.iload 4, 2) := by decide +kernel
theorem dX2_seekDraws_118 : decode cX2_seekDraws 118 = .ok (.invokestatic 89, 3) := by decide +kernel
theorem dX2_seekDraws_121 : decode cX2_seekDraws 121 = .ok (.iload 7, 2) := by decide +kernel
theorem dX2_seekDraws_123 : decode cX2_seekDraws 123 = .ok (.iload 4, 2) := by decide +kernel
theorem dX2_seekDraws_125 : decode cX2_seekDraws 125 = .ok (.invokestatic 93, 3) := by decide +kernel
theorem dX2_seekDraws_128 : decode cX2_seekDraws 128 = .ok (.iload 5, 2) := by decide +kernel
theorem dX2_seekDraws_130 : decode cX2_seekDraws 130 = .ok (.iload 7, 2) := by decide +kernel
theorem dX2_seekDraws_132 : decode cX2_seekDraws 132 = .ok (.iload 4, 2) := by decide +kernel
theorem dX2_seekDraws_134 : decode cX2_seekDraws 134 = .ok (.if_icmp .gt 7, 3) := by decide +kernel
theorem dX2_seekDraws_137 : decode cX2_seekDraws 137 = .ok (.iconst 1, 1) := by decide +kernel
theorem dX2_seekDraws_138 : decode cX2_seekDraws 138 = .ok (.goto 4, 3) := by decide +kernel
theorem dX2_seekDraws_141 : decode cX2_seekDraws 141 = .ok (.iconst 0, 1) := by decide +kernel
theorem dX2_seekDraws_142 : decode cX2_seekDraws 142 = .ok (.iadd, 1) := by decide +kernel
theorem dX2_seekDraws_143 : decode cX2_seekDraws 143 = .ok (.invokevirtual 166, 3) := by decide +kernel
theorem dX2_seekDraws_146 : decode cX2_seekDraws 146 = .ok (.iinc 6 1, 3) := by decide +kernel
theorem dX2_seekDraws_149 : decode cX2_seekDraws 149 = .ok (.goto (-82), 3) := by decide +kernel
theorem dX2_seekDraws_152 : decode cX2_seekDraws 152 = .ok (.return_, 1) := by decide +kernel
theorem dX3_init_0 : decode cX3_init 0 = .ok (.aload_n 0, 1) := by decide +kernel
theorem dX3_init_1 : decode cX3_init 1 = .ok (.invokespecial 1, 3) := by decide +kernel
theorem dX3_init_4 : decode cX3_init 4 = .ok (.aload_n 0, 1) := by decide +kernel
theorem dX3_init_5 : decode cX3_init 5 = .ok (.iload_n 1, 1) := by decide +kernel
theorem dX3_init_6 : decode cX3_init 6 = .ok (.iload_n 2, 1) := by decide +kernel
theorem dX3_init_7 : decode cX3_init 7 = .ok (.multianewarray 7 2, 4) := by decide +kernel
theorem dX3_init_11 : decode cX3_init 11 = .ok (.putfield 9, 3) := by decide +kernel
theorem dX3_init_14 : decode cX3_init 14 = .ok (.aload_n 0, 1) := by decide +kernel
theorem dX3_init_15 : decode cX3_init 15 = .ok (.iload_n 1, 1) := by decide +kernel
theorem dX3_init_16 : decode cX3_init 16 = .ok (.newarray .int, 2) := by decide +kernel
theorem dX3_init_18 : decode cX3_init 18 = .ok (.putfield 14, 3) := by decide +kernel
theorem dX3_init_21 : decode cX3_init 21 = .ok (.aload_n 0, 1) := by decide +kernel
theorem dX3_init_22 : decode cX3_init 22 = .ok (.getfield 14, 3) := by decide +kernel
theorem dX3_init_25 : decode cX3_init 25 = .ok (.iconst (-1), 1) := by decide +kernel
theorem dX3_init_26 : decode cX3_init 26 = .ok (.invokestatic 18, 3) := by decide +kernel
theorem dX3_init_29 : decode cX3_init 29 = .ok (.return_, 1) := by decide +kernel
theorem dX3_isPlace_0 : decode cX3_isPlace 0 = .ok (.iload_n 1, 1) := by decide +kernel
theorem dX3_isPlace_1 : decode cX3_isPlace 1 = .ok (.ifCond .lt 16, 3) := by decide +kernel
theorem dX3_isPlace_4 : decode cX3_isPlace 4 = .ok (.iload_n 1, 1) := by decide +kernel
theorem dX3_isPlace_5 : decode cX3_isPlace 5 = .ok (.aload_n 0, 1) := by decide +kernel
theorem dX3_isPlace_6 : decode cX3_isPlace 6 = .ok (.getfield 14, 3) := by decide +kernel
theorem dX3_isPlace_9 : decode cX3_isPlace 9 = .ok (.arraylength, 1) := by decide +kernel
theorem dX3_isPlace_10 : decode cX3_isPlace 10 = .ok (.if_icmp .ge 7, 3) := by decide +kernel
theorem dX3_isPlace_13 : decode cX3_isPlace 13 = .ok (.iconst 1, 1) := by decide +kernel
theorem dX3_isPlace_14 : decode cX3_isPlace 14 = .ok (.goto 4, 3) := by decide +kernel
theorem dX3_isPlace_17 : decode cX3_isPlace 17 = .ok (.iconst 0, 1) := by decide +kernel
theorem dX3_isPlace_18 : decode cX3_isPlace 18 = .ok (.ireturn, 1) := by decide +kernel
theorem dX3_has_0 : decode cX3_has 0 = .ok (.aload_n 0, 1) := by decide +kernel
theorem dX3_has_1 : decode cX3_has 1 = .ok (.iload_n 1, 1) := by decide +kernel
theorem dX3_has_2 : decode cX3_has 2 = .ok (.invokevirtual 24, 3) := by decide +kernel
theorem dX3_has_5 : decode cX3_has 5 = .ok (.iconst (-1), 1) := by decide +kernel
theorem dX3_has_6 : decode cX3_has 6 = .ok (.if_icmp .eq 7, 3) := by decide +kernel
theorem dX3_has_9 : decode cX3_has 9 = .ok (.iconst 1, 1) := by decide +kernel
theorem dX3_has_10 : decode cX3_has 10 = .ok (.goto 4, 3) := by decide +kernel
theorem dX3_has_13 : decode cX3_has 13 = .ok (.iconst 0, 1) := by decide +kernel
theorem dX3_has_14 : decode cX3_has 14 = .ok (.ireturn, 1) := by decide +kernel
theorem dX3_size_0 : decode cX3_size 0 = .ok (.aload_n 0, 1) := by decide +kernel
theorem dX3_size_1 : decode cX3_size 1 = .ok (.iload_n 1, 1) := by decide +kernel
theorem dX3_size_2 : decode cX3_size 2 = .ok (.invokevirtual 28, 3) := by decide +kernel
theorem dX3_size_5 : decode cX3_size 5 = .ok (.ifCond .eq 12, 3) := by decide +kernel
theorem dX3_size_8 : decode cX3_size 8 = .ok (.aload_n 0, 1) := by decide +kernel
theorem dX3_size_9 : decode cX3_size 9 = .ok (.getfield 14, 3) := by decide +kernel
theorem dX3_size_12 : decode cX3_size 12 = .ok (.iload_n 1, 1) := by decide +kernel
theorem dX3_size_13 : decode cX3_size 13 = .ok (.iaload, 1) := by decide +kernel
theorem dX3_size_14 : decode cX3_size 14 = .ok (.goto 4, 3) := by decide +kernel
theorem dX3_size_17 : decode cX3_size 17 = .ok (.iconst (-1), 1) := by decide +kernel
theorem dX3_size_18 : decode cX3_size 18 = .ok (.ireturn, 1) := by decide +kernel
theorem dX3_holds_0 : decode cX3_holds 0 = .ok (.aload_n 0, 1) := by decide +kernel
theorem dX3_holds_1 : decode cX3_holds 1 = .ok (.iload_n 1, 1) := by decide +kernel
theorem dX3_holds_2 : decode cX3_holds 2 = .ok (.invokevirtual 28, 3) := by decide +kernel
theorem dX3_holds_5 : decode cX3_holds 5 = .ok (.ifCond .eq 21, 3) := by decide +kernel
theorem dX3_holds_8 : decode cX3_holds 8 = .ok (.iload_n 2, 1) := by decide +kernel
theorem dX3_holds_9 : decode cX3_holds 9 = .ok (.ifCond .lt 17, 3) := by decide +kernel
theorem dX3_holds_12 : decode cX3_holds 12 = .ok (.iload_n 2, 1) := by decide +kernel
theorem dX3_holds_13 : decode cX3_holds 13 = .ok (.aload_n 0, 1) := by decide +kernel
theorem dX3_holds_14 : decode cX3_holds 14 = .ok (.getfield 14, 3) := by decide +kernel
theorem dX3_holds_17 : decode cX3_holds 17 = .ok (.iload_n 1, 1) := by decide +kernel
theorem dX3_holds_18 : decode cX3_holds 18 = .ok (.iaload, 1) := by decide +kernel
theorem dX3_holds_19 : decode cX3_holds 19 = .ok (.if_icmp .ge 7, 3) := by decide +kernel
theorem dX3_holds_22 : decode cX3_holds 22 = .ok (.iconst 1, 1) := by decide +kernel
theorem dX3_holds_23 : decode cX3_holds 23 = .ok (.goto 4, 3) := by decide +kernel
theorem dX3_holds_26 : decode cX3_holds 26 = .ok (.iconst 0, 1) := by decide +kernel
theorem dX3_holds_27 : decode cX3_holds 27 = .ok (.ireturn, 1) := by decide +kernel
theorem dX3_holdsPart_0 : decode cX3_holdsPart 0 = .ok (.iload_n 2, 1) := by decide +kernel
theorem dX3_holdsPart_1 : decode cX3_holdsPart 1 = .ok (.ifCond .lt 22, 3) := by decide +kernel
theorem dX3_holdsPart_4 : decode cX3_holdsPart 4 = .ok (.iload_n 3, 1) := by decide +kernel
theorem dX3_holdsPart_5 : decode cX3_holdsPart 5 = .ok (.ifCond .lt 18, 3) := by decide +kernel
theorem dX3_holdsPart_8 : decode cX3_holdsPart 8 = .ok (.iload_n 2, 1) := by decide +kernel
theorem dX3_holdsPart_9 : decode cX3_holdsPart 9 = .ok (.aload_n 0, 1) := by decide +kernel
theorem dX3_holdsPart_10 : decode cX3_holdsPart 10 = .ok (.iload_n 1, 1) := by decide +kernel
theorem dX3_holdsPart_11 : decode cX3_holdsPart 11 = .ok (.invokevirtual 24, 3) := by decide +kernel
theorem dX3_holdsPart_14 : decode cX3_holdsPart 14 = .ok (.iload_n 3, 1) := by decide +kernel
theorem dX3_holdsPart_15 : decode cX3_holdsPart 15 = .ok (.isub, 1) := by decide +kernel
theorem dX3_holdsPart_16 : decode cX3_holdsPart 16 = .ok (.if_icmp .gt 7, 3) := by decide +kernel
theorem dX3_holdsPart_19 : decode cX3_holdsPart 19 = .ok (.iconst 1, 1) := by decide +kernel
theorem dX3_holdsPart_20 : decode cX3_holdsPart 20 = .ok (.goto 4, 3) := by decide +kernel
theorem dX3_holdsPart_23 : decode cX3_holdsPart 23 = .ok (.iconst 0, 1) := by decide +kernel
theorem dX3_holdsPart_24 : decode cX3_holdsPart 24 = .ok (.ireturn, 1) := by decide +kernel
theorem dX3_get_0 : decode cX3_get 0 = .ok (.aload_n 0, 1) := by decide +kernel
theorem dX3_get_1 : decode cX3_get 1 = .ok (.iload_n 1, 1) := by decide +kernel
theorem dX3_get_2 : decode cX3_get 2 = .ok (.iload_n 2, 1) := by decide +kernel
theorem dX3_get_3 : decode cX3_get 3 = .ok (.invokevirtual 32, 3) := by decide +kernel
theorem dX3_get_6 : decode cX3_get 6 = .ok (.ifCond .eq 14, 3) := by decide +kernel
theorem dX3_get_9 : decode cX3_get 9 = .ok (.aload_n 0, 1) := by decide +kernel
theorem dX3_get_10 : decode cX3_get 10 = .ok (.getfield 9, 3) := by decide +kernel
theorem dX3_get_13 : decode cX3_get 13 = .ok (.iload_n 1, 1) := by decide +kernel
theorem dX3_get_14 : decode cX3_get 14 = .ok (.aaload, 1) := by decide +kernel
theorem dX3_get_15 : decode cX3_get 15 = .ok (.iload_n 2, 1) := by decide +kernel
theorem dX3_get_16 : decode cX3_get 16 = .ok (.iaload, 1) := by decide +kernel
theorem dX3_get_17 : decode cX3_get 17 = .ok (.goto 4, 3) := by decide +kernel
theorem dX3_get_20 : decode cX3_get 20 = .ok (.iconst 0, 1) := by decide +kernel
theorem dX3_get_21 : decode cX3_get 21 = .ok (.ireturn, 1) := by decide +kernel
theorem dX3_set_0 : decode cX3_set 0 = .ok (.aload_n 0, 1) := by decide +kernel
theorem dX3_set_1 : decode cX3_set 1 = .ok (.iload_n 1, 1) := by decide +kernel
theorem dX3_set_2 : decode cX3_set 2 = .ok (.iload_n 2, 1) := by decide +kernel
theorem dX3_set_3 : decode cX3_set 3 = .ok (.invokevirtual 32, 3) := by decide +kernel
theorem dX3_set_6 : decode cX3_set 6 = .ok (.ifCond .eq 12, 3) := by decide +kernel
theorem dX3_set_9 : decode cX3_set 9 = .ok (.aload_n 0, 1) := by decide +kernel
theorem dX3_set_10 : decode cX3_set 10 = .ok (.getfield 9, 3) := by decide +kernel
theorem dX3_set_13 : decode cX3_set 13 = .ok (.iload_n 1, 1) := by decide +kernel
theorem dX3_set_14 : decode cX3_set 14 = .ok (.aaload, 1) := by decide +kernel
theorem dX3_set_15 : decode cX3_set 15 = .ok (.iload_n 2, 1) := by decide +kernel
theorem dX3_set_16 : decode cX3_set 16 = .ok (.iload_n 3, 1) := by decide +kernel
theorem dX3_set_17 : decode cX3_set 17 = .ok (.iastore, 1) := by decide +kernel
theorem dX3_set_18 : decode cX3_set 18 = .ok (.return_, 1) := by decide +kernel
theorem dX3_make_0 : decode cX3_make 0 = .ok (.aload_n 0, 1) := by decide +kernel
theorem dX3_make_1 : decode cX3_make 1 = .ok (.iload_n 1, 1) := by decide +kernel
theorem dX3_make_2 : decode cX3_make 2 = .ok (.invokevirtual 28, 3) := by decide +kernel
theorem dX3_make_5 : decode cX3_make 5 = .ok (.ifCond .eq 35, 3) := by decide +kernel
theorem dX3_make_8 : decode cX3_make 8 = .ok (.iload_n 2, 1) := by decide +kernel
theorem dX3_make_9 : decode cX3_make 9 = .ok (.ifCond .lt 31, 3) := by decide +kernel
theorem dX3_make_12 : decode cX3_make 12 = .ok (.iload_n 2, 1) := by decide +kernel
theorem dX3_make_13 : decode cX3_make 13 = .ok (.aload_n 0, 1) := by decide +kernel
theorem dX3_make_14 : decode cX3_make 14 = .ok (.getfield 9, 3) := by decide +kernel
theorem dX3_make_17 : decode cX3_make 17 = .ok (.iload_n 1, 1) := by decide +kernel
theorem dX3_make_18 : decode cX3_make 18 = .ok (.aaload, 1) := by decide +kernel
theorem dX3_make_19 : decode cX3_make 19 = .ok (.arraylength, 1) := by decide +kernel
theorem dX3_make_20 : decode cX3_make 20 = .ok (.if_icmp .gt 20, 3) := by decide +kernel
theorem dX3_make_23 : decode cX3_make 23 = .ok (.aload_n 0, 1) := by decide +kernel
theorem dX3_make_24 : decode cX3_make 24 = .ok (.getfield 14, 3) := by decide +kernel
theorem dX3_make_27 : decode cX3_make 27 = .ok (.iload_n 1, 1) := by decide +kernel
theorem dX3_make_28 : decode cX3_make 28 = .ok (.iload_n 2, 1) := by decide +kernel
theorem dX3_make_29 : decode cX3_make 29 = .ok (.iastore, 1) := by decide +kernel
theorem dX3_make_30 : decode cX3_make 30 = .ok (.aload_n 0, 1) := by decide +kernel
theorem dX3_make_31 : decode cX3_make 31 = .ok (.getfield 9, 3) := by decide +kernel
theorem dX3_make_34 : decode cX3_make 34 = .ok (.iload_n 1, 1) := by decide +kernel
theorem dX3_make_35 : decode cX3_make 35 = .ok (.aaload, 1) := by decide +kernel
theorem dX3_make_36 : decode cX3_make 36 = .ok (.iload_n 3, 1) := by decide +kernel
theorem dX3_make_37 : decode cX3_make 37 = .ok (.invokestatic 18, 3) := by decide +kernel
theorem dX3_make_40 : decode cX3_make 40 = .ok (.return_, 1) := by decide +kernel
theorem dX3_drop_0 : decode cX3_drop 0 = .ok (.aload_n 0, 1) := by decide +kernel
theorem dX3_drop_1 : decode cX3_drop 1 = .ok (.iload_n 1, 1) := by decide +kernel
theorem dX3_drop_2 : decode cX3_drop 2 = .ok (.invokevirtual 28, 3) := by decide +kernel
theorem dX3_drop_5 : decode cX3_drop 5 = .ok (.ifCond .eq 10, 3) := by decide +kernel
theorem dX3_drop_8 : decode cX3_drop 8 = .ok (.aload_n 0, 1) := by decide +kernel
theorem dX3_drop_9 : decode cX3_drop 9 = .ok (.getfield 14, 3) := by decide +kernel
theorem dX3_drop_12 : decode cX3_drop 12 = .ok (.iload_n 1, 1) := by decide +kernel
theorem dX3_drop_13 : decode cX3_drop 13 = .ok (.iconst (-1), 1) := by decide +kernel
theorem dX3_drop_14 : decode cX3_drop 14 = .ok (.iastore, 1) := by decide +kernel
theorem dX3_drop_15 : decode cX3_drop 15 = .ok (.return_, 1) := by decide +kernel
theorem dX3_copyPart_0 : decode cX3_copyPart 0 = .ok (.aload_n 0, 1) := by decide +kernel
theorem dX3_copyPart_1 : decode cX3_copyPart 1 = .ok (.iload_n 1, 1) := by decide +kernel
theorem dX3_copyPart_2 : decode cX3_copyPart 2 = .ok (.iload_n 2, 1) := by decide +kernel
theorem dX3_copyPart_3 : decode cX3_copyPart 3 = .ok (.iload 5, 2) := by decide +kernel
theorem dX3_copyPart_5 : decode cX3_copyPart 5 = .ok (.invokevirtual 36, 3) := by decide +kernel
theorem dX3_copyPart_8 : decode cX3_copyPart 8 = .ok (.ifCond .eq 35, 3) := by decide +kernel
theorem dX3_copyPart_11 : decode cX3_copyPart 11 = .ok (.aload_n 0, 1) := by decide +kernel
theorem dX3_copyPart_12 : decode cX3_copyPart 12 = .ok (.iload_n 3, 1) := by decide +kernel
theorem dX3_copyPart_13 : decode cX3_copyPart 13 = .ok (.iload 4, 2) := by decide +kernel
theorem dX3_copyPart_15 : decode cX3_copyPart 15 = .ok (.iload 5, 2) := by decide +kernel
theorem dX3_copyPart_17 : decode cX3_copyPart 17 = .ok (.invokevirtual 36, 3) := by decide +kernel
theorem dX3_copyPart_20 : decode cX3_copyPart 20 = .ok (.ifCond .eq 23, 3) := by decide +kernel
theorem dX3_copyPart_23 : decode cX3_copyPart 23 = .ok (.aload_n 0, 1) := by decide +kernel
theorem dX3_copyPart_24 : decode cX3_copyPart 24 = .ok (.getfield 9, 3) := by decide +kernel
theorem dX3_copyPart_27 : decode cX3_copyPart 27 = .ok (.iload_n 1, 1) := by decide +kernel
theorem dX3_copyPart_28 : decode cX3_copyPart 28 = .ok (.aaload, 1) := by decide +kernel
theorem dX3_copyPart_29 : decode cX3_copyPart 29 = .ok (.iload_n 2, 1) := by decide +kernel
theorem dX3_copyPart_30 : decode cX3_copyPart 30 = .ok (.aload_n 0, 1) := by decide +kernel
theorem dX3_copyPart_31 : decode cX3_copyPart 31 = .ok (.getfield 9, 3) := by decide +kernel
theorem dX3_copyPart_34 : decode cX3_copyPart 34 = .ok (.iload_n 3, 1) := by decide +kernel
theorem dX3_copyPart_35 : decode cX3_copyPart 35 = .ok (.aaload, 1) := by decide +kernel
theorem dX3_copyPart_36 : decode cX3_copyPart 36 = .ok (.iload 4, 2) := by decide +kernel
theorem dX3_copyPart_38 : decode cX3_copyPart 38 = .ok (.iload 5, 2) := by decide +kernel
theorem dX3_copyPart_40 : decode cX3_copyPart 40 = .ok (.invokestatic 40, 3) := by decide +kernel
theorem dX3_copyPart_43 : decode cX3_copyPart 43 = .ok (.return_, 1) := by decide +kernel
theorem dX3_thereCount_0 : decode cX3_thereCount 0 = .ok (.iconst 0, 1) := by decide +kernel
theorem dX3_thereCount_1 : decode cX3_thereCount 1 = .ok (.istore_n 1, 1) := by decide +kernel
theorem dX3_thereCount_2 : decode cX3_thereCount 2 = .ok (.iconst 0, 1) := by decide +kernel
theorem dX3_thereCount_3 : decode cX3_thereCount 3 = .ok (.istore_n 2, 1) := by decide +kernel
theorem dX3_thereCount_4 : decode cX3_thereCount 4 = .ok (.iload_n 2, 1) := by decide +kernel
theorem dX3_thereCount_5 : decode cX3_thereCount 5 = .ok (.aload_n 0, 1) := by decide +kernel
theorem dX3_thereCount_6 : decode cX3_thereCount 6 = .ok (.getfield 14, 3) := by decide +kernel
theorem dX3_thereCount_9 : decode cX3_thereCount 9 = .ok (.arraylength, 1) := by decide +kernel
theorem dX3_thereCount_10 : decode cX3_thereCount 10 = .ok (.if_icmp .ge 25, 3) := by decide +kernel
theorem dX3_thereCount_13 : decode cX3_thereCount 13 = .ok (.iload_n 1, 1) := by decide +kernel
theorem dX3_thereCount_14 : decode cX3_thereCount 14 = .ok (.aload_n 0, 1) := by decide +kernel
theorem dX3_thereCount_15 : decode cX3_thereCount 15 = .ok (.iload_n 2, 1) := by decide +kernel
theorem dX3_thereCount_16 : decode cX3_thereCount 16 = .ok (.invokevirtual 46, 3) := by decide +kernel
theorem dX3_thereCount_19 : decode cX3_thereCount 19 = .ok (.ifCond .eq 7, 3) := by decide +kernel
theorem dX3_thereCount_22 : decode cX3_thereCount 22 = .ok (.iconst 1, 1) := by decide +kernel
theorem dX3_thereCount_23 : decode cX3_thereCount 23 = .ok (.goto 4, 3) := by decide +kernel
theorem dX3_thereCount_26 : decode cX3_thereCount 26 = .ok (.iconst 0, 1) := by decide +kernel
theorem dX3_thereCount_27 : decode cX3_thereCount 27 = .ok (.iadd, 1) := by decide +kernel
theorem dX3_thereCount_28 : decode cX3_thereCount 28 = .ok (.istore_n 1, 1) := by decide +kernel
theorem dX3_thereCount_29 : decode cX3_thereCount 29 = .ok (.iinc 2 1, 3) := by decide +kernel
theorem dX3_thereCount_32 : decode cX3_thereCount 32 = .ok (.goto (-28), 3) := by decide +kernel
theorem dX3_thereCount_35 : decode cX3_thereCount 35 = .ok (.iload_n 1, 1) := by decide +kernel
theorem dX3_thereCount_36 : decode cX3_thereCount 36 = .ok (.ireturn, 1) := by decide +kernel
theorem dX3_digestFrom_0 : decode cX3_digestFrom 0 = .ok (.lload_n 1, 1) := by decide +kernel
theorem dX3_digestFrom_1 : decode cX3_digestFrom 1 = .ok (.lstore_n 3, 1) := by decide +kernel
theorem dX3_digestFrom_2 : decode cX3_digestFrom 2 = .ok (.iconst 0, 1) := by decide +kernel
theorem dX3_digestFrom_3 : decode cX3_digestFrom 3 = .ok (.istore 5, 2) := by decide +kernel
theorem dX3_digestFrom_5 : decode cX3_digestFrom 5 = .ok (.iload 5, 2) := by decide +kernel
theorem dX3_digestFrom_7 : decode cX3_digestFrom 7 = .ok (.aload_n 0, 1) := by decide +kernel
theorem dX3_digestFrom_8 : decode cX3_digestFrom 8 = .ok (.getfield 14, 3) := by decide +kernel
theorem dX3_digestFrom_11 : decode cX3_digestFrom 11 = .ok (.arraylength, 1) := by decide +kernel
theorem dX3_digestFrom_12 : decode cX3_digestFrom 12 = .ok (.if_icmp .ge 63, 3) := by decide +kernel
theorem dX3_digestFrom_15 : decode cX3_digestFrom 15 = .ok (.ldc2_w 49, 3) := by decide +kernel
theorem dX3_digestFrom_18 : decode cX3_digestFrom 18 = .ok (.lload_n 3, 1) := by decide +kernel
theorem dX3_digestFrom_19 : decode cX3_digestFrom 19 = .ok (.lmul, 1) := by decide +kernel
theorem dX3_digestFrom_20 : decode cX3_digestFrom 20 = .ok (.aload_n 0, 1) := by decide +kernel
theorem dX3_digestFrom_21 : decode cX3_digestFrom 21 = .ok (.getfield 14, 3) := by decide +kernel
theorem dX3_digestFrom_24 : decode cX3_digestFrom 24 = .ok (.iload 5, 2) := by decide +kernel
theorem dX3_digestFrom_26 : decode cX3_digestFrom 26 = .ok (.iaload, 1) := by decide +kernel
theorem dX3_digestFrom_27 : decode cX3_digestFrom 27 = .ok (.i2l, 1) := by decide +kernel
theorem dX3_digestFrom_28 : decode cX3_digestFrom 28 = .ok (.ladd, 1) := by decide +kernel
theorem dX3_digestFrom_29 : decode cX3_digestFrom 29 = .ok (.lstore_n 3, 1) := by decide +kernel
theorem dX3_digestFrom_30 : decode cX3_digestFrom 30 = .ok (.iconst 0, 1) := by decide +kernel
theorem dX3_digestFrom_31 : decode cX3_digestFrom 31 = .ok (.istore 6, 2) := by decide +kernel
theorem dX3_digestFrom_33 : decode cX3_digestFrom 33 = .ok (.iload 6, 2) := by decide +kernel
theorem dX3_digestFrom_35 : decode cX3_digestFrom 35 = .ok (.aload_n 0, 1) := by decide +kernel
theorem dX3_digestFrom_36 : decode cX3_digestFrom 36 = .ok (.getfield 14, 3) := by decide +kernel
theorem dX3_digestFrom_39 : decode cX3_digestFrom 39 = .ok (.iload 5, 2) := by decide +kernel
theorem dX3_digestFrom_41 : decode cX3_digestFrom 41 = .ok (.iaload, 1) := by decide +kernel
theorem dX3_digestFrom_42 : decode cX3_digestFrom 42 = .ok (.if_icmp .ge 27, 3) := by decide +kernel
theorem dX3_digestFrom_45 : decode cX3_digestFrom 45 = .ok (.ldc2_w 49, 3) := by decide +kernel
theorem dX3_digestFrom_48 : decode cX3_digestFrom 48 = .ok (.lload_n 3, 1) := by decide +kernel
theorem dX3_digestFrom_49 : decode cX3_digestFrom 49 = .ok (.lmul, 1) := by decide +kernel
theorem dX3_digestFrom_50 : decode cX3_digestFrom 50 = .ok (.aload_n 0, 1) := by decide +kernel
theorem dX3_digestFrom_51 : decode cX3_digestFrom 51 = .ok (.getfield 9, 3) := by decide +kernel
theorem dX3_digestFrom_54 : decode cX3_digestFrom 54 = .ok (.iload 5, 2) := by decide +kernel
theorem dX3_digestFrom_56 : decode cX3_digestFrom 56 = .ok (.aaload, 1) := by decide +kernel
theorem dX3_digestFrom_57 : decode cX3_digestFrom 57 = .ok (.iload 6, 2) := by decide +kernel
theorem dX3_digestFrom_59 : decode cX3_digestFrom 59 = .ok (.iaload, 1) := by decide +kernel
theorem dX3_digestFrom_60 : decode cX3_digestFrom 60 = .ok (.i2l, 1) := by decide +kernel
theorem dX3_digestFrom_61 : decode cX3_digestFrom 61 = .ok (.ladd, 1) := by decide +kernel
theorem dX3_digestFrom_62 : decode cX3_digestFrom 62 = .ok (.lstore_n 3, 1) := by decide +kernel
theorem dX3_digestFrom_63 : decode cX3_digestFrom 63 = .ok (.iinc 6 1, 3) := by decide +kernel
theorem dX3_digestFrom_66 : decode cX3_digestFrom 66 = .ok (.goto (-33), 3) := by decide +kernel
theorem dX3_digestFrom_69 : decode cX3_digestFrom 69 = .ok (.iinc 5 1, 3) := by decide +kernel
theorem dX3_digestFrom_72 : decode cX3_digestFrom 72 = .ok (.goto (-67), 3) := by decide +kernel
theorem dX3_digestFrom_75 : decode cX3_digestFrom 75 = .ok (.lload_n 3, 1) := by decide +kernel
theorem dX3_digestFrom_76 : decode cX3_digestFrom 76 = .ok (.lreturn, 1) := by decide +kernel
theorem dX4_init_0 : decode cX4_init 0 = .ok (.aload_n 0, 1) := by decide +kernel
theorem dX4_init_1 : decode cX4_init 1 = .ok (.invokespecial 1, 3) := by decide +kernel
theorem dX4_init_4 : decode cX4_init 4 = .ok (.aload_n 0, 1) := by decide +kernel
theorem dX4_init_5 : decode cX4_init 5 = .ok (.new 7, 3) := by decide +kernel
theorem dX4_init_8 : decode cX4_init 8 = .ok (.dup, 1) := by decide +kernel
theorem dX4_init_9 : decode cX4_init 9 = .ok (.bipush 6, 2) := by decide +kernel
theorem dX4_init_11 : decode cX4_init 11 = .ok (.bipush 40, 2) := by decide +kernel
theorem dX4_init_13 : decode cX4_init 13 = .ok (.invokespecial 11, 3) := by decide +kernel
theorem dX4_init_16 : decode cX4_init 16 = .ok (.putfield 14, 3) := by decide +kernel
theorem dX4_init_19 : decode cX4_init 19 = .ok (.aload_n 0, 1) := by decide +kernel
theorem dX4_init_20 : decode cX4_init 20 = .ok (.new 7, 3) := by decide +kernel
theorem dX4_init_23 : decode cX4_init 23 = .ok (.dup, 1) := by decide +kernel
theorem dX4_init_24 : decode cX4_init 24 = .ok (.iconst 4, 1) := by decide +kernel
theorem dX4_init_25 : decode cX4_init 25 = .ok (.bipush 60, 2) := by decide +kernel
theorem dX4_init_27 : decode cX4_init 27 = .ok (.invokespecial 11, 3) := by decide +kernel
theorem dX4_init_30 : decode cX4_init 30 = .ok (.putfield 18, 3) := by decide +kernel
theorem dX4_init_33 : decode cX4_init 33 = .ok (.aload_n 0, 1) := by decide +kernel
theorem dX4_init_34 : decode cX4_init 34 = .ok (.new 7, 3) := by decide +kernel
theorem dX4_init_37 : decode cX4_init 37 = .ok (.dup, 1) := by decide +kernel
theorem dX4_init_38 : decode cX4_init 38 = .ok (.iconst 3, 1) := by decide +kernel
theorem dX4_init_39 : decode cX4_init 39 = .ok (.bipush 40, 2) := by decide +kernel
theorem dX4_init_41 : decode cX4_init 41 = .ok (.invokespecial 11, 3) := by decide +kernel
theorem dX4_init_44 : decode cX4_init 44 = .ok (.putfield 21, 3) := by decide +kernel
theorem dX4_init_47 : decode cX4_init 47 = .ok (.aload_n 0, 1) := by decide +kernel
theorem dX4_init_48 : decode cX4_init 48 = .ok (.new 24, 3) := by decide +kernel
theorem dX4_init_51 : decode cX4_init 51 = .ok (.dup, 1) := by decide +kernel
theorem dX4_init_52 : decode cX4_init 52 = .ok (.invokespecial 26, 3) := by decide +kernel
theorem dX4_init_55 : decode cX4_init 55 = .ok (.putfield 27, 3) := by decide +kernel
theorem dX4_init_58 : decode cX4_init 58 = .ok (.aload_n 0, 1) := by decide +kernel
theorem dX4_init_59 : decode cX4_init 59 = .ok (.new 24, 3) := by decide +kernel
theorem dX4_init_62 : decode cX4_init 62 = .ok (.dup, 1) := by decide +kernel
theorem dX4_init_63 : decode cX4_init 63 = .ok (.invokespecial 26, 3) := by decide +kernel
theorem dX4_init_66 : decode cX4_init 66 = .ok (.putfield 31, 3) := by decide +kernel
theorem dX4_init_69 : decode cX4_init 69 = .ok (.aload_n 0, 1) := by decide +kernel
theorem dX4_init_70 : decode cX4_init 70 = .ok (.new 34, 3) := by decide +kernel
theorem dX4_init_73 : decode cX4_init 73 = .ok (.dup, 1) := by decide +kernel
theorem dX4_init_74 : decode cX4_init 74 = .ok (.aload_n 0, 1) := by decide +kernel
theorem dX4_init_75 : decode cX4_init 75 = .ok (.getfield 31, 3) := by decide +kernel
theorem dX4_init_78 : decode cX4_init 78 = .ok (.invokespecial 36, 3) := by decide +kernel
theorem dX4_init_81 : decode cX4_init 81 = .ok (.putfield 39, 3) := by decide +kernel
theorem dX4_init_84 : decode cX4_init 84 = .ok (.aload_n 0, 1) := by decide +kernel
theorem dX4_init_85 : decode cX4_init 85 = .ok (.new 43, 3) := by decide +kernel
theorem dX4_init_88 : decode cX4_init 88 = .ok (.dup, 1) := by decide +kernel
theorem dX4_init_89 : decode cX4_init 89 = .ok (.aload_n 0, 1) := by decide +kernel
theorem dX4_init_90 : decode cX4_init 90 = .ok (.getfield 39, 3) := by decide +kernel
theorem dX4_init_93 : decode cX4_init 93 = .ok (.invokespecial 45, 3) := by decide +kernel
theorem dX4_init_96 : decode cX4_init 96 = .ok (.putfield 48, 3) := by decide +kernel
theorem dX4_init_99 : decode cX4_init 99 = .ok (.aload_n 0, 1) := by decide +kernel
theorem dX4_init_100 : decode cX4_init 100 = .ok (.bipush 6, 2) := by decide +kernel
theorem dX4_init_102 : decode cX4_init 102 = .ok (.newarray .int, 2) := by decide +kernel
theorem dX4_init_104 : decode cX4_init 104 = .ok (.putfield 52, 3) := by decide +kernel
theorem dX4_init_107 : decode cX4_init 107 = .ok (.aload_n 0, 1) := by decide +kernel
theorem dX4_init_108 : decode cX4_init 108 = .ok (.lconst 1, 1) := by decide +kernel
theorem dX4_init_109 : decode cX4_init 109 = .ok (.putfield 56, 3) := by decide +kernel
theorem dX4_init_112 : decode cX4_init 112 = .ok (.return_, 1) := by decide +kernel
theorem dX4_row_0 : decode cX4_row 0 = .ok (.aload_n 0, 1) := by decide +kernel
theorem dX4_row_1 : decode cX4_row 1 = .ok (.getfield 14, 3) := by decide +kernel
theorem dX4_row_4 : decode cX4_row 4 = .ok (.iload_n 1, 1) := by decide +kernel
theorem dX4_row_5 : decode cX4_row 5 = .ok (.invokevirtual 60, 3) := by decide +kernel
theorem dX4_row_8 : decode cX4_row 8 = .ok (.ifCond .eq 9, 3) := by decide +kernel
theorem dX4_row_11 : decode cX4_row 11 = .ok (.iload_n 2, 1) := by decide +kernel
theorem dX4_row_12 : decode cX4_row 12 = .ok (.bipush 40, 2) := by decide +kernel
theorem dX4_row_14 : decode cX4_row 14 = .ok (.if_icmp .le 5, 3) := by decide +kernel
theorem dX4_row_17 : decode cX4_row 17 = .ok (.iconst (-1), 1) := by decide +kernel
theorem dX4_row_18 : decode cX4_row 18 = .ok (.ireturn, 1) := by decide +kernel
theorem dX4_row_19 : decode cX4_row 19 = .ok (.iload_n 2, 1) := by decide +kernel
theorem dX4_row_20 : decode cX4_row 20 = .ok (.ifCond .ge 9, 3) := by decide +kernel
theorem dX4_row_23 : decode cX4_row 23 = .ok (.aload_n 0, 1) := by decide +kernel
theorem dX4_row_24 : decode cX4_row 24 = .ok (.iconst 5, 1) := by decide +kernel
theorem dX4_row_25 : decode cX4_row 25 = .ok (.invokevirtual 64, 3) := by decide +kernel
theorem dX4_row_28 : decode cX4_row 28 = .ok (.ireturn, 1) := by decide +kernel
theorem dX4_row_29 : decode cX4_row 29 = .ok (.aload_n 0, 1) := by decide +kernel
theorem dX4_row_30 : decode cX4_row 30 = .ok (.getfield 14, 3) := by decide +kernel
theorem dX4_row_33 : decode cX4_row 33 = .ok (.iload_n 1, 1) := by decide +kernel
theorem dX4_row_34 : decode cX4_row 34 = .ok (.iload_n 2, 1) := by decide +kernel
theorem dX4_row_35 : decode cX4_row 35 = .ok (.iconst 0, 1) := by decide +kernel
theorem dX4_row_36 : decode cX4_row 36 = .ok (.invokevirtual 68, 3) := by decide +kernel
theorem dX4_row_39 : decode cX4_row 39 = .ok (.iload_n 2, 1) := by decide +kernel
theorem dX4_row_40 : decode cX4_row 40 = .ok (.ireturn, 1) := by decide +kernel
theorem dX4_lay_0 : decode cX4_lay 0 = .ok (.aload_n 0, 1) := by decide +kernel
theorem dX4_lay_1 : decode cX4_lay 1 = .ok (.aload_n 0, 1) := by decide +kernel
theorem dX4_lay_2 : decode cX4_lay 2 = .ok (.getfield 14, 3) := by decide +kernel
theorem dX4_lay_5 : decode cX4_lay 5 = .ok (.iload_n 1, 1) := by decide +kernel
theorem dX4_lay_6 : decode cX4_lay 6 = .ok (.iload_n 2, 1) := by decide +kernel
theorem dX4_lay_7 : decode cX4_lay 7 = .ok (.invokevirtual 72, 3) := by decide +kernel
theorem dX4_lay_10 : decode cX4_lay 10 = .ok (.istore 4, 2) := by decide +kernel
theorem dX4_lay_12 : decode cX4_lay 12 = .ok (.iload 4, 2) := by decide +kernel
theorem dX4_lay_14 : decode cX4_lay 14 = .ok (.ifCond .eq 6, 3) := by decide +kernel
theorem dX4_lay_17 : decode cX4_lay 17 = .ok (.iload 4, 2) := by decide +kernel
theorem dX4_lay_19 : decode cX4_lay 19 = .ok (.ireturn, 1) := by decide +kernel
theorem dX4_lay_20 : decode cX4_lay 20 = .ok (.aload_n 0, 1) := by decide +kernel
theorem dX4_lay_21 : decode cX4_lay 21 = .ok (.getfield 14, 3) := by decide +kernel
theorem dX4_lay_24 : decode cX4_lay 24 = .ok (.iload_n 1, 1) := by decide +kernel
theorem dX4_lay_25 : decode cX4_lay 25 = .ok (.iload_n 2, 1) := by decide +kernel
theorem dX4_lay_26 : decode cX4_lay 26 = .ok (.invokevirtual 76, 3) := by decide +kernel
theorem dX4_lay_29 : decode cX4_lay 29 = .ok (.istore 5, 2) := by decide +kernel
theorem dX4_lay_31 : decode cX4_lay 31 = .ok (.aload_n 0, 1) := by decide +kernel
theorem dX4_lay_32 : decode cX4_lay 32 = .ok (.getfield 14, 3) := by decide +kernel
theorem dX4_lay_35 : decode cX4_lay 35 = .ok (.iload_n 1, 1) := by decide +kernel
theorem dX4_lay_36 : decode cX4_lay 36 = .ok (.iload_n 2, 1) := by decide +kernel
theorem dX4_lay_37 : decode cX4_lay 37 = .ok (.iload_n 3, 1) := by decide +kernel
theorem dX4_lay_38 : decode cX4_lay 38 = .ok (.invokevirtual 80, 3) := by decide +kernel
theorem dX4_lay_41 : decode cX4_lay 41 = .ok (.aload_n 0, 1) := by decide +kernel
theorem dX4_lay_42 : decode cX4_lay 42 = .ok (.iload 5, 2) := by decide +kernel
theorem dX4_lay_44 : decode cX4_lay 44 = .ok (.invokevirtual 83, 3) := by decide +kernel
theorem dX4_lay_47 : decode cX4_lay 47 = .ok (.ireturn, 1) := by decide +kernel
theorem dX4_at_0 : decode cX4_at 0 = .ok (.aload_n 0, 1) := by decide +kernel
theorem dX4_at_1 : decode cX4_at 1 = .ok (.aload_n 0, 1) := by decide +kernel
theorem dX4_at_2 : decode cX4_at 2 = .ok (.getfield 14, 3) := by decide +kernel
theorem dX4_at_5 : decode cX4_at 5 = .ok (.iload_n 1, 1) := by decide +kernel
theorem dX4_at_6 : decode cX4_at 6 = .ok (.iload_n 2, 1) := by decide +kernel
theorem dX4_at_7 : decode cX4_at 7 = .ok (.invokevirtual 72, 3) := by decide +kernel
theorem dX4_at_10 : decode cX4_at 10 = .ok (.istore_n 3, 1) := by decide +kernel
theorem dX4_at_11 : decode cX4_at 11 = .ok (.iload_n 3, 1) := by decide +kernel
theorem dX4_at_12 : decode cX4_at 12 = .ok (.ifCond .eq 7, 3) := by decide +kernel
theorem dX4_at_15 : decode cX4_at 15 = .ok (.iload_n 3, 1) := by decide +kernel
theorem dX4_at_16 : decode cX4_at 16 = .ok (.goto 16, 3) := by decide +kernel
theorem dX4_at_19 : decode cX4_at 19 = .ok (.aload_n 0, 1) := by decide +kernel
theorem dX4_at_20 : decode cX4_at 20 = .ok (.aload_n 0, 1) := by decide +kernel
theorem dX4_at_21 : decode cX4_at 21 = .ok (.getfield 14, 3) := by decide +kernel
theorem dX4_at_24 : decode cX4_at 24 = .ok (.iload_n 1, 1) := by decide +kernel
theorem dX4_at_25 : decode cX4_at 25 = .ok (.iload_n 2, 1) := by decide +kernel
theorem dX4_at_26 : decode cX4_at 26 = .ok (.invokevirtual 76, 3) := by decide +kernel
theorem dX4_at_29 : decode cX4_at 29 = .ok (.invokevirtual 83, 3) := by decide +kernel
theorem dX4_at_32 : decode cX4_at 32 = .ok (.ireturn, 1) := by decide +kernel
theorem dX4_tear_0 : decode cX4_tear 0 = .ok (.aload_n 0, 1) := by decide +kernel
theorem dX4_tear_1 : decode cX4_tear 1 = .ok (.aload_n 0, 1) := by decide +kernel
theorem dX4_tear_2 : decode cX4_tear 2 = .ok (.getfield 14, 3) := by decide +kernel
theorem dX4_tear_5 : decode cX4_tear 5 = .ok (.iload_n 1, 1) := by decide +kernel
theorem dX4_tear_6 : decode cX4_tear 6 = .ok (.invokevirtual 86, 3) := by decide +kernel
theorem dX4_tear_9 : decode cX4_tear 9 = .ok (.istore_n 2, 1) := by decide +kernel
theorem dX4_tear_10 : decode cX4_tear 10 = .ok (.iload_n 2, 1) := by decide +kernel
theorem dX4_tear_11 : decode cX4_tear 11 = .ok (.ifCond .eq 5, 3) := by decide +kernel
theorem dX4_tear_14 : decode cX4_tear 14 = .ok (.iload_n 2, 1) := by decide +kernel
