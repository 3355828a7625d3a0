theorem dX0_init_0 : decode cX0_init 0 = .ok (.aload_n 0, 1) := by decide +kernel
theorem dX0_init_1 : decode cX0_init 1 = .ok (.invokespecial 3, 3) := by decide +kernel
theorem dX0_init_4 : decode cX0_init 4 = .ok (.aload_n 0, 1) := by decide +kernel
theorem dX0_init_5 : decode cX0_init 5 = .ok (.bipush 96, 2) := by decide +kernel
theorem dX0_init_7 : decode cX0_init 7 = .ok (.newarray .int, 2) := by decide +kernel
theorem dX0_init_9 : decode cX0_init 9 = .ok (.putfield 9, 3) := by decide +kernel
theorem dX0_init_12 : decode cX0_init 12 = .ok (.aload_n 0, 1) := by decide +kernel
theorem dX0_init_13 : decode cX0_init 13 = .ok (.bipush 96, 2) := by decide +kernel
theorem dX0_init_15 : decode cX0_init 15 = .ok (.newarray .int, 2) := by decide +kernel
theorem dX0_init_17 : decode cX0_init 17 = .ok (.putfield 15, 3) := by decide +kernel
theorem dX0_init_20 : decode cX0_init 20 = .ok (.aload_n 0, 1) := by decide +kernel
theorem dX0_init_21 : decode cX0_init 21 = .ok (.bipush 96, 2) := by decide +kernel
theorem dX0_init_23 : decode cX0_init 23 = .ok (.newarray .int, 2) := by decide +kernel
theorem dX0_init_25 : decode cX0_init 25 = .ok (.putfield 18, 3) := by decide +kernel
theorem dX0_init_28 : decode cX0_init 28 = .ok (.aload_n 0, 1) := by decide +kernel
theorem dX0_init_29 : decode cX0_init 29 = .ok (.bipush 72, 2) := by decide +kernel
theorem dX0_init_31 : decode cX0_init 31 = .ok (.newarray .int, 2) := by decide +kernel
theorem dX0_init_33 : decode cX0_init 33 = .ok (.putfield 21, 3) := by decide +kernel
theorem dX0_init_36 : decode cX0_init 36 = .ok (.aload_n 0, 1) := by decide +kernel
theorem dX0_init_37 : decode cX0_init 37 = .ok (.bipush 8, 2) := by decide +kernel
theorem dX0_init_39 : decode cX0_init 39 = .ok (.newarray .int, 2) := by decide +kernel
theorem dX0_init_41 : decode cX0_init 41 = .ok (.putfield 24, 3) := by decide +kernel
theorem dX0_init_44 : decode cX0_init 44 = .ok (.aload_n 0, 1) := by decide +kernel
theorem dX0_init_45 : decode cX0_init 45 = .ok (.bipush 8, 2) := by decide +kernel
theorem dX0_init_47 : decode cX0_init 47 = .ok (.newarray .int, 2) := by decide +kernel
theorem dX0_init_49 : decode cX0_init 49 = .ok (.putfield 27, 3) := by decide +kernel
theorem dX0_init_52 : decode cX0_init 52 = .ok (.return_, 1) := by decide +kernel
theorem dX0_clear_0 : decode cX0_clear 0 = .ok (.aload_n 0, 1) := by decide +kernel
theorem dX0_clear_1 : decode cX0_clear 1 = .ok (.iconst 0, 1) := by decide +kernel
theorem dX0_clear_2 : decode cX0_clear 2 = .ok (.putfield 30, 3) := by decide +kernel
theorem dX0_clear_5 : decode cX0_clear 5 = .ok (.aload_n 0, 1) := by decide +kernel
theorem dX0_clear_6 : decode cX0_clear 6 = .ok (.getfield 9, 3) := by decide +kernel
theorem dX0_clear_9 : decode cX0_clear 9 = .ok (.iconst 0, 1) := by decide +kernel
theorem dX0_clear_10 : decode cX0_clear 10 = .ok (.invokestatic 34, 3) := by decide +kernel
theorem dX0_clear_13 : decode cX0_clear 13 = .ok (.aload_n 0, 1) := by decide +kernel
theorem dX0_clear_14 : decode cX0_clear 14 = .ok (.getfield 15, 3) := by decide +kernel
theorem dX0_clear_17 : decode cX0_clear 17 = .ok (.iconst (-1), 1) := by decide +kernel
theorem dX0_clear_18 : decode cX0_clear 18 = .ok (.invokestatic 34, 3) := by decide +kernel
theorem dX0_clear_21 : decode cX0_clear 21 = .ok (.aload_n 0, 1) := by decide +kernel
theorem dX0_clear_22 : decode cX0_clear 22 = .ok (.getfield 18, 3) := by decide +kernel
theorem dX0_clear_25 : decode cX0_clear 25 = .ok (.iconst 0, 1) := by decide +kernel
theorem dX0_clear_26 : decode cX0_clear 26 = .ok (.invokestatic 34, 3) := by decide +kernel
theorem dX0_clear_29 : decode cX0_clear 29 = .ok (.aload_n 0, 1) := by decide +kernel
theorem dX0_clear_30 : decode cX0_clear 30 = .ok (.getfield 21, 3) := by decide +kernel
theorem dX0_clear_33 : decode cX0_clear 33 = .ok (.iconst (-1), 1) := by decide +kernel
theorem dX0_clear_34 : decode cX0_clear 34 = .ok (.invokestatic 34, 3) := by decide +kernel
theorem dX0_clear_37 : decode cX0_clear 37 = .ok (.aload_n 0, 1) := by decide +kernel
theorem dX0_clear_38 : decode cX0_clear 38 = .ok (.getfield 24, 3) := by decide +kernel
theorem dX0_clear_41 : decode cX0_clear 41 = .ok (.iconst 0, 1) := by decide +kernel
theorem dX0_clear_42 : decode cX0_clear 42 = .ok (.invokestatic 34, 3) := by decide +kernel
theorem dX0_clear_45 : decode cX0_clear 45 = .ok (.aload_n 0, 1) := by decide +kernel
theorem dX0_clear_46 : decode cX0_clear 46 = .ok (.getfield 27, 3) := by decide +kernel
theorem dX0_clear_49 : decode cX0_clear 49 = .ok (.iconst 0, 1) := by decide +kernel
theorem dX0_clear_50 : decode cX0_clear 50 = .ok (.invokestatic 34, 3) := by decide +kernel
theorem dX0_clear_53 : decode cX0_clear 53 = .ok (.return_, 1) := by decide +kernel
theorem dX0_copyFrom_0 : decode cX0_copyFrom 0 = .ok (.aload_n 0, 1) := by decide +kernel
theorem dX0_copyFrom_1 : decode cX0_copyFrom 1 = .ok (.aload_n 1, 1) := by decide +kernel
theorem dX0_copyFrom_2 : decode cX0_copyFrom 2 = .ok (.getfield 30, 3) := by decide +kernel
theorem dX0_copyFrom_5 : decode cX0_copyFrom 5 = .ok (.putfield 30, 3) := by decide +kernel
theorem dX0_copyFrom_8 : decode cX0_copyFrom 8 = .ok (.aload_n 1, 1) := by decide +kernel
theorem dX0_copyFrom_9 : decode cX0_copyFrom 9 = .ok (.getfield 9, 3) := by decide +kernel
theorem dX0_copyFrom_12 : decode cX0_copyFrom 12 = .ok (.iconst 0, 1) := by decide +kernel
theorem dX0_copyFrom_13 : decode cX0_copyFrom 13 = .ok (.aload_n 0, 1) := by decide +kernel
theorem dX0_copyFrom_14 : decode cX0_copyFrom 14 = .ok (.getfield 9, 3) := by decide +kernel
theorem dX0_copyFrom_17 : decode cX0_copyFrom 17 = .ok (.iconst 0, 1) := by decide +kernel
theorem dX0_copyFrom_18 : decode cX0_copyFrom 18 = .ok (.bipush 96, 2) := by decide +kernel
theorem dX0_copyFrom_20 : decode cX0_copyFrom 20 = .ok (.invokestatic 40, 3) := by decide +kernel
theorem dX0_copyFrom_23 : decode cX0_copyFrom 23 = .ok (.aload_n 1, 1) := by decide +kernel
theorem dX0_copyFrom_24 : decode cX0_copyFrom 24 = .ok (.getfield 15, 3) := by decide +kernel
theorem dX0_copyFrom_27 : decode cX0_copyFrom 27 = .ok (.iconst 0, 1) := by decide +kernel
theorem dX0_copyFrom_28 : decode cX0_copyFrom 28 = .ok (.aload_n 0, 1) := by decide +kernel
theorem dX0_copyFrom_29 : decode cX0_copyFrom 29 = .ok (.getfield 15, 3) := by decide +kernel
theorem dX0_copyFrom_32 : decode cX0_copyFrom 32 = .ok (.iconst 0, 1) := by decide +kernel
theorem dX0_copyFrom_33 : decode cX0_copyFrom 33 = .ok (.bipush 96, 2) := by decide +kernel
theorem dX0_copyFrom_35 : decode cX0_copyFrom 35 = .ok (.invokestatic 40, 3) := by decide +kernel
theorem dX0_copyFrom_38 : decode cX0_copyFrom 38 = .ok (.aload_n 1, 1) := by decide +kernel
theorem dX0_copyFrom_39 : decode cX0_copyFrom 39 = .ok (.getfield 18, 3) := by decide +kernel
theorem dX0_copyFrom_42 : decode cX0_copyFrom 42 = .ok (.iconst 0, 1) := by decide +kernel
theorem dX0_copyFrom_43 : decode cX0_copyFrom 43 = .ok (.aload_n 0, 1) := by decide +kernel
theorem dX0_copyFrom_44 : decode cX0_copyFrom 44 = .ok (.getfield 18, 3) := by decide +kernel
theorem dX0_copyFrom_47 : decode cX0_copyFrom 47 = .ok (.iconst 0, 1) := by decide +kernel
theorem dX0_copyFrom_48 : decode cX0_copyFrom 48 = .ok (.bipush 96, 2) := by decide +kernel
theorem dX0_copyFrom_50 : decode cX0_copyFrom 50 = .ok (.invokestatic 40, 3) := by decide +kernel
theorem dX0_copyFrom_53 : decode cX0_copyFrom 53 = .ok (.aload_n 1, 1) := by decide +kernel
theorem dX0_copyFrom_54 : decode cX0_copyFrom 54 = .ok (.getfield 21, 3) := by decide +kernel
theorem dX0_copyFrom_57 : decode cX0_copyFrom 57 = .ok (.iconst 0, 1) := by decide +kernel
theorem dX0_copyFrom_58 : decode cX0_copyFrom 58 = .ok (.aload_n 0, 1) := by decide +kernel
theorem dX0_copyFrom_59 : decode cX0_copyFrom 59 = .ok (.getfield 21, 3) := by decide +kernel
theorem dX0_copyFrom_62 : decode cX0_copyFrom 62 = .ok (.iconst 0, 1) := by decide +kernel
theorem dX0_copyFrom_63 : decode cX0_copyFrom 63 = .ok (.bipush 72, 2) := by decide +kernel
theorem dX0_copyFrom_65 : decode cX0_copyFrom 65 = .ok (.invokestatic 40, 3) := by decide +kernel
theorem dX0_copyFrom_68 : decode cX0_copyFrom 68 = .ok (.aload_n 1, 1) := by decide +kernel
theorem dX0_copyFrom_69 : decode cX0_copyFrom 69 = .ok (.getfield 24, 3) := by decide +kernel
theorem dX0_copyFrom_72 : decode cX0_copyFrom 72 = .ok (.iconst 0, 1) := by decide +kernel
theorem dX0_copyFrom_73 : decode cX0_copyFrom 73 = .ok (.aload_n 0, 1) := by decide +kernel
theorem dX0_copyFrom_74 : decode cX0_copyFrom 74 = .ok (.getfield 24, 3) := by decide +kernel
theorem dX0_copyFrom_77 : decode cX0_copyFrom 77 = .ok (.iconst 0, 1) := by decide +kernel
theorem dX0_copyFrom_78 : decode cX0_copyFrom 78 = .ok (.bipush 8, 2) := by decide +kernel
theorem dX0_copyFrom_80 : decode cX0_copyFrom 80 = .ok (.invokestatic 40, 3) := by decide +kernel
theorem dX0_copyFrom_83 : decode cX0_copyFrom 83 = .ok (.aload_n 1, 1) := by decide +kernel
theorem dX0_copyFrom_84 : decode cX0_copyFrom 84 = .ok (.getfield 27, 3) := by decide +kernel
theorem dX0_copyFrom_87 : decode cX0_copyFrom 87 = .ok (.iconst 0, 1) := by decide +kernel
theorem dX0_copyFrom_88 : decode cX0_copyFrom 88 = .ok (.aload_n 0, 1) := by decide +kernel
theorem dX0_copyFrom_89 : decode cX0_copyFrom 89 = .ok (.getfield 27, 3) := by decide +kernel
theorem dX0_copyFrom_92 : decode cX0_copyFrom 92 = .ok (.iconst 0, 1) := by decide +kernel
theorem dX0_copyFrom_93 : decode cX0_copyFrom 93 = .ok (.bipush 8, 2) := by decide +kernel
theorem dX0_copyFrom_95 : decode cX0_copyFrom 95 = .ok (.invokestatic 40, 3) := by decide +kernel
theorem dX0_copyFrom_98 : decode cX0_copyFrom 98 = .ok (.return_, 1) := by decide +kernel
theorem dX0_left_0 : decode cX0_left 0 = .ok (.aload_n 1, 1) := by decide +kernel
theorem dX0_left_1 : decode cX0_left 1 = .ok (.getfield 46, 3) := by decide +kernel
theorem dX0_left_4 : decode cX0_left 4 = .ok (.iload_n 2, 1) := by decide +kernel
theorem dX0_left_5 : decode cX0_left 5 = .ok (.iaload, 1) := by decide +kernel
theorem dX0_left_6 : decode cX0_left 6 = .ok (.aload_n 0, 1) := by decide +kernel
theorem dX0_left_7 : decode cX0_left 7 = .ok (.getfield 24, 3) := by decide +kernel
theorem dX0_left_10 : decode cX0_left 10 = .ok (.iload_n 2, 1) := by decide +kernel
theorem dX0_left_11 : decode cX0_left 11 = .ok (.iaload, 1) := by decide +kernel
theorem dX0_left_12 : decode cX0_left 12 = .ok (.isub, 1) := by decide +kernel
theorem dX0_left_13 : decode cX0_left 13 = .ok (.ireturn, 1) := by decide +kernel
theorem dX0_mayThrow_0 : decode cX0_mayThrow 0 = .ok (.aload_n 0, 1) := by decide +kernel
theorem dX0_mayThrow_1 : decode cX0_mayThrow 1 = .ok (.aload_n 1, 1) := by decide +kernel
theorem dX0_mayThrow_2 : decode cX0_mayThrow 2 = .ok (.iload_n 2, 1) := by decide +kernel
theorem dX0_mayThrow_3 : decode cX0_mayThrow 3 = .ok (.invokevirtual 51, 3) := by decide +kernel
theorem dX0_mayThrow_6 : decode cX0_mayThrow 6 = .ok (.ifCond .le 20, 3) := by decide +kernel
theorem dX0_mayThrow_9 : decode cX0_mayThrow 9 = .ok (.aload_n 0, 1) := by decide +kernel
theorem dX0_mayThrow_10 : decode cX0_mayThrow 10 = .ok (.getfield 30, 3) := by decide +kernel
theorem dX0_mayThrow_13 : decode cX0_mayThrow 13 = .ok (.aload_n 1, 1) := by decide +kernel
theorem dX0_mayThrow_14 : decode cX0_mayThrow 14 = .ok (.getfield 55, 3) := by decide +kernel
theorem dX0_mayThrow_17 : decode cX0_mayThrow 17 = .ok (.iload_n 2, 1) := by decide +kernel
theorem dX0_mayThrow_18 : decode cX0_mayThrow 18 = .ok (.iaload, 1) := by decide +kernel
theorem dX0_mayThrow_19 : decode cX0_mayThrow 19 = .ok (.if_icmp .lt 7, 3) := by decide +kernel
theorem dX0_mayThrow_22 : decode cX0_mayThrow 22 = .ok (.iconst 1, 1) := by decide +kernel
theorem dX0_mayThrow_23 : decode cX0_mayThrow 23 = .ok (.goto 4, 3) := by decide +kernel
theorem dX0_mayThrow_26 : decode cX0_mayThrow 26 = .ok (.iconst 0, 1) := by decide +kernel
theorem dX0_mayThrow_27 : decode cX0_mayThrow 27 = .ok (.ireturn, 1) := by decide +kernel
theorem dX0_throwStone_0 : decode cX0_throwStone 0 = .ok (.aload_n 0, 1) := by decide +kernel
theorem dX0_throwStone_1 : decode cX0_throwStone 1 = .ok (.aload_n 1, 1) := by decide +kernel
theorem dX0_throwStone_2 : decode cX0_throwStone 2 = .ok (.iload_n 2, 1) := by decide +kernel
theorem dX0_throwStone_3 : decode cX0_throwStone 3 = .ok (.invokevirtual 51, 3) := by decide +kernel
theorem dX0_throwStone_6 : decode cX0_throwStone 6 = .ok (.ifCond .le 14, 3) := by decide +kernel
theorem dX0_throwStone_9 : decode cX0_throwStone 9 = .ok (.aload_n 0, 1) := by decide +kernel
theorem dX0_throwStone_10 : decode cX0_throwStone 10 = .ok (.getfield 24, 3) := by decide +kernel
theorem dX0_throwStone_13 : decode cX0_throwStone 13 = .ok (.iload_n 2, 1) := by decide +kernel
theorem dX0_throwStone_14 : decode cX0_throwStone 14 = .ok (.iaload, 1) := by decide +kernel
theorem dX0_throwStone_15 : decode cX0_throwStone 15 = .ok (.bipush 9, 2) := by decide +kernel
theorem dX0_throwStone_17 : decode cX0_throwStone 17 = .ok (.if_icmp .lt 6, 3) := by decide +kernel
theorem dX0_throwStone_20 : decode cX0_throwStone 20 = .ok (.bipush (-2), 2) := by decide +kernel
theorem dX0_throwStone_22 : decode cX0_throwStone 22 = .ok (.ireturn, 1) := by decide +kernel
theorem dX0_throwStone_23 : decode cX0_throwStone 23 = .ok (.iload_n 2, 1) := by decide +kernel
theorem dX0_throwStone_24 : decode cX0_throwStone 24 = .ok (.bipush 9, 2) := by decide +kernel
theorem dX0_throwStone_26 : decode cX0_throwStone 26 = .ok (.imul, 1) := by decide +kernel
theorem dX0_throwStone_27 : decode cX0_throwStone 27 = .ok (.aload_n 0, 1) := by decide +kernel
theorem dX0_throwStone_28 : decode cX0_throwStone 28 = .ok (.getfield 24, 3) := by decide +kernel
theorem dX0_throwStone_31 : decode cX0_throwStone 31 = .ok (.iload_n 2, 1) := by decide +kernel
theorem dX0_throwStone_32 : decode cX0_throwStone 32 = .ok (.iaload, 1) := by decide +kernel
theorem dX0_throwStone_33 : decode cX0_throwStone 33 = .ok (.iadd, 1) := by decide +kernel
theorem dX0_throwStone_34 : decode cX0_throwStone 34 = .ok (.istore 5, 2) := by decide +kernel
theorem dX0_throwStone_36 : decode cX0_throwStone 36 = .ok (.aload_n 0, 1) := by decide +kernel
theorem dX0_throwStone_37 : decode cX0_throwStone 37 = .ok (.getfield 24, 3) := by decide +kernel
theorem dX0_throwStone_40 : decode cX0_throwStone 40 = .ok (.iload_n 2, 1) := by decide +kernel
theorem dX0_throwStone_41 : decode cX0_throwStone 41 = .ok (.dup2, 1) := by decide +kernel
theorem dX0_throwStone_42 : decode cX0_throwStone 42 = .ok (.iaload, 1) := by decide +kernel
theorem dX0_throwStone_43 : decode cX0_throwStone 43 = .ok (.iconst 1, 1) := by decide +kernel
theorem dX0_throwStone_44 : decode cX0_throwStone 44 = .ok (.iadd, 1) := by decide +kernel
theorem dX0_throwStone_45 : decode cX0_throwStone 45 = .ok (.iastore, 1) := by decide +kernel
theorem dX0_throwStone_46 : decode cX0_throwStone 46 = .ok (.iload_n 3, 1) := by decide +kernel
theorem dX0_throwStone_47 : decode cX0_throwStone 47 = .ok (.aload_n 1, 1) := by decide +kernel
theorem dX0_throwStone_48 : decode cX0_throwStone 48 = .ok (.iload_n 2, 1) := by decide +kernel
theorem dX0_throwStone_49 : decode cX0_throwStone 49 = .ok (.iload 4, 2) := by decide +kernel
theorem dX0_throwStone_51 : decode cX0_throwStone 51 = .ok (.invokevirtual 58, 3) := by decide +kernel
theorem dX0_throwStone_54 : decode cX0_throwStone 54 = .ok (.iadd, 1) := by decide +kernel
theorem dX0_throwStone_55 : decode cX0_throwStone 55 = .ok (.istore 6, 2) := by decide +kernel
theorem dX0_throwStone_57 : decode cX0_throwStone 57 = .ok (.aload_n 1, 1) := by decide +kernel
theorem dX0_throwStone_58 : decode cX0_throwStone 58 = .ok (.iload 6, 2) := by decide +kernel
theorem dX0_throwStone_60 : decode cX0_throwStone 60 = .ok (.iload 4, 2) := by decide +kernel
theorem dX0_throwStone_62 : decode cX0_throwStone 62 = .ok (.invokevirtual 62, 3) := by decide +kernel
theorem dX0_throwStone_65 : decode cX0_throwStone 65 = .ok (.ifCond .ne 16, 3) := by decide +kernel
theorem dX0_throwStone_68 : decode cX0_throwStone 68 = .ok (.aload_n 0, 1) := by decide +kernel
theorem dX0_throwStone_69 : decode cX0_throwStone 69 = .ok (.getfield 27, 3) := by decide +kernel
theorem dX0_throwStone_72 : decode cX0_throwStone 72 = .ok (.iload_n 2, 1) := by decide +kernel
theorem dX0_throwStone_73 : decode cX0_throwStone 73 = .ok (.dup2, 1) := by decide +kernel
theorem dX0_throwStone_74 : decode cX0_throwStone 74 = .ok (.iaload, 1) := by decide +kernel
theorem dX0_throwStone_75 : decode cX0_throwStone 75 = .ok (.iconst 1, 1) := by decide +kernel
theorem dX0_throwStone_76 : decode cX0_throwStone 76 = .ok (.iadd, 1) := by decide +kernel
theorem dX0_throwStone_77 : decode cX0_throwStone 77 = .ok (.iastore, 1) := by decide +kernel
theorem dX0_throwStone_78 : decode cX0_throwStone 78 = .ok (.bipush (-2), 2) := by decide +kernel
theorem dX0_throwStone_80 : decode cX0_throwStone 80 = .ok (.ireturn, 1) := by decide +kernel
theorem dX0_throwStone_81 : decode cX0_throwStone 81 = .ok (.iload 6, 2) := by decide +kernel
theorem dX0_throwStone_83 : decode cX0_throwStone 83 = .ok (.iload 4, 2) := by decide +kernel
theorem dX0_throwStone_85 : decode cX0_throwStone 85 = .ok (.invokestatic 66, 3) := by decide +kernel
theorem dX0_throwStone_88 : decode cX0_throwStone 88 = .ok (.istore 7, 2) := by decide +kernel
theorem dX0_throwStone_90 : decode cX0_throwStone 90 = .ok (.aload_n 0, 1) := by decide +kernel
theorem dX0_throwStone_91 : decode cX0_throwStone 91 = .ok (.iload 7, 2) := by decide +kernel
theorem dX0_throwStone_93 : decode cX0_throwStone 93 = .ok (.iload 5, 2) := by decide +kernel
theorem dX0_throwStone_95 : decode cX0_throwStone 95 = .ok (.iload 5, 2) := by decide +kernel
theorem dX0_throwStone_97 : decode cX0_throwStone 97 = .ok (.iconst 1, 1) := by decide +kernel
theorem dX0_throwStone_98 : decode cX0_throwStone 98 = .ok (.aload_n 0, 1) := by decide +kernel
theorem dX0_throwStone_99 : decode cX0_throwStone 99 = .ok (.getfield 30, 3) := by decide +kernel
theorem dX0_throwStone_102 : decode cX0_throwStone 102 = .ok (.invokevirtual 69, 3) := by decide +kernel
theorem dX0_throwStone_105 : decode cX0_throwStone 105 = .ok (.iload 7, 2) := by decide +kernel
theorem dX0_throwStone_107 : decode cX0_throwStone 107 = .ok (.ireturn, 1) := by decide +kernel
theorem dX0_passDays_0 : decode cX0_passDays 0 = .ok (.iconst 0, 1) := by decide +kernel
theorem dX0_passDays_1 : decode cX0_passDays 1 = .ok (.istore 5, 2) := by decide +kernel
theorem dX0_passDays_3 : decode cX0_passDays 3 = .ok (.iload 5, 2) := by decide +kernel
theorem dX0_passDays_5 : decode cX0_passDays 5 = .ok (.iload_n 2, 1) := by decide +kernel
theorem dX0_passDays_6 : decode cX0_passDays 6 = .ok (.if_icmp .ge 25, 3) := by decide +kernel
theorem dX0_passDays_9 : decode cX0_passDays 9 = .ok (.iload 5, 2) := by decide +kernel
theorem dX0_passDays_11 : decode cX0_passDays 11 = .ok (.bipush 100, 2) := by decide +kernel
theorem dX0_passDays_13 : decode cX0_passDays 13 = .ok (.if_icmp .ge 18, 3) := by decide +kernel
theorem dX0_passDays_16 : decode cX0_passDays 16 = .ok (.aload_n 0, 1) := by decide +kernel
theorem dX0_passDays_17 : decode cX0_passDays 17 = .ok (.aload_n 1, 1) := by decide +kernel
theorem dX0_passDays_18 : decode cX0_passDays 18 = .ok (.iload_n 3, 1) := by decide +kernel
theorem dX0_passDays_19 : decode cX0_passDays 19 = .ok (.iload 4, 2) := by decide +kernel
theorem dX0_passDays_21 : decode cX0_passDays 21 = .ok (.invokevirtual 73, 3) := by decide +kernel
theorem dX0_passDays_24 : decode cX0_passDays 24 = .ok (.pop, 1) := by decide +kernel
theorem dX0_passDays_25 : decode cX0_passDays 25 = .ok (.iinc 5 1, 3) := by decide +kernel
theorem dX0_passDays_28 : decode cX0_passDays 28 = .ok (.goto (-25), 3) := by decide +kernel
theorem dX0_passDays_31 : decode cX0_passDays 31 = .ok (.return_, 1) := by decide +kernel
theorem dX0_passDay_0 : decode cX0_passDay 0 = .ok (.iconst 0, 1) := by decide +kernel
theorem dX0_passDay_1 : decode cX0_passDay 1 = .ok (.istore 4, 2) := by decide +kernel
theorem dX0_passDay_3 : decode cX0_passDay 3 = .ok (.iconst 0, 1) := by decide +kernel
theorem dX0_passDay_4 : decode cX0_passDay 4 = .ok (.istore 5, 2) := by decide +kernel
theorem dX0_passDay_6 : decode cX0_passDay 6 = .ok (.iload 5, 2) := by decide +kernel
theorem dX0_passDay_8 : decode cX0_passDay 8 = .ok (.aload_n 1, 1) := by decide +kernel
theorem dX0_passDay_9 : decode cX0_passDay 9 = .ok (.getfield 77, 3) := by decide +kernel
theorem dX0_passDay_12 : decode cX0_passDay 12 = .ok (.if_icmp .ge 65, 3) := by decide +kernel
theorem dX0_passDay_15 : decode cX0_passDay 15 = .ok (.iload 5, 2) := by decide +kernel
theorem dX0_passDay_17 : decode cX0_passDay 17 = .ok (.bipush 8, 2) := by decide +kernel
theorem dX0_passDay_19 : decode cX0_passDay 19 = .ok (.if_icmp .ge 58, 3) := by decide +kernel
theorem dX0_passDay_22 : decode cX0_passDay 22 = .ok (.aload_n 1, 1) := by decide +kernel
theorem dX0_passDay_23 : decode cX0_passDay 23 = .ok (.getfield 80, 3) := by decide +kernel
theorem dX0_passDay_26 : decode cX0_passDay 26 = .ok (.iload 5, 2) := by decide +kernel
theorem dX0_passDay_28 : decode cX0_passDay 28 = .ok (.iaload, 1) := by decide +kernel
theorem dX0_passDay_29 : decode cX0_passDay 29 = .ok (.aload_n 0, 1) := by decide +kernel
theorem dX0_passDay_30 : decode cX0_passDay 30 = .ok (.getfield 30, 3) := by decide +kernel
theorem dX0_passDay_33 : decode cX0_passDay 33 = .ok (.if_icmp .eq 6, 3) := by decide +kernel
theorem dX0_passDay_36 : decode cX0_passDay 36 = .ok (.goto 35, 3) := by decide +kernel
theorem dX0_passDay_39 : decode cX0_passDay 39 = .ok (.iload_n 2, 1) := by decide +kernel
theorem dX0_passDay_40 : decode cX0_passDay 40 = .ok (.istore 6, 2) := by decide +kernel
theorem dX0_passDay_42 : decode cX0_passDay 42 = .ok (.iload 6, 2) := by decide +kernel
theorem dX0_passDay_44 : decode cX0_passDay 44 = .ok (.iload_n 3, 1) := by decide +kernel
theorem dX0_passDay_45 : decode cX0_passDay 45 = .ok (.if_icmp .ge 23, 3) := by decide +kernel
theorem dX0_passDay_48 : decode cX0_passDay 48 = .ok (.aload_n 0, 1) := by decide +kernel
theorem dX0_passDay_49 : decode cX0_passDay 49 = .ok (.aload_n 1, 1) := by decide +kernel
theorem dX0_passDay_50 : decode cX0_passDay 50 = .ok (.aload_n 1, 1) := by decide +kernel
theorem dX0_passDay_51 : decode cX0_passDay 51 = .ok (.getfield 83, 3) := by decide +kernel
theorem dX0_passDay_54 : decode cX0_passDay 54 = .ok (.iload 5, 2) := by decide +kernel
theorem dX0_passDay_56 : decode cX0_passDay 56 = .ok (.iaload, 1) := by decide +kernel
theorem dX0_passDay_57 : decode cX0_passDay 57 = .ok (.iload 6, 2) := by decide +kernel
theorem dX0_passDay_59 : decode cX0_passDay 59 = .ok (.invokevirtual 86, 3) := by decide +kernel
theorem dX0_passDay_62 : decode cX0_passDay 62 = .ok (.iinc 6 1, 3) := by decide +kernel
theorem dX0_passDay_65 : decode cX0_passDay 65 = .ok (.goto (-23), 3) := by decide +kernel
theorem dX0_passDay_68 : decode cX0_passDay 68 = .ok (.iconst 1, 1) := by decide +kernel
theorem dX0_passDay_69 : decode cX0_passDay 69 = .ok (.istore 4, 2) := by decide +kernel
theorem dX0_passDay_71 : decode cX0_passDay 71 = .ok (.iinc 5 1, 3) := by decide +kernel
theorem dX0_passDay_74 : decode cX0_passDay 74 = .ok (.goto (-68), 3) := by decide +kernel
theorem dX0_passDay_77 : decode cX0_passDay 77 = .ok (.aload_n 0, 1) := by decide +kernel
theorem dX0_passDay_78 : decode cX0_passDay 78 = .ok (.dup, 1) := by decide +kernel
theorem dX0_passDay_79 : decode cX0_passDay 79 = .ok (.getfield 30, 3) := by decide +kernel
theorem dX0_passDay_82 : decode cX0_passDay 82 = .ok (.iconst 1, 1) := by decide +kernel
theorem dX0_passDay_83 : decode cX0_passDay 83 = .ok (.iadd, 1) := by decide +kernel
theorem dX0_passDay_84 : decode cX0_passDay 84 = .ok (.putfield 30, 3) := by decide +kernel
theorem dX0_passDay_87 : decode cX0_passDay 87 = .ok (.iload 4, 2) := by decide +kernel
theorem dX0_passDay_89 : decode cX0_passDay 89 = .ok (.ireturn, 1) := by decide +kernel
theorem dX0_floodRow_0 : decode cX0_floodRow 0 = .ok (.aload_n 1, 1) := by decide +kernel
theorem dX0_floodRow_1 : decode cX0_floodRow 1 = .ok (.getfield 90, 3) := by decide +kernel
theorem dX0_floodRow_4 : decode cX0_floodRow 4 = .ok (.iconst 1, 1) := by decide +kernel
theorem dX0_floodRow_5 : decode cX0_floodRow 5 = .ok (.isub, 1) := by decide +kernel
theorem dX0_floodRow_6 : decode cX0_floodRow 6 = .ok (.istore 4, 2) := by decide +kernel
theorem dX0_floodRow_8 : decode cX0_floodRow 8 = .ok (.iload 4, 2) := by decide +kernel
theorem dX0_floodRow_10 : decode cX0_floodRow 10 = .ok (.ifCond .lt 119, 3) := by decide +kernel
theorem dX0_floodRow_13 : decode cX0_floodRow 13 = .ok (.iload 4, 2) := by decide +kernel
theorem dX0_floodRow_15 : decode cX0_floodRow 15 = .ok (.iload_n 3, 1) := by decide +kernel
theorem dX0_floodRow_16 : decode cX0_floodRow 16 = .ok (.invokestatic 66, 3) := by decide +kernel
theorem dX0_floodRow_19 : decode cX0_floodRow 19 = .ok (.istore 5, 2) := by decide +kernel
theorem dX0_floodRow_21 : decode cX0_floodRow 21 = .ok (.aload_n 0, 1) := by decide +kernel
theorem dX0_floodRow_22 : decode cX0_floodRow 22 = .ok (.getfield 9, 3) := by decide +kernel
theorem dX0_floodRow_25 : decode cX0_floodRow 25 = .ok (.iload 5, 2) := by decide +kernel
theorem dX0_floodRow_27 : decode cX0_floodRow 27 = .ok (.iaload, 1) := by decide +kernel
theorem dX0_floodRow_28 : decode cX0_floodRow 28 = .ok (.istore 6, 2) := by decide +kernel
theorem dX0_floodRow_30 : decode cX0_floodRow 30 = .ok (.iload 6, 2) := by decide +kernel
theorem dX0_floodRow_32 : decode cX0_floodRow 32 = .ok (.ifCond .ne 6, 3) := by decide +kernel
theorem dX0_floodRow_35 : decode cX0_floodRow 35 = .ok (.goto 88, 3) := by decide +kernel
theorem dX0_floodRow_38 : decode cX0_floodRow 38 = .ok (.aload_n 0, 1) := by decide +kernel
theorem dX0_floodRow_39 : decode cX0_floodRow 39 = .ok (.iload 5, 2) := by decide +kernel
theorem dX0_floodRow_41 : decode cX0_floodRow 41 = .ok (.aload_n 0, 1) := by decide +kernel
theorem dX0_floodRow_42 : decode cX0_floodRow 42 = .ok (.getfield 30, 3) := by decide +kernel
theorem dX0_floodRow_45 : decode cX0_floodRow 45 = .ok (.iconst 1, 1) := by decide +kernel
theorem dX0_floodRow_46 : decode cX0_floodRow 46 = .ok (.iadd, 1) := by decide +kernel
theorem dX0_floodRow_47 : decode cX0_floodRow 47 = .ok (.invokevirtual 93, 3) := by decide +kernel
theorem dX0_floodRow_50 : decode cX0_floodRow 50 = .ok (.istore 7, 2) := by decide +kernel
theorem dX0_floodRow_52 : decode cX0_floodRow 52 = .ok (.aload_n 1, 1) := by decide +kernel
theorem dX0_floodRow_53 : decode cX0_floodRow 53 = .ok (.getfield 96, 3) := by decide +kernel
theorem dX0_floodRow_56 : decode cX0_floodRow 56 = .ok (.iload 6, 2) := by decide +kernel
theorem dX0_floodRow_58 : decode cX0_floodRow 58 = .ok (.aload_n 1, 1) := by decide +kernel
theorem dX0_floodRow_59 : decode cX0_floodRow 59 = .ok (.getfield 100, 3) := by decide +kernel
theorem dX0_floodRow_62 : decode cX0_floodRow 62 = .ok (.iload 5, 2) := by decide +kernel
theorem dX0_floodRow_64 : decode cX0_floodRow 64 = .ok (.iaload, 1) := by decide +kernel
theorem dX0_floodRow_65 : decode cX0_floodRow 65 = .ok (.iload_n 2, 1) := by decide +kernel
theorem dX0_floodRow_66 : decode cX0_floodRow 66 = .ok (.iload 7, 2) := by decide +kernel
theorem dX0_floodRow_68 : decode cX0_floodRow 68 = .ok (.iload_n 3, 1) := by decide +kernel
theorem dX0_floodRow_69 : decode cX0_floodRow 69 = .ok (.iload 4, 2) := by decide +kernel
theorem dX0_floodRow_71 : decode cX0_floodRow 71 = .ok (.invokevirtual 103, 3) := by decide +kernel
theorem dX0_floodRow_74 : decode cX0_floodRow 74 = .ok (.istore 8, 2) := by decide +kernel
theorem dX0_floodRow_76 : decode cX0_floodRow 76 = .ok (.iconst 0, 1) := by decide +kernel
theorem dX0_floodRow_77 : decode cX0_floodRow 77 = .ok (.iload 8, 2) := by decide +kernel
theorem dX0_floodRow_79 : decode cX0_floodRow 79 = .ok (.iload 6, 2) := by decide +kernel
theorem dX0_floodRow_81 : decode cX0_floodRow 81 = .ok (.invokestatic 109, 3) := by decide +kernel
theorem dX0_floodRow_84 : decode cX0_floodRow 84 = .ok (.invokestatic 114, 3) := by decide +kernel
theorem dX0_floodRow_87 : decode cX0_floodRow 87 = .ok (.istore 9, 2) := by decide +kernel
theorem dX0_floodRow_89 : decode cX0_floodRow 89 = .ok (.iload 9, 2) := by decide +kernel
theorem dX0_floodRow_91 : decode cX0_floodRow 91 = .ok (.ifCond .le 32, 3) := by decide +kernel
theorem dX0_floodRow_94 : decode cX0_floodRow 94 = .ok (.aload_n 0, 1) := by decide +kernel
theorem dX0_floodRow_95 : decode cX0_floodRow 95 = .ok (.iload 5, 2) := by decide +kernel
theorem dX0_floodRow_97 : decode cX0_floodRow 97 = .ok (.iload 9, 2) := by decide +kernel
theorem dX0_floodRow_99 : decode cX0_floodRow 99 = .ok (.aload_n 1, 1) := by decide +kernel
theorem dX0_floodRow_100 : decode cX0_floodRow 100 = .ok (.iload 4, 2) := by decide +kernel
theorem dX0_floodRow_102 : decode cX0_floodRow 102 = .ok (.iload_n 2, 1) := by decide +kernel
theorem dX0_floodRow_103 : decode cX0_floodRow 103 = .ok (.iadd, 1) := by decide +kernel
theorem dX0_floodRow_104 : decode cX0_floodRow 104 = .ok (.iload_n 3, 1) := by decide +kernel
theorem dX0_floodRow_105 : decode cX0_floodRow 105 = .ok (.invokevirtual 62, 3) := by decide +kernel
theorem dX0_floodRow_108 : decode cX0_floodRow 108 = .ok (.ifCond .eq 10, 3) := by decide +kernel
theorem dX0_floodRow_111 : decode cX0_floodRow 111 = .ok (.iload 5, 2) := by decide +kernel
theorem dX0_floodRow_113 : decode cX0_floodRow 113 = .ok (.iload_n 2, 1) := by decide +kernel
theorem dX0_floodRow_114 : decode cX0_floodRow 114 = .ok (.iadd, 1) := by decide +kernel
theorem dX0_floodRow_115 : decode cX0_floodRow 115 = .ok (.goto 5, 3) := by decide +kernel
theorem dX0_floodRow_118 : decode cX0_floodRow 118 = .ok (.bipush (-2), 2) := by decide +kernel
theorem dX0_floodRow_120 : decode cX0_floodRow 120 = .ok (.invokevirtual 117, 3) := by decide +kernel
theorem dX0_floodRow_123 : decode cX0_floodRow 123 = .ok (.iinc 4 (-1), 3) := by decide +kernel
theorem dX0_floodRow_126 : decode cX0_floodRow 126 = .ok (.goto (-118), 3) := by decide +kernel
theorem dX0_floodRow_129 : decode cX0_floodRow 129 = .ok (.return_, 1) := by decide +kernel
theorem dX0_carryOff_0 : decode cX0_carryOff 0 = .ok (.aload_n 0, 1) := by decide +kernel
theorem dX0_carryOff_1 : decode cX0_carryOff 1 = .ok (.getfield 15, 3) := by decide +kernel
theorem dX0_carryOff_4 : decode cX0_carryOff 4 = .ok (.iload_n 1, 1) := by decide +kernel
theorem dX0_carryOff_5 : decode cX0_carryOff 5 = .ok (.iaload, 1) := by decide +kernel
theorem dX0_carryOff_6 : decode cX0_carryOff 6 = .ok (.istore 4, 2) := by decide +kernel
theorem dX0_carryOff_8 : decode cX0_carryOff 8 = .ok (.iload 4, 2) := by decide +kernel
theorem dX0_carryOff_10 : decode cX0_carryOff 10 = .ok (.istore 5, 2) := by decide +kernel
theorem dX0_carryOff_12 : decode cX0_carryOff 12 = .ok (.iconst 1, 1) := by decide +kernel
theorem dX0_carryOff_13 : decode cX0_carryOff 13 = .ok (.istore 6, 2) := by decide +kernel
theorem dX0_carryOff_15 : decode cX0_carryOff 15 = .ok (.iload 6, 2) := by decide +kernel
theorem dX0_carryOff_17 : decode cX0_carryOff 17 = .ok (.iload_n 2, 1) := by decide +kernel
theorem dX0_carryOff_18 : decode cX0_carryOff 18 = .ok (.if_icmp .ge 23, 3) := by decide +kernel
theorem dX0_carryOff_21 : decode cX0_carryOff 21 = .ok (.iload 5, 2) := by decide +kernel
theorem dX0_carryOff_23 : decode cX0_carryOff 23 = .ok (.ifCond .lt 18, 3) := by decide +kernel
theorem dX0_carryOff_26 : decode cX0_carryOff 26 = .ok (.aload_n 0, 1) := by decide +kernel
theorem dX0_carryOff_27 : decode cX0_carryOff 27 = .ok (.getfield 21, 3) := by decide +kernel
theorem dX0_carryOff_30 : decode cX0_carryOff 30 = .ok (.iload 5, 2) := by decide +kernel
theorem dX0_carryOff_32 : decode cX0_carryOff 32 = .ok (.iaload, 1) := by decide +kernel
theorem dX0_carryOff_33 : decode cX0_carryOff 33 = .ok (.istore 5, 2) := by decide +kernel
theorem dX0_carryOff_35 : decode cX0_carryOff 35 = .ok (.iinc 6 1, 3) := by decide +kernel
theorem dX0_carryOff_38 : decode cX0_carryOff 38 = .ok (.goto (-23), 3) := by decide +kernel
theorem dX0_carryOff_41 : decode cX0_carryOff 41 = .ok (.iload 5, 2) := by decide +kernel
theorem dX0_carryOff_43 : decode cX0_carryOff 43 = .ok (.ifCond .ge 4, 3) := by decide +kernel
theorem dX0_carryOff_46 : decode cX0_carryOff 46 = .ok (.return_, 1) := by decide +kernel
theorem dX0_carryOff_47 : decode cX0_carryOff 47 = .ok (.aload_n 0, 1) := by decide +kernel
theorem dX0_carryOff_48 : decode cX0_carryOff 48 = .ok (.getfield 15, 3) := by decide +kernel
theorem dX0_carryOff_51 : decode cX0_carryOff 51 = .ok (.iload_n 1, 1) := by decide +kernel
theorem dX0_carryOff_52 : decode cX0_carryOff 52 = .ok (.aload_n 0, 1) := by decide +kernel
theorem dX0_carryOff_53 : decode cX0_carryOff 53 = .ok (.getfield 21, 3) := by decide +kernel
theorem dX0_carryOff_56 : decode cX0_carryOff 56 = .ok (.iload 5, 2) := by decide +kernel
theorem dX0_carryOff_58 : decode cX0_carryOff 58 = .ok (.iaload, 1) := by decide +kernel
theorem dX0_carryOff_59 : decode cX0_carryOff 59 = .ok (.iastore, 1) := by decide +kernel
theorem dX0_carryOff_60 : decode cX0_carryOff 60 = .ok (.aload_n 0, 1) := by decide +kernel
theorem dX0_carryOff_61 : decode cX0_carryOff 61 = .ok (.getfield 9, 3) := by decide +kernel
theorem dX0_carryOff_64 : decode cX0_carryOff 64 = .ok (.iload_n 1, 1) := by decide +kernel
theorem dX0_carryOff_65 : decode cX0_carryOff 65 = .ok (.dup2, 1) := by decide +kernel
theorem dX0_carryOff_66 : decode cX0_carryOff 66 = .ok (.iaload, 1) := by decide +kernel
theorem dX0_carryOff_67 : decode cX0_carryOff 67 = .ok (.iload_n 2, 1) := by decide +kernel
theorem dX0_carryOff_68 : decode cX0_carryOff 68 = .ok (.isub, 1) := by decide +kernel
theorem dX0_carryOff_69 : decode cX0_carryOff 69 = .ok (.iastore, 1) := by decide +kernel
theorem dX0_carryOff_70 : decode cX0_carryOff 70 = .ok (.aload_n 0, 1) := by decide +kernel
theorem dX0_carryOff_71 : decode cX0_carryOff 71 = .ok (.getfield 18, 3) := by decide +kernel
theorem dX0_carryOff_74 : decode cX0_carryOff 74 = .ok (.iload_n 1, 1) := by decide +kernel
theorem dX0_carryOff_75 : decode cX0_carryOff 75 = .ok (.aload_n 0, 1) := by decide +kernel
theorem dX0_carryOff_76 : decode cX0_carryOff 76 = .ok (.getfield 30, 3) := by decide +kernel
theorem dX0_carryOff_79 : decode cX0_carryOff 79 = .ok (.iconst 1, 1) := by decide +kernel
theorem dX0_carryOff_80 : decode cX0_carryOff 80 = .ok (.iadd, 1) := by decide +kernel
theorem dX0_carryOff_81 : decode cX0_carryOff 81 = .ok (.iastore, 1) := by decide +kernel
theorem dX0_carryOff_82 : decode cX0_carryOff 82 = .ok (.iload_n 3, 1) := by decide +kernel
theorem dX0_carryOff_83 : decode cX0_carryOff 83 = .ok (.bipush (-2), 2) := by decide +kernel
theorem dX0_carryOff_85 : decode cX0_carryOff 85 = .ok (.if_icmp .ne 13, 3) := by decide +kernel
theorem dX0_carryOff_88 : decode cX0_carryOff 88 = .ok (.aload_n 0, 1) := by decide +kernel
theorem dX0_carryOff_89 : decode cX0_carryOff 89 = .ok (.iload 4, 2) := by decide +kernel
theorem dX0_carryOff_91 : decode cX0_carryOff 91 = .ok (.iload_n 2, 1) := by decide +kernel
theorem dX0_carryOff_92 : decode cX0_carryOff 92 = .ok (.invokevirtual 121, 3) := by decide +kernel
theorem dX0_carryOff_95 : decode cX0_carryOff 95 = .ok (.goto 19, 3) := by decide +kernel
theorem dX0_carryOff_98 : decode cX0_carryOff 98 = .ok (.aload_n 0, 1) := by decide +kernel
theorem dX0_carryOff_99 : decode cX0_carryOff 99 = .ok (.iload_n 3, 1) := by decide +kernel
theorem dX0_carryOff_100 : decode cX0_carryOff 100 = .ok (.iload 4, 2) := by decide +kernel
theorem dX0_carryOff_102 : decode cX0_carryOff 102 = .ok (.iload 5, 2) := by decide +kernel
theorem dX0_carryOff_104 : decode cX0_carryOff 104 = .ok (.iload_n 2, 1) := by decide +kernel
theorem dX0_carryOff_105 : decode cX0_carryOff 105 = .ok (.aload_n 0, 1) := by decide +kernel
theorem dX0_carryOff_106 : decode cX0_carryOff 106 = .ok (.getfield 30, 3) := by decide +kernel
theorem dX0_carryOff_109 : decode cX0_carryOff 109 = .ok (.iconst 1, 1) := by decide +kernel
theorem dX0_carryOff_110 : decode cX0_carryOff 110 = .ok (.iadd, 1) := by decide +kernel
theorem dX0_carryOff_111 : decode cX0_carryOff 111 = .ok (.invokevirtual 69, 3) := by decide +kernel
theorem dX0_carryOff_114 : decode cX0_carryOff 114 = .ok (.return_, 1) := by decide +kernel
theorem dX0_layOn_0 : decode cX0_layOn 0 = .ok (.aload_n 0, 1) := by decide +kernel
theorem dX0_layOn_1 : decode cX0_layOn 1 = .ok (.getfield 21, 3) := by decide +kernel
theorem dX0_layOn_4 : decode cX0_layOn 4 = .ok (.iload_n 3, 1) := by decide +kernel
theorem dX0_layOn_5 : decode cX0_layOn 5 = .ok (.aload_n 0, 1) := by decide +kernel
theorem dX0_layOn_6 : decode cX0_layOn 6 = .ok (.getfield 15, 3) := by decide +kernel
theorem dX0_layOn_9 : decode cX0_layOn 9 = .ok (.iload_n 1, 1) := by decide +kernel
theorem dX0_layOn_10 : decode cX0_layOn 10 = .ok (.iaload, 1) := by decide +kernel
theorem dX0_layOn_11 : decode cX0_layOn 11 = .ok (.iastore, 1) := by decide +kernel
theorem dX0_layOn_12 : decode cX0_layOn 12 = .ok (.aload_n 0, 1) := by decide +kernel
theorem dX0_layOn_13 : decode cX0_layOn 13 = .ok (.getfield 15, 3) := by decide +kernel
theorem dX0_layOn_16 : decode cX0_layOn 16 = .ok (.iload_n 1, 1) := by decide +kernel
theorem dX0_layOn_17 : decode cX0_layOn 17 = .ok (.iload_n 2, 1) := by decide +kernel
theorem dX0_layOn_18 : decode cX0_layOn 18 = .ok (.iastore, 1) := by decide +kernel
theorem dX0_layOn_19 : decode cX0_layOn 19 = .ok (.aload_n 0, 1) := by decide +kernel
theorem dX0_layOn_20 : decode cX0_layOn 20 = .ok (.getfield 9, 3) := by decide +kernel
theorem dX0_layOn_23 : decode cX0_layOn 23 = .ok (.iload_n 1, 1) := by decide +kernel
theorem dX0_layOn_24 : decode cX0_layOn 24 = .ok (.dup2, 1) := by decide +kernel
theorem dX0_layOn_25 : decode cX0_layOn 25 = .ok (.iaload, 1) := by decide +kernel
theorem dX0_layOn_26 : decode cX0_layOn 26 = .ok (.iload 4, 2) := by decide +kernel
theorem dX0_layOn_28 : decode cX0_layOn 28 = .ok (.iadd, 1) := by decide +kernel
theorem dX0_layOn_29 : decode cX0_layOn 29 = .ok (.iastore, 1) := by decide +kernel
theorem dX0_layOn_30 : decode cX0_layOn 30 = .ok (.aload_n 0, 1) := by decide +kernel
theorem dX0_layOn_31 : decode cX0_layOn 31 = .ok (.getfield 18, 3) := by decide +kernel
theorem dX0_layOn_34 : decode cX0_layOn 34 = .ok (.iload_n 1, 1) := by decide +kernel
theorem dX0_layOn_35 : decode cX0_layOn 35 = .ok (.iload 5, 2) := by decide +kernel
theorem dX0_layOn_37 : decode cX0_layOn 37 = .ok (.iastore, 1) := by decide +kernel
theorem dX0_layOn_38 : decode cX0_layOn 38 = .ok (.return_, 1) := by decide +kernel
theorem dX0_lose_0 : decode cX0_lose 0 = .ok (.iload_n 1, 1) := by decide +kernel
theorem dX0_lose_1 : decode cX0_lose 1 = .ok (.istore_n 3, 1) := by decide +kernel
theorem dX0_lose_2 : decode cX0_lose 2 = .ok (.iconst 0, 1) := by decide +kernel
theorem dX0_lose_3 : decode cX0_lose 3 = .ok (.istore 4, 2) := by decide +kernel
theorem dX0_lose_5 : decode cX0_lose 5 = .ok (.iload 4, 2) := by decide +kernel
theorem dX0_lose_7 : decode cX0_lose 7 = .ok (.iload_n 2, 1) := by decide +kernel
theorem dX0_lose_8 : decode cX0_lose 8 = .ok (.if_icmp .ge 33, 3) := by decide +kernel
theorem dX0_lose_11 : decode cX0_lose 11 = .ok (.iload_n 3, 1) := by decide +kernel
theorem dX0_lose_12 : decode cX0_lose 12 = .ok (.ifCond .lt 29, 3) := by decide +kernel
theorem dX0_lose_15 : decode cX0_lose 15 = .ok (.aload_n 0, 1) := by decide +kernel
theorem dX0_lose_16 : decode cX0_lose 16 = .ok (.getfield 27, 3) := by decide +kernel
theorem dX0_lose_19 : decode cX0_lose 19 = .ok (.iload_n 3, 1) := by decide +kernel
theorem dX0_lose_20 : decode cX0_lose 20 = .ok (.bipush 9, 2) := by decide +kernel
theorem dX0_lose_22 : decode cX0_lose 22 = .ok (.idiv, 1) := by decide +kernel
theorem dX0_lose_23 : decode cX0_lose 23 = .ok (.dup2, 1) := by decide +kernel
theorem dX0_lose_24 : decode cX0_lose 24 = .ok (.iaload, 1) := by decide +kernel
theorem dX0_lose_25 : decode cX0_lose 25 = .ok (.iconst 1, 1) := by decide +kernel
theorem dX0_lose_26 : decode cX0_lose 26 = .ok (.iadd, 1) := by decide +kernel
theorem dX0_lose_27 : decode cX0_lose 27 = .ok (.iastore, 1) := by decide +kernel
theorem dX0_lose_28 : decode cX0_lose 28 = .ok (.aload_n 0, 1) := by decide +kernel
theorem dX0_lose_29 : decode cX0_lose 29 = .ok (.getfield 21, 3) := by decide +kernel
theorem dX0_lose_32 : decode cX0_lose 32 = .ok (.iload_n 3, 1) := by decide +kernel
theorem dX0_lose_33 : decode cX0_lose 33 = .ok (.iaload, 1) := by decide +kernel
theorem dX0_lose_34 : decode cX0_lose 34 = .ok (.istore_n 3, 1) := by decide +kernel
theorem dX0_lose_35 : decode cX0_lose 35 = .ok (.iinc 4 1, 3) := by decide +kernel
theorem dX0_lose_38 : decode cX0_lose 38 = .ok (.goto (-33), 3) := by decide +kernel
theorem dX0_lose_41 : decode cX0_lose 41 = .ok (.return_, 1) := by decide +kernel
theorem dX0_mossAt_0 : decode cX0_mossAt 0 = .ok (.aload_n 0, 1) := by decide +kernel
theorem dX0_mossAt_1 : decode cX0_mossAt 1 = .ok (.iload_n 1, 1) := by decide +kernel
theorem dX0_mossAt_2 : decode cX0_mossAt 2 = .ok (.aload_n 0, 1) := by decide +kernel
theorem dX0_mossAt_3 : decode cX0_mossAt 3 = .ok (.getfield 30, 3) := by decide +kernel
theorem dX0_mossAt_6 : decode cX0_mossAt 6 = .ok (.invokevirtual 93, 3) := by decide +kernel
theorem dX0_mossAt_9 : decode cX0_mossAt 9 = .ok (.ireturn, 1) := by decide +kernel
theorem dX0_mossOn_0 : decode cX0_mossOn 0 = .ok (.aload_n 0, 1) := by decide +kernel
theorem dX0_mossOn_1 : decode cX0_mossOn 1 = .ok (.getfield 9, 3) := by decide +kernel
theorem dX0_mossOn_4 : decode cX0_mossOn 4 = .ok (.iload_n 1, 1) := by decide +kernel
theorem dX0_mossOn_5 : decode cX0_mossOn 5 = .ok (.iaload, 1) := by decide +kernel
theorem dX0_mossOn_6 : decode cX0_mossOn 6 = .ok (.ifCond .ne 7, 3) := by decide +kernel
theorem dX0_mossOn_9 : decode cX0_mossOn 9 = .ok (.iconst 0, 1) := by decide +kernel
theorem dX0_mossOn_10 : decode cX0_mossOn 10 = .ok (.goto 16, 3) := by decide +kernel
theorem dX0_mossOn_13 : decode cX0_mossOn 13 = .ok (.bipush 99, 2) := by decide +kernel
theorem dX0_mossOn_15 : decode cX0_mossOn 15 = .ok (.iload_n 2, 1) := by decide +kernel
theorem dX0_mossOn_16 : decode cX0_mossOn 16 = .ok (.aload_n 0, 1) := by decide +kernel
theorem dX0_mossOn_17 : decode cX0_mossOn 17 = .ok (.getfield 18, 3) := by decide +kernel
theorem dX0_mossOn_20 : decode cX0_mossOn 20 = .ok (.iload_n 1, 1) := by decide +kernel
theorem dX0_mossOn_21 : decode cX0_mossOn 21 = .ok (.iaload, 1) := by decide +kernel
theorem dX0_mossOn_22 : decode cX0_mossOn 22 = .ok (.isub, 1) := by decide +kernel
theorem dX0_mossOn_23 : decode cX0_mossOn 23 = .ok (.invokestatic 109, 3) := by decide +kernel
theorem dX0_mossOn_26 : decode cX0_mossOn 26 = .ok (.ireturn, 1) := by decide +kernel
theorem dX0_isStep_0 : decode cX0_isStep 0 = .ok (.aload_n 0, 1) := by decide +kernel
theorem dX0_isStep_1 : decode cX0_isStep 1 = .ok (.getfield 9, 3) := by decide +kernel
theorem dX0_isStep_4 : decode cX0_isStep 4 = .ok (.iload_n 2, 1) := by decide +kernel
theorem dX0_isStep_5 : decode cX0_isStep 5 = .ok (.iaload, 1) := by decide +kernel
theorem dX0_isStep_6 : decode cX0_isStep 6 = .ok (.aload_n 1, 1) := by decide +kernel
theorem dX0_isStep_7 : decode cX0_isStep 7 = .ok (.getfield 100, 3) := by decide +kernel
theorem dX0_isStep_10 : decode cX0_isStep 10 = .ok (.iload_n 2, 1) := by decide +kernel
theorem dX0_isStep_11 : decode cX0_isStep 11 = .ok (.iaload, 1) := by decide +kernel
theorem dX0_isStep_12 : decode cX0_isStep 12 = .ok (.if_icmp .lt 7, 3) := by decide +kernel
theorem dX0_isStep_15 : decode cX0_isStep 15 = .ok (.iconst 1, 1) := by decide +kernel
theorem dX0_isStep_16 : decode cX0_isStep 16 = .ok (.goto 4, 3) := by decide +kernel
theorem dX0_isStep_19 : decode cX0_isStep 19 = .ok (.iconst 0, 1) := by decide +kernel
theorem dX0_isStep_20 : decode cX0_isStep 20 = .ok (.ireturn, 1) := by decide +kernel
theorem dX0_slippery_0 : decode cX0_slippery 0 = .ok (.aload_n 1, 1) := by decide +kernel
theorem dX0_slippery_1 : decode cX0_slippery 1 = .ok (.getfield 125, 3) := by decide +kernel
theorem dX0_slippery_4 : decode cX0_slippery 4 = .ok (.aload_n 0, 1) := by decide +kernel
theorem dX0_slippery_5 : decode cX0_slippery 5 = .ok (.getfield 9, 3) := by decide +kernel
theorem dX0_slippery_8 : decode cX0_slippery 8 = .ok (.iload_n 2, 1) := by decide +kernel
theorem dX0_slippery_9 : decode cX0_slippery 9 = .ok (.iaload, 1) := by decide +kernel
theorem dX0_slippery_10 : decode cX0_slippery 10 = .ok (.aload_n 1, 1) := by decide +kernel
theorem dX0_slippery_11 : decode cX0_slippery 11 = .ok (.getfield 100, 3) := by decide +kernel
theorem dX0_slippery_14 : decode cX0_slippery 14 = .ok (.iload_n 2, 1) := by decide +kernel
theorem dX0_slippery_15 : decode cX0_slippery 15 = .ok (.iaload, 1) := by decide +kernel
theorem dX0_slippery_16 : decode cX0_slippery 16 = .ok (.iconst 0, 1) := by decide +kernel
theorem dX0_slippery_17 : decode cX0_slippery 17 = .ok (.aload_n 0, 1) := by decide +kernel
theorem dX0_slippery_18 : decode cX0_slippery 18 = .ok (.iload_n 2, 1) := by decide +kernel
theorem dX0_slippery_19 : decode cX0_slippery 19 = .ok (.invokevirtual 128, 3) := by decide +kernel
theorem dX0_slippery_22 : decode cX0_slippery 22 = .ok (.iload_n 2, 1) := by decide +kernel
theorem dX0_slippery_23 : decode cX0_slippery 23 = .ok (.bipush 12, 2) := by decide +kernel
theorem dX0_slippery_25 : decode cX0_slippery 25 = .ok (.idiv, 1) := by decide +kernel
theorem dX0_slippery_26 : decode cX0_slippery 26 = .ok (.iload_n 2, 1) := by decide +kernel
theorem dX0_slippery_27 : decode cX0_slippery 27 = .ok (.bipush 12, 2) := by decide +kernel
theorem dX0_slippery_29 : decode cX0_slippery 29 = .ok (.irem, 1) := by decide +kernel
theorem dX0_slippery_30 : decode cX0_slippery 30 = .ok (.invokevirtual 103, 3) := by decide +kernel
theorem dX0_slippery_33 : decode cX0_slippery 33 = .ok (.istore_n 3, 1) := by decide +kernel
theorem dX0_slippery_34 : decode cX0_slippery 34 = .ok (.iconst 0, 1) := by decide +kernel
theorem dX0_slippery_35 : decode cX0_slippery 35 = .ok (.iload_n 3, 1) := by decide +kernel
theorem dX0_slippery_36 : decode cX0_slippery 36 = .ok (.bipush 100, 2) := by decide +kernel
theorem dX0_slippery_38 : decode cX0_slippery 38 = .ok (.invokestatic 109, 3) := by decide +kernel
theorem dX0_slippery_41 : decode cX0_slippery 41 = .ok (.invokestatic 114, 3) := by decide +kernel
theorem dX0_slippery_44 : decode cX0_slippery 44 = .ok (.ireturn, 1) := by decide +kernel
theorem dX0_ownerAt_0 : decode cX0_ownerAt 0 = .ok (.aload_n 0, 1) := by decide +kernel
theorem dX0_ownerAt_1 : decode cX0_ownerAt 1 = .ok (.getfield 15, 3) := by decide +kernel
theorem dX0_ownerAt_4 : decode cX0_ownerAt 4 = .ok (.iload_n 1, 1) := by decide +kernel
theorem dX0_ownerAt_5 : decode cX0_ownerAt 5 = .ok (.iaload, 1) := by decide +kernel
theorem dX0_ownerAt_6 : decode cX0_ownerAt 6 = .ok (.istore_n 3, 1) := by decide +kernel
theorem dX0_ownerAt_7 : decode cX0_ownerAt 7 = .ok (.aload_n 0, 1) := by decide +kernel
theorem dX0_ownerAt_8 : decode cX0_ownerAt 8 = .ok (.getfield 9, 3) := by decide +kernel
theorem dX0_ownerAt_11 : decode cX0_ownerAt 11 = .ok (.iload_n 1, 1) := by decide +kernel
theorem dX0_ownerAt_12 : decode cX0_ownerAt 12 = .ok (.iaload, 1) := by decide +kernel
theorem dX0_ownerAt_13 : decode cX0_ownerAt 13 = .ok (.iconst 1, 1) := by decide +kernel
theorem dX0_ownerAt_14 : decode cX0_ownerAt 14 = .ok (.isub, 1) := by decide +kernel
theorem dX0_ownerAt_15 : decode cX0_ownerAt 15 = .ok (.istore 4, 2) := by decide +kernel
theorem dX0_ownerAt_17 : decode cX0_ownerAt 17 = .ok (.iload 4, 2) := by decide +kernel
theorem dX0_ownerAt_19 : decode cX0_ownerAt 19 = .ok (.iload_n 2, 1) := by decide +kernel
theorem dX0_ownerAt_20 : decode cX0_ownerAt 20 = .ok (.if_icmp .le 20, 3) := by decide +kernel
theorem dX0_ownerAt_23 : decode cX0_ownerAt 23 = .ok (.iload_n 3, 1) := by decide +kernel
theorem dX0_ownerAt_24 : decode cX0_ownerAt 24 = .ok (.ifCond .lt 16, 3) := by decide +kernel
theorem dX0_ownerAt_27 : decode cX0_ownerAt 27 = .ok (.aload_n 0, 1) := by decide +kernel
theorem dX0_ownerAt_28 : decode cX0_ownerAt 28 = .ok (.getfield 21, 3) := by decide +kernel
theorem dX0_ownerAt_31 : decode cX0_ownerAt 31 = .ok (.iload_n 3, 1) := by decide +kernel
theorem dX0_ownerAt_32 : decode cX0_ownerAt 32 = .ok (.iaload, 1) := by decide +kernel
theorem dX0_ownerAt_33 : decode cX0_ownerAt 33 = .ok (.istore_n 3, 1) := by decide +kernel
theorem dX0_ownerAt_34 : decode cX0_ownerAt 34 = .ok (.iinc 4 (-1), 3) := by decide +kernel
theorem dX0_ownerAt_37 : decode cX0_ownerAt 37 = .ok (.goto (-20), 3) := by decide +kernel
theorem dX0_ownerAt_40 : decode cX0_ownerAt 40 = .ok (.iload_n 3, 1) := by decide +kernel
theorem dX0_ownerAt_41 : decode cX0_ownerAt 41 = .ok (.ifCond .ge 7, 3) := by decide +kernel
theorem dX0_ownerAt_44 : decode cX0_ownerAt 44 = .ok (.iconst (-1), 1) := by decide +kernel
theorem dX0_ownerAt_45 : decode cX0_ownerAt 45 = .ok (.goto 7, 3) := by decide +kernel
theorem dX0_ownerAt_48 : decode cX0_ownerAt 48 = .ok (.iload_n 3, 1) := by decide +kernel
theorem dX0_ownerAt_49 : decode cX0_ownerAt 49 = .ok (.bipush 9, 2) := by decide +kernel
theorem dX0_ownerAt_51 : decode cX0_ownerAt 51 = .ok (.idiv, 1) := by decide +kernel
theorem dX0_ownerAt_52 : decode cX0_ownerAt 52 = .ok (.ireturn, 1) := by decide +kernel
theorem dX0_countOf_0 : decode cX0_countOf 0 = .ok (.iconst 0, 1) := by decide +kernel
theorem dX0_countOf_1 : decode cX0_countOf 1 = .ok (.istore_n 3, 1) := by decide +kernel
theorem dX0_countOf_2 : decode cX0_countOf 2 = .ok (.aload_n 0, 1) := by decide +kernel
theorem dX0_countOf_3 : decode cX0_countOf 3 = .ok (.getfield 15, 3) := by decide +kernel
theorem dX0_countOf_6 : decode cX0_countOf 6 = .ok (.iload_n 2, 1) := by decide +kernel
theorem dX0_countOf_7 : decode cX0_countOf 7 = .ok (.iaload, 1) := by decide +kernel
theorem dX0_countOf_8 : decode cX0_countOf 8 = .ok (.istore 4, 2) := by decide +kernel
theorem dX0_countOf_10 : decode cX0_countOf 10 = .ok (.iconst 0, 1) := by decide +kernel
theorem dX0_countOf_11 : decode cX0_countOf 11 = .ok (.istore 5, 2) := by decide +kernel
theorem dX0_countOf_13 : decode cX0_countOf 13 = .ok (.iload 5, 2) := by decide +kernel
theorem dX0_countOf_15 : decode cX0_countOf 15 = .ok (.aload_n 0, 1) := by decide +kernel
theorem dX0_countOf_16 : decode cX0_countOf 16 = .ok (.getfield 9, 3) := by decide +kernel
theorem dX0_countOf_19 : decode cX0_countOf 19 = .ok (.iload_n 2, 1) := by decide +kernel
theorem dX0_countOf_20 : decode cX0_countOf 20 = .ok (.iaload, 1) := by decide +kernel
theorem dX0_countOf_21 : decode cX0_countOf 21 = .ok (.if_icmp .ge 35, 3) := by decide +kernel
theorem dX0_countOf_24 : decode cX0_countOf 24 = .ok (.iload 4, 2) := by decide +kernel
theorem dX0_countOf_26 : decode cX0_countOf 26 = .ok (.ifCond .lt 30, 3) := by decide +kernel
theorem dX0_countOf_29 : decode cX0_countOf 29 = .ok (.iload 4, 2) := by decide +kernel
theorem dX0_countOf_31 : decode cX0_countOf 31 = .ok (.bipush 9, 2) := by decide +kernel
theorem dX0_countOf_33 : decode cX0_countOf 33 = .ok (.idiv, 1) := by decide +kernel
theorem dX0_countOf_34 : decode cX0_countOf 34 = .ok (.iload_n 1, 1) := by decide +kernel
theorem dX0_countOf_35 : decode cX0_countOf 35 = .ok (.if_icmp .ne 6, 3) := by decide +kernel
theorem dX0_countOf_38 : decode cX0_countOf 38 = .ok (.iinc 3 1, 3) := by decide +kernel
theorem dX0_countOf_41 : decode cX0_countOf 41 = .ok (.aload_n 0, 1) := by decide +kernel
theorem dX0_countOf_42 : decode cX0_countOf 42 = .ok (.getfield 21, 3) := by decide +kernel
theorem dX0_countOf_45 : decode cX0_countOf 45 = .ok (.iload 4, 2) := by decide +kernel
theorem dX0_countOf_47 : decode cX0_countOf 47 = .ok (.iaload, 1) := by decide +kernel
theorem dX0_countOf_48 : decode cX0_countOf 48 = .ok (.istore 4, 2) := by decide +kernel
theorem dX0_countOf_50 : decode cX0_countOf 50 = .ok (.iinc 5 1, 3) := by decide +kernel
theorem dX0_countOf_53 : decode cX0_countOf 53 = .ok (.goto (-40), 3) := by decide +kernel
theorem dX0_countOf_56 : decode cX0_countOf 56 = .ok (.iload_n 3, 1) := by decide +kernel
theorem dX0_countOf_57 : decode cX0_countOf 57 = .ok (.ireturn, 1) := by decide +kernel
theorem dX0_countLying_0 : decode cX0_countLying 0 = .ok (.iconst 0, 1) := by decide +kernel
theorem dX0_countLying_1 : decode cX0_countLying 1 = .ok (.istore_n 1, 1) := by decide +kernel
theorem dX0_countLying_2 : decode cX0_countLying 2 = .ok (.iconst 0, 1) := by decide +kernel
theorem dX0_countLying_3 : decode cX0_countLying 3 = .ok (.istore_n 2, 1) := by decide +kernel
theorem dX0_countLying_4 : decode cX0_countLying 4 = .ok (.iload_n 2, 1) := by decide +kernel
theorem dX0_countLying_5 : decode cX0_countLying 5 = .ok (.bipush 8, 2) := by decide +kernel
theorem dX0_countLying_7 : decode cX0_countLying 7 = .ok (.if_icmp .ge 25, 3) := by decide +kernel
theorem dX0_countLying_10 : decode cX0_countLying 10 = .ok (.iload_n 1, 1) := by decide +kernel
theorem dX0_countLying_11 : decode cX0_countLying 11 = .ok (.aload_n 0, 1) := by decide +kernel
theorem dX0_countLying_12 : decode cX0_countLying 12 = .ok (.getfield 24, 3) := by decide +kernel
theorem dX0_countLying_15 : decode cX0_countLying 15 = .ok (.iload_n 2, 1) := by decide +kernel
theorem dX0_countLying_16 : decode cX0_countLying 16 = .ok (.iaload, 1) := by decide +kernel
theorem dX0_countLying_17 : decode cX0_countLying 17 = .ok (.aload_n 0, 1) := by decide +kernel
theorem dX0_countLying_18 : decode cX0_countLying 18 = .ok (.getfield 27, 3) := by decide +kernel
theorem dX0_countLying_21 : decode cX0_countLying 21 = .ok (.iload_n 2, 1) := by decide +kernel
theorem dX0_countLying_22 : decode cX0_countLying 22 = .ok (.iaload, 1) := by decide +kernel
theorem dX0_countLying_23 : decode cX0_countLying 23 = .ok (.isub, 1) := by decide +kernel
theorem dX0_countLying_24 : decode cX0_countLying 24 = .ok (.iadd, 1) := by decide +kernel
theorem dX0_countLying_25 : decode cX0_countLying 25 = .ok (.istore_n 1, 1) := by decide +kernel
theorem dX0_countLying_26 : decode cX0_countLying 26 = .ok (.iinc 2 1, 3) := by decide +kernel
theorem dX0_countLying_29 : decode cX0_countLying 29 = .ok (.goto (-25), 3) := by decide +kernel
theorem dX0_countLying_32 : decode cX0_countLying 32 = .ok (.iload_n 1, 1) := by decide +kernel
theorem dX0_countLying_33 : decode cX0_countLying 33 = .ok (.ireturn, 1) := by decide +kernel
theorem dX0_countLost_0 : decode cX0_countLost 0 = .ok (.iconst 0, 1) := by decide +kernel
theorem dX0_countLost_1 : decode cX0_countLost 1 = .ok (.istore_n 1, 1) := by decide +kernel
theorem dX0_countLost_2 : decode cX0_countLost 2 = .ok (.iconst 0, 1) := by decide +kernel
theorem dX0_countLost_3 : decode cX0_countLost 3 = .ok (.istore_n 2, 1) := by decide +kernel
theorem dX0_countLost_4 : decode cX0_countLost 4 = .ok (.iload_n 2, 1) := by decide +kernel
theorem dX0_countLost_5 : decode cX0_countLost 5 = .ok (.bipush 8, 2) := by decide +kernel
theorem dX0_countLost_7 : decode cX0_countLost 7 = .ok (.if_icmp .ge 18, 3) := by decide +kernel
theorem dX0_countLost_10 : decode cX0_countLost 10 = .ok (.iload_n 1, 1) := by decide +kernel
theorem dX0_countLost_11 : decode cX0_countLost 11 = .ok (.aload_n 0, 1) := by decide +kernel
theorem dX0_countLost_12 : decode cX0_countLost 12 = .ok (.getfield 27, 3) := by decide +kernel
theorem dX0_countLost_15 : decode cX0_countLost 15 = .ok (.iload_n 2, 1) := by decide +kernel
theorem dX0_countLost_16 : decode cX0_countLost 16 = .ok (.iaload, 1) := by decide +kernel
theorem dX0_countLost_17 : decode cX0_countLost 17 = .ok (.iadd, 1) := by decide +kernel
theorem dX0_countLost_18 : decode cX0_countLost 18 = .ok (.istore_n 1, 1) := by decide +kernel
theorem dX0_countLost_19 : decode cX0_countLost 19 = .ok (.iinc 2 1, 3) := by decide +kernel
theorem dX0_countLost_22 : decode cX0_countLost 22 = .ok (.goto (-18), 3) := by decide +kernel
theorem dX0_countLost_25 : decode cX0_countLost 25 = .ok (.iload_n 1, 1) := by decide +kernel
theorem dX0_countLost_26 : decode cX0_countLost 26 = .ok (.ireturn, 1) := by decide +kernel
theorem dX0_countSteps_0 : decode cX0_countSteps 0 = .ok (.iconst 0, 1) := by decide +kernel
theorem dX0_countSteps_1 : decode cX0_countSteps 1 = .ok (.istore_n 2, 1) := by decide +kernel
theorem dX0_countSteps_2 : decode cX0_countSteps 2 = .ok (.iconst 0, 1) := by decide +kernel
theorem dX0_countSteps_3 : decode cX0_countSteps 3 = .ok (.istore_n 3, 1) := by decide +kernel
theorem dX0_countSteps_4 : decode cX0_countSteps 4 = .ok (.iload_n 3, 1) := by decide +kernel
theorem dX0_countSteps_5 : decode cX0_countSteps 5 = .ok (.bipush 96, 2) := by decide +kernel
theorem dX0_countSteps_7 : decode cX0_countSteps 7 = .ok (.if_icmp .ge 36, 3) := by decide +kernel
theorem dX0_countSteps_10 : decode cX0_countSteps 10 = .ok (.aload_n 1, 1) := by decide +kernel
theorem dX0_countSteps_11 : decode cX0_countSteps 11 = .ok (.iload_n 3, 1) := by decide +kernel
theorem dX0_countSteps_12 : decode cX0_countSteps 12 = .ok (.bipush 12, 2) := by decide +kernel
theorem dX0_countSteps_14 : decode cX0_countSteps 14 = .ok (.irem, 1) := by decide +kernel
theorem dX0_countSteps_15 : decode cX0_countSteps 15 = .ok (.iload_n 3, 1) := by decide +kernel
theorem dX0_countSteps_16 : decode cX0_countSteps 16 = .ok (.bipush 12, 2) := by decide +kernel
theorem dX0_countSteps_18 : decode cX0_countSteps 18 = .ok (.idiv, 1) := by decide +kernel
theorem dX0_countSteps_19 : decode cX0_countSteps 19 = .ok (.invokevirtual 62, 3) := by decide +kernel
theorem dX0_countSteps_22 : decode cX0_countSteps 22 = .ok (.ifCond .eq 15, 3) := by decide +kernel
theorem dX0_countSteps_25 : decode cX0_countSteps 25 = .ok (.aload_n 0, 1) := by decide +kernel
theorem dX0_countSteps_26 : decode cX0_countSteps 26 = .ok (.aload_n 1, 1) := by decide +kernel
theorem dX0_countSteps_27 : decode cX0_countSteps 27 = .ok (.iload_n 3, 1) := by decide +kernel
theorem dX0_countSteps_28 : decode cX0_countSteps 28 = .ok (.invokevirtual 132, 3) := by decide +kernel
theorem dX0_countSteps_31 : decode cX0_countSteps 31 = .ok (.ifCond .eq 6, 3) := by decide +kernel
theorem dX0_countSteps_34 : decode cX0_countSteps 34 = .ok (.iinc 2 1, 3) := by decide +kernel
theorem dX0_countSteps_37 : decode cX0_countSteps 37 = .ok (.iinc 3 1, 3) := by decide +kernel
theorem dX0_countSteps_40 : decode cX0_countSteps 40 = .ok (.goto (-36), 3) := by decide +kernel
theorem dX0_countSteps_43 : decode cX0_countSteps 43 = .ok (.iload_n 2, 1) := by decide +kernel
theorem dX0_countSteps_44 : decode cX0_countSteps 44 = .ok (.ireturn, 1) := by decide +kernel
theorem dX0_weighSlippery_0 : decode cX0_weighSlippery 0 = .ok (.iconst 0, 1) := by decide +kernel
theorem dX0_weighSlippery_1 : decode cX0_weighSlippery 1 = .ok (.istore_n 3, 1) := by decide +kernel
theorem dX0_weighSlippery_2 : decode cX0_weighSlippery 2 = .ok (.iload_n 3, 1) := by decide +kernel
theorem dX0_weighSlippery_3 : decode cX0_weighSlippery 3 = .ok (.bipush 96, 2) := by decide +kernel
theorem dX0_weighSlippery_5 : decode cX0_weighSlippery 5 = .ok (.if_icmp .ge 58, 3) := by decide +kernel
theorem dX0_weighSlippery_8 : decode cX0_weighSlippery 8 = .ok (.aload_n 1, 1) := by decide +kernel
theorem dX0_weighSlippery_9 : decode cX0_weighSlippery 9 = .ok (.iload_n 3, 1) := by decide +kernel
theorem dX0_weighSlippery_10 : decode cX0_weighSlippery 10 = .ok (.bipush 12, 2) := by decide +kernel
theorem dX0_weighSlippery_12 : decode cX0_weighSlippery 12 = .ok (.irem, 1) := by decide +kernel
theorem dX0_weighSlippery_13 : decode cX0_weighSlippery 13 = .ok (.iload_n 3, 1) := by decide +kernel
theorem dX0_weighSlippery_14 : decode cX0_weighSlippery 14 = .ok (.bipush 12, 2) := by decide +kernel
theorem dX0_weighSlippery_16 : decode cX0_weighSlippery 16 = .ok (.idiv, 1) := by decide +kernel
theorem dX0_weighSlippery_17 : decode cX0_weighSlippery 17 = .ok (.invokevirtual 62, 3) := by decide +kernel
theorem dX0_weighSlippery_20 : decode cX0_weighSlippery 20 = .ok (.ifCond .eq 16, 3) := by decide +kernel
theorem dX0_weighSlippery_23 : decode cX0_weighSlippery 23 = .ok (.aload_n 0, 1) := by decide +kernel
theorem dX0_weighSlippery_24 : decode cX0_weighSlippery 24 = .ok (.aload_n 1, 1) := by decide +kernel
theorem dX0_weighSlippery_25 : decode cX0_weighSlippery 25 = .ok (.iload_n 3, 1) := by decide +kernel
theorem dX0_weighSlippery_26 : decode cX0_weighSlippery 26 = .ok (.invokevirtual 132, 3) := by decide +kernel
theorem dX0_weighSlippery_29 : decode cX0_weighSlippery 29 = .ok (.ifCond .eq 7, 3) := by decide +kernel
theorem dX0_weighSlippery_32 : decode cX0_weighSlippery 32 = .ok (.iconst 1, 1) := by decide +kernel
theorem dX0_weighSlippery_33 : decode cX0_weighSlippery 33 = .ok (.goto 4, 3) := by decide +kernel
theorem dX0_weighSlippery_36 : decode cX0_weighSlippery 36 = .ok (.iconst 0, 1) := by decide +kernel
theorem dX0_weighSlippery_37 : decode cX0_weighSlippery 37 = .ok (.istore 4, 2) := by decide +kernel
theorem dX0_weighSlippery_39 : decode cX0_weighSlippery 39 = .ok (.aload_n 2, 1) := by decide +kernel
theorem dX0_weighSlippery_40 : decode cX0_weighSlippery 40 = .ok (.iload_n 3, 1) := by decide +kernel
theorem dX0_weighSlippery_41 : decode cX0_weighSlippery 41 = .ok (.iload 4, 2) := by decide +kernel
theorem dX0_weighSlippery_43 : decode cX0_weighSlippery 43 = .ok (.ifCond .eq 12, 3) := by decide +kernel
theorem dX0_weighSlippery_46 : decode cX0_weighSlippery 46 = .ok (.aload_n 0, 1) := by decide +kernel
theorem dX0_weighSlippery_47 : decode cX0_weighSlippery 47 = .ok (.aload_n 1, 1) := by decide +kernel
theorem dX0_weighSlippery_48 : decode cX0_weighSlippery 48 = .ok (.iload_n 3, 1) := by decide +kernel
theorem dX0_weighSlippery_49 : decode cX0_weighSlippery 49 = .ok (.invokevirtual 136, 3) := by decide +kernel
theorem dX0_weighSlippery_52 : decode cX0_weighSlippery 52 = .ok (.goto 4, 3) := by decide +kernel
theorem dX0_weighSlippery_55 : decode cX0_weighSlippery 55 = .ok (.iconst (-1), 1) := by decide +kernel
theorem dX0_weighSlippery_56 : decode cX0_weighSlippery 56 = .ok (.iastore, 1) := by decide +kernel
theorem dX0_weighSlippery_57 : decode cX0_weighSlippery 57 = .ok (.iinc 3 1, 3) := by decide +kernel
theorem dX0_weighSlippery_60 : decode cX0_weighSlippery 60 = .ok (.goto (-58), 3) := by decide +kernel
theorem dX0_weighSlippery_63 : decode cX0_weighSlippery 63 = .ok (.return_, 1) := by decide +kernel
theorem dX0_weighLack_0 : decode cX0_weighLack 0 = .ok (.iconst 0, 1) := by decide +kernel
theorem dX0_weighLack_1 : decode cX0_weighLack 1 = .ok (.istore_n 3, 1) := by decide +kernel
theorem dX0_weighLack_2 : decode cX0_weighLack 2 = .ok (.iload_n 3, 1) := by decide +kernel
theorem dX0_weighLack_3 : decode cX0_weighLack 3 = .ok (.bipush 96, 2) := by decide +kernel
theorem dX0_weighLack_5 : decode cX0_weighLack 5 = .ok (.if_icmp .ge 52, 3) := by decide +kernel
theorem dX0_weighLack_8 : decode cX0_weighLack 8 = .ok (.aload_n 1, 1) := by decide +kernel
theorem dX0_weighLack_9 : decode cX0_weighLack 9 = .ok (.iload_n 3, 1) := by decide +kernel
theorem dX0_weighLack_10 : decode cX0_weighLack 10 = .ok (.bipush 12, 2) := by decide +kernel
theorem dX0_weighLack_12 : decode cX0_weighLack 12 = .ok (.irem, 1) := by decide +kernel
theorem dX0_weighLack_13 : decode cX0_weighLack 13 = .ok (.iload_n 3, 1) := by decide +kernel
theorem dX0_weighLack_14 : decode cX0_weighLack 14 = .ok (.bipush 12, 2) := by decide +kernel
theorem dX0_weighLack_16 : decode cX0_weighLack 16 = .ok (.idiv, 1) := by decide +kernel
theorem dX0_weighLack_17 : decode cX0_weighLack 17 = .ok (.invokevirtual 62, 3) := by decide +kernel
theorem dX0_weighLack_20 : decode cX0_weighLack 20 = .ok (.istore 4, 2) := by decide +kernel
theorem dX0_weighLack_22 : decode cX0_weighLack 22 = .ok (.aload_n 2, 1) := by decide +kernel
theorem dX0_weighLack_23 : decode cX0_weighLack 23 = .ok (.iload_n 3, 1) := by decide +kernel
theorem dX0_weighLack_24 : decode cX0_weighLack 24 = .ok (.iload 4, 2) := by decide +kernel
theorem dX0_weighLack_26 : decode cX0_weighLack 26 = .ok (.ifCond .eq 23, 3) := by decide +kernel
theorem dX0_weighLack_29 : decode cX0_weighLack 29 = .ok (.iconst 0, 1) := by decide +kernel
theorem dX0_weighLack_30 : decode cX0_weighLack 30 = .ok (.aload_n 1, 1) := by decide +kernel
theorem dX0_weighLack_31 : decode cX0_weighLack 31 = .ok (.getfield 100, 3) := by decide +kernel
theorem dX0_weighLack_34 : decode cX0_weighLack 34 = .ok (.iload_n 3, 1) := by decide +kernel
theorem dX0_weighLack_35 : decode cX0_weighLack 35 = .ok (.iaload, 1) := by decide +kernel
theorem dX0_weighLack_36 : decode cX0_weighLack 36 = .ok (.aload_n 0, 1) := by decide +kernel
theorem dX0_weighLack_37 : decode cX0_weighLack 37 = .ok (.getfield 9, 3) := by decide +kernel
theorem dX0_weighLack_40 : decode cX0_weighLack 40 = .ok (.iload_n 3, 1) := by decide +kernel
theorem dX0_weighLack_41 : decode cX0_weighLack 41 = .ok (.iaload, 1) := by decide +kernel
theorem dX0_weighLack_42 : decode cX0_weighLack 42 = .ok (.isub, 1) := by decide +kernel
theorem dX0_weighLack_43 : decode cX0_weighLack 43 = .ok (.invokestatic 114, 3) := by decide +kernel
theorem dX0_weighLack_46 : decode cX0_weighLack 46 = .ok (.goto 4, 3) := by decide +kernel
theorem dX0_weighLack_49 : decode cX0_weighLack 49 = .ok (.iconst (-1), 1) := by decide +kernel
theorem dX0_weighLack_50 : decode cX0_weighLack 50 = .ok (.iastore, 1) := by decide +kernel
theorem dX0_weighLack_51 : decode cX0_weighLack 51 = .ok (.iinc 3 1, 3) := by decide +kernel
theorem dX0_weighLack_54 : decode cX0_weighLack 54 = .ok (.goto (-52), 3) := by decide +kernel
theorem dX0_weighLack_57 : decode cX0_weighLack 57 = .ok (.return_, 1) := by decide +kernel
theorem dX0_weighSteps_0 : decode cX0_weighSteps 0 = .ok (.iconst 0, 1) := by decide +kernel
theorem dX0_weighSteps_1 : decode cX0_weighSteps 1 = .ok (.istore_n 3, 1) := by decide +kernel
theorem dX0_weighSteps_2 : decode cX0_weighSteps 2 = .ok (.iload_n 3, 1) := by decide +kernel
theorem dX0_weighSteps_3 : decode cX0_weighSteps 3 = .ok (.bipush 96, 2) := by decide +kernel
theorem dX0_weighSteps_5 : decode cX0_weighSteps 5 = .ok (.if_icmp .ge 21, 3) := by decide +kernel
theorem dX0_weighSteps_8 : decode cX0_weighSteps 8 = .ok (.aload_n 1, 1) := by decide +kernel
theorem dX0_weighSteps_9 : decode cX0_weighSteps 9 = .ok (.iload_n 3, 1) := by decide +kernel
theorem dX0_weighSteps_10 : decode cX0_weighSteps 10 = .ok (.aload_n 0, 1) := by decide +kernel
theorem dX0_weighSteps_11 : decode cX0_weighSteps 11 = .ok (.getfield 9, 3) := by decide +kernel
theorem dX0_weighSteps_14 : decode cX0_weighSteps 14 = .ok (.iload_n 3, 1) := by decide +kernel
theorem dX0_weighSteps_15 : decode cX0_weighSteps 15 = .ok (.iaload, 1) := by decide +kernel
theorem dX0_weighSteps_16 : decode cX0_weighSteps 16 = .ok (.aload_n 2, 1) := by decide +kernel
theorem dX0_weighSteps_17 : decode cX0_weighSteps 17 = .ok (.invokestatic 139, 3) := by decide +kernel
theorem dX0_weighSteps_20 : decode cX0_weighSteps 20 = .ok (.iinc 3 1, 3) := by decide +kernel
theorem dX0_weighSteps_23 : decode cX0_weighSteps 23 = .ok (.goto (-21), 3) := by decide +kernel
theorem dX0_weighSteps_26 : decode cX0_weighSteps 26 = .ok (.return_, 1) := by decide +kernel
theorem dX0_weighWithout_0 : decode cX0_weighWithout 0 = .ok (.iconst 0, 1) := by decide +kernel
theorem dX0_weighWithout_1 : decode cX0_weighWithout 1 = .ok (.istore 4, 2) := by decide +kernel
theorem dX0_weighWithout_3 : decode cX0_weighWithout 3 = .ok (.iload 4, 2) := by decide +kernel
theorem dX0_weighWithout_5 : decode cX0_weighWithout 5 = .ok (.bipush 96, 2) := by decide +kernel
theorem dX0_weighWithout_7 : decode cX0_weighWithout 7 = .ok (.if_icmp .ge 31, 3) := by decide +kernel
theorem dX0_weighWithout_10 : decode cX0_weighWithout 10 = .ok (.aload_n 1, 1) := by decide +kernel
theorem dX0_weighWithout_11 : decode cX0_weighWithout 11 = .ok (.iload 4, 2) := by decide +kernel
theorem dX0_weighWithout_13 : decode cX0_weighWithout 13 = .ok (.aload_n 0, 1) := by decide +kernel
theorem dX0_weighWithout_14 : decode cX0_weighWithout 14 = .ok (.getfield 9, 3) := by decide +kernel
theorem dX0_weighWithout_17 : decode cX0_weighWithout 17 = .ok (.iload 4, 2) := by decide +kernel
theorem dX0_weighWithout_19 : decode cX0_weighWithout 19 = .ok (.iaload, 1) := by decide +kernel
theorem dX0_weighWithout_20 : decode cX0_weighWithout 20 = .ok (.aload_n 0, 1) := by decide +kernel
theorem dX0_weighWithout_21 : decode cX0_weighWithout 21 = .ok (.iload_n 2, 1) := by decide +kernel
theorem dX0_weighWithout_22 : decode cX0_weighWithout 22 = .ok (.iload 4, 2) := by decide +kernel
theorem dX0_weighWithout_24 : decode cX0_weighWithout 24 = .ok (.invokevirtual 143, 3) := by decide +kernel
theorem dX0_weighWithout_27 : decode cX0_weighWithout 27 = .ok (.isub, 1) := by decide +kernel
theorem dX0_weighWithout_28 : decode cX0_weighWithout 28 = .ok (.aload_n 3, 1) := by decide +kernel
theorem dX0_weighWithout_29 : decode cX0_weighWithout 29 = .ok (.invokestatic 139, 3) := by decide +kernel
theorem dX0_weighWithout_32 : decode cX0_weighWithout 32 = .ok (.iinc 4 1, 3) := by decide +kernel
theorem dX0_weighWithout_35 : decode cX0_weighWithout 35 = .ok (.goto (-32), 3) := by decide +kernel
theorem dX0_weighWithout_38 : decode cX0_weighWithout 38 = .ok (.return_, 1) := by decide +kernel
theorem dX0_weighAlone_0 : decode cX0_weighAlone 0 = .ok (.iconst 0, 1) := by decide +kernel
theorem dX0_weighAlone_1 : decode cX0_weighAlone 1 = .ok (.istore 4, 2) := by decide +kernel
theorem dX0_weighAlone_3 : decode cX0_weighAlone 3 = .ok (.iload 4, 2) := by decide +kernel
theorem dX0_weighAlone_5 : decode cX0_weighAlone 5 = .ok (.bipush 96, 2) := by decide +kernel
theorem dX0_weighAlone_7 : decode cX0_weighAlone 7 = .ok (.if_icmp .ge 23, 3) := by decide +kernel
theorem dX0_weighAlone_10 : decode cX0_weighAlone 10 = .ok (.aload_n 1, 1) := by decide +kernel
theorem dX0_weighAlone_11 : decode cX0_weighAlone 11 = .ok (.iload 4, 2) := by decide +kernel
theorem dX0_weighAlone_13 : decode cX0_weighAlone 13 = .ok (.aload_n 0, 1) := by decide +kernel
theorem dX0_weighAlone_14 : decode cX0_weighAlone 14 = .ok (.iload_n 2, 1) := by decide +kernel
theorem dX0_weighAlone_15 : decode cX0_weighAlone 15 = .ok (.iload 4, 2) := by decide +kernel
theorem dX0_weighAlone_17 : decode cX0_weighAlone 17 = .ok (.invokevirtual 143, 3) := by decide +kernel
theorem dX0_weighAlone_20 : decode cX0_weighAlone 20 = .ok (.aload_n 3, 1) := by decide +kernel
theorem dX0_weighAlone_21 : decode cX0_weighAlone 21 = .ok (.invokestatic 139, 3) := by decide +kernel
theorem dX0_weighAlone_24 : decode cX0_weighAlone 24 = .ok (.iinc 4 1, 3) := by decide +kernel
theorem dX0_weighAlone_27 : decode cX0_weighAlone 27 = .ok (.goto (-24), 3) := by decide +kernel
theorem dX0_weighAlone_30 : decode cX0_weighAlone 30 = .ok (.return_, 1) := by decide +kernel
theorem dX0_weighHeight_0 : decode cX0_weighHeight 0 = .ok (.aload_n 0, 1) := by decide +kernel
theorem dX0_weighHeight_1 : decode cX0_weighHeight 1 = .ok (.iload_n 1, 1) := by decide +kernel
theorem dX0_weighHeight_2 : decode cX0_weighHeight 2 = .ok (.bipush 12, 2) := by decide +kernel
theorem dX0_weighHeight_4 : decode cX0_weighHeight 4 = .ok (.irem, 1) := by decide +kernel
theorem dX0_weighHeight_5 : decode cX0_weighHeight 5 = .ok (.iload_n 1, 1) := by decide +kernel
theorem dX0_weighHeight_6 : decode cX0_weighHeight 6 = .ok (.bipush 12, 2) := by decide +kernel
theorem dX0_weighHeight_8 : decode cX0_weighHeight 8 = .ok (.idiv, 1) := by decide +kernel
theorem dX0_weighHeight_9 : decode cX0_weighHeight 9 = .ok (.invokevirtual 62, 3) := by decide +kernel
theorem dX0_weighHeight_12 : decode cX0_weighHeight 12 = .ok (.ifCond .eq 17, 3) := by decide +kernel
theorem dX0_weighHeight_15 : decode cX0_weighHeight 15 = .ok (.iload_n 2, 1) := by decide +kernel
theorem dX0_weighHeight_16 : decode cX0_weighHeight 16 = .ok (.aload_n 0, 1) := by decide +kernel
theorem dX0_weighHeight_17 : decode cX0_weighHeight 17 = .ok (.getfield 100, 3) := by decide +kernel
theorem dX0_weighHeight_20 : decode cX0_weighHeight 20 = .ok (.iload_n 1, 1) := by decide +kernel
theorem dX0_weighHeight_21 : decode cX0_weighHeight 21 = .ok (.iaload, 1) := by decide +kernel
theorem dX0_weighHeight_22 : decode cX0_weighHeight 22 = .ok (.if_icmp .lt 7, 3) := by decide +kernel
theorem dX0_weighHeight_25 : decode cX0_weighHeight 25 = .ok (.iconst 1, 1) := by decide +kernel
theorem dX0_weighHeight_26 : decode cX0_weighHeight 26 = .ok (.goto 4, 3) := by decide +kernel
theorem dX0_weighHeight_29 : decode cX0_weighHeight 29 = .ok (.iconst 0, 1) := by decide +kernel
theorem dX0_weighHeight_30 : decode cX0_weighHeight 30 = .ok (.istore 4, 2) := by decide +kernel
theorem dX0_weighHeight_32 : decode cX0_weighHeight 32 = .ok (.aload_n 3, 1) := by decide +kernel
theorem dX0_weighHeight_33 : decode cX0_weighHeight 33 = .ok (.iload_n 1, 1) := by decide +kernel
theorem dX0_weighHeight_34 : decode cX0_weighHeight 34 = .ok (.iload 4, 2) := by decide +kernel
theorem dX0_weighHeight_36 : decode cX0_weighHeight 36 = .ok (.ifCond .eq 7, 3) := by decide +kernel
theorem dX0_weighHeight_39 : decode cX0_weighHeight 39 = .ok (.iconst 0, 1) := by decide +kernel
theorem dX0_weighHeight_40 : decode cX0_weighHeight 40 = .ok (.goto 4, 3) := by decide +kernel
theorem dX0_weighHeight_43 : decode cX0_weighHeight 43 = .ok (.iconst (-1), 1) := by decide +kernel
theorem dX0_weighHeight_44 : decode cX0_weighHeight 44 = .ok (.iastore, 1) := by decide +kernel
theorem dX0_weighHeight_45 : decode cX0_weighHeight 45 = .ok (.return_, 1) := by decide +kernel
theorem dX1_init_0 : decode cX1_init 0 = .ok (.aload_n 0, 1) := by decide +kernel
theorem dX1_init_1 : decode cX1_init 1 = .ok (.invokespecial 3, 3) := by decide +kernel
theorem dX1_init_4 : decode cX1_init 4 = .ok (.aload_n 0, 1) := by decide +kernel
theorem dX1_init_5 : decode cX1_init 5 = .ok (.bipush 96, 2) := by decide +kernel
theorem dX1_init_7 : decode cX1_init 7 = .ok (.newarray .int, 2) := by decide +kernel
theorem dX1_init_9 : decode cX1_init 9 = .ok (.putfield 9, 3) := by decide +kernel
theorem dX1_init_12 : decode cX1_init 12 = .ok (.aload_n 0, 1) := by decide +kernel
theorem dX1_init_13 : decode cX1_init 13 = .ok (.bipush 96, 2) := by decide +kernel
theorem dX1_init_15 : decode cX1_init 15 = .ok (.newarray .int, 2) := by decide +kernel
theorem dX1_init_17 : decode cX1_init 17 = .ok (.putfield 15, 3) := by decide +kernel
theorem dX1_init_20 : decode cX1_init 20 = .ok (.aload_n 0, 1) := by decide +kernel
theorem dX1_init_21 : decode cX1_init 21 = .ok (.sipush 192, 3) := by decide +kernel
theorem dX1_init_24 : decode cX1_init 24 = .ok (.newarray .int, 2) := by decide +kernel
theorem dX1_init_26 : decode cX1_init 26 = .ok (.putfield 18, 3) := by decide +kernel
theorem dX1_init_29 : decode cX1_init 29 = .ok (.aload_n 0, 1) := by decide +kernel
theorem dX1_init_30 : decode cX1_init 30 = .ok (.sipush 192, 3) := by decide +kernel
theorem dX1_init_33 : decode cX1_init 33 = .ok (.newarray .int, 2) := by decide +kernel
theorem dX1_init_35 : decode cX1_init 35 = .ok (.putfield 21, 3) := by decide +kernel
theorem dX1_init_38 : decode cX1_init 38 = .ok (.return_, 1) := by decide +kernel
theorem dX1_most_0 : decode cX1_most 0 = .ok (.aload_n 0, 1) := by decide +kernel
theorem dX1_most_1 : decode cX1_most 1 = .ok (.getfield 9, 3) := by decide +kernel
theorem dX1_most_4 : decode cX1_most 4 = .ok (.bipush (-3), 2) := by decide +kernel
theorem dX1_most_6 : decode cX1_most 6 = .ok (.invokestatic 24, 3) := by decide +kernel
theorem dX1_most_9 : decode cX1_most 9 = .ok (.aload_n 0, 1) := by decide +kernel
theorem dX1_most_10 : decode cX1_most 10 = .ok (.getfield 15, 3) := by decide +kernel
theorem dX1_most_13 : decode cX1_most 13 = .ok (.bipush (-3), 2) := by decide +kernel
theorem dX1_most_15 : decode cX1_most 15 = .ok (.invokestatic 24, 3) := by decide +kernel
theorem dX1_most_18 : decode cX1_most 18 = .ok (.iconst 0, 1) := by decide +kernel
theorem dX1_most_19 : decode cX1_most 19 = .ok (.istore_n 3, 1) := by decide +kernel
theorem dX1_most_20 : decode cX1_most 20 = .ok (.iconst 0, 1) := by decide +kernel
theorem dX1_most_21 : decode cX1_most 21 = .ok (.istore 4, 2) := by decide +kernel
theorem dX1_most_23 : decode cX1_most 23 = .ok (.iload 4, 2) := by decide +kernel
theorem dX1_most_25 : decode cX1_most 25 = .ok (.bipush 96, 2) := by decide +kernel
theorem dX1_most_27 : decode cX1_most 27 = .ok (.if_icmp .ge 35, 3) := by decide +kernel
theorem dX1_most_30 : decode cX1_most 30 = .ok (.aload_n 0, 1) := by decide +kernel
theorem dX1_most_31 : decode cX1_most 31 = .ok (.aload_n 1, 1) := by decide +kernel
theorem dX1_most_32 : decode cX1_most 32 = .ok (.aload_n 2, 1) := by decide +kernel
theorem dX1_most_33 : decode cX1_most 33 = .ok (.invokevirtual 30, 3) := by decide +kernel
theorem dX1_most_36 : decode cX1_most 36 = .ok (.istore 5, 2) := by decide +kernel
theorem dX1_most_38 : decode cX1_most 38 = .ok (.iload 5, 2) := by decide +kernel
theorem dX1_most_40 : decode cX1_most 40 = .ok (.iconst (-1), 1) := by decide +kernel
theorem dX1_most_41 : decode cX1_most 41 = .ok (.if_icmp .ne 6, 3) := by decide +kernel
theorem dX1_most_44 : decode cX1_most 44 = .ok (.goto 18, 3) := by decide +kernel
theorem dX1_most_47 : decode cX1_most 47 = .ok (.aload_n 0, 1) := by decide +kernel
theorem dX1_most_48 : decode cX1_most 48 = .ok (.iload 5, 2) := by decide +kernel
theorem dX1_most_50 : decode cX1_most 50 = .ok (.invokevirtual 34, 3) := by decide +kernel
theorem dX1_most_53 : decode cX1_most 53 = .ok (.iinc 3 1, 3) := by decide +kernel
theorem dX1_most_56 : decode cX1_most 56 = .ok (.iinc 4 1, 3) := by decide +kernel
theorem dX1_most_59 : decode cX1_most 59 = .ok (.goto (-36), 3) := by decide +kernel
theorem dX1_most_62 : decode cX1_most 62 = .ok (.iload_n 3, 1) := by decide +kernel
theorem dX1_most_63 : decode cX1_most 63 = .ok (.ireturn, 1) := by decide +kernel
theorem dX1_seek_0 : decode cX1_seek 0 = .ok (.aload_n 0, 1) := by decide +kernel
theorem dX1_seek_1 : decode cX1_seek 1 = .ok (.getfield 18, 3) := by decide +kernel
theorem dX1_seek_4 : decode cX1_seek 4 = .ok (.bipush (-3), 2) := by decide +kernel
theorem dX1_seek_6 : decode cX1_seek 6 = .ok (.invokestatic 24, 3) := by decide +kernel
theorem dX1_seek_9 : decode cX1_seek 9 = .ok (.aload_n 0, 1) := by decide +kernel
theorem dX1_seek_10 : decode cX1_seek 10 = .ok (.iconst 0, 1) := by decide +kernel
theorem dX1_seek_11 : decode cX1_seek 11 = .ok (.putfield 38, 3) := by decide +kernel
theorem dX1_seek_14 : decode cX1_seek 14 = .ok (.iconst 0, 1) := by decide +kernel
theorem dX1_seek_15 : decode cX1_seek 15 = .ok (.istore_n 3, 1) := by decide +kernel
theorem dX1_seek_16 : decode cX1_seek 16 = .ok (.iload_n 3, 1) := by decide +kernel
theorem dX1_seek_17 : decode cX1_seek 17 = .ok (.bipush 96, 2) := by decide +kernel
theorem dX1_seek_19 : decode cX1_seek 19 = .ok (.if_icmp .ge 51, 3) := by decide +kernel
theorem dX1_seek_22 : decode cX1_seek 22 = .ok (.aload_n 2, 1) := by decide +kernel
theorem dX1_seek_23 : decode cX1_seek 23 = .ok (.iload_n 3, 1) := by decide +kernel
theorem dX1_seek_24 : decode cX1_seek 24 = .ok (.iaload, 1) := by decide +kernel
theorem dX1_seek_25 : decode cX1_seek 25 = .ok (.ifCond .lt 25, 3) := by decide +kernel
theorem dX1_seek_28 : decode cX1_seek 28 = .ok (.aload_n 1, 1) := by decide +kernel
theorem dX1_seek_29 : decode cX1_seek 29 = .ok (.iload_n 3, 1) := by decide +kernel
theorem dX1_seek_30 : decode cX1_seek 30 = .ok (.invokevirtual 42, 3) := by decide +kernel
theorem dX1_seek_33 : decode cX1_seek 33 = .ok (.ifCond .eq 17, 3) := by decide +kernel
theorem dX1_seek_36 : decode cX1_seek 36 = .ok (.aload_n 0, 1) := by decide +kernel
theorem dX1_seek_37 : decode cX1_seek 37 = .ok (.getfield 9, 3) := by decide +kernel
theorem dX1_seek_40 : decode cX1_seek 40 = .ok (.iload_n 3, 1) := by decide +kernel
theorem dX1_seek_41 : decode cX1_seek 41 = .ok (.iaload, 1) := by decide +kernel
theorem dX1_seek_42 : decode cX1_seek 42 = .ok (.iconst (-1), 1) := by decide +kernel
theorem dX1_seek_43 : decode cX1_seek 43 = .ok (.if_icmp .eq 7, 3) := by decide +kernel
theorem dX1_seek_46 : decode cX1_seek 46 = .ok (.iconst 1, 1) := by decide +kernel
theorem dX1_seek_47 : decode cX1_seek 47 = .ok (.goto 4, 3) := by decide +kernel
theorem dX1_seek_50 : decode cX1_seek 50 = .ok (.iconst 0, 1) := by decide +kernel
theorem dX1_seek_51 : decode cX1_seek 51 = .ok (.istore 4, 2) := by decide +kernel
theorem dX1_seek_53 : decode cX1_seek 53 = .ok (.iload 4, 2) := by decide +kernel
theorem dX1_seek_55 : decode cX1_seek 55 = .ok (.ifCond .eq 9, 3) := by decide +kernel
theorem dX1_seek_58 : decode cX1_seek 58 = .ok (.aload_n 0, 1) := by decide +kernel
theorem dX1_seek_59 : decode cX1_seek 59 = .ok (.iload_n 3, 1) := by decide +kernel
theorem dX1_seek_60 : decode cX1_seek 60 = .ok (.iconst (-1), 1) := by decide +kernel
theorem dX1_seek_61 : decode cX1_seek 61 = .ok (.invokevirtual 48, 3) := by decide +kernel
theorem dX1_seek_64 : decode cX1_seek 64 = .ok (.iinc 3 1, 3) := by decide +kernel
theorem dX1_seek_67 : decode cX1_seek 67 = .ok (.goto (-51), 3) := by decide +kernel
theorem dX1_seek_70 : decode cX1_seek 70 = .ok (.iconst 0, 1) := by decide +kernel
theorem dX1_seek_71 : decode cX1_seek 71 = .ok (.istore_n 3, 1) := by decide +kernel
theorem dX1_seek_72 : decode cX1_seek 72 = .ok (.iload_n 3, 1) := by decide +kernel
theorem dX1_seek_73 : decode cX1_seek 73 = .ok (.aload_n 0, 1) := by decide +kernel
theorem dX1_seek_74 : decode cX1_seek 74 = .ok (.getfield 38, 3) := by decide +kernel
theorem dX1_seek_77 : decode cX1_seek 77 = .ok (.if_icmp .ge 79, 3) := by decide +kernel
theorem dX1_seek_80 : decode cX1_seek 80 = .ok (.iload_n 3, 1) := by decide +kernel
theorem dX1_seek_81 : decode cX1_seek 81 = .ok (.sipush 192, 3) := by decide +kernel
theorem dX1_seek_84 : decode cX1_seek 84 = .ok (.if_icmp .ge 72, 3) := by decide +kernel
theorem dX1_seek_87 : decode cX1_seek 87 = .ok (.aload_n 0, 1) := by decide +kernel
theorem dX1_seek_88 : decode cX1_seek 88 = .ok (.getfield 21, 3) := by decide +kernel
theorem dX1_seek_91 : decode cX1_seek 91 = .ok (.iload_n 3, 1) := by decide +kernel
theorem dX1_seek_92 : decode cX1_seek 92 = .ok (.iaload, 1) := by decide +kernel
theorem dX1_seek_93 : decode cX1_seek 93 = .ok (.istore 4, 2) := by decide +kernel
theorem dX1_seek_95 : decode cX1_seek 95 = .ok (.iload 4, 2) := by decide +kernel
theorem dX1_seek_97 : decode cX1_seek 97 = .ok (.bipush 96, 2) := by decide +kernel
theorem dX1_seek_99 : decode cX1_seek 99 = .ok (.if_icmp .ge 12, 3) := by decide +kernel
theorem dX1_seek_102 : decode cX1_seek 102 = .ok (.aload_n 0, 1) := by decide +kernel
theorem dX1_seek_103 : decode cX1_seek 103 = .ok (.iload 4, 2) := by decide +kernel
theorem dX1_seek_105 : decode cX1_seek 105 = .ok (.invokevirtual 52, 3) := by decide +kernel
theorem dX1_seek_108 : decode cX1_seek 108 = .ok (.goto 42, 3) := by decide +kernel
theorem dX1_seek_111 : decode cX1_seek 111 = .ok (.iload 4, 2) := by decide +kernel
theorem dX1_seek_113 : decode cX1_seek 113 = .ok (.bipush 96, 2) := by decide +kernel
theorem dX1_seek_115 : decode cX1_seek 115 = .ok (.isub, 1) := by decide +kernel
theorem dX1_seek_116 : decode cX1_seek 116 = .ok (.istore 5, 2) := by decide +kernel
theorem dX1_seek_118 : decode cX1_seek 118 = .ok (.aload_n 1, 1) := by decide +kernel
theorem dX1_seek_119 : decode cX1_seek 119 = .ok (.iload 5, 2) := by decide +kernel
theorem dX1_seek_121 : decode cX1_seek 121 = .ok (.invokevirtual 55, 3) := by decide +kernel
theorem dX1_seek_124 : decode cX1_seek 124 = .ok (.ifCond .eq 18, 3) := by decide +kernel
theorem dX1_seek_127 : decode cX1_seek 127 = .ok (.aload_n 0, 1) := by decide +kernel
theorem dX1_seek_128 : decode cX1_seek 128 = .ok (.getfield 15, 3) := by decide +kernel
theorem dX1_seek_131 : decode cX1_seek 131 = .ok (.iload 5, 2) := by decide +kernel
theorem dX1_seek_133 : decode cX1_seek 133 = .ok (.iaload, 1) := by decide +kernel
theorem dX1_seek_134 : decode cX1_seek 134 = .ok (.bipush (-2), 2) := by decide +kernel
theorem dX1_seek_136 : decode cX1_seek 136 = .ok (.if_icmp .eq 6, 3) := by decide +kernel
theorem dX1_seek_139 : decode cX1_seek 139 = .ok (.iload 5, 2) := by decide +kernel
theorem dX1_seek_141 : decode cX1_seek 141 = .ok (.ireturn, 1) := by decide +kernel
theorem dX1_seek_142 : decode cX1_seek 142 = .ok (.aload_n 0, 1) := by decide +kernel
theorem dX1_seek_143 : decode cX1_seek 143 = .ok (.aload_n 1, 1) := by decide +kernel
theorem dX1_seek_144 : decode cX1_seek 144 = .ok (.aload_n 2, 1) := by decide +kernel
theorem dX1_seek_145 : decode cX1_seek 145 = .ok (.iload 5, 2) := by decide +kernel
theorem dX1_seek_147 : decode cX1_seek 147 = .ok (.invokevirtual 58, 3) := by decide +kernel
theorem dX1_seek_150 : decode cX1_seek 150 = .ok (.iinc 3 1, 3) := by decide +kernel
theorem dX1_seek_153 : decode cX1_seek 153 = .ok (.goto (-81), 3) := by decide +kernel
theorem dX1_seek_156 : decode cX1_seek 156 = .ok (.iconst (-1), 1) := by decide +kernel
theorem dX1_seek_157 : decode cX1_seek 157 = .ok (.ireturn, 1) := by decide +kernel
theorem dX1_comeTo_0 : decode cX1_comeTo 0 = .ok (.aload_n 0, 1) := by decide +kernel
theorem dX1_comeTo_1 : decode cX1_comeTo 1 = .ok (.getfield 15, 3) := by decide +kernel
theorem dX1_comeTo_4 : decode cX1_comeTo 4 = .ok (.iload_n 1, 1) := by decide +kernel
theorem dX1_comeTo_5 : decode cX1_comeTo 5 = .ok (.iaload, 1) := by decide +kernel
theorem dX1_comeTo_6 : decode cX1_comeTo 6 = .ok (.bipush (-3), 2) := by decide +kernel
theorem dX1_comeTo_8 : decode cX1_comeTo 8 = .ok (.if_icmp .ne 15, 3) := by decide +kernel
theorem dX1_comeTo_11 : decode cX1_comeTo 11 = .ok (.aload_n 0, 1) := by decide +kernel
theorem dX1_comeTo_12 : decode cX1_comeTo 12 = .ok (.bipush 96, 2) := by decide +kernel
theorem dX1_comeTo_14 : decode cX1_comeTo 14 = .ok (.iload_n 1, 1) := by decide +kernel
theorem dX1_comeTo_15 : decode cX1_comeTo 15 = .ok (.iadd, 1) := by decide +kernel
theorem dX1_comeTo_16 : decode cX1_comeTo 16 = .ok (.iload_n 1, 1) := by decide +kernel
theorem dX1_comeTo_17 : decode cX1_comeTo 17 = .ok (.invokevirtual 48, 3) := by decide +kernel
theorem dX1_comeTo_20 : decode cX1_comeTo 20 = .ok (.goto 26, 3) := by decide +kernel
theorem dX1_comeTo_23 : decode cX1_comeTo 23 = .ok (.aload_n 0, 1) := by decide +kernel
theorem dX1_comeTo_24 : decode cX1_comeTo 24 = .ok (.getfield 9, 3) := by decide +kernel
theorem dX1_comeTo_27 : decode cX1_comeTo 27 = .ok (.iload_n 1, 1) := by decide +kernel
theorem dX1_comeTo_28 : decode cX1_comeTo 28 = .ok (.iaload, 1) := by decide +kernel
theorem dX1_comeTo_29 : decode cX1_comeTo 29 = .ok (.ifCond .lt 17, 3) := by decide +kernel
theorem dX1_comeTo_32 : decode cX1_comeTo 32 = .ok (.aload_n 0, 1) := by decide +kernel
theorem dX1_comeTo_33 : decode cX1_comeTo 33 = .ok (.bipush 96, 2) := by decide +kernel
theorem dX1_comeTo_35 : decode cX1_comeTo 35 = .ok (.aload_n 0, 1) := by decide +kernel
theorem dX1_comeTo_36 : decode cX1_comeTo 36 = .ok (.getfield 9, 3) := by decide +kernel
theorem dX1_comeTo_39 : decode cX1_comeTo 39 = .ok (.iload_n 1, 1) := by decide +kernel
theorem dX1_comeTo_40 : decode cX1_comeTo 40 = .ok (.iaload, 1) := by decide +kernel
theorem dX1_comeTo_41 : decode cX1_comeTo 41 = .ok (.iadd, 1) := by decide +kernel
theorem dX1_comeTo_42 : decode cX1_comeTo 42 = .ok (.iload_n 1, 1) := by decide +kernel
theorem dX1_comeTo_43 : decode cX1_comeTo 43 = .ok (.invokevirtual 48, 3) := by decide +kernel
theorem dX1_comeTo_46 : decode cX1_comeTo 46 = .ok (.return_, 1) := by decide +kernel
theorem dX1_goOnFrom_0 : decode cX1_goOnFrom 0 = .ok (.aload_n 0, 1) := by decide +kernel
theorem dX1_goOnFrom_1 : decode cX1_goOnFrom 1 = .ok (.getfield 15, 3) := by decide +kernel
theorem dX1_goOnFrom_4 : decode cX1_goOnFrom 4 = .ok (.iload_n 3, 1) := by decide +kernel
theorem dX1_goOnFrom_5 : decode cX1_goOnFrom 5 = .ok (.iaload, 1) := by decide +kernel
theorem dX1_goOnFrom_6 : decode cX1_goOnFrom 6 = .ok (.bipush (-3), 2) := by decide +kernel
theorem dX1_goOnFrom_8 : decode cX1_goOnFrom 8 = .ok (.if_icmp .eq 12, 3) := by decide +kernel
theorem dX1_goOnFrom_11 : decode cX1_goOnFrom 11 = .ok (.aload_n 0, 1) := by decide +kernel
theorem dX1_goOnFrom_12 : decode cX1_goOnFrom 12 = .ok (.iload_n 3, 1) := by decide +kernel
theorem dX1_goOnFrom_13 : decode cX1_goOnFrom 13 = .ok (.bipush 96, 2) := by decide +kernel
theorem dX1_goOnFrom_15 : decode cX1_goOnFrom 15 = .ok (.iload_n 3, 1) := by decide +kernel
theorem dX1_goOnFrom_16 : decode cX1_goOnFrom 16 = .ok (.iadd, 1) := by decide +kernel
theorem dX1_goOnFrom_17 : decode cX1_goOnFrom 17 = .ok (.invokevirtual 48, 3) := by decide +kernel
theorem dX1_goOnFrom_20 : decode cX1_goOnFrom 20 = .ok (.aload_n 1, 1) := by decide +kernel
theorem dX1_goOnFrom_21 : decode cX1_goOnFrom 21 = .ok (.invokevirtual 62, 3) := by decide +kernel
theorem dX1_goOnFrom_24 : decode cX1_goOnFrom 24 = .ok (.istore 4, 2) := by decide +kernel
theorem dX1_goOnFrom_26 : decode cX1_goOnFrom 26 = .ok (.iconst 0, 1) := by decide +kernel
theorem dX1_goOnFrom_27 : decode cX1_goOnFrom 27 = .ok (.istore 5, 2) := by decide +kernel
theorem dX1_goOnFrom_29 : decode cX1_goOnFrom 29 = .ok (.iload 5, 2) := by decide +kernel
theorem dX1_goOnFrom_31 : decode cX1_goOnFrom 31 = .ok (.iload 4, 2) := by decide +kernel
theorem dX1_goOnFrom_33 : decode cX1_goOnFrom 33 = .ok (.if_icmp .ge 52, 3) := by decide +kernel
theorem dX1_goOnFrom_36 : decode cX1_goOnFrom 36 = .ok (.aload_n 1, 1) := by decide +kernel
theorem dX1_goOnFrom_37 : decode cX1_goOnFrom 37 = .ok (.iload_n 3, 1) := by decide +kernel
theorem dX1_goOnFrom_38 : decode cX1_goOnFrom 38 = .ok (.iload 5, 2) := by decide +kernel
theorem dX1_goOnFrom_40 : decode cX1_goOnFrom 40 = .ok (.invokevirtual 66, 3) := by decide +kernel
theorem dX1_goOnFrom_43 : decode cX1_goOnFrom 43 = .ok (.istore 6, 2) := by decide +kernel
theorem dX1_goOnFrom_45 : decode cX1_goOnFrom 45 = .ok (.iload 6, 2) := by decide +kernel
theorem dX1_goOnFrom_47 : decode cX1_goOnFrom 47 = .ok (.iconst (-1), 1) := by decide +kernel
theorem dX1_goOnFrom_48 : decode cX1_goOnFrom 48 = .ok (.if_icmp .eq 31, 3) := by decide +kernel
theorem dX1_goOnFrom_51 : decode cX1_goOnFrom 51 = .ok (.aload_n 2, 1) := by decide +kernel
theorem dX1_goOnFrom_52 : decode cX1_goOnFrom 52 = .ok (.iload 6, 2) := by decide +kernel
theorem dX1_goOnFrom_54 : decode cX1_goOnFrom 54 = .ok (.iaload, 1) := by decide +kernel
theorem dX1_goOnFrom_55 : decode cX1_goOnFrom 55 = .ok (.ifCond .lt 24, 3) := by decide +kernel
theorem dX1_goOnFrom_58 : decode cX1_goOnFrom 58 = .ok (.aload_n 0, 1) := by decide +kernel
theorem dX1_goOnFrom_59 : decode cX1_goOnFrom 59 = .ok (.getfield 15, 3) := by decide +kernel
theorem dX1_goOnFrom_62 : decode cX1_goOnFrom 62 = .ok (.iload_n 3, 1) := by decide +kernel
theorem dX1_goOnFrom_63 : decode cX1_goOnFrom 63 = .ok (.iaload, 1) := by decide +kernel
theorem dX1_goOnFrom_64 : decode cX1_goOnFrom 64 = .ok (.iload 6, 2) := by decide +kernel
theorem dX1_goOnFrom_66 : decode cX1_goOnFrom 66 = .ok (.if_icmp .eq 13, 3) := by decide +kernel
theorem dX1_goOnFrom_69 : decode cX1_goOnFrom 69 = .ok (.aload_n 0, 1) := by decide +kernel
theorem dX1_goOnFrom_70 : decode cX1_goOnFrom 70 = .ok (.iload 6, 2) := by decide +kernel
theorem dX1_goOnFrom_72 : decode cX1_goOnFrom 72 = .ok (.bipush 96, 2) := by decide +kernel
theorem dX1_goOnFrom_74 : decode cX1_goOnFrom 74 = .ok (.iload_n 3, 1) := by decide +kernel
theorem dX1_goOnFrom_75 : decode cX1_goOnFrom 75 = .ok (.iadd, 1) := by decide +kernel
theorem dX1_goOnFrom_76 : decode cX1_goOnFrom 76 = .ok (.invokevirtual 48, 3) := by decide +kernel
theorem dX1_goOnFrom_79 : decode cX1_goOnFrom 79 = .ok (.iinc 5 1, 3) := by decide +kernel
theorem dX1_goOnFrom_82 : decode cX1_goOnFrom 82 = .ok (.goto (-53), 3) := by decide +kernel
theorem dX1_goOnFrom_85 : decode cX1_goOnFrom 85 = .ok (.return_, 1) := by decide +kernel
theorem dX1_reach_0 : decode cX1_reach 0 = .ok (.aload_n 0, 1) := by decide +kernel
theorem dX1_reach_1 : decode cX1_reach 1 = .ok (.getfield 18, 3) := by decide +kernel
theorem dX1_reach_4 : decode cX1_reach 4 = .ok (.iload_n 1, 1) := by decide +kernel
theorem dX1_reach_5 : decode cX1_reach 5 = .ok (.iaload, 1) := by decide +kernel
theorem dX1_reach_6 : decode cX1_reach 6 = .ok (.bipush (-3), 2) := by decide +kernel
theorem dX1_reach_8 : decode cX1_reach 8 = .ok (.if_icmp .eq 4, 3) := by decide +kernel
theorem dX1_reach_11 : decode cX1_reach 11 = .ok (.return_, 1) := by decide +kernel
theorem dX1_reach_12 : decode cX1_reach 12 = .ok (.aload_n 0, 1) := by decide +kernel
theorem dX1_reach_13 : decode cX1_reach 13 = .ok (.getfield 18, 3) := by decide +kernel
theorem dX1_reach_16 : decode cX1_reach 16 = .ok (.iload_n 1, 1) := by decide +kernel
theorem dX1_reach_17 : decode cX1_reach 17 = .ok (.iload_n 2, 1) := by decide +kernel
theorem dX1_reach_18 : decode cX1_reach 18 = .ok (.iastore, 1) := by decide +kernel
theorem dX1_reach_19 : decode cX1_reach 19 = .ok (.aload_n 0, 1) := by decide +kernel
theorem dX1_reach_20 : decode cX1_reach 20 = .ok (.getfield 21, 3) := by decide +kernel
theorem dX1_reach_23 : decode cX1_reach 23 = .ok (.aload_n 0, 1) := by decide +kernel
theorem dX1_reach_24 : decode cX1_reach 24 = .ok (.getfield 38, 3) := by decide +kernel
theorem dX1_reach_27 : decode cX1_reach 27 = .ok (.iload_n 1, 1) := by decide +kernel
theorem dX1_reach_28 : decode cX1_reach 28 = .ok (.iastore, 1) := by decide +kernel
theorem dX1_reach_29 : decode cX1_reach 29 = .ok (.aload_n 0, 1) := by decide +kernel
theorem dX1_reach_30 : decode cX1_reach 30 = .ok (.dup, 1) := by decide +kernel
theorem dX1_reach_31 : decode cX1_reach 31 = .ok (.getfield 38, 3) := by decide +kernel
theorem dX1_reach_34 : decode cX1_reach 34 = .ok (.iconst 1, 1) := by decide +kernel
theorem dX1_reach_35 : decode cX1_reach 35 = .ok (.iadd, 1) := by decide +kernel
theorem dX1_reach_36 : decode cX1_reach 36 = .ok (.putfield 38, 3) := by decide +kernel
theorem dX1_reach_39 : decode cX1_reach 39 = .ok (.return_, 1) := by decide +kernel
theorem dX1_addWay_0 : decode cX1_addWay 0 = .ok (.aload_n 0, 1) := by decide +kernel
theorem dX1_addWay_1 : decode cX1_addWay 1 = .ok (.getfield 15, 3) := by decide +kernel
theorem dX1_addWay_4 : decode cX1_addWay 4 = .ok (.iload_n 1, 1) := by decide +kernel
theorem dX1_addWay_5 : decode cX1_addWay 5 = .ok (.bipush (-2), 2) := by decide +kernel
theorem dX1_addWay_7 : decode cX1_addWay 7 = .ok (.iastore, 1) := by decide +kernel
theorem dX1_addWay_8 : decode cX1_addWay 8 = .ok (.bipush 96, 2) := by decide +kernel
theorem dX1_addWay_10 : decode cX1_addWay 10 = .ok (.iload_n 1, 1) := by decide +kernel
theorem dX1_addWay_11 : decode cX1_addWay 11 = .ok (.iadd, 1) := by decide +kernel
theorem dX1_addWay_12 : decode cX1_addWay 12 = .ok (.istore_n 2, 1) := by decide +kernel
theorem dX1_addWay_13 : decode cX1_addWay 13 = .ok (.iconst 0, 1) := by decide +kernel
theorem dX1_addWay_14 : decode cX1_addWay 14 = .ok (.istore_n 3, 1) := by decide +kernel
theorem dX1_addWay_15 : decode cX1_addWay 15 = .ok (.iload_n 3, 1) := by decide +kernel
theorem dX1_addWay_16 : decode cX1_addWay 16 = .ok (.sipush 192, 3) := by decide +kernel
theorem dX1_addWay_19 : decode cX1_addWay 19 = .ok (.if_icmp .ge 44, 3) := by decide +kernel
theorem dX1_addWay_22 : decode cX1_addWay 22 = .ok (.aload_n 0, 1) := by decide +kernel
theorem dX1_addWay_23 : decode cX1_addWay 23 = .ok (.getfield 18, 3) := by decide +kernel
theorem dX1_addWay_26 : decode cX1_addWay 26 = .ok (.iload_n 2, 1) := by decide +kernel
theorem dX1_addWay_27 : decode cX1_addWay 27 = .ok (.iaload, 1) := by decide +kernel
theorem dX1_addWay_28 : decode cX1_addWay 28 = .ok (.istore 4, 2) := by decide +kernel
theorem dX1_addWay_30 : decode cX1_addWay 30 = .ok (.iload 4, 2) := by decide +kernel
theorem dX1_addWay_32 : decode cX1_addWay 32 = .ok (.ifCond .ge 6, 3) := by decide +kernel
theorem dX1_addWay_35 : decode cX1_addWay 35 = .ok (.goto 28, 3) := by decide +kernel
theorem dX1_addWay_38 : decode cX1_addWay 38 = .ok (.iload_n 2, 1) := by decide +kernel
theorem dX1_addWay_39 : decode cX1_addWay 39 = .ok (.bipush 96, 2) := by decide +kernel
theorem dX1_addWay_41 : decode cX1_addWay 41 = .ok (.if_icmp .ge 13, 3) := by decide +kernel
theorem dX1_addWay_44 : decode cX1_addWay 44 = .ok (.aload_n 0, 1) := by decide +kernel
theorem dX1_addWay_45 : decode cX1_addWay 45 = .ok (.iload_n 2, 1) := by decide +kernel
theorem dX1_addWay_46 : decode cX1_addWay 46 = .ok (.iload 4, 2) := by decide +kernel
theorem dX1_addWay_48 : decode cX1_addWay 48 = .ok (.bipush 96, 2) := by decide +kernel
theorem dX1_addWay_50 : decode cX1_addWay 50 = .ok (.isub, 1) := by decide +kernel
theorem dX1_addWay_51 : decode cX1_addWay 51 = .ok (.invokevirtual 70, 3) := by decide +kernel
theorem dX1_addWay_54 : decode cX1_addWay 54 = .ok (.iload 4, 2) := by decide +kernel
theorem dX1_addWay_56 : decode cX1_addWay 56 = .ok (.istore_n 2, 1) := by decide +kernel
theorem dX1_addWay_57 : decode cX1_addWay 57 = .ok (.iinc 3 1, 3) := by decide +kernel
theorem dX1_addWay_60 : decode cX1_addWay 60 = .ok (.goto (-45), 3) := by decide +kernel
theorem dX1_addWay_63 : decode cX1_addWay 63 = .ok (.aload_n 0, 1) := by decide +kernel
theorem dX1_addWay_64 : decode cX1_addWay 64 = .ok (.getfield 9, 3) := by decide +kernel
theorem dX1_addWay_67 : decode cX1_addWay 67 = .ok (.iload_n 2, 1) := by decide +kernel
theorem dX1_addWay_68 : decode cX1_addWay 68 = .ok (.iconst (-1), 1) := by decide +kernel
theorem dX1_addWay_69 : decode cX1_addWay 69 = .ok (.iastore, 1) := by decide +kernel
theorem dX1_addWay_70 : decode cX1_addWay 70 = .ok (.return_, 1) := by decide +kernel
theorem dX1_leadInto_0 : decode cX1_leadInto 0 = .ok (.iload_n 2, 1) := by decide +kernel
theorem dX1_leadInto_1 : decode cX1_leadInto 1 = .ok (.iload_n 1, 1) := by decide +kernel
theorem dX1_leadInto_2 : decode cX1_leadInto 2 = .ok (.if_icmp .ne 22, 3) := by decide +kernel
theorem dX1_leadInto_5 : decode cX1_leadInto 5 = .ok (.aload_n 0, 1) := by decide +kernel
theorem dX1_leadInto_6 : decode cX1_leadInto 6 = .ok (.getfield 9, 3) := by decide +kernel
theorem dX1_leadInto_9 : decode cX1_leadInto 9 = .ok (.iload_n 1, 1) := by decide +kernel
theorem dX1_leadInto_10 : decode cX1_leadInto 10 = .ok (.bipush (-3), 2) := by decide +kernel
theorem dX1_leadInto_12 : decode cX1_leadInto 12 = .ok (.iastore, 1) := by decide +kernel
theorem dX1_leadInto_13 : decode cX1_leadInto 13 = .ok (.aload_n 0, 1) := by decide +kernel
theorem dX1_leadInto_14 : decode cX1_leadInto 14 = .ok (.getfield 15, 3) := by decide +kernel
theorem dX1_leadInto_17 : decode cX1_leadInto 17 = .ok (.iload_n 1, 1) := by decide +kernel
theorem dX1_leadInto_18 : decode cX1_leadInto 18 = .ok (.bipush (-3), 2) := by decide +kernel
theorem dX1_leadInto_20 : decode cX1_leadInto 20 = .ok (.iastore, 1) := by decide +kernel
theorem dX1_leadInto_21 : decode cX1_leadInto 21 = .ok (.goto 17, 3) := by decide +kernel
theorem dX1_leadInto_24 : decode cX1_leadInto 24 = .ok (.aload_n 0, 1) := by decide +kernel
theorem dX1_leadInto_25 : decode cX1_leadInto 25 = .ok (.getfield 9, 3) := by decide +kernel
theorem dX1_leadInto_28 : decode cX1_leadInto 28 = .ok (.iload_n 1, 1) := by decide +kernel
theorem dX1_leadInto_29 : decode cX1_leadInto 29 = .ok (.iload_n 2, 1) := by decide +kernel
theorem dX1_leadInto_30 : decode cX1_leadInto 30 = .ok (.iastore, 1) := by decide +kernel
theorem dX1_leadInto_31 : decode cX1_leadInto 31 = .ok (.aload_n 0, 1) := by decide +kernel
theorem dX1_leadInto_32 : decode cX1_leadInto 32 = .ok (.getfield 15, 3) := by decide +kernel
theorem dX1_leadInto_35 : decode cX1_leadInto 35 = .ok (.iload_n 2, 1) := by decide +kernel
theorem dX1_leadInto_36 : decode cX1_leadInto 36 = .ok (.iload_n 1, 1) := by decide +kernel
theorem dX1_leadInto_37 : decode cX1_leadInto 37 = .ok (.iastore, 1) := by decide +kernel
theorem dX1_leadInto_38 : decode cX1_leadInto 38 = .ok (.return_, 1) := by decide +kernel
theorem dX2_init_0 : decode cX2_init 0 = .ok (.aload_n 0, 1) := by decide +kernel
theorem dX2_init_1 : decode cX2_init 1 = .ok (.invokespecial 3, 3) := by decide +kernel
theorem dX2_init_4 : decode cX2_init 4 = .ok (.aload_n 0, 1) := by decide +kernel
theorem dX2_init_5 : decode cX2_init 5 = .ok (.bipush 8, 2) := by decide +kernel
theorem dX2_init_7 : decode cX2_init 7 = .ok (.newarray .int, 2) := by decide +kernel
theorem dX2_init_9 : decode cX2_init 9 = .ok (.putfield 9, 3) := by decide +kernel
theorem dX2_init_12 : decode cX2_init 12 = .ok (.aload_n 0, 1) := by decide +kernel
theorem dX2_init_13 : decode cX2_init 13 = .ok (.bipush 8, 2) := by decide +kernel
theorem dX2_init_15 : decode cX2_init 15 = .ok (.bipush 8, 2) := by decide +kernel
theorem dX2_init_17 : decode cX2_init 17 = .ok (.multianewarray 15 2, 4) := by decide +kernel
theorem dX2_init_21 : decode cX2_init 21 = .ok (.putfield 17, 3) := by decide +kernel
theorem dX2_init_24 : decode cX2_init 24 = .ok (.aload_n 0, 1) := by decide +kernel
theorem dX2_init_25 : decode cX2_init 25 = .ok (.bipush 72, 2) := by decide +kernel
theorem dX2_init_27 : decode cX2_init 27 = .ok (.newarray .int, 2) := by decide +kernel
theorem dX2_init_29 : decode cX2_init 29 = .ok (.putfield 20, 3) := by decide +kernel
theorem dX2_init_32 : decode cX2_init 32 = .ok (.aload_n 0, 1) := by decide +kernel
theorem dX2_init_33 : decode cX2_init 33 = .ok (.bipush 72, 2) := by decide +kernel
theorem dX2_init_35 : decode cX2_init 35 = .ok (.newarray .int, 2) := by decide +kernel
theorem dX2_init_37 : decode cX2_init 37 = .ok (.putfield 23, 3) := by decide +kernel
theorem dX2_init_40 : decode cX2_init 40 = .ok (.aload_n 0, 1) := by decide +kernel
theorem dX2_init_41 : decode cX2_init 41 = .ok (.bipush 8, 2) := by decide +kernel
theorem dX2_init_43 : decode cX2_init 43 = .ok (.newarray .int, 2) := by decide +kernel
theorem dX2_init_45 : decode cX2_init 45 = .ok (.putfield 26, 3) := by decide +kernel
theorem dX2_init_48 : decode cX2_init 48 = .ok (.aload_n 0, 1) := by decide +kernel
theorem dX2_init_49 : decode cX2_init 49 = .ok (.bipush 8, 2) := by decide +kernel
theorem dX2_init_51 : decode cX2_init 51 = .ok (.newarray .int, 2) := by decide +kernel
theorem dX2_init_53 : decode cX2_init 53 = .ok (.putfield 29, 3) := by decide +kernel
theorem dX2_init_56 : decode cX2_init 56 = .ok (.aload_n 0, 1) := by decide +kernel
theorem dX2_init_57 : decode cX2_init 57 = .ok (.bipush 8, 2) := by decide +kernel
theorem dX2_init_59 : decode cX2_init 59 = .ok (.newarray .int, 2) := by decide +kernel
theorem dX2_init_61 : decode cX2_init 61 = .ok (.putfield 32, 3) := by decide +kernel
theorem dX2_init_64 : decode cX2_init 64 = .ok (.aload_n 0, 1) := by decide +kernel
theorem dX2_init_65 : decode cX2_init 65 = .ok (.bipush 8, 2) := by decide +kernel
theorem dX2_init_67 : decode cX2_init 67 = .ok (.newarray .int, 2) := by decide +kernel
theorem dX2_init_69 : decode cX2_init 69 = .ok (.putfield 35, 3) := by decide +kernel
theorem dX2_init_72 : decode cX2_init 72 = .ok (.aload_n 0, 1) := by decide +kernel
theorem dX2_init_73 : decode cX2_init 73 = .ok (.bipush 8, 2) := by decide +kernel
theorem dX2_init_75 : decode cX2_init 75 = .ok (.newarray .int, 2) := by decide +kernel
theorem dX2_init_77 : decode cX2_init 77 = .ok (.putfield 38, 3) := by decide +kernel
theorem dX2_init_80 : decode cX2_init 80 = .ok (.aload_n 0, 1) := by decide +kernel
theorem dX2_init_81 : decode cX2_init 81 = .ok (.bipush 8, 2) := by decide +kernel
theorem dX2_init_83 : decode cX2_init 83 = .ok (.newarray .int, 2) := by decide +kernel
theorem dX2_init_85 : decode cX2_init 85 = .ok (.putfield 41, 3) := by decide +kernel
theorem dX2_init_88 : decode cX2_init 88 = .ok (.aload_n 0, 1) := by decide +kernel
theorem dX2_init_89 : decode cX2_init 89 = .ok (.bipush 8, 2) := by decide +kernel
theorem dX2_init_91 : decode cX2_init 91 = .ok (.newarray .int, 2) := by decide +kernel
theorem dX2_init_93 : decode cX2_init 93 = .ok (.putfield 44, 3) := by decide +kernel
theorem dX2_init_96 : decode cX2_init 96 = .ok (.return_, 1) := by decide +kernel
theorem dX2_settle_0 : decode cX2_settle 0 = .ok (.aload_n 3, 1) := by decide +kernel
theorem dX2_settle_1 : decode cX2_settle 1 = .ok (.invokevirtual 47, 3) := by decide +kernel
theorem dX2_settle_4 : decode cX2_settle 4 = .ok (.bipush 72, 2) := by decide +kernel
theorem dX2_settle_6 : decode cX2_settle 6 = .ok (.if_icmp .le 5, 3) := by decide +kernel
theorem dX2_settle_9 : decode cX2_settle 9 = .ok (.iconst 0, 1) := by decide +kernel
theorem dX2_settle_10 : decode cX2_settle 10 = .ok (.ireturn, 1) := by decide +kernel
theorem dX2_settle_11 : decode cX2_settle 11 = .ok (.aload_n 0, 1) := by decide +kernel
theorem dX2_settle_12 : decode cX2_settle 12 = .ok (.aload_n 1, 1) := by decide +kernel
theorem dX2_settle_13 : decode cX2_settle 13 = .ok (.getfield 53, 3) := by decide +kernel
theorem dX2_settle_16 : decode cX2_settle 16 = .ok (.putfield 59, 3) := by decide +kernel
theorem dX2_settle_19 : decode cX2_settle 19 = .ok (.iconst 0, 1) := by decide +kernel
theorem dX2_settle_20 : decode cX2_settle 20 = .ok (.istore 4, 2) := by decide +kernel
theorem dX2_settle_22 : decode cX2_settle 22 = .ok (.iload 4, 2) := by decide +kernel
theorem dX2_settle_24 : decode cX2_settle 24 = .ok (.aload_n 0, 1) := by decide +kernel
theorem dX2_settle_25 : decode cX2_settle 25 = .ok (.getfield 59, 3) := by decide +kernel
theorem dX2_settle_28 : decode cX2_settle 28 = .ok (.if_icmp .ge 93, 3) := by decide +kernel
theorem dX2_settle_31 : decode cX2_settle 31 = .ok (.aload_n 0, 1) := by decide +kernel
theorem dX2_settle_32 : decode cX2_settle 32 = .ok (.getfield 26, 3) := by decide +kernel
theorem dX2_settle_35 : decode cX2_settle 35 = .ok (.iload 4, 2) := by decide +kernel
theorem dX2_settle_37 : decode cX2_settle 37 = .ok (.aload_n 2, 1) := by decide +kernel
theorem dX2_settle_38 : decode cX2_settle 38 = .ok (.aload_n 1, 1) := by decide +kernel
theorem dX2_settle_39 : decode cX2_settle 39 = .ok (.iload 4, 2) := by decide +kernel
theorem dX2_settle_41 : decode cX2_settle 41 = .ok (.invokevirtual 60, 3) := by decide +kernel
theorem dX2_settle_44 : decode cX2_settle 44 = .ok (.ifCond .eq 13, 3) := by decide +kernel
theorem dX2_settle_47 : decode cX2_settle 47 = .ok (.aload_n 2, 1) := by decide +kernel
theorem dX2_settle_48 : decode cX2_settle 48 = .ok (.aload_n 1, 1) := by decide +kernel
theorem dX2_settle_49 : decode cX2_settle 49 = .ok (.iload 4, 2) := by decide +kernel
theorem dX2_settle_51 : decode cX2_settle 51 = .ok (.invokevirtual 66, 3) := by decide +kernel
theorem dX2_settle_54 : decode cX2_settle 54 = .ok (.goto 4, 3) := by decide +kernel
theorem dX2_settle_57 : decode cX2_settle 57 = .ok (.iconst 0, 1) := by decide +kernel
theorem dX2_settle_58 : decode cX2_settle 58 = .ok (.iastore, 1) := by decide +kernel
theorem dX2_settle_59 : decode cX2_settle 59 = .ok (.aload_n 0, 1) := by decide +kernel
theorem dX2_settle_60 : decode cX2_settle 60 = .ok (.getfield 29, 3) := by decide +kernel
theorem dX2_settle_63 : decode cX2_settle 63 = .ok (.iload 4, 2) := by decide +kernel
theorem dX2_settle_65 : decode cX2_settle 65 = .ok (.iconst 0, 1) := by decide +kernel
theorem dX2_settle_66 : decode cX2_settle 66 = .ok (.iastore, 1) := by decide +kernel
theorem dX2_settle_67 : decode cX2_settle 67 = .ok (.aload_n 0, 1) := by decide +kernel
theorem dX2_settle_68 : decode cX2_settle 68 = .ok (.getfield 9, 3) := by decide +kernel
theorem dX2_settle_71 : decode cX2_settle 71 = .ok (.iload 4, 2) := by decide +kernel
theorem dX2_settle_73 : decode cX2_settle 73 = .ok (.aload_n 1, 1) := by decide +kernel
theorem dX2_settle_74 : decode cX2_settle 74 = .ok (.getfield 69, 3) := by decide +kernel
theorem dX2_settle_77 : decode cX2_settle 77 = .ok (.iload 4, 2) := by decide +kernel
theorem dX2_settle_79 : decode cX2_settle 79 = .ok (.iaload, 1) := by decide +kernel
theorem dX2_settle_80 : decode cX2_settle 80 = .ok (.iastore, 1) := by decide +kernel
theorem dX2_settle_81 : decode cX2_settle 81 = .ok (.iconst 0, 1) := by decide +kernel
theorem dX2_settle_82 : decode cX2_settle 82 = .ok (.istore 5, 2) := by decide +kernel
theorem dX2_settle_84 : decode cX2_settle 84 = .ok (.iload 5, 2) := by decide +kernel
theorem dX2_settle_86 : decode cX2_settle 86 = .ok (.bipush 8, 2) := by decide +kernel
theorem dX2_settle_88 : decode cX2_settle 88 = .ok (.if_icmp .ge 27, 3) := by decide +kernel
theorem dX2_settle_91 : decode cX2_settle 91 = .ok (.aload_n 0, 1) := by decide +kernel
theorem dX2_settle_92 : decode cX2_settle 92 = .ok (.getfield 17, 3) := by decide +kernel
theorem dX2_settle_95 : decode cX2_settle 95 = .ok (.iload 4, 2) := by decide +kernel
theorem dX2_settle_97 : decode cX2_settle 97 = .ok (.aaload, 1) := by decide +kernel
theorem dX2_settle_98 : decode cX2_settle 98 = .ok (.iload 5, 2) := by decide +kernel
theorem dX2_settle_100 : decode cX2_settle 100 = .ok (.aload_n 1, 1) := by decide +kernel
theorem dX2_settle_101 : decode cX2_settle 101 = .ok (.iload 4, 2) := by decide +kernel
theorem dX2_settle_103 : decode cX2_settle 103 = .ok (.iload 5, 2) := by decide +kernel
theorem dX2_settle_105 : decode cX2_settle 105 = .ok (.invokevirtual 70, 3) := by decide +kernel
theorem dX2_settle_108 : decode cX2_settle 108 = .ok (.iastore, 1) := by decide +kernel
theorem dX2_settle_109 : decode cX2_settle 109 = .ok (.iinc 5 1, 3) := by decide +kernel
theorem dX2_settle_112 : decode cX2_settle 112 = .ok (.goto (-28), 3) := by decide +kernel
theorem dX2_settle_115 : decode cX2_settle 115 = .ok (.iinc 4 1, 3) := by decide +kernel
theorem dX2_settle_118 : decode cX2_settle 118 = .ok (.goto (-96), 3) := by decide +kernel
theorem dX2_settle_121 : decode cX2_settle 121 = .ok (.aload_n 0, 1) := by decide +kernel
theorem dX2_settle_122 : decode cX2_settle 122 = .ok (.aload_n 3, 1) := by decide +kernel
theorem dX2_settle_123 : decode cX2_settle 123 = .ok (.invokevirtual 74, 3) := by decide +kernel
theorem dX2_settle_126 : decode cX2_settle 126 = .ok (.iconst 0, 1) := by decide +kernel
theorem dX2_settle_127 : decode cX2_settle 127 = .ok (.istore 4, 2) := by decide +kernel
theorem dX2_settle_129 : decode cX2_settle 129 = .ok (.iload 4, 2) := by decide +kernel
theorem dX2_settle_131 : decode cX2_settle 131 = .ok (.aload_n 0, 1) := by decide +kernel
theorem dX2_settle_132 : decode cX2_settle 132 = .ok (.getfield 78, 3) := by decide +kernel
theorem dX2_settle_135 : decode cX2_settle 135 = .ok (.if_icmp .ge 20, 3) := by decide +kernel
theorem dX2_settle_138 : decode cX2_settle 138 = .ok (.aload_n 0, 1) := by decide +kernel
theorem dX2_settle_139 : decode cX2_settle 139 = .ok (.iload 4, 2) := by decide +kernel
theorem dX2_settle_141 : decode cX2_settle 141 = .ok (.invokevirtual 81, 3) := by decide +kernel
theorem dX2_settle_144 : decode cX2_settle 144 = .ok (.ifCond .ne 5, 3) := by decide +kernel
theorem dX2_settle_147 : decode cX2_settle 147 = .ok (.iconst 0, 1) := by decide +kernel
theorem dX2_settle_148 : decode cX2_settle 148 = .ok (.ireturn, 1) := by decide +kernel
theorem dX2_settle_149 : decode cX2_settle 149 = .ok (.iinc 4 1, 3) := by decide +kernel
theorem dX2_settle_152 : decode cX2_settle 152 = .ok (.goto (-23), 3) := by decide +kernel
theorem dX2_settle_155 : decode cX2_settle 155 = .ok (.iconst 0, 1) := by decide +kernel
theorem dX2_settle_156 : decode cX2_settle 156 = .ok (.istore 4, 2) := by decide +kernel
theorem dX2_settle_158 : decode cX2_settle 158 = .ok (.iload 4, 2) := by decide +kernel
theorem dX2_settle_160 : decode cX2_settle 160 = .ok (.aload_n 0, 1) := by decide +kernel
theorem dX2_settle_161 : decode cX2_settle 161 = .ok (.getfield 78, 3) := by decide +kernel
theorem dX2_settle_164 : decode cX2_settle 164 = .ok (.if_icmp .ge 15, 3) := by decide +kernel
theorem dX2_settle_167 : decode cX2_settle 167 = .ok (.aload_n 0, 1) := by decide +kernel
theorem dX2_settle_168 : decode cX2_settle 168 = .ok (.iload 4, 2) := by decide +kernel
theorem dX2_settle_170 : decode cX2_settle 170 = .ok (.invokevirtual 85, 3) := by decide +kernel
theorem dX2_settle_173 : decode cX2_settle 173 = .ok (.iinc 4 1, 3) := by decide +kernel
theorem dX2_settle_176 : decode cX2_settle 176 = .ok (.goto (-18), 3) := by decide +kernel
theorem dX2_settle_179 : decode cX2_settle 179 = .ok (.iconst 1, 1) := by decide +kernel
theorem dX2_settle_180 : decode cX2_settle 180 = .ok (.ireturn, 1) := by decide +kernel
theorem dX2_sum_0 : decode cX2_sum 0 = .ok (.iconst 0, 1) := by decide +kernel
theorem dX2_sum_1 : decode cX2_sum 1 = .ok (.istore_n 1, 1) := by decide +kernel
theorem dX2_sum_2 : decode cX2_sum 2 = .ok (.iconst 0, 1) := by decide +kernel
theorem dX2_sum_3 : decode cX2_sum 3 = .ok (.istore_n 2, 1) := by decide +kernel
theorem dX2_sum_4 : decode cX2_sum 4 = .ok (.iload_n 2, 1) := by decide +kernel
theorem dX2_sum_5 : decode cX2_sum 5 = .ok (.aload_n 0, 1) := by decide +kernel
theorem dX2_sum_6 : decode cX2_sum 6 = .ok (.getfield 59, 3) := by decide +kernel
theorem dX2_sum_9 : decode cX2_sum 9 = .ok (.if_icmp .ge 25, 3) := by decide +kernel
theorem dX2_sum_12 : decode cX2_sum 12 = .ok (.iload_n 1, 1) := by decide +kernel
theorem dX2_sum_13 : decode cX2_sum 13 = .ok (.aload_n 0, 1) := by decide +kernel
theorem dX2_sum_14 : decode cX2_sum 14 = .ok (.getfield 29, 3) := by decide +kernel
theorem dX2_sum_17 : decode cX2_sum 17 = .ok (.iload_n 2, 1) := by decide +kernel
theorem dX2_sum_18 : decode cX2_sum 18 = .ok (.iaload, 1) := by decide +kernel
theorem dX2_sum_19 : decode cX2_sum 19 = .ok (.aload_n 0, 1) := by decide +kernel
theorem dX2_sum_20 : decode cX2_sum 20 = .ok (.getfield 9, 3) := by decide +kernel
theorem dX2_sum_23 : decode cX2_sum 23 = .ok (.iload_n 2, 1) := by decide +kernel
theorem dX2_sum_24 : decode cX2_sum 24 = .ok (.iaload, 1) := by decide +kernel
theorem dX2_sum_25 : decode cX2_sum 25 = .ok (.imul, 1) := by decide +kernel
theorem dX2_sum_26 : decode cX2_sum 26 = .ok (.iadd, 1) := by decide +kernel
theorem dX2_sum_27 : decode cX2_sum 27 = .ok (.istore_n 1, 1) := by decide +kernel
theorem dX2_sum_28 : decode cX2_sum 28 = .ok (.iinc 2 1, 3) := by decide +kernel
theorem dX2_sum_31 : decode cX2_sum 31 = .ok (.goto (-27), 3) := by decide +kernel
theorem dX2_sum_34 : decode cX2_sum 34 = .ok (.iload_n 1, 1) := by decide +kernel
theorem dX2_sum_35 : decode cX2_sum 35 = .ok (.ireturn, 1) := by decide +kernel
theorem dX2_listNeeds_0 : decode cX2_listNeeds 0 = .ok (.aload_n 0, 1) := by decide +kernel
theorem dX2_listNeeds_1 : decode cX2_listNeeds 1 = .ok (.iconst 0, 1) := by decide +kernel
theorem dX2_listNeeds_2 : decode cX2_listNeeds 2 = .ok (.putfield 78, 3) := by decide +kernel
theorem dX2_listNeeds_5 : decode cX2_listNeeds 5 = .ok (.iconst 0, 1) := by decide +kernel
theorem dX2_listNeeds_6 : decode cX2_listNeeds 6 = .ok (.istore_n 2, 1) := by decide +kernel
theorem dX2_listNeeds_7 : decode cX2_listNeeds 7 = .ok (.iload_n 2, 1) := by decide +kernel
theorem dX2_listNeeds_8 : decode cX2_listNeeds 8 = .ok (.aload_n 1, 1) := by decide +kernel
theorem dX2_listNeeds_9 : decode cX2_listNeeds 9 = .ok (.getfield 89, 3) := by decide +kernel
theorem dX2_listNeeds_12 : decode cX2_listNeeds 12 = .ok (.if_icmp .ge 75, 3) := by decide +kernel
theorem dX2_listNeeds_15 : decode cX2_listNeeds 15 = .ok (.aload_n 1, 1) := by decide +kernel
theorem dX2_listNeeds_16 : decode cX2_listNeeds 16 = .ok (.getfield 92, 3) := by decide +kernel
theorem dX2_listNeeds_19 : decode cX2_listNeeds 19 = .ok (.iload_n 2, 1) := by decide +kernel
theorem dX2_listNeeds_20 : decode cX2_listNeeds 20 = .ok (.iaload, 1) := by decide +kernel
theorem dX2_listNeeds_21 : decode cX2_listNeeds 21 = .ok (.istore_n 3, 1) := by decide +kernel
theorem dX2_listNeeds_22 : decode cX2_listNeeds 22 = .ok (.iconst 0, 1) := by decide +kernel
theorem dX2_listNeeds_23 : decode cX2_listNeeds 23 = .ok (.istore 4, 2) := by decide +kernel
theorem dX2_listNeeds_25 : decode cX2_listNeeds 25 = .ok (.iload 4, 2) := by decide +kernel
theorem dX2_listNeeds_27 : decode cX2_listNeeds 27 = .ok (.aload_n 1, 1) := by decide +kernel
theorem dX2_listNeeds_28 : decode cX2_listNeeds 28 = .ok (.getfield 95, 3) := by decide +kernel
theorem dX2_listNeeds_31 : decode cX2_listNeeds 31 = .ok (.iload_n 3, 1) := by decide +kernel
theorem dX2_listNeeds_32 : decode cX2_listNeeds 32 = .ok (.iaload, 1) := by decide +kernel
theorem dX2_listNeeds_33 : decode cX2_listNeeds 33 = .ok (.if_icmp .ge 48, 3) := by decide +kernel
theorem dX2_listNeeds_36 : decode cX2_listNeeds 36 = .ok (.aload_n 0, 1) := by decide +kernel
theorem dX2_listNeeds_37 : decode cX2_listNeeds 37 = .ok (.getfield 78, 3) := by decide +kernel
theorem dX2_listNeeds_40 : decode cX2_listNeeds 40 = .ok (.bipush 72, 2) := by decide +kernel
theorem dX2_listNeeds_42 : decode cX2_listNeeds 42 = .ok (.if_icmp .ge 39, 3) := by decide +kernel
theorem dX2_listNeeds_45 : decode cX2_listNeeds 45 = .ok (.aload_n 0, 1) := by decide +kernel
theorem dX2_listNeeds_46 : decode cX2_listNeeds 46 = .ok (.getfield 20, 3) := by decide +kernel
theorem dX2_listNeeds_49 : decode cX2_listNeeds 49 = .ok (.aload_n 0, 1) := by decide +kernel
theorem dX2_listNeeds_50 : decode cX2_listNeeds 50 = .ok (.getfield 78, 3) := by decide +kernel
theorem dX2_listNeeds_53 : decode cX2_listNeeds 53 = .ok (.iload_n 3, 1) := by decide +kernel
theorem dX2_listNeeds_54 : decode cX2_listNeeds 54 = .ok (.iastore, 1) := by decide +kernel
theorem dX2_listNeeds_55 : decode cX2_listNeeds 55 = .ok (.aload_n 0, 1) := by decide +kernel
theorem dX2_listNeeds_56 : decode cX2_listNeeds 56 = .ok (.getfield 23, 3) := by decide +kernel
theorem dX2_listNeeds_59 : decode cX2_listNeeds 59 = .ok (.aload_n 0, 1) := by decide +kernel
theorem dX2_listNeeds_60 : decode cX2_listNeeds 60 = .ok (.getfield 78, 3) := by decide +kernel
theorem dX2_listNeeds_63 : decode cX2_listNeeds 63 = .ok (.iconst (-1), 1) := by decide +kernel
theorem dX2_listNeeds_64 : decode cX2_listNeeds 64 = .ok (.iastore, 1) := by decide +kernel
theorem dX2_listNeeds_65 : decode cX2_listNeeds 65 = .ok (.aload_n 0, 1) := by decide +kernel
theorem dX2_listNeeds_66 : decode cX2_listNeeds 66 = .ok (.dup, 1) := by decide +kernel
theorem dX2_listNeeds_67 : decode cX2_listNeeds 67 = .ok (.getfield 78, 3) := by decide +kernel
theorem dX2_listNeeds_70 : decode cX2_listNeeds 70 = .ok (.iconst 1, 1) := by decide +kernel
theorem dX2_listNeeds_71 : decode cX2_listNeeds 71 = .ok (.iadd, 1) := by decide +kernel
theorem dX2_listNeeds_72 : decode cX2_listNeeds 72 = .ok (.putfield 78, 3) := by decide +kernel
theorem dX2_listNeeds_75 : decode cX2_listNeeds 75 = .ok (.iinc 4 1, 3) := by decide +kernel
theorem dX2_listNeeds_78 : decode cX2_listNeeds 78 = .ok (.goto (-53), 3) := by decide +kernel
theorem dX2_listNeeds_81 : decode cX2_listNeeds 81 = .ok (.iinc 2 1, 3) := by decide +kernel
theorem dX2_listNeeds_84 : decode cX2_listNeeds 84 = .ok (.goto (-77), 3) := by decide +kernel
theorem dX2_listNeeds_87 : decode cX2_listNeeds 87 = .ok (.return_, 1) := by decide +kernel
theorem dX2_canGive_0 : decode cX2_canGive 0 = .ok (.aload_n 0, 1) := by decide +kernel
theorem dX2_canGive_1 : decode cX2_canGive 1 = .ok (.getfield 20, 3) := by decide +kernel
theorem dX2_canGive_4 : decode cX2_canGive 4 = .ok (.iload_n 1, 1) := by decide +kernel
theorem dX2_canGive_5 : decode cX2_canGive 5 = .ok (.iaload, 1) := by decide +kernel
theorem dX2_canGive_6 : decode cX2_canGive 6 = .ok (.istore_n 3, 1) := by decide +kernel
theorem dX2_canGive_7 : decode cX2_canGive 7 = .ok (.aload_n 0, 1) := by decide +kernel
theorem dX2_canGive_8 : decode cX2_canGive 8 = .ok (.getfield 26, 3) := by decide +kernel
theorem dX2_canGive_11 : decode cX2_canGive 11 = .ok (.iload_n 2, 1) := by decide +kernel
theorem dX2_canGive_12 : decode cX2_canGive 12 = .ok (.iaload, 1) := by decide +kernel
theorem dX2_canGive_13 : decode cX2_canGive 13 = .ok (.ifCond .le 25, 3) := by decide +kernel
theorem dX2_canGive_16 : decode cX2_canGive 16 = .ok (.iload_n 3, 1) := by decide +kernel
theorem dX2_canGive_17 : decode cX2_canGive 17 = .ok (.bipush 12, 2) := by decide +kernel
theorem dX2_canGive_19 : decode cX2_canGive 19 = .ok (.irem, 1) := by decide +kernel
theorem dX2_canGive_20 : decode cX2_canGive 20 = .ok (.aload_n 0, 1) := by decide +kernel
theorem dX2_canGive_21 : decode cX2_canGive 21 = .ok (.getfield 17, 3) := by decide +kernel
theorem dX2_canGive_24 : decode cX2_canGive 24 = .ok (.iload_n 2, 1) := by decide +kernel
theorem dX2_canGive_25 : decode cX2_canGive 25 = .ok (.aaload, 1) := by decide +kernel
theorem dX2_canGive_26 : decode cX2_canGive 26 = .ok (.iload_n 3, 1) := by decide +kernel
theorem dX2_canGive_27 : decode cX2_canGive 27 = .ok (.bipush 12, 2) := by decide +kernel
theorem dX2_canGive_29 : decode cX2_canGive 29 = .ok (.idiv, 1) := by decide +kernel
theorem dX2_canGive_30 : decode cX2_canGive 30 = .ok (.iaload, 1) := by decide +kernel
theorem dX2_canGive_31 : decode cX2_canGive 31 = .ok (.if_icmp .lt 7, 3) := by decide +kernel
theorem dX2_canGive_34 : decode cX2_canGive 34 = .ok (.iconst 1, 1) := by decide +kernel
theorem dX2_canGive_35 : decode cX2_canGive 35 = .ok (.goto 4, 3) := by decide +kernel
theorem dX2_canGive_38 : decode cX2_canGive 38 = .ok (.iconst 0, 1) := by decide +kernel
theorem dX2_canGive_39 : decode cX2_canGive 39 = .ok (.ireturn, 1) := by decide +kernel
theorem dX2_give_0 : decode cX2_give 0 = .ok (.aload_n 0, 1) := by decide +kernel
theorem dX2_give_1 : decode cX2_give 1 = .ok (.getfield 32, 3) := by decide +kernel
theorem dX2_give_4 : decode cX2_give 4 = .ok (.bipush (-3), 2) := by decide +kernel
theorem dX2_give_6 : decode cX2_give 6 = .ok (.invokestatic 98, 3) := by decide +kernel
theorem dX2_give_9 : decode cX2_give 9 = .ok (.iconst 0, 1) := by decide +kernel
theorem dX2_give_10 : decode cX2_give 10 = .ok (.istore_n 2, 1) := by decide +kernel
theorem dX2_give_11 : decode cX2_give 11 = .ok (.iconst 0, 1) := by decide +kernel
theorem dX2_give_12 : decode cX2_give 12 = .ok (.istore_n 3, 1) := by decide +kernel
theorem dX2_give_13 : decode cX2_give 13 = .ok (.iload_n 3, 1) := by decide +kernel
theorem dX2_give_14 : decode cX2_give 14 = .ok (.aload_n 0, 1) := by decide +kernel
theorem dX2_give_15 : decode cX2_give 15 = .ok (.getfield 59, 3) := by decide +kernel
theorem dX2_give_18 : decode cX2_give 18 = .ok (.if_icmp .ge 39, 3) := by decide +kernel
theorem dX2_give_21 : decode cX2_give 21 = .ok (.aload_n 0, 1) := by decide +kernel
theorem dX2_give_22 : decode cX2_give 22 = .ok (.iload_n 1, 1) := by decide +kernel
theorem dX2_give_23 : decode cX2_give 23 = .ok (.iload_n 3, 1) := by decide +kernel
theorem dX2_give_24 : decode cX2_give 24 = .ok (.invokevirtual 104, 3) := by decide +kernel
theorem dX2_give_27 : decode cX2_give 27 = .ok (.ifCond .ne 6, 3) := by decide +kernel
theorem dX2_give_30 : decode cX2_give 30 = .ok (.goto 21, 3) := by decide +kernel
theorem dX2_give_33 : decode cX2_give 33 = .ok (.aload_n 0, 1) := by decide +kernel
theorem dX2_give_34 : decode cX2_give 34 = .ok (.getfield 32, 3) := by decide +kernel
theorem dX2_give_37 : decode cX2_give 37 = .ok (.iload_n 3, 1) := by decide +kernel
theorem dX2_give_38 : decode cX2_give 38 = .ok (.bipush (-2), 2) := by decide +kernel
theorem dX2_give_40 : decode cX2_give 40 = .ok (.iastore, 1) := by decide +kernel
theorem dX2_give_41 : decode cX2_give 41 = .ok (.aload_n 0, 1) := by decide +kernel
theorem dX2_give_42 : decode cX2_give 42 = .ok (.getfield 44, 3) := by decide +kernel
theorem dX2_give_45 : decode cX2_give 45 = .ok (.iload_n 2, 1) := by decide +kernel
theorem dX2_give_46 : decode cX2_give 46 = .ok (.iload_n 3, 1) := by decide +kernel
theorem dX2_give_47 : decode cX2_give 47 = .ok (.iastore, 1) := by decide +kernel
theorem dX2_give_48 : decode cX2_give 48 = .ok (.iinc 2 1, 3) := by decide +kernel
theorem dX2_give_51 : decode cX2_give 51 = .ok (.iinc 3 1, 3) := by decide +kernel
theorem dX2_give_54 : decode cX2_give 54 = .ok (.goto (-41), 3) := by decide +kernel
theorem dX2_give_57 : decode cX2_give 57 = .ok (.aload_n 0, 1) := by decide +kernel
theorem dX2_give_58 : decode cX2_give 58 = .ok (.iload_n 2, 1) := by decide +kernel
theorem dX2_give_59 : decode cX2_give 59 = .ok (.iconst 0, 1) := by decide +kernel
theorem dX2_give_60 : decode cX2_give 60 = .ok (.iload_n 1, 1) := by decide +kernel
theorem dX2_give_61 : decode cX2_give 61 = .ok (.invokevirtual 108, 3) := by decide +kernel
theorem dX2_give_64 : decode cX2_give 64 = .ok (.aload_n 0, 1) := by decide +kernel
theorem dX2_give_65 : decode cX2_give 65 = .ok (.invokevirtual 112, 3) := by decide +kernel
theorem dX2_give_68 : decode cX2_give 68 = .ok (.istore_n 3, 1) := by decide +kernel
theorem dX2_give_69 : decode cX2_give 69 = .ok (.iload_n 3, 1) := by decide +kernel
theorem dX2_give_70 : decode cX2_give 70 = .ok (.iconst (-1), 1) := by decide +kernel
theorem dX2_give_71 : decode cX2_give 71 = .ok (.if_icmp .ne 5, 3) := by decide +kernel
theorem dX2_give_74 : decode cX2_give 74 = .ok (.iconst 0, 1) := by decide +kernel
theorem dX2_give_75 : decode cX2_give 75 = .ok (.ireturn, 1) := by decide +kernel
theorem dX2_give_76 : decode cX2_give 76 = .ok (.aload_n 0, 1) := by decide +kernel
theorem dX2_give_77 : decode cX2_give 77 = .ok (.getfield 23, 3) := by decide +kernel
theorem dX2_give_80 : decode cX2_give 80 = .ok (.iload_n 1, 1) := by decide +kernel
theorem dX2_give_81 : decode cX2_give 81 = .ok (.aload_n 0, 1) := by decide +kernel
theorem dX2_give_82 : decode cX2_give 82 = .ok (.iload_n 3, 1) := by decide +kernel
theorem dX2_give_83 : decode cX2_give 83 = .ok (.invokevirtual 115, 3) := by decide +kernel
theorem dX2_give_86 : decode cX2_give 86 = .ok (.iastore, 1) := by decide +kernel
theorem dX2_give_87 : decode cX2_give 87 = .ok (.aload_n 0, 1) := by decide +kernel
theorem dX2_give_88 : decode cX2_give 88 = .ok (.getfield 29, 3) := by decide +kernel
theorem dX2_give_91 : decode cX2_give 91 = .ok (.iload_n 3, 1) := by decide +kernel
theorem dX2_give_92 : decode cX2_give 92 = .ok (.dup2, 1) := by decide +kernel
theorem dX2_give_93 : decode cX2_give 93 = .ok (.iaload, 1) := by decide +kernel
theorem dX2_give_94 : decode cX2_give 94 = .ok (.iconst 1, 1) := by decide +kernel
theorem dX2_give_95 : decode cX2_give 95 = .ok (.iadd, 1) := by decide +kernel
theorem dX2_give_96 : decode cX2_give 96 = .ok (.iastore, 1) := by decide +kernel
theorem dX2_give_97 : decode cX2_give 97 = .ok (.iconst 1, 1) := by decide +kernel
theorem dX2_give_98 : decode cX2_give 98 = .ok (.ireturn, 1) := by decide +kernel
theorem dX2_isFree_0 : decode cX2_isFree 0 = .ok (.aload_n 0, 1) := by decide +kernel
theorem dX2_isFree_1 : decode cX2_isFree 1 = .ok (.getfield 32, 3) := by decide +kernel
theorem dX2_isFree_4 : decode cX2_isFree 4 = .ok (.iload_n 1, 1) := by decide +kernel
theorem dX2_isFree_5 : decode cX2_isFree 5 = .ok (.iaload, 1) := by decide +kernel
theorem dX2_isFree_6 : decode cX2_isFree 6 = .ok (.bipush (-3), 2) := by decide +kernel
theorem dX2_isFree_8 : decode cX2_isFree 8 = .ok (.if_icmp .eq 22, 3) := by decide +kernel
theorem dX2_isFree_11 : decode cX2_isFree 11 = .ok (.aload_n 0, 1) := by decide +kernel
theorem dX2_isFree_12 : decode cX2_isFree 12 = .ok (.getfield 29, 3) := by decide +kernel
theorem dX2_isFree_15 : decode cX2_isFree 15 = .ok (.iload_n 1, 1) := by decide +kernel
theorem dX2_isFree_16 : decode cX2_isFree 16 = .ok (.iaload, 1) := by decide +kernel
theorem dX2_isFree_17 : decode cX2_isFree 17 = .ok (.aload_n 0, 1) := by decide +kernel
theorem dX2_isFree_18 : decode cX2_isFree 18 = .ok (.getfield 26, 3) := by decide +kernel
theorem dX2_isFree_21 : decode cX2_isFree 21 = .ok (.iload_n 1, 1) := by decide +kernel
theorem dX2_isFree_22 : decode cX2_isFree 22 = .ok (.iaload, 1) := by decide +kernel
theorem dX2_isFree_23 : decode cX2_isFree 23 = .ok (.if_icmp .ge 7, 3) := by decide +kernel
theorem dX2_isFree_26 : decode cX2_isFree 26 = .ok (.iconst 1, 1) := by decide +kernel
theorem dX2_isFree_27 : decode cX2_isFree 27 = .ok (.goto 4, 3) := by decide +kernel
theorem dX2_isFree_30 : decode cX2_isFree 30 = .ok (.iconst 0, 1) := by decide +kernel
theorem dX2_isFree_31 : decode cX2_isFree 31 = .ok (.ireturn, 1) := by decide +kernel
theorem dX2_leastFree_0 : decode cX2_leastFree 0 = .ok (.iconst (-1), 1) := by decide +kernel
theorem dX2_leastFree_1 : decode cX2_leastFree 1 = .ok (.istore_n 1, 1) := by decide +kernel
theorem dX2_leastFree_2 : decode cX2_leastFree 2 = .ok (.iconst 0, 1) := by decide +kernel
theorem dX2_leastFree_3 : decode cX2_leastFree 3 = .ok (.istore_n 2, 1) := by decide +kernel
theorem dX2_leastFree_4 : decode cX2_leastFree 4 = .ok (.iload_n 2, 1) := by decide +kernel
theorem dX2_leastFree_5 : decode cX2_leastFree 5 = .ok (.aload_n 0, 1) := by decide +kernel
theorem dX2_leastFree_6 : decode cX2_leastFree 6 = .ok (.getfield 59, 3) := by decide +kernel
theorem dX2_leastFree_9 : decode cX2_leastFree 9 = .ok (.if_icmp .ge 42, 3) := by decide +kernel
theorem dX2_leastFree_12 : decode cX2_leastFree 12 = .ok (.aload_n 0, 1) := by decide +kernel
theorem dX2_leastFree_13 : decode cX2_leastFree 13 = .ok (.iload_n 2, 1) := by decide +kernel
theorem dX2_leastFree_14 : decode cX2_leastFree 14 = .ok (.invokevirtual 119, 3) := by decide +kernel
theorem dX2_leastFree_17 : decode cX2_leastFree 17 = .ok (.ifCond .ne 6, 3) := by decide +kernel
theorem dX2_leastFree_20 : decode cX2_leastFree 20 = .ok (.goto 25, 3) := by decide +kernel
theorem dX2_leastFree_23 : decode cX2_leastFree 23 = .ok (.iload_n 1, 1) := by decide +kernel
theorem dX2_leastFree_24 : decode cX2_leastFree 24 = .ok (.iconst (-1), 1) := by decide +kernel
theorem dX2_leastFree_25 : decode cX2_leastFree 25 = .ok (.if_icmp .eq 18, 3) := by decide +kernel
theorem dX2_leastFree_28 : decode cX2_leastFree 28 = .ok (.aload_n 0, 1) := by decide +kernel
theorem dX2_leastFree_29 : decode cX2_leastFree 29 = .ok (.getfield 9, 3) := by decide +kernel
theorem dX2_leastFree_32 : decode cX2_leastFree 32 = .ok (.iload_n 2, 1) := by decide +kernel
theorem dX2_leastFree_33 : decode cX2_leastFree 33 = .ok (.iaload, 1) := by decide +kernel
theorem dX2_leastFree_34 : decode cX2_leastFree 34 = .ok (.aload_n 0, 1) := by decide +kernel
theorem dX2_leastFree_35 : decode cX2_leastFree 35 = .ok (.getfield 9, 3) := by decide +kernel
theorem dX2_leastFree_38 : decode cX2_leastFree 38 = .ok (.iload_n 1, 1) := by decide +kernel
theorem dX2_leastFree_39 : decode cX2_leastFree 39 = .ok (.iaload, 1) := by decide +kernel
theorem dX2_leastFree_40 : decode cX2_leastFree 40 = .ok (.if_icmp .ge 5, 3) := by decide +kernel
theorem dX2_leastFree_43 : decode cX2_leastFree 43 = .ok (.iload_n 2, 1) := by decide +kernel
theorem dX2_leastFree_44 : decode cX2_leastFree 44 = .ok (.istore_n 1, 1) := by decide +kernel
theorem dX2_leastFree_45 : decode cX2_leastFree 45 = .ok (.iinc 2 1, 3) := by decide +kernel
theorem dX2_leastFree_48 : decode cX2_leastFree 48 = .ok (.goto (-44), 3) := by decide +kernel
theorem dX2_leastFree_51 : decode cX2_leastFree 51 = .ok (.iload_n 1, 1) := by decide +kernel
theorem dX2_leastFree_52 : decode cX2_leastFree 52 = .ok (.ireturn, 1) := by decide +kernel
theorem dX2_spread_0 : decode cX2_spread 0 = .ok (.iload_n 1, 1) := by decide +kernel
theorem dX2_spread_1 : decode cX2_spread 1 = .ok (.istore 4, 2) := by decide +kernel
theorem dX2_spread_3 : decode cX2_spread 3 = .ok (.iconst 0, 1) := by decide +kernel
theorem dX2_spread_4 : decode cX2_spread 4 = .ok (.istore 5, 2) := by decide +kernel
theorem dX2_spread_6 : decode cX2_spread 6 = .ok (.iload 5, 2) := by decide +kernel
theorem dX2_spread_8 : decode cX2_spread 8 = .ok (.iload 4, 2) := by decide +kernel
theorem dX2_spread_10 : decode cX2_spread 10 = .ok (.if_icmp .ge 130, 3) := by decide +kernel
theorem dX2_spread_13 : decode cX2_spread 13 = .ok (.iload 5, 2) := by decide +kernel
theorem dX2_spread_15 : decode cX2_spread 15 = .ok (.bipush 8, 2) := by decide +kernel
theorem dX2_spread_17 : decode cX2_spread 17 = .ok (.if_icmp .ge 123, 3) := by decide +kernel
theorem dX2_spread_20 : decode cX2_spread 20 = .ok (.iload_n 2, 1) := by decide +kernel
theorem dX2_spread_21 : decode cX2_spread 21 = .ok (.istore 6, 2) := by decide +kernel
theorem dX2_spread_23 : decode cX2_spread 23 = .ok (.iload 6, 2) := by decide +kernel
theorem dX2_spread_25 : decode cX2_spread 25 = .ok (.iload_n 3, 1) := by decide +kernel
theorem dX2_spread_26 : decode cX2_spread 26 = .ok (.if_icmp .ge 108, 3) := by decide +kernel
theorem dX2_spread_29 : decode cX2_spread 29 = .ok (.aload_n 0, 1) := by decide +kernel
theorem dX2_spread_30 : decode cX2_spread 30 = .ok (.getfield 23, 3) := by decide +kernel
theorem dX2_spread_33 : decode cX2_spread 33 = .ok (.iload 6, 2) := by decide +kernel
theorem dX2_spread_35 : decode cX2_spread 35 = .ok (.iaload, 1) := by decide +kernel
theorem dX2_spread_36 : decode cX2_spread 36 = .ok (.aload_n 0, 1) := by decide +kernel
theorem dX2_spread_37 : decode cX2_spread 37 = .ok (.getfield 44, 3) := by decide +kernel
theorem dX2_spread_40 : decode cX2_spread 40 = .ok (.iload 5, 2) := by decide +kernel
theorem dX2_spread_42 : decode cX2_spread 42 = .ok (.iaload, 1) := by decide +kernel
theorem dX2_spread_43 : decode cX2_spread 43 = .ok (.if_icmp .eq 6, 3) := by decide +kernel
theorem dX2_spread_46 : decode cX2_spread 46 = .ok (.goto 82, 3) := by decide +kernel
theorem dX2_spread_49 : decode cX2_spread 49 = .ok (.iconst 0, 1) := by decide +kernel
theorem dX2_spread_50 : decode cX2_spread 50 = .ok (.istore 7, 2) := by decide +kernel
theorem dX2_spread_52 : decode cX2_spread 52 = .ok (.iload 7, 2) := by decide +kernel
theorem dX2_spread_54 : decode cX2_spread 54 = .ok (.aload_n 0, 1) := by decide +kernel
theorem dX2_spread_55 : decode cX2_spread 55 = .ok (.getfield 59, 3) := by decide +kernel
theorem dX2_spread_58 : decode cX2_spread 58 = .ok (.if_icmp .ge 70, 3) := by decide +kernel
theorem dX2_spread_61 : decode cX2_spread 61 = .ok (.aload_n 0, 1) := by decide +kernel
theorem dX2_spread_62 : decode cX2_spread 62 = .ok (.getfield 32, 3) := by decide +kernel
theorem dX2_spread_65 : decode cX2_spread 65 = .ok (.iload 7, 2) := by decide +kernel
theorem dX2_spread_67 : decode cX2_spread 67 = .ok (.iaload, 1) := by decide +kernel
theorem dX2_spread_68 : decode cX2_spread 68 = .ok (.bipush (-3), 2) := by decide +kernel
theorem dX2_spread_70 : decode cX2_spread 70 = .ok (.if_icmp .ne 52, 3) := by decide +kernel
theorem dX2_spread_73 : decode cX2_spread 73 = .ok (.aload_n 0, 1) := by decide +kernel
theorem dX2_spread_74 : decode cX2_spread 74 = .ok (.iload 6, 2) := by decide +kernel
theorem dX2_spread_76 : decode cX2_spread 76 = .ok (.iload 7, 2) := by decide +kernel
theorem dX2_spread_78 : decode cX2_spread 78 = .ok (.invokevirtual 104, 3) := by decide +kernel
theorem dX2_spread_81 : decode cX2_spread 81 = .ok (.ifCond .ne 6, 3) := by decide +kernel
theorem dX2_spread_84 : decode cX2_spread 84 = .ok (.goto 38, 3) := by decide +kernel
theorem dX2_spread_87 : decode cX2_spread 87 = .ok (.aload_n 0, 1) := by decide +kernel
theorem dX2_spread_88 : decode cX2_spread 88 = .ok (.getfield 32, 3) := by decide +kernel
theorem dX2_spread_91 : decode cX2_spread 91 = .ok (.iload 7, 2) := by decide +kernel
theorem dX2_spread_93 : decode cX2_spread 93 = .ok (.aload_n 0, 1) := by decide +kernel
theorem dX2_spread_94 : decode cX2_spread 94 = .ok (.getfield 44, 3) := by decide +kernel
theorem dX2_spread_97 : decode cX2_spread 97 = .ok (.iload 5, 2) := by decide +kernel
theorem dX2_spread_99 : decode cX2_spread 99 = .ok (.iaload, 1) := by decide +kernel
theorem dX2_spread_100 : decode cX2_spread 100 = .ok (.iastore, 1) := by decide +kernel
theorem dX2_spread_101 : decode cX2_spread 101 = .ok (.aload_n 0, 1) := by decide +kernel
theorem dX2_spread_102 : decode cX2_spread 102 = .ok (.getfield 35, 3) := by decide +kernel
theorem dX2_spread_105 : decode cX2_spread 105 = .ok (.iload 7, 2) := by decide +kernel
theorem dX2_spread_107 : decode cX2_spread 107 = .ok (.iload 6, 2) := by decide +kernel
theorem dX2_spread_109 : decode cX2_spread 109 = .ok (.iastore, 1) := by decide +kernel
theorem dX2_spread_110 : decode cX2_spread 110 = .ok (.aload_n 0, 1) := by decide +kernel
theorem dX2_spread_111 : decode cX2_spread 111 = .ok (.getfield 44, 3) := by decide +kernel
theorem dX2_spread_114 : decode cX2_spread 114 = .ok (.iload 4, 2) := by decide +kernel
theorem dX2_spread_116 : decode cX2_spread 116 = .ok (.iload 7, 2) := by decide +kernel
theorem dX2_spread_118 : decode cX2_spread 118 = .ok (.iastore, 1) := by decide +kernel
theorem dX2_spread_119 : decode cX2_spread 119 = .ok (.iinc 4 1, 3) := by decide +kernel
theorem dX2_spread_122 : decode cX2_spread 122 = .ok (.iinc 7 1, 3) := by decide +kernel
theorem dX2_spread_125 : decode cX2_spread 125 = .ok (.goto (-73), 3) := by decide +kernel
theorem dX2_spread_128 : decode cX2_spread 128 = .ok (.iinc 6 1, 3) := by decide +kernel
theorem dX2_spread_131 : decode cX2_spread 131 = .ok (.goto (-108), 3) := by decide +kernel
theorem dX2_spread_134 : decode cX2_spread 134 = .ok (.iinc 5 1, 3) := by decide +kernel
theorem dX2_spread_137 : decode cX2_spread 137 = .ok (.goto (-131), 3) := by decide +kernel
theorem dX2_spread_140 : decode cX2_spread 140 = .ok (.return_, 1) := by decide +kernel
theorem dX2_spreadBack_0 : decode cX2_spreadBack 0 = .ok (.aload_n 0, 1) := by decide +kernel
theorem dX2_spreadBack_1 : decode cX2_spreadBack 1 = .ok (.getfield 38, 3) := by decide +kernel
theorem dX2_spreadBack_4 : decode cX2_spreadBack 4 = .ok (.bipush (-3), 2) := by decide +kernel
theorem dX2_spreadBack_6 : decode cX2_spreadBack 6 = .ok (.invokestatic 98, 3) := by decide +kernel
theorem dX2_spreadBack_9 : decode cX2_spreadBack 9 = .ok (.aload_n 0, 1) := by decide +kernel
theorem dX2_spreadBack_10 : decode cX2_spreadBack 10 = .ok (.getfield 38, 3) := by decide +kernel
theorem dX2_spreadBack_13 : decode cX2_spreadBack 13 = .ok (.iload_n 1, 1) := by decide +kernel
theorem dX2_spreadBack_14 : decode cX2_spreadBack 14 = .ok (.bipush (-2), 2) := by decide +kernel
theorem dX2_spreadBack_16 : decode cX2_spreadBack 16 = .ok (.iastore, 1) := by decide +kernel
theorem dX2_spreadBack_17 : decode cX2_spreadBack 17 = .ok (.aload_n 0, 1) := by decide +kernel
theorem dX2_spreadBack_18 : decode cX2_spreadBack 18 = .ok (.getfield 44, 3) := by decide +kernel
theorem dX2_spreadBack_21 : decode cX2_spreadBack 21 = .ok (.iconst 0, 1) := by decide +kernel
theorem dX2_spreadBack_22 : decode cX2_spreadBack 22 = .ok (.iload_n 1, 1) := by decide +kernel
theorem dX2_spreadBack_23 : decode cX2_spreadBack 23 = .ok (.iastore, 1) := by decide +kernel
theorem dX2_spreadBack_24 : decode cX2_spreadBack 24 = .ok (.iconst 1, 1) := by decide +kernel
theorem dX2_spreadBack_25 : decode cX2_spreadBack 25 = .ok (.istore 4, 2) := by decide +kernel
theorem dX2_spreadBack_27 : decode cX2_spreadBack 27 = .ok (.iconst 0, 1) := by decide +kernel
theorem dX2_spreadBack_28 : decode cX2_spreadBack 28 = .ok (.istore 5, 2) := by decide +kernel
theorem dX2_spreadBack_30 : decode cX2_spreadBack 30 = .ok (.iload 5, 2) := by decide +kernel
theorem dX2_spreadBack_32 : decode cX2_spreadBack 32 = .ok (.iload 4, 2) := by decide +kernel
theorem dX2_spreadBack_34 : decode cX2_spreadBack 34 = .ok (.if_icmp .ge 111, 3) := by decide +kernel
theorem dX2_spreadBack_37 : decode cX2_spreadBack 37 = .ok (.iload 5, 2) := by decide +kernel
theorem dX2_spreadBack_39 : decode cX2_spreadBack 39 = .ok (.bipush 8, 2) := by decide +kernel
theorem dX2_spreadBack_41 : decode cX2_spreadBack 41 = .ok (.if_icmp .ge 104, 3) := by decide +kernel
theorem dX2_spreadBack_44 : decode cX2_spreadBack 44 = .ok (.iload_n 2, 1) := by decide +kernel
theorem dX2_spreadBack_45 : decode cX2_spreadBack 45 = .ok (.istore 6, 2) := by decide +kernel
theorem dX2_spreadBack_47 : decode cX2_spreadBack 47 = .ok (.iload 6, 2) := by decide +kernel
theorem dX2_spreadBack_49 : decode cX2_spreadBack 49 = .ok (.iload_n 3, 1) := by decide +kernel
theorem dX2_spreadBack_50 : decode cX2_spreadBack 50 = .ok (.if_icmp .ge 89, 3) := by decide +kernel
theorem dX2_spreadBack_53 : decode cX2_spreadBack 53 = .ok (.aload_n 0, 1) := by decide +kernel
theorem dX2_spreadBack_54 : decode cX2_spreadBack 54 = .ok (.getfield 23, 3) := by decide +kernel
theorem dX2_spreadBack_57 : decode cX2_spreadBack 57 = .ok (.iload 6, 2) := by decide +kernel
theorem dX2_spreadBack_59 : decode cX2_spreadBack 59 = .ok (.iaload, 1) := by decide +kernel
theorem dX2_spreadBack_60 : decode cX2_spreadBack 60 = .ok (.istore 7, 2) := by decide +kernel
theorem dX2_spreadBack_62 : decode cX2_spreadBack 62 = .ok (.iload 7, 2) := by decide +kernel
theorem dX2_spreadBack_64 : decode cX2_spreadBack 64 = .ok (.ifCond .lt 69, 3) := by decide +kernel
theorem dX2_spreadBack_67 : decode cX2_spreadBack 67 = .ok (.aload_n 0, 1) := by decide +kernel
theorem dX2_spreadBack_68 : decode cX2_spreadBack 68 = .ok (.getfield 38, 3) := by decide +kernel
theorem dX2_spreadBack_71 : decode cX2_spreadBack 71 = .ok (.iload 7, 2) := by decide +kernel
theorem dX2_spreadBack_73 : decode cX2_spreadBack 73 = .ok (.iaload, 1) := by decide +kernel
theorem dX2_spreadBack_74 : decode cX2_spreadBack 74 = .ok (.bipush (-3), 2) := by decide +kernel
theorem dX2_spreadBack_76 : decode cX2_spreadBack 76 = .ok (.if_icmp .ne 57, 3) := by decide +kernel
theorem dX2_spreadBack_79 : decode cX2_spreadBack 79 = .ok (.aload_n 0, 1) := by decide +kernel
theorem dX2_spreadBack_80 : decode cX2_spreadBack 80 = .ok (.iload 6, 2) := by decide +kernel
theorem dX2_spreadBack_82 : decode cX2_spreadBack 82 = .ok (.aload_n 0, 1) := by decide +kernel
theorem dX2_spreadBack_83 : decode cX2_spreadBack 83 = .ok (.getfield 44, 3) := by decide +kernel
theorem dX2_spreadBack_86 : decode cX2_spreadBack 86 = .ok (.iload 5, 2) := by decide +kernel
theorem dX2_spreadBack_88 : decode cX2_spreadBack 88 = .ok (.iaload, 1) := by decide +kernel
theorem dX2_spreadBack_89 : decode cX2_spreadBack 89 = .ok (.invokevirtual 104, 3) := by decide +kernel
theorem dX2_spreadBack_92 : decode cX2_spreadBack 92 = .ok (.ifCond .ne 6, 3) := by decide +kernel
theorem dX2_spreadBack_95 : decode cX2_spreadBack 95 = .ok (.goto 38, 3) := by decide +kernel
theorem dX2_spreadBack_98 : decode cX2_spreadBack 98 = .ok (.aload_n 0, 1) := by decide +kernel
theorem dX2_spreadBack_99 : decode cX2_spreadBack 99 = .ok (.getfield 38, 3) := by decide +kernel
theorem dX2_spreadBack_102 : decode cX2_spreadBack 102 = .ok (.iload 7, 2) := by decide +kernel
theorem dX2_spreadBack_104 : decode cX2_spreadBack 104 = .ok (.aload_n 0, 1) := by decide +kernel
theorem dX2_spreadBack_105 : decode cX2_spreadBack 105 = .ok (.getfield 44, 3) := by decide +kernel
theorem dX2_spreadBack_108 : decode cX2_spreadBack 108 = .ok (.iload 5, 2) := by decide +kernel
theorem dX2_spreadBack_110 : decode cX2_spreadBack 110 = .ok (.iaload, 1) := by decide +kernel
theorem dX2_spreadBack_111 : decode cX2_spreadBack 111 = .ok (.iastore, 1) := by decide +kernel
theorem dX2_spreadBack_112 : decode cX2_spreadBack 112 = .ok (.aload_n 0, 1) := by decide +kernel
theorem dX2_spreadBack_113 : decode cX2_spreadBack 113 = .ok (.getfield 41, 3) := by decide +kernel
theorem dX2_spreadBack_116 : decode cX2_spreadBack 116 = .ok (.iload 7, 2) := by decide +kernel
theorem dX2_spreadBack_118 : decode cX2_spreadBack 118 = .ok (.iload 6, 2) := by decide +kernel
theorem dX2_spreadBack_120 : decode cX2_spreadBack 120 = .ok (.iastore, 1) := by decide +kernel
theorem dX2_spreadBack_121 : decode cX2_spreadBack 121 = .ok (.aload_n 0, 1) := by decide +kernel
theorem dX2_spreadBack_122 : decode cX2_spreadBack 122 = .ok (.getfield 44, 3) := by decide +kernel
theorem dX2_spreadBack_125 : decode cX2_spreadBack 125 = .ok (.iload 4, 2) := by decide +kernel
theorem dX2_spreadBack_127 : decode cX2_spreadBack 127 = .ok (.iload 7, 2) := by decide +kernel
theorem dX2_spreadBack_129 : decode cX2_spreadBack 129 = .ok (.iastore, 1) := by decide +kernel
theorem dX2_spreadBack_130 : decode cX2_spreadBack 130 = .ok (.iinc 4 1, 3) := by decide +kernel
theorem dX2_spreadBack_133 : decode cX2_spreadBack 133 = .ok (.iinc 6 1, 3) := by decide +kernel
theorem dX2_spreadBack_136 : decode cX2_spreadBack 136 = .ok (.goto (-89), 3) := by decide +kernel
theorem dX2_spreadBack_139 : decode cX2_spreadBack 139 = .ok (.iinc 5 1, 3) := by decide +kernel
theorem dX2_spreadBack_142 : decode cX2_spreadBack 142 = .ok (.goto (-112), 3) := by decide +kernel
theorem dX2_spreadBack_145 : decode cX2_spreadBack 145 = .ok (.return_, 1) := by decide +kernel
theorem dX2_passOn_0 : decode cX2_passOn 0 = .ok (.iload_n 1, 1) := by decide +kernel
theorem dX2_passOn_1 : decode cX2_passOn 1 = .ok (.istore_n 2, 1) := by decide +kernel
theorem dX2_passOn_2 : decode cX2_passOn 2 = .ok (.iconst 0, 1) := by decide +kernel
theorem dX2_passOn_3 : decode cX2_passOn 3 = .ok (.istore_n 3, 1) := by decide +kernel
theorem dX2_passOn_4 : decode cX2_passOn 4 = .ok (.iload_n 3, 1) := by decide +kernel
theorem dX2_passOn_5 : decode cX2_passOn 5 = .ok (.bipush 8, 2) := by decide +kernel
theorem dX2_passOn_7 : decode cX2_passOn 7 = .ok (.if_icmp .ge 37, 3) := by decide +kernel
theorem dX2_passOn_10 : decode cX2_passOn 10 = .ok (.aload_n 0, 1) := by decide +kernel
theorem dX2_passOn_11 : decode cX2_passOn 11 = .ok (.getfield 32, 3) := by decide +kernel
theorem dX2_passOn_14 : decode cX2_passOn 14 = .ok (.iload_n 2, 1) := by decide +kernel
theorem dX2_passOn_15 : decode cX2_passOn 15 = .ok (.iaload, 1) := by decide +kernel
theorem dX2_passOn_16 : decode cX2_passOn 16 = .ok (.ifCond .lt 28, 3) := by decide +kernel
theorem dX2_passOn_19 : decode cX2_passOn 19 = .ok (.aload_n 0, 1) := by decide +kernel
theorem dX2_passOn_20 : decode cX2_passOn 20 = .ok (.getfield 23, 3) := by decide +kernel
theorem dX2_passOn_23 : decode cX2_passOn 23 = .ok (.aload_n 0, 1) := by decide +kernel
theorem dX2_passOn_24 : decode cX2_passOn 24 = .ok (.getfield 35, 3) := by decide +kernel
theorem dX2_passOn_27 : decode cX2_passOn 27 = .ok (.iload_n 2, 1) := by decide +kernel
theorem dX2_passOn_28 : decode cX2_passOn 28 = .ok (.iaload, 1) := by decide +kernel
theorem dX2_passOn_29 : decode cX2_passOn 29 = .ok (.iload_n 2, 1) := by decide +kernel
theorem dX2_passOn_30 : decode cX2_passOn 30 = .ok (.iastore, 1) := by decide +kernel
theorem dX2_passOn_31 : decode cX2_passOn 31 = .ok (.aload_n 0, 1) := by decide +kernel
theorem dX2_passOn_32 : decode cX2_passOn 32 = .ok (.getfield 32, 3) := by decide +kernel
theorem dX2_passOn_35 : decode cX2_passOn 35 = .ok (.iload_n 2, 1) := by decide +kernel
theorem dX2_passOn_36 : decode cX2_passOn 36 = .ok (.iaload, 1) := by decide +kernel
theorem dX2_passOn_37 : decode cX2_passOn 37 = .ok (.istore_n 2, 1) := by decide +kernel
theorem dX2_passOn_38 : decode cX2_passOn 38 = .ok (.iinc 3 1, 3) := by decide +kernel
theorem dX2_passOn_41 : decode cX2_passOn 41 = .ok (.goto (-37), 3) := by decide +kernel
theorem dX2_passOn_44 : decode cX2_passOn 44 = .ok (.iload_n 2, 1) := by decide +kernel
theorem dX2_passOn_45 : decode cX2_passOn 45 = .ok (.ireturn, 1) := by decide +kernel
theorem dX2_handOn_0 : decode cX2_handOn 0 = .ok (.iload_n 1, 1) := by decide +kernel
theorem dX2_handOn_1 : decode cX2_handOn 1 = .ok (.istore_n 2, 1) := by decide +kernel
theorem dX2_handOn_2 : decode cX2_handOn 2 = .ok (.iconst 0, 1) := by decide +kernel
theorem dX2_handOn_3 : decode cX2_handOn 3 = .ok (.istore_n 3, 1) := by decide +kernel
theorem dX2_handOn_4 : decode cX2_handOn 4 = .ok (.iload_n 3, 1) := by decide +kernel
theorem dX2_handOn_5 : decode cX2_handOn 5 = .ok (.bipush 8, 2) := by decide +kernel
theorem dX2_handOn_7 : decode cX2_handOn 7 = .ok (.if_icmp .ge 42, 3) := by decide +kernel
theorem dX2_handOn_10 : decode cX2_handOn 10 = .ok (.aload_n 0, 1) := by decide +kernel
theorem dX2_handOn_11 : decode cX2_handOn 11 = .ok (.getfield 38, 3) := by decide +kernel
theorem dX2_handOn_14 : decode cX2_handOn 14 = .ok (.iload_n 2, 1) := by decide +kernel
theorem dX2_handOn_15 : decode cX2_handOn 15 = .ok (.iaload, 1) := by decide +kernel
theorem dX2_handOn_16 : decode cX2_handOn 16 = .ok (.ifCond .lt 33, 3) := by decide +kernel
theorem dX2_handOn_19 : decode cX2_handOn 19 = .ok (.aload_n 0, 1) := by decide +kernel
theorem dX2_handOn_20 : decode cX2_handOn 20 = .ok (.getfield 23, 3) := by decide +kernel
theorem dX2_handOn_23 : decode cX2_handOn 23 = .ok (.aload_n 0, 1) := by decide +kernel
theorem dX2_handOn_24 : decode cX2_handOn 24 = .ok (.getfield 41, 3) := by decide +kernel
theorem dX2_handOn_27 : decode cX2_handOn 27 = .ok (.iload_n 2, 1) := by decide +kernel
theorem dX2_handOn_28 : decode cX2_handOn 28 = .ok (.iaload, 1) := by decide +kernel
theorem dX2_handOn_29 : decode cX2_handOn 29 = .ok (.aload_n 0, 1) := by decide +kernel
theorem dX2_handOn_30 : decode cX2_handOn 30 = .ok (.getfield 38, 3) := by decide +kernel
theorem dX2_handOn_33 : decode cX2_handOn 33 = .ok (.iload_n 2, 1) := by decide +kernel
theorem dX2_handOn_34 : decode cX2_handOn 34 = .ok (.iaload, 1) := by decide +kernel
theorem dX2_handOn_35 : decode cX2_handOn 35 = .ok (.iastore, 1) := by decide +kernel
theorem dX2_handOn_36 : decode cX2_handOn 36 = .ok (.aload_n 0, 1) := by decide +kernel
theorem dX2_handOn_37 : decode cX2_handOn 37 = .ok (.getfield 38, 3) := by decide +kernel
theorem dX2_handOn_40 : decode cX2_handOn 40 = .ok (.iload_n 2, 1) := by decide +kernel
theorem dX2_handOn_41 : decode cX2_handOn 41 = .ok (.iaload, 1) := by decide +kernel
theorem dX2_handOn_42 : decode cX2_handOn 42 = .ok (.istore_n 2, 1) := by decide +kernel
theorem dX2_handOn_43 : decode cX2_handOn 43 = .ok (.iinc 3 1, 3) := by decide +kernel
theorem dX2_handOn_46 : decode cX2_handOn 46 = .ok (.goto (-42), 3) := by decide +kernel
theorem dX2_handOn_49 : decode cX2_handOn 49 = .ok (.return_, 1) := by decide +kernel
theorem dX2_giveByFirst_0 : decode cX2_giveByFirst 0 = .ok (.aload_n 0, 1) := by decide +kernel
theorem dX2_giveByFirst_1 : decode cX2_giveByFirst 1 = .ok (.getfield 23, 3) := by decide +kernel
theorem dX2_giveByFirst_4 : decode cX2_giveByFirst 4 = .ok (.iload_n 1, 1) := by decide +kernel
theorem dX2_giveByFirst_5 : decode cX2_giveByFirst 5 = .ok (.iaload, 1) := by decide +kernel
theorem dX2_giveByFirst_6 : decode cX2_giveByFirst 6 = .ok (.istore_n 2, 1) := by decide +kernel
theorem dX2_giveByFirst_7 : decode cX2_giveByFirst 7 = .ok (.iconst 0, 1) := by decide +kernel
theorem dX2_giveByFirst_8 : decode cX2_giveByFirst 8 = .ok (.istore_n 3, 1) := by decide +kernel
theorem dX2_giveByFirst_9 : decode cX2_giveByFirst 9 = .ok (.iload_n 3, 1) := by decide +kernel
theorem dX2_giveByFirst_10 : decode cX2_giveByFirst 10 = .ok (.iload_n 2, 1) := by decide +kernel
theorem dX2_giveByFirst_11 : decode cX2_giveByFirst 11 = .ok (.if_icmp .ge 29, 3) := by decide +kernel
theorem dX2_giveByFirst_14 : decode cX2_giveByFirst 14 = .ok (.aload_n 0, 1) := by decide +kernel
theorem dX2_giveByFirst_15 : decode cX2_giveByFirst 15 = .ok (.iload_n 1, 1) := by decide +kernel
theorem dX2_giveByFirst_16 : decode cX2_giveByFirst 16 = .ok (.iload_n 3, 1) := by decide +kernel
theorem dX2_giveByFirst_17 : decode cX2_giveByFirst 17 = .ok (.invokevirtual 104, 3) := by decide +kernel
theorem dX2_giveByFirst_20 : decode cX2_giveByFirst 20 = .ok (.ifCond .eq 14, 3) := by decide +kernel
theorem dX2_giveByFirst_23 : decode cX2_giveByFirst 23 = .ok (.aload_n 0, 1) := by decide +kernel
theorem dX2_giveByFirst_24 : decode cX2_giveByFirst 24 = .ok (.iload_n 1, 1) := by decide +kernel
theorem dX2_giveByFirst_25 : decode cX2_giveByFirst 25 = .ok (.iload_n 2, 1) := by decide +kernel
theorem dX2_giveByFirst_26 : decode cX2_giveByFirst 26 = .ok (.iload_n 3, 1) := by decide +kernel
theorem dX2_giveByFirst_27 : decode cX2_giveByFirst 27 = .ok (.invokevirtual 122, 3) := by decide +kernel
theorem dX2_giveByFirst_30 : decode cX2_giveByFirst 30 = .ok (.ifCond .eq 4, 3) := by decide +kernel
theorem dX2_giveByFirst_33 : decode cX2_giveByFirst 33 = .ok (.return_, 1) := by decide +kernel
theorem dX2_giveByFirst_34 : decode cX2_giveByFirst 34 = .ok (.iinc 3 1, 3) := by decide +kernel
theorem dX2_giveByFirst_37 : decode cX2_giveByFirst 37 = .ok (.goto (-28), 3) := by decide +kernel
theorem dX2_giveByFirst_40 : decode cX2_giveByFirst 40 = .ok (.return_, 1) := by decide +kernel
theorem dX2_giveInstead_0 : decode cX2_giveInstead 0 = .ok (.aload_n 0, 1) := by decide +kernel
theorem dX2_giveInstead_1 : decode cX2_giveInstead 1 = .ok (.getfield 32, 3) := by decide +kernel
theorem dX2_giveInstead_4 : decode cX2_giveInstead 4 = .ok (.bipush (-3), 2) := by decide +kernel
theorem dX2_giveInstead_6 : decode cX2_giveInstead 6 = .ok (.invokestatic 98, 3) := by decide +kernel
theorem dX2_giveInstead_9 : decode cX2_giveInstead 9 = .ok (.aload_n 0, 1) := by decide +kernel
theorem dX2_giveInstead_10 : decode cX2_giveInstead 10 = .ok (.getfield 32, 3) := by decide +kernel
theorem dX2_giveInstead_13 : decode cX2_giveInstead 13 = .ok (.iload_n 3, 1) := by decide +kernel
theorem dX2_giveInstead_14 : decode cX2_giveInstead 14 = .ok (.bipush (-2), 2) := by decide +kernel
theorem dX2_giveInstead_16 : decode cX2_giveInstead 16 = .ok (.iastore, 1) := by decide +kernel
theorem dX2_giveInstead_17 : decode cX2_giveInstead 17 = .ok (.aload_n 0, 1) := by decide +kernel
theorem dX2_giveInstead_18 : decode cX2_giveInstead 18 = .ok (.getfield 44, 3) := by decide +kernel
theorem dX2_giveInstead_21 : decode cX2_giveInstead 21 = .ok (.iconst 0, 1) := by decide +kernel
theorem dX2_giveInstead_22 : decode cX2_giveInstead 22 = .ok (.iload_n 3, 1) := by decide +kernel
theorem dX2_giveInstead_23 : decode cX2_giveInstead 23 = .ok (.iastore, 1) := by decide +kernel
theorem dX2_giveInstead_24 : decode cX2_giveInstead 24 = .ok (.aload_n 0, 1) := by decide +kernel
theorem dX2_giveInstead_25 : decode cX2_giveInstead 25 = .ok (.iconst 1, 1) := by decide +kernel
theorem dX2_giveInstead_26 : decode cX2_giveInstead 26 = .ok (.iload_n 1, 1) := by decide +kernel
theorem dX2_giveInstead_27 : decode cX2_giveInstead 27 = .ok (.iconst 1, 1) := by decide +kernel
theorem dX2_giveInstead_28 : decode cX2_giveInstead 28 = .ok (.iadd, 1) := by decide +kernel
theorem dX2_giveInstead_29 : decode cX2_giveInstead 29 = .ok (.aload_n 0, 1) := by decide +kernel
theorem dX2_giveInstead_30 : decode cX2_giveInstead 30 = .ok (.getfield 78, 3) := by decide +kernel
theorem dX2_giveInstead_33 : decode cX2_giveInstead 33 = .ok (.invokevirtual 108, 3) := by decide +kernel
theorem dX2_giveInstead_36 : decode cX2_giveInstead 36 = .ok (.aload_n 0, 1) := by decide +kernel
theorem dX2_giveInstead_37 : decode cX2_giveInstead 37 = .ok (.getfield 32, 3) := by decide +kernel
theorem dX2_giveInstead_40 : decode cX2_giveInstead 40 = .ok (.iload_n 2, 1) := by decide +kernel
theorem dX2_giveInstead_41 : decode cX2_giveInstead 41 = .ok (.iaload, 1) := by decide +kernel
theorem dX2_giveInstead_42 : decode cX2_giveInstead 42 = .ok (.bipush (-3), 2) := by decide +kernel
theorem dX2_giveInstead_44 : decode cX2_giveInstead 44 = .ok (.if_icmp .eq 18, 3) := by decide +kernel
theorem dX2_giveInstead_47 : decode cX2_giveInstead 47 = .ok (.aload_n 0, 1) := by decide +kernel
theorem dX2_giveInstead_48 : decode cX2_giveInstead 48 = .ok (.iload_n 2, 1) := by decide +kernel
theorem dX2_giveInstead_49 : decode cX2_giveInstead 49 = .ok (.invokevirtual 115, 3) := by decide +kernel
theorem dX2_giveInstead_52 : decode cX2_giveInstead 52 = .ok (.pop, 1) := by decide +kernel
theorem dX2_giveInstead_53 : decode cX2_giveInstead 53 = .ok (.aload_n 0, 1) := by decide +kernel
theorem dX2_giveInstead_54 : decode cX2_giveInstead 54 = .ok (.getfield 23, 3) := by decide +kernel
theorem dX2_giveInstead_57 : decode cX2_giveInstead 57 = .ok (.iload_n 1, 1) := by decide +kernel
theorem dX2_giveInstead_58 : decode cX2_giveInstead 58 = .ok (.iload_n 3, 1) := by decide +kernel
theorem dX2_giveInstead_59 : decode cX2_giveInstead 59 = .ok (.iastore, 1) := by decide +kernel
theorem dX2_giveInstead_60 : decode cX2_giveInstead 60 = .ok (.iconst 1, 1) := by decide +kernel
theorem dX2_giveInstead_61 : decode cX2_giveInstead 61 = .ok (.ireturn, 1) := by decide +kernel
theorem dX2_giveInstead_62 : decode cX2_giveInstead 62 = .ok (.aload_n 0, 1) := by decide +kernel
theorem dX2_giveInstead_63 : decode cX2_giveInstead 63 = .ok (.iload_n 2, 1) := by decide +kernel
theorem dX2_giveInstead_64 : decode cX2_giveInstead 64 = .ok (.iload_n 1, 1) := by decide +kernel
theorem dX2_giveInstead_65 : decode cX2_giveInstead 65 = .ok (.iconst 1, 1) := by decide +kernel
theorem dX2_giveInstead_66 : decode cX2_giveInstead 66 = .ok (.iadd, 1) := by decide +kernel
theorem dX2_giveInstead_67 : decode cX2_giveInstead 67 = .ok (.aload_n 0, 1) := by decide +kernel
theorem dX2_giveInstead_68 : decode cX2_giveInstead 68 = .ok (.getfield 78, 3) := by decide +kernel
theorem dX2_giveInstead_71 : decode cX2_giveInstead 71 = .ok (.invokevirtual 126, 3) := by decide +kernel
theorem dX2_giveInstead_74 : decode cX2_giveInstead 74 = .ok (.iconst 0, 1) := by decide +kernel
theorem dX2_giveInstead_75 : decode cX2_giveInstead 75 = .ok (.istore 4, 2) := by decide +kernel
theorem dX2_giveInstead_77 : decode cX2_giveInstead 77 = .ok (.iload 4, 2) := by decide +kernel
theorem dX2_giveInstead_79 : decode cX2_giveInstead 79 = .ok (.aload_n 0, 1) := by decide +kernel
theorem dX2_giveInstead_80 : decode cX2_giveInstead 80 = .ok (.getfield 59, 3) := by decide +kernel
theorem dX2_giveInstead_83 : decode cX2_giveInstead 83 = .ok (.if_icmp .ge 115, 3) := by decide +kernel
theorem dX2_giveInstead_86 : decode cX2_giveInstead 86 = .ok (.aload_n 0, 1) := by decide +kernel
theorem dX2_giveInstead_87 : decode cX2_giveInstead 87 = .ok (.iload 4, 2) := by decide +kernel
theorem dX2_giveInstead_89 : decode cX2_giveInstead 89 = .ok (.invokevirtual 119, 3) := by decide +kernel
theorem dX2_giveInstead_92 : decode cX2_giveInstead 92 = .ok (.ifCond .ne 6, 3) := by decide +kernel
theorem dX2_giveInstead_95 : decode cX2_giveInstead 95 = .ok (.goto 97, 3) := by decide +kernel
theorem dX2_giveInstead_98 : decode cX2_giveInstead 98 = .ok (.iconst 0, 1) := by decide +kernel
theorem dX2_giveInstead_99 : decode cX2_giveInstead 99 = .ok (.istore 5, 2) := by decide +kernel
theorem dX2_giveInstead_101 : decode cX2_giveInstead 101 = .ok (.iload 5, 2) := by decide +kernel
theorem dX2_giveInstead_103 : decode cX2_giveInstead 103 = .ok (.aload_n 0, 1) := by decide +kernel
theorem dX2_giveInstead_104 : decode cX2_giveInstead 104 = .ok (.getfield 59, 3) := by decide +kernel
theorem dX2_giveInstead_107 : decode cX2_giveInstead 107 = .ok (.if_icmp .ge 85, 3) := by decide +kernel
theorem dX2_giveInstead_110 : decode cX2_giveInstead 110 = .ok (.aload_n 0, 1) := by decide +kernel
theorem dX2_giveInstead_111 : decode cX2_giveInstead 111 = .ok (.getfield 38, 3) := by decide +kernel
theorem dX2_giveInstead_114 : decode cX2_giveInstead 114 = .ok (.iload 5, 2) := by decide +kernel
theorem dX2_giveInstead_116 : decode cX2_giveInstead 116 = .ok (.iaload, 1) := by decide +kernel
theorem dX2_giveInstead_117 : decode cX2_giveInstead 117 = .ok (.bipush (-3), 2) := by decide +kernel
theorem dX2_giveInstead_119 : decode cX2_giveInstead 119 = .ok (.if_icmp .eq 67, 3) := by decide +kernel
theorem dX2_giveInstead_122 : decode cX2_giveInstead 122 = .ok (.aload_n 0, 1) := by decide +kernel
theorem dX2_giveInstead_123 : decode cX2_giveInstead 123 = .ok (.getfield 9, 3) := by decide +kernel
theorem dX2_giveInstead_126 : decode cX2_giveInstead 126 = .ok (.iload 5, 2) := by decide +kernel
theorem dX2_giveInstead_128 : decode cX2_giveInstead 128 = .ok (.iaload, 1) := by decide +kernel
theorem dX2_giveInstead_129 : decode cX2_giveInstead 129 = .ok (.aload_n 0, 1) := by decide +kernel
theorem dX2_giveInstead_130 : decode cX2_giveInstead 130 = .ok (.getfield 9, 3) := by decide +kernel
theorem dX2_giveInstead_133 : decode cX2_giveInstead 133 = .ok (.iload 4, 2) := by decide +kernel
theorem dX2_giveInstead_135 : decode cX2_giveInstead 135 = .ok (.iaload, 1) := by decide +kernel
theorem dX2_giveInstead_136 : decode cX2_giveInstead 136 = .ok (.if_icmp .eq 6, 3) := by decide +kernel
theorem dX2_giveInstead_139 : decode cX2_giveInstead 139 = .ok (.goto 47, 3) := by decide +kernel
theorem dX2_giveInstead_142 : decode cX2_giveInstead 142 = .ok (.aload_n 0, 1) := by decide +kernel
theorem dX2_giveInstead_143 : decode cX2_giveInstead 143 = .ok (.iload 4, 2) := by decide +kernel
theorem dX2_giveInstead_145 : decode cX2_giveInstead 145 = .ok (.invokevirtual 115, 3) := by decide +kernel
theorem dX2_giveInstead_148 : decode cX2_giveInstead 148 = .ok (.pop, 1) := by decide +kernel
theorem dX2_giveInstead_149 : decode cX2_giveInstead 149 = .ok (.aload_n 0, 1) := by decide +kernel
theorem dX2_giveInstead_150 : decode cX2_giveInstead 150 = .ok (.iload 5, 2) := by decide +kernel
theorem dX2_giveInstead_152 : decode cX2_giveInstead 152 = .ok (.invokevirtual 129, 3) := by decide +kernel
theorem dX2_giveInstead_155 : decode cX2_giveInstead 155 = .ok (.aload_n 0, 1) := by decide +kernel
theorem dX2_giveInstead_156 : decode cX2_giveInstead 156 = .ok (.getfield 23, 3) := by decide +kernel
theorem dX2_giveInstead_159 : decode cX2_giveInstead 159 = .ok (.iload_n 1, 1) := by decide +kernel
theorem dX2_giveInstead_160 : decode cX2_giveInstead 160 = .ok (.iload_n 3, 1) := by decide +kernel
theorem dX2_giveInstead_161 : decode cX2_giveInstead 161 = .ok (.iastore, 1) := by decide +kernel
theorem dX2_giveInstead_162 : decode cX2_giveInstead 162 = .ok (.aload_n 0, 1) := by decide +kernel
theorem dX2_giveInstead_163 : decode cX2_giveInstead 163 = .ok (.getfield 29, 3) := by decide +kernel
theorem dX2_giveInstead_166 : decode cX2_giveInstead 166 = .ok (.iload 4, 2) := by decide +kernel
theorem dX2_giveInstead_168 : decode cX2_giveInstead 168 = .ok (.dup2, 1) := by decide +kernel
theorem dX2_giveInstead_169 : decode cX2_giveInstead 169 = .ok (.iaload, 1) := by decide +kernel
theorem dX2_giveInstead_170 : decode cX2_giveInstead 170 = .ok (.iconst 1, 1) := by decide +kernel
theorem dX2_giveInstead_171 : decode cX2_giveInstead 171 = .ok (.iadd, 1) := by decide +kernel
theorem dX2_giveInstead_172 : decode cX2_giveInstead 172 = .ok (.iastore, 1) := by decide +kernel
theorem dX2_giveInstead_173 : decode cX2_giveInstead 173 = .ok (.aload_n 0, 1) := by decide +kernel
theorem dX2_giveInstead_174 : decode cX2_giveInstead 174 = .ok (.getfield 29, 3) := by decide +kernel
theorem dX2_giveInstead_177 : decode cX2_giveInstead 177 = .ok (.iload 5, 2) := by decide +kernel
theorem dX2_giveInstead_179 : decode cX2_giveInstead 179 = .ok (.dup2, 1) := by decide +kernel
theorem dX2_giveInstead_180 : decode cX2_giveInstead 180 = .ok (.iaload, 1) := by decide +kernel
theorem dX2_giveInstead_181 : decode cX2_giveInstead 181 = .ok (.iconst 1, 1) := by decide +kernel
theorem dX2_giveInstead_182 : decode cX2_giveInstead 182 = .ok (.isub, 1) := by decide +kernel
theorem dX2_giveInstead_183 : decode cX2_giveInstead 183 = .ok (.iastore, 1) := by decide +kernel
theorem dX2_giveInstead_184 : decode cX2_giveInstead 184 = .ok (.iconst 1, 1) := by decide +kernel
theorem dX2_giveInstead_185 : decode cX2_giveInstead 185 = .ok (.ireturn, 1) := by decide +kernel
theorem dX2_giveInstead_186 : decode cX2_giveInstead 186 = .ok (.iinc 5 1, 3) := by decide +kernel
theorem dX2_giveInstead_189 : decode cX2_giveInstead 189 = .ok (.goto (-88), 3) := by decide +kernel
theorem dX2_giveInstead_192 : decode cX2_giveInstead 192 = .ok (.iinc 4 1, 3) := by decide +kernel
theorem dX2_giveInstead_195 : decode cX2_giveInstead 195 = .ok (.goto (-118), 3) := by decide +kernel
theorem dX2_giveInstead_198 : decode cX2_giveInstead 198 = .ok (.iconst 0, 1) := by decide +kernel
theorem dX2_giveInstead_199 : decode cX2_giveInstead 199 = .ok (.ireturn, 1) := by decide +kernel
theorem dX3_init_0 : decode cX3_init 0 = .ok (.aload_n 0, 1) := by decide +kernel
theorem dX3_init_1 : decode cX3_init 1 = .ok (.invokespecial 3, 3) := by decide +kernel
theorem dX3_init_4 : decode cX3_init 4 = .ok (.aload_n 0, 1) := by decide +kernel
theorem dX3_init_5 : decode cX3_init 5 = .ok (.sipush 402, 3) := by decide +kernel
theorem dX3_init_8 : decode cX3_init 8 = .ok (.newarray .int, 2) := by decide +kernel
theorem dX3_init_10 : decode cX3_init 10 = .ok (.putfield 9, 3) := by decide +kernel
theorem dX3_init_13 : decode cX3_init 13 = .ok (.aload_n 0, 1) := by decide +kernel
theorem dX3_init_14 : decode cX3_init 14 = .ok (.sipush 402, 3) := by decide +kernel
theorem dX3_init_17 : decode cX3_init 17 = .ok (.newarray .int, 2) := by decide +kernel
theorem dX3_init_19 : decode cX3_init 19 = .ok (.putfield 15, 3) := by decide +kernel
theorem dX3_init_22 : decode cX3_init 22 = .ok (.aload_n 0, 1) := by decide +kernel
theorem dX3_init_23 : decode cX3_init 23 = .ok (.bipush 32, 2) := by decide +kernel
theorem dX3_init_25 : decode cX3_init 25 = .ok (.newarray .int, 2) := by decide +kernel
theorem dX3_init_27 : decode cX3_init 27 = .ok (.putfield 18, 3) := by decide +kernel
theorem dX3_init_30 : decode cX3_init 30 = .ok (.aload_n 0, 1) := by decide +kernel
theorem dX3_init_31 : decode cX3_init 31 = .ok (.bipush 6, 2) := by decide +kernel
theorem dX3_init_33 : decode cX3_init 33 = .ok (.newarray .int, 2) := by decide +kernel
theorem dX3_init_35 : decode cX3_init 35 = .ok (.putfield 21, 3) := by decide +kernel
theorem dX3_init_38 : decode cX3_init 38 = .ok (.return_, 1) := by decide +kernel
theorem dX3_clear_0 : decode cX3_clear 0 = .ok (.aload_n 0, 1) := by decide +kernel
theorem dX3_clear_1 : decode cX3_clear 1 = .ok (.iconst 0, 1) := by decide +kernel
theorem dX3_clear_2 : decode cX3_clear 2 = .ok (.putfield 24, 3) := by decide +kernel
theorem dX3_clear_5 : decode cX3_clear 5 = .ok (.return_, 1) := by decide +kernel
theorem dX3_put_0 : decode cX3_put 0 = .ok (.aload_n 0, 1) := by decide +kernel
theorem dX3_put_1 : decode cX3_put 1 = .ok (.getfield 24, 3) := by decide +kernel
theorem dX3_put_4 : decode cX3_put 4 = .ok (.aload_n 0, 1) := by decide +kernel
theorem dX3_put_5 : decode cX3_put 5 = .ok (.getfield 9, 3) := by decide +kernel
theorem dX3_put_8 : decode cX3_put 8 = .ok (.arraylength, 1) := by decide +kernel
theorem dX3_put_9 : decode cX3_put 9 = .ok (.if_icmp .lt 5, 3) := by decide +kernel
theorem dX3_put_12 : decode cX3_put 12 = .ok (.iconst 0, 1) := by decide +kernel
theorem dX3_put_13 : decode cX3_put 13 = .ok (.ireturn, 1) := by decide +kernel
theorem dX3_put_14 : decode cX3_put 14 = .ok (.aload_n 0, 1) := by decide +kernel
theorem dX3_put_15 : decode cX3_put 15 = .ok (.getfield 9, 3) := by decide +kernel
theorem dX3_put_18 : decode cX3_put 18 = .ok (.aload_n 0, 1) := by decide +kernel
theorem dX3_put_19 : decode cX3_put 19 = .ok (.getfield 24, 3) := by decide +kernel
theorem dX3_put_22 : decode cX3_put 22 = .ok (.iload_n 1, 1) := by decide +kernel
theorem dX3_put_23 : decode cX3_put 23 = .ok (.iastore, 1) := by decide +kernel
theorem dX3_put_24 : decode cX3_put 24 = .ok (.aload_n 0, 1) := by decide +kernel
theorem dX3_put_25 : decode cX3_put 25 = .ok (.getfield 15, 3) := by decide +kernel
theorem dX3_put_28 : decode cX3_put 28 = .ok (.aload_n 0, 1) := by decide +kernel
theorem dX3_put_29 : decode cX3_put 29 = .ok (.getfield 24, 3) := by decide +kernel
theorem dX3_put_32 : decode cX3_put 32 = .ok (.iload_n 2, 1) := by decide +kernel
theorem dX3_put_33 : decode cX3_put 33 = .ok (.iastore, 1) := by decide +kernel
theorem dX3_put_34 : decode cX3_put 34 = .ok (.aload_n 0, 1) := by decide +kernel
theorem dX3_put_35 : decode cX3_put 35 = .ok (.dup, 1) := by decide +kernel
theorem dX3_put_36 : decode cX3_put 36 = .ok (.getfield 24, 3) := by decide +kernel
theorem dX3_put_39 : decode cX3_put 39 = .ok (.iconst 1, 1) := by decide +kernel
theorem dX3_put_40 : decode cX3_put 40 = .ok (.iadd, 1) := by decide +kernel
theorem dX3_put_41 : decode cX3_put 41 = .ok (.putfield 24, 3) := by decide +kernel
theorem dX3_put_44 : decode cX3_put 44 = .ok (.aload_n 0, 1) := by decide +kernel
theorem dX3_put_45 : decode cX3_put 45 = .ok (.getfield 24, 3) := by decide +kernel
theorem dX3_put_48 : decode cX3_put 48 = .ok (.iconst 1, 1) := by decide +kernel
theorem dX3_put_49 : decode cX3_put 49 = .ok (.isub, 1) := by decide +kernel
theorem dX3_put_50 : decode cX3_put 50 = .ok (.ireturn, 1) := by decide +kernel
theorem dX3_aimAtEnd_0 : decode cX3_aimAtEnd 0 = .ok (.iload_n 1, 1) := by decide +kernel
theorem dX3_aimAtEnd_1 : decode cX3_aimAtEnd 1 = .ok (.ifCond .lt 21, 3) := by decide +kernel
theorem dX3_aimAtEnd_4 : decode cX3_aimAtEnd 4 = .ok (.iload_n 1, 1) := by decide +kernel
theorem dX3_aimAtEnd_5 : decode cX3_aimAtEnd 5 = .ok (.aload_n 0, 1) := by decide +kernel
theorem dX3_aimAtEnd_6 : decode cX3_aimAtEnd 6 = .ok (.getfield 24, 3) := by decide +kernel
theorem dX3_aimAtEnd_9 : decode cX3_aimAtEnd 9 = .ok (.if_icmp .ge 13, 3) := by decide +kernel
theorem dX3_aimAtEnd_12 : decode cX3_aimAtEnd 12 = .ok (.aload_n 0, 1) := by decide +kernel
theorem dX3_aimAtEnd_13 : decode cX3_aimAtEnd 13 = .ok (.getfield 15, 3) := by decide +kernel
theorem dX3_aimAtEnd_16 : decode cX3_aimAtEnd 16 = .ok (.iload_n 1, 1) := by decide +kernel
theorem dX3_aimAtEnd_17 : decode cX3_aimAtEnd 17 = .ok (.aload_n 0, 1) := by decide +kernel
theorem dX3_aimAtEnd_18 : decode cX3_aimAtEnd 18 = .ok (.getfield 24, 3) := by decide +kernel
theorem dX3_aimAtEnd_21 : decode cX3_aimAtEnd 21 = .ok (.iastore, 1) := by decide +kernel
theorem dX3_aimAtEnd_22 : decode cX3_aimAtEnd 22 = .ok (.return_, 1) := by decide +kernel
theorem dX3_tells_0 : decode cX3_tells 0 = .ok (.aload_n 0, 1) := by decide +kernel
theorem dX3_tells_1 : decode cX3_tells 1 = .ok (.getfield 21, 3) := by decide +kernel
theorem dX3_tells_4 : decode cX3_tells 4 = .ok (.iconst 0, 1) := by decide +kernel
theorem dX3_tells_5 : decode cX3_tells 5 = .ok (.iload_n 1, 1) := by decide +kernel
theorem dX3_tells_6 : decode cX3_tells 6 = .ok (.iastore, 1) := by decide +kernel
theorem dX3_tells_7 : decode cX3_tells 7 = .ok (.aload_n 0, 1) := by decide +kernel
theorem dX3_tells_8 : decode cX3_tells 8 = .ok (.getfield 21, 3) := by decide +kernel
theorem dX3_tells_11 : decode cX3_tells 11 = .ok (.iconst 1, 1) := by decide +kernel
theorem dX3_tells_12 : decode cX3_tells 12 = .ok (.iload_n 2, 1) := by decide +kernel
theorem dX3_tells_13 : decode cX3_tells 13 = .ok (.iastore, 1) := by decide +kernel
theorem dX3_tells_14 : decode cX3_tells 14 = .ok (.aload_n 0, 1) := by decide +kernel
theorem dX3_tells_15 : decode cX3_tells 15 = .ok (.getfield 21, 3) := by decide +kernel
theorem dX3_tells_18 : decode cX3_tells 18 = .ok (.iconst 2, 1) := by decide +kernel
theorem dX3_tells_19 : decode cX3_tells 19 = .ok (.iload_n 3, 1) := by decide +kernel
theorem dX3_tells_20 : decode cX3_tells 20 = .ok (.iastore, 1) := by decide +kernel
theorem dX3_tells_21 : decode cX3_tells 21 = .ok (.aload_n 0, 1) := by decide +kernel
theorem dX3_tells_22 : decode cX3_tells 22 = .ok (.getfield 21, 3) := by decide +kernel
theorem dX3_tells_25 : decode cX3_tells 25 = .ok (.iconst 3, 1) := by decide +kernel
theorem dX3_tells_26 : decode cX3_tells 26 = .ok (.iload 4, 2) := by decide +kernel
theorem dX3_tells_28 : decode cX3_tells 28 = .ok (.iastore, 1) := by decide +kernel
theorem dX3_tells_29 : decode cX3_tells 29 = .ok (.aload_n 0, 1) := by decide +kernel
theorem dX3_tells_30 : decode cX3_tells 30 = .ok (.getfield 21, 3) := by decide +kernel
theorem dX3_tells_33 : decode cX3_tells 33 = .ok (.iconst 4, 1) := by decide +kernel
theorem dX3_tells_34 : decode cX3_tells 34 = .ok (.iload 5, 2) := by decide +kernel
theorem dX3_tells_36 : decode cX3_tells 36 = .ok (.iastore, 1) := by decide +kernel
theorem dX3_tells_37 : decode cX3_tells 37 = .ok (.aload_n 0, 1) := by decide +kernel
theorem dX3_tells_38 : decode cX3_tells 38 = .ok (.getfield 21, 3) := by decide +kernel
theorem dX3_tells_41 : decode cX3_tells 41 = .ok (.iconst 5, 1) := by decide +kernel
theorem dX3_tells_42 : decode cX3_tells 42 = .ok (.iload 6, 2) := by decide +kernel
theorem dX3_tells_44 : decode cX3_tells 44 = .ok (.iastore, 1) := by decide +kernel
theorem dX3_tells_45 : decode cX3_tells 45 = .ok (.iconst 0, 1) := by decide +kernel
theorem dX3_tells_46 : decode cX3_tells 46 = .ok (.istore 7, 2) := by decide +kernel
theorem dX3_tells_48 : decode cX3_tells 48 = .ok (.iconst 0, 1) := by decide +kernel
theorem dX3_tells_49 : decode cX3_tells 49 = .ok (.istore 8, 2) := by decide +kernel
theorem dX3_tells_51 : decode cX3_tells 51 = .ok (.iconst 0, 1) := by decide +kernel
theorem dX3_tells_52 : decode cX3_tells 52 = .ok (.istore 9, 2) := by decide +kernel
theorem dX3_tells_54 : decode cX3_tells 54 = .ok (.iload 9, 2) := by decide +kernel
theorem dX3_tells_56 : decode cX3_tells 56 = .ok (.aload_n 0, 1) := by decide +kernel
theorem dX3_tells_57 : decode cX3_tells 57 = .ok (.getfield 24, 3) := by decide +kernel
theorem dX3_tells_60 : decode cX3_tells 60 = .ok (.if_icmp .ge 200, 3) := by decide +kernel
theorem dX3_tells_63 : decode cX3_tells 63 = .ok (.iload 8, 2) := by decide +kernel
theorem dX3_tells_65 : decode cX3_tells 65 = .ok (.aload_n 0, 1) := by decide +kernel
theorem dX3_tells_66 : decode cX3_tells 66 = .ok (.getfield 24, 3) := by decide +kernel
theorem dX3_tells_69 : decode cX3_tells 69 = .ok (.if_icmp .ge 191, 3) := by decide +kernel
theorem dX3_tells_72 : decode cX3_tells 72 = .ok (.aload_n 0, 1) := by decide +kernel
theorem dX3_tells_73 : decode cX3_tells 73 = .ok (.getfield 9, 3) := by decide +kernel
theorem dX3_tells_76 : decode cX3_tells 76 = .ok (.iload 8, 2) := by decide +kernel
theorem dX3_tells_78 : decode cX3_tells 78 = .ok (.iaload, 1) := by decide +kernel
theorem dX3_tells_79 : decode cX3_tells 79 = .ok (.istore 10, 2) := by decide +kernel
theorem dX3_tells_81 : decode cX3_tells 81 = .ok (.aload_n 0, 1) := by decide +kernel
theorem dX3_tells_82 : decode cX3_tells 82 = .ok (.getfield 15, 3) := by decide +kernel
theorem dX3_tells_85 : decode cX3_tells 85 = .ok (.iload 8, 2) := by decide +kernel
theorem dX3_tells_87 : decode cX3_tells 87 = .ok (.iaload, 1) := by decide +kernel
theorem dX3_tells_88 : decode cX3_tells 88 = .ok (.istore 11, 2) := by decide +kernel
theorem dX3_tells_90 : decode cX3_tells 90 = .ok (.iinc 8 1, 3) := by decide +kernel
theorem dX3_tells_93 : decode cX3_tells 93 = .ok (.iload 10, 2) := by decide +kernel
theorem dX3_tells_95 : decode cX3_tells 95 = .ok (.bipush 7, 2) := by decide +kernel
theorem dX3_tells_97 : decode cX3_tells 97 = .ok (.if_icmp .ne 22, 3) := by decide +kernel
theorem dX3_tells_100 : decode cX3_tells 100 = .ok (.iload 7, 2) := by decide +kernel
theorem dX3_tells_102 : decode cX3_tells 102 = .ok (.ifCond .le 15, 3) := by decide +kernel
theorem dX3_tells_105 : decode cX3_tells 105 = .ok (.aload_n 0, 1) := by decide +kernel
theorem dX3_tells_106 : decode cX3_tells 106 = .ok (.getfield 18, 3) := by decide +kernel
theorem dX3_tells_109 : decode cX3_tells 109 = .ok (.iload 7, 2) := by decide +kernel
theorem dX3_tells_111 : decode cX3_tells 111 = .ok (.iconst 1, 1) := by decide +kernel
theorem dX3_tells_112 : decode cX3_tells 112 = .ok (.isub, 1) := by decide +kernel
theorem dX3_tells_113 : decode cX3_tells 113 = .ok (.iaload, 1) := by decide +kernel
theorem dX3_tells_114 : decode cX3_tells 114 = .ok (.goto 4, 3) := by decide +kernel
theorem dX3_tells_117 : decode cX3_tells 117 = .ok (.iconst 0, 1) := by decide +kernel
theorem dX3_tells_118 : decode cX3_tells 118 = .ok (.ireturn, 1) := by decide +kernel
theorem dX3_tells_119 : decode cX3_tells 119 = .ok (.iload 10, 2) := by decide +kernel
theorem dX3_tells_121 : decode cX3_tells 121 = .ok (.ifCond .eq 9, 3) := by decide +kernel
theorem dX3_tells_124 : decode cX3_tells 124 = .ok (.iload 10, 2) := by decide +kernel
theorem dX3_tells_126 : decode cX3_tells 126 = .ok (.iconst 1, 1) := by decide +kernel
theorem dX3_tells_127 : decode cX3_tells 127 = .ok (.if_icmp .ne 41, 3) := by decide +kernel
theorem dX3_tells_130 : decode cX3_tells 130 = .ok (.iload 7, 2) := by decide +kernel
theorem dX3_tells_132 : decode cX3_tells 132 = .ok (.bipush 32, 2) := by decide +kernel
theorem dX3_tells_134 : decode cX3_tells 134 = .ok (.if_icmp .lt 5, 3) := by decide +kernel
theorem dX3_tells_137 : decode cX3_tells 137 = .ok (.iconst 0, 1) := by decide +kernel
theorem dX3_tells_138 : decode cX3_tells 138 = .ok (.ireturn, 1) := by decide +kernel
theorem dX3_tells_139 : decode cX3_tells 139 = .ok (.aload_n 0, 1) := by decide +kernel
theorem dX3_tells_140 : decode cX3_tells 140 = .ok (.getfield 18, 3) := by decide +kernel
theorem dX3_tells_143 : decode cX3_tells 143 = .ok (.iload 7, 2) := by decide +kernel
theorem dX3_tells_145 : decode cX3_tells 145 = .ok (.iload 10, 2) := by decide +kernel
theorem dX3_tells_147 : decode cX3_tells 147 = .ok (.ifCond .ne 8, 3) := by decide +kernel
theorem dX3_tells_150 : decode cX3_tells 150 = .ok (.iload 11, 2) := by decide +kernel
theorem dX3_tells_152 : decode cX3_tells 152 = .ok (.goto 9, 3) := by decide +kernel
theorem dX3_tells_155 : decode cX3_tells 155 = .ok (.aload_n 0, 1) := by decide +kernel
theorem dX3_tells_156 : decode cX3_tells 156 = .ok (.iload 11, 2) := by decide +kernel
theorem dX3_tells_158 : decode cX3_tells 158 = .ok (.invokevirtual 28, 3) := by decide +kernel
theorem dX3_tells_161 : decode cX3_tells 161 = .ok (.iastore, 1) := by decide +kernel
theorem dX3_tells_162 : decode cX3_tells 162 = .ok (.iinc 7 1, 3) := by decide +kernel
theorem dX3_tells_165 : decode cX3_tells 165 = .ok (.goto 89, 3) := by decide +kernel
theorem dX3_tells_168 : decode cX3_tells 168 = .ok (.iload 7, 2) := by decide +kernel
theorem dX3_tells_170 : decode cX3_tells 170 = .ok (.iconst 2, 1) := by decide +kernel
theorem dX3_tells_171 : decode cX3_tells 171 = .ok (.if_icmp .ge 5, 3) := by decide +kernel
theorem dX3_tells_174 : decode cX3_tells 174 = .ok (.iconst 0, 1) := by decide +kernel
theorem dX3_tells_175 : decode cX3_tells 175 = .ok (.ireturn, 1) := by decide +kernel
theorem dX3_tells_176 : decode cX3_tells 176 = .ok (.aload_n 0, 1) := by decide +kernel
theorem dX3_tells_177 : decode cX3_tells 177 = .ok (.getfield 18, 3) := by decide +kernel
theorem dX3_tells_180 : decode cX3_tells 180 = .ok (.iload 7, 2) := by decide +kernel
theorem dX3_tells_182 : decode cX3_tells 182 = .ok (.iconst 2, 1) := by decide +kernel
theorem dX3_tells_183 : decode cX3_tells 183 = .ok (.isub, 1) := by decide +kernel
theorem dX3_tells_184 : decode cX3_tells 184 = .ok (.iaload, 1) := by decide +kernel
theorem dX3_tells_185 : decode cX3_tells 185 = .ok (.istore 12, 2) := by decide +kernel
theorem dX3_tells_187 : decode cX3_tells 187 = .ok (.aload_n 0, 1) := by decide +kernel
theorem dX3_tells_188 : decode cX3_tells 188 = .ok (.getfield 18, 3) := by decide +kernel
theorem dX3_tells_191 : decode cX3_tells 191 = .ok (.iload 7, 2) := by decide +kernel
theorem dX3_tells_193 : decode cX3_tells 193 = .ok (.iconst 1, 1) := by decide +kernel
theorem dX3_tells_194 : decode cX3_tells 194 = .ok (.isub, 1) := by decide +kernel
theorem dX3_tells_195 : decode cX3_tells 195 = .ok (.iaload, 1) := by decide +kernel
theorem dX3_tells_196 : decode cX3_tells 196 = .ok (.istore 13, 2) := by decide +kernel
theorem dX3_tells_198 : decode cX3_tells 198 = .ok (.iload 10, 2) := by decide +kernel
theorem dX3_tells_200 : decode cX3_tells 200 = .ok (.iconst 5, 1) := by decide +kernel
theorem dX3_tells_201 : decode cX3_tells 201 = .ok (.if_icmp .ne 10, 3) := by decide +kernel
theorem dX3_tells_204 : decode cX3_tells 204 = .ok (.iload 13, 2) := by decide +kernel
theorem dX3_tells_206 : decode cX3_tells 206 = .ok (.ifCond .ne 5, 3) := by decide +kernel
theorem dX3_tells_209 : decode cX3_tells 209 = .ok (.iconst 0, 1) := by decide +kernel
theorem dX3_tells_210 : decode cX3_tells 210 = .ok (.ireturn, 1) := by decide +kernel
theorem dX3_tells_211 : decode cX3_tells 211 = .ok (.iinc 7 (-2), 3) := by decide +kernel
theorem dX3_tells_214 : decode cX3_tells 214 = .ok (.iload 10, 2) := by decide +kernel
theorem dX3_tells_216 : decode cX3_tells 216 = .ok (.bipush 6, 2) := by decide +kernel
theorem dX3_tells_218 : decode cX3_tells 218 = .ok (.if_icmp .ne 17, 3) := by decide +kernel
theorem dX3_tells_221 : decode cX3_tells 221 = .ok (.iload 12, 2) := by decide +kernel
theorem dX3_tells_223 : decode cX3_tells 223 = .ok (.iload 13, 2) := by decide +kernel
theorem dX3_tells_225 : decode cX3_tells 225 = .ok (.if_icmp .lt 29, 3) := by decide +kernel
theorem dX3_tells_228 : decode cX3_tells 228 = .ok (.iload 11, 2) := by decide +kernel
theorem dX3_tells_230 : decode cX3_tells 230 = .ok (.istore 8, 2) := by decide +kernel
theorem dX3_tells_232 : decode cX3_tells 232 = .ok (.goto 22, 3) := by decide +kernel
theorem dX3_tells_235 : decode cX3_tells 235 = .ok (.aload_n 0, 1) := by decide +kernel
theorem dX3_tells_236 : decode cX3_tells 236 = .ok (.getfield 18, 3) := by decide +kernel
theorem dX3_tells_239 : decode cX3_tells 239 = .ok (.iload 7, 2) := by decide +kernel
theorem dX3_tells_241 : decode cX3_tells 241 = .ok (.iload 10, 2) := by decide +kernel
theorem dX3_tells_243 : decode cX3_tells 243 = .ok (.iload 12, 2) := by decide +kernel
theorem dX3_tells_245 : decode cX3_tells 245 = .ok (.iload 13, 2) := by decide +kernel
theorem dX3_tells_247 : decode cX3_tells 247 = .ok (.invokestatic 32, 3) := by decide +kernel
theorem dX3_tells_250 : decode cX3_tells 250 = .ok (.iastore, 1) := by decide +kernel
theorem dX3_tells_251 : decode cX3_tells 251 = .ok (.iinc 7 1, 3) := by decide +kernel
theorem dX3_tells_254 : decode cX3_tells 254 = .ok (.iinc 9 1, 3) := by decide +kernel
theorem dX3_tells_257 : decode cX3_tells 257 = .ok (.goto (-203), 3) := by decide +kernel
theorem dX3_tells_260 : decode cX3_tells 260 = .ok (.iconst 0, 1) := by decide +kernel
theorem dX3_tells_261 : decode cX3_tells 261 = .ok (.ireturn, 1) := by decide +kernel
theorem dX3_seenAt_0 : decode cX3_seenAt 0 = .ok (.iload_n 1, 1) := by decide +kernel
theorem dX3_seenAt_1 : decode cX3_seenAt 1 = .ok (.ifCond .lt 18, 3) := by decide +kernel
theorem dX3_seenAt_4 : decode cX3_seenAt 4 = .ok (.iload_n 1, 1) := by decide +kernel
theorem dX3_seenAt_5 : decode cX3_seenAt 5 = .ok (.bipush 6, 2) := by decide +kernel
theorem dX3_seenAt_7 : decode cX3_seenAt 7 = .ok (.if_icmp .ge 12, 3) := by decide +kernel
theorem dX3_seenAt_10 : decode cX3_seenAt 10 = .ok (.aload_n 0, 1) := by decide +kernel
theorem dX3_seenAt_11 : decode cX3_seenAt 11 = .ok (.getfield 21, 3) := by decide +kernel
theorem dX3_seenAt_14 : decode cX3_seenAt 14 = .ok (.iload_n 1, 1) := by decide +kernel
theorem dX3_seenAt_15 : decode cX3_seenAt 15 = .ok (.iaload, 1) := by decide +kernel
theorem dX3_seenAt_16 : decode cX3_seenAt 16 = .ok (.goto 4, 3) := by decide +kernel
theorem dX3_seenAt_19 : decode cX3_seenAt 19 = .ok (.iconst 0, 1) := by decide +kernel
theorem dX3_seenAt_20 : decode cX3_seenAt 20 = .ok (.ireturn, 1) := by decide +kernel
theorem dX3_joined_0 : decode cX3_joined 0 = .ok (.iload_n 0, 1) := by decide +kernel
theorem dX3_joined_1 : decode cX3_joined 1 = .ok (.tableswitch 39 2 4 #[27, 31, 35], 27) := by decide +kernel
theorem dX3_joined_28 : decode cX3_joined 28 = .ok (.iload_n 1, 1) := by decide +kernel
theorem dX3_joined_29 : decode cX3_joined 29 = .ok (.iload_n 2, 1) := by decide +kernel
theorem dX3_joined_30 : decode cX3_joined 30 = .ok (.iadd, 1) := by decide +kernel
theorem dX3_joined_31 : decode cX3_joined 31 = .ok (.ireturn, 1) := by decide +kernel
theorem dX3_joined_32 : decode cX3_joined 32 = .ok (.iload_n 1, 1) := by decide +kernel
theorem dX3_joined_33 : decode cX3_joined 33 = .ok (.iload_n 2, 1) := by decide +kernel
theorem dX3_joined_34 : decode cX3_joined 34 = .ok (.isub, 1) := by decide +kernel
theorem dX3_joined_35 : decode cX3_joined 35 = .ok (.ireturn, 1) := by decide +kernel
theorem dX3_joined_36 : decode cX3_joined 36 = .ok (.iload_n 1, 1) := by decide +kernel
theorem dX3_joined_37 : decode cX3_joined 37 = .ok (.iload_n 2, 1) := by decide +kernel
theorem dX3_joined_38 : decode cX3_joined 38 = .ok (.imul, 1) := by decide +kernel
theorem dX3_joined_39 : decode cX3_joined 39 = .ok (.ireturn, 1) := by decide +kernel
theorem dX3_joined_40 : decode cX3_joined 40 = .ok (.iload_n 2, 1) := by decide +kernel
theorem dX3_joined_41 : decode cX3_joined 41 = .ok (.ifCond .ne 7, 3) := by decide +kernel
theorem dX3_joined_44 : decode cX3_joined 44 = .ok (.iconst 0, 1) := by decide +kernel
theorem dX3_joined_45 : decode cX3_joined 45 = .ok (.goto 6, 3) := by decide +kernel
theorem dX3_joined_48 : decode cX3_joined 48 = .ok (.iload_n 1, 1) := by decide +kernel
theorem dX3_joined_49 : decode cX3_joined 49 = .ok (.iload_n 2, 1) := by decide +kernel
theorem dX3_joined_50 : decode cX3_joined 50 = .ok (.idiv, 1) := by decide +kernel
theorem dX3_joined_51 : decode cX3_joined 51 = .ok (.ireturn, 1) := by decide +kernel
theorem dX4_init_0 : decode cX4_init 0 = .ok (.aload_n 0, 1) := by decide +kernel
theorem dX4_init_1 : decode cX4_init 1 = .ok (.invokespecial 3, 3) := by decide +kernel
theorem dX4_init_4 : decode cX4_init 4 = .ok (.aload_n 0, 1) := by decide +kernel
theorem dX4_init_5 : decode cX4_init 5 = .ok (.bipush 25, 2) := by decide +kernel
theorem dX4_init_7 : decode cX4_init 7 = .ok (.anewarray 9, 3) := by decide +kernel
theorem dX4_init_10 : decode cX4_init 10 = .ok (.putfield 11, 3) := by decide +kernel
theorem dX4_init_13 : decode cX4_init 13 = .ok (.iconst 0, 1) := by decide +kernel
theorem dX4_init_14 : decode cX4_init 14 = .ok (.istore_n 1, 1) := by decide +kernel
theorem dX4_init_15 : decode cX4_init 15 = .ok (.iload_n 1, 1) := by decide +kernel
theorem dX4_init_16 : decode cX4_init 16 = .ok (.bipush 25, 2) := by decide +kernel
theorem dX4_init_18 : decode cX4_init 18 = .ok (.if_icmp .ge 22, 3) := by decide +kernel
theorem dX4_init_21 : decode cX4_init 21 = .ok (.aload_n 0, 1) := by decide +kernel
theorem dX4_init_22 : decode cX4_init 22 = .ok (.getfield 11, 3) := by decide +kernel
theorem dX4_init_25 : decode cX4_init 25 = .ok (.iload_n 1, 1) := by decide +kernel
theorem dX4_init_26 : decode cX4_init 26 = .ok (.new 9, 3) := by decide +kernel
theorem dX4_init_29 : decode cX4_init 29 = .ok (.dup, 1) := by decide +kernel
theorem dX4_init_30 : decode cX4_init 30 = .ok (.invokespecial 17, 3) := by decide +kernel
theorem dX4_init_33 : decode cX4_init 33 = .ok (.aastore, 1) := by decide +kernel
theorem dX4_init_34 : decode cX4_init 34 = .ok (.iinc 1 1, 3) := by decide +kernel
theorem dX4_init_37 : decode cX4_init 37 = .ok (.goto (-22), 3) := by decide +kernel
theorem dX4_init_40 : decode cX4_init 40 = .ok (.return_, 1) := by decide +kernel
theorem dX4_clear_0 : decode cX4_clear 0 = .ok (.aload_n 0, 1) := by decide +kernel
theorem dX4_clear_1 : decode cX4_clear 1 = .ok (.iconst 0, 1) := by decide +kernel
theorem dX4_clear_2 : decode cX4_clear 2 = .ok (.putfield 18, 3) := by decide +kernel
theorem dX4_clear_5 : decode cX4_clear 5 = .ok (.return_, 1) := by decide +kernel
theorem dX4_keep_0 : decode cX4_keep 0 = .ok (.aload_n 0, 1) := by decide +kernel
theorem dX4_keep_1 : decode cX4_keep 1 = .ok (.getfield 11, 3) := by decide +kernel
theorem dX4_keep_4 : decode cX4_keep 4 = .ok (.aload_n 0, 1) := by decide +kernel
theorem dX4_keep_5 : decode cX4_keep 5 = .ok (.getfield 22, 3) := by decide +kernel
theorem dX4_keep_8 : decode cX4_keep 8 = .ok (.aaload, 1) := by decide +kernel
theorem dX4_keep_9 : decode cX4_keep 9 = .ok (.aload_n 1, 1) := by decide +kernel
theorem dX4_keep_10 : decode cX4_keep 10 = .ok (.invokevirtual 25, 3) := by decide +kernel
theorem dX4_keep_13 : decode cX4_keep 13 = .ok (.aload_n 0, 1) := by decide +kernel
theorem dX4_keep_14 : decode cX4_keep 14 = .ok (.aload_n 0, 1) := by decide +kernel
theorem dX4_keep_15 : decode cX4_keep 15 = .ok (.getfield 22, 3) := by decide +kernel
theorem dX4_keep_18 : decode cX4_keep 18 = .ok (.iconst 1, 1) := by decide +kernel
theorem dX4_keep_19 : decode cX4_keep 19 = .ok (.iadd, 1) := by decide +kernel
theorem dX4_keep_20 : decode cX4_keep 20 = .ok (.bipush 25, 2) := by decide +kernel
theorem dX4_keep_22 : decode cX4_keep 22 = .ok (.irem, 1) := by decide +kernel
theorem dX4_keep_23 : decode cX4_keep 23 = .ok (.putfield 22, 3) := by decide +kernel
theorem dX4_keep_26 : decode cX4_keep 26 = .ok (.aload_n 0, 1) := by decide +kernel
theorem dX4_keep_27 : decode cX4_keep 27 = .ok (.getfield 18, 3) := by decide +kernel
theorem dX4_keep_30 : decode cX4_keep 30 = .ok (.bipush 25, 2) := by decide +kernel
theorem dX4_keep_32 : decode cX4_keep 32 = .ok (.if_icmp .ge 13, 3) := by decide +kernel
theorem dX4_keep_35 : decode cX4_keep 35 = .ok (.aload_n 0, 1) := by decide +kernel
theorem dX4_keep_36 : decode cX4_keep 36 = .ok (.dup, 1) := by decide +kernel
theorem dX4_keep_37 : decode cX4_keep 37 = .ok (.getfield 18, 3) := by decide +kernel
theorem dX4_keep_40 : decode cX4_keep 40 = .ok (.iconst 1, 1) := by decide +kernel
theorem dX4_keep_41 : decode cX4_keep 41 = .ok (.iadd, 1) := by decide +kernel
theorem dX4_keep_42 : decode cX4_keep 42 = .ok (.putfield 18, 3) := by decide +kernel
theorem dX4_keep_45 : decode cX4_keep 45 = .ok (.return_, 1) := by decide +kernel
theorem dX4_bringBack_0 : decode cX4_bringBack 0 = .ok (.aload_n 0, 1) := by decide +kernel
theorem dX4_bringBack_1 : decode cX4_bringBack 1 = .ok (.getfield 18, 3) := by decide +kernel
theorem dX4_bringBack_4 : decode cX4_bringBack 4 = .ok (.ifCond .ne 5, 3) := by decide +kernel
theorem dX4_bringBack_7 : decode cX4_bringBack 7 = .ok (.iconst 0, 1) := by decide +kernel
theorem dX4_bringBack_8 : decode cX4_bringBack 8 = .ok (.ireturn, 1) := by decide +kernel
theorem dX4_bringBack_9 : decode cX4_bringBack 9 = .ok (.aload_n 0, 1) := by decide +kernel
theorem dX4_bringBack_10 : decode cX4_bringBack 10 = .ok (.aload_n 0, 1) := by decide +kernel
theorem dX4_bringBack_11 : decode cX4_bringBack 11 = .ok (.getfield 22, 3) := by decide +kernel
theorem dX4_bringBack_14 : decode cX4_bringBack 14 = .ok (.bipush 25, 2) := by decide +kernel
theorem dX4_bringBack_16 : decode cX4_bringBack 16 = .ok (.iadd, 1) := by decide +kernel
theorem dX4_bringBack_17 : decode cX4_bringBack 17 = .ok (.iconst 1, 1) := by decide +kernel
theorem dX4_bringBack_18 : decode cX4_bringBack 18 = .ok (.isub, 1) := by decide +kernel
theorem dX4_bringBack_19 : decode cX4_bringBack 19 = .ok (.bipush 25, 2) := by decide +kernel
theorem dX4_bringBack_21 : decode cX4_bringBack 21 = .ok (.irem, 1) := by decide +kernel
theorem dX4_bringBack_22 : decode cX4_bringBack 22 = .ok (.putfield 22, 3) := by decide +kernel
theorem dX4_bringBack_25 : decode cX4_bringBack 25 = .ok (.aload_n 0, 1) := by decide +kernel
theorem dX4_bringBack_26 : decode cX4_bringBack 26 = .ok (.dup, 1) := by decide +kernel
theorem dX4_bringBack_27 : decode cX4_bringBack 27 = .ok (.getfield 18, 3) := by decide +kernel
theorem dX4_bringBack_30 : decode cX4_bringBack 30 = .ok (.iconst 1, 1) := by decide +kernel
theorem dX4_bringBack_31 : decode cX4_bringBack 31 = .ok (.isub, 1) := by decide +kernel
theorem dX4_bringBack_32 : decode cX4_bringBack 32 = .ok (.putfield 18, 3) := by decide +kernel
theorem dX4_bringBack_35 : decode cX4_bringBack 35 = .ok (.aload_n 1, 1) := by decide +kernel
theorem dX4_bringBack_36 : decode cX4_bringBack 36 = .ok (.aload_n 0, 1) := by decide +kernel
theorem dX4_bringBack_37 : decode cX4_bringBack 37 = .ok (.getfield 11, 3) := by decide +kernel
theorem dX4_bringBack_40 : decode cX4_bringBack 40 = .ok (.aload_n 0, 1) := by decide +kernel
theorem dX4_bringBack_41 : decode cX4_bringBack 41 = .ok (.getfield 22, 3) := by decide +kernel
theorem dX4_bringBack_44 : decode cX4_bringBack 44 = .ok (.aaload, 1) := by decide +kernel
theorem dX4_bringBack_45 : decode cX4_bringBack 45 = .ok (.invokevirtual 25, 3) := by decide +kernel
theorem dX4_bringBack_48 : decode cX4_bringBack 48 = .ok (.iconst 1, 1) := by decide +kernel
theorem dX4_bringBack_49 : decode cX4_bringBack 49 = .ok (.ireturn, 1) := by decide +kernel
theorem dX5_init_0 : decode cX5_init 0 = .ok (.aload_n 0, 1) := by decide +kernel
theorem dX5_init_1 : decode cX5_init 1 = .ok (.invokespecial 3, 3) := by decide +kernel
theorem dX5_init_4 : decode cX5_init 4 = .ok (.aload_n 0, 1) := by decide +kernel
theorem dX5_init_5 : decode cX5_init 5 = .ok (.new 9, 3) := by decide +kernel
theorem dX5_init_8 : decode cX5_init 8 = .ok (.dup, 1) := by decide +kernel
theorem dX5_init_9 : decode cX5_init 9 = .ok (.invokespecial 11, 3) := by decide +kernel
theorem dX5_init_12 : decode cX5_init 12 = .ok (.putfield 12, 3) := by decide +kernel
theorem dX5_init_15 : decode cX5_init 15 = .ok (.aload_n 0, 1) := by decide +kernel
theorem dX5_init_16 : decode cX5_init 16 = .ok (.bipush 8, 2) := by decide +kernel
theorem dX5_init_18 : decode cX5_init 18 = .ok (.newarray .int, 2) := by decide +kernel
theorem dX5_init_20 : decode cX5_init 20 = .ok (.putfield 18, 3) := by decide +kernel
theorem dX5_init_23 : decode cX5_init 23 = .ok (.return_, 1) := by decide +kernel
theorem dX5_readText_0 : decode cX5_readText 0 = .ok (.aload_n 0, 1) := by decide +kernel
theorem dX5_readText_1 : decode cX5_readText 1 = .ok (.getfield 12, 3) := by decide +kernel
theorem dX5_readText_4 : decode cX5_readText 4 = .ok (.aload_n 1, 1) := by decide +kernel
theorem dX5_readText_5 : decode cX5_readText 5 = .ok (.invokevirtual 22, 3) := by decide +kernel
theorem dX5_readText_8 : decode cX5_readText 8 = .ok (.aload_n 2, 1) := by decide +kernel
theorem dX5_readText_9 : decode cX5_readText 9 = .ok (.invokevirtual 26, 3) := by decide +kernel
theorem dX5_readText_12 : decode cX5_readText 12 = .ok (.aload_n 0, 1) := by decide +kernel
theorem dX5_readText_13 : decode cX5_readText 13 = .ok (.iconst 0, 1) := by decide +kernel
theorem dX5_readText_14 : decode cX5_readText 14 = .ok (.putfield 31, 3) := by decide +kernel
theorem dX5_readText_17 : decode cX5_readText 17 = .ok (.aload_n 0, 1) := by decide +kernel
theorem dX5_readText_18 : decode cX5_readText 18 = .ok (.iconst 0, 1) := by decide +kernel
theorem dX5_readText_19 : decode cX5_readText 19 = .ok (.putfield 35, 3) := by decide +kernel
theorem dX5_readText_22 : decode cX5_readText 22 = .ok (.aload_n 0, 1) := by decide +kernel
theorem dX5_readText_23 : decode cX5_readText 23 = .ok (.iconst 0, 1) := by decide +kernel
theorem dX5_readText_24 : decode cX5_readText 24 = .ok (.putfield 38, 3) := by decide +kernel
theorem dX5_readText_27 : decode cX5_readText 27 = .ok (.aload_n 0, 1) := by decide +kernel
theorem dX5_readText_28 : decode cX5_readText 28 = .ok (.iconst 0, 1) := by decide +kernel
theorem dX5_readText_29 : decode cX5_readText 29 = .ok (.putfield 41, 3) := by decide +kernel
theorem dX5_readText_32 : decode cX5_readText 32 = .ok (.iconst 0, 1) := by decide +kernel
theorem dX5_readText_33 : decode cX5_readText 33 = .ok (.istore_n 3, 1) := by decide +kernel
theorem dX5_readText_34 : decode cX5_readText 34 = .ok (.iload_n 3, 1) := by decide +kernel
theorem dX5_readText_35 : decode cX5_readText 35 = .ok (.sipush 400, 3) := by decide +kernel
theorem dX5_readText_38 : decode cX5_readText 38 = .ok (.if_icmp .gt 168, 3) := by decide +kernel
theorem dX5_readText_41 : decode cX5_readText 41 = .ok (.aload_n 0, 1) := by decide +kernel
theorem dX5_readText_42 : decode cX5_readText 42 = .ok (.getfield 35, 3) := by decide +kernel
theorem dX5_readText_45 : decode cX5_readText 45 = .ok (.ifCond .ne 161, 3) := by decide +kernel
theorem dX5_readText_48 : decode cX5_readText 48 = .ok (.aload_n 0, 1) := by decide +kernel
theorem dX5_readText_49 : decode cX5_readText 49 = .ok (.getfield 12, 3) := by decide +kernel
theorem dX5_readText_52 : decode cX5_readText 52 = .ok (.getfield 44, 3) := by decide +kernel
theorem dX5_readText_55 : decode cX5_readText 55 = .ok (.aload_n 0, 1) := by decide +kernel
theorem dX5_readText_56 : decode cX5_readText 56 = .ok (.getfield 31, 3) := by decide +kernel
theorem dX5_readText_59 : decode cX5_readText 59 = .ok (.iaload, 1) := by decide +kernel
theorem dX5_readText_60 : decode cX5_readText 60 = .ok (.sipush 302, 3) := by decide +kernel
theorem dX5_readText_63 : decode cX5_readText 63 = .ok (.if_icmp .eq 143, 3) := by decide +kernel
theorem dX5_readText_66 : decode cX5_readText 66 = .ok (.aload_n 0, 1) := by decide +kernel
theorem dX5_readText_67 : decode cX5_readText 67 = .ok (.getfield 12, 3) := by decide +kernel
theorem dX5_readText_70 : decode cX5_readText 70 = .ok (.getfield 44, 3) := by decide +kernel
theorem dX5_readText_73 : decode cX5_readText 73 = .ok (.aload_n 0, 1) := by decide +kernel
theorem dX5_readText_74 : decode cX5_readText 74 = .ok (.getfield 31, 3) := by decide +kernel
theorem dX5_readText_77 : decode cX5_readText 77 = .ok (.iaload, 1) := by decide +kernel
theorem dX5_readText_78 : decode cX5_readText 78 = .ok (.tableswitch 117 256 263 #[46, 54, 62, 70, 78, 87, 95, 106], 46) := by decide +kernel
theorem dX5_readText_124 : decode cX5_readText 124 = .ok (.aload_n 0, 1) := by decide +kernel
theorem dX5_readText_125 : decode cX5_readText 125 = .ok (.aload_n 2, 1) := by decide +kernel
theorem dX5_readText_126 : decode cX5_readText 126 = .ok (.invokevirtual 47, 3) := by decide +kernel
theorem dX5_readText_129 : decode cX5_readText 129 = .ok (.goto 71, 3) := by decide +kernel
theorem dX5_readText_132 : decode cX5_readText 132 = .ok (.aload_n 0, 1) := by decide +kernel
theorem dX5_readText_133 : decode cX5_readText 133 = .ok (.aload_n 2, 1) := by decide +kernel
theorem dX5_readText_134 : decode cX5_readText 134 = .ok (.invokevirtual 51, 3) := by decide +kernel
theorem dX5_readText_137 : decode cX5_readText 137 = .ok (.goto 63, 3) := by decide +kernel
theorem dX5_readText_140 : decode cX5_readText 140 = .ok (.aload_n 0, 1) := by decide +kernel
theorem dX5_readText_141 : decode cX5_readText 141 = .ok (.aload_n 2, 1) := by decide +kernel
theorem dX5_readText_142 : decode cX5_readText 142 = .ok (.invokevirtual 54, 3) := by decide +kernel
theorem dX5_readText_145 : decode cX5_readText 145 = .ok (.goto 55, 3) := by decide +kernel
theorem dX5_readText_148 : decode cX5_readText 148 = .ok (.aload_n 0, 1) := by decide +kernel
theorem dX5_readText_149 : decode cX5_readText 149 = .ok (.aload_n 2, 1) := by decide +kernel
theorem dX5_readText_150 : decode cX5_readText 150 = .ok (.invokevirtual 57, 3) := by decide +kernel
theorem dX5_readText_153 : decode cX5_readText 153 = .ok (.goto 47, 3) := by decide +kernel
theorem dX5_readText_156 : decode cX5_readText 156 = .ok (.aload_n 0, 1) := by decide +kernel
theorem dX5_readText_157 : decode cX5_readText 157 = .ok (.aload_n 1, 1) := by decide +kernel
theorem dX5_readText_158 : decode cX5_readText 158 = .ok (.aload_n 2, 1) := by decide +kernel
theorem dX5_readText_159 : decode cX5_readText 159 = .ok (.invokevirtual 60, 3) := by decide +kernel
theorem dX5_readText_162 : decode cX5_readText 162 = .ok (.goto 38, 3) := by decide +kernel
theorem dX5_readText_165 : decode cX5_readText 165 = .ok (.aload_n 0, 1) := by decide +kernel
theorem dX5_readText_166 : decode cX5_readText 166 = .ok (.aload_n 2, 1) := by decide +kernel
theorem dX5_readText_167 : decode cX5_readText 167 = .ok (.invokevirtual 64, 3) := by decide +kernel
theorem dX5_readText_170 : decode cX5_readText 170 = .ok (.goto 30, 3) := by decide +kernel
theorem dX5_readText_173 : decode cX5_readText 173 = .ok (.aload_n 0, 1) := by decide +kernel
theorem dX5_readText_174 : decode cX5_readText 174 = .ok (.aload_n 2, 1) := by decide +kernel
theorem dX5_readText_175 : decode cX5_readText 175 = .ok (.getfield 67, 3) := by decide +kernel
theorem dX5_readText_178 : decode cX5_readText 178 = .ok (.invokevirtual 71, 3) := by decide +kernel
theorem dX5_readText_181 : decode cX5_readText 181 = .ok (.goto 19, 3) := by decide +kernel
theorem dX5_readText_184 : decode cX5_readText 184 = .ok (.aload_n 0, 1) := by decide +kernel
theorem dX5_readText_185 : decode cX5_readText 185 = .ok (.aload_n 2, 1) := by decide +kernel
theorem dX5_readText_186 : decode cX5_readText 186 = .ok (.getfield 75, 3) := by decide +kernel
theorem dX5_readText_189 : decode cX5_readText 189 = .ok (.invokevirtual 71, 3) := by decide +kernel
theorem dX5_readText_192 : decode cX5_readText 192 = .ok (.goto 8, 3) := by decide +kernel
theorem dX5_readText_195 : decode cX5_readText 195 = .ok (.aload_n 0, 1) := by decide +kernel
theorem dX5_readText_196 : decode cX5_readText 196 = .ok (.iconst 1, 1) := by decide +kernel
theorem dX5_readText_197 : decode cX5_readText 197 = .ok (.invokevirtual 78, 3) := by decide +kernel
theorem dX5_readText_200 : decode cX5_readText 200 = .ok (.iinc 3 1, 3) := by decide +kernel
theorem dX5_readText_203 : decode cX5_readText 203 = .ok (.goto (-169), 3) := by decide +kernel
theorem dX5_readText_206 : decode cX5_readText 206 = .ok (.aload_n 0, 1) := by decide +kernel
theorem dX5_readText_207 : decode cX5_readText 207 = .ok (.getfield 35, 3) := by decide +kernel
theorem dX5_readText_210 : decode cX5_readText 210 = .ok (.ifCond .eq 10, 3) := by decide +kernel
theorem dX5_readText_213 : decode cX5_readText 213 = .ok (.aload_n 0, 1) := by decide +kernel
theorem dX5_readText_214 : decode cX5_readText 214 = .ok (.getfield 35, 3) := by decide +kernel
theorem dX5_readText_217 : decode cX5_readText 217 = .ok (.goto 7, 3) := by decide +kernel
theorem dX5_readText_220 : decode cX5_readText 220 = .ok (.aload_n 0, 1) := by decide +kernel
theorem dX5_readText_221 : decode cX5_readText 221 = .ok (.getfield 38, 3) := by decide +kernel
theorem dX5_readText_224 : decode cX5_readText 224 = .ok (.ireturn, 1) := by decide +kernel
theorem dX5_faultPlace_0 : decode cX5_faultPlace 0 = .ok (.aload_n 0, 1) := by decide +kernel
theorem dX5_faultPlace_1 : decode cX5_faultPlace 1 = .ok (.getfield 35, 3) := by decide +kernel
theorem dX5_faultPlace_4 : decode cX5_faultPlace 4 = .ok (.ifCond .eq 10, 3) := by decide +kernel
theorem dX5_faultPlace_7 : decode cX5_faultPlace 7 = .ok (.aload_n 0, 1) := by decide +kernel
theorem dX5_faultPlace_8 : decode cX5_faultPlace 8 = .ok (.getfield 82, 3) := by decide +kernel
theorem dX5_faultPlace_11 : decode cX5_faultPlace 11 = .ok (.goto 7, 3) := by decide +kernel
theorem dX5_faultPlace_14 : decode cX5_faultPlace 14 = .ok (.aload_n 0, 1) := by decide +kernel
theorem dX5_faultPlace_15 : decode cX5_faultPlace 15 = .ok (.getfield 85, 3) := by decide +kernel
theorem dX5_faultPlace_18 : decode cX5_faultPlace 18 = .ok (.ireturn, 1) := by decide +kernel
theorem dX5_readRiver_0 : decode cX5_readRiver 0 = .ok (.aload_n 0, 1) := by decide +kernel
theorem dX5_readRiver_1 : decode cX5_readRiver 1 = .ok (.sipush 256, 3) := by decide +kernel
theorem dX5_readRiver_4 : decode cX5_readRiver 4 = .ok (.invokevirtual 88, 3) := by decide +kernel
theorem dX5_readRiver_7 : decode cX5_readRiver 7 = .ok (.aload_n 1, 1) := by decide +kernel
theorem dX5_readRiver_8 : decode cX5_readRiver 8 = .ok (.aload_n 0, 1) := by decide +kernel
theorem dX5_readRiver_9 : decode cX5_readRiver 9 = .ok (.iconst 1, 1) := by decide +kernel
theorem dX5_readRiver_10 : decode cX5_readRiver 10 = .ok (.bipush 12, 2) := by decide +kernel
theorem dX5_readRiver_12 : decode cX5_readRiver 12 = .ok (.invokevirtual 91, 3) := by decide +kernel
theorem dX5_readRiver_15 : decode cX5_readRiver 15 = .ok (.putfield 95, 3) := by decide +kernel
theorem dX5_readRiver_18 : decode cX5_readRiver 18 = .ok (.aload_n 1, 1) := by decide +kernel
theorem dX5_readRiver_19 : decode cX5_readRiver 19 = .ok (.aload_n 0, 1) := by decide +kernel
theorem dX5_readRiver_20 : decode cX5_readRiver 20 = .ok (.iconst 1, 1) := by decide +kernel
theorem dX5_readRiver_21 : decode cX5_readRiver 21 = .ok (.bipush 8, 2) := by decide +kernel
theorem dX5_readRiver_23 : decode cX5_readRiver 23 = .ok (.invokevirtual 91, 3) := by decide +kernel
theorem dX5_readRiver_26 : decode cX5_readRiver 26 = .ok (.putfield 98, 3) := by decide +kernel
theorem dX5_readRiver_29 : decode cX5_readRiver 29 = .ok (.aload_n 0, 1) := by decide +kernel
theorem dX5_readRiver_30 : decode cX5_readRiver 30 = .ok (.bipush 59, 2) := by decide +kernel
theorem dX5_readRiver_32 : decode cX5_readRiver 32 = .ok (.invokevirtual 88, 3) := by decide +kernel
theorem dX5_readRiver_35 : decode cX5_readRiver 35 = .ok (.return_, 1) := by decide +kernel
theorem dX5_readDepth_0 : decode cX5_readDepth 0 = .ok (.aload_n 0, 1) := by decide +kernel
theorem dX5_readDepth_1 : decode cX5_readDepth 1 = .ok (.getfield 41, 3) := by decide +kernel
theorem dX5_readDepth_4 : decode cX5_readDepth 4 = .ok (.bipush 20, 2) := by decide +kernel
theorem dX5_readDepth_6 : decode cX5_readDepth 6 = .ok (.if_icmp .lt 8, 3) := by decide +kernel
theorem dX5_readDepth_9 : decode cX5_readDepth 9 = .ok (.aload_n 0, 1) := by decide +kernel
theorem dX5_readDepth_10 : decode cX5_readDepth 10 = .ok (.iconst 2, 1) := by decide +kernel
theorem dX5_readDepth_11 : decode cX5_readDepth 11 = .ok (.invokevirtual 78, 3) := by decide +kernel
theorem dX5_readDepth_14 : decode cX5_readDepth 14 = .ok (.aload_n 0, 1) := by decide +kernel
theorem dX5_readDepth_15 : decode cX5_readDepth 15 = .ok (.dup, 1) := by decide +kernel
theorem dX5_readDepth_16 : decode cX5_readDepth 16 = .ok (.getfield 41, 3) := by decide +kernel
theorem dX5_readDepth_19 : decode cX5_readDepth 19 = .ok (.iconst 1, 1) := by decide +kernel
theorem dX5_readDepth_20 : decode cX5_readDepth 20 = .ok (.iadd, 1) := by decide +kernel
theorem dX5_readDepth_21 : decode cX5_readDepth 21 = .ok (.putfield 41, 3) := by decide +kernel
theorem dX5_readDepth_24 : decode cX5_readDepth 24 = .ok (.aload_n 0, 1) := by decide +kernel
theorem dX5_readDepth_25 : decode cX5_readDepth 25 = .ok (.sipush 257, 3) := by decide +kernel
theorem dX5_readDepth_28 : decode cX5_readDepth 28 = .ok (.invokevirtual 88, 3) := by decide +kernel
theorem dX5_readDepth_31 : decode cX5_readDepth 31 = .ok (.aload_n 0, 1) := by decide +kernel
theorem dX5_readDepth_32 : decode cX5_readDepth 32 = .ok (.iconst 0, 1) := by decide +kernel
theorem dX5_readDepth_33 : decode cX5_readDepth 33 = .ok (.bipush 11, 2) := by decide +kernel
theorem dX5_readDepth_35 : decode cX5_readDepth 35 = .ok (.invokevirtual 91, 3) := by decide +kernel
theorem dX5_readDepth_38 : decode cX5_readDepth 38 = .ok (.istore_n 2, 1) := by decide +kernel
theorem dX5_readDepth_39 : decode cX5_readDepth 39 = .ok (.aload_n 0, 1) := by decide +kernel
theorem dX5_readDepth_40 : decode cX5_readDepth 40 = .ok (.iconst 0, 1) := by decide +kernel
theorem dX5_readDepth_41 : decode cX5_readDepth 41 = .ok (.bipush 7, 2) := by decide +kernel
theorem dX5_readDepth_43 : decode cX5_readDepth 43 = .ok (.invokevirtual 91, 3) := by decide +kernel
theorem dX5_readDepth_46 : decode cX5_readDepth 46 = .ok (.istore_n 3, 1) := by decide +kernel
theorem dX5_readDepth_47 : decode cX5_readDepth 47 = .ok (.aload_n 1, 1) := by decide +kernel
theorem dX5_readDepth_48 : decode cX5_readDepth 48 = .ok (.getfield 101, 3) := by decide +kernel
theorem dX5_readDepth_51 : decode cX5_readDepth 51 = .ok (.iload_n 2, 1) := by decide +kernel
theorem dX5_readDepth_52 : decode cX5_readDepth 52 = .ok (.iload_n 3, 1) := by decide +kernel
theorem dX5_readDepth_53 : decode cX5_readDepth 53 = .ok (.invokestatic 103, 3) := by decide +kernel
theorem dX5_readDepth_56 : decode cX5_readDepth 56 = .ok (.aload_n 0, 1) := by decide +kernel
theorem dX5_readDepth_57 : decode cX5_readDepth 57 = .ok (.iconst 0, 1) := by decide +kernel
theorem dX5_readDepth_58 : decode cX5_readDepth 58 = .ok (.bipush 9, 2) := by decide +kernel
theorem dX5_readDepth_60 : decode cX5_readDepth 60 = .ok (.invokevirtual 91, 3) := by decide +kernel
theorem dX5_readDepth_63 : decode cX5_readDepth 63 = .ok (.iastore, 1) := by decide +kernel
theorem dX5_readDepth_64 : decode cX5_readDepth 64 = .ok (.aload_n 0, 1) := by decide +kernel
theorem dX5_readDepth_65 : decode cX5_readDepth 65 = .ok (.bipush 59, 2) := by decide +kernel
theorem dX5_readDepth_67 : decode cX5_readDepth 67 = .ok (.invokevirtual 88, 3) := by decide +kernel
theorem dX5_readDepth_70 : decode cX5_readDepth 70 = .ok (.return_, 1) := by decide +kernel
theorem dX5_readFlow_0 : decode cX5_readFlow 0 = .ok (.aload_n 0, 1) := by decide +kernel
theorem dX5_readFlow_1 : decode cX5_readFlow 1 = .ok (.sipush 258, 3) := by decide +kernel
theorem dX5_readFlow_4 : decode cX5_readFlow 4 = .ok (.invokevirtual 88, 3) := by decide +kernel
theorem dX5_readFlow_7 : decode cX5_readFlow 7 = .ok (.aload_n 0, 1) := by decide +kernel
theorem dX5_readFlow_8 : decode cX5_readFlow 8 = .ok (.iconst 0, 1) := by decide +kernel
theorem dX5_readFlow_9 : decode cX5_readFlow 9 = .ok (.bipush 7, 2) := by decide +kernel
theorem dX5_readFlow_11 : decode cX5_readFlow 11 = .ok (.invokevirtual 91, 3) := by decide +kernel
theorem dX5_readFlow_14 : decode cX5_readFlow 14 = .ok (.istore_n 2, 1) := by decide +kernel
theorem dX5_readFlow_15 : decode cX5_readFlow 15 = .ok (.aload_n 1, 1) := by decide +kernel
theorem dX5_readFlow_16 : decode cX5_readFlow 16 = .ok (.getfield 106, 3) := by decide +kernel
theorem dX5_readFlow_19 : decode cX5_readFlow 19 = .ok (.iload_n 2, 1) := by decide +kernel
theorem dX5_readFlow_20 : decode cX5_readFlow 20 = .ok (.aload_n 0, 1) := by decide +kernel
theorem dX5_readFlow_21 : decode cX5_readFlow 21 = .ok (.iconst 0, 1) := by decide +kernel
theorem dX5_readFlow_22 : decode cX5_readFlow 22 = .ok (.bipush 9, 2) := by decide +kernel
theorem dX5_readFlow_24 : decode cX5_readFlow 24 = .ok (.invokevirtual 91, 3) := by decide +kernel
theorem dX5_readFlow_27 : decode cX5_readFlow 27 = .ok (.iastore, 1) := by decide +kernel
theorem dX5_readFlow_28 : decode cX5_readFlow 28 = .ok (.aload_n 0, 1) := by decide +kernel
theorem dX5_readFlow_29 : decode cX5_readFlow 29 = .ok (.bipush 59, 2) := by decide +kernel
theorem dX5_readFlow_31 : decode cX5_readFlow 31 = .ok (.invokevirtual 88, 3) := by decide +kernel
theorem dX5_readFlow_34 : decode cX5_readFlow 34 = .ok (.return_, 1) := by decide +kernel
theorem dX5_readLeap_0 : decode cX5_readLeap 0 = .ok (.aload_n 0, 1) := by decide +kernel
theorem dX5_readLeap_1 : decode cX5_readLeap 1 = .ok (.sipush 259, 3) := by decide +kernel
theorem dX5_readLeap_4 : decode cX5_readLeap 4 = .ok (.invokevirtual 88, 3) := by decide +kernel
theorem dX5_readLeap_7 : decode cX5_readLeap 7 = .ok (.aload_n 1, 1) := by decide +kernel
theorem dX5_readLeap_8 : decode cX5_readLeap 8 = .ok (.aload_n 0, 1) := by decide +kernel
theorem dX5_readLeap_9 : decode cX5_readLeap 9 = .ok (.iconst 1, 1) := by decide +kernel
theorem dX5_readLeap_10 : decode cX5_readLeap 10 = .ok (.iconst 4, 1) := by decide +kernel
theorem dX5_readLeap_11 : decode cX5_readLeap 11 = .ok (.invokevirtual 91, 3) := by decide +kernel
theorem dX5_readLeap_14 : decode cX5_readLeap 14 = .ok (.putfield 109, 3) := by decide +kernel
theorem dX5_readLeap_17 : decode cX5_readLeap 17 = .ok (.aload_n 0, 1) := by decide +kernel
theorem dX5_readLeap_18 : decode cX5_readLeap 18 = .ok (.bipush 59, 2) := by decide +kernel
theorem dX5_readLeap_20 : decode cX5_readLeap 20 = .ok (.invokevirtual 88, 3) := by decide +kernel
theorem dX5_readLeap_23 : decode cX5_readLeap 23 = .ok (.return_, 1) := by decide +kernel
theorem dX5_readLeaver_0 : decode cX5_readLeaver 0 = .ok (.aload_n 2, 1) := by decide +kernel
theorem dX5_readLeaver_1 : decode cX5_readLeaver 1 = .ok (.getfield 112, 3) := by decide +kernel
theorem dX5_readLeaver_4 : decode cX5_readLeaver 4 = .ok (.istore_n 3, 1) := by decide +kernel
theorem dX5_readLeaver_5 : decode cX5_readLeaver 5 = .ok (.iload_n 3, 1) := by decide +kernel
theorem dX5_readLeaver_6 : decode cX5_readLeaver 6 = .ok (.bipush 8, 2) := by decide +kernel
theorem dX5_readLeaver_8 : decode cX5_readLeaver 8 = .ok (.if_icmp .lt 9, 3) := by decide +kernel
theorem dX5_readLeaver_11 : decode cX5_readLeaver 11 = .ok (.aload_n 0, 1) := by decide +kernel
theorem dX5_readLeaver_12 : decode cX5_readLeaver 12 = .ok (.iconst 2, 1) := by decide +kernel
theorem dX5_readLeaver_13 : decode cX5_readLeaver 13 = .ok (.invokevirtual 78, 3) := by decide +kernel
theorem dX5_readLeaver_16 : decode cX5_readLeaver 16 = .ok (.return_, 1) := by decide +kernel
theorem dX5_readLeaver_17 : decode cX5_readLeaver 17 = .ok (.aload_n 0, 1) := by decide +kernel
theorem dX5_readLeaver_18 : decode cX5_readLeaver 18 = .ok (.sipush 260, 3) := by decide +kernel
theorem dX5_readLeaver_21 : decode cX5_readLeaver 21 = .ok (.invokevirtual 88, 3) := by decide +kernel
theorem dX5_readLeaver_24 : decode cX5_readLeaver 24 = .ok (.aload_n 0, 1) := by decide +kernel
theorem dX5_readLeaver_25 : decode cX5_readLeaver 25 = .ok (.aload_n 1, 1) := by decide +kernel
theorem dX5_readLeaver_26 : decode cX5_readLeaver 26 = .ok (.iload_n 3, 1) := by decide +kernel
theorem dX5_readLeaver_27 : decode cX5_readLeaver 27 = .ok (.invokevirtual 115, 3) := by decide +kernel
theorem dX5_readLeaver_30 : decode cX5_readLeaver 30 = .ok (.aload_n 2, 1) := by decide +kernel
theorem dX5_readLeaver_31 : decode cX5_readLeaver 31 = .ok (.getfield 119, 3) := by decide +kernel
theorem dX5_readLeaver_34 : decode cX5_readLeaver 34 = .ok (.iload_n 3, 1) := by decide +kernel
theorem dX5_readLeaver_35 : decode cX5_readLeaver 35 = .ok (.aload_n 0, 1) := by decide +kernel
theorem dX5_readLeaver_36 : decode cX5_readLeaver 36 = .ok (.iconst 0, 1) := by decide +kernel
theorem dX5_readLeaver_37 : decode cX5_readLeaver 37 = .ok (.bipush 99, 2) := by decide +kernel
theorem dX5_readLeaver_39 : decode cX5_readLeaver 39 = .ok (.invokevirtual 91, 3) := by decide +kernel
theorem dX5_readLeaver_42 : decode cX5_readLeaver 42 = .ok (.iastore, 1) := by decide +kernel
theorem dX5_readLeaver_43 : decode cX5_readLeaver 43 = .ok (.aload_n 2, 1) := by decide +kernel
theorem dX5_readLeaver_44 : decode cX5_readLeaver 44 = .ok (.getfield 122, 3) := by decide +kernel
theorem dX5_readLeaver_47 : decode cX5_readLeaver 47 = .ok (.iload_n 3, 1) := by decide +kernel
theorem dX5_readLeaver_48 : decode cX5_readLeaver 48 = .ok (.aload_n 0, 1) := by decide +kernel
theorem dX5_readLeaver_49 : decode cX5_readLeaver 49 = .ok (.iconst 1, 1) := by decide +kernel
theorem dX5_readLeaver_50 : decode cX5_readLeaver 50 = .ok (.bipush 9, 2) := by decide +kernel
theorem dX5_readLeaver_52 : decode cX5_readLeaver 52 = .ok (.invokevirtual 91, 3) := by decide +kernel
theorem dX5_readLeaver_55 : decode cX5_readLeaver 55 = .ok (.iastore, 1) := by decide +kernel
theorem dX5_readLeaver_56 : decode cX5_readLeaver 56 = .ok (.aload_n 2, 1) := by decide +kernel
theorem dX5_readLeaver_57 : decode cX5_readLeaver 57 = .ok (.getfield 125, 3) := by decide +kernel
theorem dX5_readLeaver_60 : decode cX5_readLeaver 60 = .ok (.iload_n 3, 1) := by decide +kernel
theorem dX5_readLeaver_61 : decode cX5_readLeaver 61 = .ok (.aload_n 0, 1) := by decide +kernel
theorem dX5_readLeaver_62 : decode cX5_readLeaver 62 = .ok (.iconst 1, 1) := by decide +kernel
theorem dX5_readLeaver_63 : decode cX5_readLeaver 63 = .ok (.bipush 9, 2) := by decide +kernel
theorem dX5_readLeaver_65 : decode cX5_readLeaver 65 = .ok (.invokevirtual 91, 3) := by decide +kernel
theorem dX5_readLeaver_68 : decode cX5_readLeaver 68 = .ok (.iastore, 1) := by decide +kernel
theorem dX5_readLeaver_69 : decode cX5_readLeaver 69 = .ok (.aload_n 2, 1) := by decide +kernel
theorem dX5_readLeaver_70 : decode cX5_readLeaver 70 = .ok (.getfield 128, 3) := by decide +kernel
theorem dX5_readLeaver_73 : decode cX5_readLeaver 73 = .ok (.iload_n 3, 1) := by decide +kernel
theorem dX5_readLeaver_74 : decode cX5_readLeaver 74 = .ok (.aload_n 0, 1) := by decide +kernel
theorem dX5_readLeaver_75 : decode cX5_readLeaver 75 = .ok (.iconst 0, 1) := by decide +kernel
theorem dX5_readLeaver_76 : decode cX5_readLeaver 76 = .ok (.bipush 99, 2) := by decide +kernel
theorem dX5_readLeaver_78 : decode cX5_readLeaver 78 = .ok (.invokevirtual 91, 3) := by decide +kernel
theorem dX5_readLeaver_81 : decode cX5_readLeaver 81 = .ok (.iastore, 1) := by decide +kernel
theorem dX5_readLeaver_82 : decode cX5_readLeaver 82 = .ok (.aload_n 0, 1) := by decide +kernel
theorem dX5_readLeaver_83 : decode cX5_readLeaver 83 = .ok (.bipush 59, 2) := by decide +kernel
theorem dX5_readLeaver_85 : decode cX5_readLeaver 85 = .ok (.invokevirtual 88, 3) := by decide +kernel
theorem dX5_readLeaver_88 : decode cX5_readLeaver 88 = .ok (.aload_n 2, 1) := by decide +kernel
theorem dX5_readLeaver_89 : decode cX5_readLeaver 89 = .ok (.dup, 1) := by decide +kernel
theorem dX5_readLeaver_90 : decode cX5_readLeaver 90 = .ok (.getfield 112, 3) := by decide +kernel
theorem dX5_readLeaver_93 : decode cX5_readLeaver 93 = .ok (.iconst 1, 1) := by decide +kernel
theorem dX5_readLeaver_94 : decode cX5_readLeaver 94 = .ok (.iadd, 1) := by decide +kernel
theorem dX5_readLeaver_95 : decode cX5_readLeaver 95 = .ok (.putfield 112, 3) := by decide +kernel
theorem dX5_readLeaver_98 : decode cX5_readLeaver 98 = .ok (.return_, 1) := by decide +kernel
theorem dX5_takeName_0 : decode cX5_takeName 0 = .ok (.aload_n 0, 1) := by decide +kernel
theorem dX5_takeName_1 : decode cX5_takeName 1 = .ok (.getfield 31, 3) := by decide +kernel
theorem dX5_takeName_4 : decode cX5_takeName 4 = .ok (.istore_n 3, 1) := by decide +kernel
theorem dX5_takeName_5 : decode cX5_takeName 5 = .ok (.aload_n 0, 1) := by decide +kernel
theorem dX5_takeName_6 : decode cX5_takeName 6 = .ok (.getfield 18, 3) := by decide +kernel
theorem dX5_takeName_9 : decode cX5_takeName 9 = .ok (.iload_n 2, 1) := by decide +kernel
theorem dX5_takeName_10 : decode cX5_takeName 10 = .ok (.iload_n 3, 1) := by decide +kernel
theorem dX5_takeName_11 : decode cX5_takeName 11 = .ok (.iastore, 1) := by decide +kernel
theorem dX5_takeName_12 : decode cX5_takeName 12 = .ok (.aload_n 0, 1) := by decide +kernel
theorem dX5_takeName_13 : decode cX5_takeName 13 = .ok (.sipush 300, 3) := by decide +kernel
theorem dX5_takeName_16 : decode cX5_takeName 16 = .ok (.invokevirtual 88, 3) := by decide +kernel
theorem dX5_takeName_19 : decode cX5_takeName 19 = .ok (.aload_n 0, 1) := by decide +kernel
theorem dX5_takeName_20 : decode cX5_takeName 20 = .ok (.getfield 35, 3) := by decide +kernel
theorem dX5_takeName_23 : decode cX5_takeName 23 = .ok (.ifCond .eq 4, 3) := by decide +kernel
theorem dX5_takeName_26 : decode cX5_takeName 26 = .ok (.return_, 1) := by decide +kernel
theorem dX5_takeName_27 : decode cX5_takeName 27 = .ok (.iconst 0, 1) := by decide +kernel
theorem dX5_takeName_28 : decode cX5_takeName 28 = .ok (.istore 4, 2) := by decide +kernel
theorem dX5_takeName_30 : decode cX5_takeName 30 = .ok (.iload 4, 2) := by decide +kernel
theorem dX5_takeName_32 : decode cX5_takeName 32 = .ok (.iload_n 2, 1) := by decide +kernel
theorem dX5_takeName_33 : decode cX5_takeName 33 = .ok (.if_icmp .ge 39, 3) := by decide +kernel
theorem dX5_takeName_36 : decode cX5_takeName 36 = .ok (.aload_n 0, 1) := by decide +kernel
theorem dX5_takeName_37 : decode cX5_takeName 37 = .ok (.aload_n 1, 1) := by decide +kernel
theorem dX5_takeName_38 : decode cX5_takeName 38 = .ok (.iload_n 3, 1) := by decide +kernel
theorem dX5_takeName_39 : decode cX5_takeName 39 = .ok (.aload_n 0, 1) := by decide +kernel
theorem dX5_takeName_40 : decode cX5_takeName 40 = .ok (.getfield 18, 3) := by decide +kernel
theorem dX5_takeName_43 : decode cX5_takeName 43 = .ok (.iload 4, 2) := by decide +kernel
theorem dX5_takeName_45 : decode cX5_takeName 45 = .ok (.iaload, 1) := by decide +kernel
theorem dX5_takeName_46 : decode cX5_takeName 46 = .ok (.invokevirtual 131, 3) := by decide +kernel
theorem dX5_takeName_49 : decode cX5_takeName 49 = .ok (.ifCond .eq 17, 3) := by decide +kernel
theorem dX5_takeName_52 : decode cX5_takeName 52 = .ok (.aload_n 0, 1) := by decide +kernel
theorem dX5_takeName_53 : decode cX5_takeName 53 = .ok (.iconst 3, 1) := by decide +kernel
theorem dX5_takeName_54 : decode cX5_takeName 54 = .ok (.aload_n 0, 1) := by decide +kernel
theorem dX5_takeName_55 : decode cX5_takeName 55 = .ok (.getfield 12, 3) := by decide +kernel
theorem dX5_takeName_58 : decode cX5_takeName 58 = .ok (.getfield 135, 3) := by decide +kernel
theorem dX5_takeName_61 : decode cX5_takeName 61 = .ok (.iload_n 3, 1) := by decide +kernel
theorem dX5_takeName_62 : decode cX5_takeName 62 = .ok (.iaload, 1) := by decide +kernel
theorem dX5_takeName_63 : decode cX5_takeName 63 = .ok (.invokevirtual 138, 3) := by decide +kernel
theorem dX5_takeName_66 : decode cX5_takeName 66 = .ok (.iinc 4 1, 3) := by decide +kernel
theorem dX5_takeName_69 : decode cX5_takeName 69 = .ok (.goto (-39), 3) := by decide +kernel
theorem dX5_takeName_72 : decode cX5_takeName 72 = .ok (.return_, 1) := by decide +kernel
theorem dX5_isSameName_0 : decode cX5_isSameName 0 = .ok (.aload_n 0, 1) := by decide +kernel
theorem dX5_isSameName_1 : decode cX5_isSameName 1 = .ok (.getfield 12, 3) := by decide +kernel
theorem dX5_isSameName_4 : decode cX5_isSameName 4 = .ok (.getfield 142, 3) := by decide +kernel
theorem dX5_isSameName_7 : decode cX5_isSameName 7 = .ok (.iload_n 2, 1) := by decide +kernel
theorem dX5_isSameName_8 : decode cX5_isSameName 8 = .ok (.iaload, 1) := by decide +kernel
theorem dX5_isSameName_9 : decode cX5_isSameName 9 = .ok (.aload_n 0, 1) := by decide +kernel
theorem dX5_isSameName_10 : decode cX5_isSameName 10 = .ok (.getfield 12, 3) := by decide +kernel
theorem dX5_isSameName_13 : decode cX5_isSameName 13 = .ok (.getfield 142, 3) := by decide +kernel
theorem dX5_isSameName_16 : decode cX5_isSameName 16 = .ok (.iload_n 3, 1) := by decide +kernel
theorem dX5_isSameName_17 : decode cX5_isSameName 17 = .ok (.iaload, 1) := by decide +kernel
theorem dX5_isSameName_18 : decode cX5_isSameName 18 = .ok (.if_icmp .eq 5, 3) := by decide +kernel
theorem dX5_isSameName_21 : decode cX5_isSameName 21 = .ok (.iconst 0, 1) := by decide +kernel
theorem dX5_isSameName_22 : decode cX5_isSameName 22 = .ok (.ireturn, 1) := by decide +kernel
theorem dX5_isSameName_23 : decode cX5_isSameName 23 = .ok (.iconst 0, 1) := by decide +kernel
theorem dX5_isSameName_24 : decode cX5_isSameName 24 = .ok (.istore 4, 2) := by decide +kernel
theorem dX5_isSameName_26 : decode cX5_isSameName 26 = .ok (.iload 4, 2) := by decide +kernel
theorem dX5_isSameName_28 : decode cX5_isSameName 28 = .ok (.aload_n 0, 1) := by decide +kernel
theorem dX5_isSameName_29 : decode cX5_isSameName 29 = .ok (.getfield 12, 3) := by decide +kernel
theorem dX5_isSameName_32 : decode cX5_isSameName 32 = .ok (.getfield 142, 3) := by decide +kernel
theorem dX5_isSameName_35 : decode cX5_isSameName 35 = .ok (.iload_n 2, 1) := by decide +kernel
theorem dX5_isSameName_36 : decode cX5_isSameName 36 = .ok (.iaload, 1) := by decide +kernel
theorem dX5_isSameName_37 : decode cX5_isSameName 37 = .ok (.if_icmp .ge 46, 3) := by decide +kernel
theorem dX5_isSameName_40 : decode cX5_isSameName 40 = .ok (.aload_n 1, 1) := by decide +kernel
theorem dX5_isSameName_41 : decode cX5_isSameName 41 = .ok (.aload_n 0, 1) := by decide +kernel
theorem dX5_isSameName_42 : decode cX5_isSameName 42 = .ok (.getfield 12, 3) := by decide +kernel
theorem dX5_isSameName_45 : decode cX5_isSameName 45 = .ok (.getfield 135, 3) := by decide +kernel
theorem dX5_isSameName_48 : decode cX5_isSameName 48 = .ok (.iload_n 2, 1) := by decide +kernel
theorem dX5_isSameName_49 : decode cX5_isSameName 49 = .ok (.iaload, 1) := by decide +kernel
theorem dX5_isSameName_50 : decode cX5_isSameName 50 = .ok (.iload 4, 2) := by decide +kernel
theorem dX5_isSameName_52 : decode cX5_isSameName 52 = .ok (.iadd, 1) := by decide +kernel
theorem dX5_isSameName_53 : decode cX5_isSameName 53 = .ok (.invokevirtual 143, 3) := by decide +kernel
theorem dX5_isSameName_56 : decode cX5_isSameName 56 = .ok (.aload_n 1, 1) := by decide +kernel
theorem dX5_isSameName_57 : decode cX5_isSameName 57 = .ok (.aload_n 0, 1) := by decide +kernel
theorem dX5_isSameName_58 : decode cX5_isSameName 58 = .ok (.getfield 12, 3) := by decide +kernel
theorem dX5_isSameName_61 : decode cX5_isSameName 61 = .ok (.getfield 135, 3) := by decide +kernel
theorem dX5_isSameName_64 : decode cX5_isSameName 64 = .ok (.iload_n 3, 1) := by decide +kernel
theorem dX5_isSameName_65 : decode cX5_isSameName 65 = .ok (.iaload, 1) := by decide +kernel
theorem dX5_isSameName_66 : decode cX5_isSameName 66 = .ok (.iload 4, 2) := by decide +kernel
theorem dX5_isSameName_68 : decode cX5_isSameName 68 = .ok (.iadd, 1) := by decide +kernel
theorem dX5_isSameName_69 : decode cX5_isSameName 69 = .ok (.invokevirtual 143, 3) := by decide +kernel
theorem dX5_isSameName_72 : decode cX5_isSameName 72 = .ok (.if_icmp .eq 5, 3) := by decide +kernel
theorem dX5_isSameName_75 : decode cX5_isSameName 75 = .ok (.iconst 0, 1) := by decide +kernel
theorem dX5_isSameName_76 : decode cX5_isSameName 76 = .ok (.ireturn, 1) := by decide +kernel
theorem dX5_isSameName_77 : decode cX5_isSameName 77 = .ok (.iinc 4 1, 3) := by decide +kernel
theorem dX5_isSameName_80 : decode cX5_isSameName 80 = .ok (.goto (-54), 3) := by decide +kernel
theorem dX5_isSameName_83 : decode cX5_isSameName 83 = .ok (.iconst 1, 1) := by decide +kernel
theorem dX5_isSameName_84 : decode cX5_isSameName 84 = .ok (.ireturn, 1) := by decide +kernel
theorem dX5_readFlood_0 : decode cX5_readFlood 0 = .ok (.aload_n 1, 1) := by decide +kernel
theorem dX5_readFlood_1 : decode cX5_readFlood 1 = .ok (.getfield 149, 3) := by decide +kernel
theorem dX5_readFlood_4 : decode cX5_readFlood 4 = .ok (.istore_n 2, 1) := by decide +kernel
theorem dX5_readFlood_5 : decode cX5_readFlood 5 = .ok (.iload_n 2, 1) := by decide +kernel
theorem dX5_readFlood_6 : decode cX5_readFlood 6 = .ok (.bipush 8, 2) := by decide +kernel
theorem dX5_readFlood_8 : decode cX5_readFlood 8 = .ok (.if_icmp .lt 9, 3) := by decide +kernel
theorem dX5_readFlood_11 : decode cX5_readFlood 11 = .ok (.aload_n 0, 1) := by decide +kernel
theorem dX5_readFlood_12 : decode cX5_readFlood 12 = .ok (.iconst 2, 1) := by decide +kernel
theorem dX5_readFlood_13 : decode cX5_readFlood 13 = .ok (.invokevirtual 78, 3) := by decide +kernel
theorem dX5_readFlood_16 : decode cX5_readFlood 16 = .ok (.return_, 1) := by decide +kernel
theorem dX5_readFlood_17 : decode cX5_readFlood 17 = .ok (.aload_n 0, 1) := by decide +kernel
theorem dX5_readFlood_18 : decode cX5_readFlood 18 = .ok (.sipush 261, 3) := by decide +kernel
theorem dX5_readFlood_21 : decode cX5_readFlood 21 = .ok (.invokevirtual 88, 3) := by decide +kernel
theorem dX5_readFlood_24 : decode cX5_readFlood 24 = .ok (.aload_n 1, 1) := by decide +kernel
theorem dX5_readFlood_25 : decode cX5_readFlood 25 = .ok (.getfield 152, 3) := by decide +kernel
theorem dX5_readFlood_28 : decode cX5_readFlood 28 = .ok (.iload_n 2, 1) := by decide +kernel
theorem dX5_readFlood_29 : decode cX5_readFlood 29 = .ok (.aload_n 0, 1) := by decide +kernel
theorem dX5_readFlood_30 : decode cX5_readFlood 30 = .ok (.iconst 0, 1) := by decide +kernel
theorem dX5_readFlood_31 : decode cX5_readFlood 31 = .ok (.sipush 199, 3) := by decide +kernel
theorem dX5_readFlood_34 : decode cX5_readFlood 34 = .ok (.invokevirtual 91, 3) := by decide +kernel
theorem dX5_readFlood_37 : decode cX5_readFlood 37 = .ok (.iastore, 1) := by decide +kernel
theorem dX5_readFlood_38 : decode cX5_readFlood 38 = .ok (.aload_n 1, 1) := by decide +kernel
theorem dX5_readFlood_39 : decode cX5_readFlood 39 = .ok (.getfield 155, 3) := by decide +kernel
theorem dX5_readFlood_42 : decode cX5_readFlood 42 = .ok (.iload_n 2, 1) := by decide +kernel
theorem dX5_readFlood_43 : decode cX5_readFlood 43 = .ok (.aload_n 0, 1) := by decide +kernel
theorem dX5_readFlood_44 : decode cX5_readFlood 44 = .ok (.iconst 1, 1) := by decide +kernel
theorem dX5_readFlood_45 : decode cX5_readFlood 45 = .ok (.bipush 12, 2) := by decide +kernel
theorem dX5_readFlood_47 : decode cX5_readFlood 47 = .ok (.invokevirtual 91, 3) := by decide +kernel
theorem dX5_readFlood_50 : decode cX5_readFlood 50 = .ok (.iastore, 1) := by decide +kernel
theorem dX5_readFlood_51 : decode cX5_readFlood 51 = .ok (.aload_n 0, 1) := by decide +kernel
theorem dX5_readFlood_52 : decode cX5_readFlood 52 = .ok (.bipush 59, 2) := by decide +kernel
theorem dX5_readFlood_54 : decode cX5_readFlood 54 = .ok (.invokevirtual 88, 3) := by decide +kernel
theorem dX5_readFlood_57 : decode cX5_readFlood 57 = .ok (.aload_n 1, 1) := by decide +kernel
theorem dX5_readFlood_58 : decode cX5_readFlood 58 = .ok (.dup, 1) := by decide +kernel
theorem dX5_readFlood_59 : decode cX5_readFlood 59 = .ok (.getfield 149, 3) := by decide +kernel
theorem dX5_readFlood_62 : decode cX5_readFlood 62 = .ok (.iconst 1, 1) := by decide +kernel
theorem dX5_readFlood_63 : decode cX5_readFlood 63 = .ok (.iadd, 1) := by decide +kernel
theorem dX5_readFlood_64 : decode cX5_readFlood 64 = .ok (.putfield 149, 3) := by decide +kernel
theorem dX5_readFlood_67 : decode cX5_readFlood 67 = .ok (.return_, 1) := by decide +kernel
theorem dX5_readLaw_0 : decode cX5_readLaw 0 = .ok (.aload_n 1, 1) := by decide +kernel
theorem dX5_readLaw_1 : decode cX5_readLaw 1 = .ok (.invokevirtual 158, 3) := by decide +kernel
theorem dX5_readLaw_4 : decode cX5_readLaw 4 = .ok (.aload_n 0, 1) := by decide +kernel
theorem dX5_readLaw_5 : decode cX5_readLaw 5 = .ok (.aload_n 0, 1) := by decide +kernel
theorem dX5_readLaw_6 : decode cX5_readLaw 6 = .ok (.getfield 12, 3) := by decide +kernel
theorem dX5_readLaw_9 : decode cX5_readLaw 9 = .ok (.getfield 44, 3) := by decide +kernel
theorem dX5_readLaw_12 : decode cX5_readLaw 12 = .ok (.aload_n 0, 1) := by decide +kernel
theorem dX5_readLaw_13 : decode cX5_readLaw 13 = .ok (.getfield 31, 3) := by decide +kernel
theorem dX5_readLaw_16 : decode cX5_readLaw 16 = .ok (.iaload, 1) := by decide +kernel
theorem dX5_readLaw_17 : decode cX5_readLaw 17 = .ok (.invokevirtual 88, 3) := by decide +kernel
theorem dX5_readLaw_20 : decode cX5_readLaw 20 = .ok (.aload_n 0, 1) := by decide +kernel
theorem dX5_readLaw_21 : decode cX5_readLaw 21 = .ok (.bipush 61, 2) := by decide +kernel
theorem dX5_readLaw_23 : decode cX5_readLaw 23 = .ok (.invokevirtual 88, 3) := by decide +kernel
theorem dX5_readLaw_26 : decode cX5_readLaw 26 = .ok (.iconst 0, 1) := by decide +kernel
theorem dX5_readLaw_27 : decode cX5_readLaw 27 = .ok (.istore_n 2, 1) := by decide +kernel
theorem dX5_readLaw_28 : decode cX5_readLaw 28 = .ok (.iload_n 2, 1) := by decide +kernel
theorem dX5_readLaw_29 : decode cX5_readLaw 29 = .ok (.iconst 4, 1) := by decide +kernel
theorem dX5_readLaw_30 : decode cX5_readLaw 30 = .ok (.if_icmp .gt 110, 3) := by decide +kernel
theorem dX5_readLaw_33 : decode cX5_readLaw 33 = .ok (.aload_n 0, 1) := by decide +kernel
theorem dX5_readLaw_34 : decode cX5_readLaw 34 = .ok (.getfield 35, 3) := by decide +kernel
theorem dX5_readLaw_37 : decode cX5_readLaw 37 = .ok (.ifCond .ne 103, 3) := by decide +kernel
theorem dX5_readLaw_40 : decode cX5_readLaw 40 = .ok (.aload_n 0, 1) := by decide +kernel
theorem dX5_readLaw_41 : decode cX5_readLaw 41 = .ok (.getfield 12, 3) := by decide +kernel
theorem dX5_readLaw_44 : decode cX5_readLaw 44 = .ok (.getfield 44, 3) := by decide +kernel
theorem dX5_readLaw_47 : decode cX5_readLaw 47 = .ok (.aload_n 0, 1) := by decide +kernel
theorem dX5_readLaw_48 : decode cX5_readLaw 48 = .ok (.getfield 31, 3) := by decide +kernel
theorem dX5_readLaw_51 : decode cX5_readLaw 51 = .ok (.iaload, 1) := by decide +kernel
theorem dX5_readLaw_52 : decode cX5_readLaw 52 = .ok (.sipush 264, 3) := by decide +kernel
theorem dX5_readLaw_55 : decode cX5_readLaw 55 = .ok (.if_icmp .ne 85, 3) := by decide +kernel
theorem dX5_readLaw_58 : decode cX5_readLaw 58 = .ok (.iload_n 2, 1) := by decide +kernel
theorem dX5_readLaw_59 : decode cX5_readLaw 59 = .ok (.iconst 4, 1) := by decide +kernel
theorem dX5_readLaw_60 : decode cX5_readLaw 60 = .ok (.if_icmp .ne 8, 3) := by decide +kernel
theorem dX5_readLaw_63 : decode cX5_readLaw 63 = .ok (.aload_n 0, 1) := by decide +kernel
theorem dX5_readLaw_64 : decode cX5_readLaw 64 = .ok (.iconst 2, 1) := by decide +kernel
theorem dX5_readLaw_65 : decode cX5_readLaw 65 = .ok (.invokevirtual 78, 3) := by decide +kernel
theorem dX5_readLaw_68 : decode cX5_readLaw 68 = .ok (.aload_n 0, 1) := by decide +kernel
theorem dX5_readLaw_69 : decode cX5_readLaw 69 = .ok (.sipush 264, 3) := by decide +kernel
theorem dX5_readLaw_72 : decode cX5_readLaw 72 = .ok (.invokevirtual 88, 3) := by decide +kernel
theorem dX5_readLaw_75 : decode cX5_readLaw 75 = .ok (.aload_n 0, 1) := by decide +kernel
theorem dX5_readLaw_76 : decode cX5_readLaw 76 = .ok (.aload_n 1, 1) := by decide +kernel
theorem dX5_readLaw_77 : decode cX5_readLaw 77 = .ok (.iconst 0, 1) := by decide +kernel
theorem dX5_readLaw_78 : decode cX5_readLaw 78 = .ok (.invokevirtual 161, 3) := by decide +kernel
theorem dX5_readLaw_81 : decode cX5_readLaw 81 = .ok (.aload_n 0, 1) := by decide +kernel
theorem dX5_readLaw_82 : decode cX5_readLaw 82 = .ok (.bipush 60, 2) := by decide +kernel
theorem dX5_readLaw_84 : decode cX5_readLaw 84 = .ok (.invokevirtual 88, 3) := by decide +kernel
theorem dX5_readLaw_87 : decode cX5_readLaw 87 = .ok (.aload_n 0, 1) := by decide +kernel
theorem dX5_readLaw_88 : decode cX5_readLaw 88 = .ok (.aload_n 1, 1) := by decide +kernel
theorem dX5_readLaw_89 : decode cX5_readLaw 89 = .ok (.iconst 0, 1) := by decide +kernel
theorem dX5_readLaw_90 : decode cX5_readLaw 90 = .ok (.invokevirtual 161, 3) := by decide +kernel
theorem dX5_readLaw_93 : decode cX5_readLaw 93 = .ok (.aload_n 0, 1) := by decide +kernel
theorem dX5_readLaw_94 : decode cX5_readLaw 94 = .ok (.sipush 265, 3) := by decide +kernel
theorem dX5_readLaw_97 : decode cX5_readLaw 97 = .ok (.invokevirtual 88, 3) := by decide +kernel
theorem dX5_readLaw_100 : decode cX5_readLaw 100 = .ok (.aload_n 1, 1) := by decide +kernel
theorem dX5_readLaw_101 : decode cX5_readLaw 101 = .ok (.bipush 6, 2) := by decide +kernel
theorem dX5_readLaw_103 : decode cX5_readLaw 103 = .ok (.iconst 0, 1) := by decide +kernel
theorem dX5_readLaw_104 : decode cX5_readLaw 104 = .ok (.invokevirtual 165, 3) := by decide +kernel
theorem dX5_readLaw_107 : decode cX5_readLaw 107 = .ok (.istore_n 3, 1) := by decide +kernel
theorem dX5_readLaw_108 : decode cX5_readLaw 108 = .ok (.aload_n 0, 1) := by decide +kernel
theorem dX5_readLaw_109 : decode cX5_readLaw 109 = .ok (.aload_n 1, 1) := by decide +kernel
theorem dX5_readLaw_110 : decode cX5_readLaw 110 = .ok (.iconst 0, 1) := by decide +kernel
theorem dX5_readLaw_111 : decode cX5_readLaw 111 = .ok (.invokevirtual 161, 3) := by decide +kernel
theorem dX5_readLaw_114 : decode cX5_readLaw 114 = .ok (.aload_n 0, 1) := by decide +kernel
theorem dX5_readLaw_115 : decode cX5_readLaw 115 = .ok (.sipush 266, 3) := by decide +kernel
theorem dX5_readLaw_118 : decode cX5_readLaw 118 = .ok (.invokevirtual 88, 3) := by decide +kernel
theorem dX5_readLaw_121 : decode cX5_readLaw 121 = .ok (.aload_n 1, 1) := by decide +kernel
theorem dX5_readLaw_122 : decode cX5_readLaw 122 = .ok (.bipush 7, 2) := by decide +kernel
theorem dX5_readLaw_124 : decode cX5_readLaw 124 = .ok (.iconst 0, 1) := by decide +kernel
theorem dX5_readLaw_125 : decode cX5_readLaw 125 = .ok (.invokevirtual 165, 3) := by decide +kernel
theorem dX5_readLaw_128 : decode cX5_readLaw 128 = .ok (.pop, 1) := by decide +kernel
theorem dX5_readLaw_129 : decode cX5_readLaw 129 = .ok (.aload_n 1, 1) := by decide +kernel
theorem dX5_readLaw_130 : decode cX5_readLaw 130 = .ok (.iload_n 3, 1) := by decide +kernel
theorem dX5_readLaw_131 : decode cX5_readLaw 131 = .ok (.invokevirtual 168, 3) := by decide +kernel
theorem dX5_readLaw_134 : decode cX5_readLaw 134 = .ok (.iinc 2 1, 3) := by decide +kernel
theorem dX5_readLaw_137 : decode cX5_readLaw 137 = .ok (.goto (-109), 3) := by decide +kernel
theorem dX5_readLaw_140 : decode cX5_readLaw 140 = .ok (.aload_n 0, 1) := by decide +kernel
theorem dX5_readLaw_141 : decode cX5_readLaw 141 = .ok (.aload_n 1, 1) := by decide +kernel
theorem dX5_readLaw_142 : decode cX5_readLaw 142 = .ok (.iconst 0, 1) := by decide +kernel
theorem dX5_readLaw_143 : decode cX5_readLaw 143 = .ok (.invokevirtual 161, 3) := by decide +kernel
theorem dX5_readLaw_146 : decode cX5_readLaw 146 = .ok (.aload_n 1, 1) := by decide +kernel
theorem dX5_readLaw_147 : decode cX5_readLaw 147 = .ok (.bipush 7, 2) := by decide +kernel
theorem dX5_readLaw_149 : decode cX5_readLaw 149 = .ok (.iconst 0, 1) := by decide +kernel
theorem dX5_readLaw_150 : decode cX5_readLaw 150 = .ok (.invokevirtual 165, 3) := by decide +kernel
theorem dX5_readLaw_153 : decode cX5_readLaw 153 = .ok (.pop, 1) := by decide +kernel
theorem dX5_readLaw_154 : decode cX5_readLaw 154 = .ok (.aload_n 0, 1) := by decide +kernel
theorem dX5_readLaw_155 : decode cX5_readLaw 155 = .ok (.bipush 59, 2) := by decide +kernel
theorem dX5_readLaw_157 : decode cX5_readLaw 157 = .ok (.invokevirtual 88, 3) := by decide +kernel
theorem dX5_readLaw_160 : decode cX5_readLaw 160 = .ok (.return_, 1) := by decide +kernel
theorem dX5_readSum_0 : decode cX5_readSum 0 = .ok (.aload_n 0, 1) := by decide +kernel
theorem dX5_readSum_1 : decode cX5_readSum 1 = .ok (.aload_n 1, 1) := by decide +kernel
theorem dX5_readSum_2 : decode cX5_readSum 2 = .ok (.iload_n 2, 1) := by decide +kernel
theorem dX5_readSum_3 : decode cX5_readSum 3 = .ok (.invokevirtual 171, 3) := by decide +kernel
theorem dX5_readSum_6 : decode cX5_readSum 6 = .ok (.iconst 0, 1) := by decide +kernel
theorem dX5_readSum_7 : decode cX5_readSum 7 = .ok (.istore_n 3, 1) := by decide +kernel
theorem dX5_readSum_8 : decode cX5_readSum 8 = .ok (.iload_n 3, 1) := by decide +kernel
theorem dX5_readSum_9 : decode cX5_readSum 9 = .ok (.sipush 400, 3) := by decide +kernel
theorem dX5_readSum_12 : decode cX5_readSum 12 = .ok (.if_icmp .gt 81, 3) := by decide +kernel
theorem dX5_readSum_15 : decode cX5_readSum 15 = .ok (.aload_n 0, 1) := by decide +kernel
theorem dX5_readSum_16 : decode cX5_readSum 16 = .ok (.getfield 35, 3) := by decide +kernel
theorem dX5_readSum_19 : decode cX5_readSum 19 = .ok (.ifCond .ne 74, 3) := by decide +kernel
theorem dX5_readSum_22 : decode cX5_readSum 22 = .ok (.aload_n 0, 1) := by decide +kernel
theorem dX5_readSum_23 : decode cX5_readSum 23 = .ok (.bipush 43, 2) := by decide +kernel
theorem dX5_readSum_25 : decode cX5_readSum 25 = .ok (.bipush 45, 2) := by decide +kernel
theorem dX5_readSum_27 : decode cX5_readSum 27 = .ok (.invokevirtual 174, 3) := by decide +kernel
theorem dX5_readSum_30 : decode cX5_readSum 30 = .ok (.ifCond .eq 63, 3) := by decide +kernel
theorem dX5_readSum_33 : decode cX5_readSum 33 = .ok (.aload_n 0, 1) := by decide +kernel
theorem dX5_readSum_34 : decode cX5_readSum 34 = .ok (.getfield 12, 3) := by decide +kernel
theorem dX5_readSum_37 : decode cX5_readSum 37 = .ok (.getfield 44, 3) := by decide +kernel
theorem dX5_readSum_40 : decode cX5_readSum 40 = .ok (.aload_n 0, 1) := by decide +kernel
theorem dX5_readSum_41 : decode cX5_readSum 41 = .ok (.getfield 31, 3) := by decide +kernel
theorem dX5_readSum_44 : decode cX5_readSum 44 = .ok (.iaload, 1) := by decide +kernel
theorem dX5_readSum_45 : decode cX5_readSum 45 = .ok (.bipush 43, 2) := by decide +kernel
theorem dX5_readSum_47 : decode cX5_readSum 47 = .ok (.if_icmp .ne 7, 3) := by decide +kernel
theorem dX5_readSum_50 : decode cX5_readSum 50 = .ok (.iconst 2, 1) := by decide +kernel
theorem dX5_readSum_51 : decode cX5_readSum 51 = .ok (.goto 4, 3) := by decide +kernel
theorem dX5_readSum_54 : decode cX5_readSum 54 = .ok (.iconst 3, 1) := by decide +kernel
theorem dX5_readSum_55 : decode cX5_readSum 55 = .ok (.istore 4, 2) := by decide +kernel
theorem dX5_readSum_57 : decode cX5_readSum 57 = .ok (.aload_n 0, 1) := by decide +kernel
theorem dX5_readSum_58 : decode cX5_readSum 58 = .ok (.aload_n 0, 1) := by decide +kernel
theorem dX5_readSum_59 : decode cX5_readSum 59 = .ok (.getfield 12, 3) := by decide +kernel
theorem dX5_readSum_62 : decode cX5_readSum 62 = .ok (.getfield 44, 3) := by decide +kernel
theorem dX5_readSum_65 : decode cX5_readSum 65 = .ok (.aload_n 0, 1) := by decide +kernel
theorem dX5_readSum_66 : decode cX5_readSum 66 = .ok (.getfield 31, 3) := by decide +kernel
theorem dX5_readSum_69 : decode cX5_readSum 69 = .ok (.iaload, 1) := by decide +kernel
theorem dX5_readSum_70 : decode cX5_readSum 70 = .ok (.invokevirtual 88, 3) := by decide +kernel
theorem dX5_readSum_73 : decode cX5_readSum 73 = .ok (.aload_n 0, 1) := by decide +kernel
theorem dX5_readSum_74 : decode cX5_readSum 74 = .ok (.aload_n 1, 1) := by decide +kernel
theorem dX5_readSum_75 : decode cX5_readSum 75 = .ok (.iload_n 2, 1) := by decide +kernel
theorem dX5_readSum_76 : decode cX5_readSum 76 = .ok (.invokevirtual 171, 3) := by decide +kernel
theorem dX5_readSum_79 : decode cX5_readSum 79 = .ok (.aload_n 1, 1) := by decide +kernel
theorem dX5_readSum_80 : decode cX5_readSum 80 = .ok (.iload 4, 2) := by decide +kernel
theorem dX5_readSum_82 : decode cX5_readSum 82 = .ok (.iconst 0, 1) := by decide +kernel
theorem dX5_readSum_83 : decode cX5_readSum 83 = .ok (.invokevirtual 165, 3) := by decide +kernel
theorem dX5_readSum_86 : decode cX5_readSum 86 = .ok (.pop, 1) := by decide +kernel
theorem dX5_readSum_87 : decode cX5_readSum 87 = .ok (.iinc 3 1, 3) := by decide +kernel
theorem dX5_readSum_90 : decode cX5_readSum 90 = .ok (.goto (-82), 3) := by decide +kernel
theorem dX5_readSum_93 : decode cX5_readSum 93 = .ok (.return_, 1) := by decide +kernel
theorem dX5_readProduct_0 : decode cX5_readProduct 0 = .ok (.aload_n 0, 1) := by decide +kernel
theorem dX5_readProduct_1 : decode cX5_readProduct 1 = .ok (.aload_n 1, 1) := by decide +kernel
theorem dX5_readProduct_2 : decode cX5_readProduct 2 = .ok (.iload_n 2, 1) := by decide +kernel
theorem dX5_readProduct_3 : decode cX5_readProduct 3 = .ok (.invokevirtual 178, 3) := by decide +kernel
theorem dX5_readProduct_6 : decode cX5_readProduct 6 = .ok (.iconst 0, 1) := by decide +kernel
theorem dX5_readProduct_7 : decode cX5_readProduct 7 = .ok (.istore_n 3, 1) := by decide +kernel
theorem dX5_readProduct_8 : decode cX5_readProduct 8 = .ok (.iload_n 3, 1) := by decide +kernel
theorem dX5_readProduct_9 : decode cX5_readProduct 9 = .ok (.sipush 400, 3) := by decide +kernel
theorem dX5_readProduct_12 : decode cX5_readProduct 12 = .ok (.if_icmp .gt 81, 3) := by decide +kernel
theorem dX5_readProduct_15 : decode cX5_readProduct 15 = .ok (.aload_n 0, 1) := by decide +kernel
theorem dX5_readProduct_16 : decode cX5_readProduct 16 = .ok (.getfield 35, 3) := by decide +kernel
theorem dX5_readProduct_19 : decode cX5_readProduct 19 = .ok (.ifCond .ne 74, 3) := by decide +kernel
theorem dX5_readProduct_22 : decode cX5_readProduct 22 = .ok (.aload_n 0, 1) := by decide +kernel
theorem dX5_readProduct_23 : decode cX5_readProduct 23 = .ok (.bipush 42, 2) := by decide +kernel
theorem dX5_readProduct_25 : decode cX5_readProduct 25 = .ok (.bipush 47, 2) := by decide +kernel
theorem dX5_readProduct_27 : decode cX5_readProduct 27 = .ok (.invokevirtual 174, 3) := by decide +kernel
theorem dX5_readProduct_30 : decode cX5_readProduct 30 = .ok (.ifCond .eq 63, 3) := by decide +kernel
theorem dX5_readProduct_33 : decode cX5_readProduct 33 = .ok (.aload_n 0, 1) := by decide +kernel
theorem dX5_readProduct_34 : decode cX5_readProduct 34 = .ok (.getfield 12, 3) := by decide +kernel
theorem dX5_readProduct_37 : decode cX5_readProduct 37 = .ok (.getfield 44, 3) := by decide +kernel
theorem dX5_readProduct_40 : decode cX5_readProduct 40 = .ok (.aload_n 0, 1) := by decide +kernel
theorem dX5_readProduct_41 : decode cX5_readProduct 41 = .ok (.getfield 31, 3) := by decide +kernel
theorem dX5_readProduct_44 : decode cX5_readProduct 44 = .ok (.iaload, 1) := by decide +kernel
theorem dX5_readProduct_45 : decode cX5_readProduct 45 = .ok (.bipush 42, 2) := by decide +kernel
theorem dX5_readProduct_47 : decode cX5_readProduct 47 = .ok (.if_icmp .ne 7, 3) := by decide +kernel
theorem dX5_readProduct_50 : decode cX5_readProduct 50 = .ok (.iconst 4, 1) := by decide +kernel
theorem dX5_readProduct_51 : decode cX5_readProduct 51 = .ok (.goto 4, 3) := by decide +kernel
theorem dX5_readProduct_54 : decode cX5_readProduct 54 = .ok (.iconst 5, 1) := by decide +kernel
theorem dX5_readProduct_55 : decode cX5_readProduct 55 = .ok (.istore 4, 2) := by decide +kernel
theorem dX5_readProduct_57 : decode cX5_readProduct 57 = .ok (.aload_n 0, 1) := by decide +kernel
theorem dX5_readProduct_58 : decode cX5_readProduct 58 = .ok (.aload_n 0, 1) := by decide +kernel
theorem dX5_readProduct_59 : decode cX5_readProduct 59 = .ok (.getfield 12, 3) := by decide +kernel
theorem dX5_readProduct_62 : decode cX5_readProduct 62 = .ok (.getfield 44, 3) := by decide +kernel
theorem dX5_readProduct_65 : decode cX5_readProduct 65 = .ok (.aload_n 0, 1) := by decide +kernel
theorem dX5_readProduct_66 : decode cX5_readProduct 66 = .ok (.getfield 31, 3) := by decide +kernel
theorem dX5_readProduct_69 : decode cX5_readProduct 69 = .ok (.iaload, 1) := by decide +kernel
theorem dX5_readProduct_70 : decode cX5_readProduct 70 = .ok (.invokevirtual 88, 3) := by decide +kernel
theorem dX5_readProduct_73 : decode cX5_readProduct 73 = .ok (.aload_n 0, 1) := by decide +kernel
theorem dX5_readProduct_74 : decode cX5_readProduct 74 = .ok (.aload_n 1, 1) := by decide +kernel
theorem dX5_readProduct_75 : decode cX5_readProduct 75 = .ok (.iload_n 2, 1) := by decide +kernel
theorem dX5_readProduct_76 : decode cX5_readProduct 76 = .ok (.invokevirtual 178, 3) := by decide +kernel
theorem dX5_readProduct_79 : decode cX5_readProduct 79 = .ok (.aload_n 1, 1) := by decide +kernel
theorem dX5_readProduct_80 : decode cX5_readProduct 80 = .ok (.iload 4, 2) := by decide +kernel
theorem dX5_readProduct_82 : decode cX5_readProduct 82 = .ok (.iconst 0, 1) := by decide +kernel
theorem dX5_readProduct_83 : decode cX5_readProduct 83 = .ok (.invokevirtual 165, 3) := by decide +kernel
theorem dX5_readProduct_86 : decode cX5_readProduct 86 = .ok (.pop, 1) := by decide +kernel
theorem dX5_readProduct_87 : decode cX5_readProduct 87 = .ok (.iinc 3 1, 3) := by decide +kernel
theorem dX5_readProduct_90 : decode cX5_readProduct 90 = .ok (.goto (-82), 3) := by decide +kernel
theorem dX5_readProduct_93 : decode cX5_readProduct 93 = .ok (.return_, 1) := by decide +kernel
theorem dX5_readUnit_0 : decode cX5_readUnit 0 = .ok (.aload_n 0, 1) := by decide +kernel
theorem dX5_readUnit_1 : decode cX5_readUnit 1 = .ok (.getfield 35, 3) := by decide +kernel
theorem dX5_readUnit_4 : decode cX5_readUnit 4 = .ok (.ifCond .eq 4, 3) := by decide +kernel
theorem dX5_readUnit_7 : decode cX5_readUnit 7 = .ok (.return_, 1) := by decide +kernel
theorem dX5_readUnit_8 : decode cX5_readUnit 8 = .ok (.aload_n 0, 1) := by decide +kernel
theorem dX5_readUnit_9 : decode cX5_readUnit 9 = .ok (.getfield 12, 3) := by decide +kernel
theorem dX5_readUnit_12 : decode cX5_readUnit 12 = .ok (.getfield 44, 3) := by decide +kernel
theorem dX5_readUnit_15 : decode cX5_readUnit 15 = .ok (.aload_n 0, 1) := by decide +kernel
theorem dX5_readUnit_16 : decode cX5_readUnit 16 = .ok (.getfield 31, 3) := by decide +kernel
theorem dX5_readUnit_19 : decode cX5_readUnit 19 = .ok (.iaload, 1) := by decide +kernel
theorem dX5_readUnit_20 : decode cX5_readUnit 20 = .ok (.istore_n 3, 1) := by decide +kernel
theorem dX5_readUnit_21 : decode cX5_readUnit 21 = .ok (.iload_n 3, 1) := by decide +kernel
theorem dX5_readUnit_22 : decode cX5_readUnit 22 = .ok (.sipush 301, 3) := by decide +kernel
theorem dX5_readUnit_25 : decode cX5_readUnit 25 = .ok (.if_icmp .ne 31, 3) := by decide +kernel
theorem dX5_readUnit_28 : decode cX5_readUnit 28 = .ok (.aload_n 1, 1) := by decide +kernel
theorem dX5_readUnit_29 : decode cX5_readUnit 29 = .ok (.iconst 0, 1) := by decide +kernel
theorem dX5_readUnit_30 : decode cX5_readUnit 30 = .ok (.aload_n 0, 1) := by decide +kernel
theorem dX5_readUnit_31 : decode cX5_readUnit 31 = .ok (.getfield 12, 3) := by decide +kernel
theorem dX5_readUnit_34 : decode cX5_readUnit 34 = .ok (.getfield 181, 3) := by decide +kernel
theorem dX5_readUnit_37 : decode cX5_readUnit 37 = .ok (.aload_n 0, 1) := by decide +kernel
theorem dX5_readUnit_38 : decode cX5_readUnit 38 = .ok (.getfield 31, 3) := by decide +kernel
theorem dX5_readUnit_41 : decode cX5_readUnit 41 = .ok (.iaload, 1) := by decide +kernel
theorem dX5_readUnit_42 : decode cX5_readUnit 42 = .ok (.invokevirtual 165, 3) := by decide +kernel
theorem dX5_readUnit_45 : decode cX5_readUnit 45 = .ok (.pop, 1) := by decide +kernel
theorem dX5_readUnit_46 : decode cX5_readUnit 46 = .ok (.aload_n 0, 1) := by decide +kernel
theorem dX5_readUnit_47 : decode cX5_readUnit 47 = .ok (.sipush 301, 3) := by decide +kernel
theorem dX5_readUnit_50 : decode cX5_readUnit 50 = .ok (.invokevirtual 88, 3) := by decide +kernel
theorem dX5_readUnit_53 : decode cX5_readUnit 53 = .ok (.goto 84, 3) := by decide +kernel
theorem dX5_readUnit_56 : decode cX5_readUnit 56 = .ok (.iload_n 3, 1) := by decide +kernel
theorem dX5_readUnit_57 : decode cX5_readUnit 57 = .ok (.sipush 267, 3) := by decide +kernel
theorem dX5_readUnit_60 : decode cX5_readUnit 60 = .ok (.if_icmp .lt 29, 3) := by decide +kernel
theorem dX5_readUnit_63 : decode cX5_readUnit 63 = .ok (.iload_n 3, 1) := by decide +kernel
theorem dX5_readUnit_64 : decode cX5_readUnit 64 = .ok (.sipush 272, 3) := by decide +kernel
theorem dX5_readUnit_67 : decode cX5_readUnit 67 = .ok (.if_icmp .gt 22, 3) := by decide +kernel
theorem dX5_readUnit_70 : decode cX5_readUnit 70 = .ok (.aload_n 1, 1) := by decide +kernel
theorem dX5_readUnit_71 : decode cX5_readUnit 71 = .ok (.iconst 1, 1) := by decide +kernel
theorem dX5_readUnit_72 : decode cX5_readUnit 72 = .ok (.iload_n 3, 1) := by decide +kernel
theorem dX5_readUnit_73 : decode cX5_readUnit 73 = .ok (.sipush 267, 3) := by decide +kernel
theorem dX5_readUnit_76 : decode cX5_readUnit 76 = .ok (.isub, 1) := by decide +kernel
theorem dX5_readUnit_77 : decode cX5_readUnit 77 = .ok (.invokevirtual 165, 3) := by decide +kernel
theorem dX5_readUnit_80 : decode cX5_readUnit 80 = .ok (.pop, 1) := by decide +kernel
theorem dX5_readUnit_81 : decode cX5_readUnit 81 = .ok (.aload_n 0, 1) := by decide +kernel
theorem dX5_readUnit_82 : decode cX5_readUnit 82 = .ok (.iload_n 3, 1) := by decide +kernel
theorem dX5_readUnit_83 : decode cX5_readUnit 83 = .ok (.invokevirtual 88, 3) := by decide +kernel
theorem dX5_readUnit_86 : decode cX5_readUnit 86 = .ok (.goto 51, 3) := by decide +kernel
theorem dX5_readUnit_89 : decode cX5_readUnit 89 = .ok (.iload_n 3, 1) := by decide +kernel
theorem dX5_readUnit_90 : decode cX5_readUnit 90 = .ok (.bipush 40, 2) := by decide +kernel
theorem dX5_readUnit_92 : decode cX5_readUnit 92 = .ok (.if_icmp .eq 11, 3) := by decide +kernel
theorem dX5_readUnit_95 : decode cX5_readUnit 95 = .ok (.aload_n 0, 1) := by decide +kernel
theorem dX5_readUnit_96 : decode cX5_readUnit 96 = .ok (.iconst 1, 1) := by decide +kernel
theorem dX5_readUnit_97 : decode cX5_readUnit 97 = .ok (.invokevirtual 78, 3) := by decide +kernel
theorem dX5_readUnit_100 : decode cX5_readUnit 100 = .ok (.goto 37, 3) := by decide +kernel
theorem dX5_readUnit_103 : decode cX5_readUnit 103 = .ok (.iload_n 2, 1) := by decide +kernel
theorem dX5_readUnit_104 : decode cX5_readUnit 104 = .ok (.bipush 6, 2) := by decide +kernel
theorem dX5_readUnit_106 : decode cX5_readUnit 106 = .ok (.if_icmp .lt 11, 3) := by decide +kernel
theorem dX5_readUnit_109 : decode cX5_readUnit 109 = .ok (.aload_n 0, 1) := by decide +kernel
theorem dX5_readUnit_110 : decode cX5_readUnit 110 = .ok (.iconst 2, 1) := by decide +kernel
theorem dX5_readUnit_111 : decode cX5_readUnit 111 = .ok (.invokevirtual 78, 3) := by decide +kernel
theorem dX5_readUnit_114 : decode cX5_readUnit 114 = .ok (.goto 23, 3) := by decide +kernel
theorem dX5_readUnit_117 : decode cX5_readUnit 117 = .ok (.aload_n 0, 1) := by decide +kernel
theorem dX5_readUnit_118 : decode cX5_readUnit 118 = .ok (.bipush 40, 2) := by decide +kernel
theorem dX5_readUnit_120 : decode cX5_readUnit 120 = .ok (.invokevirtual 88, 3) := by decide +kernel
theorem dX5_readUnit_123 : decode cX5_readUnit 123 = .ok (.aload_n 0, 1) := by decide +kernel
theorem dX5_readUnit_124 : decode cX5_readUnit 124 = .ok (.aload_n 1, 1) := by decide +kernel
theorem dX5_readUnit_125 : decode cX5_readUnit 125 = .ok (.iload_n 2, 1) := by decide +kernel
theorem dX5_readUnit_126 : decode cX5_readUnit 126 = .ok (.iconst 1, 1) := by decide +kernel
theorem dX5_readUnit_127 : decode cX5_readUnit 127 = .ok (.iadd, 1) := by decide +kernel
theorem dX5_readUnit_128 : decode cX5_readUnit 128 = .ok (.invokevirtual 161, 3) := by decide +kernel
theorem dX5_readUnit_131 : decode cX5_readUnit 131 = .ok (.aload_n 0, 1) := by decide +kernel
theorem dX5_readUnit_132 : decode cX5_readUnit 132 = .ok (.bipush 41, 2) := by decide +kernel
theorem dX5_readUnit_134 : decode cX5_readUnit 134 = .ok (.invokevirtual 88, 3) := by decide +kernel
theorem dX5_readUnit_137 : decode cX5_readUnit 137 = .ok (.return_, 1) := by decide +kernel
theorem dX5_isEither_0 : decode cX5_isEither 0 = .ok (.aload_n 0, 1) := by decide +kernel
theorem dX5_isEither_1 : decode cX5_isEither 1 = .ok (.getfield 12, 3) := by decide +kernel
theorem dX5_isEither_4 : decode cX5_isEither 4 = .ok (.getfield 44, 3) := by decide +kernel
theorem dX5_isEither_7 : decode cX5_isEither 7 = .ok (.aload_n 0, 1) := by decide +kernel
theorem dX5_isEither_8 : decode cX5_isEither 8 = .ok (.getfield 31, 3) := by decide +kernel
theorem dX5_isEither_11 : decode cX5_isEither 11 = .ok (.iaload, 1) := by decide +kernel
theorem dX5_isEither_12 : decode cX5_isEither 12 = .ok (.iload_n 1, 1) := by decide +kernel
theorem dX5_isEither_13 : decode cX5_isEither 13 = .ok (.if_icmp .eq 19, 3) := by decide +kernel
theorem dX5_isEither_16 : decode cX5_isEither 16 = .ok (.aload_n 0, 1) := by decide +kernel
theorem dX5_isEither_17 : decode cX5_isEither 17 = .ok (.getfield 12, 3) := by decide +kernel
theorem dX5_isEither_20 : decode cX5_isEither 20 = .ok (.getfield 44, 3) := by decide +kernel
theorem dX5_isEither_23 : decode cX5_isEither 23 = .ok (.aload_n 0, 1) := by decide +kernel
theorem dX5_isEither_24 : decode cX5_isEither 24 = .ok (.getfield 31, 3) := by decide +kernel
theorem dX5_isEither_27 : decode cX5_isEither 27 = .ok (.iaload, 1) := by decide +kernel
theorem dX5_isEither_28 : decode cX5_isEither 28 = .ok (.iload_n 2, 1) := by decide +kernel
theorem dX5_isEither_29 : decode cX5_isEither 29 = .ok (.if_icmp .ne 7, 3) := by decide +kernel
theorem dX5_isEither_32 : decode cX5_isEither 32 = .ok (.iconst 1, 1) := by decide +kernel
theorem dX5_isEither_33 : decode cX5_isEither 33 = .ok (.goto 4, 3) := by decide +kernel
theorem dX5_isEither_36 : decode cX5_isEither 36 = .ok (.iconst 0, 1) := by decide +kernel
theorem dX5_isEither_37 : decode cX5_isEither 37 = .ok (.ireturn, 1) := by decide +kernel
theorem dX5_take_0 : decode cX5_take 0 = .ok (.aload_n 0, 1) := by decide +kernel
theorem dX5_take_1 : decode cX5_take 1 = .ok (.getfield 12, 3) := by decide +kernel
theorem dX5_take_4 : decode cX5_take 4 = .ok (.getfield 44, 3) := by decide +kernel
theorem dX5_take_7 : decode cX5_take 7 = .ok (.aload_n 0, 1) := by decide +kernel
theorem dX5_take_8 : decode cX5_take 8 = .ok (.getfield 31, 3) := by decide +kernel
theorem dX5_take_11 : decode cX5_take 11 = .ok (.iaload, 1) := by decide +kernel
theorem dX5_take_12 : decode cX5_take 12 = .ok (.iload_n 1, 1) := by decide +kernel
theorem dX5_take_13 : decode cX5_take 13 = .ok (.if_icmp .eq 11, 3) := by decide +kernel
theorem dX5_take_16 : decode cX5_take 16 = .ok (.aload_n 0, 1) := by decide +kernel
theorem dX5_take_17 : decode cX5_take 17 = .ok (.iconst 1, 1) := by decide +kernel
theorem dX5_take_18 : decode cX5_take 18 = .ok (.invokevirtual 78, 3) := by decide +kernel
theorem dX5_take_21 : decode cX5_take 21 = .ok (.goto 18, 3) := by decide +kernel
theorem dX5_take_24 : decode cX5_take 24 = .ok (.aload_n 0, 1) := by decide +kernel
theorem dX5_take_25 : decode cX5_take 25 = .ok (.getfield 31, 3) := by decide +kernel
theorem dX5_take_28 : decode cX5_take 28 = .ok (.sipush 400, 3) := by decide +kernel
theorem dX5_take_31 : decode cX5_take 31 = .ok (.if_icmp .lt 8, 3) := by decide +kernel
theorem dX5_take_34 : decode cX5_take 34 = .ok (.aload_n 0, 1) := by decide +kernel
theorem dX5_take_35 : decode cX5_take 35 = .ok (.iconst 2, 1) := by decide +kernel
theorem dX5_take_36 : decode cX5_take 36 = .ok (.invokevirtual 78, 3) := by decide +kernel
theorem dX5_take_39 : decode cX5_take 39 = .ok (.aload_n 0, 1) := by decide +kernel
theorem dX5_take_40 : decode cX5_take 40 = .ok (.getfield 35, 3) := by decide +kernel
theorem dX5_take_43 : decode cX5_take 43 = .ok (.ifCond .ne 13, 3) := by decide +kernel
theorem dX5_take_46 : decode cX5_take 46 = .ok (.aload_n 0, 1) := by decide +kernel
theorem dX5_take_47 : decode cX5_take 47 = .ok (.dup, 1) := by decide +kernel
theorem dX5_take_48 : decode cX5_take 48 = .ok (.getfield 31, 3) := by decide +kernel
theorem dX5_take_51 : decode cX5_take 51 = .ok (.iconst 1, 1) := by decide +kernel
theorem dX5_take_52 : decode cX5_take 52 = .ok (.iadd, 1) := by decide +kernel
theorem dX5_take_53 : decode cX5_take 53 = .ok (.putfield 31, 3) := by decide +kernel
theorem dX5_take_56 : decode cX5_take 56 = .ok (.return_, 1) := by decide +kernel
theorem dX5_takeInt_0 : decode cX5_takeInt 0 = .ok (.aload_n 0, 1) := by decide +kernel
theorem dX5_takeInt_1 : decode cX5_takeInt 1 = .ok (.getfield 12, 3) := by decide +kernel
theorem dX5_takeInt_4 : decode cX5_takeInt 4 = .ok (.getfield 181, 3) := by decide +kernel
theorem dX5_takeInt_7 : decode cX5_takeInt 7 = .ok (.aload_n 0, 1) := by decide +kernel
theorem dX5_takeInt_8 : decode cX5_takeInt 8 = .ok (.getfield 31, 3) := by decide +kernel
theorem dX5_takeInt_11 : decode cX5_takeInt 11 = .ok (.iaload, 1) := by decide +kernel
theorem dX5_takeInt_12 : decode cX5_takeInt 12 = .ok (.istore_n 3, 1) := by decide +kernel
theorem dX5_takeInt_13 : decode cX5_takeInt 13 = .ok (.aload_n 0, 1) := by decide +kernel
theorem dX5_takeInt_14 : decode cX5_takeInt 14 = .ok (.getfield 12, 3) := by decide +kernel
theorem dX5_takeInt_17 : decode cX5_takeInt 17 = .ok (.getfield 135, 3) := by decide +kernel
theorem dX5_takeInt_20 : decode cX5_takeInt 20 = .ok (.aload_n 0, 1) := by decide +kernel
theorem dX5_takeInt_21 : decode cX5_takeInt 21 = .ok (.getfield 31, 3) := by decide +kernel
theorem dX5_takeInt_24 : decode cX5_takeInt 24 = .ok (.iaload, 1) := by decide +kernel
theorem dX5_takeInt_25 : decode cX5_takeInt 25 = .ok (.istore 4, 2) := by decide +kernel
theorem dX5_takeInt_27 : decode cX5_takeInt 27 = .ok (.aload_n 0, 1) := by decide +kernel
theorem dX5_takeInt_28 : decode cX5_takeInt 28 = .ok (.sipush 301, 3) := by decide +kernel
theorem dX5_takeInt_31 : decode cX5_takeInt 31 = .ok (.invokevirtual 88, 3) := by decide +kernel
theorem dX5_takeInt_34 : decode cX5_takeInt 34 = .ok (.aload_n 0, 1) := by decide +kernel
theorem dX5_takeInt_35 : decode cX5_takeInt 35 = .ok (.getfield 35, 3) := by decide +kernel
theorem dX5_takeInt_38 : decode cX5_takeInt 38 = .ok (.ifCond .eq 5, 3) := by decide +kernel
theorem dX5_takeInt_41 : decode cX5_takeInt 41 = .ok (.iload_n 1, 1) := by decide +kernel
theorem dX5_takeInt_42 : decode cX5_takeInt 42 = .ok (.ireturn, 1) := by decide +kernel
theorem dX5_takeInt_43 : decode cX5_takeInt 43 = .ok (.iload_n 3, 1) := by decide +kernel
theorem dX5_takeInt_44 : decode cX5_takeInt 44 = .ok (.iload_n 1, 1) := by decide +kernel
theorem dX5_takeInt_45 : decode cX5_takeInt 45 = .ok (.if_icmp .lt 10, 3) := by decide +kernel
theorem dX5_takeInt_48 : decode cX5_takeInt 48 = .ok (.iload_n 3, 1) := by decide +kernel
theorem dX5_takeInt_49 : decode cX5_takeInt 49 = .ok (.iload_n 2, 1) := by decide +kernel
theorem dX5_takeInt_50 : decode cX5_takeInt 50 = .ok (.if_icmp .gt 5, 3) := by decide +kernel
theorem dX5_takeInt_53 : decode cX5_takeInt 53 = .ok (.iload_n 3, 1) := by decide +kernel
theorem dX5_takeInt_54 : decode cX5_takeInt 54 = .ok (.ireturn, 1) := by decide +kernel
theorem dX5_takeInt_55 : decode cX5_takeInt 55 = .ok (.aload_n 0, 1) := by decide +kernel
theorem dX5_takeInt_56 : decode cX5_takeInt 56 = .ok (.iconst 5, 1) := by decide +kernel
theorem dX5_takeInt_57 : decode cX5_takeInt 57 = .ok (.iload 4, 2) := by decide +kernel
theorem dX5_takeInt_59 : decode cX5_takeInt 59 = .ok (.invokevirtual 138, 3) := by decide +kernel
theorem dX5_takeInt_62 : decode cX5_takeInt 62 = .ok (.iload_n 1, 1) := by decide +kernel
theorem dX5_takeInt_63 : decode cX5_takeInt 63 = .ok (.ireturn, 1) := by decide +kernel
theorem dX5_fail_0 : decode cX5_fail 0 = .ok (.aload_n 0, 1) := by decide +kernel
theorem dX5_fail_1 : decode cX5_fail 1 = .ok (.getfield 35, 3) := by decide +kernel
theorem dX5_fail_4 : decode cX5_fail 4 = .ok (.ifCond .eq 4, 3) := by decide +kernel
theorem dX5_fail_7 : decode cX5_fail 7 = .ok (.return_, 1) := by decide +kernel
theorem dX5_fail_8 : decode cX5_fail 8 = .ok (.aload_n 0, 1) := by decide +kernel
theorem dX5_fail_9 : decode cX5_fail 9 = .ok (.iload_n 1, 1) := by decide +kernel
theorem dX5_fail_10 : decode cX5_fail 10 = .ok (.putfield 35, 3) := by decide +kernel
theorem dX5_fail_13 : decode cX5_fail 13 = .ok (.aload_n 0, 1) := by decide +kernel
theorem dX5_fail_14 : decode cX5_fail 14 = .ok (.aload_n 0, 1) := by decide +kernel
theorem dX5_fail_15 : decode cX5_fail 15 = .ok (.getfield 12, 3) := by decide +kernel
theorem dX5_fail_18 : decode cX5_fail 18 = .ok (.getfield 135, 3) := by decide +kernel
theorem dX5_fail_21 : decode cX5_fail 21 = .ok (.aload_n 0, 1) := by decide +kernel
theorem dX5_fail_22 : decode cX5_fail 22 = .ok (.getfield 31, 3) := by decide +kernel
theorem dX5_fail_25 : decode cX5_fail 25 = .ok (.iaload, 1) := by decide +kernel
theorem dX5_fail_26 : decode cX5_fail 26 = .ok (.putfield 82, 3) := by decide +kernel
theorem dX5_fail_29 : decode cX5_fail 29 = .ok (.return_, 1) := by decide +kernel
theorem dX5_failLater_0 : decode cX5_failLater 0 = .ok (.aload_n 0, 1) := by decide +kernel
theorem dX5_failLater_1 : decode cX5_failLater 1 = .ok (.getfield 38, 3) := by decide +kernel
theorem dX5_failLater_4 : decode cX5_failLater 4 = .ok (.ifCond .eq 4, 3) := by decide +kernel
theorem dX5_failLater_7 : decode cX5_failLater 7 = .ok (.return_, 1) := by decide +kernel
theorem dX5_failLater_8 : decode cX5_failLater 8 = .ok (.aload_n 0, 1) := by decide +kernel
theorem dX5_failLater_9 : decode cX5_failLater 9 = .ok (.iload_n 1, 1) := by decide +kernel
theorem dX5_failLater_10 : decode cX5_failLater 10 = .ok (.putfield 38, 3) := by decide +kernel
theorem dX5_failLater_13 : decode cX5_failLater 13 = .ok (.aload_n 0, 1) := by decide +kernel
theorem dX5_failLater_14 : decode cX5_failLater 14 = .ok (.iload_n 2, 1) := by decide +kernel
theorem dX5_failLater_15 : decode cX5_failLater 15 = .ok (.putfield 85, 3) := by decide +kernel
theorem dX5_failLater_18 : decode cX5_failLater 18 = .ok (.return_, 1) := by decide +kernel
theorem dX6_init_0 : decode cX6_init 0 = .ok (.aload_n 0, 1) := by decide +kernel
theorem dX6_init_1 : decode cX6_init 1 = .ok (.invokespecial 3, 3) := by decide +kernel
theorem dX6_init_4 : decode cX6_init 4 = .ok (.aload_n 0, 1) := by decide +kernel
theorem dX6_init_5 : decode cX6_init 5 = .ok (.bipush 96, 2) := by decide +kernel
theorem dX6_init_7 : decode cX6_init 7 = .ok (.newarray .int, 2) := by decide +kernel
theorem dX6_init_9 : decode cX6_init 9 = .ok (.putfield 9, 3) := by decide +kernel
theorem dX6_init_12 : decode cX6_init 12 = .ok (.aload_n 0, 1) := by decide +kernel
theorem dX6_init_13 : decode cX6_init 13 = .ok (.bipush 8, 2) := by decide +kernel
theorem dX6_init_15 : decode cX6_init 15 = .ok (.newarray .int, 2) := by decide +kernel
theorem dX6_init_17 : decode cX6_init 17 = .ok (.putfield 15, 3) := by decide +kernel
theorem dX6_init_20 : decode cX6_init 20 = .ok (.aload_n 0, 1) := by decide +kernel
theorem dX6_init_21 : decode cX6_init 21 = .ok (.bipush 8, 2) := by decide +kernel
theorem dX6_init_23 : decode cX6_init 23 = .ok (.newarray .int, 2) := by decide +kernel
theorem dX6_init_25 : decode cX6_init 25 = .ok (.putfield 18, 3) := by decide +kernel
theorem dX6_init_28 : decode cX6_init 28 = .ok (.aload_n 0, 1) := by decide +kernel
theorem dX6_init_29 : decode cX6_init 29 = .ok (.bipush 8, 2) := by decide +kernel
theorem dX6_init_31 : decode cX6_init 31 = .ok (.newarray .int, 2) := by decide +kernel
theorem dX6_init_33 : decode cX6_init 33 = .ok (.putfield 21, 3) := by decide +kernel
theorem dX6_init_36 : decode cX6_init 36 = .ok (.aload_n 0, 1) := by decide +kernel
theorem dX6_init_37 : decode cX6_init 37 = .ok (.bipush 8, 2) := by decide +kernel
theorem dX6_init_39 : decode cX6_init 39 = .ok (.newarray .int, 2) := by decide +kernel
theorem dX6_init_41 : decode cX6_init 41 = .ok (.putfield 24, 3) := by decide +kernel
theorem dX6_init_44 : decode cX6_init 44 = .ok (.aload_n 0, 1) := by decide +kernel
theorem dX6_init_45 : decode cX6_init 45 = .ok (.bipush 8, 2) := by decide +kernel
theorem dX6_init_47 : decode cX6_init 47 = .ok (.newarray .int, 2) := by decide +kernel
theorem dX6_init_49 : decode cX6_init 49 = .ok (.putfield 27, 3) := by decide +kernel
theorem dX6_init_52 : decode cX6_init 52 = .ok (.aload_n 0, 1) := by decide +kernel
theorem dX6_init_53 : decode cX6_init 53 = .ok (.bipush 8, 2) := by decide +kernel
theorem dX6_init_55 : decode cX6_init 55 = .ok (.newarray .int, 2) := by decide +kernel
theorem dX6_init_57 : decode cX6_init 57 = .ok (.putfield 30, 3) := by decide +kernel
theorem dX6_init_60 : decode cX6_init 60 = .ok (.aload_n 0, 1) := by decide +kernel
theorem dX6_init_61 : decode cX6_init 61 = .ok (.bipush 8, 2) := by decide +kernel
theorem dX6_init_63 : decode cX6_init 63 = .ok (.newarray .int, 2) := by decide +kernel
theorem dX6_init_65 : decode cX6_init 65 = .ok (.putfield 33, 3) := by decide +kernel
theorem dX6_init_68 : decode cX6_init 68 = .ok (.aload_n 0, 1) := by decide +kernel
theorem dX6_init_69 : decode cX6_init 69 = .ok (.new 36, 3) := by decide +kernel
theorem dX6_init_72 : decode cX6_init 72 = .ok (.dup, 1) := by decide +kernel
theorem dX6_init_73 : decode cX6_init 73 = .ok (.invokespecial 38, 3) := by decide +kernel
theorem dX6_init_76 : decode cX6_init 76 = .ok (.putfield 39, 3) := by decide +kernel
theorem dX6_init_79 : decode cX6_init 79 = .ok (.aload_n 0, 1) := by decide +kernel
theorem dX6_init_80 : decode cX6_init 80 = .ok (.new 36, 3) := by decide +kernel
theorem dX6_init_83 : decode cX6_init 83 = .ok (.dup, 1) := by decide +kernel
theorem dX6_init_84 : decode cX6_init 84 = .ok (.invokespecial 38, 3) := by decide +kernel
theorem dX6_init_87 : decode cX6_init 87 = .ok (.putfield 43, 3) := by decide +kernel
theorem dX6_init_90 : decode cX6_init 90 = .ok (.return_, 1) := by decide +kernel
theorem dX6_clear_0 : decode cX6_clear 0 = .ok (.aload_n 0, 1) := by decide +kernel
theorem dX6_clear_1 : decode cX6_clear 1 = .ok (.bipush 8, 2) := by decide +kernel
theorem dX6_clear_3 : decode cX6_clear 3 = .ok (.putfield 46, 3) := by decide +kernel
theorem dX6_clear_6 : decode cX6_clear 6 = .ok (.aload_n 0, 1) := by decide +kernel
theorem dX6_clear_7 : decode cX6_clear 7 = .ok (.iconst 4, 1) := by decide +kernel
theorem dX6_clear_8 : decode cX6_clear 8 = .ok (.putfield 50, 3) := by decide +kernel
theorem dX6_clear_11 : decode cX6_clear 11 = .ok (.aload_n 0, 1) := by decide +kernel
theorem dX6_clear_12 : decode cX6_clear 12 = .ok (.iconst 1, 1) := by decide +kernel
theorem dX6_clear_13 : decode cX6_clear 13 = .ok (.putfield 53, 3) := by decide +kernel
theorem dX6_clear_16 : decode cX6_clear 16 = .ok (.aload_n 0, 1) := by decide +kernel
theorem dX6_clear_17 : decode cX6_clear 17 = .ok (.getfield 9, 3) := by decide +kernel
theorem dX6_clear_20 : decode cX6_clear 20 = .ok (.iconst 1, 1) := by decide +kernel
theorem dX6_clear_21 : decode cX6_clear 21 = .ok (.invokestatic 56, 3) := by decide +kernel
theorem dX6_clear_24 : decode cX6_clear 24 = .ok (.aload_n 0, 1) := by decide +kernel
theorem dX6_clear_25 : decode cX6_clear 25 = .ok (.getfield 15, 3) := by decide +kernel
theorem dX6_clear_28 : decode cX6_clear 28 = .ok (.iconst 0, 1) := by decide +kernel
theorem dX6_clear_29 : decode cX6_clear 29 = .ok (.invokestatic 56, 3) := by decide +kernel
theorem dX6_clear_32 : decode cX6_clear 32 = .ok (.aload_n 0, 1) := by decide +kernel
theorem dX6_clear_33 : decode cX6_clear 33 = .ok (.iconst 0, 1) := by decide +kernel
theorem dX6_clear_34 : decode cX6_clear 34 = .ok (.putfield 62, 3) := by decide +kernel
theorem dX6_clear_37 : decode cX6_clear 37 = .ok (.aload_n 0, 1) := by decide +kernel
theorem dX6_clear_38 : decode cX6_clear 38 = .ok (.iconst 0, 1) := by decide +kernel
theorem dX6_clear_39 : decode cX6_clear 39 = .ok (.putfield 65, 3) := by decide +kernel
theorem dX6_clear_42 : decode cX6_clear 42 = .ok (.aload_n 0, 1) := by decide +kernel
theorem dX6_clear_43 : decode cX6_clear 43 = .ok (.getfield 39, 3) := by decide +kernel
theorem dX6_clear_46 : decode cX6_clear 46 = .ok (.invokevirtual 68, 3) := by decide +kernel
theorem dX6_clear_49 : decode cX6_clear 49 = .ok (.aload_n 0, 1) := by decide +kernel
theorem dX6_clear_50 : decode cX6_clear 50 = .ok (.getfield 43, 3) := by decide +kernel
theorem dX6_clear_53 : decode cX6_clear 53 = .ok (.invokevirtual 68, 3) := by decide +kernel
theorem dX6_clear_56 : decode cX6_clear 56 = .ok (.return_, 1) := by decide +kernel
theorem dX6_has_0 : decode cX6_has 0 = .ok (.iload_n 1, 1) := by decide +kernel
theorem dX6_has_1 : decode cX6_has 1 = .ok (.ifCond .lt 27, 3) := by decide +kernel
theorem dX6_has_4 : decode cX6_has 4 = .ok (.iload_n 1, 1) := by decide +kernel
theorem dX6_has_5 : decode cX6_has 5 = .ok (.aload_n 0, 1) := by decide +kernel
theorem dX6_has_6 : decode cX6_has 6 = .ok (.getfield 46, 3) := by decide +kernel
theorem dX6_has_9 : decode cX6_has 9 = .ok (.if_icmp .ge 19, 3) := by decide +kernel
theorem dX6_has_12 : decode cX6_has 12 = .ok (.iload_n 2, 1) := by decide +kernel
theorem dX6_has_13 : decode cX6_has 13 = .ok (.ifCond .lt 15, 3) := by decide +kernel
theorem dX6_has_16 : decode cX6_has 16 = .ok (.iload_n 2, 1) := by decide +kernel
theorem dX6_has_17 : decode cX6_has 17 = .ok (.aload_n 0, 1) := by decide +kernel
theorem dX6_has_18 : decode cX6_has 18 = .ok (.getfield 50, 3) := by decide +kernel
theorem dX6_has_21 : decode cX6_has 21 = .ok (.if_icmp .ge 7, 3) := by decide +kernel
theorem dX6_has_24 : decode cX6_has 24 = .ok (.iconst 1, 1) := by decide +kernel
theorem dX6_has_25 : decode cX6_has 25 = .ok (.goto 4, 3) := by decide +kernel
theorem dX6_has_28 : decode cX6_has 28 = .ok (.iconst 0, 1) := by decide +kernel
theorem dX6_has_29 : decode cX6_has 29 = .ok (.ireturn, 1) := by decide +kernel
theorem dX6_drift_0 : decode cX6_drift 0 = .ok (.aload_n 0, 1) := by decide +kernel
theorem dX6_drift_1 : decode cX6_drift 1 = .ok (.getfield 21, 3) := by decide +kernel
theorem dX6_drift_4 : decode cX6_drift 4 = .ok (.iload_n 1, 1) := by decide +kernel
theorem dX6_drift_5 : decode cX6_drift 5 = .ok (.iaload, 1) := by decide +kernel
theorem dX6_drift_6 : decode cX6_drift 6 = .ok (.istore_n 3, 1) := by decide +kernel
theorem dX6_drift_7 : decode cX6_drift 7 = .ok (.iload_n 3, 1) := by decide +kernel
theorem dX6_drift_8 : decode cX6_drift 8 = .ok (.ifCond .gt 7, 3) := by decide +kernel
theorem dX6_drift_11 : decode cX6_drift 11 = .ok (.iconst 0, 1) := by decide +kernel
theorem dX6_drift_12 : decode cX6_drift 12 = .ok (.goto 11, 3) := by decide +kernel
theorem dX6_drift_15 : decode cX6_drift 15 = .ok (.aload_n 0, 1) := by decide +kernel
theorem dX6_drift_16 : decode cX6_drift 16 = .ok (.getfield 15, 3) := by decide +kernel
theorem dX6_drift_19 : decode cX6_drift 19 = .ok (.iload_n 2, 1) := by decide +kernel
theorem dX6_drift_20 : decode cX6_drift 20 = .ok (.iaload, 1) := by decide +kernel
theorem dX6_drift_21 : decode cX6_drift 21 = .ok (.iload_n 3, 1) := by decide +kernel
theorem dX6_drift_22 : decode cX6_drift 22 = .ok (.idiv, 1) := by decide +kernel
theorem dX6_drift_23 : decode cX6_drift 23 = .ok (.ireturn, 1) := by decide +kernel
theorem dX6_isLeptAtOnce_0 : decode cX6_isLeptAtOnce 0 = .ok (.aload_n 0, 1) := by decide +kernel
theorem dX6_isLeptAtOnce_1 : decode cX6_isLeptAtOnce 1 = .ok (.getfield 50, 3) := by decide +kernel
theorem dX6_isLeptAtOnce_4 : decode cX6_isLeptAtOnce 4 = .ok (.aload_n 0, 1) := by decide +kernel
theorem dX6_isLeptAtOnce_5 : decode cX6_isLeptAtOnce 5 = .ok (.getfield 53, 3) := by decide +kernel
theorem dX6_isLeptAtOnce_8 : decode cX6_isLeptAtOnce 8 = .ok (.if_icmp .ge 7, 3) := by decide +kernel
theorem dX6_isLeptAtOnce_11 : decode cX6_isLeptAtOnce 11 = .ok (.iconst 1, 1) := by decide +kernel
theorem dX6_isLeptAtOnce_12 : decode cX6_isLeptAtOnce 12 = .ok (.goto 4, 3) := by decide +kernel
theorem dX6_isLeptAtOnce_15 : decode cX6_isLeptAtOnce 15 = .ok (.iconst 0, 1) := by decide +kernel
theorem dX6_isLeptAtOnce_16 : decode cX6_isLeptAtOnce 16 = .ok (.ireturn, 1) := by decide +kernel
theorem dX6_isNearEnough_0 : decode cX6_isNearEnough 0 = .ok (.iload_n 1, 1) := by decide +kernel
theorem dX6_isNearEnough_1 : decode cX6_isNearEnough 1 = .ok (.bipush 12, 2) := by decide +kernel
theorem dX6_isNearEnough_3 : decode cX6_isNearEnough 3 = .ok (.idiv, 1) := by decide +kernel
theorem dX6_isNearEnough_4 : decode cX6_isNearEnough 4 = .ok (.iconst 1, 1) := by decide +kernel
theorem dX6_isNearEnough_5 : decode cX6_isNearEnough 5 = .ok (.iadd, 1) := by decide +kernel
theorem dX6_isNearEnough_6 : decode cX6_isNearEnough 6 = .ok (.aload_n 0, 1) := by decide +kernel
theorem dX6_isNearEnough_7 : decode cX6_isNearEnough 7 = .ok (.getfield 53, 3) := by decide +kernel
theorem dX6_isNearEnough_10 : decode cX6_isNearEnough 10 = .ok (.if_icmp .gt 7, 3) := by decide +kernel
theorem dX6_isNearEnough_13 : decode cX6_isNearEnough 13 = .ok (.iconst 1, 1) := by decide +kernel
theorem dX6_isNearEnough_14 : decode cX6_isNearEnough 14 = .ok (.goto 4, 3) := by decide +kernel
theorem dX6_isNearEnough_17 : decode cX6_isNearEnough 17 = .ok (.iconst 0, 1) := by decide +kernel
theorem dX6_isNearEnough_18 : decode cX6_isNearEnough 18 = .ok (.ireturn, 1) := by decide +kernel
theorem dX6_isFarEnough_0 : decode cX6_isFarEnough 0 = .ok (.aload_n 0, 1) := by decide +kernel
theorem dX6_isFarEnough_1 : decode cX6_isFarEnough 1 = .ok (.getfield 50, 3) := by decide +kernel
theorem dX6_isFarEnough_4 : decode cX6_isFarEnough 4 = .ok (.iload_n 1, 1) := by decide +kernel
theorem dX6_isFarEnough_5 : decode cX6_isFarEnough 5 = .ok (.bipush 12, 2) := by decide +kernel
theorem dX6_isFarEnough_7 : decode cX6_isFarEnough 7 = .ok (.idiv, 1) := by decide +kernel
theorem dX6_isFarEnough_8 : decode cX6_isFarEnough 8 = .ok (.isub, 1) := by decide +kernel
theorem dX6_isFarEnough_9 : decode cX6_isFarEnough 9 = .ok (.aload_n 0, 1) := by decide +kernel
theorem dX6_isFarEnough_10 : decode cX6_isFarEnough 10 = .ok (.getfield 53, 3) := by decide +kernel
theorem dX6_isFarEnough_13 : decode cX6_isFarEnough 13 = .ok (.if_icmp .gt 7, 3) := by decide +kernel
theorem dX6_isFarEnough_16 : decode cX6_isFarEnough 16 = .ok (.iconst 1, 1) := by decide +kernel
theorem dX6_isFarEnough_17 : decode cX6_isFarEnough 17 = .ok (.goto 4, 3) := by decide +kernel
theorem dX6_isFarEnough_20 : decode cX6_isFarEnough 20 = .ok (.iconst 0, 1) := by decide +kernel
theorem dX6_isFarEnough_21 : decode cX6_isFarEnough 21 = .ok (.ireturn, 1) := by decide +kernel
theorem dX6_countLeaps_0 : decode cX6_countLeaps 0 = .ok (.iconst 2, 1) := by decide +kernel
theorem dX6_countLeaps_1 : decode cX6_countLeaps 1 = .ok (.aload_n 0, 1) := by decide +kernel
theorem dX6_countLeaps_2 : decode cX6_countLeaps 2 = .ok (.getfield 53, 3) := by decide +kernel
theorem dX6_countLeaps_5 : decode cX6_countLeaps 5 = .ok (.imul, 1) := by decide +kernel
theorem dX6_countLeaps_6 : decode cX6_countLeaps 6 = .ok (.aload_n 0, 1) := by decide +kernel
theorem dX6_countLeaps_7 : decode cX6_countLeaps 7 = .ok (.getfield 53, 3) := by decide +kernel
theorem dX6_countLeaps_10 : decode cX6_countLeaps 10 = .ok (.iconst 1, 1) := by decide +kernel
theorem dX6_countLeaps_11 : decode cX6_countLeaps 11 = .ok (.iadd, 1) := by decide +kernel
theorem dX6_countLeaps_12 : decode cX6_countLeaps 12 = .ok (.imul, 1) := by decide +kernel
theorem dX6_countLeaps_13 : decode cX6_countLeaps 13 = .ok (.getstatic 71, 3) := by decide +kernel
theorem dX6_countLeaps_16 : decode cX6_countLeaps 16 = .ok (.arraylength, 1) := by decide +kernel
theorem dX6_countLeaps_17 : decode cX6_countLeaps 17 = .ok (.invokestatic 74, 3) := by decide +kernel
theorem dX6_countLeaps_20 : decode cX6_countLeaps 20 = .ok (.ireturn, 1) := by decide +kernel
theorem dX6_leapFrom_0 : decode cX6_leapFrom 0 = .ok (.iload_n 1, 1) := by decide +kernel
theorem dX6_leapFrom_1 : decode cX6_leapFrom 1 = .ok (.bipush 12, 2) := by decide +kernel
theorem dX6_leapFrom_3 : decode cX6_leapFrom 3 = .ok (.irem, 1) := by decide +kernel
theorem dX6_leapFrom_4 : decode cX6_leapFrom 4 = .ok (.getstatic 71, 3) := by decide +kernel
theorem dX6_leapFrom_7 : decode cX6_leapFrom 7 = .ok (.iload_n 2, 1) := by decide +kernel
theorem dX6_leapFrom_8 : decode cX6_leapFrom 8 = .ok (.iaload, 1) := by decide +kernel
theorem dX6_leapFrom_9 : decode cX6_leapFrom 9 = .ok (.iadd, 1) := by decide +kernel
theorem dX6_leapFrom_10 : decode cX6_leapFrom 10 = .ok (.istore_n 3, 1) := by decide +kernel
theorem dX6_leapFrom_11 : decode cX6_leapFrom 11 = .ok (.iload_n 1, 1) := by decide +kernel
theorem dX6_leapFrom_12 : decode cX6_leapFrom 12 = .ok (.bipush 12, 2) := by decide +kernel
theorem dX6_leapFrom_14 : decode cX6_leapFrom 14 = .ok (.idiv, 1) := by decide +kernel
theorem dX6_leapFrom_15 : decode cX6_leapFrom 15 = .ok (.getstatic 80, 3) := by decide +kernel
theorem dX6_leapFrom_18 : decode cX6_leapFrom 18 = .ok (.iload_n 2, 1) := by decide +kernel
theorem dX6_leapFrom_19 : decode cX6_leapFrom 19 = .ok (.iaload, 1) := by decide +kernel
theorem dX6_leapFrom_20 : decode cX6_leapFrom 20 = .ok (.iadd, 1) := by decide +kernel
theorem dX6_leapFrom_21 : decode cX6_leapFrom 21 = .ok (.istore 4, 2) := by decide +kernel
theorem dX6_leapFrom_23 : decode cX6_leapFrom 23 = .ok (.aload_n 0, 1) := by decide +kernel
theorem dX6_leapFrom_24 : decode cX6_leapFrom 24 = .ok (.iload_n 3, 1) := by decide +kernel
theorem dX6_leapFrom_25 : decode cX6_leapFrom 25 = .ok (.iload 4, 2) := by decide +kernel
theorem dX6_leapFrom_27 : decode cX6_leapFrom 27 = .ok (.invokevirtual 83, 3) := by decide +kernel
theorem dX6_leapFrom_30 : decode cX6_leapFrom 30 = .ok (.ifCond .eq 12, 3) := by decide +kernel
theorem dX6_leapFrom_33 : decode cX6_leapFrom 33 = .ok (.iload_n 3, 1) := by decide +kernel
theorem dX6_leapFrom_34 : decode cX6_leapFrom 34 = .ok (.iload 4, 2) := by decide +kernel
theorem dX6_leapFrom_36 : decode cX6_leapFrom 36 = .ok (.invokestatic 87, 3) := by decide +kernel
theorem dX6_leapFrom_39 : decode cX6_leapFrom 39 = .ok (.goto 4, 3) := by decide +kernel
theorem dX6_leapFrom_42 : decode cX6_leapFrom 42 = .ok (.iconst (-1), 1) := by decide +kernel
theorem dX6_leapFrom_43 : decode cX6_leapFrom 43 = .ok (.ireturn, 1) := by decide +kernel
theorem dX6_isWithinLeap_0 : decode cX6_isWithinLeap 0 = .ok (.iload_n 1, 1) := by decide +kernel
theorem dX6_isWithinLeap_1 : decode cX6_isWithinLeap 1 = .ok (.bipush 12, 2) := by decide +kernel
theorem dX6_isWithinLeap_3 : decode cX6_isWithinLeap 3 = .ok (.irem, 1) := by decide +kernel
theorem dX6_isWithinLeap_4 : decode cX6_isWithinLeap 4 = .ok (.iload_n 2, 1) := by decide +kernel
theorem dX6_isWithinLeap_5 : decode cX6_isWithinLeap 5 = .ok (.bipush 12, 2) := by decide +kernel
theorem dX6_isWithinLeap_7 : decode cX6_isWithinLeap 7 = .ok (.irem, 1) := by decide +kernel
theorem dX6_isWithinLeap_8 : decode cX6_isWithinLeap 8 = .ok (.isub, 1) := by decide +kernel
theorem dX6_isWithinLeap_9 : decode cX6_isWithinLeap 9 = .ok (.invokestatic 90, 3) := by decide +kernel
theorem dX6_isWithinLeap_12 : decode cX6_isWithinLeap 12 = .ok (.istore_n 3, 1) := by decide +kernel
theorem dX6_isWithinLeap_13 : decode cX6_isWithinLeap 13 = .ok (.iload_n 1, 1) := by decide +kernel
theorem dX6_isWithinLeap_14 : decode cX6_isWithinLeap 14 = .ok (.bipush 12, 2) := by decide +kernel
theorem dX6_isWithinLeap_16 : decode cX6_isWithinLeap 16 = .ok (.idiv, 1) := by decide +kernel
theorem dX6_isWithinLeap_17 : decode cX6_isWithinLeap 17 = .ok (.iload_n 2, 1) := by decide +kernel
theorem dX6_isWithinLeap_18 : decode cX6_isWithinLeap 18 = .ok (.bipush 12, 2) := by decide +kernel
theorem dX6_isWithinLeap_20 : decode cX6_isWithinLeap 20 = .ok (.idiv, 1) := by decide +kernel
theorem dX6_isWithinLeap_21 : decode cX6_isWithinLeap 21 = .ok (.isub, 1) := by decide +kernel
theorem dX6_isWithinLeap_22 : decode cX6_isWithinLeap 22 = .ok (.invokestatic 90, 3) := by decide +kernel
theorem dX6_isWithinLeap_25 : decode cX6_isWithinLeap 25 = .ok (.istore 4, 2) := by decide +kernel
theorem dX6_isWithinLeap_27 : decode cX6_isWithinLeap 27 = .ok (.iload_n 3, 1) := by decide +kernel
theorem dX6_isWithinLeap_28 : decode cX6_isWithinLeap 28 = .ok (.iload 4, 2) := by decide +kernel
theorem dX6_isWithinLeap_30 : decode cX6_isWithinLeap 30 = .ok (.iadd, 1) := by decide +kernel
theorem dX6_isWithinLeap_31 : decode cX6_isWithinLeap 31 = .ok (.aload_n 0, 1) := by decide +kernel
theorem dX6_isWithinLeap_32 : decode cX6_isWithinLeap 32 = .ok (.getfield 53, 3) := by decide +kernel
theorem dX6_isWithinLeap_35 : decode cX6_isWithinLeap 35 = .ok (.if_icmp .gt 7, 3) := by decide +kernel
theorem dX6_isWithinLeap_38 : decode cX6_isWithinLeap 38 = .ok (.iconst 1, 1) := by decide +kernel
theorem dX6_isWithinLeap_39 : decode cX6_isWithinLeap 39 = .ok (.goto 4, 3) := by decide +kernel
theorem dX6_isWithinLeap_42 : decode cX6_isWithinLeap 42 = .ok (.iconst 0, 1) := by decide +kernel
theorem dX6_isWithinLeap_43 : decode cX6_isWithinLeap 43 = .ok (.ireturn, 1) := by decide +kernel
theorem dX7_init_0 : decode cX7_init 0 = .ok (.aload_n 0, 1) := by decide +kernel
theorem dX7_init_1 : decode cX7_init 1 = .ok (.invokespecial 3, 3) := by decide +kernel
theorem dX7_init_4 : decode cX7_init 4 = .ok (.aload_n 0, 1) := by decide +kernel
theorem dX7_init_5 : decode cX7_init 5 = .ok (.sipush 2000, 3) := by decide +kernel
theorem dX7_init_8 : decode cX7_init 8 = .ok (.newarray .byte, 2) := by decide +kernel
theorem dX7_init_10 : decode cX7_init 10 = .ok (.putfield 9, 3) := by decide +kernel
theorem dX7_init_13 : decode cX7_init 13 = .ok (.return_, 1) := by decide +kernel
theorem dX7_put_0 : decode cX7_put 0 = .ok (.bipush 24, 2) := by decide +kernel
theorem dX7_put_2 : decode cX7_put 2 = .ok (.istore_n 2, 1) := by decide +kernel
theorem dX7_put_3 : decode cX7_put 3 = .ok (.iload_n 2, 1) := by decide +kernel
theorem dX7_put_4 : decode cX7_put 4 = .ok (.ifCond .lt 42, 3) := by decide +kernel
theorem dX7_put_7 : decode cX7_put 7 = .ok (.aload_n 0, 1) := by decide +kernel
theorem dX7_put_8 : decode cX7_put 8 = .ok (.getfield 15, 3) := by decide +kernel
theorem dX7_put_11 : decode cX7_put 11 = .ok (.sipush 2000, 3) := by decide +kernel
theorem dX7_put_14 : decode cX7_put 14 = .ok (.if_icmp .ge 32, 3) := by decide +kernel
theorem dX7_put_17 : decode cX7_put 17 = .ok (.aload_n 0, 1) := by decide +kernel
theorem dX7_put_18 : decode cX7_put 18 = .ok (.getfield 9, 3) := by decide +kernel
theorem dX7_put_21 : decode cX7_put 21 = .ok (.aload_n 0, 1) := by decide +kernel
theorem dX7_put_22 : decode cX7_put 22 = .ok (.getfield 15, 3) := by decide +kernel
theorem dX7_put_25 : decode cX7_put 25 = .ok (.iload_n 1, 1) := by decide +kernel
theorem dX7_put_26 : decode cX7_put 26 = .ok (.iload_n 2, 1) := by decide +kernel
theorem dX7_put_27 : decode cX7_put 27 = .ok (.iushr, 1) := by decide +kernel
theorem dX7_put_28 : decode cX7_put 28 = .ok (.i2b, 1) := by decide +kernel
theorem dX7_put_29 : decode cX7_put 29 = .ok (.bastore, 1) := by decide +kernel
theorem dX7_put_30 : decode cX7_put 30 = .ok (.aload_n 0, 1) := by decide +kernel
theorem dX7_put_31 : decode cX7_put 31 = .ok (.dup, 1) := by decide +kernel
theorem dX7_put_32 : decode cX7_put 32 = .ok (.getfield 15, 3) := by decide +kernel
theorem dX7_put_35 : decode cX7_put 35 = .ok (.iconst 1, 1) := by decide +kernel
theorem dX7_put_36 : decode cX7_put 36 = .ok (.iadd, 1) := by decide +kernel
theorem dX7_put_37 : decode cX7_put 37 = .ok (.putfield 15, 3) := by decide +kernel
theorem dX7_put_40 : decode cX7_put 40 = .ok (.iinc 2 (-8), 3) := by decide +kernel
theorem dX7_put_43 : decode cX7_put 43 = .ok (.goto (-40), 3) := by decide +kernel
theorem dX7_put_46 : decode cX7_put 46 = .ok (.return_, 1) := by decide +kernel
theorem dX7_byteAt_0 : decode cX7_byteAt 0 = .ok (.aload_n 0, 1) := by decide +kernel
theorem dX7_byteAt_1 : decode cX7_byteAt 1 = .ok (.getfield 9, 3) := by decide +kernel
theorem dX7_byteAt_4 : decode cX7_byteAt 4 = .ok (.iload_n 1, 1) := by decide +kernel
theorem dX7_byteAt_5 : decode cX7_byteAt 5 = .ok (.baload, 1) := by decide +kernel
theorem dX7_byteAt_6 : decode cX7_byteAt 6 = .ok (.sipush 255, 3) := by decide +kernel
theorem dX7_byteAt_9 : decode cX7_byteAt 9 = .ok (.iand, 1) := by decide +kernel
theorem dX7_byteAt_10 : decode cX7_byteAt 10 = .ok (.ireturn, 1) := by decide +kernel
theorem dX8_init_0 : decode cX8_init 0 = .ok (.aload_n 0, 1) := by decide +kernel
theorem dX8_init_1 : decode cX8_init 1 = .ok (.invokespecial 3, 3) := by decide +kernel
theorem dX8_init_4 : decode cX8_init 4 = .ok (.aload_n 0, 1) := by decide +kernel
theorem dX8_init_5 : decode cX8_init 5 = .ok (.sipush 402, 3) := by decide +kernel
theorem dX8_init_8 : decode cX8_init 8 = .ok (.newarray .int, 2) := by decide +kernel
theorem dX8_init_10 : decode cX8_init 10 = .ok (.putfield 9, 3) := by decide +kernel
theorem dX8_init_13 : decode cX8_init 13 = .ok (.aload_n 0, 1) := by decide +kernel
theorem dX8_init_14 : decode cX8_init 14 = .ok (.sipush 402, 3) := by decide +kernel
theorem dX8_init_17 : decode cX8_init 17 = .ok (.newarray .int, 2) := by decide +kernel
theorem dX8_init_19 : decode cX8_init 19 = .ok (.putfield 15, 3) := by decide +kernel
theorem dX8_init_22 : decode cX8_init 22 = .ok (.aload_n 0, 1) := by decide +kernel
theorem dX8_init_23 : decode cX8_init 23 = .ok (.sipush 402, 3) := by decide +kernel
theorem dX8_init_26 : decode cX8_init 26 = .ok (.newarray .int, 2) := by decide +kernel
theorem dX8_init_28 : decode cX8_init 28 = .ok (.putfield 18, 3) := by decide +kernel
theorem dX8_init_31 : decode cX8_init 31 = .ok (.aload_n 0, 1) := by decide +kernel
theorem dX8_init_32 : decode cX8_init 32 = .ok (.sipush 402, 3) := by decide +kernel
theorem dX8_init_35 : decode cX8_init 35 = .ok (.newarray .int, 2) := by decide +kernel
theorem dX8_init_37 : decode cX8_init 37 = .ok (.putfield 21, 3) := by decide +kernel
theorem dX8_init_40 : decode cX8_init 40 = .ok (.return_, 1) := by decide +kernel
theorem dX8_scan_0 : decode cX8_scan 0 = .ok (.iconst 0, 1) := by decide +kernel
theorem dX8_scan_1 : decode cX8_scan 1 = .ok (.istore_n 2, 1) := by decide +kernel
theorem dX8_scan_2 : decode cX8_scan 2 = .ok (.aload_n 1, 1) := by decide +kernel
theorem dX8_scan_3 : decode cX8_scan 3 = .ok (.iconst 0, 1) := by decide +kernel
theorem dX8_scan_4 : decode cX8_scan 4 = .ok (.iconst 0, 1) := by decide +kernel
theorem dX8_scan_5 : decode cX8_scan 5 = .ok (.invokestatic 24, 3) := by decide +kernel
theorem dX8_scan_8 : decode cX8_scan 8 = .ok (.istore_n 3, 1) := by decide +kernel
theorem dX8_scan_9 : decode cX8_scan 9 = .ok (.iload_n 2, 1) := by decide +kernel
theorem dX8_scan_10 : decode cX8_scan 10 = .ok (.sipush 400, 3) := by decide +kernel
theorem dX8_scan_13 : decode cX8_scan 13 = .ok (.if_icmp .gt 74, 3) := by decide +kernel
theorem dX8_scan_16 : decode cX8_scan 16 = .ok (.iload_n 3, 1) := by decide +kernel
theorem dX8_scan_17 : decode cX8_scan 17 = .ok (.aload_n 1, 1) := by decide +kernel
theorem dX8_scan_18 : decode cX8_scan 18 = .ok (.getfield 28, 3) := by decide +kernel
theorem dX8_scan_21 : decode cX8_scan 21 = .ok (.if_icmp .ge 66, 3) := by decide +kernel
theorem dX8_scan_24 : decode cX8_scan 24 = .ok (.aload_n 1, 1) := by decide +kernel
theorem dX8_scan_25 : decode cX8_scan 25 = .ok (.iload_n 3, 1) := by decide +kernel
theorem dX8_scan_26 : decode cX8_scan 26 = .ok (.invokestatic 34, 3) := by decide +kernel
theorem dX8_scan_29 : decode cX8_scan 29 = .ok (.istore 4, 2) := by decide +kernel
theorem dX8_scan_31 : decode cX8_scan 31 = .ok (.aload_n 0, 1) := by decide +kernel
theorem dX8_scan_32 : decode cX8_scan 32 = .ok (.iload_n 2, 1) := by decide +kernel
theorem dX8_scan_33 : decode cX8_scan 33 = .ok (.aload_n 1, 1) := by decide +kernel
theorem dX8_scan_34 : decode cX8_scan 34 = .ok (.iload_n 3, 1) := by decide +kernel
theorem dX8_scan_35 : decode cX8_scan 35 = .ok (.iload 4, 2) := by decide +kernel
theorem dX8_scan_37 : decode cX8_scan 37 = .ok (.invokestatic 38, 3) := by decide +kernel
theorem dX8_scan_40 : decode cX8_scan 40 = .ok (.iload_n 3, 1) := by decide +kernel
theorem dX8_scan_41 : decode cX8_scan 41 = .ok (.iload 4, 2) := by decide +kernel
theorem dX8_scan_43 : decode cX8_scan 43 = .ok (.iload_n 3, 1) := by decide +kernel
theorem dX8_scan_44 : decode cX8_scan 44 = .ok (.isub, 1) := by decide +kernel
theorem dX8_scan_45 : decode cX8_scan 45 = .ok (.invokevirtual 41, 3) := by decide +kernel
theorem dX8_scan_48 : decode cX8_scan 48 = .ok (.aload_n 0, 1) := by decide +kernel
theorem dX8_scan_49 : decode cX8_scan 49 = .ok (.getfield 9, 3) := by decide +kernel
theorem dX8_scan_52 : decode cX8_scan 52 = .ok (.iload_n 2, 1) := by decide +kernel
theorem dX8_scan_53 : decode cX8_scan 53 = .ok (.iaload, 1) := by decide +kernel
theorem dX8_scan_54 : decode cX8_scan 54 = .ok (.sipush 301, 3) := by decide +kernel
theorem dX8_scan_57 : decode cX8_scan 57 = .ok (.if_icmp .ne 16, 3) := by decide +kernel
theorem dX8_scan_60 : decode cX8_scan 60 = .ok (.aload_n 0, 1) := by decide +kernel
theorem dX8_scan_61 : decode cX8_scan 61 = .ok (.getfield 21, 3) := by decide +kernel
theorem dX8_scan_64 : decode cX8_scan 64 = .ok (.iload_n 2, 1) := by decide +kernel
theorem dX8_scan_65 : decode cX8_scan 65 = .ok (.aload_n 1, 1) := by decide +kernel
theorem dX8_scan_66 : decode cX8_scan 66 = .ok (.iload_n 3, 1) := by decide +kernel
theorem dX8_scan_67 : decode cX8_scan 67 = .ok (.iload 4, 2) := by decide +kernel
theorem dX8_scan_69 : decode cX8_scan 69 = .ok (.invokestatic 45, 3) := by decide +kernel
theorem dX8_scan_72 : decode cX8_scan 72 = .ok (.iastore, 1) := by decide +kernel
theorem dX8_scan_73 : decode cX8_scan 73 = .ok (.iinc 2 1, 3) := by decide +kernel
theorem dX8_scan_76 : decode cX8_scan 76 = .ok (.aload_n 1, 1) := by decide +kernel
theorem dX8_scan_77 : decode cX8_scan 77 = .ok (.iload 4, 2) := by decide +kernel
theorem dX8_scan_79 : decode cX8_scan 79 = .ok (.iconst 0, 1) := by decide +kernel
theorem dX8_scan_80 : decode cX8_scan 80 = .ok (.invokestatic 24, 3) := by decide +kernel
theorem dX8_scan_83 : decode cX8_scan 83 = .ok (.istore_n 3, 1) := by decide +kernel
theorem dX8_scan_84 : decode cX8_scan 84 = .ok (.goto (-75), 3) := by decide +kernel
theorem dX8_scan_87 : decode cX8_scan 87 = .ok (.aload_n 0, 1) := by decide +kernel
theorem dX8_scan_88 : decode cX8_scan 88 = .ok (.iload_n 2, 1) := by decide +kernel
theorem dX8_scan_89 : decode cX8_scan 89 = .ok (.sipush 302, 3) := by decide +kernel
theorem dX8_scan_92 : decode cX8_scan 92 = .ok (.aload_n 1, 1) := by decide +kernel
theorem dX8_scan_93 : decode cX8_scan 93 = .ok (.getfield 28, 3) := by decide +kernel
theorem dX8_scan_96 : decode cX8_scan 96 = .ok (.iconst 0, 1) := by decide +kernel
theorem dX8_scan_97 : decode cX8_scan 97 = .ok (.invokevirtual 41, 3) := by decide +kernel
theorem dX8_scan_100 : decode cX8_scan 100 = .ok (.return_, 1) := by decide +kernel
theorem dX8_put_0 : decode cX8_put 0 = .ok (.aload_n 0, 1) := by decide +kernel
theorem dX8_put_1 : decode cX8_put 1 = .ok (.getfield 9, 3) := by decide +kernel
theorem dX8_put_4 : decode cX8_put 4 = .ok (.iload_n 1, 1) := by decide +kernel
theorem dX8_put_5 : decode cX8_put 5 = .ok (.iload_n 2, 1) := by decide +kernel
theorem dX8_put_6 : decode cX8_put 6 = .ok (.iastore, 1) := by decide +kernel
theorem dX8_put_7 : decode cX8_put 7 = .ok (.aload_n 0, 1) := by decide +kernel
theorem dX8_put_8 : decode cX8_put 8 = .ok (.getfield 15, 3) := by decide +kernel
theorem dX8_put_11 : decode cX8_put 11 = .ok (.iload_n 1, 1) := by decide +kernel
theorem dX8_put_12 : decode cX8_put 12 = .ok (.iload_n 3, 1) := by decide +kernel
theorem dX8_put_13 : decode cX8_put 13 = .ok (.iastore, 1) := by decide +kernel
theorem dX8_put_14 : decode cX8_put 14 = .ok (.aload_n 0, 1) := by decide +kernel
theorem dX8_put_15 : decode cX8_put 15 = .ok (.getfield 18, 3) := by decide +kernel
theorem dX8_put_18 : decode cX8_put 18 = .ok (.iload_n 1, 1) := by decide +kernel
theorem dX8_put_19 : decode cX8_put 19 = .ok (.iload 4, 2) := by decide +kernel
theorem dX8_put_21 : decode cX8_put 21 = .ok (.iastore, 1) := by decide +kernel
theorem dX8_put_22 : decode cX8_put 22 = .ok (.aload_n 0, 1) := by decide +kernel
theorem dX8_put_23 : decode cX8_put 23 = .ok (.getfield 21, 3) := by decide +kernel
theorem dX8_put_26 : decode cX8_put 26 = .ok (.iload_n 1, 1) := by decide +kernel
theorem dX8_put_27 : decode cX8_put 27 = .ok (.iconst 0, 1) := by decide +kernel
theorem dX8_put_28 : decode cX8_put 28 = .ok (.iastore, 1) := by decide +kernel
theorem dX8_put_29 : decode cX8_put 29 = .ok (.return_, 1) := by decide +kernel
theorem dX8_endOfToken_0 : decode cX8_endOfToken 0 = .ok (.aload_n 0, 1) := by decide +kernel
theorem dX8_endOfToken_1 : decode cX8_endOfToken 1 = .ok (.iload_n 1, 1) := by decide +kernel
theorem dX8_endOfToken_2 : decode cX8_endOfToken 2 = .ok (.invokevirtual 48, 3) := by decide +kernel
theorem dX8_endOfToken_5 : decode cX8_endOfToken 5 = .ok (.invokestatic 52, 3) := by decide +kernel
theorem dX8_endOfToken_8 : decode cX8_endOfToken 8 = .ok (.istore_n 2, 1) := by decide +kernel
theorem dX8_endOfToken_9 : decode cX8_endOfToken 9 = .ok (.iload_n 2, 1) := by decide +kernel
theorem dX8_endOfToken_10 : decode cX8_endOfToken 10 = .ok (.iconst 3, 1) := by decide +kernel
theorem dX8_endOfToken_11 : decode cX8_endOfToken 11 = .ok (.if_icmp .ne 9, 3) := by decide +kernel
theorem dX8_endOfToken_14 : decode cX8_endOfToken 14 = .ok (.iload_n 1, 1) := by decide +kernel
theorem dX8_endOfToken_15 : decode cX8_endOfToken 15 = .ok (.iconst 1, 1) := by decide +kernel
theorem dX8_endOfToken_16 : decode cX8_endOfToken 16 = .ok (.iadd, 1) := by decide +kernel
theorem dX8_endOfToken_17 : decode cX8_endOfToken 17 = .ok (.goto 9, 3) := by decide +kernel
theorem dX8_endOfToken_20 : decode cX8_endOfToken 20 = .ok (.aload_n 0, 1) := by decide +kernel
theorem dX8_endOfToken_21 : decode cX8_endOfToken 21 = .ok (.iload_n 1, 1) := by decide +kernel
theorem dX8_endOfToken_22 : decode cX8_endOfToken 22 = .ok (.iload_n 2, 1) := by decide +kernel
theorem dX8_endOfToken_23 : decode cX8_endOfToken 23 = .ok (.invokestatic 24, 3) := by decide +kernel
theorem dX8_endOfToken_26 : decode cX8_endOfToken 26 = .ok (.ireturn, 1) := by decide +kernel
theorem dX8_skip_0 : decode cX8_skip 0 = .ok (.iload_n 1, 1) := by decide +kernel
theorem dX8_skip_1 : decode cX8_skip 1 = .ok (.istore_n 3, 1) := by decide +kernel
theorem dX8_skip_2 : decode cX8_skip 2 = .ok (.iload_n 3, 1) := by decide +kernel
theorem dX8_skip_3 : decode cX8_skip 3 = .ok (.aload_n 0, 1) := by decide +kernel
theorem dX8_skip_4 : decode cX8_skip 4 = .ok (.getfield 28, 3) := by decide +kernel
theorem dX8_skip_7 : decode cX8_skip 7 = .ok (.if_icmp .ge 21, 3) := by decide +kernel
theorem dX8_skip_10 : decode cX8_skip 10 = .ok (.aload_n 0, 1) := by decide +kernel
theorem dX8_skip_11 : decode cX8_skip 11 = .ok (.iload_n 3, 1) := by decide +kernel
theorem dX8_skip_12 : decode cX8_skip 12 = .ok (.invokevirtual 48, 3) := by decide +kernel
theorem dX8_skip_15 : decode cX8_skip 15 = .ok (.invokestatic 52, 3) := by decide +kernel
theorem dX8_skip_18 : decode cX8_skip 18 = .ok (.iload_n 2, 1) := by decide +kernel
theorem dX8_skip_19 : decode cX8_skip 19 = .ok (.if_icmp .ne 9, 3) := by decide +kernel
theorem dX8_skip_22 : decode cX8_skip 22 = .ok (.iinc 3 1, 3) := by decide +kernel
theorem dX8_skip_25 : decode cX8_skip 25 = .ok (.goto (-23), 3) := by decide +kernel
theorem dX8_skip_28 : decode cX8_skip 28 = .ok (.iload_n 3, 1) := by decide +kernel
theorem dX8_skip_29 : decode cX8_skip 29 = .ok (.ireturn, 1) := by decide +kernel
theorem dX8_sortOf_0 : decode cX8_sortOf 0 = .ok (.iload_n 0, 1) := by decide +kernel
theorem dX8_sortOf_1 : decode cX8_sortOf 1 = .ok (.bipush 9, 2) := by decide +kernel
theorem dX8_sortOf_3 : decode cX8_sortOf 3 = .ok (.if_icmp .eq 21, 3) := by decide +kernel
theorem dX8_sortOf_6 : decode cX8_sortOf 6 = .ok (.iload_n 0, 1) := by decide +kernel
theorem dX8_sortOf_7 : decode cX8_sortOf 7 = .ok (.bipush 10, 2) := by decide +kernel
theorem dX8_sortOf_9 : decode cX8_sortOf 9 = .ok (.if_icmp .eq 15, 3) := by decide +kernel
theorem dX8_sortOf_12 : decode cX8_sortOf 12 = .ok (.iload_n 0, 1) := by decide +kernel
theorem dX8_sortOf_13 : decode cX8_sortOf 13 = .ok (.bipush 13, 2) := by decide +kernel
theorem dX8_sortOf_15 : decode cX8_sortOf 15 = .ok (.if_icmp .eq 9, 3) := by decide +kernel
theorem dX8_sortOf_18 : decode cX8_sortOf 18 = .ok (.iload_n 0, 1) := by decide +kernel
theorem dX8_sortOf_19 : decode cX8_sortOf 19 = .ok (.bipush 32, 2) := by decide +kernel
theorem dX8_sortOf_21 : decode cX8_sortOf 21 = .ok (.if_icmp .ne 5, 3) := by decide +kernel
theorem dX8_sortOf_24 : decode cX8_sortOf 24 = .ok (.iconst 0, 1) := by decide +kernel
theorem dX8_sortOf_25 : decode cX8_sortOf 25 = .ok (.ireturn, 1) := by decide +kernel
theorem dX8_sortOf_26 : decode cX8_sortOf 26 = .ok (.iload_n 0, 1) := by decide +kernel
theorem dX8_sortOf_27 : decode cX8_sortOf 27 = .ok (.bipush 97, 2) := by decide +kernel
theorem dX8_sortOf_29 : decode cX8_sortOf 29 = .ok (.if_icmp .lt 11, 3) := by decide +kernel
theorem dX8_sortOf_32 : decode cX8_sortOf 32 = .ok (.iload_n 0, 1) := by decide +kernel
theorem dX8_sortOf_33 : decode cX8_sortOf 33 = .ok (.bipush 122, 2) := by decide +kernel
theorem dX8_sortOf_35 : decode cX8_sortOf 35 = .ok (.if_icmp .gt 5, 3) := by decide +kernel
theorem dX8_sortOf_38 : decode cX8_sortOf 38 = .ok (.iconst 1, 1) := by decide +kernel
theorem dX8_sortOf_39 : decode cX8_sortOf 39 = .ok (.ireturn, 1) := by decide +kernel
theorem dX8_sortOf_40 : decode cX8_sortOf 40 = .ok (.iload_n 0, 1) := by decide +kernel
theorem dX8_sortOf_41 : decode cX8_sortOf 41 = .ok (.bipush 48, 2) := by decide +kernel
theorem dX8_sortOf_43 : decode cX8_sortOf 43 = .ok (.if_icmp .lt 11, 3) := by decide +kernel
theorem dX8_sortOf_46 : decode cX8_sortOf 46 = .ok (.iload_n 0, 1) := by decide +kernel
theorem dX8_sortOf_47 : decode cX8_sortOf 47 = .ok (.bipush 57, 2) := by decide +kernel
theorem dX8_sortOf_49 : decode cX8_sortOf 49 = .ok (.if_icmp .gt 5, 3) := by decide +kernel
theorem dX8_sortOf_52 : decode cX8_sortOf 52 = .ok (.iconst 2, 1) := by decide +kernel
theorem dX8_sortOf_53 : decode cX8_sortOf 53 = .ok (.ireturn, 1) := by decide +kernel
theorem dX8_sortOf_54 : decode cX8_sortOf 54 = .ok (.iconst 3, 1) := by decide +kernel
theorem dX8_sortOf_55 : decode cX8_sortOf 55 = .ok (.ireturn, 1) := by decide +kernel
theorem dX8_kindOf_0 : decode cX8_kindOf 0 = .ok (.aload_n 0, 1) := by decide +kernel
theorem dX8_kindOf_1 : decode cX8_kindOf 1 = .ok (.iload_n 1, 1) := by decide +kernel
theorem dX8_kindOf_2 : decode cX8_kindOf 2 = .ok (.invokevirtual 48, 3) := by decide +kernel
theorem dX8_kindOf_5 : decode cX8_kindOf 5 = .ok (.istore_n 3, 1) := by decide +kernel
theorem dX8_kindOf_6 : decode cX8_kindOf 6 = .ok (.iload_n 3, 1) := by decide +kernel
theorem dX8_kindOf_7 : decode cX8_kindOf 7 = .ok (.invokestatic 52, 3) := by decide +kernel
theorem dX8_kindOf_10 : decode cX8_kindOf 10 = .ok (.lookupswitch 52 #[(1, 26), (2, 35)], 26) := by decide +kernel
theorem dX8_kindOf_36 : decode cX8_kindOf 36 = .ok (.aload_n 0, 1) := by decide +kernel
theorem dX8_kindOf_37 : decode cX8_kindOf 37 = .ok (.iload_n 1, 1) := by decide +kernel
theorem dX8_kindOf_38 : decode cX8_kindOf 38 = .ok (.iload_n 2, 1) := by decide +kernel
theorem dX8_kindOf_39 : decode cX8_kindOf 39 = .ok (.iload_n 1, 1) := by decide +kernel
theorem dX8_kindOf_40 : decode cX8_kindOf 40 = .ok (.isub, 1) := by decide +kernel
theorem dX8_kindOf_41 : decode cX8_kindOf 41 = .ok (.invokestatic 55, 3) := by decide +kernel
theorem dX8_kindOf_44 : decode cX8_kindOf 44 = .ok (.ireturn, 1) := by decide +kernel
theorem dX8_kindOf_45 : decode cX8_kindOf 45 = .ok (.iload_n 2, 1) := by decide +kernel
theorem dX8_kindOf_46 : decode cX8_kindOf 46 = .ok (.iload_n 1, 1) := by decide +kernel
theorem dX8_kindOf_47 : decode cX8_kindOf 47 = .ok (.isub, 1) := by decide +kernel
theorem dX8_kindOf_48 : decode cX8_kindOf 48 = .ok (.iconst 4, 1) := by decide +kernel
theorem dX8_kindOf_49 : decode cX8_kindOf 49 = .ok (.if_icmp .le 9, 3) := by decide +kernel
theorem dX8_kindOf_52 : decode cX8_kindOf 52 = .ok (.sipush 303, 3) := by decide +kernel
theorem dX8_kindOf_55 : decode cX8_kindOf 55 = .ok (.goto 6, 3) := by decide +kernel
theorem dX8_kindOf_58 : decode cX8_kindOf 58 = .ok (.sipush 301, 3) := by decide +kernel
theorem dX8_kindOf_61 : decode cX8_kindOf 61 = .ok (.ireturn, 1) := by decide +kernel
theorem dX8_kindOf_62 : decode cX8_kindOf 62 = .ok (.ldc 58, 2) := by decide +kernel
theorem dX8_kindOf_64 : decode cX8_kindOf 64 = .ok (.iload_n 3, 1) := by decide +kernel
theorem dX8_kindOf_65 : decode cX8_kindOf 65 = .ok (.i2c, 1) := by decide +kernel
theorem dX8_kindOf_66 : decode cX8_kindOf 66 = .ok (.invokevirtual 60, 3) := by decide +kernel
theorem dX8_kindOf_69 : decode cX8_kindOf 69 = .ok (.ifCond .lt 7, 3) := by decide +kernel
theorem dX8_kindOf_72 : decode cX8_kindOf 72 = .ok (.iload_n 3, 1) := by decide +kernel
theorem dX8_kindOf_73 : decode cX8_kindOf 73 = .ok (.goto 6, 3) := by decide +kernel
theorem dX8_kindOf_76 : decode cX8_kindOf 76 = .ok (.sipush 303, 3) := by decide +kernel
theorem dX8_kindOf_79 : decode cX8_kindOf 79 = .ok (.ireturn, 1) := by decide +kernel
theorem dX8_wordKind_0 : decode cX8_wordKind 0 = .ok (.iconst 0, 1) := by decide +kernel
theorem dX8_wordKind_1 : decode cX8_wordKind 1 = .ok (.istore_n 3, 1) := by decide +kernel
theorem dX8_wordKind_2 : decode cX8_wordKind 2 = .ok (.iload_n 3, 1) := by decide +kernel
theorem dX8_wordKind_3 : decode cX8_wordKind 3 = .ok (.bipush 17, 2) := by decide +kernel
theorem dX8_wordKind_5 : decode cX8_wordKind 5 = .ok (.if_icmp .ge 25, 3) := by decide +kernel
theorem dX8_wordKind_8 : decode cX8_wordKind 8 = .ok (.aload_n 0, 1) := by decide +kernel
theorem dX8_wordKind_9 : decode cX8_wordKind 9 = .ok (.iload_n 1, 1) := by decide +kernel
theorem dX8_wordKind_10 : decode cX8_wordKind 10 = .ok (.iload_n 2, 1) := by decide +kernel
theorem dX8_wordKind_11 : decode cX8_wordKind 11 = .ok (.iload_n 3, 1) := by decide +kernel
theorem dX8_wordKind_12 : decode cX8_wordKind 12 = .ok (.invokestatic 65, 3) := by decide +kernel
theorem dX8_wordKind_15 : decode cX8_wordKind 15 = .ok (.ifCond .eq 9, 3) := by decide +kernel
theorem dX8_wordKind_18 : decode cX8_wordKind 18 = .ok (.sipush 256, 3) := by decide +kernel
theorem dX8_wordKind_21 : decode cX8_wordKind 21 = .ok (.iload_n 3, 1) := by decide +kernel
theorem dX8_wordKind_22 : decode cX8_wordKind 22 = .ok (.iadd, 1) := by decide +kernel
theorem dX8_wordKind_23 : decode cX8_wordKind 23 = .ok (.ireturn, 1) := by decide +kernel
theorem dX8_wordKind_24 : decode cX8_wordKind 24 = .ok (.iinc 3 1, 3) := by decide +kernel
theorem dX8_wordKind_27 : decode cX8_wordKind 27 = .ok (.goto (-25), 3) := by decide +kernel
theorem dX8_wordKind_30 : decode cX8_wordKind 30 = .ok (.iload_n 2, 1) := by decide +kernel
theorem dX8_wordKind_31 : decode cX8_wordKind 31 = .ok (.bipush 8, 2) := by decide +kernel
theorem dX8_wordKind_33 : decode cX8_wordKind 33 = .ok (.if_icmp .le 9, 3) := by decide +kernel
theorem dX8_wordKind_36 : decode cX8_wordKind 36 = .ok (.sipush 303, 3) := by decide +kernel
theorem dX8_wordKind_39 : decode cX8_wordKind 39 = .ok (.goto 6, 3) := by decide +kernel
theorem dX8_wordKind_42 : decode cX8_wordKind 42 = .ok (.sipush 300, 3) := by decide +kernel
theorem dX8_wordKind_45 : decode cX8_wordKind 45 = .ok (.ireturn, 1) := by decide +kernel
theorem dX8_spells_0 : decode cX8_spells 0 = .ok (.iload_n 2, 1) := by decide +kernel
theorem dX8_spells_1 : decode cX8_spells 1 = .ok (.bipush 6, 2) := by decide +kernel
theorem dX8_spells_3 : decode cX8_spells 3 = .ok (.if_icmp .le 5, 3) := by decide +kernel
theorem dX8_spells_6 : decode cX8_spells 6 = .ok (.iconst 0, 1) := by decide +kernel
theorem dX8_spells_7 : decode cX8_spells 7 = .ok (.ireturn, 1) := by decide +kernel
theorem dX8_spells_8 : decode cX8_spells 8 = .ok (.iconst 0, 1) := by decide +kernel
theorem dX8_spells_9 : decode cX8_spells 9 = .ok (.istore 4, 2) := by decide +kernel
theorem dX8_spells_11 : decode cX8_spells 11 = .ok (.iload 4, 2) := by decide +kernel
theorem dX8_spells_13 : decode cX8_spells 13 = .ok (.bipush 6, 2) := by decide +kernel
theorem dX8_spells_15 : decode cX8_spells 15 = .ok (.if_icmp .ge 49, 3) := by decide +kernel
theorem dX8_spells_18 : decode cX8_spells 18 = .ok (.iload 4, 2) := by decide +kernel
theorem dX8_spells_20 : decode cX8_spells 20 = .ok (.iload_n 2, 1) := by decide +kernel
theorem dX8_spells_21 : decode cX8_spells 21 = .ok (.if_icmp .ge 14, 3) := by decide +kernel
theorem dX8_spells_24 : decode cX8_spells 24 = .ok (.aload_n 0, 1) := by decide +kernel
theorem dX8_spells_25 : decode cX8_spells 25 = .ok (.iload_n 1, 1) := by decide +kernel
theorem dX8_spells_26 : decode cX8_spells 26 = .ok (.iload 4, 2) := by decide +kernel
theorem dX8_spells_28 : decode cX8_spells 28 = .ok (.iadd, 1) := by decide +kernel
theorem dX8_spells_29 : decode cX8_spells 29 = .ok (.invokevirtual 48, 3) := by decide +kernel
theorem dX8_spells_32 : decode cX8_spells 32 = .ok (.goto 5, 3) := by decide +kernel
theorem dX8_spells_35 : decode cX8_spells 35 = .ok (.bipush 32, 2) := by decide +kernel
theorem dX8_spells_37 : decode cX8_spells 37 = .ok (.istore 5, 2) := by decide +kernel
theorem dX8_spells_39 : decode cX8_spells 39 = .ok (.iload 5, 2) := by decide +kernel
theorem dX8_spells_41 : decode cX8_spells 41 = .ok (.ldc 69, 2) := by decide +kernel
theorem dX8_spells_43 : decode cX8_spells 43 = .ok (.iload_n 3, 1) := by decide +kernel
theorem dX8_spells_44 : decode cX8_spells 44 = .ok (.bipush 6, 2) := by decide +kernel
theorem dX8_spells_46 : decode cX8_spells 46 = .ok (.imul, 1) := by decide +kernel
theorem dX8_spells_47 : decode cX8_spells 47 = .ok (.iload 4, 2) := by decide +kernel
theorem dX8_spells_49 : decode cX8_spells 49 = .ok (.iadd, 1) := by decide +kernel
theorem dX8_spells_50 : decode cX8_spells 50 = .ok (.invokevirtual 71, 3) := by decide +kernel
theorem dX8_spells_53 : decode cX8_spells 53 = .ok (.if_icmp .eq 5, 3) := by decide +kernel
theorem dX8_spells_56 : decode cX8_spells 56 = .ok (.iconst 0, 1) := by decide +kernel
theorem dX8_spells_57 : decode cX8_spells 57 = .ok (.ireturn, 1) := by decide +kernel
theorem dX8_spells_58 : decode cX8_spells 58 = .ok (.iinc 4 1, 3) := by decide +kernel
theorem dX8_spells_61 : decode cX8_spells 61 = .ok (.goto (-50), 3) := by decide +kernel
theorem dX8_spells_64 : decode cX8_spells 64 = .ok (.iconst 1, 1) := by decide +kernel
theorem dX8_spells_65 : decode cX8_spells 65 = .ok (.ireturn, 1) := by decide +kernel
theorem dX8_number_0 : decode cX8_number 0 = .ok (.iconst 0, 1) := by decide +kernel
theorem dX8_number_1 : decode cX8_number 1 = .ok (.istore_n 3, 1) := by decide +kernel
theorem dX8_number_2 : decode cX8_number 2 = .ok (.iload_n 1, 1) := by decide +kernel
theorem dX8_number_3 : decode cX8_number 3 = .ok (.istore 4, 2) := by decide +kernel
theorem dX8_number_5 : decode cX8_number 5 = .ok (.iload 4, 2) := by decide +kernel
theorem dX8_number_7 : decode cX8_number 7 = .ok (.iload_n 2, 1) := by decide +kernel
theorem dX8_number_8 : decode cX8_number 8 = .ok (.if_icmp .ge 24, 3) := by decide +kernel
theorem dX8_number_11 : decode cX8_number 11 = .ok (.iload_n 3, 1) := by decide +kernel
theorem dX8_number_12 : decode cX8_number 12 = .ok (.bipush 10, 2) := by decide +kernel
theorem dX8_number_14 : decode cX8_number 14 = .ok (.imul, 1) := by decide +kernel
theorem dX8_number_15 : decode cX8_number 15 = .ok (.aload_n 0, 1) := by decide +kernel
theorem dX8_number_16 : decode cX8_number 16 = .ok (.iload 4, 2) := by decide +kernel
theorem dX8_number_18 : decode cX8_number 18 = .ok (.invokevirtual 48, 3) := by decide +kernel
theorem dX8_number_21 : decode cX8_number 21 = .ok (.iadd, 1) := by decide +kernel
theorem dX8_number_22 : decode cX8_number 22 = .ok (.bipush 48, 2) := by decide +kernel
theorem dX8_number_24 : decode cX8_number 24 = .ok (.isub, 1) := by decide +kernel
theorem dX8_number_25 : decode cX8_number 25 = .ok (.istore_n 3, 1) := by decide +kernel
theorem dX8_number_26 : decode cX8_number 26 = .ok (.iinc 4 1, 3) := by decide +kernel
theorem dX8_number_29 : decode cX8_number 29 = .ok (.goto (-24), 3) := by decide +kernel
theorem dX8_number_32 : decode cX8_number 32 = .ok (.iload_n 3, 1) := by decide +kernel
theorem dX8_number_33 : decode cX8_number 33 = .ok (.ireturn, 1) := by decide +kernel
theorem dX9_init_0 : decode cX9_init 0 = .ok (.aload_n 0, 1) := by decide +kernel
theorem dX9_init_1 : decode cX9_init 1 = .ok (.invokespecial 3, 3) := by decide +kernel
theorem dX9_init_4 : decode cX9_init 4 = .ok (.aload_n 0, 1) := by decide +kernel
theorem dX9_init_5 : decode cX9_init 5 = .ok (.bipush 96, 2) := by decide +kernel
theorem dX9_init_7 : decode cX9_init 7 = .ok (.newarray .int, 2) := by decide +kernel
theorem dX9_init_9 : decode cX9_init 9 = .ok (.putfield 9, 3) := by decide +kernel
theorem dX9_init_12 : decode cX9_init 12 = .ok (.aload_n 0, 1) := by decide +kernel
theorem dX9_init_13 : decode cX9_init 13 = .ok (.bipush 96, 2) := by decide +kernel
theorem dX9_init_15 : decode cX9_init 15 = .ok (.newarray .int, 2) := by decide +kernel
theorem dX9_init_17 : decode cX9_init 17 = .ok (.putfield 15, 3) := by decide +kernel
theorem dX9_init_20 : decode cX9_init 20 = .ok (.aload_n 0, 1) := by decide +kernel
theorem dX9_init_21 : decode cX9_init 21 = .ok (.bipush 96, 2) := by decide +kernel
theorem dX9_init_23 : decode cX9_init 23 = .ok (.newarray .int, 2) := by decide +kernel
theorem dX9_init_25 : decode cX9_init 25 = .ok (.putfield 18, 3) := by decide +kernel
theorem dX9_init_28 : decode cX9_init 28 = .ok (.aload_n 0, 1) := by decide +kernel
theorem dX9_init_29 : decode cX9_init 29 = .ok (.bipush 96, 2) := by decide +kernel
theorem dX9_init_31 : decode cX9_init 31 = .ok (.newarray .boolean, 2) := by decide +kernel
theorem dX9_init_33 : decode cX9_init 33 = .ok (.putfield 21, 3) := by decide +kernel
theorem dX9_init_36 : decode cX9_init 36 = .ok (.aload_n 0, 1) := by decide +kernel
theorem dX9_init_37 : decode cX9_init 37 = .ok (.bipush 96, 2) := by decide +kernel
theorem dX9_init_39 : decode cX9_init 39 = .ok (.newarray .int, 2) := by decide +kernel
theorem dX9_init_41 : decode cX9_init 41 = .ok (.putfield 25, 3) := by decide +kernel
theorem dX9_init_44 : decode cX9_init 44 = .ok (.return_, 1) := by decide +kernel
theorem dX9_find_0 : decode cX9_find 0 = .ok (.aload_n 0, 1) := by decide +kernel
theorem dX9_find_1 : decode cX9_find 1 = .ok (.iconst 0, 1) := by decide +kernel
theorem dX9_find_2 : decode cX9_find 2 = .ok (.putfield 28, 3) := by decide +kernel
theorem dX9_find_5 : decode cX9_find 5 = .ok (.aload_n 0, 1) := by decide +kernel
theorem dX9_find_6 : decode cX9_find 6 = .ok (.aload_n 1, 1) := by decide +kernel
theorem dX9_find_7 : decode cX9_find 7 = .ok (.iload_n 2, 1) := by decide +kernel
theorem dX9_find_8 : decode cX9_find 8 = .ok (.iload_n 3, 1) := by decide +kernel
theorem dX9_find_9 : decode cX9_find 9 = .ok (.invokevirtual 32, 3) := by decide +kernel
theorem dX9_find_12 : decode cX9_find 12 = .ok (.aload_n 1, 1) := by decide +kernel
theorem dX9_find_13 : decode cX9_find 13 = .ok (.invokevirtual 36, 3) := by decide +kernel
theorem dX9_find_16 : decode cX9_find 16 = .ok (.ifCond .eq 7, 3) := by decide +kernel
theorem dX9_find_19 : decode cX9_find 19 = .ok (.iload_n 3, 1) := by decide +kernel
theorem dX9_find_20 : decode cX9_find 20 = .ok (.goto 5, 3) := by decide +kernel
theorem dX9_find_23 : decode cX9_find 23 = .ok (.ldc 42, 2) := by decide +kernel
theorem dX9_find_25 : decode cX9_find 25 = .ok (.istore 4, 2) := by decide +kernel
theorem dX9_find_27 : decode cX9_find 27 = .ok (.iconst 0, 1) := by decide +kernel
theorem dX9_find_28 : decode cX9_find 28 = .ok (.istore 5, 2) := by decide +kernel
theorem dX9_find_30 : decode cX9_find 30 = .ok (.iload 5, 2) := by decide +kernel
theorem dX9_find_32 : decode cX9_find 32 = .ok (.bipush 96, 2) := by decide +kernel
theorem dX9_find_34 : decode cX9_find 34 = .ok (.if_icmp .ge 46, 3) := by decide +kernel
theorem dX9_find_37 : decode cX9_find 37 = .ok (.aload_n 0, 1) := by decide +kernel
theorem dX9_find_38 : decode cX9_find 38 = .ok (.getfield 18, 3) := by decide +kernel
theorem dX9_find_41 : decode cX9_find 41 = .ok (.iload 5, 2) := by decide +kernel
theorem dX9_find_43 : decode cX9_find 43 = .ok (.iaload, 1) := by decide +kernel
theorem dX9_find_44 : decode cX9_find 44 = .ok (.ldc 42, 2) := by decide +kernel
theorem dX9_find_46 : decode cX9_find 46 = .ok (.if_icmp .ge 28, 3) := by decide +kernel
theorem dX9_find_49 : decode cX9_find 49 = .ok (.aload_n 1, 1) := by decide +kernel
theorem dX9_find_50 : decode cX9_find 50 = .ok (.iload 5, 2) := by decide +kernel
theorem dX9_find_52 : decode cX9_find 52 = .ok (.invokevirtual 43, 3) := by decide +kernel
theorem dX9_find_55 : decode cX9_find 55 = .ok (.ifCond .eq 19, 3) := by decide +kernel
theorem dX9_find_58 : decode cX9_find 58 = .ok (.iload 4, 2) := by decide +kernel
theorem dX9_find_60 : decode cX9_find 60 = .ok (.iload_n 3, 1) := by decide +kernel
theorem dX9_find_61 : decode cX9_find 61 = .ok (.aload_n 0, 1) := by decide +kernel
theorem dX9_find_62 : decode cX9_find 62 = .ok (.getfield 18, 3) := by decide +kernel
theorem dX9_find_65 : decode cX9_find 65 = .ok (.iload 5, 2) := by decide +kernel
theorem dX9_find_67 : decode cX9_find 67 = .ok (.iaload, 1) := by decide +kernel
theorem dX9_find_68 : decode cX9_find 68 = .ok (.iadd, 1) := by decide +kernel
theorem dX9_find_69 : decode cX9_find 69 = .ok (.invokestatic 47, 3) := by decide +kernel
theorem dX9_find_72 : decode cX9_find 72 = .ok (.istore 4, 2) := by decide +kernel
theorem dX9_find_74 : decode cX9_find 74 = .ok (.iinc 5 1, 3) := by decide +kernel
theorem dX9_find_77 : decode cX9_find 77 = .ok (.goto (-47), 3) := by decide +kernel
theorem dX9_find_80 : decode cX9_find 80 = .ok (.iload 4, 2) := by decide +kernel
theorem dX9_find_82 : decode cX9_find 82 = .ok (.ldc 42, 2) := by decide +kernel
theorem dX9_find_84 : decode cX9_find 84 = .ok (.if_icmp .lt 5, 3) := by decide +kernel
theorem dX9_find_87 : decode cX9_find 87 = .ok (.iconst 0, 1) := by decide +kernel
theorem dX9_find_88 : decode cX9_find 88 = .ok (.ireturn, 1) := by decide +kernel
theorem dX9_find_89 : decode cX9_find 89 = .ok (.aload_n 0, 1) := by decide +kernel
theorem dX9_find_90 : decode cX9_find 90 = .ok (.aload_n 1, 1) := by decide +kernel
theorem dX9_find_91 : decode cX9_find 91 = .ok (.iload 4, 2) := by decide +kernel
theorem dX9_find_93 : decode cX9_find 93 = .ok (.iload_n 2, 1) := by decide +kernel
theorem dX9_find_94 : decode cX9_find 94 = .ok (.iload_n 3, 1) := by decide +kernel
theorem dX9_find_95 : decode cX9_find 95 = .ok (.invokevirtual 53, 3) := by decide +kernel
theorem dX9_find_98 : decode cX9_find 98 = .ok (.iconst 1, 1) := by decide +kernel
theorem dX9_find_99 : decode cX9_find 99 = .ok (.ireturn, 1) := by decide +kernel
theorem dX9_leaps_0 : decode cX9_leaps 0 = .ok (.aload_n 0, 1) := by decide +kernel
theorem dX9_leaps_1 : decode cX9_leaps 1 = .ok (.getfield 28, 3) := by decide +kernel
theorem dX9_leaps_4 : decode cX9_leaps 4 = .ok (.iconst 1, 1) := by decide +kernel
theorem dX9_leaps_5 : decode cX9_leaps 5 = .ok (.iadd, 1) := by decide +kernel
theorem dX9_leaps_6 : decode cX9_leaps 6 = .ok (.ireturn, 1) := by decide +kernel
theorem dX9_sum_0 : decode cX9_sum 0 = .ok (.iconst 0, 1) := by decide +kernel
theorem dX9_sum_1 : decode cX9_sum 1 = .ok (.istore_n 1, 1) := by decide +kernel
theorem dX9_sum_2 : decode cX9_sum 2 = .ok (.iconst 0, 1) := by decide +kernel
theorem dX9_sum_3 : decode cX9_sum 3 = .ok (.istore_n 2, 1) := by decide +kernel
theorem dX9_sum_4 : decode cX9_sum 4 = .ok (.iload_n 2, 1) := by decide +kernel
theorem dX9_sum_5 : decode cX9_sum 5 = .ok (.aload_n 0, 1) := by decide +kernel
theorem dX9_sum_6 : decode cX9_sum 6 = .ok (.getfield 28, 3) := by decide +kernel
theorem dX9_sum_9 : decode cX9_sum 9 = .ok (.if_icmp .ge 23, 3) := by decide +kernel
theorem dX9_sum_12 : decode cX9_sum 12 = .ok (.iload_n 1, 1) := by decide +kernel
theorem dX9_sum_13 : decode cX9_sum 13 = .ok (.aload_n 0, 1) := by decide +kernel
theorem dX9_sum_14 : decode cX9_sum 14 = .ok (.getfield 9, 3) := by decide +kernel
theorem dX9_sum_17 : decode cX9_sum 17 = .ok (.aload_n 0, 1) := by decide +kernel
theorem dX9_sum_18 : decode cX9_sum 18 = .ok (.getfield 15, 3) := by decide +kernel
theorem dX9_sum_21 : decode cX9_sum 21 = .ok (.iload_n 2, 1) := by decide +kernel
theorem dX9_sum_22 : decode cX9_sum 22 = .ok (.iaload, 1) := by decide +kernel
theorem dX9_sum_23 : decode cX9_sum 23 = .ok (.iaload, 1) := by decide +kernel
theorem dX9_sum_24 : decode cX9_sum 24 = .ok (.iadd, 1) := by decide +kernel
theorem dX9_sum_25 : decode cX9_sum 25 = .ok (.istore_n 1, 1) := by decide +kernel
theorem dX9_sum_26 : decode cX9_sum 26 = .ok (.iinc 2 1, 3) := by decide +kernel
theorem dX9_sum_29 : decode cX9_sum 29 = .ok (.goto (-25), 3) := by decide +kernel
theorem dX9_sum_32 : decode cX9_sum 32 = .ok (.iload_n 1, 1) := by decide +kernel
theorem dX9_sum_33 : decode cX9_sum 33 = .ok (.ireturn, 1) := by decide +kernel
theorem dX9_weighCosts_0 : decode cX9_weighCosts 0 = .ok (.iconst 0, 1) := by decide +kernel
theorem dX9_weighCosts_1 : decode cX9_weighCosts 1 = .ok (.istore 4, 2) := by decide +kernel
theorem dX9_weighCosts_3 : decode cX9_weighCosts 3 = .ok (.iload 4, 2) := by decide +kernel
theorem dX9_weighCosts_5 : decode cX9_weighCosts 5 = .ok (.bipush 96, 2) := by decide +kernel
theorem dX9_weighCosts_7 : decode cX9_weighCosts 7 = .ok (.if_icmp .ge 71, 3) := by decide +kernel
theorem dX9_weighCosts_10 : decode cX9_weighCosts 10 = .ok (.aload_n 0, 1) := by decide +kernel
theorem dX9_weighCosts_11 : decode cX9_weighCosts 11 = .ok (.getfield 9, 3) := by decide +kernel
theorem dX9_weighCosts_14 : decode cX9_weighCosts 14 = .ok (.iload 4, 2) := by decide +kernel
theorem dX9_weighCosts_16 : decode cX9_weighCosts 16 = .ok (.iaload, 1) := by decide +kernel
theorem dX9_weighCosts_17 : decode cX9_weighCosts 17 = .ok (.ifCond .lt 16, 3) := by decide +kernel
theorem dX9_weighCosts_20 : decode cX9_weighCosts 20 = .ok (.aload_n 1, 1) := by decide +kernel
theorem dX9_weighCosts_21 : decode cX9_weighCosts 21 = .ok (.iload 4, 2) := by decide +kernel
theorem dX9_weighCosts_23 : decode cX9_weighCosts 23 = .ok (.invokevirtual 57, 3) := by decide +kernel
theorem dX9_weighCosts_26 : decode cX9_weighCosts 26 = .ok (.ifCond .eq 7, 3) := by decide +kernel
theorem dX9_weighCosts_29 : decode cX9_weighCosts 29 = .ok (.iconst 1, 1) := by decide +kernel
theorem dX9_weighCosts_30 : decode cX9_weighCosts 30 = .ok (.goto 4, 3) := by decide +kernel
theorem dX9_weighCosts_33 : decode cX9_weighCosts 33 = .ok (.iconst 0, 1) := by decide +kernel
theorem dX9_weighCosts_34 : decode cX9_weighCosts 34 = .ok (.istore 5, 2) := by decide +kernel
theorem dX9_weighCosts_36 : decode cX9_weighCosts 36 = .ok (.aload_n 0, 1) := by decide +kernel
theorem dX9_weighCosts_37 : decode cX9_weighCosts 37 = .ok (.getfield 18, 3) := by decide +kernel
theorem dX9_weighCosts_40 : decode cX9_weighCosts 40 = .ok (.iload 4, 2) := by decide +kernel
theorem dX9_weighCosts_42 : decode cX9_weighCosts 42 = .ok (.iload 5, 2) := by decide +kernel
theorem dX9_weighCosts_44 : decode cX9_weighCosts 44 = .ok (.ifCond .eq 17, 3) := by decide +kernel
theorem dX9_weighCosts_47 : decode cX9_weighCosts 47 = .ok (.iload_n 2, 1) := by decide +kernel
theorem dX9_weighCosts_48 : decode cX9_weighCosts 48 = .ok (.aload_n 0, 1) := by decide +kernel
theorem dX9_weighCosts_49 : decode cX9_weighCosts 49 = .ok (.getfield 9, 3) := by decide +kernel
theorem dX9_weighCosts_52 : decode cX9_weighCosts 52 = .ok (.iload 4, 2) := by decide +kernel
theorem dX9_weighCosts_54 : decode cX9_weighCosts 54 = .ok (.iaload, 1) := by decide +kernel
theorem dX9_weighCosts_55 : decode cX9_weighCosts 55 = .ok (.imul, 1) := by decide +kernel
theorem dX9_weighCosts_56 : decode cX9_weighCosts 56 = .ok (.iload_n 3, 1) := by decide +kernel
theorem dX9_weighCosts_57 : decode cX9_weighCosts 57 = .ok (.iadd, 1) := by decide +kernel
theorem dX9_weighCosts_58 : decode cX9_weighCosts 58 = .ok (.goto 5, 3) := by decide +kernel
theorem dX9_weighCosts_61 : decode cX9_weighCosts 61 = .ok (.ldc 42, 2) := by decide +kernel
theorem dX9_weighCosts_63 : decode cX9_weighCosts 63 = .ok (.iastore, 1) := by decide +kernel
theorem dX9_weighCosts_64 : decode cX9_weighCosts 64 = .ok (.aload_n 0, 1) := by decide +kernel
theorem dX9_weighCosts_65 : decode cX9_weighCosts 65 = .ok (.getfield 21, 3) := by decide +kernel
theorem dX9_weighCosts_68 : decode cX9_weighCosts 68 = .ok (.iload 4, 2) := by decide +kernel
theorem dX9_weighCosts_70 : decode cX9_weighCosts 70 = .ok (.iconst 0, 1) := by decide +kernel
theorem dX9_weighCosts_71 : decode cX9_weighCosts 71 = .ok (.bastore, 1) := by decide +kernel
theorem dX9_weighCosts_72 : decode cX9_weighCosts 72 = .ok (.iinc 4 1, 3) := by decide +kernel
theorem dX9_weighCosts_75 : decode cX9_weighCosts 75 = .ok (.goto (-72), 3) := by decide +kernel
theorem dX9_weighCosts_78 : decode cX9_weighCosts 78 = .ok (.aload_n 1, 1) := by decide +kernel
theorem dX9_weighCosts_79 : decode cX9_weighCosts 79 = .ok (.invokevirtual 60, 3) := by decide +kernel
theorem dX9_weighCosts_82 : decode cX9_weighCosts 82 = .ok (.istore 4, 2) := by decide +kernel
theorem dX9_weighCosts_84 : decode cX9_weighCosts 84 = .ok (.iconst 0, 1) := by decide +kernel
theorem dX9_weighCosts_85 : decode cX9_weighCosts 85 = .ok (.istore 5, 2) := by decide +kernel
theorem dX9_weighCosts_87 : decode cX9_weighCosts 87 = .ok (.iload 5, 2) := by decide +kernel
theorem dX9_weighCosts_89 : decode cX9_weighCosts 89 = .ok (.bipush 96, 2) := by decide +kernel
theorem dX9_weighCosts_91 : decode cX9_weighCosts 91 = .ok (.if_icmp .ge 111, 3) := by decide +kernel
theorem dX9_weighCosts_94 : decode cX9_weighCosts 94 = .ok (.aload_n 0, 1) := by decide +kernel
theorem dX9_weighCosts_95 : decode cX9_weighCosts 95 = .ok (.invokevirtual 64, 3) := by decide +kernel
theorem dX9_weighCosts_98 : decode cX9_weighCosts 98 = .ok (.istore 6, 2) := by decide +kernel
theorem dX9_weighCosts_100 : decode cX9_weighCosts 100 = .ok (.iload 6, 2) := by decide +kernel
theorem dX9_weighCosts_102 : decode cX9_weighCosts 102 = .ok (.iconst (-1), 1) := by decide +kernel
theorem dX9_weighCosts_103 : decode cX9_weighCosts 103 = .ok (.if_icmp .ne 4, 3) := by decide +kernel
theorem dX9_weighCosts_106 : decode cX9_weighCosts 106 = .ok (.return_, 1) := by decide +kernel
theorem dX9_weighCosts_107 : decode cX9_weighCosts 107 = .ok (.aload_n 0, 1) := by decide +kernel
theorem dX9_weighCosts_108 : decode cX9_weighCosts 108 = .ok (.getfield 21, 3) := by decide +kernel
theorem dX9_weighCosts_111 : decode cX9_weighCosts 111 = .ok (.iload 6, 2) := by decide +kernel
theorem dX9_weighCosts_113 : decode cX9_weighCosts 113 = .ok (.iconst 1, 1) := by decide +kernel
theorem dX9_weighCosts_114 : decode cX9_weighCosts 114 = .ok (.bastore, 1) := by decide +kernel
theorem dX9_weighCosts_115 : decode cX9_weighCosts 115 = .ok (.iconst 0, 1) := by decide +kernel
theorem dX9_weighCosts_116 : decode cX9_weighCosts 116 = .ok (.istore 7, 2) := by decide +kernel
theorem dX9_weighCosts_118 : decode cX9_weighCosts 118 = .ok (.iload 7, 2) := by decide +kernel
theorem dX9_weighCosts_120 : decode cX9_weighCosts 120 = .ok (.iload 4, 2) := by decide +kernel
theorem dX9_weighCosts_122 : decode cX9_weighCosts 122 = .ok (.if_icmp .ge 74, 3) := by decide +kernel
theorem dX9_weighCosts_125 : decode cX9_weighCosts 125 = .ok (.aload_n 1, 1) := by decide +kernel
theorem dX9_weighCosts_126 : decode cX9_weighCosts 126 = .ok (.iload 6, 2) := by decide +kernel
theorem dX9_weighCosts_128 : decode cX9_weighCosts 128 = .ok (.iload 7, 2) := by decide +kernel
theorem dX9_weighCosts_130 : decode cX9_weighCosts 130 = .ok (.invokevirtual 67, 3) := by decide +kernel
theorem dX9_weighCosts_133 : decode cX9_weighCosts 133 = .ok (.istore 8, 2) := by decide +kernel
theorem dX9_weighCosts_135 : decode cX9_weighCosts 135 = .ok (.iload 8, 2) := by decide +kernel
theorem dX9_weighCosts_137 : decode cX9_weighCosts 137 = .ok (.iconst (-1), 1) := by decide +kernel
theorem dX9_weighCosts_138 : decode cX9_weighCosts 138 = .ok (.if_icmp .eq 52, 3) := by decide +kernel
theorem dX9_weighCosts_141 : decode cX9_weighCosts 141 = .ok (.aload_n 0, 1) := by decide +kernel
theorem dX9_weighCosts_142 : decode cX9_weighCosts 142 = .ok (.getfield 9, 3) := by decide +kernel
theorem dX9_weighCosts_145 : decode cX9_weighCosts 145 = .ok (.iload 8, 2) := by decide +kernel
theorem dX9_weighCosts_147 : decode cX9_weighCosts 147 = .ok (.iaload, 1) := by decide +kernel
theorem dX9_weighCosts_148 : decode cX9_weighCosts 148 = .ok (.ifCond .ge 6, 3) := by decide +kernel
theorem dX9_weighCosts_151 : decode cX9_weighCosts 151 = .ok (.goto 39, 3) := by decide +kernel
theorem dX9_weighCosts_154 : decode cX9_weighCosts 154 = .ok (.aload_n 0, 1) := by decide +kernel
theorem dX9_weighCosts_155 : decode cX9_weighCosts 155 = .ok (.getfield 18, 3) := by decide +kernel
theorem dX9_weighCosts_158 : decode cX9_weighCosts 158 = .ok (.iload 8, 2) := by decide +kernel
theorem dX9_weighCosts_160 : decode cX9_weighCosts 160 = .ok (.aload_n 0, 1) := by decide +kernel
theorem dX9_weighCosts_161 : decode cX9_weighCosts 161 = .ok (.getfield 18, 3) := by decide +kernel
theorem dX9_weighCosts_164 : decode cX9_weighCosts 164 = .ok (.iload 8, 2) := by decide +kernel
theorem dX9_weighCosts_166 : decode cX9_weighCosts 166 = .ok (.iaload, 1) := by decide +kernel
theorem dX9_weighCosts_167 : decode cX9_weighCosts 167 = .ok (.iload_n 2, 1) := by decide +kernel
theorem dX9_weighCosts_168 : decode cX9_weighCosts 168 = .ok (.aload_n 0, 1) := by decide +kernel
theorem dX9_weighCosts_169 : decode cX9_weighCosts 169 = .ok (.getfield 9, 3) := by decide +kernel
theorem dX9_weighCosts_172 : decode cX9_weighCosts 172 = .ok (.iload 8, 2) := by decide +kernel
theorem dX9_weighCosts_174 : decode cX9_weighCosts 174 = .ok (.iaload, 1) := by decide +kernel
theorem dX9_weighCosts_175 : decode cX9_weighCosts 175 = .ok (.imul, 1) := by decide +kernel
theorem dX9_weighCosts_176 : decode cX9_weighCosts 176 = .ok (.iload_n 3, 1) := by decide +kernel
theorem dX9_weighCosts_177 : decode cX9_weighCosts 177 = .ok (.iadd, 1) := by decide +kernel
theorem dX9_weighCosts_178 : decode cX9_weighCosts 178 = .ok (.aload_n 0, 1) := by decide +kernel
theorem dX9_weighCosts_179 : decode cX9_weighCosts 179 = .ok (.getfield 18, 3) := by decide +kernel
theorem dX9_weighCosts_182 : decode cX9_weighCosts 182 = .ok (.iload 6, 2) := by decide +kernel
theorem dX9_weighCosts_184 : decode cX9_weighCosts 184 = .ok (.iaload, 1) := by decide +kernel
theorem dX9_weighCosts_185 : decode cX9_weighCosts 185 = .ok (.iadd, 1) := by decide +kernel
theorem dX9_weighCosts_186 : decode cX9_weighCosts 186 = .ok (.invokestatic 47, 3) := by decide +kernel
theorem dX9_weighCosts_189 : decode cX9_weighCosts 189 = .ok (.iastore, 1) := by decide +kernel
theorem dX9_weighCosts_190 : decode cX9_weighCosts 190 = .ok (.iinc 7 1, 3) := by decide +kernel
theorem dX9_weighCosts_193 : decode cX9_weighCosts 193 = .ok (.goto (-75), 3) := by decide +kernel
theorem dX9_weighCosts_196 : decode cX9_weighCosts 196 = .ok (.iinc 5 1, 3) := by decide +kernel
theorem dX9_weighCosts_199 : decode cX9_weighCosts 199 = .ok (.goto (-112), 3) := by decide +kernel
theorem dX9_weighCosts_202 : decode cX9_weighCosts 202 = .ok (.return_, 1) := by decide +kernel
theorem dX9_cheapest_0 : decode cX9_cheapest 0 = .ok (.iconst (-1), 1) := by decide +kernel
theorem dX9_cheapest_1 : decode cX9_cheapest 1 = .ok (.istore_n 1, 1) := by decide +kernel
theorem dX9_cheapest_2 : decode cX9_cheapest 2 = .ok (.ldc 42, 2) := by decide +kernel
theorem dX9_cheapest_4 : decode cX9_cheapest 4 = .ok (.istore_n 2, 1) := by decide +kernel
theorem dX9_cheapest_5 : decode cX9_cheapest 5 = .ok (.iconst 0, 1) := by decide +kernel
theorem dX9_cheapest_6 : decode cX9_cheapest 6 = .ok (.istore_n 3, 1) := by decide +kernel
theorem dX9_cheapest_7 : decode cX9_cheapest 7 = .ok (.iload_n 3, 1) := by decide +kernel
theorem dX9_cheapest_8 : decode cX9_cheapest 8 = .ok (.bipush 96, 2) := by decide +kernel
theorem dX9_cheapest_10 : decode cX9_cheapest 10 = .ok (.if_icmp .ge 40, 3) := by decide +kernel
theorem dX9_cheapest_13 : decode cX9_cheapest 13 = .ok (.aload_n 0, 1) := by decide +kernel
theorem dX9_cheapest_14 : decode cX9_cheapest 14 = .ok (.getfield 21, 3) := by decide +kernel
theorem dX9_cheapest_17 : decode cX9_cheapest 17 = .ok (.iload_n 3, 1) := by decide +kernel
theorem dX9_cheapest_18 : decode cX9_cheapest 18 = .ok (.baload, 1) := by decide +kernel
theorem dX9_cheapest_19 : decode cX9_cheapest 19 = .ok (.ifCond .ne 25, 3) := by decide +kernel
theorem dX9_cheapest_22 : decode cX9_cheapest 22 = .ok (.aload_n 0, 1) := by decide +kernel
theorem dX9_cheapest_23 : decode cX9_cheapest 23 = .ok (.getfield 18, 3) := by decide +kernel
theorem dX9_cheapest_26 : decode cX9_cheapest 26 = .ok (.iload_n 3, 1) := by decide +kernel
theorem dX9_cheapest_27 : decode cX9_cheapest 27 = .ok (.iaload, 1) := by decide +kernel
theorem dX9_cheapest_28 : decode cX9_cheapest 28 = .ok (.iload_n 2, 1) := by decide +kernel
theorem dX9_cheapest_29 : decode cX9_cheapest 29 = .ok (.if_icmp .lt 6, 3) := by decide +kernel
theorem dX9_cheapest_32 : decode cX9_cheapest 32 = .ok (.goto 12, 3) := by decide +kernel
theorem dX9_cheapest_35 : decode cX9_cheapest 35 = .ok (.iload_n 3, 1) := by decide +kernel
theorem dX9_cheapest_36 : decode cX9_cheapest 36 = .ok (.istore_n 1, 1) := by decide +kernel
theorem dX9_cheapest_37 : decode cX9_cheapest 37 = .ok (.aload_n 0, 1) := by decide +kernel
theorem dX9_cheapest_38 : decode cX9_cheapest 38 = .ok (.getfield 18, 3) := by decide +kernel
theorem dX9_cheapest_41 : decode cX9_cheapest 41 = .ok (.iload_n 3, 1) := by decide +kernel
theorem dX9_cheapest_42 : decode cX9_cheapest 42 = .ok (.iaload, 1) := by decide +kernel
theorem dX9_cheapest_43 : decode cX9_cheapest 43 = .ok (.istore_n 2, 1) := by decide +kernel
theorem dX9_cheapest_44 : decode cX9_cheapest 44 = .ok (.iinc 3 1, 3) := by decide +kernel
theorem dX9_cheapest_47 : decode cX9_cheapest 47 = .ok (.goto (-40), 3) := by decide +kernel
theorem dX9_cheapest_50 : decode cX9_cheapest 50 = .ok (.iload_n 1, 1) := by decide +kernel
theorem dX9_cheapest_51 : decode cX9_cheapest 51 = .ok (.ireturn, 1) := by decide +kernel
theorem dX9_drawLine_0 : decode cX9_drawLine 0 = .ok (.iconst (-1), 1) := by decide +kernel
theorem dX9_drawLine_1 : decode cX9_drawLine 1 = .ok (.istore 5, 2) := by decide +kernel
theorem dX9_drawLine_3 : decode cX9_drawLine 3 = .ok (.iload_n 2, 1) := by decide +kernel
theorem dX9_drawLine_4 : decode cX9_drawLine 4 = .ok (.istore 6, 2) := by decide +kernel
theorem dX9_drawLine_6 : decode cX9_drawLine 6 = .ok (.iconst 0, 1) := by decide +kernel
theorem dX9_drawLine_7 : decode cX9_drawLine 7 = .ok (.istore 7, 2) := by decide +kernel
theorem dX9_drawLine_9 : decode cX9_drawLine 9 = .ok (.iload 7, 2) := by decide +kernel
theorem dX9_drawLine_11 : decode cX9_drawLine 11 = .ok (.bipush 96, 2) := by decide +kernel
theorem dX9_drawLine_13 : decode cX9_drawLine 13 = .ok (.if_icmp .ge 81, 3) := by decide +kernel
theorem dX9_drawLine_16 : decode cX9_drawLine 16 = .ok (.iload 6, 2) := by decide +kernel
theorem dX9_drawLine_18 : decode cX9_drawLine 18 = .ok (.iload 4, 2) := by decide +kernel
theorem dX9_drawLine_20 : decode cX9_drawLine 20 = .ok (.if_icmp .le 74, 3) := by decide +kernel
theorem dX9_drawLine_23 : decode cX9_drawLine 23 = .ok (.aload_n 0, 1) := by decide +kernel
theorem dX9_drawLine_24 : decode cX9_drawLine 24 = .ok (.aload_n 1, 1) := by decide +kernel
theorem dX9_drawLine_25 : decode cX9_drawLine 25 = .ok (.iload 5, 2) := by decide +kernel
theorem dX9_drawLine_27 : decode cX9_drawLine 27 = .ok (.iload 6, 2) := by decide +kernel
theorem dX9_drawLine_29 : decode cX9_drawLine 29 = .ok (.iload 4, 2) := by decide +kernel
theorem dX9_drawLine_31 : decode cX9_drawLine 31 = .ok (.isub, 1) := by decide +kernel
theorem dX9_drawLine_32 : decode cX9_drawLine 32 = .ok (.invokevirtual 70, 3) := by decide +kernel
theorem dX9_drawLine_35 : decode cX9_drawLine 35 = .ok (.istore 8, 2) := by decide +kernel
theorem dX9_drawLine_37 : decode cX9_drawLine 37 = .ok (.iload 8, 2) := by decide +kernel
theorem dX9_drawLine_39 : decode cX9_drawLine 39 = .ok (.iconst (-1), 1) := by decide +kernel
theorem dX9_drawLine_40 : decode cX9_drawLine 40 = .ok (.if_icmp .ne 4, 3) := by decide +kernel
theorem dX9_drawLine_43 : decode cX9_drawLine 43 = .ok (.return_, 1) := by decide +kernel
theorem dX9_drawLine_44 : decode cX9_drawLine 44 = .ok (.aload_n 0, 1) := by decide +kernel
theorem dX9_drawLine_45 : decode cX9_drawLine 45 = .ok (.getfield 15, 3) := by decide +kernel
theorem dX9_drawLine_48 : decode cX9_drawLine 48 = .ok (.aload_n 0, 1) := by decide +kernel
theorem dX9_drawLine_49 : decode cX9_drawLine 49 = .ok (.getfield 28, 3) := by decide +kernel
theorem dX9_drawLine_52 : decode cX9_drawLine 52 = .ok (.iload 8, 2) := by decide +kernel
theorem dX9_drawLine_54 : decode cX9_drawLine 54 = .ok (.iastore, 1) := by decide +kernel
theorem dX9_drawLine_55 : decode cX9_drawLine 55 = .ok (.aload_n 0, 1) := by decide +kernel
theorem dX9_drawLine_56 : decode cX9_drawLine 56 = .ok (.dup, 1) := by decide +kernel
theorem dX9_drawLine_57 : decode cX9_drawLine 57 = .ok (.getfield 28, 3) := by decide +kernel
theorem dX9_drawLine_60 : decode cX9_drawLine 60 = .ok (.iconst 1, 1) := by decide +kernel
theorem dX9_drawLine_61 : decode cX9_drawLine 61 = .ok (.iadd, 1) := by decide +kernel
theorem dX9_drawLine_62 : decode cX9_drawLine 62 = .ok (.putfield 28, 3) := by decide +kernel
theorem dX9_drawLine_65 : decode cX9_drawLine 65 = .ok (.aload_n 0, 1) := by decide +kernel
theorem dX9_drawLine_66 : decode cX9_drawLine 66 = .ok (.getfield 18, 3) := by decide +kernel
theorem dX9_drawLine_69 : decode cX9_drawLine 69 = .ok (.iload 8, 2) := by decide +kernel
theorem dX9_drawLine_71 : decode cX9_drawLine 71 = .ok (.iaload, 1) := by decide +kernel
theorem dX9_drawLine_72 : decode cX9_drawLine 72 = .ok (.iload_n 3, 1) := by decide +kernel
theorem dX9_drawLine_73 : decode cX9_drawLine 73 = .ok (.aload_n 0, 1) := by decide +kernel
theorem dX9_drawLine_74 : decode cX9_drawLine 74 = .ok (.getfield 9, 3) := by decide +kernel
theorem dX9_drawLine_77 : decode cX9_drawLine 77 = .ok (.iload 8, 2) := by decide +kernel
theorem dX9_drawLine_79 : decode cX9_drawLine 79 = .ok (.iaload, 1) := by decide +kernel
theorem dX9_drawLine_80 : decode cX9_drawLine 80 = .ok (.imul, 1) := by decide +kernel
theorem dX9_drawLine_81 : decode cX9_drawLine 81 = .ok (.isub, 1) := by decide +kernel
theorem dX9_drawLine_82 : decode cX9_drawLine 82 = .ok (.istore 6, 2) := by decide +kernel
theorem dX9_drawLine_84 : decode cX9_drawLine 84 = .ok (.iload 8, 2) := by decide +kernel
theorem dX9_drawLine_86 : decode cX9_drawLine 86 = .ok (.istore 5, 2) := by decide +kernel
theorem dX9_drawLine_88 : decode cX9_drawLine 88 = .ok (.iinc 7 1, 3) := by decide +kernel
theorem dX9_drawLine_91 : decode cX9_drawLine 91 = .ok (.goto (-82), 3) := by decide +kernel
theorem dX9_drawLine_94 : decode cX9_drawLine 94 = .ok (.return_, 1) := by decide +kernel
theorem dX9_firstWithCost_0 : decode cX9_firstWithCost 0 = .ok (.iconst 0, 1) := by decide +kernel
theorem dX9_firstWithCost_1 : decode cX9_firstWithCost 1 = .ok (.istore 4, 2) := by decide +kernel
theorem dX9_firstWithCost_3 : decode cX9_firstWithCost 3 = .ok (.iload 4, 2) := by decide +kernel
theorem dX9_firstWithCost_5 : decode cX9_firstWithCost 5 = .ok (.bipush 96, 2) := by decide +kernel
theorem dX9_firstWithCost_7 : decode cX9_firstWithCost 7 = .ok (.if_icmp .ge 63, 3) := by decide +kernel
theorem dX9_firstWithCost_10 : decode cX9_firstWithCost 10 = .ok (.aload_n 0, 1) := by decide +kernel
theorem dX9_firstWithCost_11 : decode cX9_firstWithCost 11 = .ok (.getfield 9, 3) := by decide +kernel
theorem dX9_firstWithCost_14 : decode cX9_firstWithCost 14 = .ok (.iload 4, 2) := by decide +kernel
theorem dX9_firstWithCost_16 : decode cX9_firstWithCost 16 = .ok (.iaload, 1) := by decide +kernel
theorem dX9_firstWithCost_17 : decode cX9_firstWithCost 17 = .ok (.ifCond .lt 47, 3) := by decide +kernel
theorem dX9_firstWithCost_20 : decode cX9_firstWithCost 20 = .ok (.aload_n 0, 1) := by decide +kernel
theorem dX9_firstWithCost_21 : decode cX9_firstWithCost 21 = .ok (.getfield 18, 3) := by decide +kernel
theorem dX9_firstWithCost_24 : decode cX9_firstWithCost 24 = .ok (.iload 4, 2) := by decide +kernel
theorem dX9_firstWithCost_26 : decode cX9_firstWithCost 26 = .ok (.iaload, 1) := by decide +kernel
theorem dX9_firstWithCost_27 : decode cX9_firstWithCost 27 = .ok (.iload_n 3, 1) := by decide +kernel
theorem dX9_firstWithCost_28 : decode cX9_firstWithCost 28 = .ok (.if_icmp .eq 6, 3) := by decide +kernel
theorem dX9_firstWithCost_31 : decode cX9_firstWithCost 31 = .ok (.goto 33, 3) := by decide +kernel
theorem dX9_firstWithCost_34 : decode cX9_firstWithCost 34 = .ok (.iload_n 2, 1) := by decide +kernel
theorem dX9_firstWithCost_35 : decode cX9_firstWithCost 35 = .ok (.iconst (-1), 1) := by decide +kernel
theorem dX9_firstWithCost_36 : decode cX9_firstWithCost 36 = .ok (.if_icmp .ne 15, 3) := by decide +kernel
theorem dX9_firstWithCost_39 : decode cX9_firstWithCost 39 = .ok (.aload_n 1, 1) := by decide +kernel
theorem dX9_firstWithCost_40 : decode cX9_firstWithCost 40 = .ok (.iload 4, 2) := by decide +kernel
theorem dX9_firstWithCost_42 : decode cX9_firstWithCost 42 = .ok (.invokevirtual 43, 3) := by decide +kernel
theorem dX9_firstWithCost_45 : decode cX9_firstWithCost 45 = .ok (.ifCond .eq 19, 3) := by decide +kernel
theorem dX9_firstWithCost_48 : decode cX9_firstWithCost 48 = .ok (.goto 13, 3) := by decide +kernel
theorem dX9_firstWithCost_51 : decode cX9_firstWithCost 51 = .ok (.aload_n 1, 1) := by decide +kernel
theorem dX9_firstWithCost_52 : decode cX9_firstWithCost 52 = .ok (.iload_n 2, 1) := by decide +kernel
theorem dX9_firstWithCost_53 : decode cX9_firstWithCost 53 = .ok (.iload 4, 2) := by decide +kernel
theorem dX9_firstWithCost_55 : decode cX9_firstWithCost 55 = .ok (.invokevirtual 74, 3) := by decide +kernel
theorem dX9_firstWithCost_58 : decode cX9_firstWithCost 58 = .ok (.ifCond .eq 6, 3) := by decide +kernel
theorem dX9_firstWithCost_61 : decode cX9_firstWithCost 61 = .ok (.iload 4, 2) := by decide +kernel
theorem dX9_firstWithCost_63 : decode cX9_firstWithCost 63 = .ok (.ireturn, 1) := by decide +kernel
theorem dX9_firstWithCost_64 : decode cX9_firstWithCost 64 = .ok (.iinc 4 1, 3) := by decide +kernel
theorem dX9_firstWithCost_67 : decode cX9_firstWithCost 67 = .ok (.goto (-64), 3) := by decide +kernel
theorem dX9_firstWithCost_70 : decode cX9_firstWithCost 70 = .ok (.iconst (-1), 1) := by decide +kernel
theorem dX9_firstWithCost_71 : decode cX9_firstWithCost 71 = .ok (.ireturn, 1) := by decide +kernel
theorem dX9_leadOver_0 : decode cX9_leadOver 0 = .ok (.aload_n 1, 1) := by decide +kernel
theorem dX9_leadOver_1 : decode cX9_leadOver 1 = .ok (.invokevirtual 36, 3) := by decide +kernel
theorem dX9_leadOver_4 : decode cX9_leadOver 4 = .ok (.ifCond .eq 5, 3) := by decide +kernel
theorem dX9_leadOver_7 : decode cX9_leadOver 7 = .ok (.iconst 1, 1) := by decide +kernel
theorem dX9_leadOver_8 : decode cX9_leadOver 8 = .ok (.ireturn, 1) := by decide +kernel
theorem dX9_leadOver_9 : decode cX9_leadOver 9 = .ok (.aload_n 1, 1) := by decide +kernel
theorem dX9_leadOver_10 : decode cX9_leadOver 10 = .ok (.invokevirtual 60, 3) := by decide +kernel
theorem dX9_leadOver_13 : decode cX9_leadOver 13 = .ok (.istore_n 2, 1) := by decide +kernel
theorem dX9_leadOver_14 : decode cX9_leadOver 14 = .ok (.iconst 0, 1) := by decide +kernel
theorem dX9_leadOver_15 : decode cX9_leadOver 15 = .ok (.istore_n 3, 1) := by decide +kernel
theorem dX9_leadOver_16 : decode cX9_leadOver 16 = .ok (.iconst 0, 1) := by decide +kernel
theorem dX9_leadOver_17 : decode cX9_leadOver 17 = .ok (.istore 4, 2) := by decide +kernel
theorem dX9_leadOver_19 : decode cX9_leadOver 19 = .ok (.iload 4, 2) := by decide +kernel
theorem dX9_leadOver_21 : decode cX9_leadOver 21 = .ok (.bipush 96, 2) := by decide +kernel
theorem dX9_leadOver_23 : decode cX9_leadOver 23 = .ok (.if_icmp .ge 64, 3) := by decide +kernel
theorem dX9_leadOver_26 : decode cX9_leadOver 26 = .ok (.aload_n 0, 1) := by decide +kernel
theorem dX9_leadOver_27 : decode cX9_leadOver 27 = .ok (.getfield 21, 3) := by decide +kernel
theorem dX9_leadOver_30 : decode cX9_leadOver 30 = .ok (.iload 4, 2) := by decide +kernel
theorem dX9_leadOver_32 : decode cX9_leadOver 32 = .ok (.aload_n 0, 1) := by decide +kernel
theorem dX9_leadOver_33 : decode cX9_leadOver 33 = .ok (.getfield 9, 3) := by decide +kernel
theorem dX9_leadOver_36 : decode cX9_leadOver 36 = .ok (.iload 4, 2) := by decide +kernel
theorem dX9_leadOver_38 : decode cX9_leadOver 38 = .ok (.iaload, 1) := by decide +kernel
theorem dX9_leadOver_39 : decode cX9_leadOver 39 = .ok (.ifCond .lt 16, 3) := by decide +kernel
theorem dX9_leadOver_42 : decode cX9_leadOver 42 = .ok (.aload_n 1, 1) := by decide +kernel
theorem dX9_leadOver_43 : decode cX9_leadOver 43 = .ok (.iload 4, 2) := by decide +kernel
theorem dX9_leadOver_45 : decode cX9_leadOver 45 = .ok (.invokevirtual 43, 3) := by decide +kernel
theorem dX9_leadOver_48 : decode cX9_leadOver 48 = .ok (.ifCond .eq 7, 3) := by decide +kernel
theorem dX9_leadOver_51 : decode cX9_leadOver 51 = .ok (.iconst 1, 1) := by decide +kernel
theorem dX9_leadOver_52 : decode cX9_leadOver 52 = .ok (.goto 4, 3) := by decide +kernel
theorem dX9_leadOver_55 : decode cX9_leadOver 55 = .ok (.iconst 0, 1) := by decide +kernel
theorem dX9_leadOver_56 : decode cX9_leadOver 56 = .ok (.bastore, 1) := by decide +kernel
theorem dX9_leadOver_57 : decode cX9_leadOver 57 = .ok (.aload_n 0, 1) := by decide +kernel
theorem dX9_leadOver_58 : decode cX9_leadOver 58 = .ok (.getfield 21, 3) := by decide +kernel
theorem dX9_leadOver_61 : decode cX9_leadOver 61 = .ok (.iload 4, 2) := by decide +kernel
theorem dX9_leadOver_63 : decode cX9_leadOver 63 = .ok (.baload, 1) := by decide +kernel
theorem dX9_leadOver_64 : decode cX9_leadOver 64 = .ok (.ifCond .ne 6, 3) := by decide +kernel
theorem dX9_leadOver_67 : decode cX9_leadOver 67 = .ok (.goto 14, 3) := by decide +kernel
theorem dX9_leadOver_70 : decode cX9_leadOver 70 = .ok (.aload_n 0, 1) := by decide +kernel
theorem dX9_leadOver_71 : decode cX9_leadOver 71 = .ok (.getfield 25, 3) := by decide +kernel
theorem dX9_leadOver_74 : decode cX9_leadOver 74 = .ok (.iload_n 3, 1) := by decide +kernel
theorem dX9_leadOver_75 : decode cX9_leadOver 75 = .ok (.iload 4, 2) := by decide +kernel
theorem dX9_leadOver_77 : decode cX9_leadOver 77 = .ok (.iastore, 1) := by decide +kernel
theorem dX9_leadOver_78 : decode cX9_leadOver 78 = .ok (.iinc 3 1, 3) := by decide +kernel
theorem dX9_leadOver_81 : decode cX9_leadOver 81 = .ok (.iinc 4 1, 3) := by decide +kernel
theorem dX9_leadOver_84 : decode cX9_leadOver 84 = .ok (.goto (-65), 3) := by decide +kernel
theorem dX9_leadOver_87 : decode cX9_leadOver 87 = .ok (.iconst 0, 1) := by decide +kernel
theorem dX9_leadOver_88 : decode cX9_leadOver 88 = .ok (.istore 4, 2) := by decide +kernel
theorem dX9_leadOver_90 : decode cX9_leadOver 90 = .ok (.iload 4, 2) := by decide +kernel
theorem dX9_leadOver_92 : decode cX9_leadOver 92 = .ok (.iload_n 3, 1) := by decide +kernel
theorem dX9_leadOver_93 : decode cX9_leadOver 93 = .ok (.if_icmp .ge 109, 3) := by decide +kernel
theorem dX9_leadOver_96 : decode cX9_leadOver 96 = .ok (.iload 4, 2) := by decide +kernel
theorem dX9_leadOver_98 : decode cX9_leadOver 98 = .ok (.bipush 96, 2) := by decide +kernel
theorem dX9_leadOver_100 : decode cX9_leadOver 100 = .ok (.if_icmp .ge 102, 3) := by decide +kernel
theorem dX9_leadOver_103 : decode cX9_leadOver 103 = .ok (.aload_n 0, 1) := by decide +kernel
theorem dX9_leadOver_104 : decode cX9_leadOver 104 = .ok (.getfield 25, 3) := by decide +kernel
theorem dX9_leadOver_107 : decode cX9_leadOver 107 = .ok (.iload 4, 2) := by decide +kernel
theorem dX9_leadOver_109 : decode cX9_leadOver 109 = .ok (.iaload, 1) := by decide +kernel
theorem dX9_leadOver_110 : decode cX9_leadOver 110 = .ok (.istore 5, 2) := by decide +kernel
theorem dX9_leadOver_112 : decode cX9_leadOver 112 = .ok (.aload_n 1, 1) := by decide +kernel
theorem dX9_leadOver_113 : decode cX9_leadOver 113 = .ok (.iload 5, 2) := by decide +kernel
theorem dX9_leadOver_115 : decode cX9_leadOver 115 = .ok (.invokevirtual 57, 3) := by decide +kernel
theorem dX9_leadOver_118 : decode cX9_leadOver 118 = .ok (.ifCond .eq 5, 3) := by decide +kernel
theorem dX9_leadOver_121 : decode cX9_leadOver 121 = .ok (.iconst 1, 1) := by decide +kernel
theorem dX9_leadOver_122 : decode cX9_leadOver 122 = .ok (.ireturn, 1) := by decide +kernel
theorem dX9_leadOver_123 : decode cX9_leadOver 123 = .ok (.iconst 0, 1) := by decide +kernel
theorem dX9_leadOver_124 : decode cX9_leadOver 124 = .ok (.istore 6, 2) := by decide +kernel
theorem dX9_leadOver_126 : decode cX9_leadOver 126 = .ok (.iload 6, 2) := by decide +kernel
theorem dX9_leadOver_128 : decode cX9_leadOver 128 = .ok (.iload_n 2, 1) := by decide +kernel
theorem dX9_leadOver_129 : decode cX9_leadOver 129 = .ok (.if_icmp .ge 67, 3) := by decide +kernel
theorem dX9_leadOver_132 : decode cX9_leadOver 132 = .ok (.aload_n 1, 1) := by decide +kernel
theorem dX9_leadOver_133 : decode cX9_leadOver 133 = .ok (.iload 5, 2) := by decide +kernel
theorem dX9_leadOver_135 : decode cX9_leadOver 135 = .ok (.iload 6, 2) := by decide +kernel
theorem dX9_leadOver_137 : decode cX9_leadOver 137 = .ok (.invokevirtual 67, 3) := by decide +kernel
theorem dX9_leadOver_140 : decode cX9_leadOver 140 = .ok (.istore 7, 2) := by decide +kernel
theorem dX9_leadOver_142 : decode cX9_leadOver 142 = .ok (.iload 7, 2) := by decide +kernel
theorem dX9_leadOver_144 : decode cX9_leadOver 144 = .ok (.iconst (-1), 1) := by decide +kernel
theorem dX9_leadOver_145 : decode cX9_leadOver 145 = .ok (.if_icmp .eq 45, 3) := by decide +kernel
theorem dX9_leadOver_148 : decode cX9_leadOver 148 = .ok (.aload_n 0, 1) := by decide +kernel
theorem dX9_leadOver_149 : decode cX9_leadOver 149 = .ok (.getfield 9, 3) := by decide +kernel
theorem dX9_leadOver_152 : decode cX9_leadOver 152 = .ok (.iload 7, 2) := by decide +kernel
theorem dX9_leadOver_154 : decode cX9_leadOver 154 = .ok (.iaload, 1) := by decide +kernel
theorem dX9_leadOver_155 : decode cX9_leadOver 155 = .ok (.ifCond .lt 35, 3) := by decide +kernel
theorem dX9_leadOver_158 : decode cX9_leadOver 158 = .ok (.aload_n 0, 1) := by decide +kernel
theorem dX9_leadOver_159 : decode cX9_leadOver 159 = .ok (.getfield 21, 3) := by decide +kernel
theorem dX9_leadOver_162 : decode cX9_leadOver 162 = .ok (.iload 7, 2) := by decide +kernel
theorem dX9_leadOver_164 : decode cX9_leadOver 164 = .ok (.baload, 1) := by decide +kernel
theorem dX9_leadOver_165 : decode cX9_leadOver 165 = .ok (.ifCond .eq 6, 3) := by decide +kernel
theorem dX9_leadOver_168 : decode cX9_leadOver 168 = .ok (.goto 22, 3) := by decide +kernel
theorem dX9_leadOver_171 : decode cX9_leadOver 171 = .ok (.aload_n 0, 1) := by decide +kernel
theorem dX9_leadOver_172 : decode cX9_leadOver 172 = .ok (.getfield 21, 3) := by decide +kernel
theorem dX9_leadOver_175 : decode cX9_leadOver 175 = .ok (.iload 7, 2) := by decide +kernel
theorem dX9_leadOver_177 : decode cX9_leadOver 177 = .ok (.iconst 1, 1) := by decide +kernel
theorem dX9_leadOver_178 : decode cX9_leadOver 178 = .ok (.bastore, 1) := by decide +kernel
theorem dX9_leadOver_179 : decode cX9_leadOver 179 = .ok (.aload_n 0, 1) := by decide +kernel
theorem dX9_leadOver_180 : decode cX9_leadOver 180 = .ok (.getfield 25, 3) := by decide +kernel
theorem dX9_leadOver_183 : decode cX9_leadOver 183 = .ok (.iload_n 3, 1) := by decide +kernel
theorem dX9_leadOver_184 : decode cX9_leadOver 184 = .ok (.iload 7, 2) := by decide +kernel
theorem dX9_leadOver_186 : decode cX9_leadOver 186 = .ok (.iastore, 1) := by decide +kernel
theorem dX9_leadOver_187 : decode cX9_leadOver 187 = .ok (.iinc 3 1, 3) := by decide +kernel
theorem dX9_leadOver_190 : decode cX9_leadOver 190 = .ok (.iinc 6 1, 3) := by decide +kernel
theorem dX9_leadOver_193 : decode cX9_leadOver 193 = .ok (.goto (-67), 3) := by decide +kernel
theorem dX9_leadOver_196 : decode cX9_leadOver 196 = .ok (.iinc 4 1, 3) := by decide +kernel
theorem dX9_leadOver_199 : decode cX9_leadOver 199 = .ok (.goto (-109), 3) := by decide +kernel
theorem dX9_leadOver_202 : decode cX9_leadOver 202 = .ok (.iconst 0, 1) := by decide +kernel
theorem dX9_leadOver_203 : decode cX9_leadOver 203 = .ok (.ireturn, 1) := by decide +kernel
