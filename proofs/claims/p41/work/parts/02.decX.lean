theorem dX0_init_0 : decode cX0_init 0 = .ok (.aload_n 0, 1) := by decide +kernel
theorem dX0_init_1 : decode cX0_init 1 = .ok (.invokespecial 3, 3) := by decide +kernel
theorem dX0_init_4 : decode cX0_init 4 = .ok (.aload_n 0, 1) := by decide +kernel
theorem dX0_init_5 : decode cX0_init 5 = .ok (.new 9, 3) := by decide +kernel
theorem dX0_init_8 : decode cX0_init 8 = .ok (.dup, 1) := by decide +kernel
theorem dX0_init_9 : decode cX0_init 9 = .ok (.invokespecial 11, 3) := by decide +kernel
theorem dX0_init_12 : decode cX0_init 12 = .ok (.putfield 12, 3) := by decide +kernel
theorem dX0_init_15 : decode cX0_init 15 = .ok (.aload_n 0, 1) := by decide +kernel
theorem dX0_init_16 : decode cX0_init 16 = .ok (.new 18, 3) := by decide +kernel
theorem dX0_init_19 : decode cX0_init 19 = .ok (.dup, 1) := by decide +kernel
theorem dX0_init_20 : decode cX0_init 20 = .ok (.invokespecial 20, 3) := by decide +kernel
theorem dX0_init_23 : decode cX0_init 23 = .ok (.putfield 21, 3) := by decide +kernel
theorem dX0_init_26 : decode cX0_init 26 = .ok (.aload_n 0, 1) := by decide +kernel
theorem dX0_init_27 : decode cX0_init 27 = .ok (.new 25, 3) := by decide +kernel
theorem dX0_init_30 : decode cX0_init 30 = .ok (.dup, 1) := by decide +kernel
theorem dX0_init_31 : decode cX0_init 31 = .ok (.invokespecial 27, 3) := by decide +kernel
theorem dX0_init_34 : decode cX0_init 34 = .ok (.putfield 28, 3) := by decide +kernel
theorem dX0_init_37 : decode cX0_init 37 = .ok (.aload_n 0, 1) := by decide +kernel
theorem dX0_init_38 : decode cX0_init 38 = .ok (.new 32, 3) := by decide +kernel
theorem dX0_init_41 : decode cX0_init 41 = .ok (.dup, 1) := by decide +kernel
theorem dX0_init_42 : decode cX0_init 42 = .ok (.invokespecial 34, 3) := by decide +kernel
theorem dX0_init_45 : decode cX0_init 45 = .ok (.putfield 35, 3) := by decide +kernel
theorem dX0_init_48 : decode cX0_init 48 = .ok (.aload_n 0, 1) := by decide +kernel
theorem dX0_init_49 : decode cX0_init 49 = .ok (.iconst 4, 1) := by decide +kernel
theorem dX0_init_50 : decode cX0_init 50 = .ok (.newarray .int, 2) := by decide +kernel
theorem dX0_init_52 : decode cX0_init 52 = .ok (.putfield 39, 3) := by decide +kernel
theorem dX0_init_55 : decode cX0_init 55 = .ok (.aload_n 0, 1) := by decide +kernel
theorem dX0_init_56 : decode cX0_init 56 = .ok (.iconst 0, 1) := by decide +kernel
theorem dX0_init_57 : decode cX0_init 57 = .ok (.putfield 43, 3) := by decide +kernel
theorem dX0_init_60 : decode cX0_init 60 = .ok (.aload_n 0, 1) := by decide +kernel
theorem dX0_init_61 : decode cX0_init 61 = .ok (.iconst 0, 1) := by decide +kernel
theorem dX0_init_62 : decode cX0_init 62 = .ok (.putfield 47, 3) := by decide +kernel
theorem dX0_init_65 : decode cX0_init 65 = .ok (.aload_n 0, 1) := by decide +kernel
theorem dX0_init_66 : decode cX0_init 66 = .ok (.iconst 0, 1) := by decide +kernel
theorem dX0_init_67 : decode cX0_init 67 = .ok (.putfield 50, 3) := by decide +kernel
theorem dX0_init_70 : decode cX0_init 70 = .ok (.aload_n 0, 1) := by decide +kernel
theorem dX0_init_71 : decode cX0_init 71 = .ok (.iconst 4, 1) := by decide +kernel
theorem dX0_init_72 : decode cX0_init 72 = .ok (.putfield 53, 3) := by decide +kernel
theorem dX0_init_75 : decode cX0_init 75 = .ok (.aload_n 0, 1) := by decide +kernel
theorem dX0_init_76 : decode cX0_init 76 = .ok (.iconst 5, 1) := by decide +kernel
theorem dX0_init_77 : decode cX0_init 77 = .ok (.putfield 56, 3) := by decide +kernel
theorem dX0_init_80 : decode cX0_init 80 = .ok (.aload_n 0, 1) := by decide +kernel
theorem dX0_init_81 : decode cX0_init 81 = .ok (.getfield 12, 3) := by decide +kernel
theorem dX0_init_84 : decode cX0_init 84 = .ok (.iconst 2, 1) := by decide +kernel
theorem dX0_init_85 : decode cX0_init 85 = .ok (.iconst 4, 1) := by decide +kernel
theorem dX0_init_86 : decode cX0_init 86 = .ok (.invokevirtual 59, 3) := by decide +kernel
theorem dX0_init_89 : decode cX0_init 89 = .ok (.aload_n 0, 1) := by decide +kernel
theorem dX0_init_90 : decode cX0_init 90 = .ok (.getfield 21, 3) := by decide +kernel
theorem dX0_init_93 : decode cX0_init 93 = .ok (.iconst 2, 1) := by decide +kernel
theorem dX0_init_94 : decode cX0_init 94 = .ok (.iconst 4, 1) := by decide +kernel
theorem dX0_init_95 : decode cX0_init 95 = .ok (.invokevirtual 63, 3) := by decide +kernel
theorem dX0_init_98 : decode cX0_init 98 = .ok (.return_, 1) := by decide +kernel
theorem dX0_copyFrom_0 : decode cX0_copyFrom 0 = .ok (.aload_n 0, 1) := by decide +kernel
theorem dX0_copyFrom_1 : decode cX0_copyFrom 1 = .ok (.getfield 12, 3) := by decide +kernel
theorem dX0_copyFrom_4 : decode cX0_copyFrom 4 = .ok (.aload_n 1, 1) := by decide +kernel
theorem dX0_copyFrom_5 : decode cX0_copyFrom 5 = .ok (.getfield 12, 3) := by decide +kernel
theorem dX0_copyFrom_8 : decode cX0_copyFrom 8 = .ok (.invokevirtual 66, 3) := by decide +kernel
theorem dX0_copyFrom_11 : decode cX0_copyFrom 11 = .ok (.aload_n 0, 1) := by decide +kernel
theorem dX0_copyFrom_12 : decode cX0_copyFrom 12 = .ok (.getfield 21, 3) := by decide +kernel
theorem dX0_copyFrom_15 : decode cX0_copyFrom 15 = .ok (.aload_n 1, 1) := by decide +kernel
theorem dX0_copyFrom_16 : decode cX0_copyFrom 16 = .ok (.getfield 21, 3) := by decide +kernel
theorem dX0_copyFrom_19 : decode cX0_copyFrom 19 = .ok (.invokevirtual 70, 3) := by decide +kernel
theorem dX0_copyFrom_22 : decode cX0_copyFrom 22 = .ok (.aload_n 0, 1) := by decide +kernel
theorem dX0_copyFrom_23 : decode cX0_copyFrom 23 = .ok (.getfield 28, 3) := by decide +kernel
theorem dX0_copyFrom_26 : decode cX0_copyFrom 26 = .ok (.aload_n 1, 1) := by decide +kernel
theorem dX0_copyFrom_27 : decode cX0_copyFrom 27 = .ok (.getfield 28, 3) := by decide +kernel
theorem dX0_copyFrom_30 : decode cX0_copyFrom 30 = .ok (.invokevirtual 73, 3) := by decide +kernel
theorem dX0_copyFrom_33 : decode cX0_copyFrom 33 = .ok (.aload_n 0, 1) := by decide +kernel
theorem dX0_copyFrom_34 : decode cX0_copyFrom 34 = .ok (.getfield 35, 3) := by decide +kernel
theorem dX0_copyFrom_37 : decode cX0_copyFrom 37 = .ok (.aload_n 1, 1) := by decide +kernel
theorem dX0_copyFrom_38 : decode cX0_copyFrom 38 = .ok (.getfield 35, 3) := by decide +kernel
theorem dX0_copyFrom_41 : decode cX0_copyFrom 41 = .ok (.invokevirtual 76, 3) := by decide +kernel
theorem dX0_copyFrom_44 : decode cX0_copyFrom 44 = .ok (.aload_n 1, 1) := by decide +kernel
theorem dX0_copyFrom_45 : decode cX0_copyFrom 45 = .ok (.getfield 39, 3) := by decide +kernel
theorem dX0_copyFrom_48 : decode cX0_copyFrom 48 = .ok (.iconst 0, 1) := by decide +kernel
theorem dX0_copyFrom_49 : decode cX0_copyFrom 49 = .ok (.aload_n 0, 1) := by decide +kernel
theorem dX0_copyFrom_50 : decode cX0_copyFrom 50 = .ok (.getfield 39, 3) := by decide +kernel
theorem dX0_copyFrom_53 : decode cX0_copyFrom 53 = .ok (.iconst 0, 1) := by decide +kernel
theorem dX0_copyFrom_54 : decode cX0_copyFrom 54 = .ok (.iconst 4, 1) := by decide +kernel
theorem dX0_copyFrom_55 : decode cX0_copyFrom 55 = .ok (.invokestatic 79, 3) := by decide +kernel
theorem dX0_copyFrom_58 : decode cX0_copyFrom 58 = .ok (.aload_n 0, 1) := by decide +kernel
theorem dX0_copyFrom_59 : decode cX0_copyFrom 59 = .ok (.aload_n 1, 1) := by decide +kernel
theorem dX0_copyFrom_60 : decode cX0_copyFrom 60 = .ok (.getfield 43, 3) := by decide +kernel
theorem dX0_copyFrom_63 : decode cX0_copyFrom 63 = .ok (.putfield 43, 3) := by decide +kernel
theorem dX0_copyFrom_66 : decode cX0_copyFrom 66 = .ok (.aload_n 0, 1) := by decide +kernel
theorem dX0_copyFrom_67 : decode cX0_copyFrom 67 = .ok (.aload_n 1, 1) := by decide +kernel
theorem dX0_copyFrom_68 : decode cX0_copyFrom 68 = .ok (.getfield 47, 3) := by decide +kernel
theorem dX0_copyFrom_71 : decode cX0_copyFrom 71 = .ok (.putfield 47, 3) := by decide +kernel
theorem dX0_copyFrom_74 : decode cX0_copyFrom 74 = .ok (.aload_n 0, 1) := by decide +kernel
theorem dX0_copyFrom_75 : decode cX0_copyFrom 75 = .ok (.aload_n 1, 1) := by decide +kernel
theorem dX0_copyFrom_76 : decode cX0_copyFrom 76 = .ok (.getfield 50, 3) := by decide +kernel
theorem dX0_copyFrom_79 : decode cX0_copyFrom 79 = .ok (.putfield 50, 3) := by decide +kernel
theorem dX0_copyFrom_82 : decode cX0_copyFrom 82 = .ok (.aload_n 0, 1) := by decide +kernel
theorem dX0_copyFrom_83 : decode cX0_copyFrom 83 = .ok (.aload_n 1, 1) := by decide +kernel
theorem dX0_copyFrom_84 : decode cX0_copyFrom 84 = .ok (.getfield 53, 3) := by decide +kernel
theorem dX0_copyFrom_87 : decode cX0_copyFrom 87 = .ok (.putfield 53, 3) := by decide +kernel
theorem dX0_copyFrom_90 : decode cX0_copyFrom 90 = .ok (.aload_n 0, 1) := by decide +kernel
theorem dX0_copyFrom_91 : decode cX0_copyFrom 91 = .ok (.aload_n 1, 1) := by decide +kernel
theorem dX0_copyFrom_92 : decode cX0_copyFrom 92 = .ok (.getfield 56, 3) := by decide +kernel
theorem dX0_copyFrom_95 : decode cX0_copyFrom 95 = .ok (.putfield 56, 3) := by decide +kernel
theorem dX0_copyFrom_98 : decode cX0_copyFrom 98 = .ok (.return_, 1) := by decide +kernel
theorem dX0_isFixed_0 : decode cX0_isFixed 0 = .ok (.aload_n 0, 1) := by decide +kernel
theorem dX0_isFixed_1 : decode cX0_isFixed 1 = .ok (.getfield 47, 3) := by decide +kernel
theorem dX0_isFixed_4 : decode cX0_isFixed 4 = .ok (.ifCond .ne 10, 3) := by decide +kernel
theorem dX0_isFixed_7 : decode cX0_isFixed 7 = .ok (.aload_n 0, 1) := by decide +kernel
theorem dX0_isFixed_8 : decode cX0_isFixed 8 = .ok (.getfield 50, 3) := by decide +kernel
theorem dX0_isFixed_11 : decode cX0_isFixed 11 = .ok (.ifCond .eq 7, 3) := by decide +kernel
theorem dX0_isFixed_14 : decode cX0_isFixed 14 = .ok (.iconst 1, 1) := by decide +kernel
theorem dX0_isFixed_15 : decode cX0_isFixed 15 = .ok (.goto 4, 3) := by decide +kernel
theorem dX0_isFixed_18 : decode cX0_isFixed 18 = .ok (.iconst 0, 1) := by decide +kernel
theorem dX0_isFixed_19 : decode cX0_isFixed 19 = .ok (.ireturn, 1) := by decide +kernel
theorem dX0_isOpenAndFree_0 : decode cX0_isOpenAndFree 0 = .ok (.aload_n 0, 1) := by decide +kernel
theorem dX0_isOpenAndFree_1 : decode cX0_isOpenAndFree 1 = .ok (.getfield 21, 3) := by decide +kernel
theorem dX0_isOpenAndFree_4 : decode cX0_isOpenAndFree 4 = .ok (.getfield 85, 3) := by decide +kernel
theorem dX0_isOpenAndFree_7 : decode cX0_isOpenAndFree 7 = .ok (.ifCond .ne 14, 3) := by decide +kernel
theorem dX0_isOpenAndFree_10 : decode cX0_isOpenAndFree 10 = .ok (.aload_n 0, 1) := by decide +kernel
theorem dX0_isOpenAndFree_11 : decode cX0_isOpenAndFree 11 = .ok (.invokevirtual 88, 3) := by decide +kernel
theorem dX0_isOpenAndFree_14 : decode cX0_isOpenAndFree 14 = .ok (.ifCond .ne 7, 3) := by decide +kernel
theorem dX0_isOpenAndFree_17 : decode cX0_isOpenAndFree 17 = .ok (.iconst 1, 1) := by decide +kernel
theorem dX0_isOpenAndFree_18 : decode cX0_isOpenAndFree 18 = .ok (.goto 4, 3) := by decide +kernel
theorem dX0_isOpenAndFree_21 : decode cX0_isOpenAndFree 21 = .ok (.iconst 0, 1) := by decide +kernel
theorem dX0_isOpenAndFree_22 : decode cX0_isOpenAndFree 22 = .ok (.ireturn, 1) := by decide +kernel
theorem dX0_effortOf_0 : decode cX0_effortOf 0 = .ok (.iload_n 1, 1) := by decide +kernel
theorem dX0_effortOf_1 : decode cX0_effortOf 1 = .ok (.iconst 0, 1) := by decide +kernel
theorem dX0_effortOf_2 : decode cX0_effortOf 2 = .ok (.iconst 3, 1) := by decide +kernel
theorem dX0_effortOf_3 : decode cX0_effortOf 3 = .ok (.invokestatic 92, 3) := by decide +kernel
theorem dX0_effortOf_6 : decode cX0_effortOf 6 = .ok (.ifCond .eq 12, 3) := by decide +kernel
theorem dX0_effortOf_9 : decode cX0_effortOf 9 = .ok (.aload_n 0, 1) := by decide +kernel
theorem dX0_effortOf_10 : decode cX0_effortOf 10 = .ok (.getfield 39, 3) := by decide +kernel
theorem dX0_effortOf_13 : decode cX0_effortOf 13 = .ok (.iload_n 1, 1) := by decide +kernel
theorem dX0_effortOf_14 : decode cX0_effortOf 14 = .ok (.iaload, 1) := by decide +kernel
theorem dX0_effortOf_15 : decode cX0_effortOf 15 = .ok (.goto 4, 3) := by decide +kernel
theorem dX0_effortOf_18 : decode cX0_effortOf 18 = .ok (.iconst 0, 1) := by decide +kernel
theorem dX0_effortOf_19 : decode cX0_effortOf 19 = .ok (.ireturn, 1) := by decide +kernel
theorem dX0_isLength_0 : decode cX0_isLength 0 = .ok (.iload_n 0, 1) := by decide +kernel
theorem dX0_isLength_1 : decode cX0_isLength 1 = .ok (.iconst 1, 1) := by decide +kernel
theorem dX0_isLength_2 : decode cX0_isLength 2 = .ok (.if_icmp .eq 13, 3) := by decide +kernel
theorem dX0_isLength_5 : decode cX0_isLength 5 = .ok (.iload_n 0, 1) := by decide +kernel
theorem dX0_isLength_6 : decode cX0_isLength 6 = .ok (.iconst 2, 1) := by decide +kernel
theorem dX0_isLength_7 : decode cX0_isLength 7 = .ok (.if_icmp .eq 8, 3) := by decide +kernel
theorem dX0_isLength_10 : decode cX0_isLength 10 = .ok (.iload_n 0, 1) := by decide +kernel
theorem dX0_isLength_11 : decode cX0_isLength 11 = .ok (.iconst 4, 1) := by decide +kernel
theorem dX0_isLength_12 : decode cX0_isLength 12 = .ok (.if_icmp .ne 7, 3) := by decide +kernel
theorem dX0_isLength_15 : decode cX0_isLength 15 = .ok (.iconst 1, 1) := by decide +kernel
theorem dX0_isLength_16 : decode cX0_isLength 16 = .ok (.goto 4, 3) := by decide +kernel
theorem dX0_isLength_19 : decode cX0_isLength 19 = .ok (.iconst 0, 1) := by decide +kernel
theorem dX0_isLength_20 : decode cX0_isLength 20 = .ok (.ireturn, 1) := by decide +kernel
theorem dX0_takeSheet_0 : decode cX0_takeSheet 0 = .ok (.iload_n 1, 1) := by decide +kernel
theorem dX0_takeSheet_1 : decode cX0_takeSheet 1 = .ok (.invokestatic 96, 3) := by decide +kernel
theorem dX0_takeSheet_4 : decode cX0_takeSheet 4 = .ok (.ifCond .eq 10, 3) := by decide +kernel
theorem dX0_takeSheet_7 : decode cX0_takeSheet 7 = .ok (.iload_n 2, 1) := by decide +kernel
theorem dX0_takeSheet_8 : decode cX0_takeSheet 8 = .ok (.invokestatic 96, 3) := by decide +kernel
theorem dX0_takeSheet_11 : decode cX0_takeSheet 11 = .ok (.ifCond .ne 5, 3) := by decide +kernel
theorem dX0_takeSheet_14 : decode cX0_takeSheet 14 = .ok (.iconst (-1), 1) := by decide +kernel
theorem dX0_takeSheet_15 : decode cX0_takeSheet 15 = .ok (.ireturn, 1) := by decide +kernel
theorem dX0_takeSheet_16 : decode cX0_takeSheet 16 = .ok (.aload_n 0, 1) := by decide +kernel
theorem dX0_takeSheet_17 : decode cX0_takeSheet 17 = .ok (.getfield 12, 3) := by decide +kernel
theorem dX0_takeSheet_20 : decode cX0_takeSheet 20 = .ok (.iload_n 1, 1) := by decide +kernel
theorem dX0_takeSheet_21 : decode cX0_takeSheet 21 = .ok (.iload_n 2, 1) := by decide +kernel
theorem dX0_takeSheet_22 : decode cX0_takeSheet 22 = .ok (.invokevirtual 59, 3) := by decide +kernel
theorem dX0_takeSheet_25 : decode cX0_takeSheet 25 = .ok (.aload_n 0, 1) := by decide +kernel
theorem dX0_takeSheet_26 : decode cX0_takeSheet 26 = .ok (.getfield 21, 3) := by decide +kernel
theorem dX0_takeSheet_29 : decode cX0_takeSheet 29 = .ok (.iload_n 1, 1) := by decide +kernel
theorem dX0_takeSheet_30 : decode cX0_takeSheet 30 = .ok (.iload_n 2, 1) := by decide +kernel
theorem dX0_takeSheet_31 : decode cX0_takeSheet 31 = .ok (.invokevirtual 63, 3) := by decide +kernel
theorem dX0_takeSheet_34 : decode cX0_takeSheet 34 = .ok (.aload_n 0, 1) := by decide +kernel
theorem dX0_takeSheet_35 : decode cX0_takeSheet 35 = .ok (.getfield 28, 3) := by decide +kernel
theorem dX0_takeSheet_38 : decode cX0_takeSheet 38 = .ok (.invokevirtual 100, 3) := by decide +kernel
theorem dX0_takeSheet_41 : decode cX0_takeSheet 41 = .ok (.pop, 1) := by decide +kernel
theorem dX0_takeSheet_42 : decode cX0_takeSheet 42 = .ok (.aload_n 0, 1) := by decide +kernel
theorem dX0_takeSheet_43 : decode cX0_takeSheet 43 = .ok (.iconst 0, 1) := by decide +kernel
theorem dX0_takeSheet_44 : decode cX0_takeSheet 44 = .ok (.putfield 47, 3) := by decide +kernel
theorem dX0_takeSheet_47 : decode cX0_takeSheet 47 = .ok (.aload_n 0, 1) := by decide +kernel
theorem dX0_takeSheet_48 : decode cX0_takeSheet 48 = .ok (.iconst 0, 1) := by decide +kernel
theorem dX0_takeSheet_49 : decode cX0_takeSheet 49 = .ok (.putfield 50, 3) := by decide +kernel
theorem dX0_takeSheet_52 : decode cX0_takeSheet 52 = .ok (.iload_n 1, 1) := by decide +kernel
theorem dX0_takeSheet_53 : decode cX0_takeSheet 53 = .ok (.iload_n 2, 1) := by decide +kernel
theorem dX0_takeSheet_54 : decode cX0_takeSheet 54 = .ok (.imul, 1) := by decide +kernel
theorem dX0_takeSheet_55 : decode cX0_takeSheet 55 = .ok (.ireturn, 1) := by decide +kernel
theorem dX0_foldOnce_0 : decode cX0_foldOnce 0 = .ok (.iload_n 1, 1) := by decide +kernel
theorem dX0_foldOnce_1 : decode cX0_foldOnce 1 = .ok (.iconst 1, 1) := by decide +kernel
theorem dX0_foldOnce_2 : decode cX0_foldOnce 2 = .ok (.iconst 4, 1) := by decide +kernel
theorem dX0_foldOnce_3 : decode cX0_foldOnce 3 = .ok (.invokestatic 92, 3) := by decide +kernel
theorem dX0_foldOnce_6 : decode cX0_foldOnce 6 = .ok (.ifCond .ne 5, 3) := by decide +kernel
theorem dX0_foldOnce_9 : decode cX0_foldOnce 9 = .ok (.iconst (-1), 1) := by decide +kernel
theorem dX0_foldOnce_10 : decode cX0_foldOnce 10 = .ok (.ireturn, 1) := by decide +kernel
theorem dX0_foldOnce_11 : decode cX0_foldOnce 11 = .ok (.aload_n 0, 1) := by decide +kernel
theorem dX0_foldOnce_12 : decode cX0_foldOnce 12 = .ok (.invokevirtual 88, 3) := by decide +kernel
theorem dX0_foldOnce_15 : decode cX0_foldOnce 15 = .ok (.ifCond .ne 14, 3) := by decide +kernel
theorem dX0_foldOnce_18 : decode cX0_foldOnce 18 = .ok (.aload_n 0, 1) := by decide +kernel
theorem dX0_foldOnce_19 : decode cX0_foldOnce 19 = .ok (.getfield 21, 3) := by decide +kernel
theorem dX0_foldOnce_22 : decode cX0_foldOnce 22 = .ok (.iload_n 1, 1) := by decide +kernel
theorem dX0_foldOnce_23 : decode cX0_foldOnce 23 = .ok (.invokevirtual 104, 3) := by decide +kernel
theorem dX0_foldOnce_26 : decode cX0_foldOnce 26 = .ok (.ifCond .ne 6, 3) := by decide +kernel
theorem dX0_foldOnce_29 : decode cX0_foldOnce 29 = .ok (.bipush (-2), 2) := by decide +kernel
theorem dX0_foldOnce_31 : decode cX0_foldOnce 31 = .ok (.ireturn, 1) := by decide +kernel
theorem dX0_foldOnce_32 : decode cX0_foldOnce 32 = .ok (.aload_n 0, 1) := by decide +kernel
theorem dX0_foldOnce_33 : decode cX0_foldOnce 33 = .ok (.getfield 39, 3) := by decide +kernel
theorem dX0_foldOnce_36 : decode cX0_foldOnce 36 = .ok (.iconst 0, 1) := by decide +kernel
theorem dX0_foldOnce_37 : decode cX0_foldOnce 37 = .ok (.dup2, 1) := by decide +kernel
theorem dX0_foldOnce_38 : decode cX0_foldOnce 38 = .ok (.iaload, 1) := by decide +kernel
theorem dX0_foldOnce_39 : decode cX0_foldOnce 39 = .ok (.aload_n 0, 1) := by decide +kernel
theorem dX0_foldOnce_40 : decode cX0_foldOnce 40 = .ok (.getfield 21, 3) := by decide +kernel
theorem dX0_foldOnce_43 : decode cX0_foldOnce 43 = .ok (.invokevirtual 107, 3) := by decide +kernel
theorem dX0_foldOnce_46 : decode cX0_foldOnce 46 = .ok (.iadd, 1) := by decide +kernel
theorem dX0_foldOnce_47 : decode cX0_foldOnce 47 = .ok (.iastore, 1) := by decide +kernel
theorem dX0_foldOnce_48 : decode cX0_foldOnce 48 = .ok (.aload_n 0, 1) := by decide +kernel
theorem dX0_foldOnce_49 : decode cX0_foldOnce 49 = .ok (.getfield 21, 3) := by decide +kernel
theorem dX0_foldOnce_52 : decode cX0_foldOnce 52 = .ok (.iload_n 1, 1) := by decide +kernel
theorem dX0_foldOnce_53 : decode cX0_foldOnce 53 = .ok (.invokevirtual 110, 3) := by decide +kernel
theorem dX0_foldOnce_56 : decode cX0_foldOnce 56 = .ok (.aload_n 0, 1) := by decide +kernel
theorem dX0_foldOnce_57 : decode cX0_foldOnce 57 = .ok (.getfield 21, 3) := by decide +kernel
theorem dX0_foldOnce_60 : decode cX0_foldOnce 60 = .ok (.invokevirtual 107, 3) := by decide +kernel
theorem dX0_foldOnce_63 : decode cX0_foldOnce 63 = .ok (.ireturn, 1) := by decide +kernel
theorem dX0_foldBack_0 : decode cX0_foldBack 0 = .ok (.aload_n 0, 1) := by decide +kernel
theorem dX0_foldBack_1 : decode cX0_foldBack 1 = .ok (.invokevirtual 88, 3) := by decide +kernel
theorem dX0_foldBack_4 : decode cX0_foldBack 4 = .ok (.ifCond .ne 13, 3) := by decide +kernel
theorem dX0_foldBack_7 : decode cX0_foldBack 7 = .ok (.aload_n 0, 1) := by decide +kernel
theorem dX0_foldBack_8 : decode cX0_foldBack 8 = .ok (.getfield 21, 3) := by decide +kernel
theorem dX0_foldBack_11 : decode cX0_foldBack 11 = .ok (.getfield 85, 3) := by decide +kernel
theorem dX0_foldBack_14 : decode cX0_foldBack 14 = .ok (.ifCond .ne 6, 3) := by decide +kernel
theorem dX0_foldBack_17 : decode cX0_foldBack 17 = .ok (.bipush (-2), 2) := by decide +kernel
theorem dX0_foldBack_19 : decode cX0_foldBack 19 = .ok (.ireturn, 1) := by decide +kernel
theorem dX0_foldBack_20 : decode cX0_foldBack 20 = .ok (.aload_n 0, 1) := by decide +kernel
theorem dX0_foldBack_21 : decode cX0_foldBack 21 = .ok (.getfield 39, 3) := by decide +kernel
theorem dX0_foldBack_24 : decode cX0_foldBack 24 = .ok (.iconst 0, 1) := by decide +kernel
theorem dX0_foldBack_25 : decode cX0_foldBack 25 = .ok (.dup2, 1) := by decide +kernel
theorem dX0_foldBack_26 : decode cX0_foldBack 26 = .ok (.iaload, 1) := by decide +kernel
theorem dX0_foldBack_27 : decode cX0_foldBack 27 = .ok (.iconst 1, 1) := by decide +kernel
theorem dX0_foldBack_28 : decode cX0_foldBack 28 = .ok (.iadd, 1) := by decide +kernel
theorem dX0_foldBack_29 : decode cX0_foldBack 29 = .ok (.iastore, 1) := by decide +kernel
theorem dX0_foldBack_30 : decode cX0_foldBack 30 = .ok (.aload_n 0, 1) := by decide +kernel
theorem dX0_foldBack_31 : decode cX0_foldBack 31 = .ok (.getfield 21, 3) := by decide +kernel
theorem dX0_foldBack_34 : decode cX0_foldBack 34 = .ok (.aload_n 0, 1) := by decide +kernel
theorem dX0_foldBack_35 : decode cX0_foldBack 35 = .ok (.getfield 12, 3) := by decide +kernel
theorem dX0_foldBack_38 : decode cX0_foldBack 38 = .ok (.getfield 114, 3) := by decide +kernel
theorem dX0_foldBack_41 : decode cX0_foldBack 41 = .ok (.aload_n 0, 1) := by decide +kernel
theorem dX0_foldBack_42 : decode cX0_foldBack 42 = .ok (.getfield 12, 3) := by decide +kernel
theorem dX0_foldBack_45 : decode cX0_foldBack 45 = .ok (.getfield 117, 3) := by decide +kernel
theorem dX0_foldBack_48 : decode cX0_foldBack 48 = .ok (.aload_n 0, 1) := by decide +kernel
theorem dX0_foldBack_49 : decode cX0_foldBack 49 = .ok (.getfield 21, 3) := by decide +kernel
theorem dX0_foldBack_52 : decode cX0_foldBack 52 = .ok (.getfield 120, 3) := by decide +kernel
theorem dX0_foldBack_55 : decode cX0_foldBack 55 = .ok (.bipush 10, 2) := by decide +kernel
theorem dX0_foldBack_57 : decode cX0_foldBack 57 = .ok (.idiv, 1) := by decide +kernel
theorem dX0_foldBack_58 : decode cX0_foldBack 58 = .ok (.invokevirtual 123, 3) := by decide +kernel
theorem dX0_foldBack_61 : decode cX0_foldBack 61 = .ok (.pop, 1) := by decide +kernel
theorem dX0_foldBack_62 : decode cX0_foldBack 62 = .ok (.aload_n 0, 1) := by decide +kernel
theorem dX0_foldBack_63 : decode cX0_foldBack 63 = .ok (.getfield 21, 3) := by decide +kernel
theorem dX0_foldBack_66 : decode cX0_foldBack 66 = .ok (.getfield 85, 3) := by decide +kernel
theorem dX0_foldBack_69 : decode cX0_foldBack 69 = .ok (.ireturn, 1) := by decide +kernel
theorem dX0_moveSpine_0 : decode cX0_moveSpine 0 = .ok (.iload_n 1, 1) := by decide +kernel
theorem dX0_moveSpine_1 : decode cX0_moveSpine 1 = .ok (.iconst 0, 1) := by decide +kernel
theorem dX0_moveSpine_2 : decode cX0_moveSpine 2 = .ok (.iconst 1, 1) := by decide +kernel
theorem dX0_moveSpine_3 : decode cX0_moveSpine 3 = .ok (.invokestatic 92, 3) := by decide +kernel
theorem dX0_moveSpine_6 : decode cX0_moveSpine 6 = .ok (.ifCond .ne 5, 3) := by decide +kernel
theorem dX0_moveSpine_9 : decode cX0_moveSpine 9 = .ok (.iconst (-1), 1) := by decide +kernel
theorem dX0_moveSpine_10 : decode cX0_moveSpine 10 = .ok (.ireturn, 1) := by decide +kernel
theorem dX0_moveSpine_11 : decode cX0_moveSpine 11 = .ok (.aload_n 0, 1) := by decide +kernel
theorem dX0_moveSpine_12 : decode cX0_moveSpine 12 = .ok (.getfield 50, 3) := by decide +kernel
theorem dX0_moveSpine_15 : decode cX0_moveSpine 15 = .ok (.ifCond .eq 6, 3) := by decide +kernel
theorem dX0_moveSpine_18 : decode cX0_moveSpine 18 = .ok (.bipush (-2), 2) := by decide +kernel
theorem dX0_moveSpine_20 : decode cX0_moveSpine 20 = .ok (.ireturn, 1) := by decide +kernel
theorem dX0_moveSpine_21 : decode cX0_moveSpine 21 = .ok (.aload_n 0, 1) := by decide +kernel
theorem dX0_moveSpine_22 : decode cX0_moveSpine 22 = .ok (.getfield 43, 3) := by decide +kernel
theorem dX0_moveSpine_25 : decode cX0_moveSpine 25 = .ok (.istore_n 2, 1) := by decide +kernel
theorem dX0_moveSpine_26 : decode cX0_moveSpine 26 = .ok (.aload_n 0, 1) := by decide +kernel
theorem dX0_moveSpine_27 : decode cX0_moveSpine 27 = .ok (.iload_n 1, 1) := by decide +kernel
theorem dX0_moveSpine_28 : decode cX0_moveSpine 28 = .ok (.putfield 43, 3) := by decide +kernel
theorem dX0_moveSpine_31 : decode cX0_moveSpine 31 = .ok (.iload_n 2, 1) := by decide +kernel
theorem dX0_moveSpine_32 : decode cX0_moveSpine 32 = .ok (.ireturn, 1) := by decide +kernel
theorem dX0_printSheet_0 : decode cX0_printSheet 0 = .ok (.aload_n 1, 1) := by decide +kernel
theorem dX0_printSheet_1 : decode cX0_printSheet 1 = .ok (.aload_n 0, 1) := by decide +kernel
theorem dX0_printSheet_2 : decode cX0_printSheet 2 = .ok (.getfield 12, 3) := by decide +kernel
theorem dX0_printSheet_5 : decode cX0_printSheet 5 = .ok (.getfield 114, 3) := by decide +kernel
theorem dX0_printSheet_8 : decode cX0_printSheet 8 = .ok (.aload_n 0, 1) := by decide +kernel
theorem dX0_printSheet_9 : decode cX0_printSheet 9 = .ok (.getfield 12, 3) := by decide +kernel
theorem dX0_printSheet_12 : decode cX0_printSheet 12 = .ok (.getfield 117, 3) := by decide +kernel
theorem dX0_printSheet_15 : decode cX0_printSheet 15 = .ok (.iload_n 2, 1) := by decide +kernel
theorem dX0_printSheet_16 : decode cX0_printSheet 16 = .ok (.invokevirtual 123, 3) := by decide +kernel
theorem dX0_printSheet_19 : decode cX0_printSheet 19 = .ok (.ifCond .ne 5, 3) := by decide +kernel
theorem dX0_printSheet_22 : decode cX0_printSheet 22 = .ok (.iconst (-1), 1) := by decide +kernel
theorem dX0_printSheet_23 : decode cX0_printSheet 23 = .ok (.ireturn, 1) := by decide +kernel
theorem dX0_printSheet_24 : decode cX0_printSheet 24 = .ok (.aload_n 0, 1) := by decide +kernel
theorem dX0_printSheet_25 : decode cX0_printSheet 25 = .ok (.invokevirtual 129, 3) := by decide +kernel
theorem dX0_printSheet_28 : decode cX0_printSheet 28 = .ok (.ifCond .ne 6, 3) := by decide +kernel
theorem dX0_printSheet_31 : decode cX0_printSheet 31 = .ok (.bipush (-2), 2) := by decide +kernel
theorem dX0_printSheet_33 : decode cX0_printSheet 33 = .ok (.ireturn, 1) := by decide +kernel
theorem dX0_printSheet_34 : decode cX0_printSheet 34 = .ok (.iconst 0, 1) := by decide +kernel
theorem dX0_printSheet_35 : decode cX0_printSheet 35 = .ok (.istore_n 3, 1) := by decide +kernel
theorem dX0_printSheet_36 : decode cX0_printSheet 36 = .ok (.iconst 0, 1) := by decide +kernel
theorem dX0_printSheet_37 : decode cX0_printSheet 37 = .ok (.istore 4, 2) := by decide +kernel
theorem dX0_printSheet_39 : decode cX0_printSheet 39 = .ok (.iload 4, 2) := by decide +kernel
theorem dX0_printSheet_41 : decode cX0_printSheet 41 = .ok (.aload_n 1, 1) := by decide +kernel
theorem dX0_printSheet_42 : decode cX0_printSheet 42 = .ok (.invokevirtual 147, 3) := by decide +kernel
theorem dX0_printSheet_45 : decode cX0_printSheet 45 = .ok (.if_icmp .gt 34, 3) := by decide +kernel
theorem dX0_printSheet_48 : decode cX0_printSheet 48 = .ok (.iload_n 3, 1) := by decide +kernel
theorem dX0_printSheet_49 : decode cX0_printSheet 49 = .ok (.aload_n 0, 1) := by decide +kernel
theorem dX0_printSheet_50 : decode cX0_printSheet 50 = .ok (.getfield 12, 3) := by decide +kernel
theorem dX0_printSheet_53 : decode cX0_printSheet 53 = .ok (.aload_n 1, 1) := by decide +kernel
theorem dX0_printSheet_54 : decode cX0_printSheet 54 = .ok (.iload 4, 2) := by decide +kernel
theorem dX0_printSheet_56 : decode cX0_printSheet 56 = .ok (.invokevirtual 150, 3) := by decide +kernel
theorem dX0_printSheet_59 : decode cX0_printSheet 59 = .ok (.iload 4, 2) := by decide +kernel
theorem dX0_printSheet_61 : decode cX0_printSheet 61 = .ok (.aload_n 0, 1) := by decide +kernel
theorem dX0_printSheet_62 : decode cX0_printSheet 62 = .ok (.aload_n 1, 1) := by decide +kernel
theorem dX0_printSheet_63 : decode cX0_printSheet 63 = .ok (.iload 4, 2) := by decide +kernel
theorem dX0_printSheet_65 : decode cX0_printSheet 65 = .ok (.invokevirtual 153, 3) := by decide +kernel
theorem dX0_printSheet_68 : decode cX0_printSheet 68 = .ok (.invokevirtual 143, 3) := by decide +kernel
theorem dX0_printSheet_71 : decode cX0_printSheet 71 = .ok (.iadd, 1) := by decide +kernel
theorem dX0_printSheet_72 : decode cX0_printSheet 72 = .ok (.istore_n 3, 1) := by decide +kernel
theorem dX0_printSheet_73 : decode cX0_printSheet 73 = .ok (.iinc 4 1, 3) := by decide +kernel
theorem dX0_printSheet_76 : decode cX0_printSheet 76 = .ok (.goto (-37), 3) := by decide +kernel
theorem dX0_printSheet_79 : decode cX0_printSheet 79 = .ok (.aload_n 0, 1) := by decide +kernel
theorem dX0_printSheet_80 : decode cX0_printSheet 80 = .ok (.getfield 39, 3) := by decide +kernel
theorem dX0_printSheet_83 : decode cX0_printSheet 83 = .ok (.iconst 1, 1) := by decide +kernel
theorem dX0_printSheet_84 : decode cX0_printSheet 84 = .ok (.dup2, 1) := by decide +kernel
theorem dX0_printSheet_85 : decode cX0_printSheet 85 = .ok (.iaload, 1) := by decide +kernel
theorem dX0_printSheet_86 : decode cX0_printSheet 86 = .ok (.iload_n 3, 1) := by decide +kernel
theorem dX0_printSheet_87 : decode cX0_printSheet 87 = .ok (.iadd, 1) := by decide +kernel
theorem dX0_printSheet_88 : decode cX0_printSheet 88 = .ok (.iastore, 1) := by decide +kernel
theorem dX0_printSheet_89 : decode cX0_printSheet 89 = .ok (.iload_n 3, 1) := by decide +kernel
theorem dX0_printSheet_90 : decode cX0_printSheet 90 = .ok (.ireturn, 1) := by decide +kernel
theorem dX0_cutAlong_0 : decode cX0_cutAlong 0 = .ok (.iload_n 1, 1) := by decide +kernel
theorem dX0_cutAlong_1 : decode cX0_cutAlong 1 = .ok (.iconst 0, 1) := by decide +kernel
theorem dX0_cutAlong_2 : decode cX0_cutAlong 2 = .ok (.iconst 3, 1) := by decide +kernel
theorem dX0_cutAlong_3 : decode cX0_cutAlong 3 = .ok (.invokestatic 92, 3) := by decide +kernel
theorem dX0_cutAlong_6 : decode cX0_cutAlong 6 = .ok (.ifCond .ne 5, 3) := by decide +kernel
theorem dX0_cutAlong_9 : decode cX0_cutAlong 9 = .ok (.iconst (-1), 1) := by decide +kernel
theorem dX0_cutAlong_10 : decode cX0_cutAlong 10 = .ok (.ireturn, 1) := by decide +kernel
theorem dX0_cutAlong_11 : decode cX0_cutAlong 11 = .ok (.aload_n 0, 1) := by decide +kernel
theorem dX0_cutAlong_12 : decode cX0_cutAlong 12 = .ok (.getfield 21, 3) := by decide +kernel
theorem dX0_cutAlong_15 : decode cX0_cutAlong 15 = .ok (.invokevirtual 157, 3) := by decide +kernel
theorem dX0_cutAlong_18 : decode cX0_cutAlong 18 = .ok (.ifCond .eq 14, 3) := by decide +kernel
theorem dX0_cutAlong_21 : decode cX0_cutAlong 21 = .ok (.iload_n 1, 1) := by decide +kernel
theorem dX0_cutAlong_22 : decode cX0_cutAlong 22 = .ok (.aload_n 0, 1) := by decide +kernel
theorem dX0_cutAlong_23 : decode cX0_cutAlong 23 = .ok (.getfield 47, 3) := by decide +kernel
theorem dX0_cutAlong_26 : decode cX0_cutAlong 26 = .ok (.invokestatic 160, 3) := by decide +kernel
theorem dX0_cutAlong_29 : decode cX0_cutAlong 29 = .ok (.ifCond .eq 6, 3) := by decide +kernel
theorem dX0_cutAlong_32 : decode cX0_cutAlong 32 = .ok (.bipush (-2), 2) := by decide +kernel
theorem dX0_cutAlong_34 : decode cX0_cutAlong 34 = .ok (.ireturn, 1) := by decide +kernel
theorem dX0_cutAlong_35 : decode cX0_cutAlong 35 = .ok (.aload_n 0, 1) := by decide +kernel
theorem dX0_cutAlong_36 : decode cX0_cutAlong 36 = .ok (.dup, 1) := by decide +kernel
theorem dX0_cutAlong_37 : decode cX0_cutAlong 37 = .ok (.getfield 47, 3) := by decide +kernel
theorem dX0_cutAlong_40 : decode cX0_cutAlong 40 = .ok (.iconst 1, 1) := by decide +kernel
theorem dX0_cutAlong_41 : decode cX0_cutAlong 41 = .ok (.iload_n 1, 1) := by decide +kernel
theorem dX0_cutAlong_42 : decode cX0_cutAlong 42 = .ok (.ishl, 1) := by decide +kernel
theorem dX0_cutAlong_43 : decode cX0_cutAlong 43 = .ok (.ior, 1) := by decide +kernel
theorem dX0_cutAlong_44 : decode cX0_cutAlong 44 = .ok (.putfield 47, 3) := by decide +kernel
theorem dX0_cutAlong_47 : decode cX0_cutAlong 47 = .ok (.aload_n 0, 1) := by decide +kernel
theorem dX0_cutAlong_48 : decode cX0_cutAlong 48 = .ok (.getfield 39, 3) := by decide +kernel
theorem dX0_cutAlong_51 : decode cX0_cutAlong 51 = .ok (.iconst 2, 1) := by decide +kernel
theorem dX0_cutAlong_52 : decode cX0_cutAlong 52 = .ok (.dup2, 1) := by decide +kernel
theorem dX0_cutAlong_53 : decode cX0_cutAlong 53 = .ok (.iaload, 1) := by decide +kernel
theorem dX0_cutAlong_54 : decode cX0_cutAlong 54 = .ok (.aload_n 0, 1) := by decide +kernel
theorem dX0_cutAlong_55 : decode cX0_cutAlong 55 = .ok (.getfield 21, 3) := by decide +kernel
theorem dX0_cutAlong_58 : decode cX0_cutAlong 58 = .ok (.invokevirtual 107, 3) := by decide +kernel
theorem dX0_cutAlong_61 : decode cX0_cutAlong 61 = .ok (.iadd, 1) := by decide +kernel
theorem dX0_cutAlong_62 : decode cX0_cutAlong 62 = .ok (.iastore, 1) := by decide +kernel
theorem dX0_cutAlong_63 : decode cX0_cutAlong 63 = .ok (.aload_n 0, 1) := by decide +kernel
theorem dX0_cutAlong_64 : decode cX0_cutAlong 64 = .ok (.getfield 21, 3) := by decide +kernel
theorem dX0_cutAlong_67 : decode cX0_cutAlong 67 = .ok (.iload_n 1, 1) := by decide +kernel
theorem dX0_cutAlong_68 : decode cX0_cutAlong 68 = .ok (.invokevirtual 164, 3) := by decide +kernel
theorem dX0_cutAlong_71 : decode cX0_cutAlong 71 = .ok (.ireturn, 1) := by decide +kernel
theorem dX0_setStaple_0 : decode cX0_setStaple 0 = .ok (.iload_n 1, 1) := by decide +kernel
theorem dX0_setStaple_1 : decode cX0_setStaple 1 = .ok (.iconst 0, 1) := by decide +kernel
theorem dX0_setStaple_2 : decode cX0_setStaple 2 = .ok (.bipush 9, 2) := by decide +kernel
theorem dX0_setStaple_4 : decode cX0_setStaple 4 = .ok (.invokestatic 92, 3) := by decide +kernel
theorem dX0_setStaple_7 : decode cX0_setStaple 7 = .ok (.ifCond .ne 5, 3) := by decide +kernel
theorem dX0_setStaple_10 : decode cX0_setStaple 10 = .ok (.iconst (-1), 1) := by decide +kernel
theorem dX0_setStaple_11 : decode cX0_setStaple 11 = .ok (.ireturn, 1) := by decide +kernel
theorem dX0_setStaple_12 : decode cX0_setStaple 12 = .ok (.aload_n 0, 1) := by decide +kernel
theorem dX0_setStaple_13 : decode cX0_setStaple 13 = .ok (.getfield 21, 3) := by decide +kernel
theorem dX0_setStaple_16 : decode cX0_setStaple 16 = .ok (.invokevirtual 157, 3) := by decide +kernel
theorem dX0_setStaple_19 : decode cX0_setStaple 19 = .ok (.ifCond .eq 14, 3) := by decide +kernel
theorem dX0_setStaple_22 : decode cX0_setStaple 22 = .ok (.iload_n 1, 1) := by decide +kernel
theorem dX0_setStaple_23 : decode cX0_setStaple 23 = .ok (.aload_n 0, 1) := by decide +kernel
theorem dX0_setStaple_24 : decode cX0_setStaple 24 = .ok (.getfield 50, 3) := by decide +kernel
theorem dX0_setStaple_27 : decode cX0_setStaple 27 = .ok (.invokestatic 160, 3) := by decide +kernel
theorem dX0_setStaple_30 : decode cX0_setStaple 30 = .ok (.ifCond .eq 6, 3) := by decide +kernel
theorem dX0_setStaple_33 : decode cX0_setStaple 33 = .ok (.bipush (-2), 2) := by decide +kernel
theorem dX0_setStaple_35 : decode cX0_setStaple 35 = .ok (.ireturn, 1) := by decide +kernel
theorem dX0_setStaple_36 : decode cX0_setStaple 36 = .ok (.aload_n 0, 1) := by decide +kernel
theorem dX0_setStaple_37 : decode cX0_setStaple 37 = .ok (.getfield 50, 3) := by decide +kernel
theorem dX0_setStaple_40 : decode cX0_setStaple 40 = .ok (.invokestatic 167, 3) := by decide +kernel
theorem dX0_setStaple_43 : decode cX0_setStaple 43 = .ok (.iconst 3, 1) := by decide +kernel
theorem dX0_setStaple_44 : decode cX0_setStaple 44 = .ok (.if_icmp .lt 6, 3) := by decide +kernel
theorem dX0_setStaple_47 : decode cX0_setStaple 47 = .ok (.bipush (-3), 2) := by decide +kernel
theorem dX0_setStaple_49 : decode cX0_setStaple 49 = .ok (.ireturn, 1) := by decide +kernel
theorem dX0_setStaple_50 : decode cX0_setStaple 50 = .ok (.aload_n 0, 1) := by decide +kernel
theorem dX0_setStaple_51 : decode cX0_setStaple 51 = .ok (.dup, 1) := by decide +kernel
theorem dX0_setStaple_52 : decode cX0_setStaple 52 = .ok (.getfield 50, 3) := by decide +kernel
theorem dX0_setStaple_55 : decode cX0_setStaple 55 = .ok (.iconst 1, 1) := by decide +kernel
theorem dX0_setStaple_56 : decode cX0_setStaple 56 = .ok (.iload_n 1, 1) := by decide +kernel
theorem dX0_setStaple_57 : decode cX0_setStaple 57 = .ok (.ishl, 1) := by decide +kernel
theorem dX0_setStaple_58 : decode cX0_setStaple 58 = .ok (.ior, 1) := by decide +kernel
theorem dX0_setStaple_59 : decode cX0_setStaple 59 = .ok (.putfield 50, 3) := by decide +kernel
theorem dX0_setStaple_62 : decode cX0_setStaple 62 = .ok (.aload_n 0, 1) := by decide +kernel
theorem dX0_setStaple_63 : decode cX0_setStaple 63 = .ok (.getfield 39, 3) := by decide +kernel
theorem dX0_setStaple_66 : decode cX0_setStaple 66 = .ok (.iconst 3, 1) := by decide +kernel
theorem dX0_setStaple_67 : decode cX0_setStaple 67 = .ok (.dup2, 1) := by decide +kernel
theorem dX0_setStaple_68 : decode cX0_setStaple 68 = .ok (.iaload, 1) := by decide +kernel
theorem dX0_setStaple_69 : decode cX0_setStaple 69 = .ok (.iconst 3, 1) := by decide +kernel
theorem dX0_setStaple_70 : decode cX0_setStaple 70 = .ok (.iadd, 1) := by decide +kernel
theorem dX0_setStaple_71 : decode cX0_setStaple 71 = .ok (.iastore, 1) := by decide +kernel
theorem dX0_setStaple_72 : decode cX0_setStaple 72 = .ok (.aload_n 0, 1) := by decide +kernel
theorem dX0_setStaple_73 : decode cX0_setStaple 73 = .ok (.getfield 53, 3) := by decide +kernel
theorem dX0_setStaple_76 : decode cX0_setStaple 76 = .ok (.aload_n 0, 1) := by decide +kernel
theorem dX0_setStaple_77 : decode cX0_setStaple 77 = .ok (.getfield 21, 3) := by decide +kernel
theorem dX0_setStaple_80 : decode cX0_setStaple 80 = .ok (.invokevirtual 107, 3) := by decide +kernel
theorem dX0_setStaple_83 : decode cX0_setStaple 83 = .ok (.invokestatic 172, 3) := by decide +kernel
theorem dX0_setStaple_86 : decode cX0_setStaple 86 = .ok (.ireturn, 1) := by decide +kernel
theorem dX0_drawStaple_0 : decode cX0_drawStaple 0 = .ok (.iload_n 1, 1) := by decide +kernel
theorem dX0_drawStaple_1 : decode cX0_drawStaple 1 = .ok (.iconst 0, 1) := by decide +kernel
theorem dX0_drawStaple_2 : decode cX0_drawStaple 2 = .ok (.bipush 9, 2) := by decide +kernel
theorem dX0_drawStaple_4 : decode cX0_drawStaple 4 = .ok (.invokestatic 92, 3) := by decide +kernel
theorem dX0_drawStaple_7 : decode cX0_drawStaple 7 = .ok (.ifCond .ne 5, 3) := by decide +kernel
theorem dX0_drawStaple_10 : decode cX0_drawStaple 10 = .ok (.iconst (-1), 1) := by decide +kernel
theorem dX0_drawStaple_11 : decode cX0_drawStaple 11 = .ok (.ireturn, 1) := by decide +kernel
theorem dX0_drawStaple_12 : decode cX0_drawStaple 12 = .ok (.iload_n 1, 1) := by decide +kernel
theorem dX0_drawStaple_13 : decode cX0_drawStaple 13 = .ok (.aload_n 0, 1) := by decide +kernel
theorem dX0_drawStaple_14 : decode cX0_drawStaple 14 = .ok (.getfield 50, 3) := by decide +kernel
theorem dX0_drawStaple_17 : decode cX0_drawStaple 17 = .ok (.invokestatic 160, 3) := by decide +kernel
theorem dX0_drawStaple_20 : decode cX0_drawStaple 20 = .ok (.ifCond .ne 6, 3) := by decide +kernel
theorem dX0_drawStaple_23 : decode cX0_drawStaple 23 = .ok (.bipush (-2), 2) := by decide +kernel
theorem dX0_drawStaple_25 : decode cX0_drawStaple 25 = .ok (.ireturn, 1) := by decide +kernel
theorem dX0_drawStaple_26 : decode cX0_drawStaple 26 = .ok (.aload_n 0, 1) := by decide +kernel
theorem dX0_drawStaple_27 : decode cX0_drawStaple 27 = .ok (.dup, 1) := by decide +kernel
theorem dX0_drawStaple_28 : decode cX0_drawStaple 28 = .ok (.getfield 50, 3) := by decide +kernel
theorem dX0_drawStaple_31 : decode cX0_drawStaple 31 = .ok (.iconst 1, 1) := by decide +kernel
theorem dX0_drawStaple_32 : decode cX0_drawStaple 32 = .ok (.iload_n 1, 1) := by decide +kernel
theorem dX0_drawStaple_33 : decode cX0_drawStaple 33 = .ok (.ishl, 1) := by decide +kernel
theorem dX0_drawStaple_34 : decode cX0_drawStaple 34 = .ok (.iconst (-1), 1) := by decide +kernel
theorem dX0_drawStaple_35 : decode cX0_drawStaple 35 = .ok (.ixor, 1) := by decide +kernel
theorem dX0_drawStaple_36 : decode cX0_drawStaple 36 = .ok (.iand, 1) := by decide +kernel
theorem dX0_drawStaple_37 : decode cX0_drawStaple 37 = .ok (.putfield 50, 3) := by decide +kernel
theorem dX0_drawStaple_40 : decode cX0_drawStaple 40 = .ok (.aload_n 0, 1) := by decide +kernel
theorem dX0_drawStaple_41 : decode cX0_drawStaple 41 = .ok (.getfield 39, 3) := by decide +kernel
theorem dX0_drawStaple_44 : decode cX0_drawStaple 44 = .ok (.iconst 3, 1) := by decide +kernel
theorem dX0_drawStaple_45 : decode cX0_drawStaple 45 = .ok (.dup2, 1) := by decide +kernel
theorem dX0_drawStaple_46 : decode cX0_drawStaple 46 = .ok (.iaload, 1) := by decide +kernel
theorem dX0_drawStaple_47 : decode cX0_drawStaple 47 = .ok (.iconst 1, 1) := by decide +kernel
theorem dX0_drawStaple_48 : decode cX0_drawStaple 48 = .ok (.iadd, 1) := by decide +kernel
theorem dX0_drawStaple_49 : decode cX0_drawStaple 49 = .ok (.iastore, 1) := by decide +kernel
theorem dX0_drawStaple_50 : decode cX0_drawStaple 50 = .ok (.aload_n 0, 1) := by decide +kernel
theorem dX0_drawStaple_51 : decode cX0_drawStaple 51 = .ok (.getfield 50, 3) := by decide +kernel
theorem dX0_drawStaple_54 : decode cX0_drawStaple 54 = .ok (.invokestatic 167, 3) := by decide +kernel
theorem dX0_drawStaple_57 : decode cX0_drawStaple 57 = .ok (.ireturn, 1) := by decide +kernel
theorem dX0_changeLegs_0 : decode cX0_changeLegs 0 = .ok (.iload_n 1, 1) := by decide +kernel
theorem dX0_changeLegs_1 : decode cX0_changeLegs 1 = .ok (.iconst 1, 1) := by decide +kernel
theorem dX0_changeLegs_2 : decode cX0_changeLegs 2 = .ok (.bipush 16, 2) := by decide +kernel
theorem dX0_changeLegs_4 : decode cX0_changeLegs 4 = .ok (.invokestatic 92, 3) := by decide +kernel
theorem dX0_changeLegs_7 : decode cX0_changeLegs 7 = .ok (.ifCond .ne 5, 3) := by decide +kernel
theorem dX0_changeLegs_10 : decode cX0_changeLegs 10 = .ok (.iconst (-1), 1) := by decide +kernel
theorem dX0_changeLegs_11 : decode cX0_changeLegs 11 = .ok (.ireturn, 1) := by decide +kernel
theorem dX0_changeLegs_12 : decode cX0_changeLegs 12 = .ok (.aload_n 0, 1) := by decide +kernel
theorem dX0_changeLegs_13 : decode cX0_changeLegs 13 = .ok (.getfield 53, 3) := by decide +kernel
theorem dX0_changeLegs_16 : decode cX0_changeLegs 16 = .ok (.istore_n 2, 1) := by decide +kernel
theorem dX0_changeLegs_17 : decode cX0_changeLegs 17 = .ok (.aload_n 0, 1) := by decide +kernel
theorem dX0_changeLegs_18 : decode cX0_changeLegs 18 = .ok (.iload_n 1, 1) := by decide +kernel
theorem dX0_changeLegs_19 : decode cX0_changeLegs 19 = .ok (.putfield 53, 3) := by decide +kernel
theorem dX0_changeLegs_22 : decode cX0_changeLegs 22 = .ok (.iload_n 2, 1) := by decide +kernel
theorem dX0_changeLegs_23 : decode cX0_changeLegs 23 = .ok (.ireturn, 1) := by decide +kernel
theorem dX0_keepSight_0 : decode cX0_keepSight 0 = .ok (.iload_n 1, 1) := by decide +kernel
theorem dX0_keepSight_1 : decode cX0_keepSight 1 = .ok (.iconst 0, 1) := by decide +kernel
theorem dX0_keepSight_2 : decode cX0_keepSight 2 = .ok (.aload_n 0, 1) := by decide +kernel
theorem dX0_keepSight_3 : decode cX0_keepSight 3 = .ok (.getfield 12, 3) := by decide +kernel
theorem dX0_keepSight_6 : decode cX0_keepSight 6 = .ok (.invokevirtual 177, 3) := by decide +kernel
theorem dX0_keepSight_9 : decode cX0_keepSight 9 = .ok (.iconst 2, 1) := by decide +kernel
theorem dX0_keepSight_10 : decode cX0_keepSight 10 = .ok (.imul, 1) := by decide +kernel
theorem dX0_keepSight_11 : decode cX0_keepSight 11 = .ok (.iconst 1, 1) := by decide +kernel
theorem dX0_keepSight_12 : decode cX0_keepSight 12 = .ok (.isub, 1) := by decide +kernel
theorem dX0_keepSight_13 : decode cX0_keepSight 13 = .ok (.invokestatic 92, 3) := by decide +kernel
theorem dX0_keepSight_16 : decode cX0_keepSight 16 = .ok (.ifCond .eq 22, 3) := by decide +kernel
theorem dX0_keepSight_19 : decode cX0_keepSight 19 = .ok (.iload_n 2, 1) := by decide +kernel
theorem dX0_keepSight_20 : decode cX0_keepSight 20 = .ok (.iconst 0, 1) := by decide +kernel
theorem dX0_keepSight_21 : decode cX0_keepSight 21 = .ok (.bipush 31, 2) := by decide +kernel
theorem dX0_keepSight_23 : decode cX0_keepSight 23 = .ok (.invokestatic 92, 3) := by decide +kernel
theorem dX0_keepSight_26 : decode cX0_keepSight 26 = .ok (.ifCond .eq 12, 3) := by decide +kernel
theorem dX0_keepSight_29 : decode cX0_keepSight 29 = .ok (.iload_n 3, 1) := by decide +kernel
theorem dX0_keepSight_30 : decode cX0_keepSight 30 = .ok (.iconst 0, 1) := by decide +kernel
theorem dX0_keepSight_31 : decode cX0_keepSight 31 = .ok (.iconst 1, 1) := by decide +kernel
theorem dX0_keepSight_32 : decode cX0_keepSight 32 = .ok (.invokestatic 92, 3) := by decide +kernel
theorem dX0_keepSight_35 : decode cX0_keepSight 35 = .ok (.ifCond .ne 5, 3) := by decide +kernel
theorem dX0_keepSight_38 : decode cX0_keepSight 38 = .ok (.iconst (-1), 1) := by decide +kernel
theorem dX0_keepSight_39 : decode cX0_keepSight 39 = .ok (.ireturn, 1) := by decide +kernel
theorem dX0_keepSight_40 : decode cX0_keepSight 40 = .ok (.aload_n 0, 1) := by decide +kernel
theorem dX0_keepSight_41 : decode cX0_keepSight 41 = .ok (.getfield 28, 3) := by decide +kernel
theorem dX0_keepSight_44 : decode cX0_keepSight 44 = .ok (.iload_n 1, 1) := by decide +kernel
theorem dX0_keepSight_45 : decode cX0_keepSight 45 = .ok (.iload_n 2, 1) := by decide +kernel
theorem dX0_keepSight_46 : decode cX0_keepSight 46 = .ok (.iload_n 3, 1) := by decide +kernel
theorem dX0_keepSight_47 : decode cX0_keepSight 47 = .ok (.invokevirtual 180, 3) := by decide +kernel
theorem dX0_keepSight_50 : decode cX0_keepSight 50 = .ok (.ireturn, 1) := by decide +kernel
theorem dX0_numberOn_0 : decode cX0_numberOn 0 = .ok (.aload_n 0, 1) := by decide +kernel
theorem dX0_numberOn_1 : decode cX0_numberOn 1 = .ok (.getfield 12, 3) := by decide +kernel
theorem dX0_numberOn_4 : decode cX0_numberOn 4 = .ok (.aload_n 1, 1) := by decide +kernel
theorem dX0_numberOn_5 : decode cX0_numberOn 5 = .ok (.iload_n 2, 1) := by decide +kernel
theorem dX0_numberOn_6 : decode cX0_numberOn 6 = .ok (.invokevirtual 150, 3) := by decide +kernel
theorem dX0_numberOn_9 : decode cX0_numberOn 9 = .ok (.invokevirtual 139, 3) := by decide +kernel
theorem dX0_numberOn_12 : decode cX0_numberOn 12 = .ok (.ireturn, 1) := by decide +kernel
theorem dX0_turnForUpright_0 : decode cX0_turnForUpright 0 = .ok (.aload_n 0, 1) := by decide +kernel
theorem dX0_turnForUpright_1 : decode cX0_turnForUpright 1 = .ok (.getfield 43, 3) := by decide +kernel
theorem dX0_turnForUpright_4 : decode cX0_turnForUpright 4 = .ok (.iconst 1, 1) := by decide +kernel
theorem dX0_turnForUpright_5 : decode cX0_turnForUpright 5 = .ok (.if_icmp .ne 9, 3) := by decide +kernel
theorem dX0_turnForUpright_8 : decode cX0_turnForUpright 8 = .ok (.iload_n 2, 1) := by decide +kernel
theorem dX0_turnForUpright_9 : decode cX0_turnForUpright 9 = .ok (.iconst 1, 1) := by decide +kernel
theorem dX0_turnForUpright_10 : decode cX0_turnForUpright 10 = .ok (.iand, 1) := by decide +kernel
theorem dX0_turnForUpright_11 : decode cX0_turnForUpright 11 = .ok (.goto 4, 3) := by decide +kernel
theorem dX0_turnForUpright_14 : decode cX0_turnForUpright 14 = .ok (.iconst 0, 1) := by decide +kernel
theorem dX0_turnForUpright_15 : decode cX0_turnForUpright 15 = .ok (.istore_n 3, 1) := by decide +kernel
theorem dX0_turnForUpright_16 : decode cX0_turnForUpright 16 = .ok (.aload_n 1, 1) := by decide +kernel
theorem dX0_turnForUpright_17 : decode cX0_turnForUpright 17 = .ok (.iload_n 2, 1) := by decide +kernel
theorem dX0_turnForUpright_18 : decode cX0_turnForUpright 18 = .ok (.iconst 2, 1) := by decide +kernel
theorem dX0_turnForUpright_19 : decode cX0_turnForUpright 19 = .ok (.idiv, 1) := by decide +kernel
theorem dX0_turnForUpright_20 : decode cX0_turnForUpright 20 = .ok (.invokevirtual 183, 3) := by decide +kernel
theorem dX0_turnForUpright_23 : decode cX0_turnForUpright 23 = .ok (.invokestatic 186, 3) := by decide +kernel
theorem dX0_turnForUpright_26 : decode cX0_turnForUpright 26 = .ok (.iload_n 3, 1) := by decide +kernel
theorem dX0_turnForUpright_27 : decode cX0_turnForUpright 27 = .ok (.ixor, 1) := by decide +kernel
theorem dX0_turnForUpright_28 : decode cX0_turnForUpright 28 = .ok (.ireturn, 1) := by decide +kernel
theorem dX0_isUpright_0 : decode cX0_isUpright 0 = .ok (.aload_n 0, 1) := by decide +kernel
theorem dX0_isUpright_1 : decode cX0_isUpright 1 = .ok (.getfield 12, 3) := by decide +kernel
theorem dX0_isUpright_4 : decode cX0_isUpright 4 = .ok (.aload_n 1, 1) := by decide +kernel
theorem dX0_isUpright_5 : decode cX0_isUpright 5 = .ok (.iload_n 2, 1) := by decide +kernel
theorem dX0_isUpright_6 : decode cX0_isUpright 6 = .ok (.invokevirtual 150, 3) := by decide +kernel
theorem dX0_isUpright_9 : decode cX0_isUpright 9 = .ok (.invokevirtual 190, 3) := by decide +kernel
theorem dX0_isUpright_12 : decode cX0_isUpright 12 = .ok (.aload_n 0, 1) := by decide +kernel
theorem dX0_isUpright_13 : decode cX0_isUpright 13 = .ok (.aload_n 1, 1) := by decide +kernel
theorem dX0_isUpright_14 : decode cX0_isUpright 14 = .ok (.iload_n 2, 1) := by decide +kernel
theorem dX0_isUpright_15 : decode cX0_isUpright 15 = .ok (.invokevirtual 153, 3) := by decide +kernel
theorem dX0_isUpright_18 : decode cX0_isUpright 18 = .ok (.if_icmp .ne 7, 3) := by decide +kernel
theorem dX0_isUpright_21 : decode cX0_isUpright 21 = .ok (.iconst 1, 1) := by decide +kernel
theorem dX0_isUpright_22 : decode cX0_isUpright 22 = .ok (.goto 4, 3) := by decide +kernel
theorem dX0_isUpright_25 : decode cX0_isUpright 25 = .ok (.iconst 0, 1) := by decide +kernel
theorem dX0_isUpright_26 : decode cX0_isUpright 26 = .ok (.ireturn, 1) := by decide +kernel
theorem dX0_shutEdges_0 : decode cX0_shutEdges 0 = .ok (.iconst 0, 1) := by decide +kernel
theorem dX0_shutEdges_1 : decode cX0_shutEdges 1 = .ok (.istore_n 2, 1) := by decide +kernel
theorem dX0_shutEdges_2 : decode cX0_shutEdges 2 = .ok (.iconst 0, 1) := by decide +kernel
theorem dX0_shutEdges_3 : decode cX0_shutEdges 3 = .ok (.istore_n 3, 1) := by decide +kernel
theorem dX0_shutEdges_4 : decode cX0_shutEdges 4 = .ok (.iload_n 3, 1) := by decide +kernel
theorem dX0_shutEdges_5 : decode cX0_shutEdges 5 = .ok (.iload_n 1, 1) := by decide +kernel
theorem dX0_shutEdges_6 : decode cX0_shutEdges 6 = .ok (.if_icmp .ge 54, 3) := by decide +kernel
theorem dX0_shutEdges_9 : decode cX0_shutEdges 9 = .ok (.iload_n 3, 1) := by decide +kernel
theorem dX0_shutEdges_10 : decode cX0_shutEdges 10 = .ok (.aload_n 0, 1) := by decide +kernel
theorem dX0_shutEdges_11 : decode cX0_shutEdges 11 = .ok (.getfield 21, 3) := by decide +kernel
theorem dX0_shutEdges_14 : decode cX0_shutEdges 14 = .ok (.invokevirtual 107, 3) := by decide +kernel
theorem dX0_shutEdges_17 : decode cX0_shutEdges 17 = .ok (.if_icmp .ge 43, 3) := by decide +kernel
theorem dX0_shutEdges_20 : decode cX0_shutEdges 20 = .ok (.iload_n 1, 1) := by decide +kernel
theorem dX0_shutEdges_21 : decode cX0_shutEdges 21 = .ok (.istore 4, 2) := by decide +kernel
theorem dX0_shutEdges_23 : decode cX0_shutEdges 23 = .ok (.iload 4, 2) := by decide +kernel
theorem dX0_shutEdges_25 : decode cX0_shutEdges 25 = .ok (.aload_n 0, 1) := by decide +kernel
theorem dX0_shutEdges_26 : decode cX0_shutEdges 26 = .ok (.getfield 21, 3) := by decide +kernel
theorem dX0_shutEdges_29 : decode cX0_shutEdges 29 = .ok (.invokevirtual 107, 3) := by decide +kernel
theorem dX0_shutEdges_32 : decode cX0_shutEdges 32 = .ok (.if_icmp .ge 22, 3) := by decide +kernel
theorem dX0_shutEdges_35 : decode cX0_shutEdges 35 = .ok (.iload_n 2, 1) := by decide +kernel
theorem dX0_shutEdges_36 : decode cX0_shutEdges 36 = .ok (.aload_n 0, 1) := by decide +kernel
theorem dX0_shutEdges_37 : decode cX0_shutEdges 37 = .ok (.getfield 21, 3) := by decide +kernel
theorem dX0_shutEdges_40 : decode cX0_shutEdges 40 = .ok (.iload_n 3, 1) := by decide +kernel
theorem dX0_shutEdges_41 : decode cX0_shutEdges 41 = .ok (.iload 4, 2) := by decide +kernel
theorem dX0_shutEdges_43 : decode cX0_shutEdges 43 = .ok (.invokevirtual 193, 3) := by decide +kernel
theorem dX0_shutEdges_46 : decode cX0_shutEdges 46 = .ok (.ior, 1) := by decide +kernel
theorem dX0_shutEdges_47 : decode cX0_shutEdges 47 = .ok (.istore_n 2, 1) := by decide +kernel
theorem dX0_shutEdges_48 : decode cX0_shutEdges 48 = .ok (.iinc 4 1, 3) := by decide +kernel
theorem dX0_shutEdges_51 : decode cX0_shutEdges 51 = .ok (.goto (-28), 3) := by decide +kernel
theorem dX0_shutEdges_54 : decode cX0_shutEdges 54 = .ok (.iinc 3 1, 3) := by decide +kernel
theorem dX0_shutEdges_57 : decode cX0_shutEdges 57 = .ok (.goto (-53), 3) := by decide +kernel
theorem dX0_shutEdges_60 : decode cX0_shutEdges 60 = .ok (.iload_n 2, 1) := by decide +kernel
theorem dX0_shutEdges_61 : decode cX0_shutEdges 61 = .ok (.aload_n 0, 1) := by decide +kernel
theorem dX0_shutEdges_62 : decode cX0_shutEdges 62 = .ok (.getfield 47, 3) := by decide +kernel
theorem dX0_shutEdges_65 : decode cX0_shutEdges 65 = .ok (.iconst (-1), 1) := by decide +kernel
theorem dX0_shutEdges_66 : decode cX0_shutEdges 66 = .ok (.ixor, 1) := by decide +kernel
theorem dX0_shutEdges_67 : decode cX0_shutEdges 67 = .ok (.iand, 1) := by decide +kernel
theorem dX0_shutEdges_68 : decode cX0_shutEdges 68 = .ok (.iconst 1, 1) := by decide +kernel
theorem dX0_shutEdges_69 : decode cX0_shutEdges 69 = .ok (.aload_n 0, 1) := by decide +kernel
theorem dX0_shutEdges_70 : decode cX0_shutEdges 70 = .ok (.invokevirtual 196, 3) := by decide +kernel
theorem dX0_shutEdges_73 : decode cX0_shutEdges 73 = .ok (.ishl, 1) := by decide +kernel
theorem dX0_shutEdges_74 : decode cX0_shutEdges 74 = .ok (.iconst (-1), 1) := by decide +kernel
theorem dX0_shutEdges_75 : decode cX0_shutEdges 75 = .ok (.ixor, 1) := by decide +kernel
theorem dX0_shutEdges_76 : decode cX0_shutEdges 76 = .ok (.iand, 1) := by decide +kernel
theorem dX0_shutEdges_77 : decode cX0_shutEdges 77 = .ok (.ireturn, 1) := by decide +kernel
theorem dX0_spineEdge_0 : decode cX0_spineEdge 0 = .ok (.aload_n 0, 1) := by decide +kernel
theorem dX0_spineEdge_1 : decode cX0_spineEdge 1 = .ok (.getfield 43, 3) := by decide +kernel
theorem dX0_spineEdge_4 : decode cX0_spineEdge 4 = .ok (.iconst 1, 1) := by decide +kernel
theorem dX0_spineEdge_5 : decode cX0_spineEdge 5 = .ok (.if_icmp .ne 7, 3) := by decide +kernel
theorem dX0_spineEdge_8 : decode cX0_spineEdge 8 = .ok (.iconst 2, 1) := by decide +kernel
theorem dX0_spineEdge_9 : decode cX0_spineEdge 9 = .ok (.goto 4, 3) := by decide +kernel
theorem dX0_spineEdge_12 : decode cX0_spineEdge 12 = .ok (.iconst 0, 1) := by decide +kernel
theorem dX0_spineEdge_13 : decode cX0_spineEdge 13 = .ok (.ireturn, 1) := by decide +kernel
theorem dX0_linesAt_0 : decode cX0_linesAt 0 = .ok (.aload_n 0, 1) := by decide +kernel
theorem dX0_linesAt_1 : decode cX0_linesAt 1 = .ok (.iload_n 1, 1) := by decide +kernel
theorem dX0_linesAt_2 : decode cX0_linesAt 2 = .ok (.invokevirtual 199, 3) := by decide +kernel
theorem dX0_linesAt_5 : decode cX0_linesAt 5 = .ok (.ifCond .eq 5, 3) := by decide +kernel
theorem dX0_linesAt_8 : decode cX0_linesAt 8 = .ok (.iconst 0, 1) := by decide +kernel
theorem dX0_linesAt_9 : decode cX0_linesAt 9 = .ok (.ireturn, 1) := by decide +kernel
theorem dX0_linesAt_10 : decode cX0_linesAt 10 = .ok (.iload_n 1, 1) := by decide +kernel
theorem dX0_linesAt_11 : decode cX0_linesAt 11 = .ok (.ifCond .eq 14, 3) := by decide +kernel
theorem dX0_linesAt_14 : decode cX0_linesAt 14 = .ok (.iload_n 1, 1) := by decide +kernel
theorem dX0_linesAt_15 : decode cX0_linesAt 15 = .ok (.aload_n 0, 1) := by decide +kernel
theorem dX0_linesAt_16 : decode cX0_linesAt 16 = .ok (.getfield 21, 3) := by decide +kernel
theorem dX0_linesAt_19 : decode cX0_linesAt 19 = .ok (.invokevirtual 107, 3) := by decide +kernel
theorem dX0_linesAt_22 : decode cX0_linesAt 22 = .ok (.if_icmp .ne 10, 3) := by decide +kernel
theorem dX0_linesAt_25 : decode cX0_linesAt 25 = .ok (.aload_n 0, 1) := by decide +kernel
theorem dX0_linesAt_26 : decode cX0_linesAt 26 = .ok (.getfield 56, 3) := by decide +kernel
theorem dX0_linesAt_29 : decode cX0_linesAt 29 = .ok (.goto 9, 3) := by decide +kernel
theorem dX0_linesAt_32 : decode cX0_linesAt 32 = .ok (.aload_n 0, 1) := by decide +kernel
theorem dX0_linesAt_33 : decode cX0_linesAt 33 = .ok (.getfield 56, 3) := by decide +kernel
theorem dX0_linesAt_36 : decode cX0_linesAt 36 = .ok (.iconst 2, 1) := by decide +kernel
theorem dX0_linesAt_37 : decode cX0_linesAt 37 = .ok (.imul, 1) := by decide +kernel
theorem dX0_linesAt_38 : decode cX0_linesAt 38 = .ok (.ireturn, 1) := by decide +kernel
theorem dX0_isHidden_0 : decode cX0_isHidden 0 = .ok (.aload_n 0, 1) := by decide +kernel
theorem dX0_isHidden_1 : decode cX0_isHidden 1 = .ok (.iload_n 1, 1) := by decide +kernel
theorem dX0_isHidden_2 : decode cX0_isHidden 2 = .ok (.iconst 1, 1) := by decide +kernel
theorem dX0_isHidden_3 : decode cX0_isHidden 3 = .ok (.iadd, 1) := by decide +kernel
theorem dX0_isHidden_4 : decode cX0_isHidden 4 = .ok (.iconst 2, 1) := by decide +kernel
theorem dX0_isHidden_5 : decode cX0_isHidden 5 = .ok (.idiv, 1) := by decide +kernel
theorem dX0_isHidden_6 : decode cX0_isHidden 6 = .ok (.invokevirtual 199, 3) := by decide +kernel
theorem dX0_isHidden_9 : decode cX0_isHidden 9 = .ok (.ifCond .eq 7, 3) := by decide +kernel
theorem dX0_isHidden_12 : decode cX0_isHidden 12 = .ok (.iconst 1, 1) := by decide +kernel
theorem dX0_isHidden_13 : decode cX0_isHidden 13 = .ok (.goto 4, 3) := by decide +kernel
theorem dX0_isHidden_16 : decode cX0_isHidden 16 = .ok (.iconst 0, 1) := by decide +kernel
theorem dX0_isHidden_17 : decode cX0_isHidden 17 = .ok (.ireturn, 1) := by decide +kernel
theorem dX0_whyNotRead_0 : decode cX0_whyNotRead 0 = .ok (.aload_n 0, 1) := by decide +kernel
theorem dX0_whyNotRead_1 : decode cX0_whyNotRead 1 = .ok (.iload_n 1, 1) := by decide +kernel
theorem dX0_whyNotRead_2 : decode cX0_whyNotRead 2 = .ok (.invokevirtual 202, 3) := by decide +kernel
theorem dX0_whyNotRead_5 : decode cX0_whyNotRead 5 = .ok (.ifCond .eq 5, 3) := by decide +kernel
theorem dX0_whyNotRead_8 : decode cX0_whyNotRead 8 = .ok (.iconst 1, 1) := by decide +kernel
theorem dX0_whyNotRead_9 : decode cX0_whyNotRead 9 = .ok (.ireturn, 1) := by decide +kernel
theorem dX0_whyNotRead_10 : decode cX0_whyNotRead 10 = .ok (.aload_n 0, 1) := by decide +kernel
theorem dX0_whyNotRead_11 : decode cX0_whyNotRead 11 = .ok (.aload_n 0, 1) := by decide +kernel
theorem dX0_whyNotRead_12 : decode cX0_whyNotRead 12 = .ok (.getfield 21, 3) := by decide +kernel
theorem dX0_whyNotRead_15 : decode cX0_whyNotRead 15 = .ok (.iload_n 1, 1) := by decide +kernel
theorem dX0_whyNotRead_16 : decode cX0_whyNotRead 16 = .ok (.invokevirtual 205, 3) := by decide +kernel
theorem dX0_whyNotRead_19 : decode cX0_whyNotRead 19 = .ok (.istore_n 2, 1) := by decide +kernel
theorem dX0_whyNotRead_20 : decode cX0_whyNotRead 20 = .ok (.iload_n 2, 1) := by decide +kernel
theorem dX0_whyNotRead_21 : decode cX0_whyNotRead 21 = .ok (.bipush (-9), 2) := by decide +kernel
theorem dX0_whyNotRead_23 : decode cX0_whyNotRead 23 = .ok (.if_icmp .ne 5, 3) := by decide +kernel
theorem dX0_whyNotRead_26 : decode cX0_whyNotRead 26 = .ok (.iconst 2, 1) := by decide +kernel
theorem dX0_whyNotRead_27 : decode cX0_whyNotRead 27 = .ok (.ireturn, 1) := by decide +kernel
theorem dX0_whyNotRead_28 : decode cX0_whyNotRead 28 = .ok (.iload_n 2, 1) := by decide +kernel
theorem dX0_whyNotRead_29 : decode cX0_whyNotRead 29 = .ok (.iload_n 1, 1) := by decide +kernel
theorem dX0_whyNotRead_30 : decode cX0_whyNotRead 30 = .ok (.if_icmp .eq 5, 3) := by decide +kernel
theorem dX0_whyNotRead_33 : decode cX0_whyNotRead 33 = .ok (.iconst 3, 1) := by decide +kernel
theorem dX0_whyNotRead_34 : decode cX0_whyNotRead 34 = .ok (.ireturn, 1) := by decide +kernel
theorem dX0_whyNotRead_35 : decode cX0_whyNotRead 35 = .ok (.aload_n 0, 1) := by decide +kernel
theorem dX0_whyNotRead_36 : decode cX0_whyNotRead 36 = .ok (.aload_n 0, 1) := by decide +kernel
theorem dX0_whyNotRead_37 : decode cX0_whyNotRead 37 = .ok (.getfield 21, 3) := by decide +kernel
theorem dX0_whyNotRead_40 : decode cX0_whyNotRead 40 = .ok (.iload_n 1, 1) := by decide +kernel
theorem dX0_whyNotRead_41 : decode cX0_whyNotRead 41 = .ok (.invokevirtual 208, 3) := by decide +kernel
theorem dX0_whyNotRead_44 : decode cX0_whyNotRead 44 = .ok (.ifCond .eq 7, 3) := by decide +kernel
theorem dX0_whyNotRead_47 : decode cX0_whyNotRead 47 = .ok (.iconst 0, 1) := by decide +kernel
theorem dX0_whyNotRead_48 : decode cX0_whyNotRead 48 = .ok (.goto 4, 3) := by decide +kernel
theorem dX0_whyNotRead_51 : decode cX0_whyNotRead 51 = .ok (.iconst 4, 1) := by decide +kernel
theorem dX0_whyNotRead_52 : decode cX0_whyNotRead 52 = .ok (.ireturn, 1) := by decide +kernel
theorem dX0_countPieces_0 : decode cX0_countPieces 0 = .ok (.iconst 0, 1) := by decide +kernel
theorem dX0_countPieces_1 : decode cX0_countPieces 1 = .ok (.istore_n 1, 1) := by decide +kernel
theorem dX0_countPieces_2 : decode cX0_countPieces 2 = .ok (.iconst 0, 1) := by decide +kernel
theorem dX0_countPieces_3 : decode cX0_countPieces 3 = .ok (.istore_n 2, 1) := by decide +kernel
theorem dX0_countPieces_4 : decode cX0_countPieces 4 = .ok (.iconst 0, 1) := by decide +kernel
theorem dX0_countPieces_5 : decode cX0_countPieces 5 = .ok (.istore_n 3, 1) := by decide +kernel
theorem dX0_countPieces_6 : decode cX0_countPieces 6 = .ok (.iload_n 3, 1) := by decide +kernel
theorem dX0_countPieces_7 : decode cX0_countPieces 7 = .ok (.aload_n 0, 1) := by decide +kernel
theorem dX0_countPieces_8 : decode cX0_countPieces 8 = .ok (.getfield 21, 3) := by decide +kernel
theorem dX0_countPieces_11 : decode cX0_countPieces 11 = .ok (.invokevirtual 107, 3) := by decide +kernel
theorem dX0_countPieces_14 : decode cX0_countPieces 14 = .ok (.if_icmp .ge 28, 3) := by decide +kernel
theorem dX0_countPieces_17 : decode cX0_countPieces 17 = .ok (.iload_n 3, 1) := by decide +kernel
theorem dX0_countPieces_18 : decode cX0_countPieces 18 = .ok (.iload_n 2, 1) := by decide +kernel
theorem dX0_countPieces_19 : decode cX0_countPieces 19 = .ok (.invokestatic 160, 3) := by decide +kernel
theorem dX0_countPieces_22 : decode cX0_countPieces 22 = .ok (.ifCond .ne 14, 3) := by decide +kernel
theorem dX0_countPieces_25 : decode cX0_countPieces 25 = .ok (.iload_n 2, 1) := by decide +kernel
theorem dX0_countPieces_26 : decode cX0_countPieces 26 = .ok (.aload_n 0, 1) := by decide +kernel
theorem dX0_countPieces_27 : decode cX0_countPieces 27 = .ok (.iload_n 3, 1) := by decide +kernel
theorem dX0_countPieces_28 : decode cX0_countPieces 28 = .ok (.invokevirtual 212, 3) := by decide +kernel
theorem dX0_countPieces_31 : decode cX0_countPieces 31 = .ok (.ior, 1) := by decide +kernel
theorem dX0_countPieces_32 : decode cX0_countPieces 32 = .ok (.istore_n 2, 1) := by decide +kernel
theorem dX0_countPieces_33 : decode cX0_countPieces 33 = .ok (.iinc 1 1, 3) := by decide +kernel
theorem dX0_countPieces_36 : decode cX0_countPieces 36 = .ok (.iinc 3 1, 3) := by decide +kernel
theorem dX0_countPieces_39 : decode cX0_countPieces 39 = .ok (.goto (-33), 3) := by decide +kernel
theorem dX0_countPieces_42 : decode cX0_countPieces 42 = .ok (.iload_n 1, 1) := by decide +kernel
theorem dX0_countPieces_43 : decode cX0_countPieces 43 = .ok (.ireturn, 1) := by decide +kernel
theorem dX0_pieceWith_0 : decode cX0_pieceWith 0 = .ok (.iconst 1, 1) := by decide +kernel
theorem dX0_pieceWith_1 : decode cX0_pieceWith 1 = .ok (.iload_n 1, 1) := by decide +kernel
theorem dX0_pieceWith_2 : decode cX0_pieceWith 2 = .ok (.ishl, 1) := by decide +kernel
theorem dX0_pieceWith_3 : decode cX0_pieceWith 3 = .ok (.istore_n 2, 1) := by decide +kernel
theorem dX0_pieceWith_4 : decode cX0_pieceWith 4 = .ok (.iconst 0, 1) := by decide +kernel
theorem dX0_pieceWith_5 : decode cX0_pieceWith 5 = .ok (.istore_n 3, 1) := by decide +kernel
theorem dX0_pieceWith_6 : decode cX0_pieceWith 6 = .ok (.iconst 0, 1) := by decide +kernel
theorem dX0_pieceWith_7 : decode cX0_pieceWith 7 = .ok (.istore 4, 2) := by decide +kernel
theorem dX0_pieceWith_9 : decode cX0_pieceWith 9 = .ok (.iload 4, 2) := by decide +kernel
theorem dX0_pieceWith_11 : decode cX0_pieceWith 11 = .ok (.bipush 16, 2) := by decide +kernel
theorem dX0_pieceWith_13 : decode cX0_pieceWith 13 = .ok (.if_icmp .gt 59, 3) := by decide +kernel
theorem dX0_pieceWith_16 : decode cX0_pieceWith 16 = .ok (.iload_n 2, 1) := by decide +kernel
theorem dX0_pieceWith_17 : decode cX0_pieceWith 17 = .ok (.iload_n 3, 1) := by decide +kernel
theorem dX0_pieceWith_18 : decode cX0_pieceWith 18 = .ok (.if_icmp .eq 54, 3) := by decide +kernel
theorem dX0_pieceWith_21 : decode cX0_pieceWith 21 = .ok (.iload_n 2, 1) := by decide +kernel
theorem dX0_pieceWith_22 : decode cX0_pieceWith 22 = .ok (.istore_n 3, 1) := by decide +kernel
theorem dX0_pieceWith_23 : decode cX0_pieceWith 23 = .ok (.iconst 0, 1) := by decide +kernel
theorem dX0_pieceWith_24 : decode cX0_pieceWith 24 = .ok (.istore 5, 2) := by decide +kernel
theorem dX0_pieceWith_26 : decode cX0_pieceWith 26 = .ok (.iload 5, 2) := by decide +kernel
theorem dX0_pieceWith_28 : decode cX0_pieceWith 28 = .ok (.aload_n 0, 1) := by decide +kernel
theorem dX0_pieceWith_29 : decode cX0_pieceWith 29 = .ok (.getfield 21, 3) := by decide +kernel
theorem dX0_pieceWith_32 : decode cX0_pieceWith 32 = .ok (.invokevirtual 107, 3) := by decide +kernel
theorem dX0_pieceWith_35 : decode cX0_pieceWith 35 = .ok (.if_icmp .ge 31, 3) := by decide +kernel
theorem dX0_pieceWith_38 : decode cX0_pieceWith 38 = .ok (.iload_n 2, 1) := by decide +kernel
theorem dX0_pieceWith_39 : decode cX0_pieceWith 39 = .ok (.iload 5, 2) := by decide +kernel
theorem dX0_pieceWith_41 : decode cX0_pieceWith 41 = .ok (.iload_n 2, 1) := by decide +kernel
theorem dX0_pieceWith_42 : decode cX0_pieceWith 42 = .ok (.invokestatic 160, 3) := by decide +kernel
theorem dX0_pieceWith_45 : decode cX0_pieceWith 45 = .ok (.ifCond .eq 12, 3) := by decide +kernel
theorem dX0_pieceWith_48 : decode cX0_pieceWith 48 = .ok (.aload_n 0, 1) := by decide +kernel
theorem dX0_pieceWith_49 : decode cX0_pieceWith 49 = .ok (.iload 5, 2) := by decide +kernel
theorem dX0_pieceWith_51 : decode cX0_pieceWith 51 = .ok (.invokevirtual 215, 3) := by decide +kernel
theorem dX0_pieceWith_54 : decode cX0_pieceWith 54 = .ok (.goto 4, 3) := by decide +kernel
theorem dX0_pieceWith_57 : decode cX0_pieceWith 57 = .ok (.iconst 0, 1) := by decide +kernel
theorem dX0_pieceWith_58 : decode cX0_pieceWith 58 = .ok (.ior, 1) := by decide +kernel
theorem dX0_pieceWith_59 : decode cX0_pieceWith 59 = .ok (.istore_n 2, 1) := by decide +kernel
theorem dX0_pieceWith_60 : decode cX0_pieceWith 60 = .ok (.iinc 5 1, 3) := by decide +kernel
theorem dX0_pieceWith_63 : decode cX0_pieceWith 63 = .ok (.goto (-37), 3) := by decide +kernel
theorem dX0_pieceWith_66 : decode cX0_pieceWith 66 = .ok (.iinc 4 1, 3) := by decide +kernel
theorem dX0_pieceWith_69 : decode cX0_pieceWith 69 = .ok (.goto (-60), 3) := by decide +kernel
theorem dX0_pieceWith_72 : decode cX0_pieceWith 72 = .ok (.iload_n 2, 1) := by decide +kernel
theorem dX0_pieceWith_73 : decode cX0_pieceWith 73 = .ok (.ireturn, 1) := by decide +kernel
theorem dX0_heldWith_0 : decode cX0_heldWith 0 = .ok (.iconst 0, 1) := by decide +kernel
theorem dX0_heldWith_1 : decode cX0_heldWith 1 = .ok (.istore_n 2, 1) := by decide +kernel
theorem dX0_heldWith_2 : decode cX0_heldWith 2 = .ok (.iconst 0, 1) := by decide +kernel
theorem dX0_heldWith_3 : decode cX0_heldWith 3 = .ok (.istore_n 3, 1) := by decide +kernel
theorem dX0_heldWith_4 : decode cX0_heldWith 4 = .ok (.iload_n 3, 1) := by decide +kernel
theorem dX0_heldWith_5 : decode cX0_heldWith 5 = .ok (.aload_n 0, 1) := by decide +kernel
theorem dX0_heldWith_6 : decode cX0_heldWith 6 = .ok (.getfield 21, 3) := by decide +kernel
theorem dX0_heldWith_9 : decode cX0_heldWith 9 = .ok (.invokevirtual 107, 3) := by decide +kernel
theorem dX0_heldWith_12 : decode cX0_heldWith 12 = .ok (.if_icmp .ge 69, 3) := by decide +kernel
theorem dX0_heldWith_15 : decode cX0_heldWith 15 = .ok (.aload_n 0, 1) := by decide +kernel
theorem dX0_heldWith_16 : decode cX0_heldWith 16 = .ok (.getfield 50, 3) := by decide +kernel
theorem dX0_heldWith_19 : decode cX0_heldWith 19 = .ok (.ifCond .eq 23, 3) := by decide +kernel
theorem dX0_heldWith_22 : decode cX0_heldWith 22 = .ok (.iload_n 1, 1) := by decide +kernel
theorem dX0_heldWith_23 : decode cX0_heldWith 23 = .ok (.aload_n 0, 1) := by decide +kernel
theorem dX0_heldWith_24 : decode cX0_heldWith 24 = .ok (.getfield 53, 3) := by decide +kernel
theorem dX0_heldWith_27 : decode cX0_heldWith 27 = .ok (.if_icmp .ge 15, 3) := by decide +kernel
theorem dX0_heldWith_30 : decode cX0_heldWith 30 = .ok (.iload_n 3, 1) := by decide +kernel
theorem dX0_heldWith_31 : decode cX0_heldWith 31 = .ok (.aload_n 0, 1) := by decide +kernel
theorem dX0_heldWith_32 : decode cX0_heldWith 32 = .ok (.getfield 53, 3) := by decide +kernel
theorem dX0_heldWith_35 : decode cX0_heldWith 35 = .ok (.if_icmp .ge 7, 3) := by decide +kernel
theorem dX0_heldWith_38 : decode cX0_heldWith 38 = .ok (.iconst 1, 1) := by decide +kernel
theorem dX0_heldWith_39 : decode cX0_heldWith 39 = .ok (.goto 4, 3) := by decide +kernel
theorem dX0_heldWith_42 : decode cX0_heldWith 42 = .ok (.iconst 0, 1) := by decide +kernel
theorem dX0_heldWith_43 : decode cX0_heldWith 43 = .ok (.istore 4, 2) := by decide +kernel
theorem dX0_heldWith_45 : decode cX0_heldWith 45 = .ok (.iload 4, 2) := by decide +kernel
theorem dX0_heldWith_47 : decode cX0_heldWith 47 = .ok (.ifCond .ne 22, 3) := by decide +kernel
theorem dX0_heldWith_50 : decode cX0_heldWith 50 = .ok (.aload_n 0, 1) := by decide +kernel
theorem dX0_heldWith_51 : decode cX0_heldWith 51 = .ok (.getfield 21, 3) := by decide +kernel
theorem dX0_heldWith_54 : decode cX0_heldWith 54 = .ok (.iload_n 1, 1) := by decide +kernel
theorem dX0_heldWith_55 : decode cX0_heldWith 55 = .ok (.iload_n 3, 1) := by decide +kernel
theorem dX0_heldWith_56 : decode cX0_heldWith 56 = .ok (.invokevirtual 193, 3) := by decide +kernel
theorem dX0_heldWith_59 : decode cX0_heldWith 59 = .ok (.aload_n 0, 1) := by decide +kernel
theorem dX0_heldWith_60 : decode cX0_heldWith 60 = .ok (.getfield 47, 3) := by decide +kernel
theorem dX0_heldWith_63 : decode cX0_heldWith 63 = .ok (.iconst (-1), 1) := by decide +kernel
theorem dX0_heldWith_64 : decode cX0_heldWith 64 = .ok (.ixor, 1) := by decide +kernel
theorem dX0_heldWith_65 : decode cX0_heldWith 65 = .ok (.iand, 1) := by decide +kernel
theorem dX0_heldWith_66 : decode cX0_heldWith 66 = .ok (.ifCond .eq 9, 3) := by decide +kernel
theorem dX0_heldWith_69 : decode cX0_heldWith 69 = .ok (.iload_n 2, 1) := by decide +kernel
theorem dX0_heldWith_70 : decode cX0_heldWith 70 = .ok (.iconst 1, 1) := by decide +kernel
theorem dX0_heldWith_71 : decode cX0_heldWith 71 = .ok (.iload_n 3, 1) := by decide +kernel
theorem dX0_heldWith_72 : decode cX0_heldWith 72 = .ok (.ishl, 1) := by decide +kernel
theorem dX0_heldWith_73 : decode cX0_heldWith 73 = .ok (.ior, 1) := by decide +kernel
theorem dX0_heldWith_74 : decode cX0_heldWith 74 = .ok (.istore_n 2, 1) := by decide +kernel
theorem dX0_heldWith_75 : decode cX0_heldWith 75 = .ok (.iinc 3 1, 3) := by decide +kernel
theorem dX0_heldWith_78 : decode cX0_heldWith 78 = .ok (.goto (-74), 3) := by decide +kernel
theorem dX0_heldWith_81 : decode cX0_heldWith 81 = .ok (.iload_n 2, 1) := by decide +kernel
theorem dX0_heldWith_82 : decode cX0_heldWith 82 = .ok (.ireturn, 1) := by decide +kernel
theorem dX0_showsAllSights_0 : decode cX0_showsAllSights 0 = .ok (.iconst 0, 1) := by decide +kernel
theorem dX0_showsAllSights_1 : decode cX0_showsAllSights 1 = .ok (.istore_n 2, 1) := by decide +kernel
theorem dX0_showsAllSights_2 : decode cX0_showsAllSights 2 = .ok (.iload_n 2, 1) := by decide +kernel
theorem dX0_showsAllSights_3 : decode cX0_showsAllSights 3 = .ok (.aload_n 0, 1) := by decide +kernel
theorem dX0_showsAllSights_4 : decode cX0_showsAllSights 4 = .ok (.getfield 28, 3) := by decide +kernel
theorem dX0_showsAllSights_7 : decode cX0_showsAllSights 7 = .ok (.getfield 218, 3) := by decide +kernel
theorem dX0_showsAllSights_10 : decode cX0_showsAllSights 10 = .ok (.if_icmp .ge 75, 3) := by decide +kernel
theorem dX0_showsAllSights_13 : decode cX0_showsAllSights 13 = .ok (.iload_n 2, 1) := by decide +kernel
theorem dX0_showsAllSights_14 : decode cX0_showsAllSights 14 = .ok (.bipush 8, 2) := by decide +kernel
theorem dX0_showsAllSights_16 : decode cX0_showsAllSights 16 = .ok (.if_icmp .ge 69, 3) := by decide +kernel
theorem dX0_showsAllSights_19 : decode cX0_showsAllSights 19 = .ok (.aload_n 0, 1) := by decide +kernel
theorem dX0_showsAllSights_20 : decode cX0_showsAllSights 20 = .ok (.getfield 28, 3) := by decide +kernel
theorem dX0_showsAllSights_23 : decode cX0_showsAllSights 23 = .ok (.getfield 221, 3) := by decide +kernel
theorem dX0_showsAllSights_26 : decode cX0_showsAllSights 26 = .ok (.iload_n 2, 1) := by decide +kernel
theorem dX0_showsAllSights_27 : decode cX0_showsAllSights 27 = .ok (.iaload, 1) := by decide +kernel
theorem dX0_showsAllSights_28 : decode cX0_showsAllSights 28 = .ok (.istore_n 3, 1) := by decide +kernel
theorem dX0_showsAllSights_29 : decode cX0_showsAllSights 29 = .ok (.aload_n 0, 1) := by decide +kernel
theorem dX0_showsAllSights_30 : decode cX0_showsAllSights 30 = .ok (.getfield 28, 3) := by decide +kernel
theorem dX0_showsAllSights_33 : decode cX0_showsAllSights 33 = .ok (.getfield 224, 3) := by decide +kernel
theorem dX0_showsAllSights_36 : decode cX0_showsAllSights 36 = .ok (.iload_n 2, 1) := by decide +kernel
theorem dX0_showsAllSights_37 : decode cX0_showsAllSights 37 = .ok (.iaload, 1) := by decide +kernel
theorem dX0_showsAllSights_38 : decode cX0_showsAllSights 38 = .ok (.ifCond .ne 7, 3) := by decide +kernel
theorem dX0_showsAllSights_41 : decode cX0_showsAllSights 41 = .ok (.iconst 1, 1) := by decide +kernel
theorem dX0_showsAllSights_42 : decode cX0_showsAllSights 42 = .ok (.goto 4, 3) := by decide +kernel
theorem dX0_showsAllSights_45 : decode cX0_showsAllSights 45 = .ok (.iconst 0, 1) := by decide +kernel
theorem dX0_showsAllSights_46 : decode cX0_showsAllSights 46 = .ok (.istore 4, 2) := by decide +kernel
theorem dX0_showsAllSights_48 : decode cX0_showsAllSights 48 = .ok (.aload_n 0, 1) := by decide +kernel
theorem dX0_showsAllSights_49 : decode cX0_showsAllSights 49 = .ok (.aload_n 1, 1) := by decide +kernel
theorem dX0_showsAllSights_50 : decode cX0_showsAllSights 50 = .ok (.iload_n 3, 1) := by decide +kernel
theorem dX0_showsAllSights_51 : decode cX0_showsAllSights 51 = .ok (.invokevirtual 205, 3) := by decide +kernel
theorem dX0_showsAllSights_54 : decode cX0_showsAllSights 54 = .ok (.aload_n 0, 1) := by decide +kernel
theorem dX0_showsAllSights_55 : decode cX0_showsAllSights 55 = .ok (.getfield 28, 3) := by decide +kernel
theorem dX0_showsAllSights_58 : decode cX0_showsAllSights 58 = .ok (.getfield 227, 3) := by decide +kernel
theorem dX0_showsAllSights_61 : decode cX0_showsAllSights 61 = .ok (.iload_n 2, 1) := by decide +kernel
theorem dX0_showsAllSights_62 : decode cX0_showsAllSights 62 = .ok (.iaload, 1) := by decide +kernel
theorem dX0_showsAllSights_63 : decode cX0_showsAllSights 63 = .ok (.if_icmp .ne 14, 3) := by decide +kernel
theorem dX0_showsAllSights_66 : decode cX0_showsAllSights 66 = .ok (.aload_n 0, 1) := by decide +kernel
theorem dX0_showsAllSights_67 : decode cX0_showsAllSights 67 = .ok (.aload_n 1, 1) := by decide +kernel
theorem dX0_showsAllSights_68 : decode cX0_showsAllSights 68 = .ok (.iload_n 3, 1) := by decide +kernel
theorem dX0_showsAllSights_69 : decode cX0_showsAllSights 69 = .ok (.invokevirtual 208, 3) := by decide +kernel
theorem dX0_showsAllSights_72 : decode cX0_showsAllSights 72 = .ok (.iload 4, 2) := by decide +kernel
theorem dX0_showsAllSights_74 : decode cX0_showsAllSights 74 = .ok (.if_icmp .eq 5, 3) := by decide +kernel
theorem dX0_showsAllSights_77 : decode cX0_showsAllSights 77 = .ok (.iconst 0, 1) := by decide +kernel
theorem dX0_showsAllSights_78 : decode cX0_showsAllSights 78 = .ok (.ireturn, 1) := by decide +kernel
theorem dX0_showsAllSights_79 : decode cX0_showsAllSights 79 = .ok (.iinc 2 1, 3) := by decide +kernel
theorem dX0_showsAllSights_82 : decode cX0_showsAllSights 82 = .ok (.goto (-80), 3) := by decide +kernel
theorem dX0_showsAllSights_85 : decode cX0_showsAllSights 85 = .ok (.iconst 1, 1) := by decide +kernel
theorem dX0_showsAllSights_86 : decode cX0_showsAllSights 86 = .ok (.ireturn, 1) := by decide +kernel
theorem dX0_pagesInOrder_0 : decode cX0_pagesInOrder 0 = .ok (.iconst 0, 1) := by decide +kernel
theorem dX0_pagesInOrder_1 : decode cX0_pagesInOrder 1 = .ok (.istore_n 2, 1) := by decide +kernel
theorem dX0_pagesInOrder_2 : decode cX0_pagesInOrder 2 = .ok (.iload_n 2, 1) := by decide +kernel
theorem dX0_pagesInOrder_3 : decode cX0_pagesInOrder 3 = .ok (.aload_n 1, 1) := by decide +kernel
theorem dX0_pagesInOrder_4 : decode cX0_pagesInOrder 4 = .ok (.invokevirtual 147, 3) := by decide +kernel
theorem dX0_pagesInOrder_7 : decode cX0_pagesInOrder 7 = .ok (.if_icmp .gt 30, 3) := by decide +kernel
theorem dX0_pagesInOrder_10 : decode cX0_pagesInOrder 10 = .ok (.aload_n 0, 1) := by decide +kernel
theorem dX0_pagesInOrder_11 : decode cX0_pagesInOrder 11 = .ok (.aload_n 1, 1) := by decide +kernel
theorem dX0_pagesInOrder_12 : decode cX0_pagesInOrder 12 = .ok (.iload_n 2, 1) := by decide +kernel
theorem dX0_pagesInOrder_13 : decode cX0_pagesInOrder 13 = .ok (.invokevirtual 205, 3) := by decide +kernel
theorem dX0_pagesInOrder_16 : decode cX0_pagesInOrder 16 = .ok (.iload_n 2, 1) := by decide +kernel
theorem dX0_pagesInOrder_17 : decode cX0_pagesInOrder 17 = .ok (.if_icmp .ne 12, 3) := by decide +kernel
theorem dX0_pagesInOrder_20 : decode cX0_pagesInOrder 20 = .ok (.aload_n 0, 1) := by decide +kernel
theorem dX0_pagesInOrder_21 : decode cX0_pagesInOrder 21 = .ok (.aload_n 1, 1) := by decide +kernel
theorem dX0_pagesInOrder_22 : decode cX0_pagesInOrder 22 = .ok (.iload_n 2, 1) := by decide +kernel
theorem dX0_pagesInOrder_23 : decode cX0_pagesInOrder 23 = .ok (.invokevirtual 208, 3) := by decide +kernel
theorem dX0_pagesInOrder_26 : decode cX0_pagesInOrder 26 = .ok (.ifCond .ne 5, 3) := by decide +kernel
theorem dX0_pagesInOrder_29 : decode cX0_pagesInOrder 29 = .ok (.iload_n 2, 1) := by decide +kernel
theorem dX0_pagesInOrder_30 : decode cX0_pagesInOrder 30 = .ok (.ireturn, 1) := by decide +kernel
theorem dX0_pagesInOrder_31 : decode cX0_pagesInOrder 31 = .ok (.iinc 2 1, 3) := by decide +kernel
theorem dX0_pagesInOrder_34 : decode cX0_pagesInOrder 34 = .ok (.goto (-32), 3) := by decide +kernel
theorem dX0_pagesInOrder_37 : decode cX0_pagesInOrder 37 = .ok (.aload_n 1, 1) := by decide +kernel
theorem dX0_pagesInOrder_38 : decode cX0_pagesInOrder 38 = .ok (.invokevirtual 147, 3) := by decide +kernel
theorem dX0_pagesInOrder_41 : decode cX0_pagesInOrder 41 = .ok (.iconst 1, 1) := by decide +kernel
theorem dX0_pagesInOrder_42 : decode cX0_pagesInOrder 42 = .ok (.iadd, 1) := by decide +kernel
theorem dX0_pagesInOrder_43 : decode cX0_pagesInOrder 43 = .ok (.ireturn, 1) := by decide +kernel
theorem dX0_edgesToCut_0 : decode cX0_edgesToCut 0 = .ok (.iconst 0, 1) := by decide +kernel
theorem dX0_edgesToCut_1 : decode cX0_edgesToCut 1 = .ok (.istore_n 2, 1) := by decide +kernel
theorem dX0_edgesToCut_2 : decode cX0_edgesToCut 2 = .ok (.iconst 0, 1) := by decide +kernel
theorem dX0_edgesToCut_3 : decode cX0_edgesToCut 3 = .ok (.istore_n 3, 1) := by decide +kernel
theorem dX0_edgesToCut_4 : decode cX0_edgesToCut 4 = .ok (.iload_n 3, 1) := by decide +kernel
theorem dX0_edgesToCut_5 : decode cX0_edgesToCut 5 = .ok (.iconst 4, 1) := by decide +kernel
theorem dX0_edgesToCut_6 : decode cX0_edgesToCut 6 = .ok (.if_icmp .ge 31, 3) := by decide +kernel
theorem dX0_edgesToCut_9 : decode cX0_edgesToCut 9 = .ok (.iload_n 3, 1) := by decide +kernel
theorem dX0_edgesToCut_10 : decode cX0_edgesToCut 10 = .ok (.aload_n 0, 1) := by decide +kernel
theorem dX0_edgesToCut_11 : decode cX0_edgesToCut 11 = .ok (.invokevirtual 196, 3) := by decide +kernel
theorem dX0_edgesToCut_14 : decode cX0_edgesToCut 14 = .ok (.if_icmp .eq 17, 3) := by decide +kernel
theorem dX0_edgesToCut_17 : decode cX0_edgesToCut 17 = .ok (.aload_n 1, 1) := by decide +kernel
theorem dX0_edgesToCut_18 : decode cX0_edgesToCut 18 = .ok (.iload_n 3, 1) := by decide +kernel
theorem dX0_edgesToCut_19 : decode cX0_edgesToCut 19 = .ok (.invokevirtual 164, 3) := by decide +kernel
theorem dX0_edgesToCut_22 : decode cX0_edgesToCut 22 = .ok (.ifCond .le 9, 3) := by decide +kernel
theorem dX0_edgesToCut_25 : decode cX0_edgesToCut 25 = .ok (.iload_n 2, 1) := by decide +kernel
theorem dX0_edgesToCut_26 : decode cX0_edgesToCut 26 = .ok (.iconst 1, 1) := by decide +kernel
theorem dX0_edgesToCut_27 : decode cX0_edgesToCut 27 = .ok (.iload_n 3, 1) := by decide +kernel
theorem dX0_edgesToCut_28 : decode cX0_edgesToCut 28 = .ok (.ishl, 1) := by decide +kernel
theorem dX0_edgesToCut_29 : decode cX0_edgesToCut 29 = .ok (.ior, 1) := by decide +kernel
theorem dX0_edgesToCut_30 : decode cX0_edgesToCut 30 = .ok (.istore_n 2, 1) := by decide +kernel
theorem dX0_edgesToCut_31 : decode cX0_edgesToCut 31 = .ok (.iinc 3 1, 3) := by decide +kernel
theorem dX0_edgesToCut_34 : decode cX0_edgesToCut 34 = .ok (.goto (-30), 3) := by decide +kernel
theorem dX0_edgesToCut_37 : decode cX0_edgesToCut 37 = .ok (.iload_n 2, 1) := by decide +kernel
theorem dX0_edgesToCut_38 : decode cX0_edgesToCut 38 = .ok (.ireturn, 1) := by decide +kernel
theorem dX1_init_0 : decode cX1_init 0 = .ok (.aload_n 0, 1) := by decide +kernel
theorem dX1_init_1 : decode cX1_init 1 = .ok (.invokespecial 3, 3) := by decide +kernel
theorem dX1_init_4 : decode cX1_init 4 = .ok (.aload_n 0, 1) := by decide +kernel
theorem dX1_init_5 : decode cX1_init 5 = .ok (.bipush 6, 2) := by decide +kernel
theorem dX1_init_7 : decode cX1_init 7 = .ok (.anewarray 9, 3) := by decide +kernel
theorem dX1_init_10 : decode cX1_init 10 = .ok (.dup, 1) := by decide +kernel
theorem dX1_init_11 : decode cX1_init 11 = .ok (.iconst 0, 1) := by decide +kernel
theorem dX1_init_12 : decode cX1_init 12 = .ok (.new 9, 3) := by decide +kernel
theorem dX1_init_15 : decode cX1_init 15 = .ok (.dup, 1) := by decide +kernel
theorem dX1_init_16 : decode cX1_init 16 = .ok (.invokespecial 11, 3) := by decide +kernel
theorem dX1_init_19 : decode cX1_init 19 = .ok (.aastore, 1) := by decide +kernel
theorem dX1_init_20 : decode cX1_init 20 = .ok (.dup, 1) := by decide +kernel
theorem dX1_init_21 : decode cX1_init 21 = .ok (.iconst 1, 1) := by decide +kernel
theorem dX1_init_22 : decode cX1_init 22 = .ok (.new 9, 3) := by decide +kernel
theorem dX1_init_25 : decode cX1_init 25 = .ok (.dup, 1) := by decide +kernel
theorem dX1_init_26 : decode cX1_init 26 = .ok (.invokespecial 11, 3) := by decide +kernel
theorem dX1_init_29 : decode cX1_init 29 = .ok (.aastore, 1) := by decide +kernel
theorem dX1_init_30 : decode cX1_init 30 = .ok (.dup, 1) := by decide +kernel
theorem dX1_init_31 : decode cX1_init 31 = .ok (.iconst 2, 1) := by decide +kernel
theorem dX1_init_32 : decode cX1_init 32 = .ok (.new 9, 3) := by decide +kernel
theorem dX1_init_35 : decode cX1_init 35 = .ok (.dup, 1) := by decide +kernel
theorem dX1_init_36 : decode cX1_init 36 = .ok (.invokespecial 11, 3) := by decide +kernel
theorem dX1_init_39 : decode cX1_init 39 = .ok (.aastore, 1) := by decide +kernel
theorem dX1_init_40 : decode cX1_init 40 = .ok (.dup, 1) := by decide +kernel
theorem dX1_init_41 : decode cX1_init 41 = .ok (.iconst 3, 1) := by decide +kernel
theorem dX1_init_42 : decode cX1_init 42 = .ok (.new 9, 3) := by decide +kernel
theorem dX1_init_45 : decode cX1_init 45 = .ok (.dup, 1) := by decide +kernel
theorem dX1_init_46 : decode cX1_init 46 = .ok (.invokespecial 11, 3) := by decide +kernel
theorem dX1_init_49 : decode cX1_init 49 = .ok (.aastore, 1) := by decide +kernel
theorem dX1_init_50 : decode cX1_init 50 = .ok (.dup, 1) := by decide +kernel
theorem dX1_init_51 : decode cX1_init 51 = .ok (.iconst 4, 1) := by decide +kernel
theorem dX1_init_52 : decode cX1_init 52 = .ok (.new 9, 3) := by decide +kernel
theorem dX1_init_55 : decode cX1_init 55 = .ok (.dup, 1) := by decide +kernel
theorem dX1_init_56 : decode cX1_init 56 = .ok (.invokespecial 11, 3) := by decide +kernel
theorem dX1_init_59 : decode cX1_init 59 = .ok (.aastore, 1) := by decide +kernel
theorem dX1_init_60 : decode cX1_init 60 = .ok (.dup, 1) := by decide +kernel
theorem dX1_init_61 : decode cX1_init 61 = .ok (.iconst 5, 1) := by decide +kernel
theorem dX1_init_62 : decode cX1_init 62 = .ok (.new 9, 3) := by decide +kernel
theorem dX1_init_65 : decode cX1_init 65 = .ok (.dup, 1) := by decide +kernel
theorem dX1_init_66 : decode cX1_init 66 = .ok (.invokespecial 11, 3) := by decide +kernel
theorem dX1_init_69 : decode cX1_init 69 = .ok (.aastore, 1) := by decide +kernel
theorem dX1_init_70 : decode cX1_init 70 = .ok (.putfield 12, 3) := by decide +kernel
theorem dX1_init_73 : decode cX1_init 73 = .ok (.aload_n 0, 1) := by decide +kernel
theorem dX1_init_74 : decode cX1_init 74 = .ok (.iconst 0, 1) := by decide +kernel
theorem dX1_init_75 : decode cX1_init 75 = .ok (.putfield 18, 3) := by decide +kernel
theorem dX1_init_78 : decode cX1_init 78 = .ok (.return_, 1) := by decide +kernel
theorem dX1_keep_0 : decode cX1_keep 0 = .ok (.aload_n 0, 1) := by decide +kernel
theorem dX1_keep_1 : decode cX1_keep 1 = .ok (.getfield 18, 3) := by decide +kernel
theorem dX1_keep_4 : decode cX1_keep 4 = .ok (.iconst 0, 1) := by decide +kernel
theorem dX1_keep_5 : decode cX1_keep 5 = .ok (.iconst 5, 1) := by decide +kernel
theorem dX1_keep_6 : decode cX1_keep 6 = .ok (.invokestatic 22, 3) := by decide +kernel
theorem dX1_keep_9 : decode cX1_keep 9 = .ok (.ifCond .eq 16, 3) := by decide +kernel
theorem dX1_keep_12 : decode cX1_keep 12 = .ok (.aload_n 0, 1) := by decide +kernel
theorem dX1_keep_13 : decode cX1_keep 13 = .ok (.getfield 12, 3) := by decide +kernel
theorem dX1_keep_16 : decode cX1_keep 16 = .ok (.aload_n 0, 1) := by decide +kernel
theorem dX1_keep_17 : decode cX1_keep 17 = .ok (.getfield 18, 3) := by decide +kernel
theorem dX1_keep_20 : decode cX1_keep 20 = .ok (.aaload, 1) := by decide +kernel
theorem dX1_keep_21 : decode cX1_keep 21 = .ok (.aload_n 1, 1) := by decide +kernel
theorem dX1_keep_22 : decode cX1_keep 22 = .ok (.invokevirtual 26, 3) := by decide +kernel
theorem dX1_keep_25 : decode cX1_keep 25 = .ok (.return_, 1) := by decide +kernel
theorem dX1_bringBack_0 : decode cX1_bringBack 0 = .ok (.aload_n 0, 1) := by decide +kernel
theorem dX1_bringBack_1 : decode cX1_bringBack 1 = .ok (.getfield 18, 3) := by decide +kernel
theorem dX1_bringBack_4 : decode cX1_bringBack 4 = .ok (.iconst 0, 1) := by decide +kernel
theorem dX1_bringBack_5 : decode cX1_bringBack 5 = .ok (.iconst 5, 1) := by decide +kernel
theorem dX1_bringBack_6 : decode cX1_bringBack 6 = .ok (.invokestatic 22, 3) := by decide +kernel
theorem dX1_bringBack_9 : decode cX1_bringBack 9 = .ok (.ifCond .eq 16, 3) := by decide +kernel
theorem dX1_bringBack_12 : decode cX1_bringBack 12 = .ok (.aload_n 1, 1) := by decide +kernel
theorem dX1_bringBack_13 : decode cX1_bringBack 13 = .ok (.aload_n 0, 1) := by decide +kernel
theorem dX1_bringBack_14 : decode cX1_bringBack 14 = .ok (.getfield 12, 3) := by decide +kernel
theorem dX1_bringBack_17 : decode cX1_bringBack 17 = .ok (.aload_n 0, 1) := by decide +kernel
theorem dX1_bringBack_18 : decode cX1_bringBack 18 = .ok (.getfield 18, 3) := by decide +kernel
theorem dX1_bringBack_21 : decode cX1_bringBack 21 = .ok (.aaload, 1) := by decide +kernel
theorem dX1_bringBack_22 : decode cX1_bringBack 22 = .ok (.invokevirtual 26, 3) := by decide +kernel
theorem dX1_bringBack_25 : decode cX1_bringBack 25 = .ok (.return_, 1) := by decide +kernel
theorem dX1_settle_0 : decode cX1_settle 0 = .ok (.iload_n 1, 1) := by decide +kernel
theorem dX1_settle_1 : decode cX1_settle 1 = .ok (.invokestatic 30, 3) := by decide +kernel
theorem dX1_settle_4 : decode cX1_settle 4 = .ok (.ifCond .eq 5, 3) := by decide +kernel
theorem dX1_settle_7 : decode cX1_settle 7 = .ok (.iload_n 1, 1) := by decide +kernel
theorem dX1_settle_8 : decode cX1_settle 8 = .ok (.ireturn, 1) := by decide +kernel
theorem dX1_settle_9 : decode cX1_settle 9 = .ok (.aload_n 0, 1) := by decide +kernel
theorem dX1_settle_10 : decode cX1_settle 10 = .ok (.getfield 18, 3) := by decide +kernel
theorem dX1_settle_13 : decode cX1_settle 13 = .ok (.iconst 5, 1) := by decide +kernel
theorem dX1_settle_14 : decode cX1_settle 14 = .ok (.if_icmp .ge 16, 3) := by decide +kernel
theorem dX1_settle_17 : decode cX1_settle 17 = .ok (.aload_n 0, 1) := by decide +kernel
theorem dX1_settle_18 : decode cX1_settle 18 = .ok (.dup, 1) := by decide +kernel
theorem dX1_settle_19 : decode cX1_settle 19 = .ok (.getfield 18, 3) := by decide +kernel
theorem dX1_settle_22 : decode cX1_settle 22 = .ok (.iconst 1, 1) := by decide +kernel
theorem dX1_settle_23 : decode cX1_settle 23 = .ok (.iadd, 1) := by decide +kernel
theorem dX1_settle_24 : decode cX1_settle 24 = .ok (.putfield 18, 3) := by decide +kernel
theorem dX1_settle_27 : decode cX1_settle 27 = .ok (.goto 7, 3) := by decide +kernel
theorem dX1_settle_30 : decode cX1_settle 30 = .ok (.aload_n 0, 1) := by decide +kernel
theorem dX1_settle_31 : decode cX1_settle 31 = .ok (.invokevirtual 34, 3) := by decide +kernel
theorem dX1_settle_34 : decode cX1_settle 34 = .ok (.iload_n 1, 1) := by decide +kernel
theorem dX1_settle_35 : decode cX1_settle 35 = .ok (.ireturn, 1) := by decide +kernel
theorem dX1_dropOldest_0 : decode cX1_dropOldest 0 = .ok (.aload_n 0, 1) := by decide +kernel
theorem dX1_dropOldest_1 : decode cX1_dropOldest 1 = .ok (.getfield 12, 3) := by decide +kernel
theorem dX1_dropOldest_4 : decode cX1_dropOldest 4 = .ok (.iconst 0, 1) := by decide +kernel
theorem dX1_dropOldest_5 : decode cX1_dropOldest 5 = .ok (.aaload, 1) := by decide +kernel
theorem dX1_dropOldest_6 : decode cX1_dropOldest 6 = .ok (.astore_n 1, 1) := by decide +kernel
theorem dX1_dropOldest_7 : decode cX1_dropOldest 7 = .ok (.iconst 0, 1) := by decide +kernel
theorem dX1_dropOldest_8 : decode cX1_dropOldest 8 = .ok (.istore_n 2, 1) := by decide +kernel
theorem dX1_dropOldest_9 : decode cX1_dropOldest 9 = .ok (.iload_n 2, 1) := by decide +kernel
theorem dX1_dropOldest_10 : decode cX1_dropOldest 10 = .ok (.iconst 5, 1) := by decide +kernel
theorem dX1_dropOldest_11 : decode cX1_dropOldest 11 = .ok (.if_icmp .ge 23, 3) := by decide +kernel
theorem dX1_dropOldest_14 : decode cX1_dropOldest 14 = .ok (.aload_n 0, 1) := by decide +kernel
theorem dX1_dropOldest_15 : decode cX1_dropOldest 15 = .ok (.getfield 12, 3) := by decide +kernel
theorem dX1_dropOldest_18 : decode cX1_dropOldest 18 = .ok (.iload_n 2, 1) := by decide +kernel
theorem dX1_dropOldest_19 : decode cX1_dropOldest 19 = .ok (.aload_n 0, 1) := by decide +kernel
theorem dX1_dropOldest_20 : decode cX1_dropOldest 20 = .ok (.getfield 12, 3) := by decide +kernel
theorem dX1_dropOldest_23 : decode cX1_dropOldest 23 = .ok (.iload_n 2, 1) := by decide +kernel
theorem dX1_dropOldest_24 : decode cX1_dropOldest 24 = .ok (.iconst 1, 1) := by decide +kernel
theorem dX1_dropOldest_25 : decode cX1_dropOldest 25 = .ok (.iadd, 1) := by decide +kernel
theorem dX1_dropOldest_26 : decode cX1_dropOldest 26 = .ok (.aaload, 1) := by decide +kernel
theorem dX1_dropOldest_27 : decode cX1_dropOldest 27 = .ok (.aastore, 1) := by decide +kernel
theorem dX1_dropOldest_28 : decode cX1_dropOldest 28 = .ok (.iinc 2 1, 3) := by decide +kernel
theorem dX1_dropOldest_31 : decode cX1_dropOldest 31 = .ok (.goto (-22), 3) := by decide +kernel
theorem dX1_dropOldest_34 : decode cX1_dropOldest 34 = .ok (.aload_n 0, 1) := by decide +kernel
theorem dX1_dropOldest_35 : decode cX1_dropOldest 35 = .ok (.getfield 12, 3) := by decide +kernel
theorem dX1_dropOldest_38 : decode cX1_dropOldest 38 = .ok (.iconst 5, 1) := by decide +kernel
theorem dX1_dropOldest_39 : decode cX1_dropOldest 39 = .ok (.aload_n 1, 1) := by decide +kernel
theorem dX1_dropOldest_40 : decode cX1_dropOldest 40 = .ok (.aastore, 1) := by decide +kernel
theorem dX1_dropOldest_41 : decode cX1_dropOldest 41 = .ok (.return_, 1) := by decide +kernel
theorem dX1_goBack_0 : decode cX1_goBack 0 = .ok (.aload_n 0, 1) := by decide +kernel
theorem dX1_goBack_1 : decode cX1_goBack 1 = .ok (.getfield 18, 3) := by decide +kernel
theorem dX1_goBack_4 : decode cX1_goBack 4 = .ok (.ifCond .gt 6, 3) := by decide +kernel
theorem dX1_goBack_7 : decode cX1_goBack 7 = .ok (.bipush (-2), 2) := by decide +kernel
theorem dX1_goBack_9 : decode cX1_goBack 9 = .ok (.ireturn, 1) := by decide +kernel
theorem dX1_goBack_10 : decode cX1_goBack 10 = .ok (.aload_n 0, 1) := by decide +kernel
theorem dX1_goBack_11 : decode cX1_goBack 11 = .ok (.dup, 1) := by decide +kernel
theorem dX1_goBack_12 : decode cX1_goBack 12 = .ok (.getfield 18, 3) := by decide +kernel
theorem dX1_goBack_15 : decode cX1_goBack 15 = .ok (.iconst 1, 1) := by decide +kernel
theorem dX1_goBack_16 : decode cX1_goBack 16 = .ok (.isub, 1) := by decide +kernel
theorem dX1_goBack_17 : decode cX1_goBack 17 = .ok (.putfield 18, 3) := by decide +kernel
theorem dX1_goBack_20 : decode cX1_goBack 20 = .ok (.aload_n 0, 1) := by decide +kernel
theorem dX1_goBack_21 : decode cX1_goBack 21 = .ok (.aload_n 1, 1) := by decide +kernel
theorem dX1_goBack_22 : decode cX1_goBack 22 = .ok (.invokevirtual 37, 3) := by decide +kernel
theorem dX1_goBack_25 : decode cX1_goBack 25 = .ok (.aload_n 0, 1) := by decide +kernel
theorem dX1_goBack_26 : decode cX1_goBack 26 = .ok (.getfield 18, 3) := by decide +kernel
theorem dX1_goBack_29 : decode cX1_goBack 29 = .ok (.ireturn, 1) := by decide +kernel
theorem dX2_init_0 : decode cX2_init 0 = .ok (.aload_n 0, 1) := by decide +kernel
theorem dX2_init_1 : decode cX2_init 1 = .ok (.invokespecial 3, 3) := by decide +kernel
theorem dX2_init_4 : decode cX2_init 4 = .ok (.aload_n 0, 1) := by decide +kernel
theorem dX2_init_5 : decode cX2_init 5 = .ok (.bipush 12, 2) := by decide +kernel
theorem dX2_init_7 : decode cX2_init 7 = .ok (.newarray .int, 2) := by decide +kernel
theorem dX2_init_9 : decode cX2_init 9 = .ok (.putfield 9, 3) := by decide +kernel
theorem dX2_init_12 : decode cX2_init 12 = .ok (.aload_n 0, 1) := by decide +kernel
theorem dX2_init_13 : decode cX2_init 13 = .ok (.bipush 12, 2) := by decide +kernel
theorem dX2_init_15 : decode cX2_init 15 = .ok (.newarray .int, 2) := by decide +kernel
theorem dX2_init_17 : decode cX2_init 17 = .ok (.putfield 15, 3) := by decide +kernel
theorem dX2_init_20 : decode cX2_init 20 = .ok (.aload_n 0, 1) := by decide +kernel
theorem dX2_init_21 : decode cX2_init 21 = .ok (.bipush 32, 2) := by decide +kernel
theorem dX2_init_23 : decode cX2_init 23 = .ok (.newarray .int, 2) := by decide +kernel
theorem dX2_init_25 : decode cX2_init 25 = .ok (.putfield 18, 3) := by decide +kernel
theorem dX2_init_28 : decode cX2_init 28 = .ok (.aload_n 0, 1) := by decide +kernel
theorem dX2_init_29 : decode cX2_init 29 = .ok (.iconst 0, 1) := by decide +kernel
theorem dX2_init_30 : decode cX2_init 30 = .ok (.putfield 21, 3) := by decide +kernel
theorem dX2_init_33 : decode cX2_init 33 = .ok (.aload_n 0, 1) := by decide +kernel
theorem dX2_init_34 : decode cX2_init 34 = .ok (.bipush 18, 2) := by decide +kernel
theorem dX2_init_36 : decode cX2_init 36 = .ok (.newarray .int, 2) := by decide +kernel
theorem dX2_init_38 : decode cX2_init 38 = .ok (.putfield 25, 3) := by decide +kernel
theorem dX2_init_41 : decode cX2_init 41 = .ok (.aload_n 0, 1) := by decide +kernel
theorem dX2_init_42 : decode cX2_init 42 = .ok (.iconst 0, 1) := by decide +kernel
theorem dX2_init_43 : decode cX2_init 43 = .ok (.putfield 28, 3) := by decide +kernel
theorem dX2_init_46 : decode cX2_init 46 = .ok (.aload_n 0, 1) := by decide +kernel
theorem dX2_init_47 : decode cX2_init 47 = .ok (.iconst 1, 1) := by decide +kernel
theorem dX2_init_48 : decode cX2_init 48 = .ok (.putfield 31, 3) := by decide +kernel
theorem dX2_init_51 : decode cX2_init 51 = .ok (.return_, 1) := by decide +kernel
theorem dX2_arrange_0 : decode cX2_arrange 0 = .ok (.aload_n 0, 1) := by decide +kernel
theorem dX2_arrange_1 : decode cX2_arrange 1 = .ok (.aload_n 1, 1) := by decide +kernel
theorem dX2_arrange_2 : decode cX2_arrange 2 = .ok (.getfield 34, 3) := by decide +kernel
theorem dX2_arrange_5 : decode cX2_arrange 5 = .ok (.putfield 31, 3) := by decide +kernel
theorem dX2_arrange_8 : decode cX2_arrange 8 = .ok (.aload_n 0, 1) := by decide +kernel
theorem dX2_arrange_9 : decode cX2_arrange 9 = .ok (.aload_n 1, 1) := by decide +kernel
theorem dX2_arrange_10 : decode cX2_arrange 10 = .ok (.invokevirtual 37, 3) := by decide +kernel
theorem dX2_arrange_13 : decode cX2_arrange 13 = .ok (.aload_n 0, 1) := by decide +kernel
theorem dX2_arrange_14 : decode cX2_arrange 14 = .ok (.aload_n 1, 1) := by decide +kernel
theorem dX2_arrange_15 : decode cX2_arrange 15 = .ok (.invokevirtual 41, 3) := by decide +kernel
theorem dX2_arrange_18 : decode cX2_arrange 18 = .ok (.aload_n 0, 1) := by decide +kernel
theorem dX2_arrange_19 : decode cX2_arrange 19 = .ok (.aload_n 1, 1) := by decide +kernel
theorem dX2_arrange_20 : decode cX2_arrange 20 = .ok (.getfield 44, 3) := by decide +kernel
theorem dX2_arrange_23 : decode cX2_arrange 23 = .ok (.invokevirtual 48, 3) := by decide +kernel
theorem dX2_arrange_26 : decode cX2_arrange 26 = .ok (.iconst 0, 1) := by decide +kernel
theorem dX2_arrange_27 : decode cX2_arrange 27 = .ok (.istore_n 2, 1) := by decide +kernel
theorem dX2_arrange_28 : decode cX2_arrange 28 = .ok (.iconst 0, 1) := by decide +kernel
theorem dX2_arrange_29 : decode cX2_arrange 29 = .ok (.istore_n 3, 1) := by decide +kernel
theorem dX2_arrange_30 : decode cX2_arrange 30 = .ok (.iload_n 3, 1) := by decide +kernel
theorem dX2_arrange_31 : decode cX2_arrange 31 = .ok (.aload_n 1, 1) := by decide +kernel
theorem dX2_arrange_32 : decode cX2_arrange 32 = .ok (.getfield 44, 3) := by decide +kernel
theorem dX2_arrange_35 : decode cX2_arrange 35 = .ok (.getfield 52, 3) := by decide +kernel
theorem dX2_arrange_38 : decode cX2_arrange 38 = .ok (.if_icmp .ge 90, 3) := by decide +kernel
theorem dX2_arrange_41 : decode cX2_arrange 41 = .ok (.iload_n 3, 1) := by decide +kernel
theorem dX2_arrange_42 : decode cX2_arrange 42 = .ok (.bipush 12, 2) := by decide +kernel
theorem dX2_arrange_44 : decode cX2_arrange 44 = .ok (.if_icmp .ge 84, 3) := by decide +kernel
theorem dX2_arrange_47 : decode cX2_arrange 47 = .ok (.aload_n 0, 1) := by decide +kernel
theorem dX2_arrange_48 : decode cX2_arrange 48 = .ok (.getfield 9, 3) := by decide +kernel
theorem dX2_arrange_51 : decode cX2_arrange 51 = .ok (.iload_n 3, 1) := by decide +kernel
theorem dX2_arrange_52 : decode cX2_arrange 52 = .ok (.iaload, 1) := by decide +kernel
theorem dX2_arrange_53 : decode cX2_arrange 53 = .ok (.istore 4, 2) := by decide +kernel
theorem dX2_arrange_55 : decode cX2_arrange 55 = .ok (.aload_n 1, 1) := by decide +kernel
theorem dX2_arrange_56 : decode cX2_arrange 56 = .ok (.getfield 44, 3) := by decide +kernel
theorem dX2_arrange_59 : decode cX2_arrange 59 = .ok (.iload 4, 2) := by decide +kernel
theorem dX2_arrange_61 : decode cX2_arrange 61 = .ok (.invokevirtual 57, 3) := by decide +kernel
theorem dX2_arrange_64 : decode cX2_arrange 64 = .ok (.istore 5, 2) := by decide +kernel
theorem dX2_arrange_66 : decode cX2_arrange 66 = .ok (.aload_n 1, 1) := by decide +kernel
theorem dX2_arrange_67 : decode cX2_arrange 67 = .ok (.getfield 44, 3) := by decide +kernel
theorem dX2_arrange_70 : decode cX2_arrange 70 = .ok (.iload 4, 2) := by decide +kernel
theorem dX2_arrange_72 : decode cX2_arrange 72 = .ok (.invokevirtual 61, 3) := by decide +kernel
theorem dX2_arrange_75 : decode cX2_arrange 75 = .ok (.ifCond .eq 13, 3) := by decide +kernel
theorem dX2_arrange_78 : decode cX2_arrange 78 = .ok (.aload_n 0, 1) := by decide +kernel
theorem dX2_arrange_79 : decode cX2_arrange 79 = .ok (.iload_n 2, 1) := by decide +kernel
theorem dX2_arrange_80 : decode cX2_arrange 80 = .ok (.iload 5, 2) := by decide +kernel
theorem dX2_arrange_82 : decode cX2_arrange 82 = .ok (.invokevirtual 65, 3) := by decide +kernel
theorem dX2_arrange_85 : decode cX2_arrange 85 = .ok (.goto 10, 3) := by decide +kernel
theorem dX2_arrange_88 : decode cX2_arrange 88 = .ok (.aload_n 0, 1) := by decide +kernel
theorem dX2_arrange_89 : decode cX2_arrange 89 = .ok (.iload_n 2, 1) := by decide +kernel
theorem dX2_arrange_90 : decode cX2_arrange 90 = .ok (.iload 5, 2) := by decide +kernel
theorem dX2_arrange_92 : decode cX2_arrange 92 = .ok (.invokevirtual 69, 3) := by decide +kernel
theorem dX2_arrange_95 : decode cX2_arrange 95 = .ok (.istore 6, 2) := by decide +kernel
theorem dX2_arrange_97 : decode cX2_arrange 97 = .ok (.aload_n 0, 1) := by decide +kernel
theorem dX2_arrange_98 : decode cX2_arrange 98 = .ok (.iload 4, 2) := by decide +kernel
theorem dX2_arrange_100 : decode cX2_arrange 100 = .ok (.iload 6, 2) := by decide +kernel
theorem dX2_arrange_102 : decode cX2_arrange 102 = .ok (.invokevirtual 72, 3) := by decide +kernel
theorem dX2_arrange_105 : decode cX2_arrange 105 = .ok (.iload 6, 2) := by decide +kernel
theorem dX2_arrange_107 : decode cX2_arrange 107 = .ok (.bipush (-9), 2) := by decide +kernel
theorem dX2_arrange_109 : decode cX2_arrange 109 = .ok (.if_icmp .ne 7, 3) := by decide +kernel
theorem dX2_arrange_112 : decode cX2_arrange 112 = .ok (.iload_n 2, 1) := by decide +kernel
theorem dX2_arrange_113 : decode cX2_arrange 113 = .ok (.goto 8, 3) := by decide +kernel
theorem dX2_arrange_116 : decode cX2_arrange 116 = .ok (.iload 6, 2) := by decide +kernel
theorem dX2_arrange_118 : decode cX2_arrange 118 = .ok (.iload 5, 2) := by decide +kernel
theorem dX2_arrange_120 : decode cX2_arrange 120 = .ok (.iadd, 1) := by decide +kernel
theorem dX2_arrange_121 : decode cX2_arrange 121 = .ok (.istore_n 2, 1) := by decide +kernel
theorem dX2_arrange_122 : decode cX2_arrange 122 = .ok (.iinc 3 1, 3) := by decide +kernel
theorem dX2_arrange_125 : decode cX2_arrange 125 = .ok (.goto (-95), 3) := by decide +kernel
theorem dX2_arrange_128 : decode cX2_arrange 128 = .ok (.return_, 1) := by decide +kernel
theorem dX2_countLines_0 : decode cX2_countLines 0 = .ok (.aload_n 0, 1) := by decide +kernel
theorem dX2_countLines_1 : decode cX2_countLines 1 = .ok (.aload_n 1, 1) := by decide +kernel
theorem dX2_countLines_2 : decode cX2_countLines 2 = .ok (.getfield 76, 3) := by decide +kernel
theorem dX2_countLines_5 : decode cX2_countLines 5 = .ok (.invokevirtual 80, 3) := by decide +kernel
theorem dX2_countLines_8 : decode cX2_countLines 8 = .ok (.bipush 16, 2) := by decide +kernel
theorem dX2_countLines_10 : decode cX2_countLines 10 = .ok (.invokestatic 86, 3) := by decide +kernel
theorem dX2_countLines_13 : decode cX2_countLines 13 = .ok (.iconst 1, 1) := by decide +kernel
theorem dX2_countLines_14 : decode cX2_countLines 14 = .ok (.iadd, 1) := by decide +kernel
theorem dX2_countLines_15 : decode cX2_countLines 15 = .ok (.putfield 28, 3) := by decide +kernel
theorem dX2_countLines_18 : decode cX2_countLines 18 = .ok (.aload_n 0, 1) := by decide +kernel
theorem dX2_countLines_19 : decode cX2_countLines 19 = .ok (.getfield 25, 3) := by decide +kernel
theorem dX2_countLines_22 : decode cX2_countLines 22 = .ok (.iconst 0, 1) := by decide +kernel
theorem dX2_countLines_23 : decode cX2_countLines 23 = .ok (.iconst 0, 1) := by decide +kernel
theorem dX2_countLines_24 : decode cX2_countLines 24 = .ok (.iastore, 1) := by decide +kernel
theorem dX2_countLines_25 : decode cX2_countLines 25 = .ok (.iconst 0, 1) := by decide +kernel
theorem dX2_countLines_26 : decode cX2_countLines 26 = .ok (.istore_n 2, 1) := by decide +kernel
theorem dX2_countLines_27 : decode cX2_countLines 27 = .ok (.iload_n 2, 1) := by decide +kernel
theorem dX2_countLines_28 : decode cX2_countLines 28 = .ok (.aload_n 0, 1) := by decide +kernel
theorem dX2_countLines_29 : decode cX2_countLines 29 = .ok (.getfield 28, 3) := by decide +kernel
theorem dX2_countLines_32 : decode cX2_countLines 32 = .ok (.if_icmp .ge 29, 3) := by decide +kernel
theorem dX2_countLines_35 : decode cX2_countLines 35 = .ok (.aload_n 0, 1) := by decide +kernel
theorem dX2_countLines_36 : decode cX2_countLines 36 = .ok (.getfield 25, 3) := by decide +kernel
theorem dX2_countLines_39 : decode cX2_countLines 39 = .ok (.iload_n 2, 1) := by decide +kernel
theorem dX2_countLines_40 : decode cX2_countLines 40 = .ok (.iconst 1, 1) := by decide +kernel
theorem dX2_countLines_41 : decode cX2_countLines 41 = .ok (.iadd, 1) := by decide +kernel
theorem dX2_countLines_42 : decode cX2_countLines 42 = .ok (.aload_n 0, 1) := by decide +kernel
theorem dX2_countLines_43 : decode cX2_countLines 43 = .ok (.getfield 25, 3) := by decide +kernel
theorem dX2_countLines_46 : decode cX2_countLines 46 = .ok (.iload_n 2, 1) := by decide +kernel
theorem dX2_countLines_47 : decode cX2_countLines 47 = .ok (.iaload, 1) := by decide +kernel
theorem dX2_countLines_48 : decode cX2_countLines 48 = .ok (.aload_n 1, 1) := by decide +kernel
theorem dX2_countLines_49 : decode cX2_countLines 49 = .ok (.iload_n 2, 1) := by decide +kernel
theorem dX2_countLines_50 : decode cX2_countLines 50 = .ok (.invokevirtual 91, 3) := by decide +kernel
theorem dX2_countLines_53 : decode cX2_countLines 53 = .ok (.iadd, 1) := by decide +kernel
theorem dX2_countLines_54 : decode cX2_countLines 54 = .ok (.iastore, 1) := by decide +kernel
theorem dX2_countLines_55 : decode cX2_countLines 55 = .ok (.iinc 2 1, 3) := by decide +kernel
theorem dX2_countLines_58 : decode cX2_countLines 58 = .ok (.goto (-31), 3) := by decide +kernel
theorem dX2_countLines_61 : decode cX2_countLines 61 = .ok (.return_, 1) := by decide +kernel
theorem dX2_listPages_0 : decode cX2_listPages 0 = .ok (.aload_n 0, 1) := by decide +kernel
theorem dX2_listPages_1 : decode cX2_listPages 1 = .ok (.iconst 0, 1) := by decide +kernel
theorem dX2_listPages_2 : decode cX2_listPages 2 = .ok (.putfield 21, 3) := by decide +kernel
theorem dX2_listPages_5 : decode cX2_listPages 5 = .ok (.iconst 0, 1) := by decide +kernel
theorem dX2_listPages_6 : decode cX2_listPages 6 = .ok (.istore_n 2, 1) := by decide +kernel
theorem dX2_listPages_7 : decode cX2_listPages 7 = .ok (.iload_n 2, 1) := by decide +kernel
theorem dX2_listPages_8 : decode cX2_listPages 8 = .ok (.aload_n 1, 1) := by decide +kernel
theorem dX2_listPages_9 : decode cX2_listPages 9 = .ok (.getfield 76, 3) := by decide +kernel
theorem dX2_listPages_12 : decode cX2_listPages 12 = .ok (.invokevirtual 94, 3) := by decide +kernel
theorem dX2_listPages_15 : decode cX2_listPages 15 = .ok (.if_icmp .gt 50, 3) := by decide +kernel
theorem dX2_listPages_18 : decode cX2_listPages 18 = .ok (.aload_n 0, 1) := by decide +kernel
theorem dX2_listPages_19 : decode cX2_listPages 19 = .ok (.getfield 21, 3) := by decide +kernel
theorem dX2_listPages_22 : decode cX2_listPages 22 = .ok (.bipush 32, 2) := by decide +kernel
theorem dX2_listPages_24 : decode cX2_listPages 24 = .ok (.if_icmp .ge 41, 3) := by decide +kernel
theorem dX2_listPages_27 : decode cX2_listPages 27 = .ok (.aload_n 0, 1) := by decide +kernel
theorem dX2_listPages_28 : decode cX2_listPages 28 = .ok (.iload_n 2, 1) := by decide +kernel
theorem dX2_listPages_29 : decode cX2_listPages 29 = .ok (.iconst 1, 1) := by decide +kernel
theorem dX2_listPages_30 : decode cX2_listPages 30 = .ok (.iadd, 1) := by decide +kernel
theorem dX2_listPages_31 : decode cX2_listPages 31 = .ok (.iconst 2, 1) := by decide +kernel
theorem dX2_listPages_32 : decode cX2_listPages 32 = .ok (.idiv, 1) := by decide +kernel
theorem dX2_listPages_33 : decode cX2_listPages 33 = .ok (.invokevirtual 97, 3) := by decide +kernel
theorem dX2_listPages_36 : decode cX2_listPages 36 = .ok (.ifCond .le 23, 3) := by decide +kernel
theorem dX2_listPages_39 : decode cX2_listPages 39 = .ok (.aload_n 0, 1) := by decide +kernel
theorem dX2_listPages_40 : decode cX2_listPages 40 = .ok (.getfield 18, 3) := by decide +kernel
theorem dX2_listPages_43 : decode cX2_listPages 43 = .ok (.aload_n 0, 1) := by decide +kernel
theorem dX2_listPages_44 : decode cX2_listPages 44 = .ok (.getfield 21, 3) := by decide +kernel
theorem dX2_listPages_47 : decode cX2_listPages 47 = .ok (.iload_n 2, 1) := by decide +kernel
theorem dX2_listPages_48 : decode cX2_listPages 48 = .ok (.iastore, 1) := by decide +kernel
theorem dX2_listPages_49 : decode cX2_listPages 49 = .ok (.aload_n 0, 1) := by decide +kernel
theorem dX2_listPages_50 : decode cX2_listPages 50 = .ok (.dup, 1) := by decide +kernel
theorem dX2_listPages_51 : decode cX2_listPages 51 = .ok (.getfield 21, 3) := by decide +kernel
theorem dX2_listPages_54 : decode cX2_listPages 54 = .ok (.iconst 1, 1) := by decide +kernel
theorem dX2_listPages_55 : decode cX2_listPages 55 = .ok (.iadd, 1) := by decide +kernel
theorem dX2_listPages_56 : decode cX2_listPages 56 = .ok (.putfield 21, 3) := by decide +kernel
theorem dX2_listPages_59 : decode cX2_listPages 59 = .ok (.iinc 2 1, 3) := by decide +kernel
theorem dX2_listPages_62 : decode cX2_listPages 62 = .ok (.goto (-55), 3) := by decide +kernel
theorem dX2_listPages_65 : decode cX2_listPages 65 = .ok (.return_, 1) := by decide +kernel
theorem dX2_sort_0 : decode cX2_sort 0 = .ok (.iconst 0, 1) := by decide +kernel
theorem dX2_sort_1 : decode cX2_sort 1 = .ok (.istore_n 2, 1) := by decide +kernel
theorem dX2_sort_2 : decode cX2_sort 2 = .ok (.iload_n 2, 1) := by decide +kernel
theorem dX2_sort_3 : decode cX2_sort 3 = .ok (.aload_n 1, 1) := by decide +kernel
theorem dX2_sort_4 : decode cX2_sort 4 = .ok (.getfield 52, 3) := by decide +kernel
theorem dX2_sort_7 : decode cX2_sort 7 = .ok (.if_icmp .ge 64, 3) := by decide +kernel
theorem dX2_sort_10 : decode cX2_sort 10 = .ok (.iload_n 2, 1) := by decide +kernel
theorem dX2_sort_11 : decode cX2_sort 11 = .ok (.bipush 12, 2) := by decide +kernel
theorem dX2_sort_13 : decode cX2_sort 13 = .ok (.if_icmp .ge 58, 3) := by decide +kernel
theorem dX2_sort_16 : decode cX2_sort 16 = .ok (.iload_n 2, 1) := by decide +kernel
theorem dX2_sort_17 : decode cX2_sort 17 = .ok (.istore_n 3, 1) := by decide +kernel
theorem dX2_sort_18 : decode cX2_sort 18 = .ok (.iload_n 3, 1) := by decide +kernel
theorem dX2_sort_19 : decode cX2_sort 19 = .ok (.ifCond .le 39, 3) := by decide +kernel
theorem dX2_sort_22 : decode cX2_sort 22 = .ok (.aload_n 1, 1) := by decide +kernel
theorem dX2_sort_23 : decode cX2_sort 23 = .ok (.iload_n 2, 1) := by decide +kernel
theorem dX2_sort_24 : decode cX2_sort 24 = .ok (.aload_n 0, 1) := by decide +kernel
theorem dX2_sort_25 : decode cX2_sort 25 = .ok (.getfield 9, 3) := by decide +kernel
theorem dX2_sort_28 : decode cX2_sort 28 = .ok (.iload_n 3, 1) := by decide +kernel
theorem dX2_sort_29 : decode cX2_sort 29 = .ok (.iconst 1, 1) := by decide +kernel
theorem dX2_sort_30 : decode cX2_sort 30 = .ok (.isub, 1) := by decide +kernel
theorem dX2_sort_31 : decode cX2_sort 31 = .ok (.iaload, 1) := by decide +kernel
theorem dX2_sort_32 : decode cX2_sort 32 = .ok (.invokevirtual 98, 3) := by decide +kernel
theorem dX2_sort_35 : decode cX2_sort 35 = .ok (.ifCond .eq 23, 3) := by decide +kernel
theorem dX2_sort_38 : decode cX2_sort 38 = .ok (.aload_n 0, 1) := by decide +kernel
theorem dX2_sort_39 : decode cX2_sort 39 = .ok (.getfield 9, 3) := by decide +kernel
theorem dX2_sort_42 : decode cX2_sort 42 = .ok (.iload_n 3, 1) := by decide +kernel
theorem dX2_sort_43 : decode cX2_sort 43 = .ok (.aload_n 0, 1) := by decide +kernel
theorem dX2_sort_44 : decode cX2_sort 44 = .ok (.getfield 9, 3) := by decide +kernel
theorem dX2_sort_47 : decode cX2_sort 47 = .ok (.iload_n 3, 1) := by decide +kernel
theorem dX2_sort_48 : decode cX2_sort 48 = .ok (.iconst 1, 1) := by decide +kernel
theorem dX2_sort_49 : decode cX2_sort 49 = .ok (.isub, 1) := by decide +kernel
theorem dX2_sort_50 : decode cX2_sort 50 = .ok (.iaload, 1) := by decide +kernel
theorem dX2_sort_51 : decode cX2_sort 51 = .ok (.iastore, 1) := by decide +kernel
theorem dX2_sort_52 : decode cX2_sort 52 = .ok (.iinc 3 (-1), 3) := by decide +kernel
theorem dX2_sort_55 : decode cX2_sort 55 = .ok (.goto (-37), 3) := by decide +kernel
theorem dX2_sort_58 : decode cX2_sort 58 = .ok (.aload_n 0, 1) := by decide +kernel
theorem dX2_sort_59 : decode cX2_sort 59 = .ok (.getfield 9, 3) := by decide +kernel
theorem dX2_sort_62 : decode cX2_sort 62 = .ok (.iload_n 3, 1) := by decide +kernel
theorem dX2_sort_63 : decode cX2_sort 63 = .ok (.iload_n 2, 1) := by decide +kernel
theorem dX2_sort_64 : decode cX2_sort 64 = .ok (.iastore, 1) := by decide +kernel
theorem dX2_sort_65 : decode cX2_sort 65 = .ok (.iinc 2 1, 3) := by decide +kernel
theorem dX2_sort_68 : decode cX2_sort 68 = .ok (.goto (-66), 3) := by decide +kernel
theorem dX2_sort_71 : decode cX2_sort 71 = .ok (.return_, 1) := by decide +kernel
theorem dX2_keepFirstLine_0 : decode cX2_keepFirstLine 0 = .ok (.iload_n 1, 1) := by decide +kernel
theorem dX2_keepFirstLine_1 : decode cX2_keepFirstLine 1 = .ok (.iconst 0, 1) := by decide +kernel
theorem dX2_keepFirstLine_2 : decode cX2_keepFirstLine 2 = .ok (.bipush 11, 2) := by decide +kernel
theorem dX2_keepFirstLine_4 : decode cX2_keepFirstLine 4 = .ok (.invokestatic 102, 3) := by decide +kernel
theorem dX2_keepFirstLine_7 : decode cX2_keepFirstLine 7 = .ok (.ifCond .eq 10, 3) := by decide +kernel
theorem dX2_keepFirstLine_10 : decode cX2_keepFirstLine 10 = .ok (.aload_n 0, 1) := by decide +kernel
theorem dX2_keepFirstLine_11 : decode cX2_keepFirstLine 11 = .ok (.getfield 15, 3) := by decide +kernel
theorem dX2_keepFirstLine_14 : decode cX2_keepFirstLine 14 = .ok (.iload_n 1, 1) := by decide +kernel
theorem dX2_keepFirstLine_15 : decode cX2_keepFirstLine 15 = .ok (.iload_n 2, 1) := by decide +kernel
theorem dX2_keepFirstLine_16 : decode cX2_keepFirstLine 16 = .ok (.iastore, 1) := by decide +kernel
theorem dX2_keepFirstLine_17 : decode cX2_keepFirstLine 17 = .ok (.return_, 1) := by decide +kernel
theorem dX2_linesOf_0 : decode cX2_linesOf 0 = .ok (.iload_n 1, 1) := by decide +kernel
theorem dX2_linesOf_1 : decode cX2_linesOf 1 = .ok (.iconst 0, 1) := by decide +kernel
theorem dX2_linesOf_2 : decode cX2_linesOf 2 = .ok (.aload_n 0, 1) := by decide +kernel
theorem dX2_linesOf_3 : decode cX2_linesOf 3 = .ok (.getfield 28, 3) := by decide +kernel
theorem dX2_linesOf_6 : decode cX2_linesOf 6 = .ok (.iconst 1, 1) := by decide +kernel
theorem dX2_linesOf_7 : decode cX2_linesOf 7 = .ok (.isub, 1) := by decide +kernel
theorem dX2_linesOf_8 : decode cX2_linesOf 8 = .ok (.invokestatic 102, 3) := by decide +kernel
theorem dX2_linesOf_11 : decode cX2_linesOf 11 = .ok (.ifCond .eq 21, 3) := by decide +kernel
theorem dX2_linesOf_14 : decode cX2_linesOf 14 = .ok (.aload_n 0, 1) := by decide +kernel
theorem dX2_linesOf_15 : decode cX2_linesOf 15 = .ok (.getfield 25, 3) := by decide +kernel
theorem dX2_linesOf_18 : decode cX2_linesOf 18 = .ok (.iload_n 1, 1) := by decide +kernel
theorem dX2_linesOf_19 : decode cX2_linesOf 19 = .ok (.iconst 1, 1) := by decide +kernel
theorem dX2_linesOf_20 : decode cX2_linesOf 20 = .ok (.iadd, 1) := by decide +kernel
theorem dX2_linesOf_21 : decode cX2_linesOf 21 = .ok (.iaload, 1) := by decide +kernel
theorem dX2_linesOf_22 : decode cX2_linesOf 22 = .ok (.aload_n 0, 1) := by decide +kernel
theorem dX2_linesOf_23 : decode cX2_linesOf 23 = .ok (.getfield 25, 3) := by decide +kernel
theorem dX2_linesOf_26 : decode cX2_linesOf 26 = .ok (.iload_n 1, 1) := by decide +kernel
theorem dX2_linesOf_27 : decode cX2_linesOf 27 = .ok (.iaload, 1) := by decide +kernel
theorem dX2_linesOf_28 : decode cX2_linesOf 28 = .ok (.isub, 1) := by decide +kernel
theorem dX2_linesOf_29 : decode cX2_linesOf 29 = .ok (.goto 4, 3) := by decide +kernel
theorem dX2_linesOf_32 : decode cX2_linesOf 32 = .ok (.iconst 0, 1) := by decide +kernel
theorem dX2_linesOf_33 : decode cX2_linesOf 33 = .ok (.ireturn, 1) := by decide +kernel
theorem dX2_roomFor_0 : decode cX2_roomFor 0 = .ok (.iload_n 1, 1) := by decide +kernel
theorem dX2_roomFor_1 : decode cX2_roomFor 1 = .ok (.iload_n 2, 1) := by decide +kernel
theorem dX2_roomFor_2 : decode cX2_roomFor 2 = .ok (.iadd, 1) := by decide +kernel
theorem dX2_roomFor_3 : decode cX2_roomFor 3 = .ok (.aload_n 0, 1) := by decide +kernel
theorem dX2_roomFor_4 : decode cX2_roomFor 4 = .ok (.getfield 25, 3) := by decide +kernel
theorem dX2_roomFor_7 : decode cX2_roomFor 7 = .ok (.aload_n 0, 1) := by decide +kernel
theorem dX2_roomFor_8 : decode cX2_roomFor 8 = .ok (.getfield 28, 3) := by decide +kernel
theorem dX2_roomFor_11 : decode cX2_roomFor 11 = .ok (.iaload, 1) := by decide +kernel
theorem dX2_roomFor_12 : decode cX2_roomFor 12 = .ok (.if_icmp .gt 7, 3) := by decide +kernel
theorem dX2_roomFor_15 : decode cX2_roomFor 15 = .ok (.iload_n 1, 1) := by decide +kernel
theorem dX2_roomFor_16 : decode cX2_roomFor 16 = .ok (.goto 5, 3) := by decide +kernel
theorem dX2_roomFor_19 : decode cX2_roomFor 19 = .ok (.bipush (-9), 2) := by decide +kernel
theorem dX2_roomFor_21 : decode cX2_roomFor 21 = .ok (.ireturn, 1) := by decide +kernel
theorem dX2_roomForWhole_0 : decode cX2_roomForWhole 0 = .ok (.iconst 0, 1) := by decide +kernel
theorem dX2_roomForWhole_1 : decode cX2_roomForWhole 1 = .ok (.istore_n 3, 1) := by decide +kernel
theorem dX2_roomForWhole_2 : decode cX2_roomForWhole 2 = .ok (.iload_n 3, 1) := by decide +kernel
theorem dX2_roomForWhole_3 : decode cX2_roomForWhole 3 = .ok (.aload_n 0, 1) := by decide +kernel
theorem dX2_roomForWhole_4 : decode cX2_roomForWhole 4 = .ok (.getfield 28, 3) := by decide +kernel
theorem dX2_roomForWhole_7 : decode cX2_roomForWhole 7 = .ok (.if_icmp .ge 51, 3) := by decide +kernel
theorem dX2_roomForWhole_10 : decode cX2_roomForWhole 10 = .ok (.aload_n 0, 1) := by decide +kernel
theorem dX2_roomForWhole_11 : decode cX2_roomForWhole 11 = .ok (.getfield 25, 3) := by decide +kernel
theorem dX2_roomForWhole_14 : decode cX2_roomForWhole 14 = .ok (.iload_n 3, 1) := by decide +kernel
theorem dX2_roomForWhole_15 : decode cX2_roomForWhole 15 = .ok (.iconst 1, 1) := by decide +kernel
theorem dX2_roomForWhole_16 : decode cX2_roomForWhole 16 = .ok (.iadd, 1) := by decide +kernel
theorem dX2_roomForWhole_17 : decode cX2_roomForWhole 17 = .ok (.iaload, 1) := by decide +kernel
theorem dX2_roomForWhole_18 : decode cX2_roomForWhole 18 = .ok (.iload_n 1, 1) := by decide +kernel
theorem dX2_roomForWhole_19 : decode cX2_roomForWhole 19 = .ok (.if_icmp .le 33, 3) := by decide +kernel
theorem dX2_roomForWhole_22 : decode cX2_roomForWhole 22 = .ok (.iload_n 1, 1) := by decide +kernel
theorem dX2_roomForWhole_23 : decode cX2_roomForWhole 23 = .ok (.aload_n 0, 1) := by decide +kernel
theorem dX2_roomForWhole_24 : decode cX2_roomForWhole 24 = .ok (.getfield 25, 3) := by decide +kernel
theorem dX2_roomForWhole_27 : decode cX2_roomForWhole 27 = .ok (.iload_n 3, 1) := by decide +kernel
theorem dX2_roomForWhole_28 : decode cX2_roomForWhole 28 = .ok (.iaload, 1) := by decide +kernel
theorem dX2_roomForWhole_29 : decode cX2_roomForWhole 29 = .ok (.invokestatic 106, 3) := by decide +kernel
theorem dX2_roomForWhole_32 : decode cX2_roomForWhole 32 = .ok (.istore 4, 2) := by decide +kernel
theorem dX2_roomForWhole_34 : decode cX2_roomForWhole 34 = .ok (.iload 4, 2) := by decide +kernel
theorem dX2_roomForWhole_36 : decode cX2_roomForWhole 36 = .ok (.iload_n 2, 1) := by decide +kernel
theorem dX2_roomForWhole_37 : decode cX2_roomForWhole 37 = .ok (.iadd, 1) := by decide +kernel
theorem dX2_roomForWhole_38 : decode cX2_roomForWhole 38 = .ok (.aload_n 0, 1) := by decide +kernel
theorem dX2_roomForWhole_39 : decode cX2_roomForWhole 39 = .ok (.getfield 25, 3) := by decide +kernel
theorem dX2_roomForWhole_42 : decode cX2_roomForWhole 42 = .ok (.iload_n 3, 1) := by decide +kernel
theorem dX2_roomForWhole_43 : decode cX2_roomForWhole 43 = .ok (.iconst 1, 1) := by decide +kernel
theorem dX2_roomForWhole_44 : decode cX2_roomForWhole 44 = .ok (.iadd, 1) := by decide +kernel
theorem dX2_roomForWhole_45 : decode cX2_roomForWhole 45 = .ok (.iaload, 1) := by decide +kernel
theorem dX2_roomForWhole_46 : decode cX2_roomForWhole 46 = .ok (.if_icmp .gt 6, 3) := by decide +kernel
theorem dX2_roomForWhole_49 : decode cX2_roomForWhole 49 = .ok (.iload 4, 2) := by decide +kernel
theorem dX2_roomForWhole_51 : decode cX2_roomForWhole 51 = .ok (.ireturn, 1) := by decide +kernel
theorem dX2_roomForWhole_52 : decode cX2_roomForWhole 52 = .ok (.iinc 3 1, 3) := by decide +kernel
theorem dX2_roomForWhole_55 : decode cX2_roomForWhole 55 = .ok (.goto (-53), 3) := by decide +kernel
theorem dX2_roomForWhole_58 : decode cX2_roomForWhole 58 = .ok (.bipush (-9), 2) := by decide +kernel
theorem dX2_roomForWhole_60 : decode cX2_roomForWhole 60 = .ok (.ireturn, 1) := by decide +kernel
theorem dX2_pageOfLine_0 : decode cX2_pageOfLine 0 = .ok (.aload_n 0, 1) := by decide +kernel
theorem dX2_pageOfLine_1 : decode cX2_pageOfLine 1 = .ok (.getfield 31, 3) := by decide +kernel
theorem dX2_pageOfLine_4 : decode cX2_pageOfLine 4 = .ok (.iconst 1, 1) := by decide +kernel
theorem dX2_pageOfLine_5 : decode cX2_pageOfLine 5 = .ok (.if_icmp .lt 20, 3) := by decide +kernel
theorem dX2_pageOfLine_8 : decode cX2_pageOfLine 8 = .ok (.iload_n 1, 1) := by decide +kernel
theorem dX2_pageOfLine_9 : decode cX2_pageOfLine 9 = .ok (.ifCond .lt 16, 3) := by decide +kernel
theorem dX2_pageOfLine_12 : decode cX2_pageOfLine 12 = .ok (.iload_n 1, 1) := by decide +kernel
theorem dX2_pageOfLine_13 : decode cX2_pageOfLine 13 = .ok (.aload_n 0, 1) := by decide +kernel
theorem dX2_pageOfLine_14 : decode cX2_pageOfLine 14 = .ok (.getfield 31, 3) := by decide +kernel
theorem dX2_pageOfLine_17 : decode cX2_pageOfLine 17 = .ok (.idiv, 1) := by decide +kernel
theorem dX2_pageOfLine_18 : decode cX2_pageOfLine 18 = .ok (.aload_n 0, 1) := by decide +kernel
theorem dX2_pageOfLine_19 : decode cX2_pageOfLine 19 = .ok (.getfield 21, 3) := by decide +kernel
theorem dX2_pageOfLine_22 : decode cX2_pageOfLine 22 = .ok (.if_icmp .lt 6, 3) := by decide +kernel
theorem dX2_pageOfLine_25 : decode cX2_pageOfLine 25 = .ok (.bipush (-9), 2) := by decide +kernel
theorem dX2_pageOfLine_27 : decode cX2_pageOfLine 27 = .ok (.ireturn, 1) := by decide +kernel
theorem dX2_pageOfLine_28 : decode cX2_pageOfLine 28 = .ok (.aload_n 0, 1) := by decide +kernel
theorem dX2_pageOfLine_29 : decode cX2_pageOfLine 29 = .ok (.getfield 18, 3) := by decide +kernel
theorem dX2_pageOfLine_32 : decode cX2_pageOfLine 32 = .ok (.iload_n 1, 1) := by decide +kernel
theorem dX2_pageOfLine_33 : decode cX2_pageOfLine 33 = .ok (.aload_n 0, 1) := by decide +kernel
theorem dX2_pageOfLine_34 : decode cX2_pageOfLine 34 = .ok (.getfield 31, 3) := by decide +kernel
theorem dX2_pageOfLine_37 : decode cX2_pageOfLine 37 = .ok (.idiv, 1) := by decide +kernel
theorem dX2_pageOfLine_38 : decode cX2_pageOfLine 38 = .ok (.iaload, 1) := by decide +kernel
theorem dX2_pageOfLine_39 : decode cX2_pageOfLine 39 = .ok (.ireturn, 1) := by decide +kernel
theorem dX2_takenOn_0 : decode cX2_takenOn 0 = .ok (.iconst 0, 1) := by decide +kernel
theorem dX2_takenOn_1 : decode cX2_takenOn 1 = .ok (.istore_n 3, 1) := by decide +kernel
theorem dX2_takenOn_2 : decode cX2_takenOn 2 = .ok (.iconst 0, 1) := by decide +kernel
theorem dX2_takenOn_3 : decode cX2_takenOn 3 = .ok (.istore 4, 2) := by decide +kernel
theorem dX2_takenOn_5 : decode cX2_takenOn 5 = .ok (.iload 4, 2) := by decide +kernel
theorem dX2_takenOn_7 : decode cX2_takenOn 7 = .ok (.aload_n 2, 1) := by decide +kernel
theorem dX2_takenOn_8 : decode cX2_takenOn 8 = .ok (.getfield 52, 3) := by decide +kernel
theorem dX2_takenOn_11 : decode cX2_takenOn 11 = .ok (.if_icmp .ge 76, 3) := by decide +kernel
theorem dX2_takenOn_14 : decode cX2_takenOn 14 = .ok (.iload 4, 2) := by decide +kernel
theorem dX2_takenOn_16 : decode cX2_takenOn 16 = .ok (.bipush 12, 2) := by decide +kernel
theorem dX2_takenOn_18 : decode cX2_takenOn 18 = .ok (.if_icmp .ge 69, 3) := by decide +kernel
theorem dX2_takenOn_21 : decode cX2_takenOn 21 = .ok (.aload_n 0, 1) := by decide +kernel
theorem dX2_takenOn_22 : decode cX2_takenOn 22 = .ok (.getfield 15, 3) := by decide +kernel
theorem dX2_takenOn_25 : decode cX2_takenOn 25 = .ok (.iload 4, 2) := by decide +kernel
theorem dX2_takenOn_27 : decode cX2_takenOn 27 = .ok (.iaload, 1) := by decide +kernel
theorem dX2_takenOn_28 : decode cX2_takenOn 28 = .ok (.istore 5, 2) := by decide +kernel
theorem dX2_takenOn_30 : decode cX2_takenOn 30 = .ok (.iconst 0, 1) := by decide +kernel
theorem dX2_takenOn_31 : decode cX2_takenOn 31 = .ok (.istore 6, 2) := by decide +kernel
theorem dX2_takenOn_33 : decode cX2_takenOn 33 = .ok (.iload 5, 2) := by decide +kernel
theorem dX2_takenOn_35 : decode cX2_takenOn 35 = .ok (.bipush (-9), 2) := by decide +kernel
theorem dX2_takenOn_37 : decode cX2_takenOn 37 = .ok (.if_icmp .eq 44, 3) := by decide +kernel
theorem dX2_takenOn_40 : decode cX2_takenOn 40 = .ok (.iload 6, 2) := by decide +kernel
theorem dX2_takenOn_42 : decode cX2_takenOn 42 = .ok (.aload_n 2, 1) := by decide +kernel
theorem dX2_takenOn_43 : decode cX2_takenOn 43 = .ok (.iload 4, 2) := by decide +kernel
theorem dX2_takenOn_45 : decode cX2_takenOn 45 = .ok (.invokevirtual 57, 3) := by decide +kernel
theorem dX2_takenOn_48 : decode cX2_takenOn 48 = .ok (.if_icmp .ge 33, 3) := by decide +kernel
theorem dX2_takenOn_51 : decode cX2_takenOn 51 = .ok (.iload_n 3, 1) := by decide +kernel
theorem dX2_takenOn_52 : decode cX2_takenOn 52 = .ok (.aload_n 0, 1) := by decide +kernel
theorem dX2_takenOn_53 : decode cX2_takenOn 53 = .ok (.iload 5, 2) := by decide +kernel
theorem dX2_takenOn_55 : decode cX2_takenOn 55 = .ok (.iload 6, 2) := by decide +kernel
theorem dX2_takenOn_57 : decode cX2_takenOn 57 = .ok (.iadd, 1) := by decide +kernel
theorem dX2_takenOn_58 : decode cX2_takenOn 58 = .ok (.invokevirtual 112, 3) := by decide +kernel
theorem dX2_takenOn_61 : decode cX2_takenOn 61 = .ok (.iload_n 1, 1) := by decide +kernel
theorem dX2_takenOn_62 : decode cX2_takenOn 62 = .ok (.if_icmp .ne 7, 3) := by decide +kernel
theorem dX2_takenOn_65 : decode cX2_takenOn 65 = .ok (.iconst 1, 1) := by decide +kernel
theorem dX2_takenOn_66 : decode cX2_takenOn 66 = .ok (.goto 4, 3) := by decide +kernel
theorem dX2_takenOn_69 : decode cX2_takenOn 69 = .ok (.iconst 0, 1) := by decide +kernel
theorem dX2_takenOn_70 : decode cX2_takenOn 70 = .ok (.invokestatic 115, 3) := by decide +kernel
theorem dX2_takenOn_73 : decode cX2_takenOn 73 = .ok (.iadd, 1) := by decide +kernel
theorem dX2_takenOn_74 : decode cX2_takenOn 74 = .ok (.istore_n 3, 1) := by decide +kernel
theorem dX2_takenOn_75 : decode cX2_takenOn 75 = .ok (.iinc 6 1, 3) := by decide +kernel
theorem dX2_takenOn_78 : decode cX2_takenOn 78 = .ok (.goto (-45), 3) := by decide +kernel
theorem dX2_takenOn_81 : decode cX2_takenOn 81 = .ok (.iinc 4 1, 3) := by decide +kernel
theorem dX2_takenOn_84 : decode cX2_takenOn 84 = .ok (.goto (-79), 3) := by decide +kernel
theorem dX2_takenOn_87 : decode cX2_takenOn 87 = .ok (.iload_n 3, 1) := by decide +kernel
theorem dX2_takenOn_88 : decode cX2_takenOn 88 = .ok (.ireturn, 1) := by decide +kernel
theorem dX3_init_0 : decode cX3_init 0 = .ok (.aload_n 0, 1) := by decide +kernel
theorem dX3_init_1 : decode cX3_init 1 = .ok (.invokespecial 3, 3) := by decide +kernel
theorem dX3_init_4 : decode cX3_init 4 = .ok (.aload_n 0, 1) := by decide +kernel
theorem dX3_init_5 : decode cX3_init 5 = .ok (.iconst 1, 1) := by decide +kernel
theorem dX3_init_6 : decode cX3_init 6 = .ok (.putfield 9, 3) := by decide +kernel
theorem dX3_init_9 : decode cX3_init 9 = .ok (.aload_n 0, 1) := by decide +kernel
theorem dX3_init_10 : decode cX3_init 10 = .ok (.iconst 1, 1) := by decide +kernel
theorem dX3_init_11 : decode cX3_init 11 = .ok (.putfield 15, 3) := by decide +kernel
theorem dX3_init_14 : decode cX3_init 14 = .ok (.aload_n 0, 1) := by decide +kernel
theorem dX3_init_15 : decode cX3_init 15 = .ok (.iconst 1, 1) := by decide +kernel
theorem dX3_init_16 : decode cX3_init 16 = .ok (.putfield 18, 3) := by decide +kernel
theorem dX3_init_19 : decode cX3_init 19 = .ok (.aload_n 0, 1) := by decide +kernel
theorem dX3_init_20 : decode cX3_init 20 = .ok (.iconst 1, 1) := by decide +kernel
theorem dX3_init_21 : decode cX3_init 21 = .ok (.putfield 21, 3) := by decide +kernel
theorem dX3_init_24 : decode cX3_init 24 = .ok (.aload_n 0, 1) := by decide +kernel
theorem dX3_init_25 : decode cX3_init 25 = .ok (.iconst 0, 1) := by decide +kernel
theorem dX3_init_26 : decode cX3_init 26 = .ok (.putfield 24, 3) := by decide +kernel
theorem dX3_init_29 : decode cX3_init 29 = .ok (.aload_n 0, 1) := by decide +kernel
theorem dX3_init_30 : decode cX3_init 30 = .ok (.iconst 0, 1) := by decide +kernel
theorem dX3_init_31 : decode cX3_init 31 = .ok (.putfield 27, 3) := by decide +kernel
theorem dX3_init_34 : decode cX3_init 34 = .ok (.aload_n 0, 1) := by decide +kernel
theorem dX3_init_35 : decode cX3_init 35 = .ok (.bipush 16, 2) := by decide +kernel
theorem dX3_init_37 : decode cX3_init 37 = .ok (.newarray .int, 2) := by decide +kernel
theorem dX3_init_39 : decode cX3_init 39 = .ok (.putfield 30, 3) := by decide +kernel
theorem dX3_init_42 : decode cX3_init 42 = .ok (.aload_n 0, 1) := by decide +kernel
theorem dX3_init_43 : decode cX3_init 43 = .ok (.bipush 16, 2) := by decide +kernel
theorem dX3_init_45 : decode cX3_init 45 = .ok (.newarray .int, 2) := by decide +kernel
theorem dX3_init_47 : decode cX3_init 47 = .ok (.putfield 34, 3) := by decide +kernel
theorem dX3_init_50 : decode cX3_init 50 = .ok (.return_, 1) := by decide +kernel
theorem dX3_copyFrom_0 : decode cX3_copyFrom 0 = .ok (.aload_n 0, 1) := by decide +kernel
theorem dX3_copyFrom_1 : decode cX3_copyFrom 1 = .ok (.aload_n 1, 1) := by decide +kernel
theorem dX3_copyFrom_2 : decode cX3_copyFrom 2 = .ok (.getfield 9, 3) := by decide +kernel
theorem dX3_copyFrom_5 : decode cX3_copyFrom 5 = .ok (.putfield 9, 3) := by decide +kernel
theorem dX3_copyFrom_8 : decode cX3_copyFrom 8 = .ok (.aload_n 0, 1) := by decide +kernel
theorem dX3_copyFrom_9 : decode cX3_copyFrom 9 = .ok (.aload_n 1, 1) := by decide +kernel
theorem dX3_copyFrom_10 : decode cX3_copyFrom 10 = .ok (.getfield 15, 3) := by decide +kernel
theorem dX3_copyFrom_13 : decode cX3_copyFrom 13 = .ok (.putfield 15, 3) := by decide +kernel
theorem dX3_copyFrom_16 : decode cX3_copyFrom 16 = .ok (.aload_n 0, 1) := by decide +kernel
theorem dX3_copyFrom_17 : decode cX3_copyFrom 17 = .ok (.aload_n 1, 1) := by decide +kernel
theorem dX3_copyFrom_18 : decode cX3_copyFrom 18 = .ok (.getfield 18, 3) := by decide +kernel
theorem dX3_copyFrom_21 : decode cX3_copyFrom 21 = .ok (.putfield 18, 3) := by decide +kernel
theorem dX3_copyFrom_24 : decode cX3_copyFrom 24 = .ok (.aload_n 0, 1) := by decide +kernel
theorem dX3_copyFrom_25 : decode cX3_copyFrom 25 = .ok (.aload_n 1, 1) := by decide +kernel
theorem dX3_copyFrom_26 : decode cX3_copyFrom 26 = .ok (.getfield 21, 3) := by decide +kernel
theorem dX3_copyFrom_29 : decode cX3_copyFrom 29 = .ok (.putfield 21, 3) := by decide +kernel
theorem dX3_copyFrom_32 : decode cX3_copyFrom 32 = .ok (.aload_n 0, 1) := by decide +kernel
theorem dX3_copyFrom_33 : decode cX3_copyFrom 33 = .ok (.aload_n 1, 1) := by decide +kernel
theorem dX3_copyFrom_34 : decode cX3_copyFrom 34 = .ok (.getfield 24, 3) := by decide +kernel
theorem dX3_copyFrom_37 : decode cX3_copyFrom 37 = .ok (.putfield 24, 3) := by decide +kernel
theorem dX3_copyFrom_40 : decode cX3_copyFrom 40 = .ok (.aload_n 0, 1) := by decide +kernel
theorem dX3_copyFrom_41 : decode cX3_copyFrom 41 = .ok (.aload_n 1, 1) := by decide +kernel
theorem dX3_copyFrom_42 : decode cX3_copyFrom 42 = .ok (.getfield 27, 3) := by decide +kernel
theorem dX3_copyFrom_45 : decode cX3_copyFrom 45 = .ok (.putfield 27, 3) := by decide +kernel
theorem dX3_copyFrom_48 : decode cX3_copyFrom 48 = .ok (.aload_n 1, 1) := by decide +kernel
theorem dX3_copyFrom_49 : decode cX3_copyFrom 49 = .ok (.getfield 30, 3) := by decide +kernel
theorem dX3_copyFrom_52 : decode cX3_copyFrom 52 = .ok (.iconst 0, 1) := by decide +kernel
theorem dX3_copyFrom_53 : decode cX3_copyFrom 53 = .ok (.aload_n 0, 1) := by decide +kernel
theorem dX3_copyFrom_54 : decode cX3_copyFrom 54 = .ok (.getfield 30, 3) := by decide +kernel
theorem dX3_copyFrom_57 : decode cX3_copyFrom 57 = .ok (.iconst 0, 1) := by decide +kernel
theorem dX3_copyFrom_58 : decode cX3_copyFrom 58 = .ok (.bipush 16, 2) := by decide +kernel
theorem dX3_copyFrom_60 : decode cX3_copyFrom 60 = .ok (.invokestatic 37, 3) := by decide +kernel
theorem dX3_copyFrom_63 : decode cX3_copyFrom 63 = .ok (.return_, 1) := by decide +kernel
theorem dX3_spread_0 : decode cX3_spread 0 = .ok (.aload_n 0, 1) := by decide +kernel
theorem dX3_spread_1 : decode cX3_spread 1 = .ok (.iload_n 1, 1) := by decide +kernel
theorem dX3_spread_2 : decode cX3_spread 2 = .ok (.putfield 9, 3) := by decide +kernel
theorem dX3_spread_5 : decode cX3_spread 5 = .ok (.aload_n 0, 1) := by decide +kernel
theorem dX3_spread_6 : decode cX3_spread 6 = .ok (.iload_n 2, 1) := by decide +kernel
theorem dX3_spread_7 : decode cX3_spread 7 = .ok (.putfield 15, 3) := by decide +kernel
theorem dX3_spread_10 : decode cX3_spread 10 = .ok (.aload_n 0, 1) := by decide +kernel
theorem dX3_spread_11 : decode cX3_spread 11 = .ok (.iload_n 1, 1) := by decide +kernel
theorem dX3_spread_12 : decode cX3_spread 12 = .ok (.putfield 18, 3) := by decide +kernel
theorem dX3_spread_15 : decode cX3_spread 15 = .ok (.aload_n 0, 1) := by decide +kernel
theorem dX3_spread_16 : decode cX3_spread 16 = .ok (.iload_n 2, 1) := by decide +kernel
theorem dX3_spread_17 : decode cX3_spread 17 = .ok (.putfield 21, 3) := by decide +kernel
theorem dX3_spread_20 : decode cX3_spread 20 = .ok (.aload_n 0, 1) := by decide +kernel
theorem dX3_spread_21 : decode cX3_spread 21 = .ok (.iconst 0, 1) := by decide +kernel
theorem dX3_spread_22 : decode cX3_spread 22 = .ok (.putfield 24, 3) := by decide +kernel
theorem dX3_spread_25 : decode cX3_spread 25 = .ok (.aload_n 0, 1) := by decide +kernel
theorem dX3_spread_26 : decode cX3_spread 26 = .ok (.iconst 0, 1) := by decide +kernel
theorem dX3_spread_27 : decode cX3_spread 27 = .ok (.putfield 27, 3) := by decide +kernel
theorem dX3_spread_30 : decode cX3_spread 30 = .ok (.iconst 0, 1) := by decide +kernel
theorem dX3_spread_31 : decode cX3_spread 31 = .ok (.istore_n 3, 1) := by decide +kernel
theorem dX3_spread_32 : decode cX3_spread 32 = .ok (.iload_n 3, 1) := by decide +kernel
theorem dX3_spread_33 : decode cX3_spread 33 = .ok (.bipush 16, 2) := by decide +kernel
theorem dX3_spread_35 : decode cX3_spread 35 = .ok (.if_icmp .ge 55, 3) := by decide +kernel
theorem dX3_spread_38 : decode cX3_spread 38 = .ok (.iload_n 3, 1) := by decide +kernel
theorem dX3_spread_39 : decode cX3_spread 39 = .ok (.aload_n 0, 1) := by decide +kernel
theorem dX3_spread_40 : decode cX3_spread 40 = .ok (.getfield 18, 3) := by decide +kernel
theorem dX3_spread_43 : decode cX3_spread 43 = .ok (.aload_n 0, 1) := by decide +kernel
theorem dX3_spread_44 : decode cX3_spread 44 = .ok (.getfield 21, 3) := by decide +kernel
theorem dX3_spread_47 : decode cX3_spread 47 = .ok (.imul, 1) := by decide +kernel
theorem dX3_spread_48 : decode cX3_spread 48 = .ok (.if_icmp .ge 42, 3) := by decide +kernel
theorem dX3_spread_51 : decode cX3_spread 51 = .ok (.aload_n 0, 1) := by decide +kernel
theorem dX3_spread_52 : decode cX3_spread 52 = .ok (.getfield 30, 3) := by decide +kernel
theorem dX3_spread_55 : decode cX3_spread 55 = .ok (.iload_n 3, 1) := by decide +kernel
theorem dX3_spread_56 : decode cX3_spread 56 = .ok (.aload_n 0, 1) := by decide +kernel
theorem dX3_spread_57 : decode cX3_spread 57 = .ok (.getfield 21, 3) := by decide +kernel
theorem dX3_spread_60 : decode cX3_spread 60 = .ok (.iconst 1, 1) := by decide +kernel
theorem dX3_spread_61 : decode cX3_spread 61 = .ok (.if_icmp .ge 7, 3) := by decide +kernel
theorem dX3_spread_64 : decode cX3_spread 64 = .ok (.iconst 0, 1) := by decide +kernel
theorem dX3_spread_65 : decode cX3_spread 65 = .ok (.goto 18, 3) := by decide +kernel
theorem dX3_spread_68 : decode cX3_spread 68 = .ok (.iload_n 3, 1) := by decide +kernel
theorem dX3_spread_69 : decode cX3_spread 69 = .ok (.aload_n 0, 1) := by decide +kernel
theorem dX3_spread_70 : decode cX3_spread 70 = .ok (.getfield 21, 3) := by decide +kernel
theorem dX3_spread_73 : decode cX3_spread 73 = .ok (.idiv, 1) := by decide +kernel
theorem dX3_spread_74 : decode cX3_spread 74 = .ok (.iload_n 3, 1) := by decide +kernel
theorem dX3_spread_75 : decode cX3_spread 75 = .ok (.aload_n 0, 1) := by decide +kernel
theorem dX3_spread_76 : decode cX3_spread 76 = .ok (.getfield 21, 3) := by decide +kernel
theorem dX3_spread_79 : decode cX3_spread 79 = .ok (.irem, 1) := by decide +kernel
theorem dX3_spread_80 : decode cX3_spread 80 = .ok (.invokestatic 43, 3) := by decide +kernel
theorem dX3_spread_83 : decode cX3_spread 83 = .ok (.iastore, 1) := by decide +kernel
theorem dX3_spread_84 : decode cX3_spread 84 = .ok (.iinc 3 1, 3) := by decide +kernel
theorem dX3_spread_87 : decode cX3_spread 87 = .ok (.goto (-55), 3) := by decide +kernel
theorem dX3_spread_90 : decode cX3_spread 90 = .ok (.return_, 1) := by decide +kernel
theorem dX3_depth_0 : decode cX3_depth 0 = .ok (.iconst 1, 1) := by decide +kernel
theorem dX3_depth_1 : decode cX3_depth 1 = .ok (.aload_n 0, 1) := by decide +kernel
theorem dX3_depth_2 : decode cX3_depth 2 = .ok (.getfield 27, 3) := by decide +kernel
theorem dX3_depth_5 : decode cX3_depth 5 = .ok (.ishl, 1) := by decide +kernel
theorem dX3_depth_6 : decode cX3_depth 6 = .ok (.ireturn, 1) := by decide +kernel
theorem dX3_isBooklet_0 : decode cX3_isBooklet 0 = .ok (.aload_n 0, 1) := by decide +kernel
theorem dX3_isBooklet_1 : decode cX3_isBooklet 1 = .ok (.getfield 18, 3) := by decide +kernel
theorem dX3_isBooklet_4 : decode cX3_isBooklet 4 = .ok (.iconst 1, 1) := by decide +kernel
theorem dX3_isBooklet_5 : decode cX3_isBooklet 5 = .ok (.if_icmp .ne 15, 3) := by decide +kernel
theorem dX3_isBooklet_8 : decode cX3_isBooklet 8 = .ok (.aload_n 0, 1) := by decide +kernel
theorem dX3_isBooklet_9 : decode cX3_isBooklet 9 = .ok (.getfield 21, 3) := by decide +kernel
theorem dX3_isBooklet_12 : decode cX3_isBooklet 12 = .ok (.iconst 1, 1) := by decide +kernel
theorem dX3_isBooklet_13 : decode cX3_isBooklet 13 = .ok (.if_icmp .ne 7, 3) := by decide +kernel
theorem dX3_isBooklet_16 : decode cX3_isBooklet 16 = .ok (.iconst 1, 1) := by decide +kernel
theorem dX3_isBooklet_17 : decode cX3_isBooklet 17 = .ok (.goto 4, 3) := by decide +kernel
theorem dX3_isBooklet_20 : decode cX3_isBooklet 20 = .ok (.iconst 0, 1) := by decide +kernel
theorem dX3_isBooklet_21 : decode cX3_isBooklet 21 = .ok (.ireturn, 1) := by decide +kernel
theorem dX3_lastPage_0 : decode cX3_lastPage 0 = .ok (.aload_n 0, 1) := by decide +kernel
theorem dX3_lastPage_1 : decode cX3_lastPage 1 = .ok (.invokevirtual 47, 3) := by decide +kernel
theorem dX3_lastPage_4 : decode cX3_lastPage 4 = .ok (.iconst 2, 1) := by decide +kernel
theorem dX3_lastPage_5 : decode cX3_lastPage 5 = .ok (.imul, 1) := by decide +kernel
theorem dX3_lastPage_6 : decode cX3_lastPage 6 = .ok (.iconst 1, 1) := by decide +kernel
theorem dX3_lastPage_7 : decode cX3_lastPage 7 = .ok (.isub, 1) := by decide +kernel
theorem dX3_lastPage_8 : decode cX3_lastPage 8 = .ok (.ireturn, 1) := by decide +kernel
theorem dX3_canFold_0 : decode cX3_canFold 0 = .ok (.iload_n 1, 1) := by decide +kernel
theorem dX3_canFold_1 : decode cX3_canFold 1 = .ok (.iconst 1, 1) := by decide +kernel
theorem dX3_canFold_2 : decode cX3_canFold 2 = .ok (.if_icmp .eq 8, 3) := by decide +kernel
theorem dX3_canFold_5 : decode cX3_canFold 5 = .ok (.iload_n 1, 1) := by decide +kernel
theorem dX3_canFold_6 : decode cX3_canFold 6 = .ok (.iconst 2, 1) := by decide +kernel
theorem dX3_canFold_7 : decode cX3_canFold 7 = .ok (.if_icmp .ne 17, 3) := by decide +kernel
theorem dX3_canFold_10 : decode cX3_canFold 10 = .ok (.aload_n 0, 1) := by decide +kernel
theorem dX3_canFold_11 : decode cX3_canFold 11 = .ok (.getfield 21, 3) := by decide +kernel
theorem dX3_canFold_14 : decode cX3_canFold 14 = .ok (.iconst 1, 1) := by decide +kernel
theorem dX3_canFold_15 : decode cX3_canFold 15 = .ok (.if_icmp .le 7, 3) := by decide +kernel
theorem dX3_canFold_18 : decode cX3_canFold 18 = .ok (.iconst 1, 1) := by decide +kernel
theorem dX3_canFold_19 : decode cX3_canFold 19 = .ok (.goto 4, 3) := by decide +kernel
theorem dX3_canFold_22 : decode cX3_canFold 22 = .ok (.iconst 0, 1) := by decide +kernel
theorem dX3_canFold_23 : decode cX3_canFold 23 = .ok (.ireturn, 1) := by decide +kernel
theorem dX3_canFold_24 : decode cX3_canFold 24 = .ok (.iload_n 1, 1) := by decide +kernel
theorem dX3_canFold_25 : decode cX3_canFold 25 = .ok (.iconst 3, 1) := by decide +kernel
theorem dX3_canFold_26 : decode cX3_canFold 26 = .ok (.if_icmp .eq 8, 3) := by decide +kernel
theorem dX3_canFold_29 : decode cX3_canFold 29 = .ok (.iload_n 1, 1) := by decide +kernel
theorem dX3_canFold_30 : decode cX3_canFold 30 = .ok (.iconst 4, 1) := by decide +kernel
theorem dX3_canFold_31 : decode cX3_canFold 31 = .ok (.if_icmp .ne 15, 3) := by decide +kernel
theorem dX3_canFold_34 : decode cX3_canFold 34 = .ok (.aload_n 0, 1) := by decide +kernel
theorem dX3_canFold_35 : decode cX3_canFold 35 = .ok (.getfield 18, 3) := by decide +kernel
theorem dX3_canFold_38 : decode cX3_canFold 38 = .ok (.iconst 1, 1) := by decide +kernel
theorem dX3_canFold_39 : decode cX3_canFold 39 = .ok (.if_icmp .le 7, 3) := by decide +kernel
theorem dX3_canFold_42 : decode cX3_canFold 42 = .ok (.iconst 1, 1) := by decide +kernel
theorem dX3_canFold_43 : decode cX3_canFold 43 = .ok (.goto 4, 3) := by decide +kernel
theorem dX3_canFold_46 : decode cX3_canFold 46 = .ok (.iconst 0, 1) := by decide +kernel
theorem dX3_canFold_47 : decode cX3_canFold 47 = .ok (.ireturn, 1) := by decide +kernel
theorem dX3_lay_0 : decode cX3_lay 0 = .ok (.iload_n 1, 1) := by decide +kernel
theorem dX3_lay_1 : decode cX3_lay 1 = .ok (.iconst 1, 1) := by decide +kernel
theorem dX3_lay_2 : decode cX3_lay 2 = .ok (.if_icmp .eq 8, 3) := by decide +kernel
theorem dX3_lay_5 : decode cX3_lay 5 = .ok (.iload_n 1, 1) := by decide +kernel
theorem dX3_lay_6 : decode cX3_lay 6 = .ok (.iconst 2, 1) := by decide +kernel
theorem dX3_lay_7 : decode cX3_lay 7 = .ok (.if_icmp .ne 7, 3) := by decide +kernel
theorem dX3_lay_10 : decode cX3_lay 10 = .ok (.iconst 1, 1) := by decide +kernel
theorem dX3_lay_11 : decode cX3_lay 11 = .ok (.goto 4, 3) := by decide +kernel
theorem dX3_lay_14 : decode cX3_lay 14 = .ok (.iconst 0, 1) := by decide +kernel
theorem dX3_lay_15 : decode cX3_lay 15 = .ok (.istore_n 2, 1) := by decide +kernel
theorem dX3_lay_16 : decode cX3_lay 16 = .ok (.iload_n 2, 1) := by decide +kernel
theorem dX3_lay_17 : decode cX3_lay 17 = .ok (.ifCond .eq 10, 3) := by decide +kernel
theorem dX3_lay_20 : decode cX3_lay 20 = .ok (.aload_n 0, 1) := by decide +kernel
theorem dX3_lay_21 : decode cX3_lay 21 = .ok (.getfield 18, 3) := by decide +kernel
theorem dX3_lay_24 : decode cX3_lay 24 = .ok (.goto 9, 3) := by decide +kernel
theorem dX3_lay_27 : decode cX3_lay 27 = .ok (.aload_n 0, 1) := by decide +kernel
theorem dX3_lay_28 : decode cX3_lay 28 = .ok (.getfield 18, 3) := by decide +kernel
theorem dX3_lay_31 : decode cX3_lay 31 = .ok (.iconst 2, 1) := by decide +kernel
theorem dX3_lay_32 : decode cX3_lay 32 = .ok (.idiv, 1) := by decide +kernel
theorem dX3_lay_33 : decode cX3_lay 33 = .ok (.istore_n 3, 1) := by decide +kernel
theorem dX3_lay_34 : decode cX3_lay 34 = .ok (.iload_n 2, 1) := by decide +kernel
theorem dX3_lay_35 : decode cX3_lay 35 = .ok (.ifCond .eq 12, 3) := by decide +kernel
theorem dX3_lay_38 : decode cX3_lay 38 = .ok (.aload_n 0, 1) := by decide +kernel
theorem dX3_lay_39 : decode cX3_lay 39 = .ok (.getfield 21, 3) := by decide +kernel
theorem dX3_lay_42 : decode cX3_lay 42 = .ok (.iconst 2, 1) := by decide +kernel
theorem dX3_lay_43 : decode cX3_lay 43 = .ok (.idiv, 1) := by decide +kernel
theorem dX3_lay_44 : decode cX3_lay 44 = .ok (.goto 7, 3) := by decide +kernel
theorem dX3_lay_47 : decode cX3_lay 47 = .ok (.aload_n 0, 1) := by decide +kernel
theorem dX3_lay_48 : decode cX3_lay 48 = .ok (.getfield 21, 3) := by decide +kernel
theorem dX3_lay_51 : decode cX3_lay 51 = .ok (.istore 4, 2) := by decide +kernel
theorem dX3_lay_53 : decode cX3_lay 53 = .ok (.iconst 0, 1) := by decide +kernel
theorem dX3_lay_54 : decode cX3_lay 54 = .ok (.istore 5, 2) := by decide +kernel
theorem dX3_lay_56 : decode cX3_lay 56 = .ok (.iload 4, 2) := by decide +kernel
theorem dX3_lay_58 : decode cX3_lay 58 = .ok (.ifCond .le 132, 3) := by decide +kernel
theorem dX3_lay_61 : decode cX3_lay 61 = .ok (.iload 5, 2) := by decide +kernel
theorem dX3_lay_63 : decode cX3_lay 63 = .ok (.iload_n 3, 1) := by decide +kernel
theorem dX3_lay_64 : decode cX3_lay 64 = .ok (.iload 4, 2) := by decide +kernel
theorem dX3_lay_66 : decode cX3_lay 66 = .ok (.imul, 1) := by decide +kernel
theorem dX3_lay_67 : decode cX3_lay 67 = .ok (.if_icmp .ge 123, 3) := by decide +kernel
theorem dX3_lay_70 : decode cX3_lay 70 = .ok (.iload 5, 2) := by decide +kernel
theorem dX3_lay_72 : decode cX3_lay 72 = .ok (.iload 4, 2) := by decide +kernel
theorem dX3_lay_74 : decode cX3_lay 74 = .ok (.idiv, 1) := by decide +kernel
theorem dX3_lay_75 : decode cX3_lay 75 = .ok (.iload_n 1, 1) := by decide +kernel
theorem dX3_lay_76 : decode cX3_lay 76 = .ok (.iconst 3, 1) := by decide +kernel
theorem dX3_lay_77 : decode cX3_lay 77 = .ok (.if_icmp .ne 7, 3) := by decide +kernel
theorem dX3_lay_80 : decode cX3_lay 80 = .ok (.iload_n 3, 1) := by decide +kernel
theorem dX3_lay_81 : decode cX3_lay 81 = .ok (.goto 4, 3) := by decide +kernel
theorem dX3_lay_84 : decode cX3_lay 84 = .ok (.iconst 0, 1) := by decide +kernel
theorem dX3_lay_85 : decode cX3_lay 85 = .ok (.iadd, 1) := by decide +kernel
theorem dX3_lay_86 : decode cX3_lay 86 = .ok (.istore 6, 2) := by decide +kernel
theorem dX3_lay_88 : decode cX3_lay 88 = .ok (.iload 5, 2) := by decide +kernel
theorem dX3_lay_90 : decode cX3_lay 90 = .ok (.iload 4, 2) := by decide +kernel
theorem dX3_lay_92 : decode cX3_lay 92 = .ok (.irem, 1) := by decide +kernel
theorem dX3_lay_93 : decode cX3_lay 93 = .ok (.iload_n 1, 1) := by decide +kernel
theorem dX3_lay_94 : decode cX3_lay 94 = .ok (.iconst 1, 1) := by decide +kernel
theorem dX3_lay_95 : decode cX3_lay 95 = .ok (.if_icmp .ne 8, 3) := by decide +kernel
theorem dX3_lay_98 : decode cX3_lay 98 = .ok (.iload 4, 2) := by decide +kernel
theorem dX3_lay_100 : decode cX3_lay 100 = .ok (.goto 4, 3) := by decide +kernel
theorem dX3_lay_103 : decode cX3_lay 103 = .ok (.iconst 0, 1) := by decide +kernel
theorem dX3_lay_104 : decode cX3_lay 104 = .ok (.iadd, 1) := by decide +kernel
theorem dX3_lay_105 : decode cX3_lay 105 = .ok (.istore 7, 2) := by decide +kernel
theorem dX3_lay_107 : decode cX3_lay 107 = .ok (.iload_n 2, 1) := by decide +kernel
theorem dX3_lay_108 : decode cX3_lay 108 = .ok (.ifCond .eq 8, 3) := by decide +kernel
theorem dX3_lay_111 : decode cX3_lay 111 = .ok (.iload 6, 2) := by decide +kernel
theorem dX3_lay_113 : decode cX3_lay 113 = .ok (.goto 12, 3) := by decide +kernel
theorem dX3_lay_116 : decode cX3_lay 116 = .ok (.aload_n 0, 1) := by decide +kernel
theorem dX3_lay_117 : decode cX3_lay 117 = .ok (.getfield 18, 3) := by decide +kernel
theorem dX3_lay_120 : decode cX3_lay 120 = .ok (.iconst 1, 1) := by decide +kernel
theorem dX3_lay_121 : decode cX3_lay 121 = .ok (.isub, 1) := by decide +kernel
theorem dX3_lay_122 : decode cX3_lay 122 = .ok (.iload 6, 2) := by decide +kernel
theorem dX3_lay_124 : decode cX3_lay 124 = .ok (.isub, 1) := by decide +kernel
theorem dX3_lay_125 : decode cX3_lay 125 = .ok (.istore 8, 2) := by decide +kernel
theorem dX3_lay_127 : decode cX3_lay 127 = .ok (.iload_n 2, 1) := by decide +kernel
theorem dX3_lay_128 : decode cX3_lay 128 = .ok (.ifCond .eq 15, 3) := by decide +kernel
theorem dX3_lay_131 : decode cX3_lay 131 = .ok (.aload_n 0, 1) := by decide +kernel
theorem dX3_lay_132 : decode cX3_lay 132 = .ok (.getfield 21, 3) := by decide +kernel
theorem dX3_lay_135 : decode cX3_lay 135 = .ok (.iconst 1, 1) := by decide +kernel
theorem dX3_lay_136 : decode cX3_lay 136 = .ok (.isub, 1) := by decide +kernel
theorem dX3_lay_137 : decode cX3_lay 137 = .ok (.iload 7, 2) := by decide +kernel
theorem dX3_lay_139 : decode cX3_lay 139 = .ok (.isub, 1) := by decide +kernel
theorem dX3_lay_140 : decode cX3_lay 140 = .ok (.goto 5, 3) := by decide +kernel
theorem dX3_lay_143 : decode cX3_lay 143 = .ok (.iload 7, 2) := by decide +kernel
theorem dX3_lay_145 : decode cX3_lay 145 = .ok (.istore 9, 2) := by decide +kernel
theorem dX3_lay_147 : decode cX3_lay 147 = .ok (.aload_n 0, 1) := by decide +kernel
theorem dX3_lay_148 : decode cX3_lay 148 = .ok (.iload 5, 2) := by decide +kernel
theorem dX3_lay_150 : decode cX3_lay 150 = .ok (.iload 8, 2) := by decide +kernel
theorem dX3_lay_152 : decode cX3_lay 152 = .ok (.aload_n 0, 1) := by decide +kernel
theorem dX3_lay_153 : decode cX3_lay 153 = .ok (.getfield 21, 3) := by decide +kernel
theorem dX3_lay_156 : decode cX3_lay 156 = .ok (.imul, 1) := by decide +kernel
theorem dX3_lay_157 : decode cX3_lay 157 = .ok (.iload 9, 2) := by decide +kernel
theorem dX3_lay_159 : decode cX3_lay 159 = .ok (.iadd, 1) := by decide +kernel
theorem dX3_lay_160 : decode cX3_lay 160 = .ok (.iload_n 2, 1) := by decide +kernel
theorem dX3_lay_161 : decode cX3_lay 161 = .ok (.ifCond .eq 8, 3) := by decide +kernel
theorem dX3_lay_164 : decode cX3_lay 164 = .ok (.bipush 16, 2) := by decide +kernel
theorem dX3_lay_166 : decode cX3_lay 166 = .ok (.goto 5, 3) := by decide +kernel
theorem dX3_lay_169 : decode cX3_lay 169 = .ok (.bipush 32, 2) := by decide +kernel
theorem dX3_lay_171 : decode cX3_lay 171 = .ok (.iload 6, 2) := by decide +kernel
theorem dX3_lay_173 : decode cX3_lay 173 = .ok (.aload_n 0, 1) := by decide +kernel
theorem dX3_lay_174 : decode cX3_lay 174 = .ok (.getfield 21, 3) := by decide +kernel
theorem dX3_lay_177 : decode cX3_lay 177 = .ok (.imul, 1) := by decide +kernel
theorem dX3_lay_178 : decode cX3_lay 178 = .ok (.iload 7, 2) := by decide +kernel
theorem dX3_lay_180 : decode cX3_lay 180 = .ok (.iadd, 1) := by decide +kernel
theorem dX3_lay_181 : decode cX3_lay 181 = .ok (.invokevirtual 51, 3) := by decide +kernel
theorem dX3_lay_184 : decode cX3_lay 184 = .ok (.iinc 5 1, 3) := by decide +kernel
theorem dX3_lay_187 : decode cX3_lay 187 = .ok (.goto (-131), 3) := by decide +kernel
theorem dX3_lay_190 : decode cX3_lay 190 = .ok (.aload_n 0, 1) := by decide +kernel
theorem dX3_lay_191 : decode cX3_lay 191 = .ok (.getfield 34, 3) := by decide +kernel
theorem dX3_lay_194 : decode cX3_lay 194 = .ok (.iconst 0, 1) := by decide +kernel
theorem dX3_lay_195 : decode cX3_lay 195 = .ok (.aload_n 0, 1) := by decide +kernel
theorem dX3_lay_196 : decode cX3_lay 196 = .ok (.getfield 30, 3) := by decide +kernel
theorem dX3_lay_199 : decode cX3_lay 199 = .ok (.iconst 0, 1) := by decide +kernel
theorem dX3_lay_200 : decode cX3_lay 200 = .ok (.bipush 16, 2) := by decide +kernel
theorem dX3_lay_202 : decode cX3_lay 202 = .ok (.invokestatic 37, 3) := by decide +kernel
theorem dX3_lay_205 : decode cX3_lay 205 = .ok (.aload_n 0, 1) := by decide +kernel
theorem dX3_lay_206 : decode cX3_lay 206 = .ok (.iload_n 3, 1) := by decide +kernel
theorem dX3_lay_207 : decode cX3_lay 207 = .ok (.putfield 18, 3) := by decide +kernel
theorem dX3_lay_210 : decode cX3_lay 210 = .ok (.aload_n 0, 1) := by decide +kernel
theorem dX3_lay_211 : decode cX3_lay 211 = .ok (.iload 4, 2) := by decide +kernel
theorem dX3_lay_213 : decode cX3_lay 213 = .ok (.putfield 21, 3) := by decide +kernel
theorem dX3_lay_216 : decode cX3_lay 216 = .ok (.aload_n 0, 1) := by decide +kernel
theorem dX3_lay_217 : decode cX3_lay 217 = .ok (.aload_n 0, 1) := by decide +kernel
theorem dX3_lay_218 : decode cX3_lay 218 = .ok (.getfield 24, 3) := by decide +kernel
theorem dX3_lay_221 : decode cX3_lay 221 = .ok (.bipush 10, 2) := by decide +kernel
theorem dX3_lay_223 : decode cX3_lay 223 = .ok (.imul, 1) := by decide +kernel
theorem dX3_lay_224 : decode cX3_lay 224 = .ok (.iload_n 1, 1) := by decide +kernel
theorem dX3_lay_225 : decode cX3_lay 225 = .ok (.iadd, 1) := by decide +kernel
theorem dX3_lay_226 : decode cX3_lay 226 = .ok (.putfield 24, 3) := by decide +kernel
theorem dX3_lay_229 : decode cX3_lay 229 = .ok (.aload_n 0, 1) := by decide +kernel
theorem dX3_lay_230 : decode cX3_lay 230 = .ok (.dup, 1) := by decide +kernel
theorem dX3_lay_231 : decode cX3_lay 231 = .ok (.getfield 27, 3) := by decide +kernel
theorem dX3_lay_234 : decode cX3_lay 234 = .ok (.iconst 1, 1) := by decide +kernel
theorem dX3_lay_235 : decode cX3_lay 235 = .ok (.iadd, 1) := by decide +kernel
theorem dX3_lay_236 : decode cX3_lay 236 = .ok (.putfield 27, 3) := by decide +kernel
theorem dX3_lay_239 : decode cX3_lay 239 = .ok (.return_, 1) := by decide +kernel
theorem dX3_pile_0 : decode cX3_pile 0 = .ok (.aload_n 0, 1) := by decide +kernel
theorem dX3_pile_1 : decode cX3_pile 1 = .ok (.invokevirtual 47, 3) := by decide +kernel
theorem dX3_pile_4 : decode cX3_pile 4 = .ok (.istore 5, 2) := by decide +kernel
theorem dX3_pile_6 : decode cX3_pile 6 = .ok (.iconst 0, 1) := by decide +kernel
theorem dX3_pile_7 : decode cX3_pile 7 = .ok (.istore 6, 2) := by decide +kernel
theorem dX3_pile_9 : decode cX3_pile 9 = .ok (.iload 6, 2) := by decide +kernel
theorem dX3_pile_11 : decode cX3_pile 11 = .ok (.iload 5, 2) := by decide +kernel
theorem dX3_pile_13 : decode cX3_pile 13 = .ok (.if_icmp .ge 81, 3) := by decide +kernel
theorem dX3_pile_16 : decode cX3_pile 16 = .ok (.iload_n 1, 1) := by decide +kernel
theorem dX3_pile_17 : decode cX3_pile 17 = .ok (.iload 5, 2) := by decide +kernel
theorem dX3_pile_19 : decode cX3_pile 19 = .ok (.imul, 1) := by decide +kernel
theorem dX3_pile_20 : decode cX3_pile 20 = .ok (.iconst 2, 1) := by decide +kernel
theorem dX3_pile_21 : decode cX3_pile 21 = .ok (.imul, 1) := by decide +kernel
theorem dX3_pile_22 : decode cX3_pile 22 = .ok (.iload 6, 2) := by decide +kernel
theorem dX3_pile_24 : decode cX3_pile 24 = .ok (.iadd, 1) := by decide +kernel
theorem dX3_pile_25 : decode cX3_pile 25 = .ok (.istore 7, 2) := by decide +kernel
theorem dX3_pile_27 : decode cX3_pile 27 = .ok (.iload 7, 2) := by decide +kernel
theorem dX3_pile_29 : decode cX3_pile 29 = .ok (.ifCond .lt 59, 3) := by decide +kernel
theorem dX3_pile_32 : decode cX3_pile 32 = .ok (.iload 7, 2) := by decide +kernel
theorem dX3_pile_34 : decode cX3_pile 34 = .ok (.iload 5, 2) := by decide +kernel
theorem dX3_pile_36 : decode cX3_pile 36 = .ok (.iadd, 1) := by decide +kernel
theorem dX3_pile_37 : decode cX3_pile 37 = .ok (.bipush 16, 2) := by decide +kernel
theorem dX3_pile_39 : decode cX3_pile 39 = .ok (.if_icmp .ge 49, 3) := by decide +kernel
theorem dX3_pile_42 : decode cX3_pile 42 = .ok (.aload_n 0, 1) := by decide +kernel
theorem dX3_pile_43 : decode cX3_pile 43 = .ok (.getfield 34, 3) := by decide +kernel
theorem dX3_pile_46 : decode cX3_pile 46 = .ok (.iload 7, 2) := by decide +kernel
theorem dX3_pile_48 : decode cX3_pile 48 = .ok (.aload_n 0, 1) := by decide +kernel
theorem dX3_pile_49 : decode cX3_pile 49 = .ok (.iload_n 2, 1) := by decide +kernel
theorem dX3_pile_50 : decode cX3_pile 50 = .ok (.iconst 1, 1) := by decide +kernel
theorem dX3_pile_51 : decode cX3_pile 51 = .ok (.iadd, 1) := by decide +kernel
theorem dX3_pile_52 : decode cX3_pile 52 = .ok (.iload 5, 2) := by decide +kernel
theorem dX3_pile_54 : decode cX3_pile 54 = .ok (.imul, 1) := by decide +kernel
theorem dX3_pile_55 : decode cX3_pile 55 = .ok (.iconst 1, 1) := by decide +kernel
theorem dX3_pile_56 : decode cX3_pile 56 = .ok (.isub, 1) := by decide +kernel
theorem dX3_pile_57 : decode cX3_pile 57 = .ok (.iload 6, 2) := by decide +kernel
theorem dX3_pile_59 : decode cX3_pile 59 = .ok (.isub, 1) := by decide +kernel
theorem dX3_pile_60 : decode cX3_pile 60 = .ok (.invokevirtual 55, 3) := by decide +kernel
theorem dX3_pile_63 : decode cX3_pile 63 = .ok (.iload_n 3, 1) := by decide +kernel
theorem dX3_pile_64 : decode cX3_pile 64 = .ok (.ixor, 1) := by decide +kernel
theorem dX3_pile_65 : decode cX3_pile 65 = .ok (.iastore, 1) := by decide +kernel
theorem dX3_pile_66 : decode cX3_pile 66 = .ok (.aload_n 0, 1) := by decide +kernel
theorem dX3_pile_67 : decode cX3_pile 67 = .ok (.getfield 34, 3) := by decide +kernel
theorem dX3_pile_70 : decode cX3_pile 70 = .ok (.iload 7, 2) := by decide +kernel
theorem dX3_pile_72 : decode cX3_pile 72 = .ok (.iload 5, 2) := by decide +kernel
theorem dX3_pile_74 : decode cX3_pile 74 = .ok (.iadd, 1) := by decide +kernel
theorem dX3_pile_75 : decode cX3_pile 75 = .ok (.aload_n 0, 1) := by decide +kernel
theorem dX3_pile_76 : decode cX3_pile 76 = .ok (.iload 4, 2) := by decide +kernel
theorem dX3_pile_78 : decode cX3_pile 78 = .ok (.iload 5, 2) := by decide +kernel
theorem dX3_pile_80 : decode cX3_pile 80 = .ok (.imul, 1) := by decide +kernel
theorem dX3_pile_81 : decode cX3_pile 81 = .ok (.iload 6, 2) := by decide +kernel
theorem dX3_pile_83 : decode cX3_pile 83 = .ok (.iadd, 1) := by decide +kernel
theorem dX3_pile_84 : decode cX3_pile 84 = .ok (.invokevirtual 55, 3) := by decide +kernel
theorem dX3_pile_87 : decode cX3_pile 87 = .ok (.iastore, 1) := by decide +kernel
theorem dX3_pile_88 : decode cX3_pile 88 = .ok (.iinc 6 1, 3) := by decide +kernel
theorem dX3_pile_91 : decode cX3_pile 91 = .ok (.goto (-82), 3) := by decide +kernel
theorem dX3_pile_94 : decode cX3_pile 94 = .ok (.return_, 1) := by decide +kernel
theorem dX3_foldBy_0 : decode cX3_foldBy 0 = .ok (.aload_n 0, 1) := by decide +kernel
theorem dX3_foldBy_1 : decode cX3_foldBy 1 = .ok (.iload_n 1, 1) := by decide +kernel
theorem dX3_foldBy_2 : decode cX3_foldBy 2 = .ok (.iload_n 2, 1) := by decide +kernel
theorem dX3_foldBy_3 : decode cX3_foldBy 3 = .ok (.invokevirtual 59, 3) := by decide +kernel
theorem dX3_foldBy_6 : decode cX3_foldBy 6 = .ok (.iload_n 3, 1) := by decide +kernel
theorem dX3_foldBy_7 : decode cX3_foldBy 7 = .ok (.iconst 0, 1) := by decide +kernel
theorem dX3_foldBy_8 : decode cX3_foldBy 8 = .ok (.sipush 4444, 3) := by decide +kernel
theorem dX3_foldBy_11 : decode cX3_foldBy 11 = .ok (.invokestatic 63, 3) := by decide +kernel
theorem dX3_foldBy_14 : decode cX3_foldBy 14 = .ok (.ifCond .ne 5, 3) := by decide +kernel
theorem dX3_foldBy_17 : decode cX3_foldBy 17 = .ok (.iconst 0, 1) := by decide +kernel
theorem dX3_foldBy_18 : decode cX3_foldBy 18 = .ok (.ireturn, 1) := by decide +kernel
theorem dX3_foldBy_19 : decode cX3_foldBy 19 = .ok (.sipush 1000, 3) := by decide +kernel
theorem dX3_foldBy_22 : decode cX3_foldBy 22 = .ok (.istore 4, 2) := by decide +kernel
theorem dX3_foldBy_24 : decode cX3_foldBy 24 = .ok (.iload 4, 2) := by decide +kernel
theorem dX3_foldBy_26 : decode cX3_foldBy 26 = .ok (.ifCond .le 45, 3) := by decide +kernel
theorem dX3_foldBy_29 : decode cX3_foldBy 29 = .ok (.iload_n 3, 1) := by decide +kernel
theorem dX3_foldBy_30 : decode cX3_foldBy 30 = .ok (.iload 4, 2) := by decide +kernel
theorem dX3_foldBy_32 : decode cX3_foldBy 32 = .ok (.if_icmp .lt 29, 3) := by decide +kernel
theorem dX3_foldBy_35 : decode cX3_foldBy 35 = .ok (.iload_n 3, 1) := by decide +kernel
theorem dX3_foldBy_36 : decode cX3_foldBy 36 = .ok (.iload 4, 2) := by decide +kernel
theorem dX3_foldBy_38 : decode cX3_foldBy 38 = .ok (.idiv, 1) := by decide +kernel
theorem dX3_foldBy_39 : decode cX3_foldBy 39 = .ok (.bipush 10, 2) := by decide +kernel
theorem dX3_foldBy_41 : decode cX3_foldBy 41 = .ok (.irem, 1) := by decide +kernel
theorem dX3_foldBy_42 : decode cX3_foldBy 42 = .ok (.istore 5, 2) := by decide +kernel
theorem dX3_foldBy_44 : decode cX3_foldBy 44 = .ok (.aload_n 0, 1) := by decide +kernel
theorem dX3_foldBy_45 : decode cX3_foldBy 45 = .ok (.iload 5, 2) := by decide +kernel
theorem dX3_foldBy_47 : decode cX3_foldBy 47 = .ok (.invokevirtual 67, 3) := by decide +kernel
theorem dX3_foldBy_50 : decode cX3_foldBy 50 = .ok (.ifCond .ne 5, 3) := by decide +kernel
theorem dX3_foldBy_53 : decode cX3_foldBy 53 = .ok (.iconst 0, 1) := by decide +kernel
theorem dX3_foldBy_54 : decode cX3_foldBy 54 = .ok (.ireturn, 1) := by decide +kernel
theorem dX3_foldBy_55 : decode cX3_foldBy 55 = .ok (.aload_n 0, 1) := by decide +kernel
theorem dX3_foldBy_56 : decode cX3_foldBy 56 = .ok (.iload 5, 2) := by decide +kernel
theorem dX3_foldBy_58 : decode cX3_foldBy 58 = .ok (.invokevirtual 71, 3) := by decide +kernel
theorem dX3_foldBy_61 : decode cX3_foldBy 61 = .ok (.iload 4, 2) := by decide +kernel
theorem dX3_foldBy_63 : decode cX3_foldBy 63 = .ok (.bipush 10, 2) := by decide +kernel
theorem dX3_foldBy_65 : decode cX3_foldBy 65 = .ok (.idiv, 1) := by decide +kernel
theorem dX3_foldBy_66 : decode cX3_foldBy 66 = .ok (.istore 4, 2) := by decide +kernel
theorem dX3_foldBy_68 : decode cX3_foldBy 68 = .ok (.goto (-44), 3) := by decide +kernel
theorem dX3_foldBy_71 : decode cX3_foldBy 71 = .ok (.aload_n 0, 1) := by decide +kernel
theorem dX3_foldBy_72 : decode cX3_foldBy 72 = .ok (.invokevirtual 75, 3) := by decide +kernel
theorem dX3_foldBy_75 : decode cX3_foldBy 75 = .ok (.ireturn, 1) := by decide +kernel
theorem dX3_at_0 : decode cX3_at 0 = .ok (.iload_n 1, 1) := by decide +kernel
theorem dX3_at_1 : decode cX3_at 1 = .ok (.ifCond .lt 18, 3) := by decide +kernel
theorem dX3_at_4 : decode cX3_at 4 = .ok (.iload_n 1, 1) := by decide +kernel
theorem dX3_at_5 : decode cX3_at 5 = .ok (.bipush 16, 2) := by decide +kernel
theorem dX3_at_7 : decode cX3_at 7 = .ok (.if_icmp .ge 12, 3) := by decide +kernel
theorem dX3_at_10 : decode cX3_at 10 = .ok (.aload_n 0, 1) := by decide +kernel
theorem dX3_at_11 : decode cX3_at 11 = .ok (.getfield 30, 3) := by decide +kernel
theorem dX3_at_14 : decode cX3_at 14 = .ok (.iload_n 1, 1) := by decide +kernel
theorem dX3_at_15 : decode cX3_at 15 = .ok (.iaload, 1) := by decide +kernel
theorem dX3_at_16 : decode cX3_at 16 = .ok (.goto 4, 3) := by decide +kernel
theorem dX3_at_19 : decode cX3_at 19 = .ok (.iconst 0, 1) := by decide +kernel
theorem dX3_at_20 : decode cX3_at 20 = .ok (.ireturn, 1) := by decide +kernel
theorem dX3_rowAt_0 : decode cX3_rowAt 0 = .ok (.aload_n 0, 1) := by decide +kernel
theorem dX3_rowAt_1 : decode cX3_rowAt 1 = .ok (.iload_n 1, 1) := by decide +kernel
theorem dX3_rowAt_2 : decode cX3_rowAt 2 = .ok (.invokevirtual 55, 3) := by decide +kernel
theorem dX3_rowAt_5 : decode cX3_rowAt 5 = .ok (.invokestatic 79, 3) := by decide +kernel
theorem dX3_rowAt_8 : decode cX3_rowAt 8 = .ok (.ireturn, 1) := by decide +kernel
theorem dX3_columnAt_0 : decode cX3_columnAt 0 = .ok (.aload_n 0, 1) := by decide +kernel
theorem dX3_columnAt_1 : decode cX3_columnAt 1 = .ok (.iload_n 1, 1) := by decide +kernel
theorem dX3_columnAt_2 : decode cX3_columnAt 2 = .ok (.invokevirtual 55, 3) := by decide +kernel
theorem dX3_columnAt_5 : decode cX3_columnAt 5 = .ok (.invokestatic 82, 3) := by decide +kernel
theorem dX3_columnAt_8 : decode cX3_columnAt 8 = .ok (.ireturn, 1) := by decide +kernel
theorem dX3_rowOf_0 : decode cX3_rowOf 0 = .ok (.iload_n 0, 1) := by decide +kernel
theorem dX3_rowOf_1 : decode cX3_rowOf 1 = .ok (.bipush 15, 2) := by decide +kernel
theorem dX3_rowOf_3 : decode cX3_rowOf 3 = .ok (.iand, 1) := by decide +kernel
theorem dX3_rowOf_4 : decode cX3_rowOf 4 = .ok (.iconst 4, 1) := by decide +kernel
theorem dX3_rowOf_5 : decode cX3_rowOf 5 = .ok (.idiv, 1) := by decide +kernel
theorem dX3_rowOf_6 : decode cX3_rowOf 6 = .ok (.ireturn, 1) := by decide +kernel
theorem dX3_columnOf_0 : decode cX3_columnOf 0 = .ok (.iload_n 0, 1) := by decide +kernel
theorem dX3_columnOf_1 : decode cX3_columnOf 1 = .ok (.bipush 15, 2) := by decide +kernel
theorem dX3_columnOf_3 : decode cX3_columnOf 3 = .ok (.iand, 1) := by decide +kernel
theorem dX3_columnOf_4 : decode cX3_columnOf 4 = .ok (.iconst 4, 1) := by decide +kernel
theorem dX3_columnOf_5 : decode cX3_columnOf 5 = .ok (.irem, 1) := by decide +kernel
theorem dX3_columnOf_6 : decode cX3_columnOf 6 = .ok (.ireturn, 1) := by decide +kernel
theorem dX3_isUpsideDown_0 : decode cX3_isUpsideDown 0 = .ok (.aload_n 0, 1) := by decide +kernel
theorem dX3_isUpsideDown_1 : decode cX3_isUpsideDown 1 = .ok (.iload_n 1, 1) := by decide +kernel
theorem dX3_isUpsideDown_2 : decode cX3_isUpsideDown 2 = .ok (.invokevirtual 55, 3) := by decide +kernel
theorem dX3_isUpsideDown_5 : decode cX3_isUpsideDown 5 = .ok (.bipush 32, 2) := by decide +kernel
theorem dX3_isUpsideDown_7 : decode cX3_isUpsideDown 7 = .ok (.iand, 1) := by decide +kernel
theorem dX3_isUpsideDown_8 : decode cX3_isUpsideDown 8 = .ok (.ifCond .eq 7, 3) := by decide +kernel
theorem dX3_isUpsideDown_11 : decode cX3_isUpsideDown 11 = .ok (.iconst 1, 1) := by decide +kernel
theorem dX3_isUpsideDown_12 : decode cX3_isUpsideDown 12 = .ok (.goto 4, 3) := by decide +kernel
theorem dX3_isUpsideDown_15 : decode cX3_isUpsideDown 15 = .ok (.iconst 0, 1) := by decide +kernel
theorem dX3_isUpsideDown_16 : decode cX3_isUpsideDown 16 = .ok (.ireturn, 1) := by decide +kernel
theorem dX3_sideUpAt_0 : decode cX3_sideUpAt 0 = .ok (.aload_n 0, 1) := by decide +kernel
theorem dX3_sideUpAt_1 : decode cX3_sideUpAt 1 = .ok (.iload_n 1, 1) := by decide +kernel
theorem dX3_sideUpAt_2 : decode cX3_sideUpAt 2 = .ok (.invokevirtual 55, 3) := by decide +kernel
theorem dX3_sideUpAt_5 : decode cX3_sideUpAt 5 = .ok (.invokestatic 85, 3) := by decide +kernel
theorem dX3_sideUpAt_8 : decode cX3_sideUpAt 8 = .ok (.ireturn, 1) := by decide +kernel
theorem dX3_sideOfPage_0 : decode cX3_sideOfPage 0 = .ok (.aload_n 0, 1) := by decide +kernel
theorem dX3_sideOfPage_1 : decode cX3_sideOfPage 1 = .ok (.iload_n 1, 1) := by decide +kernel
theorem dX3_sideOfPage_2 : decode cX3_sideOfPage 2 = .ok (.iconst 2, 1) := by decide +kernel
theorem dX3_sideOfPage_3 : decode cX3_sideOfPage 3 = .ok (.idiv, 1) := by decide +kernel
theorem dX3_sideOfPage_4 : decode cX3_sideOfPage 4 = .ok (.invokevirtual 88, 3) := by decide +kernel
theorem dX3_sideOfPage_7 : decode cX3_sideOfPage 7 = .ok (.iload_n 1, 1) := by decide +kernel
theorem dX3_sideOfPage_8 : decode cX3_sideOfPage 8 = .ok (.iconst 1, 1) := by decide +kernel
theorem dX3_sideOfPage_9 : decode cX3_sideOfPage 9 = .ok (.iand, 1) := by decide +kernel
theorem dX3_sideOfPage_10 : decode cX3_sideOfPage 10 = .ok (.ixor, 1) := by decide +kernel
theorem dX3_sideOfPage_11 : decode cX3_sideOfPage 11 = .ok (.ireturn, 1) := by decide +kernel
theorem dX3_paperPlace_0 : decode cX3_paperPlace 0 = .ok (.aload_n 0, 1) := by decide +kernel
theorem dX3_paperPlace_1 : decode cX3_paperPlace 1 = .ok (.iload_n 1, 1) := by decide +kernel
theorem dX3_paperPlace_2 : decode cX3_paperPlace 2 = .ok (.iconst 2, 1) := by decide +kernel
theorem dX3_paperPlace_3 : decode cX3_paperPlace 3 = .ok (.idiv, 1) := by decide +kernel
theorem dX3_paperPlace_4 : decode cX3_paperPlace 4 = .ok (.invokevirtual 55, 3) := by decide +kernel
theorem dX3_paperPlace_7 : decode cX3_paperPlace 7 = .ok (.istore_n 2, 1) := by decide +kernel
theorem dX3_paperPlace_8 : decode cX3_paperPlace 8 = .ok (.iload_n 2, 1) := by decide +kernel
theorem dX3_paperPlace_9 : decode cX3_paperPlace 9 = .ok (.bipush 15, 2) := by decide +kernel
theorem dX3_paperPlace_11 : decode cX3_paperPlace 11 = .ok (.iand, 1) := by decide +kernel
theorem dX3_paperPlace_12 : decode cX3_paperPlace 12 = .ok (.iload_n 2, 1) := by decide +kernel
theorem dX3_paperPlace_13 : decode cX3_paperPlace 13 = .ok (.invokestatic 85, 3) := by decide +kernel
theorem dX3_paperPlace_16 : decode cX3_paperPlace 16 = .ok (.iload_n 1, 1) := by decide +kernel
theorem dX3_paperPlace_17 : decode cX3_paperPlace 17 = .ok (.iconst 1, 1) := by decide +kernel
theorem dX3_paperPlace_18 : decode cX3_paperPlace 18 = .ok (.iand, 1) := by decide +kernel
theorem dX3_paperPlace_19 : decode cX3_paperPlace 19 = .ok (.ixor, 1) := by decide +kernel
theorem dX3_paperPlace_20 : decode cX3_paperPlace 20 = .ok (.invokestatic 91, 3) := by decide +kernel
theorem dX3_paperPlace_23 : decode cX3_paperPlace 23 = .ok (.ireturn, 1) := by decide +kernel
theorem dX3_sideUp_0 : decode cX3_sideUp 0 = .ok (.iload_n 0, 1) := by decide +kernel
theorem dX3_sideUp_1 : decode cX3_sideUp 1 = .ok (.bipush 16, 2) := by decide +kernel
theorem dX3_sideUp_3 : decode cX3_sideUp 3 = .ok (.iand, 1) := by decide +kernel
theorem dX3_sideUp_4 : decode cX3_sideUp 4 = .ok (.ifCond .eq 7, 3) := by decide +kernel
theorem dX3_sideUp_7 : decode cX3_sideUp 7 = .ok (.iconst 1, 1) := by decide +kernel
theorem dX3_sideUp_8 : decode cX3_sideUp 8 = .ok (.goto 4, 3) := by decide +kernel
theorem dX3_sideUp_11 : decode cX3_sideUp 11 = .ok (.iconst 0, 1) := by decide +kernel
theorem dX3_sideUp_12 : decode cX3_sideUp 12 = .ok (.istore_n 1, 1) := by decide +kernel
theorem dX3_sideUp_13 : decode cX3_sideUp 13 = .ok (.iload_n 0, 1) := by decide +kernel
theorem dX3_sideUp_14 : decode cX3_sideUp 14 = .ok (.bipush 32, 2) := by decide +kernel
theorem dX3_sideUp_16 : decode cX3_sideUp 16 = .ok (.iand, 1) := by decide +kernel
theorem dX3_sideUp_17 : decode cX3_sideUp 17 = .ok (.ifCond .eq 7, 3) := by decide +kernel
theorem dX3_sideUp_20 : decode cX3_sideUp 20 = .ok (.iconst 1, 1) := by decide +kernel
theorem dX3_sideUp_21 : decode cX3_sideUp 21 = .ok (.goto 4, 3) := by decide +kernel
theorem dX3_sideUp_24 : decode cX3_sideUp 24 = .ok (.iconst 0, 1) := by decide +kernel
theorem dX3_sideUp_25 : decode cX3_sideUp 25 = .ok (.istore_n 2, 1) := by decide +kernel
theorem dX3_sideUp_26 : decode cX3_sideUp 26 = .ok (.iload_n 1, 1) := by decide +kernel
theorem dX3_sideUp_27 : decode cX3_sideUp 27 = .ok (.iload_n 2, 1) := by decide +kernel
theorem dX3_sideUp_28 : decode cX3_sideUp 28 = .ok (.if_icmp .ne 7, 3) := by decide +kernel
theorem dX3_sideUp_31 : decode cX3_sideUp 31 = .ok (.iconst 0, 1) := by decide +kernel
theorem dX3_sideUp_32 : decode cX3_sideUp 32 = .ok (.goto 4, 3) := by decide +kernel
theorem dX3_sideUp_35 : decode cX3_sideUp 35 = .ok (.iconst 1, 1) := by decide +kernel
theorem dX3_sideUp_36 : decode cX3_sideUp 36 = .ok (.ireturn, 1) := by decide +kernel
theorem dX3_edgesBetween_0 : decode cX3_edgesBetween 0 = .ok (.aload_n 0, 1) := by decide +kernel
theorem dX3_edgesBetween_1 : decode cX3_edgesBetween 1 = .ok (.iload_n 1, 1) := by decide +kernel
theorem dX3_edgesBetween_2 : decode cX3_edgesBetween 2 = .ok (.invokevirtual 55, 3) := by decide +kernel
theorem dX3_edgesBetween_5 : decode cX3_edgesBetween 5 = .ok (.istore_n 3, 1) := by decide +kernel
theorem dX3_edgesBetween_6 : decode cX3_edgesBetween 6 = .ok (.aload_n 0, 1) := by decide +kernel
theorem dX3_edgesBetween_7 : decode cX3_edgesBetween 7 = .ok (.iload_n 2, 1) := by decide +kernel
theorem dX3_edgesBetween_8 : decode cX3_edgesBetween 8 = .ok (.invokevirtual 55, 3) := by decide +kernel
theorem dX3_edgesBetween_11 : decode cX3_edgesBetween 11 = .ok (.istore 4, 2) := by decide +kernel
theorem dX3_edgesBetween_13 : decode cX3_edgesBetween 13 = .ok (.iload 4, 2) := by decide +kernel
theorem dX3_edgesBetween_15 : decode cX3_edgesBetween 15 = .ok (.invokestatic 79, 3) := by decide +kernel
theorem dX3_edgesBetween_18 : decode cX3_edgesBetween 18 = .ok (.iload_n 3, 1) := by decide +kernel
theorem dX3_edgesBetween_19 : decode cX3_edgesBetween 19 = .ok (.invokestatic 79, 3) := by decide +kernel
theorem dX3_edgesBetween_22 : decode cX3_edgesBetween 22 = .ok (.isub, 1) := by decide +kernel
theorem dX3_edgesBetween_23 : decode cX3_edgesBetween 23 = .ok (.istore 5, 2) := by decide +kernel
theorem dX3_edgesBetween_25 : decode cX3_edgesBetween 25 = .ok (.iload 4, 2) := by decide +kernel
theorem dX3_edgesBetween_27 : decode cX3_edgesBetween 27 = .ok (.invokestatic 82, 3) := by decide +kernel
theorem dX3_edgesBetween_30 : decode cX3_edgesBetween 30 = .ok (.iload_n 3, 1) := by decide +kernel
theorem dX3_edgesBetween_31 : decode cX3_edgesBetween 31 = .ok (.invokestatic 82, 3) := by decide +kernel
theorem dX3_edgesBetween_34 : decode cX3_edgesBetween 34 = .ok (.isub, 1) := by decide +kernel
theorem dX3_edgesBetween_35 : decode cX3_edgesBetween 35 = .ok (.istore 6, 2) := by decide +kernel
theorem dX3_edgesBetween_37 : decode cX3_edgesBetween 37 = .ok (.iload 5, 2) := by decide +kernel
theorem dX3_edgesBetween_39 : decode cX3_edgesBetween 39 = .ok (.ifCond .ne 16, 3) := by decide +kernel
theorem dX3_edgesBetween_42 : decode cX3_edgesBetween 42 = .ok (.iload 6, 2) := by decide +kernel
theorem dX3_edgesBetween_44 : decode cX3_edgesBetween 44 = .ok (.iconst 1, 1) := by decide +kernel
theorem dX3_edgesBetween_45 : decode cX3_edgesBetween 45 = .ok (.if_icmp .ne 10, 3) := by decide +kernel
theorem dX3_edgesBetween_48 : decode cX3_edgesBetween 48 = .ok (.iconst 1, 1) := by decide +kernel
theorem dX3_edgesBetween_49 : decode cX3_edgesBetween 49 = .ok (.iload_n 3, 1) := by decide +kernel
theorem dX3_edgesBetween_50 : decode cX3_edgesBetween 50 = .ok (.invokestatic 94, 3) := by decide +kernel
theorem dX3_edgesBetween_53 : decode cX3_edgesBetween 53 = .ok (.ishl, 1) := by decide +kernel
theorem dX3_edgesBetween_54 : decode cX3_edgesBetween 54 = .ok (.ireturn, 1) := by decide +kernel
theorem dX3_edgesBetween_55 : decode cX3_edgesBetween 55 = .ok (.iload 5, 2) := by decide +kernel
theorem dX3_edgesBetween_57 : decode cX3_edgesBetween 57 = .ok (.ifCond .ne 17, 3) := by decide +kernel
theorem dX3_edgesBetween_60 : decode cX3_edgesBetween 60 = .ok (.iload 6, 2) := by decide +kernel
theorem dX3_edgesBetween_62 : decode cX3_edgesBetween 62 = .ok (.iconst (-1), 1) := by decide +kernel
theorem dX3_edgesBetween_63 : decode cX3_edgesBetween 63 = .ok (.if_icmp .ne 11, 3) := by decide +kernel
theorem dX3_edgesBetween_66 : decode cX3_edgesBetween 66 = .ok (.iconst 1, 1) := by decide +kernel
theorem dX3_edgesBetween_67 : decode cX3_edgesBetween 67 = .ok (.iload 4, 2) := by decide +kernel
theorem dX3_edgesBetween_69 : decode cX3_edgesBetween 69 = .ok (.invokestatic 94, 3) := by decide +kernel
theorem dX3_edgesBetween_72 : decode cX3_edgesBetween 72 = .ok (.ishl, 1) := by decide +kernel
theorem dX3_edgesBetween_73 : decode cX3_edgesBetween 73 = .ok (.ireturn, 1) := by decide +kernel
theorem dX3_edgesBetween_74 : decode cX3_edgesBetween 74 = .ok (.iload 6, 2) := by decide +kernel
theorem dX3_edgesBetween_76 : decode cX3_edgesBetween 76 = .ok (.ifCond .ne 16, 3) := by decide +kernel
theorem dX3_edgesBetween_79 : decode cX3_edgesBetween 79 = .ok (.iload 5, 2) := by decide +kernel
theorem dX3_edgesBetween_81 : decode cX3_edgesBetween 81 = .ok (.iconst 1, 1) := by decide +kernel
theorem dX3_edgesBetween_82 : decode cX3_edgesBetween 82 = .ok (.if_icmp .ne 10, 3) := by decide +kernel
theorem dX3_edgesBetween_85 : decode cX3_edgesBetween 85 = .ok (.iconst 1, 1) := by decide +kernel
theorem dX3_edgesBetween_86 : decode cX3_edgesBetween 86 = .ok (.iload_n 3, 1) := by decide +kernel
theorem dX3_edgesBetween_87 : decode cX3_edgesBetween 87 = .ok (.invokestatic 97, 3) := by decide +kernel
theorem dX3_edgesBetween_90 : decode cX3_edgesBetween 90 = .ok (.ishl, 1) := by decide +kernel
theorem dX3_edgesBetween_91 : decode cX3_edgesBetween 91 = .ok (.ireturn, 1) := by decide +kernel
theorem dX3_edgesBetween_92 : decode cX3_edgesBetween 92 = .ok (.iload 6, 2) := by decide +kernel
theorem dX3_edgesBetween_94 : decode cX3_edgesBetween 94 = .ok (.ifCond .ne 17, 3) := by decide +kernel
theorem dX3_edgesBetween_97 : decode cX3_edgesBetween 97 = .ok (.iload 5, 2) := by decide +kernel
theorem dX3_edgesBetween_99 : decode cX3_edgesBetween 99 = .ok (.iconst (-1), 1) := by decide +kernel
theorem dX3_edgesBetween_100 : decode cX3_edgesBetween 100 = .ok (.if_icmp .ne 11, 3) := by decide +kernel
theorem dX3_edgesBetween_103 : decode cX3_edgesBetween 103 = .ok (.iconst 1, 1) := by decide +kernel
theorem dX3_edgesBetween_104 : decode cX3_edgesBetween 104 = .ok (.iload 4, 2) := by decide +kernel
theorem dX3_edgesBetween_106 : decode cX3_edgesBetween 106 = .ok (.invokestatic 97, 3) := by decide +kernel
theorem dX3_edgesBetween_109 : decode cX3_edgesBetween 109 = .ok (.ishl, 1) := by decide +kernel
theorem dX3_edgesBetween_110 : decode cX3_edgesBetween 110 = .ok (.ireturn, 1) := by decide +kernel
theorem dX3_edgesBetween_111 : decode cX3_edgesBetween 111 = .ok (.iconst 0, 1) := by decide +kernel
theorem dX3_edgesBetween_112 : decode cX3_edgesBetween 112 = .ok (.ireturn, 1) := by decide +kernel
theorem dX3_edgeToRight_0 : decode cX3_edgeToRight 0 = .ok (.iload_n 0, 1) := by decide +kernel
theorem dX3_edgeToRight_1 : decode cX3_edgeToRight 1 = .ok (.bipush 16, 2) := by decide +kernel
theorem dX3_edgeToRight_3 : decode cX3_edgeToRight 3 = .ok (.iand, 1) := by decide +kernel
theorem dX3_edgeToRight_4 : decode cX3_edgeToRight 4 = .ok (.ifCond .eq 7, 3) := by decide +kernel
theorem dX3_edgeToRight_7 : decode cX3_edgeToRight 7 = .ok (.iconst 0, 1) := by decide +kernel
theorem dX3_edgeToRight_8 : decode cX3_edgeToRight 8 = .ok (.goto 4, 3) := by decide +kernel
theorem dX3_edgeToRight_11 : decode cX3_edgeToRight 11 = .ok (.iconst 1, 1) := by decide +kernel
theorem dX3_edgeToRight_12 : decode cX3_edgeToRight 12 = .ok (.ireturn, 1) := by decide +kernel
theorem dX3_edgeBelow_0 : decode cX3_edgeBelow 0 = .ok (.iload_n 0, 1) := by decide +kernel
theorem dX3_edgeBelow_1 : decode cX3_edgeBelow 1 = .ok (.bipush 32, 2) := by decide +kernel
theorem dX3_edgeBelow_3 : decode cX3_edgeBelow 3 = .ok (.iand, 1) := by decide +kernel
theorem dX3_edgeBelow_4 : decode cX3_edgeBelow 4 = .ok (.ifCond .eq 7, 3) := by decide +kernel
theorem dX3_edgeBelow_7 : decode cX3_edgeBelow 7 = .ok (.iconst 2, 1) := by decide +kernel
theorem dX3_edgeBelow_8 : decode cX3_edgeBelow 8 = .ok (.goto 4, 3) := by decide +kernel
theorem dX3_edgeBelow_11 : decode cX3_edgeBelow 11 = .ok (.iconst 3, 1) := by decide +kernel
theorem dX3_edgeBelow_12 : decode cX3_edgeBelow 12 = .ok (.ireturn, 1) := by decide +kernel
theorem dX3_pairsAlong_0 : decode cX3_pairsAlong 0 = .ok (.iconst 0, 1) := by decide +kernel
theorem dX3_pairsAlong_1 : decode cX3_pairsAlong 1 = .ok (.istore_n 2, 1) := by decide +kernel
theorem dX3_pairsAlong_2 : decode cX3_pairsAlong 2 = .ok (.iconst 0, 1) := by decide +kernel
theorem dX3_pairsAlong_3 : decode cX3_pairsAlong 3 = .ok (.istore_n 3, 1) := by decide +kernel
theorem dX3_pairsAlong_4 : decode cX3_pairsAlong 4 = .ok (.iload_n 3, 1) := by decide +kernel
theorem dX3_pairsAlong_5 : decode cX3_pairsAlong 5 = .ok (.aload_n 0, 1) := by decide +kernel
theorem dX3_pairsAlong_6 : decode cX3_pairsAlong 6 = .ok (.invokevirtual 47, 3) := by decide +kernel
theorem dX3_pairsAlong_9 : decode cX3_pairsAlong 9 = .ok (.if_icmp .ge 67, 3) := by decide +kernel
theorem dX3_pairsAlong_12 : decode cX3_pairsAlong 12 = .ok (.aload_n 0, 1) := by decide +kernel
theorem dX3_pairsAlong_13 : decode cX3_pairsAlong 13 = .ok (.iload_n 3, 1) := by decide +kernel
theorem dX3_pairsAlong_14 : decode cX3_pairsAlong 14 = .ok (.invokevirtual 100, 3) := by decide +kernel
theorem dX3_pairsAlong_17 : decode cX3_pairsAlong 17 = .ok (.iconst 1, 1) := by decide +kernel
theorem dX3_pairsAlong_18 : decode cX3_pairsAlong 18 = .ok (.iadd, 1) := by decide +kernel
theorem dX3_pairsAlong_19 : decode cX3_pairsAlong 19 = .ok (.aload_n 0, 1) := by decide +kernel
theorem dX3_pairsAlong_20 : decode cX3_pairsAlong 20 = .ok (.getfield 15, 3) := by decide +kernel
theorem dX3_pairsAlong_23 : decode cX3_pairsAlong 23 = .ok (.if_icmp .ge 18, 3) := by decide +kernel
theorem dX3_pairsAlong_26 : decode cX3_pairsAlong 26 = .ok (.aload_n 0, 1) := by decide +kernel
theorem dX3_pairsAlong_27 : decode cX3_pairsAlong 27 = .ok (.iload_n 3, 1) := by decide +kernel
theorem dX3_pairsAlong_28 : decode cX3_pairsAlong 28 = .ok (.invokevirtual 55, 3) := by decide +kernel
theorem dX3_pairsAlong_31 : decode cX3_pairsAlong 31 = .ok (.invokestatic 94, 3) := by decide +kernel
theorem dX3_pairsAlong_34 : decode cX3_pairsAlong 34 = .ok (.iload_n 1, 1) := by decide +kernel
theorem dX3_pairsAlong_35 : decode cX3_pairsAlong 35 = .ok (.if_icmp .ne 6, 3) := by decide +kernel
theorem dX3_pairsAlong_38 : decode cX3_pairsAlong 38 = .ok (.iinc 2 1, 3) := by decide +kernel
theorem dX3_pairsAlong_41 : decode cX3_pairsAlong 41 = .ok (.aload_n 0, 1) := by decide +kernel
theorem dX3_pairsAlong_42 : decode cX3_pairsAlong 42 = .ok (.iload_n 3, 1) := by decide +kernel
theorem dX3_pairsAlong_43 : decode cX3_pairsAlong 43 = .ok (.invokevirtual 103, 3) := by decide +kernel
theorem dX3_pairsAlong_46 : decode cX3_pairsAlong 46 = .ok (.iconst 1, 1) := by decide +kernel
theorem dX3_pairsAlong_47 : decode cX3_pairsAlong 47 = .ok (.iadd, 1) := by decide +kernel
theorem dX3_pairsAlong_48 : decode cX3_pairsAlong 48 = .ok (.aload_n 0, 1) := by decide +kernel
theorem dX3_pairsAlong_49 : decode cX3_pairsAlong 49 = .ok (.getfield 9, 3) := by decide +kernel
theorem dX3_pairsAlong_52 : decode cX3_pairsAlong 52 = .ok (.if_icmp .ge 18, 3) := by decide +kernel
theorem dX3_pairsAlong_55 : decode cX3_pairsAlong 55 = .ok (.aload_n 0, 1) := by decide +kernel
theorem dX3_pairsAlong_56 : decode cX3_pairsAlong 56 = .ok (.iload_n 3, 1) := by decide +kernel
theorem dX3_pairsAlong_57 : decode cX3_pairsAlong 57 = .ok (.invokevirtual 55, 3) := by decide +kernel
theorem dX3_pairsAlong_60 : decode cX3_pairsAlong 60 = .ok (.invokestatic 97, 3) := by decide +kernel
theorem dX3_pairsAlong_63 : decode cX3_pairsAlong 63 = .ok (.iload_n 1, 1) := by decide +kernel
theorem dX3_pairsAlong_64 : decode cX3_pairsAlong 64 = .ok (.if_icmp .ne 6, 3) := by decide +kernel
theorem dX3_pairsAlong_67 : decode cX3_pairsAlong 67 = .ok (.iinc 2 1, 3) := by decide +kernel
theorem dX3_pairsAlong_70 : decode cX3_pairsAlong 70 = .ok (.iinc 3 1, 3) := by decide +kernel
theorem dX3_pairsAlong_73 : decode cX3_pairsAlong 73 = .ok (.goto (-69), 3) := by decide +kernel
theorem dX3_pairsAlong_76 : decode cX3_pairsAlong 76 = .ok (.iload_n 2, 1) := by decide +kernel
theorem dX3_pairsAlong_77 : decode cX3_pairsAlong 77 = .ok (.ireturn, 1) := by decide +kernel
theorem dX4_init_0 : decode cX4_init 0 = .ok (.aload_n 0, 1) := by decide +kernel
theorem dX4_init_1 : decode cX4_init 1 = .ok (.invokespecial 3, 3) := by decide +kernel
theorem dX4_init_4 : decode cX4_init 4 = .ok (.aload_n 0, 1) := by decide +kernel
theorem dX4_init_5 : decode cX4_init 5 = .ok (.bipush 48, 2) := by decide +kernel
theorem dX4_init_7 : decode cX4_init 7 = .ok (.newarray .int, 2) := by decide +kernel
theorem dX4_init_9 : decode cX4_init 9 = .ok (.putfield 11, 3) := by decide +kernel
theorem dX4_init_12 : decode cX4_init 12 = .ok (.aload_n 0, 1) := by decide +kernel
theorem dX4_init_13 : decode cX4_init 13 = .ok (.iconst 0, 1) := by decide +kernel
theorem dX4_init_14 : decode cX4_init 14 = .ok (.putfield 15, 3) := by decide +kernel
theorem dX4_init_17 : decode cX4_init 17 = .ok (.return_, 1) := by decide +kernel
theorem dX4_copyFrom_0 : decode cX4_copyFrom 0 = .ok (.aload_n 0, 1) := by decide +kernel
theorem dX4_copyFrom_1 : decode cX4_copyFrom 1 = .ok (.aload_n 1, 1) := by decide +kernel
theorem dX4_copyFrom_2 : decode cX4_copyFrom 2 = .ok (.getfield 15, 3) := by decide +kernel
theorem dX4_copyFrom_5 : decode cX4_copyFrom 5 = .ok (.putfield 15, 3) := by decide +kernel
theorem dX4_copyFrom_8 : decode cX4_copyFrom 8 = .ok (.aload_n 1, 1) := by decide +kernel
theorem dX4_copyFrom_9 : decode cX4_copyFrom 9 = .ok (.getfield 11, 3) := by decide +kernel
theorem dX4_copyFrom_12 : decode cX4_copyFrom 12 = .ok (.iconst 0, 1) := by decide +kernel
theorem dX4_copyFrom_13 : decode cX4_copyFrom 13 = .ok (.aload_n 0, 1) := by decide +kernel
theorem dX4_copyFrom_14 : decode cX4_copyFrom 14 = .ok (.getfield 11, 3) := by decide +kernel
theorem dX4_copyFrom_17 : decode cX4_copyFrom 17 = .ok (.iconst 0, 1) := by decide +kernel
theorem dX4_copyFrom_18 : decode cX4_copyFrom 18 = .ok (.bipush 48, 2) := by decide +kernel
theorem dX4_copyFrom_20 : decode cX4_copyFrom 20 = .ok (.invokestatic 19, 3) := by decide +kernel
theorem dX4_copyFrom_23 : decode cX4_copyFrom 23 = .ok (.return_, 1) := by decide +kernel
theorem dX4_get_0 : decode cX4_get 0 = .ok (.iload_n 1, 1) := by decide +kernel
theorem dX4_get_1 : decode cX4_get 1 = .ok (.iconst 4, 1) := by decide +kernel
theorem dX4_get_2 : decode cX4_get 2 = .ok (.imul, 1) := by decide +kernel
theorem dX4_get_3 : decode cX4_get 3 = .ok (.iload_n 2, 1) := by decide +kernel
theorem dX4_get_4 : decode cX4_get 4 = .ok (.iadd, 1) := by decide +kernel
theorem dX4_get_5 : decode cX4_get 5 = .ok (.istore_n 3, 1) := by decide +kernel
theorem dX4_get_6 : decode cX4_get 6 = .ok (.iload_n 3, 1) := by decide +kernel
theorem dX4_get_7 : decode cX4_get 7 = .ok (.iconst 0, 1) := by decide +kernel
theorem dX4_get_8 : decode cX4_get 8 = .ok (.aload_n 0, 1) := by decide +kernel
theorem dX4_get_9 : decode cX4_get 9 = .ok (.getfield 11, 3) := by decide +kernel
theorem dX4_get_12 : decode cX4_get 12 = .ok (.arraylength, 1) := by decide +kernel
theorem dX4_get_13 : decode cX4_get 13 = .ok (.iconst 1, 1) := by decide +kernel
theorem dX4_get_14 : decode cX4_get 14 = .ok (.isub, 1) := by decide +kernel
theorem dX4_get_15 : decode cX4_get 15 = .ok (.invokestatic 25, 3) := by decide +kernel
theorem dX4_get_18 : decode cX4_get 18 = .ok (.ifCond .eq 12, 3) := by decide +kernel
theorem dX4_get_21 : decode cX4_get 21 = .ok (.aload_n 0, 1) := by decide +kernel
theorem dX4_get_22 : decode cX4_get 22 = .ok (.getfield 11, 3) := by decide +kernel
theorem dX4_get_25 : decode cX4_get 25 = .ok (.iload_n 3, 1) := by decide +kernel
theorem dX4_get_26 : decode cX4_get 26 = .ok (.iaload, 1) := by decide +kernel
theorem dX4_get_27 : decode cX4_get 27 = .ok (.goto 4, 3) := by decide +kernel
theorem dX4_get_30 : decode cX4_get 30 = .ok (.iconst 0, 1) := by decide +kernel
theorem dX4_get_31 : decode cX4_get 31 = .ok (.ireturn, 1) := by decide +kernel
theorem dX4_subjectOf_0 : decode cX4_subjectOf 0 = .ok (.aload_n 0, 1) := by decide +kernel
theorem dX4_subjectOf_1 : decode cX4_subjectOf 1 = .ok (.iload_n 1, 1) := by decide +kernel
theorem dX4_subjectOf_2 : decode cX4_subjectOf 2 = .ok (.iconst 0, 1) := by decide +kernel
theorem dX4_subjectOf_3 : decode cX4_subjectOf 3 = .ok (.invokevirtual 33, 3) := by decide +kernel
theorem dX4_subjectOf_6 : decode cX4_subjectOf 6 = .ok (.ireturn, 1) := by decide +kernel
theorem dX4_linesOf_0 : decode cX4_linesOf 0 = .ok (.aload_n 0, 1) := by decide +kernel
theorem dX4_linesOf_1 : decode cX4_linesOf 1 = .ok (.iload_n 1, 1) := by decide +kernel
theorem dX4_linesOf_2 : decode cX4_linesOf 2 = .ok (.iconst 2, 1) := by decide +kernel
theorem dX4_linesOf_3 : decode cX4_linesOf 3 = .ok (.invokevirtual 33, 3) := by decide +kernel
theorem dX4_linesOf_6 : decode cX4_linesOf 6 = .ok (.ireturn, 1) := by decide +kernel
theorem dX4_isWhole_0 : decode cX4_isWhole 0 = .ok (.aload_n 0, 1) := by decide +kernel
theorem dX4_isWhole_1 : decode cX4_isWhole 1 = .ok (.iload_n 1, 1) := by decide +kernel
theorem dX4_isWhole_2 : decode cX4_isWhole 2 = .ok (.iconst 3, 1) := by decide +kernel
theorem dX4_isWhole_3 : decode cX4_isWhole 3 = .ok (.invokevirtual 33, 3) := by decide +kernel
theorem dX4_isWhole_6 : decode cX4_isWhole 6 = .ok (.iconst 1, 1) := by decide +kernel
theorem dX4_isWhole_7 : decode cX4_isWhole 7 = .ok (.if_icmp .ne 7, 3) := by decide +kernel
theorem dX4_isWhole_10 : decode cX4_isWhole 10 = .ok (.iconst 1, 1) := by decide +kernel
theorem dX4_isWhole_11 : decode cX4_isWhole 11 = .ok (.goto 4, 3) := by decide +kernel
theorem dX4_isWhole_14 : decode cX4_isWhole 14 = .ok (.iconst 0, 1) := by decide +kernel
theorem dX4_isWhole_15 : decode cX4_isWhole 15 = .ok (.ireturn, 1) := by decide +kernel
theorem dX4_comesBefore_0 : decode cX4_comesBefore 0 = .ok (.aload_n 0, 1) := by decide +kernel
theorem dX4_comesBefore_1 : decode cX4_comesBefore 1 = .ok (.iload_n 1, 1) := by decide +kernel
theorem dX4_comesBefore_2 : decode cX4_comesBefore 2 = .ok (.iconst 1, 1) := by decide +kernel
theorem dX4_comesBefore_3 : decode cX4_comesBefore 3 = .ok (.invokevirtual 33, 3) := by decide +kernel
theorem dX4_comesBefore_6 : decode cX4_comesBefore 6 = .ok (.aload_n 0, 1) := by decide +kernel
theorem dX4_comesBefore_7 : decode cX4_comesBefore 7 = .ok (.iload_n 2, 1) := by decide +kernel
theorem dX4_comesBefore_8 : decode cX4_comesBefore 8 = .ok (.iconst 1, 1) := by decide +kernel
theorem dX4_comesBefore_9 : decode cX4_comesBefore 9 = .ok (.invokevirtual 33, 3) := by decide +kernel
theorem dX4_comesBefore_12 : decode cX4_comesBefore 12 = .ok (.if_icmp .eq 24, 3) := by decide +kernel
theorem dX4_comesBefore_15 : decode cX4_comesBefore 15 = .ok (.aload_n 0, 1) := by decide +kernel
theorem dX4_comesBefore_16 : decode cX4_comesBefore 16 = .ok (.iload_n 1, 1) := by decide +kernel
theorem dX4_comesBefore_17 : decode cX4_comesBefore 17 = .ok (.iconst 1, 1) := by decide +kernel
theorem dX4_comesBefore_18 : decode cX4_comesBefore 18 = .ok (.invokevirtual 33, 3) := by decide +kernel
theorem dX4_comesBefore_21 : decode cX4_comesBefore 21 = .ok (.aload_n 0, 1) := by decide +kernel
theorem dX4_comesBefore_22 : decode cX4_comesBefore 22 = .ok (.iload_n 2, 1) := by decide +kernel
theorem dX4_comesBefore_23 : decode cX4_comesBefore 23 = .ok (.iconst 1, 1) := by decide +kernel
theorem dX4_comesBefore_24 : decode cX4_comesBefore 24 = .ok (.invokevirtual 33, 3) := by decide +kernel
theorem dX4_comesBefore_27 : decode cX4_comesBefore 27 = .ok (.if_icmp .le 7, 3) := by decide +kernel
theorem dX4_comesBefore_30 : decode cX4_comesBefore 30 = .ok (.iconst 1, 1) := by decide +kernel
theorem dX4_comesBefore_31 : decode cX4_comesBefore 31 = .ok (.goto 4, 3) := by decide +kernel
theorem dX4_comesBefore_34 : decode cX4_comesBefore 34 = .ok (.iconst 0, 1) := by decide +kernel
theorem dX4_comesBefore_35 : decode cX4_comesBefore 35 = .ok (.ireturn, 1) := by decide +kernel
theorem dX4_comesBefore_36 : decode cX4_comesBefore 36 = .ok (.aload_n 0, 1) := by decide +kernel
theorem dX4_comesBefore_37 : decode cX4_comesBefore 37 = .ok (.iload_n 1, 1) := by decide +kernel
theorem dX4_comesBefore_38 : decode cX4_comesBefore 38 = .ok (.invokevirtual 37, 3) := by decide +kernel
theorem dX4_comesBefore_41 : decode cX4_comesBefore 41 = .ok (.aload_n 0, 1) := by decide +kernel
theorem dX4_comesBefore_42 : decode cX4_comesBefore 42 = .ok (.iload_n 2, 1) := by decide +kernel
theorem dX4_comesBefore_43 : decode cX4_comesBefore 43 = .ok (.invokevirtual 37, 3) := by decide +kernel
theorem dX4_comesBefore_46 : decode cX4_comesBefore 46 = .ok (.if_icmp .eq 22, 3) := by decide +kernel
theorem dX4_comesBefore_49 : decode cX4_comesBefore 49 = .ok (.aload_n 0, 1) := by decide +kernel
theorem dX4_comesBefore_50 : decode cX4_comesBefore 50 = .ok (.iload_n 1, 1) := by decide +kernel
theorem dX4_comesBefore_51 : decode cX4_comesBefore 51 = .ok (.invokevirtual 37, 3) := by decide +kernel
theorem dX4_comesBefore_54 : decode cX4_comesBefore 54 = .ok (.aload_n 0, 1) := by decide +kernel
theorem dX4_comesBefore_55 : decode cX4_comesBefore 55 = .ok (.iload_n 2, 1) := by decide +kernel
theorem dX4_comesBefore_56 : decode cX4_comesBefore 56 = .ok (.invokevirtual 37, 3) := by decide +kernel
theorem dX4_comesBefore_59 : decode cX4_comesBefore 59 = .ok (.if_icmp .ge 7, 3) := by decide +kernel
theorem dX4_comesBefore_62 : decode cX4_comesBefore 62 = .ok (.iconst 1, 1) := by decide +kernel
theorem dX4_comesBefore_63 : decode cX4_comesBefore 63 = .ok (.goto 4, 3) := by decide +kernel
theorem dX4_comesBefore_66 : decode cX4_comesBefore 66 = .ok (.iconst 0, 1) := by decide +kernel
theorem dX4_comesBefore_67 : decode cX4_comesBefore 67 = .ok (.ireturn, 1) := by decide +kernel
theorem dX4_comesBefore_68 : decode cX4_comesBefore 68 = .ok (.iload_n 1, 1) := by decide +kernel
theorem dX4_comesBefore_69 : decode cX4_comesBefore 69 = .ok (.iload_n 2, 1) := by decide +kernel
theorem dX4_comesBefore_70 : decode cX4_comesBefore 70 = .ok (.if_icmp .ge 7, 3) := by decide +kernel
theorem dX4_comesBefore_73 : decode cX4_comesBefore 73 = .ok (.iconst 1, 1) := by decide +kernel
theorem dX4_comesBefore_74 : decode cX4_comesBefore 74 = .ok (.goto 4, 3) := by decide +kernel
theorem dX4_comesBefore_77 : decode cX4_comesBefore 77 = .ok (.iconst 0, 1) := by decide +kernel
theorem dX4_comesBefore_78 : decode cX4_comesBefore 78 = .ok (.ireturn, 1) := by decide +kernel
theorem dX5_init_0 : decode cX5_init 0 = .ok (.aload_n 0, 1) := by decide +kernel
theorem dX5_init_1 : decode cX5_init 1 = .ok (.invokespecial 3, 3) := by decide +kernel
theorem dX5_init_4 : decode cX5_init 4 = .ok (.aload_n 0, 1) := by decide +kernel
theorem dX5_init_5 : decode cX5_init 5 = .ok (.iconst 0, 1) := by decide +kernel
theorem dX5_init_6 : decode cX5_init 6 = .ok (.putfield 9, 3) := by decide +kernel
theorem dX5_init_9 : decode cX5_init 9 = .ok (.aload_n 0, 1) := by decide +kernel
theorem dX5_init_10 : decode cX5_init 10 = .ok (.iconst 0, 1) := by decide +kernel
theorem dX5_init_11 : decode cX5_init 11 = .ok (.putfield 15, 3) := by decide +kernel
theorem dX5_init_14 : decode cX5_init 14 = .ok (.aload_n 0, 1) := by decide +kernel
theorem dX5_init_15 : decode cX5_init 15 = .ok (.bipush 32, 2) := by decide +kernel
theorem dX5_init_17 : decode cX5_init 17 = .ok (.newarray .int, 2) := by decide +kernel
theorem dX5_init_19 : decode cX5_init 19 = .ok (.putfield 18, 3) := by decide +kernel
theorem dX5_init_22 : decode cX5_init 22 = .ok (.aload_n 0, 1) := by decide +kernel
theorem dX5_init_23 : decode cX5_init 23 = .ok (.bipush 32, 2) := by decide +kernel
theorem dX5_init_25 : decode cX5_init 25 = .ok (.newarray .int, 2) := by decide +kernel
theorem dX5_init_27 : decode cX5_init 27 = .ok (.putfield 22, 3) := by decide +kernel
theorem dX5_init_30 : decode cX5_init 30 = .ok (.return_, 1) := by decide +kernel
theorem dX5_copyFrom_0 : decode cX5_copyFrom 0 = .ok (.aload_n 0, 1) := by decide +kernel
theorem dX5_copyFrom_1 : decode cX5_copyFrom 1 = .ok (.aload_n 1, 1) := by decide +kernel
theorem dX5_copyFrom_2 : decode cX5_copyFrom 2 = .ok (.getfield 9, 3) := by decide +kernel
theorem dX5_copyFrom_5 : decode cX5_copyFrom 5 = .ok (.putfield 9, 3) := by decide +kernel
theorem dX5_copyFrom_8 : decode cX5_copyFrom 8 = .ok (.aload_n 0, 1) := by decide +kernel
theorem dX5_copyFrom_9 : decode cX5_copyFrom 9 = .ok (.aload_n 1, 1) := by decide +kernel
theorem dX5_copyFrom_10 : decode cX5_copyFrom 10 = .ok (.getfield 15, 3) := by decide +kernel
theorem dX5_copyFrom_13 : decode cX5_copyFrom 13 = .ok (.putfield 15, 3) := by decide +kernel
theorem dX5_copyFrom_16 : decode cX5_copyFrom 16 = .ok (.aload_n 1, 1) := by decide +kernel
theorem dX5_copyFrom_17 : decode cX5_copyFrom 17 = .ok (.getfield 18, 3) := by decide +kernel
theorem dX5_copyFrom_20 : decode cX5_copyFrom 20 = .ok (.iconst 0, 1) := by decide +kernel
theorem dX5_copyFrom_21 : decode cX5_copyFrom 21 = .ok (.aload_n 0, 1) := by decide +kernel
theorem dX5_copyFrom_22 : decode cX5_copyFrom 22 = .ok (.getfield 18, 3) := by decide +kernel
theorem dX5_copyFrom_25 : decode cX5_copyFrom 25 = .ok (.iconst 0, 1) := by decide +kernel
theorem dX5_copyFrom_26 : decode cX5_copyFrom 26 = .ok (.bipush 32, 2) := by decide +kernel
theorem dX5_copyFrom_28 : decode cX5_copyFrom 28 = .ok (.invokestatic 25, 3) := by decide +kernel
theorem dX5_copyFrom_31 : decode cX5_copyFrom 31 = .ok (.aload_n 1, 1) := by decide +kernel
theorem dX5_copyFrom_32 : decode cX5_copyFrom 32 = .ok (.getfield 22, 3) := by decide +kernel
theorem dX5_copyFrom_35 : decode cX5_copyFrom 35 = .ok (.iconst 0, 1) := by decide +kernel
theorem dX5_copyFrom_36 : decode cX5_copyFrom 36 = .ok (.aload_n 0, 1) := by decide +kernel
theorem dX5_copyFrom_37 : decode cX5_copyFrom 37 = .ok (.getfield 22, 3) := by decide +kernel
theorem dX5_copyFrom_40 : decode cX5_copyFrom 40 = .ok (.iconst 0, 1) := by decide +kernel
theorem dX5_copyFrom_41 : decode cX5_copyFrom 41 = .ok (.bipush 32, 2) := by decide +kernel
theorem dX5_copyFrom_43 : decode cX5_copyFrom 43 = .ok (.invokestatic 25, 3) := by decide +kernel
theorem dX5_copyFrom_46 : decode cX5_copyFrom 46 = .ok (.return_, 1) := by decide +kernel
theorem dX5_renew_0 : decode cX5_renew 0 = .ok (.aload_n 0, 1) := by decide +kernel
theorem dX5_renew_1 : decode cX5_renew 1 = .ok (.iload_n 1, 1) := by decide +kernel
theorem dX5_renew_2 : decode cX5_renew 2 = .ok (.putfield 9, 3) := by decide +kernel
theorem dX5_renew_5 : decode cX5_renew 5 = .ok (.aload_n 0, 1) := by decide +kernel
theorem dX5_renew_6 : decode cX5_renew 6 = .ok (.iload_n 2, 1) := by decide +kernel
theorem dX5_renew_7 : decode cX5_renew 7 = .ok (.putfield 15, 3) := by decide +kernel
theorem dX5_renew_10 : decode cX5_renew 10 = .ok (.aload_n 0, 1) := by decide +kernel
theorem dX5_renew_11 : decode cX5_renew 11 = .ok (.getfield 18, 3) := by decide +kernel
theorem dX5_renew_14 : decode cX5_renew 14 = .ok (.bipush (-9), 2) := by decide +kernel
theorem dX5_renew_16 : decode cX5_renew 16 = .ok (.invokestatic 31, 3) := by decide +kernel
theorem dX5_renew_19 : decode cX5_renew 19 = .ok (.aload_n 0, 1) := by decide +kernel
theorem dX5_renew_20 : decode cX5_renew 20 = .ok (.getfield 22, 3) := by decide +kernel
theorem dX5_renew_23 : decode cX5_renew 23 = .ok (.iconst 0, 1) := by decide +kernel
theorem dX5_renew_24 : decode cX5_renew 24 = .ok (.invokestatic 31, 3) := by decide +kernel
theorem dX5_renew_27 : decode cX5_renew 27 = .ok (.return_, 1) := by decide +kernel
theorem dX5_cells_0 : decode cX5_cells 0 = .ok (.aload_n 0, 1) := by decide +kernel
theorem dX5_cells_1 : decode cX5_cells 1 = .ok (.getfield 9, 3) := by decide +kernel
theorem dX5_cells_4 : decode cX5_cells 4 = .ok (.aload_n 0, 1) := by decide +kernel
theorem dX5_cells_5 : decode cX5_cells 5 = .ok (.getfield 15, 3) := by decide +kernel
theorem dX5_cells_8 : decode cX5_cells 8 = .ok (.imul, 1) := by decide +kernel
theorem dX5_cells_9 : decode cX5_cells 9 = .ok (.ireturn, 1) := by decide +kernel
theorem dX5_hasSide_0 : decode cX5_hasSide 0 = .ok (.iload_n 1, 1) := by decide +kernel
theorem dX5_hasSide_1 : decode cX5_hasSide 1 = .ok (.iconst 0, 1) := by decide +kernel
theorem dX5_hasSide_2 : decode cX5_hasSide 2 = .ok (.aload_n 0, 1) := by decide +kernel
theorem dX5_hasSide_3 : decode cX5_hasSide 3 = .ok (.getfield 9, 3) := by decide +kernel
theorem dX5_hasSide_6 : decode cX5_hasSide 6 = .ok (.iconst 1, 1) := by decide +kernel
theorem dX5_hasSide_7 : decode cX5_hasSide 7 = .ok (.isub, 1) := by decide +kernel
theorem dX5_hasSide_8 : decode cX5_hasSide 8 = .ok (.invokestatic 37, 3) := by decide +kernel
theorem dX5_hasSide_11 : decode cX5_hasSide 11 = .ok (.ifCond .eq 30, 3) := by decide +kernel
theorem dX5_hasSide_14 : decode cX5_hasSide 14 = .ok (.iload_n 2, 1) := by decide +kernel
theorem dX5_hasSide_15 : decode cX5_hasSide 15 = .ok (.iconst 0, 1) := by decide +kernel
theorem dX5_hasSide_16 : decode cX5_hasSide 16 = .ok (.aload_n 0, 1) := by decide +kernel
theorem dX5_hasSide_17 : decode cX5_hasSide 17 = .ok (.getfield 15, 3) := by decide +kernel
theorem dX5_hasSide_20 : decode cX5_hasSide 20 = .ok (.iconst 1, 1) := by decide +kernel
theorem dX5_hasSide_21 : decode cX5_hasSide 21 = .ok (.isub, 1) := by decide +kernel
theorem dX5_hasSide_22 : decode cX5_hasSide 22 = .ok (.invokestatic 37, 3) := by decide +kernel
theorem dX5_hasSide_25 : decode cX5_hasSide 25 = .ok (.ifCond .eq 16, 3) := by decide +kernel
theorem dX5_hasSide_28 : decode cX5_hasSide 28 = .ok (.iload_n 3, 1) := by decide +kernel
theorem dX5_hasSide_29 : decode cX5_hasSide 29 = .ok (.iconst 0, 1) := by decide +kernel
theorem dX5_hasSide_30 : decode cX5_hasSide 30 = .ok (.iconst 1, 1) := by decide +kernel
theorem dX5_hasSide_31 : decode cX5_hasSide 31 = .ok (.invokestatic 37, 3) := by decide +kernel
theorem dX5_hasSide_34 : decode cX5_hasSide 34 = .ok (.ifCond .eq 7, 3) := by decide +kernel
theorem dX5_hasSide_37 : decode cX5_hasSide 37 = .ok (.iconst 1, 1) := by decide +kernel
theorem dX5_hasSide_38 : decode cX5_hasSide 38 = .ok (.goto 4, 3) := by decide +kernel
theorem dX5_hasSide_41 : decode cX5_hasSide 41 = .ok (.iconst 0, 1) := by decide +kernel
theorem dX5_hasSide_42 : decode cX5_hasSide 42 = .ok (.ireturn, 1) := by decide +kernel
theorem dX5_numberAt_0 : decode cX5_numberAt 0 = .ok (.iload_n 1, 1) := by decide +kernel
theorem dX5_numberAt_1 : decode cX5_numberAt 1 = .ok (.iconst 0, 1) := by decide +kernel
theorem dX5_numberAt_2 : decode cX5_numberAt 2 = .ok (.bipush 31, 2) := by decide +kernel
theorem dX5_numberAt_4 : decode cX5_numberAt 4 = .ok (.invokestatic 37, 3) := by decide +kernel
theorem dX5_numberAt_7 : decode cX5_numberAt 7 = .ok (.ifCond .eq 12, 3) := by decide +kernel
theorem dX5_numberAt_10 : decode cX5_numberAt 10 = .ok (.aload_n 0, 1) := by decide +kernel
theorem dX5_numberAt_11 : decode cX5_numberAt 11 = .ok (.getfield 18, 3) := by decide +kernel
theorem dX5_numberAt_14 : decode cX5_numberAt 14 = .ok (.iload_n 1, 1) := by decide +kernel
theorem dX5_numberAt_15 : decode cX5_numberAt 15 = .ok (.iaload, 1) := by decide +kernel
theorem dX5_numberAt_16 : decode cX5_numberAt 16 = .ok (.goto 5, 3) := by decide +kernel
theorem dX5_numberAt_19 : decode cX5_numberAt 19 = .ok (.bipush (-9), 2) := by decide +kernel
theorem dX5_numberAt_21 : decode cX5_numberAt 21 = .ok (.ireturn, 1) := by decide +kernel
theorem dX5_turnAt_0 : decode cX5_turnAt 0 = .ok (.iload_n 1, 1) := by decide +kernel
theorem dX5_turnAt_1 : decode cX5_turnAt 1 = .ok (.iconst 0, 1) := by decide +kernel
theorem dX5_turnAt_2 : decode cX5_turnAt 2 = .ok (.bipush 31, 2) := by decide +kernel
theorem dX5_turnAt_4 : decode cX5_turnAt 4 = .ok (.invokestatic 37, 3) := by decide +kernel
theorem dX5_turnAt_7 : decode cX5_turnAt 7 = .ok (.ifCond .eq 12, 3) := by decide +kernel
theorem dX5_turnAt_10 : decode cX5_turnAt 10 = .ok (.aload_n 0, 1) := by decide +kernel
theorem dX5_turnAt_11 : decode cX5_turnAt 11 = .ok (.getfield 22, 3) := by decide +kernel
theorem dX5_turnAt_14 : decode cX5_turnAt 14 = .ok (.iload_n 1, 1) := by decide +kernel
theorem dX5_turnAt_15 : decode cX5_turnAt 15 = .ok (.iaload, 1) := by decide +kernel
theorem dX5_turnAt_16 : decode cX5_turnAt 16 = .ok (.goto 4, 3) := by decide +kernel
theorem dX5_turnAt_19 : decode cX5_turnAt 19 = .ok (.iconst 0, 1) := by decide +kernel
theorem dX5_turnAt_20 : decode cX5_turnAt 20 = .ok (.ireturn, 1) := by decide +kernel
theorem dX5_stamp_0 : decode cX5_stamp 0 = .ok (.iload_n 1, 1) := by decide +kernel
theorem dX5_stamp_1 : decode cX5_stamp 1 = .ok (.iconst 0, 1) := by decide +kernel
theorem dX5_stamp_2 : decode cX5_stamp 2 = .ok (.bipush 31, 2) := by decide +kernel
theorem dX5_stamp_4 : decode cX5_stamp 4 = .ok (.invokestatic 37, 3) := by decide +kernel
theorem dX5_stamp_7 : decode cX5_stamp 7 = .ok (.ifCond .eq 23, 3) := by decide +kernel
theorem dX5_stamp_10 : decode cX5_stamp 10 = .ok (.aload_n 0, 1) := by decide +kernel
theorem dX5_stamp_11 : decode cX5_stamp 11 = .ok (.getfield 18, 3) := by decide +kernel
theorem dX5_stamp_14 : decode cX5_stamp 14 = .ok (.iload_n 1, 1) := by decide +kernel
theorem dX5_stamp_15 : decode cX5_stamp 15 = .ok (.iaload, 1) := by decide +kernel
theorem dX5_stamp_16 : decode cX5_stamp 16 = .ok (.iload_n 2, 1) := by decide +kernel
theorem dX5_stamp_17 : decode cX5_stamp 17 = .ok (.if_icmp .ne 15, 3) := by decide +kernel
theorem dX5_stamp_20 : decode cX5_stamp 20 = .ok (.aload_n 0, 1) := by decide +kernel
theorem dX5_stamp_21 : decode cX5_stamp 21 = .ok (.getfield 22, 3) := by decide +kernel
theorem dX5_stamp_24 : decode cX5_stamp 24 = .ok (.iload_n 1, 1) := by decide +kernel
theorem dX5_stamp_25 : decode cX5_stamp 25 = .ok (.iaload, 1) := by decide +kernel
theorem dX5_stamp_26 : decode cX5_stamp 26 = .ok (.iload_n 3, 1) := by decide +kernel
theorem dX5_stamp_27 : decode cX5_stamp 27 = .ok (.if_icmp .ne 5, 3) := by decide +kernel
theorem dX5_stamp_30 : decode cX5_stamp 30 = .ok (.iconst 0, 1) := by decide +kernel
theorem dX5_stamp_31 : decode cX5_stamp 31 = .ok (.ireturn, 1) := by decide +kernel
theorem dX5_stamp_32 : decode cX5_stamp 32 = .ok (.aload_n 0, 1) := by decide +kernel
theorem dX5_stamp_33 : decode cX5_stamp 33 = .ok (.getfield 18, 3) := by decide +kernel
theorem dX5_stamp_36 : decode cX5_stamp 36 = .ok (.iload_n 1, 1) := by decide +kernel
theorem dX5_stamp_37 : decode cX5_stamp 37 = .ok (.iload_n 2, 1) := by decide +kernel
theorem dX5_stamp_38 : decode cX5_stamp 38 = .ok (.iastore, 1) := by decide +kernel
theorem dX5_stamp_39 : decode cX5_stamp 39 = .ok (.aload_n 0, 1) := by decide +kernel
theorem dX5_stamp_40 : decode cX5_stamp 40 = .ok (.getfield 22, 3) := by decide +kernel
theorem dX5_stamp_43 : decode cX5_stamp 43 = .ok (.iload_n 1, 1) := by decide +kernel
theorem dX5_stamp_44 : decode cX5_stamp 44 = .ok (.iload_n 3, 1) := by decide +kernel
theorem dX5_stamp_45 : decode cX5_stamp 45 = .ok (.iastore, 1) := by decide +kernel
theorem dX5_stamp_46 : decode cX5_stamp 46 = .ok (.iconst 1, 1) := by decide +kernel
theorem dX5_stamp_47 : decode cX5_stamp 47 = .ok (.ireturn, 1) := by decide +kernel
theorem dX6_init_0 : decode cX6_init 0 = .ok (.aload_n 0, 1) := by decide +kernel
theorem dX6_init_1 : decode cX6_init 1 = .ok (.invokespecial 3, 3) := by decide +kernel
theorem dX6_init_4 : decode cX6_init 4 = .ok (.aload_n 0, 1) := by decide +kernel
theorem dX6_init_5 : decode cX6_init 5 = .ok (.bipush 120, 2) := by decide +kernel
theorem dX6_init_7 : decode cX6_init 7 = .ok (.newarray .int, 2) := by decide +kernel
theorem dX6_init_9 : decode cX6_init 9 = .ok (.putfield 9, 3) := by decide +kernel
theorem dX6_init_12 : decode cX6_init 12 = .ok (.aload_n 0, 1) := by decide +kernel
theorem dX6_init_13 : decode cX6_init 13 = .ok (.iconst 0, 1) := by decide +kernel
theorem dX6_init_14 : decode cX6_init 14 = .ok (.putfield 15, 3) := by decide +kernel
theorem dX6_init_17 : decode cX6_init 17 = .ok (.aload_n 0, 1) := by decide +kernel
theorem dX6_init_18 : decode cX6_init 18 = .ok (.iconst 0, 1) := by decide +kernel
theorem dX6_init_19 : decode cX6_init 19 = .ok (.putfield 19, 3) := by decide +kernel
theorem dX6_init_22 : decode cX6_init 22 = .ok (.aload_n 0, 1) := by decide +kernel
theorem dX6_init_23 : decode cX6_init 23 = .ok (.iconst 0, 1) := by decide +kernel
theorem dX6_init_24 : decode cX6_init 24 = .ok (.putfield 22, 3) := by decide +kernel
theorem dX6_init_27 : decode cX6_init 27 = .ok (.return_, 1) := by decide +kernel
theorem dX7_init_0 : decode cX7_init 0 = .ok (.aload_n 0, 1) := by decide +kernel
theorem dX7_init_1 : decode cX7_init 1 = .ok (.invokespecial 3, 3) := by decide +kernel
theorem dX7_init_4 : decode cX7_init 4 = .ok (.aload_n 0, 1) := by decide +kernel
theorem dX7_init_5 : decode cX7_init 5 = .ok (.bipush 8, 2) := by decide +kernel
theorem dX7_init_7 : decode cX7_init 7 = .ok (.newarray .int, 2) := by decide +kernel
theorem dX7_init_9 : decode cX7_init 9 = .ok (.putfield 9, 3) := by decide +kernel
theorem dX7_init_12 : decode cX7_init 12 = .ok (.aload_n 0, 1) := by decide +kernel
theorem dX7_init_13 : decode cX7_init 13 = .ok (.bipush 8, 2) := by decide +kernel
theorem dX7_init_15 : decode cX7_init 15 = .ok (.newarray .int, 2) := by decide +kernel
theorem dX7_init_17 : decode cX7_init 17 = .ok (.putfield 15, 3) := by decide +kernel
theorem dX7_init_20 : decode cX7_init 20 = .ok (.aload_n 0, 1) := by decide +kernel
theorem dX7_init_21 : decode cX7_init 21 = .ok (.bipush 8, 2) := by decide +kernel
theorem dX7_init_23 : decode cX7_init 23 = .ok (.newarray .int, 2) := by decide +kernel
theorem dX7_init_25 : decode cX7_init 25 = .ok (.putfield 18, 3) := by decide +kernel
theorem dX7_init_28 : decode cX7_init 28 = .ok (.aload_n 0, 1) := by decide +kernel
theorem dX7_init_29 : decode cX7_init 29 = .ok (.iconst 0, 1) := by decide +kernel
theorem dX7_init_30 : decode cX7_init 30 = .ok (.putfield 21, 3) := by decide +kernel
theorem dX7_init_33 : decode cX7_init 33 = .ok (.return_, 1) := by decide +kernel
theorem dX7_copyFrom_0 : decode cX7_copyFrom 0 = .ok (.aload_n 0, 1) := by decide +kernel
theorem dX7_copyFrom_1 : decode cX7_copyFrom 1 = .ok (.aload_n 1, 1) := by decide +kernel
theorem dX7_copyFrom_2 : decode cX7_copyFrom 2 = .ok (.getfield 21, 3) := by decide +kernel
theorem dX7_copyFrom_5 : decode cX7_copyFrom 5 = .ok (.putfield 21, 3) := by decide +kernel
theorem dX7_copyFrom_8 : decode cX7_copyFrom 8 = .ok (.aload_n 1, 1) := by decide +kernel
theorem dX7_copyFrom_9 : decode cX7_copyFrom 9 = .ok (.getfield 9, 3) := by decide +kernel
theorem dX7_copyFrom_12 : decode cX7_copyFrom 12 = .ok (.iconst 0, 1) := by decide +kernel
theorem dX7_copyFrom_13 : decode cX7_copyFrom 13 = .ok (.aload_n 0, 1) := by decide +kernel
theorem dX7_copyFrom_14 : decode cX7_copyFrom 14 = .ok (.getfield 9, 3) := by decide +kernel
theorem dX7_copyFrom_17 : decode cX7_copyFrom 17 = .ok (.iconst 0, 1) := by decide +kernel
theorem dX7_copyFrom_18 : decode cX7_copyFrom 18 = .ok (.bipush 8, 2) := by decide +kernel
theorem dX7_copyFrom_20 : decode cX7_copyFrom 20 = .ok (.invokestatic 25, 3) := by decide +kernel
theorem dX7_copyFrom_23 : decode cX7_copyFrom 23 = .ok (.aload_n 1, 1) := by decide +kernel
theorem dX7_copyFrom_24 : decode cX7_copyFrom 24 = .ok (.getfield 15, 3) := by decide +kernel
theorem dX7_copyFrom_27 : decode cX7_copyFrom 27 = .ok (.iconst 0, 1) := by decide +kernel
theorem dX7_copyFrom_28 : decode cX7_copyFrom 28 = .ok (.aload_n 0, 1) := by decide +kernel
theorem dX7_copyFrom_29 : decode cX7_copyFrom 29 = .ok (.getfield 15, 3) := by decide +kernel
theorem dX7_copyFrom_32 : decode cX7_copyFrom 32 = .ok (.iconst 0, 1) := by decide +kernel
theorem dX7_copyFrom_33 : decode cX7_copyFrom 33 = .ok (.bipush 8, 2) := by decide +kernel
theorem dX7_copyFrom_35 : decode cX7_copyFrom 35 = .ok (.invokestatic 25, 3) := by decide +kernel
theorem dX7_copyFrom_38 : decode cX7_copyFrom 38 = .ok (.aload_n 1, 1) := by decide +kernel
theorem dX7_copyFrom_39 : decode cX7_copyFrom 39 = .ok (.getfield 18, 3) := by decide +kernel
theorem dX7_copyFrom_42 : decode cX7_copyFrom 42 = .ok (.iconst 0, 1) := by decide +kernel
theorem dX7_copyFrom_43 : decode cX7_copyFrom 43 = .ok (.aload_n 0, 1) := by decide +kernel
theorem dX7_copyFrom_44 : decode cX7_copyFrom 44 = .ok (.getfield 18, 3) := by decide +kernel
theorem dX7_copyFrom_47 : decode cX7_copyFrom 47 = .ok (.iconst 0, 1) := by decide +kernel
theorem dX7_copyFrom_48 : decode cX7_copyFrom 48 = .ok (.bipush 8, 2) := by decide +kernel
theorem dX7_copyFrom_50 : decode cX7_copyFrom 50 = .ok (.invokestatic 25, 3) := by decide +kernel
theorem dX7_copyFrom_53 : decode cX7_copyFrom 53 = .ok (.return_, 1) := by decide +kernel
theorem dX7_dropAll_0 : decode cX7_dropAll 0 = .ok (.aload_n 0, 1) := by decide +kernel
theorem dX7_dropAll_1 : decode cX7_dropAll 1 = .ok (.getfield 21, 3) := by decide +kernel
theorem dX7_dropAll_4 : decode cX7_dropAll 4 = .ok (.istore_n 1, 1) := by decide +kernel
theorem dX7_dropAll_5 : decode cX7_dropAll 5 = .ok (.aload_n 0, 1) := by decide +kernel
theorem dX7_dropAll_6 : decode cX7_dropAll 6 = .ok (.iconst 0, 1) := by decide +kernel
theorem dX7_dropAll_7 : decode cX7_dropAll 7 = .ok (.putfield 21, 3) := by decide +kernel
theorem dX7_dropAll_10 : decode cX7_dropAll 10 = .ok (.iload_n 1, 1) := by decide +kernel
theorem dX7_dropAll_11 : decode cX7_dropAll 11 = .ok (.ireturn, 1) := by decide +kernel
theorem dX7_put_0 : decode cX7_put 0 = .ok (.aload_n 0, 1) := by decide +kernel
theorem dX7_put_1 : decode cX7_put 1 = .ok (.getfield 21, 3) := by decide +kernel
theorem dX7_put_4 : decode cX7_put 4 = .ok (.iconst 0, 1) := by decide +kernel
theorem dX7_put_5 : decode cX7_put 5 = .ok (.bipush 7, 2) := by decide +kernel
theorem dX7_put_7 : decode cX7_put 7 = .ok (.invokestatic 31, 3) := by decide +kernel
theorem dX7_put_10 : decode cX7_put 10 = .ok (.ifCond .ne 6, 3) := by decide +kernel
theorem dX7_put_13 : decode cX7_put 13 = .ok (.bipush (-3), 2) := by decide +kernel
theorem dX7_put_15 : decode cX7_put 15 = .ok (.ireturn, 1) := by decide +kernel
theorem dX7_put_16 : decode cX7_put 16 = .ok (.aload_n 0, 1) := by decide +kernel
theorem dX7_put_17 : decode cX7_put 17 = .ok (.getfield 9, 3) := by decide +kernel
theorem dX7_put_20 : decode cX7_put 20 = .ok (.aload_n 0, 1) := by decide +kernel
theorem dX7_put_21 : decode cX7_put 21 = .ok (.getfield 21, 3) := by decide +kernel
theorem dX7_put_24 : decode cX7_put 24 = .ok (.iload_n 1, 1) := by decide +kernel
theorem dX7_put_25 : decode cX7_put 25 = .ok (.iastore, 1) := by decide +kernel
theorem dX7_put_26 : decode cX7_put 26 = .ok (.aload_n 0, 1) := by decide +kernel
theorem dX7_put_27 : decode cX7_put 27 = .ok (.getfield 15, 3) := by decide +kernel
theorem dX7_put_30 : decode cX7_put 30 = .ok (.aload_n 0, 1) := by decide +kernel
theorem dX7_put_31 : decode cX7_put 31 = .ok (.getfield 21, 3) := by decide +kernel
theorem dX7_put_34 : decode cX7_put 34 = .ok (.iload_n 2, 1) := by decide +kernel
theorem dX7_put_35 : decode cX7_put 35 = .ok (.iastore, 1) := by decide +kernel
theorem dX7_put_36 : decode cX7_put 36 = .ok (.aload_n 0, 1) := by decide +kernel
theorem dX7_put_37 : decode cX7_put 37 = .ok (.getfield 18, 3) := by decide +kernel
theorem dX7_put_40 : decode cX7_put 40 = .ok (.aload_n 0, 1) := by decide +kernel
theorem dX7_put_41 : decode cX7_put 41 = .ok (.getfield 21, 3) := by decide +kernel
theorem dX7_put_44 : decode cX7_put 44 = .ok (.iload_n 3, 1) := by decide +kernel
theorem dX7_put_45 : decode cX7_put 45 = .ok (.iastore, 1) := by decide +kernel
theorem dX7_put_46 : decode cX7_put 46 = .ok (.aload_n 0, 1) := by decide +kernel
theorem dX7_put_47 : decode cX7_put 47 = .ok (.dup, 1) := by decide +kernel
theorem dX7_put_48 : decode cX7_put 48 = .ok (.getfield 21, 3) := by decide +kernel
theorem dX7_put_51 : decode cX7_put 51 = .ok (.iconst 1, 1) := by decide +kernel
theorem dX7_put_52 : decode cX7_put 52 = .ok (.iadd, 1) := by decide +kernel
theorem dX7_put_53 : decode cX7_put 53 = .ok (.putfield 21, 3) := by decide +kernel
theorem dX7_put_56 : decode cX7_put 56 = .ok (.aload_n 0, 1) := by decide +kernel
theorem dX7_put_57 : decode cX7_put 57 = .ok (.getfield 21, 3) := by decide +kernel
theorem dX7_put_60 : decode cX7_put 60 = .ok (.ireturn, 1) := by decide +kernel
theorem dX8_init_0 : decode cX8_init 0 = .ok (.aload_n 0, 1) := by decide +kernel
theorem dX8_init_1 : decode cX8_init 1 = .ok (.invokespecial 3, 3) := by decide +kernel
theorem dX8_init_4 : decode cX8_init 4 = .ok (.aload_n 0, 1) := by decide +kernel
theorem dX8_init_5 : decode cX8_init 5 = .ok (.new 9, 3) := by decide +kernel
theorem dX8_init_8 : decode cX8_init 8 = .ok (.dup, 1) := by decide +kernel
theorem dX8_init_9 : decode cX8_init 9 = .ok (.invokespecial 11, 3) := by decide +kernel
theorem dX8_init_12 : decode cX8_init 12 = .ok (.putfield 12, 3) := by decide +kernel
theorem dX8_init_15 : decode cX8_init 15 = .ok (.aload_n 0, 1) := by decide +kernel
theorem dX8_init_16 : decode cX8_init 16 = .ok (.iconst 2, 1) := by decide +kernel
theorem dX8_init_17 : decode cX8_init 17 = .ok (.anewarray 9, 3) := by decide +kernel
theorem dX8_init_20 : decode cX8_init 20 = .ok (.dup, 1) := by decide +kernel
theorem dX8_init_21 : decode cX8_init 21 = .ok (.iconst 0, 1) := by decide +kernel
theorem dX8_init_22 : decode cX8_init 22 = .ok (.new 9, 3) := by decide +kernel
theorem dX8_init_25 : decode cX8_init 25 = .ok (.dup, 1) := by decide +kernel
theorem dX8_init_26 : decode cX8_init 26 = .ok (.invokespecial 11, 3) := by decide +kernel
theorem dX8_init_29 : decode cX8_init 29 = .ok (.aastore, 1) := by decide +kernel
theorem dX8_init_30 : decode cX8_init 30 = .ok (.dup, 1) := by decide +kernel
theorem dX8_init_31 : decode cX8_init 31 = .ok (.iconst 1, 1) := by decide +kernel
theorem dX8_init_32 : decode cX8_init 32 = .ok (.new 9, 3) := by decide +kernel
theorem dX8_init_35 : decode cX8_init 35 = .ok (.dup, 1) := by decide +kernel
theorem dX8_init_36 : decode cX8_init 36 = .ok (.invokespecial 11, 3) := by decide +kernel
theorem dX8_init_39 : decode cX8_init 39 = .ok (.aastore, 1) := by decide +kernel
theorem dX8_init_40 : decode cX8_init 40 = .ok (.putfield 18, 3) := by decide +kernel
theorem dX8_init_43 : decode cX8_init 43 = .ok (.aload_n 0, 1) := by decide +kernel
theorem dX8_init_44 : decode cX8_init 44 = .ok (.iconst 0, 1) := by decide +kernel
theorem dX8_init_45 : decode cX8_init 45 = .ok (.putfield 22, 3) := by decide +kernel
theorem dX8_init_48 : decode cX8_init 48 = .ok (.return_, 1) := by decide +kernel
theorem dX8_copyFrom_0 : decode cX8_copyFrom 0 = .ok (.aload_n 0, 1) := by decide +kernel
theorem dX8_copyFrom_1 : decode cX8_copyFrom 1 = .ok (.getfield 12, 3) := by decide +kernel
theorem dX8_copyFrom_4 : decode cX8_copyFrom 4 = .ok (.aload_n 1, 1) := by decide +kernel
theorem dX8_copyFrom_5 : decode cX8_copyFrom 5 = .ok (.getfield 12, 3) := by decide +kernel
theorem dX8_copyFrom_8 : decode cX8_copyFrom 8 = .ok (.invokevirtual 26, 3) := by decide +kernel
theorem dX8_copyFrom_11 : decode cX8_copyFrom 11 = .ok (.aload_n 0, 1) := by decide +kernel
theorem dX8_copyFrom_12 : decode cX8_copyFrom 12 = .ok (.aload_n 1, 1) := by decide +kernel
theorem dX8_copyFrom_13 : decode cX8_copyFrom 13 = .ok (.getfield 22, 3) := by decide +kernel
theorem dX8_copyFrom_16 : decode cX8_copyFrom 16 = .ok (.putfield 22, 3) := by decide +kernel
theorem dX8_copyFrom_19 : decode cX8_copyFrom 19 = .ok (.iconst 0, 1) := by decide +kernel
theorem dX8_copyFrom_20 : decode cX8_copyFrom 20 = .ok (.istore_n 2, 1) := by decide +kernel
theorem dX8_copyFrom_21 : decode cX8_copyFrom 21 = .ok (.iload_n 2, 1) := by decide +kernel
theorem dX8_copyFrom_22 : decode cX8_copyFrom 22 = .ok (.iconst 2, 1) := by decide +kernel
theorem dX8_copyFrom_23 : decode cX8_copyFrom 23 = .ok (.if_icmp .ge 35, 3) := by decide +kernel
theorem dX8_copyFrom_26 : decode cX8_copyFrom 26 = .ok (.iload_n 2, 1) := by decide +kernel
theorem dX8_copyFrom_27 : decode cX8_copyFrom 27 = .ok (.aload_n 0, 1) := by decide +kernel
theorem dX8_copyFrom_28 : decode cX8_copyFrom 28 = .ok (.getfield 22, 3) := by decide +kernel
theorem dX8_copyFrom_31 : decode cX8_copyFrom 31 = .ok (.invokestatic 30, 3) := by decide +kernel
theorem dX8_copyFrom_34 : decode cX8_copyFrom 34 = .ok (.ifCond .eq 18, 3) := by decide +kernel
theorem dX8_copyFrom_37 : decode cX8_copyFrom 37 = .ok (.aload_n 0, 1) := by decide +kernel
theorem dX8_copyFrom_38 : decode cX8_copyFrom 38 = .ok (.getfield 18, 3) := by decide +kernel
theorem dX8_copyFrom_41 : decode cX8_copyFrom 41 = .ok (.iload_n 2, 1) := by decide +kernel
theorem dX8_copyFrom_42 : decode cX8_copyFrom 42 = .ok (.aaload, 1) := by decide +kernel
theorem dX8_copyFrom_43 : decode cX8_copyFrom 43 = .ok (.aload_n 1, 1) := by decide +kernel
theorem dX8_copyFrom_44 : decode cX8_copyFrom 44 = .ok (.getfield 18, 3) := by decide +kernel
theorem dX8_copyFrom_47 : decode cX8_copyFrom 47 = .ok (.iload_n 2, 1) := by decide +kernel
theorem dX8_copyFrom_48 : decode cX8_copyFrom 48 = .ok (.aaload, 1) := by decide +kernel
theorem dX8_copyFrom_49 : decode cX8_copyFrom 49 = .ok (.invokevirtual 26, 3) := by decide +kernel
theorem dX8_copyFrom_52 : decode cX8_copyFrom 52 = .ok (.iinc 2 1, 3) := by decide +kernel
theorem dX8_copyFrom_55 : decode cX8_copyFrom 55 = .ok (.goto (-34), 3) := by decide +kernel
theorem dX8_copyFrom_58 : decode cX8_copyFrom 58 = .ok (.return_, 1) := by decide +kernel
theorem dX8_fillSlot_0 : decode cX8_fillSlot 0 = .ok (.iload_n 1, 1) := by decide +kernel
theorem dX8_fillSlot_1 : decode cX8_fillSlot 1 = .ok (.iconst 0, 1) := by decide +kernel
theorem dX8_fillSlot_2 : decode cX8_fillSlot 2 = .ok (.iconst 1, 1) := by decide +kernel
theorem dX8_fillSlot_3 : decode cX8_fillSlot 3 = .ok (.invokestatic 34, 3) := by decide +kernel
theorem dX8_fillSlot_6 : decode cX8_fillSlot 6 = .ok (.ifCond .ne 5, 3) := by decide +kernel
theorem dX8_fillSlot_9 : decode cX8_fillSlot 9 = .ok (.iconst (-1), 1) := by decide +kernel
theorem dX8_fillSlot_10 : decode cX8_fillSlot 10 = .ok (.ireturn, 1) := by decide +kernel
theorem dX8_fillSlot_11 : decode cX8_fillSlot 11 = .ok (.aload_n 0, 1) := by decide +kernel
theorem dX8_fillSlot_12 : decode cX8_fillSlot 12 = .ok (.getfield 18, 3) := by decide +kernel
theorem dX8_fillSlot_15 : decode cX8_fillSlot 15 = .ok (.iload_n 1, 1) := by decide +kernel
theorem dX8_fillSlot_16 : decode cX8_fillSlot 16 = .ok (.aaload, 1) := by decide +kernel
theorem dX8_fillSlot_17 : decode cX8_fillSlot 17 = .ok (.aload_n 0, 1) := by decide +kernel
theorem dX8_fillSlot_18 : decode cX8_fillSlot 18 = .ok (.getfield 12, 3) := by decide +kernel
theorem dX8_fillSlot_21 : decode cX8_fillSlot 21 = .ok (.invokevirtual 26, 3) := by decide +kernel
theorem dX8_fillSlot_24 : decode cX8_fillSlot 24 = .ok (.aload_n 0, 1) := by decide +kernel
theorem dX8_fillSlot_25 : decode cX8_fillSlot 25 = .ok (.dup, 1) := by decide +kernel
theorem dX8_fillSlot_26 : decode cX8_fillSlot 26 = .ok (.getfield 22, 3) := by decide +kernel
theorem dX8_fillSlot_29 : decode cX8_fillSlot 29 = .ok (.iconst 1, 1) := by decide +kernel
theorem dX8_fillSlot_30 : decode cX8_fillSlot 30 = .ok (.iload_n 1, 1) := by decide +kernel
theorem dX8_fillSlot_31 : decode cX8_fillSlot 31 = .ok (.ishl, 1) := by decide +kernel
theorem dX8_fillSlot_32 : decode cX8_fillSlot 32 = .ok (.ior, 1) := by decide +kernel
theorem dX8_fillSlot_33 : decode cX8_fillSlot 33 = .ok (.putfield 22, 3) := by decide +kernel
theorem dX8_fillSlot_36 : decode cX8_fillSlot 36 = .ok (.aload_n 0, 1) := by decide +kernel
theorem dX8_fillSlot_37 : decode cX8_fillSlot 37 = .ok (.getfield 12, 3) := by decide +kernel
theorem dX8_fillSlot_40 : decode cX8_fillSlot 40 = .ok (.getfield 38, 3) := by decide +kernel
theorem dX8_fillSlot_43 : decode cX8_fillSlot 43 = .ok (.getfield 42, 3) := by decide +kernel
theorem dX8_fillSlot_46 : decode cX8_fillSlot 46 = .ok (.ireturn, 1) := by decide +kernel
theorem dX8_useSlot_0 : decode cX8_useSlot 0 = .ok (.iload_n 1, 1) := by decide +kernel
theorem dX8_useSlot_1 : decode cX8_useSlot 1 = .ok (.iconst 0, 1) := by decide +kernel
theorem dX8_useSlot_2 : decode cX8_useSlot 2 = .ok (.iconst 1, 1) := by decide +kernel
theorem dX8_useSlot_3 : decode cX8_useSlot 3 = .ok (.invokestatic 34, 3) := by decide +kernel
theorem dX8_useSlot_6 : decode cX8_useSlot 6 = .ok (.ifCond .ne 5, 3) := by decide +kernel
theorem dX8_useSlot_9 : decode cX8_useSlot 9 = .ok (.iconst (-1), 1) := by decide +kernel
theorem dX8_useSlot_10 : decode cX8_useSlot 10 = .ok (.ireturn, 1) := by decide +kernel
theorem dX8_useSlot_11 : decode cX8_useSlot 11 = .ok (.iload_n 1, 1) := by decide +kernel
theorem dX8_useSlot_12 : decode cX8_useSlot 12 = .ok (.aload_n 0, 1) := by decide +kernel
theorem dX8_useSlot_13 : decode cX8_useSlot 13 = .ok (.getfield 22, 3) := by decide +kernel
theorem dX8_useSlot_16 : decode cX8_useSlot 16 = .ok (.invokestatic 30, 3) := by decide +kernel
theorem dX8_useSlot_19 : decode cX8_useSlot 19 = .ok (.ifCond .ne 6, 3) := by decide +kernel
theorem dX8_useSlot_22 : decode cX8_useSlot 22 = .ok (.bipush (-2), 2) := by decide +kernel
theorem dX8_useSlot_24 : decode cX8_useSlot 24 = .ok (.ireturn, 1) := by decide +kernel
theorem dX8_useSlot_25 : decode cX8_useSlot 25 = .ok (.aload_n 0, 1) := by decide +kernel
theorem dX8_useSlot_26 : decode cX8_useSlot 26 = .ok (.getfield 12, 3) := by decide +kernel
theorem dX8_useSlot_29 : decode cX8_useSlot 29 = .ok (.aload_n 0, 1) := by decide +kernel
theorem dX8_useSlot_30 : decode cX8_useSlot 30 = .ok (.getfield 18, 3) := by decide +kernel
theorem dX8_useSlot_33 : decode cX8_useSlot 33 = .ok (.iload_n 1, 1) := by decide +kernel
theorem dX8_useSlot_34 : decode cX8_useSlot 34 = .ok (.aaload, 1) := by decide +kernel
theorem dX8_useSlot_35 : decode cX8_useSlot 35 = .ok (.invokevirtual 26, 3) := by decide +kernel
theorem dX8_useSlot_38 : decode cX8_useSlot 38 = .ok (.aload_n 0, 1) := by decide +kernel
theorem dX8_useSlot_39 : decode cX8_useSlot 39 = .ok (.getfield 12, 3) := by decide +kernel
theorem dX8_useSlot_42 : decode cX8_useSlot 42 = .ok (.getfield 38, 3) := by decide +kernel
theorem dX8_useSlot_45 : decode cX8_useSlot 45 = .ok (.getfield 42, 3) := by decide +kernel
theorem dX8_useSlot_48 : decode cX8_useSlot 48 = .ok (.ireturn, 1) := by decide +kernel
theorem dX9_init_0 : decode cX9_init 0 = .ok (.aload_n 0, 1) := by decide +kernel
theorem dX9_init_1 : decode cX9_init 1 = .ok (.invokespecial 1, 3) := by decide +kernel
theorem dX9_init_4 : decode cX9_init 4 = .ok (.aload_n 0, 1) := by decide +kernel
theorem dX9_init_5 : decode cX9_init 5 = .ok (.new 7, 3) := by decide +kernel
theorem dX9_init_8 : decode cX9_init 8 = .ok (.dup, 1) := by decide +kernel
theorem dX9_init_9 : decode cX9_init 9 = .ok (.invokespecial 9, 3) := by decide +kernel
theorem dX9_init_12 : decode cX9_init 12 = .ok (.putfield 10, 3) := by decide +kernel
theorem dX9_init_15 : decode cX9_init 15 = .ok (.aload_n 0, 1) := by decide +kernel
theorem dX9_init_16 : decode cX9_init 16 = .ok (.new 16, 3) := by decide +kernel
theorem dX9_init_19 : decode cX9_init 19 = .ok (.dup, 1) := by decide +kernel
theorem dX9_init_20 : decode cX9_init 20 = .ok (.invokespecial 18, 3) := by decide +kernel
theorem dX9_init_23 : decode cX9_init 23 = .ok (.putfield 19, 3) := by decide +kernel
theorem dX9_init_26 : decode cX9_init 26 = .ok (.aload_n 0, 1) := by decide +kernel
theorem dX9_init_27 : decode cX9_init 27 = .ok (.new 23, 3) := by decide +kernel
theorem dX9_init_30 : decode cX9_init 30 = .ok (.dup, 1) := by decide +kernel
theorem dX9_init_31 : decode cX9_init 31 = .ok (.invokespecial 25, 3) := by decide +kernel
theorem dX9_init_34 : decode cX9_init 34 = .ok (.putfield 26, 3) := by decide +kernel
theorem dX9_init_37 : decode cX9_init 37 = .ok (.aload_n 0, 1) := by decide +kernel
theorem dX9_init_38 : decode cX9_init 38 = .ok (.new 30, 3) := by decide +kernel
theorem dX9_init_41 : decode cX9_init 41 = .ok (.dup, 1) := by decide +kernel
theorem dX9_init_42 : decode cX9_init 42 = .ok (.invokespecial 32, 3) := by decide +kernel
theorem dX9_init_45 : decode cX9_init 45 = .ok (.putfield 33, 3) := by decide +kernel
theorem dX9_init_48 : decode cX9_init 48 = .ok (.aload_n 0, 1) := by decide +kernel
theorem dX9_init_49 : decode cX9_init 49 = .ok (.bipush 120, 2) := by decide +kernel
theorem dX9_init_51 : decode cX9_init 51 = .ok (.newarray .int, 2) := by decide +kernel
theorem dX9_init_53 : decode cX9_init 53 = .ok (.putfield 37, 3) := by decide +kernel
theorem dX9_init_56 : decode cX9_init 56 = .ok (.aload_n 0, 1) := by decide +kernel
theorem dX9_init_57 : decode cX9_init 57 = .ok (.iconst 0, 1) := by decide +kernel
theorem dX9_init_58 : decode cX9_init 58 = .ok (.putfield 41, 3) := by decide +kernel
theorem dX9_init_61 : decode cX9_init 61 = .ok (.aload_n 0, 1) := by decide +kernel
theorem dX9_init_62 : decode cX9_init 62 = .ok (.new 45, 3) := by decide +kernel
theorem dX9_init_65 : decode cX9_init 65 = .ok (.dup, 1) := by decide +kernel
theorem dX9_init_66 : decode cX9_init 66 = .ok (.invokespecial 47, 3) := by decide +kernel
theorem dX9_init_69 : decode cX9_init 69 = .ok (.putfield 48, 3) := by decide +kernel
theorem dX9_init_72 : decode cX9_init 72 = .ok (.aload_n 0, 1) := by decide +kernel
theorem dX9_init_73 : decode cX9_init 73 = .ok (.iconst 4, 1) := by decide +kernel
theorem dX9_init_74 : decode cX9_init 74 = .ok (.newarray .int, 2) := by decide +kernel
theorem dX9_init_76 : decode cX9_init 76 = .ok (.putfield 52, 3) := by decide +kernel
theorem dX9_init_79 : decode cX9_init 79 = .ok (.aload_n 0, 1) := by decide +kernel
theorem dX9_init_80 : decode cX9_init 80 = .ok (.iconst 0, 1) := by decide +kernel
theorem dX9_init_81 : decode cX9_init 81 = .ok (.putfield 55, 3) := by decide +kernel
theorem dX9_init_84 : decode cX9_init 84 = .ok (.return_, 1) := by decide +kernel
theorem dX9_setSheet_0 : decode cX9_setSheet 0 = .ok (.aload_n 0, 1) := by decide +kernel
theorem dX9_setSheet_1 : decode cX9_setSheet 1 = .ok (.getfield 19, 3) := by decide +kernel
theorem dX9_setSheet_4 : decode cX9_setSheet 4 = .ok (.aload_n 0, 1) := by decide +kernel
theorem dX9_setSheet_5 : decode cX9_setSheet 5 = .ok (.getfield 10, 3) := by decide +kernel
theorem dX9_setSheet_8 : decode cX9_setSheet 8 = .ok (.invokevirtual 58, 3) := by decide +kernel
theorem dX9_setSheet_11 : decode cX9_setSheet 11 = .ok (.aload_n 0, 1) := by decide +kernel
theorem dX9_setSheet_12 : decode cX9_setSheet 12 = .ok (.getfield 19, 3) := by decide +kernel
theorem dX9_setSheet_15 : decode cX9_setSheet 15 = .ok (.aload_n 0, 1) := by decide +kernel
theorem dX9_setSheet_16 : decode cX9_setSheet 16 = .ok (.getfield 10, 3) := by decide +kernel
theorem dX9_setSheet_19 : decode cX9_setSheet 19 = .ok (.getfield 62, 3) := by decide +kernel
theorem dX9_setSheet_22 : decode cX9_setSheet 22 = .ok (.iload_n 1, 1) := by decide +kernel
theorem dX9_setSheet_23 : decode cX9_setSheet 23 = .ok (.iload_n 2, 1) := by decide +kernel
theorem dX9_setSheet_24 : decode cX9_setSheet 24 = .ok (.invokevirtual 66, 3) := by decide +kernel
theorem dX9_setSheet_27 : decode cX9_setSheet 27 = .ok (.invokevirtual 72, 3) := by decide +kernel
theorem dX9_setSheet_30 : decode cX9_setSheet 30 = .ok (.ireturn, 1) := by decide +kernel
theorem dX9_fold_0 : decode cX9_fold 0 = .ok (.aload_n 0, 1) := by decide +kernel
theorem dX9_fold_1 : decode cX9_fold 1 = .ok (.getfield 19, 3) := by decide +kernel
theorem dX9_fold_4 : decode cX9_fold 4 = .ok (.aload_n 0, 1) := by decide +kernel
theorem dX9_fold_5 : decode cX9_fold 5 = .ok (.getfield 10, 3) := by decide +kernel
theorem dX9_fold_8 : decode cX9_fold 8 = .ok (.invokevirtual 58, 3) := by decide +kernel
theorem dX9_fold_11 : decode cX9_fold 11 = .ok (.aload_n 0, 1) := by decide +kernel
theorem dX9_fold_12 : decode cX9_fold 12 = .ok (.getfield 19, 3) := by decide +kernel
theorem dX9_fold_15 : decode cX9_fold 15 = .ok (.aload_n 0, 1) := by decide +kernel
theorem dX9_fold_16 : decode cX9_fold 16 = .ok (.getfield 10, 3) := by decide +kernel
theorem dX9_fold_19 : decode cX9_fold 19 = .ok (.getfield 62, 3) := by decide +kernel
theorem dX9_fold_22 : decode cX9_fold 22 = .ok (.iload_n 1, 1) := by decide +kernel
theorem dX9_fold_23 : decode cX9_fold 23 = .ok (.invokevirtual 76, 3) := by decide +kernel
theorem dX9_fold_26 : decode cX9_fold 26 = .ok (.invokevirtual 72, 3) := by decide +kernel
theorem dX9_fold_29 : decode cX9_fold 29 = .ok (.ireturn, 1) := by decide +kernel
theorem dX9_unfold_0 : decode cX9_unfold 0 = .ok (.aload_n 0, 1) := by decide +kernel
theorem dX9_unfold_1 : decode cX9_unfold 1 = .ok (.getfield 19, 3) := by decide +kernel
theorem dX9_unfold_4 : decode cX9_unfold 4 = .ok (.aload_n 0, 1) := by decide +kernel
theorem dX9_unfold_5 : decode cX9_unfold 5 = .ok (.getfield 10, 3) := by decide +kernel
theorem dX9_unfold_8 : decode cX9_unfold 8 = .ok (.invokevirtual 58, 3) := by decide +kernel
theorem dX9_unfold_11 : decode cX9_unfold 11 = .ok (.aload_n 0, 1) := by decide +kernel
theorem dX9_unfold_12 : decode cX9_unfold 12 = .ok (.getfield 19, 3) := by decide +kernel
theorem dX9_unfold_15 : decode cX9_unfold 15 = .ok (.aload_n 0, 1) := by decide +kernel
theorem dX9_unfold_16 : decode cX9_unfold 16 = .ok (.getfield 10, 3) := by decide +kernel
theorem dX9_unfold_19 : decode cX9_unfold 19 = .ok (.getfield 62, 3) := by decide +kernel
theorem dX9_unfold_22 : decode cX9_unfold 22 = .ok (.invokevirtual 79, 3) := by decide +kernel
theorem dX9_unfold_25 : decode cX9_unfold 25 = .ok (.invokevirtual 72, 3) := by decide +kernel
theorem dX9_unfold_28 : decode cX9_unfold 28 = .ok (.ireturn, 1) := by decide +kernel
theorem dX9_setSpine_0 : decode cX9_setSpine 0 = .ok (.aload_n 0, 1) := by decide +kernel
theorem dX9_setSpine_1 : decode cX9_setSpine 1 = .ok (.getfield 19, 3) := by decide +kernel
theorem dX9_setSpine_4 : decode cX9_setSpine 4 = .ok (.aload_n 0, 1) := by decide +kernel
theorem dX9_setSpine_5 : decode cX9_setSpine 5 = .ok (.getfield 10, 3) := by decide +kernel
theorem dX9_setSpine_8 : decode cX9_setSpine 8 = .ok (.invokevirtual 58, 3) := by decide +kernel
theorem dX9_setSpine_11 : decode cX9_setSpine 11 = .ok (.aload_n 0, 1) := by decide +kernel
theorem dX9_setSpine_12 : decode cX9_setSpine 12 = .ok (.getfield 19, 3) := by decide +kernel
theorem dX9_setSpine_15 : decode cX9_setSpine 15 = .ok (.aload_n 0, 1) := by decide +kernel
theorem dX9_setSpine_16 : decode cX9_setSpine 16 = .ok (.getfield 10, 3) := by decide +kernel
theorem dX9_setSpine_19 : decode cX9_setSpine 19 = .ok (.getfield 62, 3) := by decide +kernel
theorem dX9_setSpine_22 : decode cX9_setSpine 22 = .ok (.iload_n 1, 1) := by decide +kernel
theorem dX9_setSpine_23 : decode cX9_setSpine 23 = .ok (.invokevirtual 83, 3) := by decide +kernel
theorem dX9_setSpine_26 : decode cX9_setSpine 26 = .ok (.invokevirtual 72, 3) := by decide +kernel
theorem dX9_setSpine_29 : decode cX9_setSpine 29 = .ok (.ireturn, 1) := by decide +kernel
theorem dX9_printAll_0 : decode cX9_printAll 0 = .ok (.aload_n 0, 1) := by decide +kernel
theorem dX9_printAll_1 : decode cX9_printAll 1 = .ok (.getfield 19, 3) := by decide +kernel
theorem dX9_printAll_4 : decode cX9_printAll 4 = .ok (.aload_n 0, 1) := by decide +kernel
theorem dX9_printAll_5 : decode cX9_printAll 5 = .ok (.getfield 10, 3) := by decide +kernel
theorem dX9_printAll_8 : decode cX9_printAll 8 = .ok (.invokevirtual 58, 3) := by decide +kernel
theorem dX9_printAll_11 : decode cX9_printAll 11 = .ok (.aload_n 0, 1) := by decide +kernel
theorem dX9_printAll_12 : decode cX9_printAll 12 = .ok (.getfield 19, 3) := by decide +kernel
theorem dX9_printAll_15 : decode cX9_printAll 15 = .ok (.aload_n 0, 1) := by decide +kernel
theorem dX9_printAll_16 : decode cX9_printAll 16 = .ok (.getfield 10, 3) := by decide +kernel
theorem dX9_printAll_19 : decode cX9_printAll 19 = .ok (.getfield 62, 3) := by decide +kernel
theorem dX9_printAll_22 : decode cX9_printAll 22 = .ok (.aload_n 0, 1) := by decide +kernel
theorem dX9_printAll_23 : decode cX9_printAll 23 = .ok (.getfield 26, 3) := by decide +kernel
theorem dX9_printAll_26 : decode cX9_printAll 26 = .ok (.iload_n 1, 1) := by decide +kernel
theorem dX9_printAll_27 : decode cX9_printAll 27 = .ok (.invokevirtual 90, 3) := by decide +kernel
theorem dX9_printAll_30 : decode cX9_printAll 30 = .ok (.invokevirtual 72, 3) := by decide +kernel
theorem dX9_printAll_33 : decode cX9_printAll 33 = .ok (.ireturn, 1) := by decide +kernel
theorem dX9_cut_0 : decode cX9_cut 0 = .ok (.aload_n 0, 1) := by decide +kernel
theorem dX9_cut_1 : decode cX9_cut 1 = .ok (.getfield 19, 3) := by decide +kernel
theorem dX9_cut_4 : decode cX9_cut 4 = .ok (.aload_n 0, 1) := by decide +kernel
theorem dX9_cut_5 : decode cX9_cut 5 = .ok (.getfield 10, 3) := by decide +kernel
theorem dX9_cut_8 : decode cX9_cut 8 = .ok (.invokevirtual 58, 3) := by decide +kernel
theorem dX9_cut_11 : decode cX9_cut 11 = .ok (.aload_n 0, 1) := by decide +kernel
theorem dX9_cut_12 : decode cX9_cut 12 = .ok (.getfield 19, 3) := by decide +kernel
theorem dX9_cut_15 : decode cX9_cut 15 = .ok (.aload_n 0, 1) := by decide +kernel
theorem dX9_cut_16 : decode cX9_cut 16 = .ok (.getfield 10, 3) := by decide +kernel
theorem dX9_cut_19 : decode cX9_cut 19 = .ok (.getfield 62, 3) := by decide +kernel
theorem dX9_cut_22 : decode cX9_cut 22 = .ok (.iload_n 1, 1) := by decide +kernel
theorem dX9_cut_23 : decode cX9_cut 23 = .ok (.invokevirtual 94, 3) := by decide +kernel
theorem dX9_cut_26 : decode cX9_cut 26 = .ok (.invokevirtual 72, 3) := by decide +kernel
theorem dX9_cut_29 : decode cX9_cut 29 = .ok (.ireturn, 1) := by decide +kernel
theorem dX9_staple_0 : decode cX9_staple 0 = .ok (.aload_n 0, 1) := by decide +kernel
theorem dX9_staple_1 : decode cX9_staple 1 = .ok (.getfield 19, 3) := by decide +kernel
theorem dX9_staple_4 : decode cX9_staple 4 = .ok (.aload_n 0, 1) := by decide +kernel
theorem dX9_staple_5 : decode cX9_staple 5 = .ok (.getfield 10, 3) := by decide +kernel
theorem dX9_staple_8 : decode cX9_staple 8 = .ok (.invokevirtual 58, 3) := by decide +kernel
theorem dX9_staple_11 : decode cX9_staple 11 = .ok (.aload_n 0, 1) := by decide +kernel
theorem dX9_staple_12 : decode cX9_staple 12 = .ok (.getfield 19, 3) := by decide +kernel
theorem dX9_staple_15 : decode cX9_staple 15 = .ok (.aload_n 0, 1) := by decide +kernel
theorem dX9_staple_16 : decode cX9_staple 16 = .ok (.getfield 10, 3) := by decide +kernel
theorem dX9_staple_19 : decode cX9_staple 19 = .ok (.getfield 62, 3) := by decide +kernel
theorem dX9_staple_22 : decode cX9_staple 22 = .ok (.iload_n 1, 1) := by decide +kernel
theorem dX9_staple_23 : decode cX9_staple 23 = .ok (.invokevirtual 97, 3) := by decide +kernel
theorem dX9_staple_26 : decode cX9_staple 26 = .ok (.invokevirtual 72, 3) := by decide +kernel
theorem dX9_staple_29 : decode cX9_staple 29 = .ok (.ireturn, 1) := by decide +kernel
theorem dX9_unstaple_0 : decode cX9_unstaple 0 = .ok (.aload_n 0, 1) := by decide +kernel
theorem dX9_unstaple_1 : decode cX9_unstaple 1 = .ok (.getfield 19, 3) := by decide +kernel
theorem dX9_unstaple_4 : decode cX9_unstaple 4 = .ok (.aload_n 0, 1) := by decide +kernel
theorem dX9_unstaple_5 : decode cX9_unstaple 5 = .ok (.getfield 10, 3) := by decide +kernel
theorem dX9_unstaple_8 : decode cX9_unstaple 8 = .ok (.invokevirtual 58, 3) := by decide +kernel
theorem dX9_unstaple_11 : decode cX9_unstaple 11 = .ok (.aload_n 0, 1) := by decide +kernel
theorem dX9_unstaple_12 : decode cX9_unstaple 12 = .ok (.getfield 19, 3) := by decide +kernel
theorem dX9_unstaple_15 : decode cX9_unstaple 15 = .ok (.aload_n 0, 1) := by decide +kernel
theorem dX9_unstaple_16 : decode cX9_unstaple 16 = .ok (.getfield 10, 3) := by decide +kernel
theorem dX9_unstaple_19 : decode cX9_unstaple 19 = .ok (.getfield 62, 3) := by decide +kernel
theorem dX9_unstaple_22 : decode cX9_unstaple 22 = .ok (.iload_n 1, 1) := by decide +kernel
theorem dX9_unstaple_23 : decode cX9_unstaple 23 = .ok (.invokevirtual 100, 3) := by decide +kernel
theorem dX9_unstaple_26 : decode cX9_unstaple 26 = .ok (.invokevirtual 72, 3) := by decide +kernel
theorem dX9_unstaple_29 : decode cX9_unstaple 29 = .ok (.ireturn, 1) := by decide +kernel
theorem dX9_setLegs_0 : decode cX9_setLegs 0 = .ok (.aload_n 0, 1) := by decide +kernel
theorem dX9_setLegs_1 : decode cX9_setLegs 1 = .ok (.getfield 19, 3) := by decide +kernel
theorem dX9_setLegs_4 : decode cX9_setLegs 4 = .ok (.aload_n 0, 1) := by decide +kernel
theorem dX9_setLegs_5 : decode cX9_setLegs 5 = .ok (.getfield 10, 3) := by decide +kernel
theorem dX9_setLegs_8 : decode cX9_setLegs 8 = .ok (.invokevirtual 58, 3) := by decide +kernel
theorem dX9_setLegs_11 : decode cX9_setLegs 11 = .ok (.aload_n 0, 1) := by decide +kernel
theorem dX9_setLegs_12 : decode cX9_setLegs 12 = .ok (.getfield 19, 3) := by decide +kernel
theorem dX9_setLegs_15 : decode cX9_setLegs 15 = .ok (.aload_n 0, 1) := by decide +kernel
theorem dX9_setLegs_16 : decode cX9_setLegs 16 = .ok (.getfield 10, 3) := by decide +kernel
theorem dX9_setLegs_19 : decode cX9_setLegs 19 = .ok (.getfield 62, 3) := by decide +kernel
theorem dX9_setLegs_22 : decode cX9_setLegs 22 = .ok (.iload_n 1, 1) := by decide +kernel
theorem dX9_setLegs_23 : decode cX9_setLegs 23 = .ok (.invokevirtual 103, 3) := by decide +kernel
theorem dX9_setLegs_26 : decode cX9_setLegs 26 = .ok (.invokevirtual 72, 3) := by decide +kernel
theorem dX9_setLegs_29 : decode cX9_setLegs 29 = .ok (.ireturn, 1) := by decide +kernel
theorem dX9_see_0 : decode cX9_see 0 = .ok (.aload_n 0, 1) := by decide +kernel
theorem dX9_see_1 : decode cX9_see 1 = .ok (.getfield 19, 3) := by decide +kernel
theorem dX9_see_4 : decode cX9_see 4 = .ok (.aload_n 0, 1) := by decide +kernel
theorem dX9_see_5 : decode cX9_see 5 = .ok (.getfield 10, 3) := by decide +kernel
theorem dX9_see_8 : decode cX9_see 8 = .ok (.invokevirtual 58, 3) := by decide +kernel
theorem dX9_see_11 : decode cX9_see 11 = .ok (.aload_n 0, 1) := by decide +kernel
theorem dX9_see_12 : decode cX9_see 12 = .ok (.getfield 19, 3) := by decide +kernel
theorem dX9_see_15 : decode cX9_see 15 = .ok (.aload_n 0, 1) := by decide +kernel
theorem dX9_see_16 : decode cX9_see 16 = .ok (.getfield 10, 3) := by decide +kernel
theorem dX9_see_19 : decode cX9_see 19 = .ok (.getfield 62, 3) := by decide +kernel
theorem dX9_see_22 : decode cX9_see 22 = .ok (.iload_n 1, 1) := by decide +kernel
theorem dX9_see_23 : decode cX9_see 23 = .ok (.iload_n 2, 1) := by decide +kernel
theorem dX9_see_24 : decode cX9_see 24 = .ok (.iload_n 3, 1) := by decide +kernel
theorem dX9_see_25 : decode cX9_see 25 = .ok (.invokevirtual 106, 3) := by decide +kernel
theorem dX9_see_28 : decode cX9_see 28 = .ok (.invokevirtual 72, 3) := by decide +kernel
theorem dX9_see_31 : decode cX9_see 31 = .ok (.ireturn, 1) := by decide +kernel
theorem dX9_forget_0 : decode cX9_forget 0 = .ok (.aload_n 0, 1) := by decide +kernel
theorem dX9_forget_1 : decode cX9_forget 1 = .ok (.getfield 19, 3) := by decide +kernel
theorem dX9_forget_4 : decode cX9_forget 4 = .ok (.aload_n 0, 1) := by decide +kernel
theorem dX9_forget_5 : decode cX9_forget 5 = .ok (.getfield 10, 3) := by decide +kernel
theorem dX9_forget_8 : decode cX9_forget 8 = .ok (.invokevirtual 58, 3) := by decide +kernel
theorem dX9_forget_11 : decode cX9_forget 11 = .ok (.aload_n 0, 1) := by decide +kernel
theorem dX9_forget_12 : decode cX9_forget 12 = .ok (.getfield 19, 3) := by decide +kernel
theorem dX9_forget_15 : decode cX9_forget 15 = .ok (.aload_n 0, 1) := by decide +kernel
theorem dX9_forget_16 : decode cX9_forget 16 = .ok (.getfield 10, 3) := by decide +kernel
theorem dX9_forget_19 : decode cX9_forget 19 = .ok (.getfield 62, 3) := by decide +kernel
theorem dX9_forget_22 : decode cX9_forget 22 = .ok (.getfield 110, 3) := by decide +kernel
theorem dX9_forget_25 : decode cX9_forget 25 = .ok (.invokevirtual 114, 3) := by decide +kernel
theorem dX9_forget_28 : decode cX9_forget 28 = .ok (.invokevirtual 72, 3) := by decide +kernel
theorem dX9_forget_31 : decode cX9_forget 31 = .ok (.ireturn, 1) := by decide +kernel
theorem dX9_take_0 : decode cX9_take 0 = .ok (.aload_n 0, 1) := by decide +kernel
theorem dX9_take_1 : decode cX9_take 1 = .ok (.getfield 19, 3) := by decide +kernel
theorem dX9_take_4 : decode cX9_take 4 = .ok (.aload_n 0, 1) := by decide +kernel
theorem dX9_take_5 : decode cX9_take 5 = .ok (.getfield 10, 3) := by decide +kernel
theorem dX9_take_8 : decode cX9_take 8 = .ok (.invokevirtual 58, 3) := by decide +kernel
theorem dX9_take_11 : decode cX9_take 11 = .ok (.aload_n 0, 1) := by decide +kernel
theorem dX9_take_12 : decode cX9_take 12 = .ok (.getfield 19, 3) := by decide +kernel
theorem dX9_take_15 : decode cX9_take 15 = .ok (.aload_n 0, 1) := by decide +kernel
theorem dX9_take_16 : decode cX9_take 16 = .ok (.getfield 10, 3) := by decide +kernel
theorem dX9_take_19 : decode cX9_take 19 = .ok (.iload_n 1, 1) := by decide +kernel
theorem dX9_take_20 : decode cX9_take 20 = .ok (.invokevirtual 135, 3) := by decide +kernel
theorem dX9_take_23 : decode cX9_take 23 = .ok (.invokevirtual 72, 3) := by decide +kernel
theorem dX9_take_26 : decode cX9_take 26 = .ok (.ireturn, 1) := by decide +kernel
theorem dX9_restore_0 : decode cX9_restore 0 = .ok (.aload_n 0, 1) := by decide +kernel
theorem dX9_restore_1 : decode cX9_restore 1 = .ok (.getfield 19, 3) := by decide +kernel
theorem dX9_restore_4 : decode cX9_restore 4 = .ok (.aload_n 0, 1) := by decide +kernel
theorem dX9_restore_5 : decode cX9_restore 5 = .ok (.getfield 10, 3) := by decide +kernel
theorem dX9_restore_8 : decode cX9_restore 8 = .ok (.invokevirtual 58, 3) := by decide +kernel
theorem dX9_restore_11 : decode cX9_restore 11 = .ok (.aload_n 0, 1) := by decide +kernel
theorem dX9_restore_12 : decode cX9_restore 12 = .ok (.getfield 19, 3) := by decide +kernel
theorem dX9_restore_15 : decode cX9_restore 15 = .ok (.aload_n 0, 1) := by decide +kernel
theorem dX9_restore_16 : decode cX9_restore 16 = .ok (.getfield 10, 3) := by decide +kernel
theorem dX9_restore_19 : decode cX9_restore 19 = .ok (.iload_n 1, 1) := by decide +kernel
theorem dX9_restore_20 : decode cX9_restore 20 = .ok (.invokevirtual 138, 3) := by decide +kernel
theorem dX9_restore_23 : decode cX9_restore 23 = .ok (.invokevirtual 72, 3) := by decide +kernel
theorem dX9_restore_26 : decode cX9_restore 26 = .ok (.ireturn, 1) := by decide +kernel
theorem dX9_undo_0 : decode cX9_undo 0 = .ok (.aload_n 0, 1) := by decide +kernel
theorem dX9_undo_1 : decode cX9_undo 1 = .ok (.getfield 19, 3) := by decide +kernel
theorem dX9_undo_4 : decode cX9_undo 4 = .ok (.aload_n 0, 1) := by decide +kernel
theorem dX9_undo_5 : decode cX9_undo 5 = .ok (.getfield 10, 3) := by decide +kernel
theorem dX9_undo_8 : decode cX9_undo 8 = .ok (.invokevirtual 141, 3) := by decide +kernel
theorem dX9_undo_11 : decode cX9_undo 11 = .ok (.ireturn, 1) := by decide +kernel
theorem dX9_count_0 : decode cX9_count 0 = .ok (.aload_n 0, 1) := by decide +kernel
theorem dX9_count_1 : decode cX9_count 1 = .ok (.getfield 10, 3) := by decide +kernel
theorem dX9_count_4 : decode cX9_count 4 = .ok (.getfield 62, 3) := by decide +kernel
theorem dX9_count_7 : decode cX9_count 7 = .ok (.astore_n 2, 1) := by decide +kernel
theorem dX9_count_8 : decode cX9_count 8 = .ok (.iload_n 1, 1) := by decide +kernel
theorem dX9_count_9 : decode cX9_count 9 = .ok (.tableswitch 198 0 15 #[79, 87, 95, 103, 111, 119, 130, 135, 143, 151, 159, 170, 178, 183, 188, 193], 79) := by decide +kernel
theorem dX9_count_88 : decode cX9_count 88 = .ok (.aload_n 2, 1) := by decide +kernel
theorem dX9_count_89 : decode cX9_count 89 = .ok (.getfield 253, 3) := by decide +kernel
theorem dX9_count_92 : decode cX9_count 92 = .ok (.getfield 257, 3) := by decide +kernel
theorem dX9_count_95 : decode cX9_count 95 = .ok (.ireturn, 1) := by decide +kernel
theorem dX9_count_96 : decode cX9_count 96 = .ok (.aload_n 2, 1) := by decide +kernel
theorem dX9_count_97 : decode cX9_count 97 = .ok (.getfield 253, 3) := by decide +kernel
theorem dX9_count_100 : decode cX9_count 100 = .ok (.getfield 262, 3) := by decide +kernel
theorem dX9_count_103 : decode cX9_count 103 = .ok (.ireturn, 1) := by decide +kernel
theorem dX9_count_104 : decode cX9_count 104 = .ok (.aload_n 2, 1) := by decide +kernel
theorem dX9_count_105 : decode cX9_count 105 = .ok (.getfield 265, 3) := by decide +kernel
theorem dX9_count_108 : decode cX9_count 108 = .ok (.getfield 268, 3) := by decide +kernel
theorem dX9_count_111 : decode cX9_count 111 = .ok (.ireturn, 1) := by decide +kernel
theorem dX9_count_112 : decode cX9_count 112 = .ok (.aload_n 2, 1) := by decide +kernel
theorem dX9_count_113 : decode cX9_count 113 = .ok (.getfield 265, 3) := by decide +kernel
theorem dX9_count_116 : decode cX9_count 116 = .ok (.invokevirtual 271, 3) := by decide +kernel
theorem dX9_count_119 : decode cX9_count 119 = .ok (.ireturn, 1) := by decide +kernel
theorem dX9_count_120 : decode cX9_count 120 = .ok (.aload_n 2, 1) := by decide +kernel
theorem dX9_count_121 : decode cX9_count 121 = .ok (.getfield 265, 3) := by decide +kernel
theorem dX9_count_124 : decode cX9_count 124 = .ok (.getfield 274, 3) := by decide +kernel
theorem dX9_count_127 : decode cX9_count 127 = .ok (.ireturn, 1) := by decide +kernel
theorem dX9_count_128 : decode cX9_count 128 = .ok (.aload_n 2, 1) := by decide +kernel
theorem dX9_count_129 : decode cX9_count 129 = .ok (.getfield 265, 3) := by decide +kernel
theorem dX9_count_132 : decode cX9_count 132 = .ok (.invokevirtual 277, 3) := by decide +kernel
theorem dX9_count_135 : decode cX9_count 135 = .ok (.invokestatic 280, 3) := by decide +kernel
theorem dX9_count_138 : decode cX9_count 138 = .ok (.ireturn, 1) := by decide +kernel
theorem dX9_count_139 : decode cX9_count 139 = .ok (.aload_n 2, 1) := by decide +kernel
theorem dX9_count_140 : decode cX9_count 140 = .ok (.getfield 284, 3) := by decide +kernel
theorem dX9_count_143 : decode cX9_count 143 = .ok (.ireturn, 1) := by decide +kernel
theorem dX9_count_144 : decode cX9_count 144 = .ok (.aload_n 2, 1) := by decide +kernel
theorem dX9_count_145 : decode cX9_count 145 = .ok (.getfield 287, 3) := by decide +kernel
theorem dX9_count_148 : decode cX9_count 148 = .ok (.invokestatic 290, 3) := by decide +kernel
theorem dX9_count_151 : decode cX9_count 151 = .ok (.ireturn, 1) := by decide +kernel
theorem dX9_count_152 : decode cX9_count 152 = .ok (.aload_n 2, 1) := by decide +kernel
theorem dX9_count_153 : decode cX9_count 153 = .ok (.getfield 110, 3) := by decide +kernel
theorem dX9_count_156 : decode cX9_count 156 = .ok (.getfield 295, 3) := by decide +kernel
theorem dX9_count_159 : decode cX9_count 159 = .ok (.ireturn, 1) := by decide +kernel
theorem dX9_count_160 : decode cX9_count 160 = .ok (.aload_n 2, 1) := by decide +kernel
theorem dX9_count_161 : decode cX9_count 161 = .ok (.getfield 119, 3) := by decide +kernel
theorem dX9_count_164 : decode cX9_count 164 = .ok (.getfield 298, 3) := by decide +kernel
theorem dX9_count_167 : decode cX9_count 167 = .ok (.ireturn, 1) := by decide +kernel
theorem dX9_count_168 : decode cX9_count 168 = .ok (.aload_n 0, 1) := by decide +kernel
theorem dX9_count_169 : decode cX9_count 169 = .ok (.getfield 10, 3) := by decide +kernel
theorem dX9_count_172 : decode cX9_count 172 = .ok (.getfield 299, 3) := by decide +kernel
theorem dX9_count_175 : decode cX9_count 175 = .ok (.invokestatic 290, 3) := by decide +kernel
theorem dX9_count_178 : decode cX9_count 178 = .ok (.ireturn, 1) := by decide +kernel
theorem dX9_count_179 : decode cX9_count 179 = .ok (.aload_n 0, 1) := by decide +kernel
theorem dX9_count_180 : decode cX9_count 180 = .ok (.getfield 19, 3) := by decide +kernel
theorem dX9_count_183 : decode cX9_count 183 = .ok (.getfield 302, 3) := by decide +kernel
theorem dX9_count_186 : decode cX9_count 186 = .ok (.ireturn, 1) := by decide +kernel
theorem dX9_count_187 : decode cX9_count 187 = .ok (.aload_n 0, 1) := by decide +kernel
theorem dX9_count_188 : decode cX9_count 188 = .ok (.getfield 41, 3) := by decide +kernel
theorem dX9_count_191 : decode cX9_count 191 = .ok (.ireturn, 1) := by decide +kernel
theorem dX9_count_192 : decode cX9_count 192 = .ok (.aload_n 2, 1) := by decide +kernel
theorem dX9_count_193 : decode cX9_count 193 = .ok (.getfield 303, 3) := by decide +kernel
theorem dX9_count_196 : decode cX9_count 196 = .ok (.ireturn, 1) := by decide +kernel
theorem dX9_count_197 : decode cX9_count 197 = .ok (.aload_n 2, 1) := by decide +kernel
theorem dX9_count_198 : decode cX9_count 198 = .ok (.getfield 305, 3) := by decide +kernel
theorem dX9_count_201 : decode cX9_count 201 = .ok (.ireturn, 1) := by decide +kernel
theorem dX9_count_202 : decode cX9_count 202 = .ok (.aload_n 2, 1) := by decide +kernel
theorem dX9_count_203 : decode cX9_count 203 = .ok (.getfield 308, 3) := by decide +kernel
theorem dX9_count_206 : decode cX9_count 206 = .ok (.ireturn, 1) := by decide +kernel
theorem dX9_count_207 : decode cX9_count 207 = .ok (.iconst (-1), 1) := by decide +kernel
theorem dX9_count_208 : decode cX9_count 208 = .ok (.ireturn, 1) := by decide +kernel
theorem dX9_side_0 : decode cX9_side 0 = .ok (.aload_n 0, 1) := by decide +kernel
theorem dX9_side_1 : decode cX9_side 1 = .ok (.getfield 10, 3) := by decide +kernel
theorem dX9_side_4 : decode cX9_side 4 = .ok (.getfield 62, 3) := by decide +kernel
theorem dX9_side_7 : decode cX9_side 7 = .ok (.getfield 253, 3) := by decide +kernel
theorem dX9_side_10 : decode cX9_side 10 = .ok (.astore 5, 2) := by decide +kernel
theorem dX9_side_12 : decode cX9_side 12 = .ok (.aload 5, 2) := by decide +kernel
theorem dX9_side_14 : decode cX9_side 14 = .ok (.iload_n 1, 1) := by decide +kernel
theorem dX9_side_15 : decode cX9_side 15 = .ok (.iload_n 2, 1) := by decide +kernel
theorem dX9_side_16 : decode cX9_side 16 = .ok (.iload_n 3, 1) := by decide +kernel
theorem dX9_side_17 : decode cX9_side 17 = .ok (.invokevirtual 310, 3) := by decide +kernel
theorem dX9_side_20 : decode cX9_side 20 = .ok (.ifCond .eq 13, 3) := by decide +kernel
theorem dX9_side_23 : decode cX9_side 23 = .ok (.iload 4, 2) := by decide +kernel
theorem dX9_side_25 : decode cX9_side 25 = .ok (.iconst 0, 1) := by decide +kernel
theorem dX9_side_26 : decode cX9_side 26 = .ok (.iconst 1, 1) := by decide +kernel
theorem dX9_side_27 : decode cX9_side 27 = .ok (.invokestatic 145, 3) := by decide +kernel
theorem dX9_side_30 : decode cX9_side 30 = .ok (.ifCond .ne 5, 3) := by decide +kernel
theorem dX9_side_33 : decode cX9_side 33 = .ok (.iconst (-1), 1) := by decide +kernel
theorem dX9_side_34 : decode cX9_side 34 = .ok (.ireturn, 1) := by decide +kernel
theorem dX9_side_35 : decode cX9_side 35 = .ok (.iload_n 1, 1) := by decide +kernel
theorem dX9_side_36 : decode cX9_side 36 = .ok (.iload_n 2, 1) := by decide +kernel
theorem dX9_side_37 : decode cX9_side 37 = .ok (.invokestatic 313, 3) := by decide +kernel
theorem dX9_side_40 : decode cX9_side 40 = .ok (.iload_n 3, 1) := by decide +kernel
theorem dX9_side_41 : decode cX9_side 41 = .ok (.invokestatic 316, 3) := by decide +kernel
theorem dX9_side_44 : decode cX9_side 44 = .ok (.istore 6, 2) := by decide +kernel
theorem dX9_side_46 : decode cX9_side 46 = .ok (.iload 4, 2) := by decide +kernel
theorem dX9_side_48 : decode cX9_side 48 = .ok (.ifCond .ne 13, 3) := by decide +kernel
theorem dX9_side_51 : decode cX9_side 51 = .ok (.aload 5, 2) := by decide +kernel
theorem dX9_side_53 : decode cX9_side 53 = .ok (.iload 6, 2) := by decide +kernel
theorem dX9_side_55 : decode cX9_side 55 = .ok (.invokevirtual 319, 3) := by decide +kernel
theorem dX9_side_58 : decode cX9_side 58 = .ok (.goto 10, 3) := by decide +kernel
theorem dX9_side_61 : decode cX9_side 61 = .ok (.aload 5, 2) := by decide +kernel
theorem dX9_side_63 : decode cX9_side 63 = .ok (.iload 6, 2) := by decide +kernel
theorem dX9_side_65 : decode cX9_side 65 = .ok (.invokevirtual 322, 3) := by decide +kernel
theorem dX9_side_68 : decode cX9_side 68 = .ok (.ireturn, 1) := by decide +kernel
theorem dX9_page_0 : decode cX9_page 0 = .ok (.aload_n 0, 1) := by decide +kernel
theorem dX9_page_1 : decode cX9_page 1 = .ok (.getfield 10, 3) := by decide +kernel
theorem dX9_page_4 : decode cX9_page 4 = .ok (.getfield 62, 3) := by decide +kernel
theorem dX9_page_7 : decode cX9_page 7 = .ok (.astore_n 3, 1) := by decide +kernel
theorem dX9_page_8 : decode cX9_page 8 = .ok (.aload_n 3, 1) := by decide +kernel
theorem dX9_page_9 : decode cX9_page 9 = .ok (.getfield 265, 3) := by decide +kernel
theorem dX9_page_12 : decode cX9_page 12 = .ok (.invokevirtual 277, 3) := by decide +kernel
theorem dX9_page_15 : decode cX9_page 15 = .ok (.ifCond .ne 6, 3) := by decide +kernel
theorem dX9_page_18 : decode cX9_page 18 = .ok (.bipush (-2), 2) := by decide +kernel
theorem dX9_page_20 : decode cX9_page 20 = .ok (.ireturn, 1) := by decide +kernel
theorem dX9_page_21 : decode cX9_page 21 = .ok (.iload_n 1, 1) := by decide +kernel
theorem dX9_page_22 : decode cX9_page 22 = .ok (.iconst 0, 1) := by decide +kernel
theorem dX9_page_23 : decode cX9_page 23 = .ok (.aload_n 3, 1) := by decide +kernel
theorem dX9_page_24 : decode cX9_page 24 = .ok (.getfield 265, 3) := by decide +kernel
theorem dX9_page_27 : decode cX9_page 27 = .ok (.invokevirtual 343, 3) := by decide +kernel
theorem dX9_page_30 : decode cX9_page 30 = .ok (.invokestatic 145, 3) := by decide +kernel
theorem dX9_page_33 : decode cX9_page 33 = .ok (.ifCond .ne 5, 3) := by decide +kernel
theorem dX9_page_36 : decode cX9_page 36 = .ok (.iconst (-1), 1) := by decide +kernel
theorem dX9_page_37 : decode cX9_page 37 = .ok (.ireturn, 1) := by decide +kernel
theorem dX9_page_38 : decode cX9_page 38 = .ok (.iload_n 2, 1) := by decide +kernel
theorem dX9_page_39 : decode cX9_page 39 = .ok (.tableswitch 139 0 7 #[45, 56, 67, 76, 86, 92, 101, 118], 45) := by decide +kernel
theorem dX9_page_84 : decode cX9_page 84 = .ok (.aload_n 3, 1) := by decide +kernel
theorem dX9_page_85 : decode cX9_page 85 = .ok (.getfield 265, 3) := by decide +kernel
theorem dX9_page_88 : decode cX9_page 88 = .ok (.iload_n 1, 1) := by decide +kernel
theorem dX9_page_89 : decode cX9_page 89 = .ok (.iconst 2, 1) := by decide +kernel
theorem dX9_page_90 : decode cX9_page 90 = .ok (.idiv, 1) := by decide +kernel
theorem dX9_page_91 : decode cX9_page 91 = .ok (.invokevirtual 328, 3) := by decide +kernel
theorem dX9_page_94 : decode cX9_page 94 = .ok (.ireturn, 1) := by decide +kernel
theorem dX9_page_95 : decode cX9_page 95 = .ok (.aload_n 3, 1) := by decide +kernel
theorem dX9_page_96 : decode cX9_page 96 = .ok (.getfield 265, 3) := by decide +kernel
theorem dX9_page_99 : decode cX9_page 99 = .ok (.iload_n 1, 1) := by decide +kernel
theorem dX9_page_100 : decode cX9_page 100 = .ok (.iconst 2, 1) := by decide +kernel
theorem dX9_page_101 : decode cX9_page 101 = .ok (.idiv, 1) := by decide +kernel
theorem dX9_page_102 : decode cX9_page 102 = .ok (.invokevirtual 331, 3) := by decide +kernel
theorem dX9_page_105 : decode cX9_page 105 = .ok (.ireturn, 1) := by decide +kernel
theorem dX9_page_106 : decode cX9_page 106 = .ok (.aload_n 3, 1) := by decide +kernel
theorem dX9_page_107 : decode cX9_page 107 = .ok (.getfield 265, 3) := by decide +kernel
theorem dX9_page_110 : decode cX9_page 110 = .ok (.iload_n 1, 1) := by decide +kernel
theorem dX9_page_111 : decode cX9_page 111 = .ok (.invokevirtual 346, 3) := by decide +kernel
theorem dX9_page_114 : decode cX9_page 114 = .ok (.ireturn, 1) := by decide +kernel
theorem dX9_page_115 : decode cX9_page 115 = .ok (.aload_n 3, 1) := by decide +kernel
theorem dX9_page_116 : decode cX9_page 116 = .ok (.aload_n 3, 1) := by decide +kernel
theorem dX9_page_117 : decode cX9_page 117 = .ok (.getfield 265, 3) := by decide +kernel
theorem dX9_page_120 : decode cX9_page 120 = .ok (.iload_n 1, 1) := by decide +kernel
theorem dX9_page_121 : decode cX9_page 121 = .ok (.invokevirtual 349, 3) := by decide +kernel
theorem dX9_page_124 : decode cX9_page 124 = .ok (.ireturn, 1) := by decide +kernel
theorem dX9_page_125 : decode cX9_page 125 = .ok (.aload_n 3, 1) := by decide +kernel
theorem dX9_page_126 : decode cX9_page 126 = .ok (.iload_n 1, 1) := by decide +kernel
theorem dX9_page_127 : decode cX9_page 127 = .ok (.invokestatic 352, 3) := by decide +kernel
theorem dX9_page_130 : decode cX9_page 130 = .ok (.ireturn, 1) := by decide +kernel
theorem dX9_page_131 : decode cX9_page 131 = .ok (.aload_n 3, 1) := by decide +kernel
theorem dX9_page_132 : decode cX9_page 132 = .ok (.iload_n 1, 1) := by decide +kernel
theorem dX9_page_133 : decode cX9_page 133 = .ok (.invokevirtual 356, 3) := by decide +kernel
theorem dX9_page_136 : decode cX9_page 136 = .ok (.invokestatic 280, 3) := by decide +kernel
theorem dX9_page_139 : decode cX9_page 139 = .ok (.ireturn, 1) := by decide +kernel
theorem dX9_page_140 : decode cX9_page 140 = .ok (.aload_n 3, 1) := by decide +kernel
theorem dX9_page_141 : decode cX9_page 141 = .ok (.iload_n 1, 1) := by decide +kernel
theorem dX9_page_142 : decode cX9_page 142 = .ok (.invokevirtual 359, 3) := by decide +kernel
theorem dX9_page_145 : decode cX9_page 145 = .ok (.ifCond .ne 7, 3) := by decide +kernel
theorem dX9_page_148 : decode cX9_page 148 = .ok (.iconst 1, 1) := by decide +kernel
theorem dX9_page_149 : decode cX9_page 149 = .ok (.goto 4, 3) := by decide +kernel
theorem dX9_page_152 : decode cX9_page 152 = .ok (.iconst 0, 1) := by decide +kernel
theorem dX9_page_153 : decode cX9_page 153 = .ok (.invokestatic 280, 3) := by decide +kernel
theorem dX9_page_156 : decode cX9_page 156 = .ok (.ireturn, 1) := by decide +kernel
theorem dX9_page_157 : decode cX9_page 157 = .ok (.aload_n 0, 1) := by decide +kernel
theorem dX9_page_158 : decode cX9_page 158 = .ok (.getfield 33, 3) := by decide +kernel
theorem dX9_page_161 : decode cX9_page 161 = .ok (.aload_n 3, 1) := by decide +kernel
theorem dX9_page_162 : decode cX9_page 162 = .ok (.invokevirtual 362, 3) := by decide +kernel
theorem dX9_page_165 : decode cX9_page 165 = .ok (.aload_n 0, 1) := by decide +kernel
theorem dX9_page_166 : decode cX9_page 166 = .ok (.getfield 33, 3) := by decide +kernel
theorem dX9_page_169 : decode cX9_page 169 = .ok (.iload_n 1, 1) := by decide +kernel
theorem dX9_page_170 : decode cX9_page 170 = .ok (.aload_n 3, 1) := by decide +kernel
theorem dX9_page_171 : decode cX9_page 171 = .ok (.getfield 119, 3) := by decide +kernel
theorem dX9_page_174 : decode cX9_page 174 = .ok (.invokevirtual 366, 3) := by decide +kernel
theorem dX9_page_177 : decode cX9_page 177 = .ok (.ireturn, 1) := by decide +kernel
theorem dX9_page_178 : decode cX9_page 178 = .ok (.iconst (-1), 1) := by decide +kernel
theorem dX9_page_179 : decode cX9_page 179 = .ok (.ireturn, 1) := by decide +kernel
theorem dX9_uprightOn_0 : decode cX9_uprightOn 0 = .ok (.aload_n 0, 1) := by decide +kernel
theorem dX9_uprightOn_1 : decode cX9_uprightOn 1 = .ok (.aload_n 0, 1) := by decide +kernel
theorem dX9_uprightOn_2 : decode cX9_uprightOn 2 = .ok (.getfield 265, 3) := by decide +kernel
theorem dX9_uprightOn_5 : decode cX9_uprightOn 5 = .ok (.iload_n 1, 1) := by decide +kernel
theorem dX9_uprightOn_6 : decode cX9_uprightOn 6 = .ok (.invokevirtual 349, 3) := by decide +kernel
theorem dX9_uprightOn_9 : decode cX9_uprightOn 9 = .ok (.bipush (-9), 2) := by decide +kernel
theorem dX9_uprightOn_11 : decode cX9_uprightOn 11 = .ok (.if_icmp .ne 6, 3) := by decide +kernel
theorem dX9_uprightOn_14 : decode cX9_uprightOn 14 = .ok (.bipush (-9), 2) := by decide +kernel
theorem dX9_uprightOn_16 : decode cX9_uprightOn 16 = .ok (.ireturn, 1) := by decide +kernel
theorem dX9_uprightOn_17 : decode cX9_uprightOn 17 = .ok (.aload_n 0, 1) := by decide +kernel
theorem dX9_uprightOn_18 : decode cX9_uprightOn 18 = .ok (.aload_n 0, 1) := by decide +kernel
theorem dX9_uprightOn_19 : decode cX9_uprightOn 19 = .ok (.getfield 265, 3) := by decide +kernel
theorem dX9_uprightOn_22 : decode cX9_uprightOn 22 = .ok (.iload_n 1, 1) := by decide +kernel
theorem dX9_uprightOn_23 : decode cX9_uprightOn 23 = .ok (.invokevirtual 370, 3) := by decide +kernel
theorem dX9_uprightOn_26 : decode cX9_uprightOn 26 = .ok (.invokestatic 280, 3) := by decide +kernel
theorem dX9_uprightOn_29 : decode cX9_uprightOn 29 = .ok (.ireturn, 1) := by decide +kernel
theorem dX9_opening_0 : decode cX9_opening 0 = .ok (.aload_n 0, 1) := by decide +kernel
theorem dX9_opening_1 : decode cX9_opening 1 = .ok (.getfield 10, 3) := by decide +kernel
theorem dX9_opening_4 : decode cX9_opening 4 = .ok (.getfield 62, 3) := by decide +kernel
theorem dX9_opening_7 : decode cX9_opening 7 = .ok (.astore_n 3, 1) := by decide +kernel
theorem dX9_opening_8 : decode cX9_opening 8 = .ok (.aload_n 3, 1) := by decide +kernel
theorem dX9_opening_9 : decode cX9_opening 9 = .ok (.getfield 265, 3) := by decide +kernel
theorem dX9_opening_12 : decode cX9_opening 12 = .ok (.invokevirtual 277, 3) := by decide +kernel
theorem dX9_opening_15 : decode cX9_opening 15 = .ok (.ifCond .ne 6, 3) := by decide +kernel
theorem dX9_opening_18 : decode cX9_opening 18 = .ok (.bipush (-2), 2) := by decide +kernel
theorem dX9_opening_20 : decode cX9_opening 20 = .ok (.ireturn, 1) := by decide +kernel
theorem dX9_opening_21 : decode cX9_opening 21 = .ok (.iload_n 1, 1) := by decide +kernel
theorem dX9_opening_22 : decode cX9_opening 22 = .ok (.iconst 0, 1) := by decide +kernel
theorem dX9_opening_23 : decode cX9_opening 23 = .ok (.aload_n 3, 1) := by decide +kernel
theorem dX9_opening_24 : decode cX9_opening 24 = .ok (.getfield 265, 3) := by decide +kernel
theorem dX9_opening_27 : decode cX9_opening 27 = .ok (.invokevirtual 271, 3) := by decide +kernel
theorem dX9_opening_30 : decode cX9_opening 30 = .ok (.invokestatic 145, 3) := by decide +kernel
theorem dX9_opening_33 : decode cX9_opening 33 = .ok (.ifCond .ne 5, 3) := by decide +kernel
theorem dX9_opening_36 : decode cX9_opening 36 = .ok (.iconst (-1), 1) := by decide +kernel
theorem dX9_opening_37 : decode cX9_opening 37 = .ok (.ireturn, 1) := by decide +kernel
theorem dX9_opening_38 : decode cX9_opening 38 = .ok (.iload_n 2, 1) := by decide +kernel
theorem dX9_opening_39 : decode cX9_opening 39 = .ok (.tableswitch 54 0 2 #[25, 42, 48], 25) := by decide +kernel
theorem dX9_opening_64 : decode cX9_opening 64 = .ok (.aload_n 3, 1) := by decide +kernel
theorem dX9_opening_65 : decode cX9_opening 65 = .ok (.iload_n 1, 1) := by decide +kernel
theorem dX9_opening_66 : decode cX9_opening 66 = .ok (.invokevirtual 374, 3) := by decide +kernel
theorem dX9_opening_69 : decode cX9_opening 69 = .ok (.ifCond .eq 7, 3) := by decide +kernel
theorem dX9_opening_72 : decode cX9_opening 72 = .ok (.iconst 1, 1) := by decide +kernel
theorem dX9_opening_73 : decode cX9_opening 73 = .ok (.goto 4, 3) := by decide +kernel
theorem dX9_opening_76 : decode cX9_opening 76 = .ok (.iconst 0, 1) := by decide +kernel
theorem dX9_opening_77 : decode cX9_opening 77 = .ok (.invokestatic 280, 3) := by decide +kernel
theorem dX9_opening_80 : decode cX9_opening 80 = .ok (.ireturn, 1) := by decide +kernel
theorem dX9_opening_81 : decode cX9_opening 81 = .ok (.aload_n 3, 1) := by decide +kernel
theorem dX9_opening_82 : decode cX9_opening 82 = .ok (.iload_n 1, 1) := by decide +kernel
theorem dX9_opening_83 : decode cX9_opening 83 = .ok (.invokevirtual 374, 3) := by decide +kernel
theorem dX9_opening_86 : decode cX9_opening 86 = .ok (.ireturn, 1) := by decide +kernel
theorem dX9_opening_87 : decode cX9_opening 87 = .ok (.aload_n 3, 1) := by decide +kernel
theorem dX9_opening_88 : decode cX9_opening 88 = .ok (.iload_n 1, 1) := by decide +kernel
theorem dX9_opening_89 : decode cX9_opening 89 = .ok (.invokevirtual 377, 3) := by decide +kernel
theorem dX9_opening_92 : decode cX9_opening 92 = .ok (.ireturn, 1) := by decide +kernel
theorem dX9_opening_93 : decode cX9_opening 93 = .ok (.iconst (-1), 1) := by decide +kernel
theorem dX9_opening_94 : decode cX9_opening 94 = .ok (.ireturn, 1) := by decide +kernel
theorem dX9_hanging_0 : decode cX9_hanging 0 = .ok (.aload_n 0, 1) := by decide +kernel
theorem dX9_hanging_1 : decode cX9_hanging 1 = .ok (.getfield 10, 3) := by decide +kernel
theorem dX9_hanging_4 : decode cX9_hanging 4 = .ok (.getfield 62, 3) := by decide +kernel
theorem dX9_hanging_7 : decode cX9_hanging 7 = .ok (.astore_n 2, 1) := by decide +kernel
theorem dX9_hanging_8 : decode cX9_hanging 8 = .ok (.aload_n 2, 1) := by decide +kernel
theorem dX9_hanging_9 : decode cX9_hanging 9 = .ok (.getfield 265, 3) := by decide +kernel
theorem dX9_hanging_12 : decode cX9_hanging 12 = .ok (.invokevirtual 277, 3) := by decide +kernel
theorem dX9_hanging_15 : decode cX9_hanging 15 = .ok (.ifCond .ne 6, 3) := by decide +kernel
theorem dX9_hanging_18 : decode cX9_hanging 18 = .ok (.bipush (-2), 2) := by decide +kernel
theorem dX9_hanging_20 : decode cX9_hanging 20 = .ok (.ireturn, 1) := by decide +kernel
theorem dX9_hanging_21 : decode cX9_hanging 21 = .ok (.iload_n 1, 1) := by decide +kernel
theorem dX9_hanging_22 : decode cX9_hanging 22 = .ok (.iconst 0, 1) := by decide +kernel
theorem dX9_hanging_23 : decode cX9_hanging 23 = .ok (.iconst 3, 1) := by decide +kernel
theorem dX9_hanging_24 : decode cX9_hanging 24 = .ok (.invokestatic 145, 3) := by decide +kernel
theorem dX9_hanging_27 : decode cX9_hanging 27 = .ok (.ifCond .ne 5, 3) := by decide +kernel
theorem dX9_hanging_30 : decode cX9_hanging 30 = .ok (.iconst (-1), 1) := by decide +kernel
theorem dX9_hanging_31 : decode cX9_hanging 31 = .ok (.ireturn, 1) := by decide +kernel
theorem dX9_hanging_32 : decode cX9_hanging 32 = .ok (.iload_n 1, 1) := by decide +kernel
theorem dX9_hanging_33 : decode cX9_hanging 33 = .ok (.aload_n 2, 1) := by decide +kernel
theorem dX9_hanging_34 : decode cX9_hanging 34 = .ok (.getfield 284, 3) := by decide +kernel
theorem dX9_hanging_37 : decode cX9_hanging 37 = .ok (.invokestatic 380, 3) := by decide +kernel
theorem dX9_hanging_40 : decode cX9_hanging 40 = .ok (.ifCond .eq 7, 3) := by decide +kernel
theorem dX9_hanging_43 : decode cX9_hanging 43 = .ok (.iconst 0, 1) := by decide +kernel
theorem dX9_hanging_44 : decode cX9_hanging 44 = .ok (.goto 11, 3) := by decide +kernel
theorem dX9_hanging_47 : decode cX9_hanging 47 = .ok (.aload_n 2, 1) := by decide +kernel
theorem dX9_hanging_48 : decode cX9_hanging 48 = .ok (.getfield 265, 3) := by decide +kernel
theorem dX9_hanging_51 : decode cX9_hanging 51 = .ok (.iload_n 1, 1) := by decide +kernel
theorem dX9_hanging_52 : decode cX9_hanging 52 = .ok (.invokevirtual 384, 3) := by decide +kernel
theorem dX9_hanging_55 : decode cX9_hanging 55 = .ok (.ireturn, 1) := by decide +kernel
theorem dX9_pieces_0 : decode cX9_pieces 0 = .ok (.aload_n 0, 1) := by decide +kernel
theorem dX9_pieces_1 : decode cX9_pieces 1 = .ok (.getfield 10, 3) := by decide +kernel
theorem dX9_pieces_4 : decode cX9_pieces 4 = .ok (.getfield 62, 3) := by decide +kernel
theorem dX9_pieces_7 : decode cX9_pieces 7 = .ok (.astore_n 1, 1) := by decide +kernel
theorem dX9_pieces_8 : decode cX9_pieces 8 = .ok (.aload_n 1, 1) := by decide +kernel
theorem dX9_pieces_9 : decode cX9_pieces 9 = .ok (.getfield 265, 3) := by decide +kernel
theorem dX9_pieces_12 : decode cX9_pieces 12 = .ok (.invokevirtual 277, 3) := by decide +kernel
theorem dX9_pieces_15 : decode cX9_pieces 15 = .ok (.ifCond .eq 10, 3) := by decide +kernel
theorem dX9_pieces_18 : decode cX9_pieces 18 = .ok (.aload_n 1, 1) := by decide +kernel
theorem dX9_pieces_19 : decode cX9_pieces 19 = .ok (.invokevirtual 390, 3) := by decide +kernel
theorem dX9_pieces_22 : decode cX9_pieces 22 = .ok (.goto 5, 3) := by decide +kernel
theorem dX9_pieces_25 : decode cX9_pieces 25 = .ok (.bipush (-2), 2) := by decide +kernel
theorem dX9_pieces_27 : decode cX9_pieces 27 = .ok (.ireturn, 1) := by decide +kernel
theorem dX9_reading_0 : decode cX9_reading 0 = .ok (.aload_n 0, 1) := by decide +kernel
theorem dX9_reading_1 : decode cX9_reading 1 = .ok (.getfield 10, 3) := by decide +kernel
theorem dX9_reading_4 : decode cX9_reading 4 = .ok (.getfield 62, 3) := by decide +kernel
theorem dX9_reading_7 : decode cX9_reading 7 = .ok (.astore_n 2, 1) := by decide +kernel
theorem dX9_reading_8 : decode cX9_reading 8 = .ok (.aload_n 2, 1) := by decide +kernel
theorem dX9_reading_9 : decode cX9_reading 9 = .ok (.getfield 265, 3) := by decide +kernel
theorem dX9_reading_12 : decode cX9_reading 12 = .ok (.invokevirtual 277, 3) := by decide +kernel
theorem dX9_reading_15 : decode cX9_reading 15 = .ok (.ifCond .ne 6, 3) := by decide +kernel
theorem dX9_reading_18 : decode cX9_reading 18 = .ok (.bipush (-2), 2) := by decide +kernel
theorem dX9_reading_20 : decode cX9_reading 20 = .ok (.ireturn, 1) := by decide +kernel
theorem dX9_reading_21 : decode cX9_reading 21 = .ok (.iload_n 1, 1) := by decide +kernel
theorem dX9_reading_22 : decode cX9_reading 22 = .ok (.iconst 0, 1) := by decide +kernel
theorem dX9_reading_23 : decode cX9_reading 23 = .ok (.iconst 2, 1) := by decide +kernel
theorem dX9_reading_24 : decode cX9_reading 24 = .ok (.invokestatic 145, 3) := by decide +kernel
theorem dX9_reading_27 : decode cX9_reading 27 = .ok (.ifCond .ne 5, 3) := by decide +kernel
theorem dX9_reading_30 : decode cX9_reading 30 = .ok (.iconst (-1), 1) := by decide +kernel
theorem dX9_reading_31 : decode cX9_reading 31 = .ok (.ireturn, 1) := by decide +kernel
theorem dX9_reading_32 : decode cX9_reading 32 = .ok (.aload_n 2, 1) := by decide +kernel
theorem dX9_reading_33 : decode cX9_reading 33 = .ok (.getfield 265, 3) := by decide +kernel
theorem dX9_reading_36 : decode cX9_reading 36 = .ok (.invokevirtual 343, 3) := by decide +kernel
theorem dX9_reading_39 : decode cX9_reading 39 = .ok (.istore_n 3, 1) := by decide +kernel
theorem dX9_reading_40 : decode cX9_reading 40 = .ok (.iconst 0, 1) := by decide +kernel
theorem dX9_reading_41 : decode cX9_reading 41 = .ok (.istore 4, 2) := by decide +kernel
theorem dX9_reading_43 : decode cX9_reading 43 = .ok (.iload 4, 2) := by decide +kernel
theorem dX9_reading_45 : decode cX9_reading 45 = .ok (.iload_n 3, 1) := by decide +kernel
theorem dX9_reading_46 : decode cX9_reading 46 = .ok (.if_icmp .gt 35, 3) := by decide +kernel
theorem dX9_reading_49 : decode cX9_reading 49 = .ok (.aload_n 2, 1) := by decide +kernel
theorem dX9_reading_50 : decode cX9_reading 50 = .ok (.iload 4, 2) := by decide +kernel
theorem dX9_reading_52 : decode cX9_reading 52 = .ok (.invokevirtual 359, 3) := by decide +kernel
theorem dX9_reading_55 : decode cX9_reading 55 = .ok (.istore 5, 2) := by decide +kernel
theorem dX9_reading_57 : decode cX9_reading 57 = .ok (.iload 5, 2) := by decide +kernel
theorem dX9_reading_59 : decode cX9_reading 59 = .ok (.ifCond .eq 16, 3) := by decide +kernel
theorem dX9_reading_62 : decode cX9_reading 62 = .ok (.iload_n 1, 1) := by decide +kernel
theorem dX9_reading_63 : decode cX9_reading 63 = .ok (.iconst 2, 1) := by decide +kernel
theorem dX9_reading_64 : decode cX9_reading 64 = .ok (.if_icmp .ne 8, 3) := by decide +kernel
theorem dX9_reading_67 : decode cX9_reading 67 = .ok (.iload 5, 2) := by decide +kernel
theorem dX9_reading_69 : decode cX9_reading 69 = .ok (.goto 5, 3) := by decide +kernel
theorem dX9_reading_72 : decode cX9_reading 72 = .ok (.iload 4, 2) := by decide +kernel
theorem dX9_reading_74 : decode cX9_reading 74 = .ok (.ireturn, 1) := by decide +kernel
theorem dX9_reading_75 : decode cX9_reading 75 = .ok (.iinc 4 1, 3) := by decide +kernel
theorem dX9_reading_78 : decode cX9_reading 78 = .ok (.goto (-35), 3) := by decide +kernel
theorem dX9_reading_81 : decode cX9_reading 81 = .ok (.iload_n 1, 1) := by decide +kernel
theorem dX9_reading_82 : decode cX9_reading 82 = .ok (.ifCond .ne 9, 3) := by decide +kernel
theorem dX9_reading_85 : decode cX9_reading 85 = .ok (.iload_n 3, 1) := by decide +kernel
theorem dX9_reading_86 : decode cX9_reading 86 = .ok (.iconst 1, 1) := by decide +kernel
theorem dX9_reading_87 : decode cX9_reading 87 = .ok (.iadd, 1) := by decide +kernel
theorem dX9_reading_88 : decode cX9_reading 88 = .ok (.goto 5, 3) := by decide +kernel
theorem dX9_reading_91 : decode cX9_reading 91 = .ok (.bipush (-9), 2) := by decide +kernel
theorem dX9_reading_93 : decode cX9_reading 93 = .ok (.ireturn, 1) := by decide +kernel
theorem dX9_pageOf_0 : decode cX9_pageOf 0 = .ok (.aload_n 0, 1) := by decide +kernel
theorem dX9_pageOf_1 : decode cX9_pageOf 1 = .ok (.getfield 10, 3) := by decide +kernel
theorem dX9_pageOf_4 : decode cX9_pageOf 4 = .ok (.getfield 62, 3) := by decide +kernel
theorem dX9_pageOf_7 : decode cX9_pageOf 7 = .ok (.astore_n 2, 1) := by decide +kernel
theorem dX9_pageOf_8 : decode cX9_pageOf 8 = .ok (.aload_n 2, 1) := by decide +kernel
theorem dX9_pageOf_9 : decode cX9_pageOf 9 = .ok (.getfield 265, 3) := by decide +kernel
theorem dX9_pageOf_12 : decode cX9_pageOf 12 = .ok (.invokevirtual 277, 3) := by decide +kernel
theorem dX9_pageOf_15 : decode cX9_pageOf 15 = .ok (.ifCond .ne 6, 3) := by decide +kernel
theorem dX9_pageOf_18 : decode cX9_pageOf 18 = .ok (.bipush (-2), 2) := by decide +kernel
theorem dX9_pageOf_20 : decode cX9_pageOf 20 = .ok (.ireturn, 1) := by decide +kernel
theorem dX9_pageOf_21 : decode cX9_pageOf 21 = .ok (.iload_n 1, 1) := by decide +kernel
theorem dX9_pageOf_22 : decode cX9_pageOf 22 = .ok (.iconst 0, 1) := by decide +kernel
theorem dX9_pageOf_23 : decode cX9_pageOf 23 = .ok (.bipush 31, 2) := by decide +kernel
theorem dX9_pageOf_25 : decode cX9_pageOf 25 = .ok (.invokestatic 145, 3) := by decide +kernel
theorem dX9_pageOf_28 : decode cX9_pageOf 28 = .ok (.ifCond .ne 5, 3) := by decide +kernel
theorem dX9_pageOf_31 : decode cX9_pageOf 31 = .ok (.iconst (-1), 1) := by decide +kernel
theorem dX9_pageOf_32 : decode cX9_pageOf 32 = .ok (.ireturn, 1) := by decide +kernel
theorem dX9_pageOf_33 : decode cX9_pageOf 33 = .ok (.aload_n 2, 1) := by decide +kernel
theorem dX9_pageOf_34 : decode cX9_pageOf 34 = .ok (.getfield 265, 3) := by decide +kernel
theorem dX9_pageOf_37 : decode cX9_pageOf 37 = .ok (.invokevirtual 343, 3) := by decide +kernel
theorem dX9_pageOf_40 : decode cX9_pageOf 40 = .ok (.istore_n 3, 1) := by decide +kernel
theorem dX9_pageOf_41 : decode cX9_pageOf 41 = .ok (.iconst 0, 1) := by decide +kernel
theorem dX9_pageOf_42 : decode cX9_pageOf 42 = .ok (.istore 4, 2) := by decide +kernel
theorem dX9_pageOf_44 : decode cX9_pageOf 44 = .ok (.iload 4, 2) := by decide +kernel
theorem dX9_pageOf_46 : decode cX9_pageOf 46 = .ok (.iload_n 3, 1) := by decide +kernel
theorem dX9_pageOf_47 : decode cX9_pageOf 47 = .ok (.if_icmp .gt 26, 3) := by decide +kernel
theorem dX9_pageOf_50 : decode cX9_pageOf 50 = .ok (.aload_n 2, 1) := by decide +kernel
theorem dX9_pageOf_51 : decode cX9_pageOf 51 = .ok (.aload_n 2, 1) := by decide +kernel
theorem dX9_pageOf_52 : decode cX9_pageOf 52 = .ok (.getfield 265, 3) := by decide +kernel
theorem dX9_pageOf_55 : decode cX9_pageOf 55 = .ok (.iload 4, 2) := by decide +kernel
theorem dX9_pageOf_57 : decode cX9_pageOf 57 = .ok (.invokevirtual 349, 3) := by decide +kernel
theorem dX9_pageOf_60 : decode cX9_pageOf 60 = .ok (.iload_n 1, 1) := by decide +kernel
theorem dX9_pageOf_61 : decode cX9_pageOf 61 = .ok (.if_icmp .ne 6, 3) := by decide +kernel
theorem dX9_pageOf_64 : decode cX9_pageOf 64 = .ok (.iload 4, 2) := by decide +kernel
theorem dX9_pageOf_66 : decode cX9_pageOf 66 = .ok (.ireturn, 1) := by decide +kernel
theorem dX9_pageOf_67 : decode cX9_pageOf 67 = .ok (.iinc 4 1, 3) := by decide +kernel
theorem dX9_pageOf_70 : decode cX9_pageOf 70 = .ok (.goto (-26), 3) := by decide +kernel
theorem dX9_pageOf_73 : decode cX9_pageOf 73 = .ok (.bipush (-9), 2) := by decide +kernel
theorem dX9_pageOf_75 : decode cX9_pageOf 75 = .ok (.ireturn, 1) := by decide +kernel
theorem dX9_effort_0 : decode cX9_effort 0 = .ok (.iload_n 1, 1) := by decide +kernel
theorem dX9_effort_1 : decode cX9_effort 1 = .ok (.iconst 4, 1) := by decide +kernel
theorem dX9_effort_2 : decode cX9_effort 2 = .ok (.if_icmp .ne 51, 3) := by decide +kernel
theorem dX9_effort_5 : decode cX9_effort 5 = .ok (.aload_n 0, 1) := by decide +kernel
theorem dX9_effort_6 : decode cX9_effort 6 = .ok (.getfield 10, 3) := by decide +kernel
theorem dX9_effort_9 : decode cX9_effort 9 = .ok (.getfield 62, 3) := by decide +kernel
theorem dX9_effort_12 : decode cX9_effort 12 = .ok (.iconst 0, 1) := by decide +kernel
theorem dX9_effort_13 : decode cX9_effort 13 = .ok (.invokevirtual 414, 3) := by decide +kernel
theorem dX9_effort_16 : decode cX9_effort 16 = .ok (.aload_n 0, 1) := by decide +kernel
theorem dX9_effort_17 : decode cX9_effort 17 = .ok (.getfield 10, 3) := by decide +kernel
theorem dX9_effort_20 : decode cX9_effort 20 = .ok (.getfield 62, 3) := by decide +kernel
theorem dX9_effort_23 : decode cX9_effort 23 = .ok (.iconst 1, 1) := by decide +kernel
theorem dX9_effort_24 : decode cX9_effort 24 = .ok (.invokevirtual 414, 3) := by decide +kernel
theorem dX9_effort_27 : decode cX9_effort 27 = .ok (.iadd, 1) := by decide +kernel
theorem dX9_effort_28 : decode cX9_effort 28 = .ok (.aload_n 0, 1) := by decide +kernel
theorem dX9_effort_29 : decode cX9_effort 29 = .ok (.getfield 10, 3) := by decide +kernel
theorem dX9_effort_32 : decode cX9_effort 32 = .ok (.getfield 62, 3) := by decide +kernel
theorem dX9_effort_35 : decode cX9_effort 35 = .ok (.iconst 2, 1) := by decide +kernel
theorem dX9_effort_36 : decode cX9_effort 36 = .ok (.invokevirtual 414, 3) := by decide +kernel
theorem dX9_effort_39 : decode cX9_effort 39 = .ok (.iadd, 1) := by decide +kernel
theorem dX9_effort_40 : decode cX9_effort 40 = .ok (.aload_n 0, 1) := by decide +kernel
theorem dX9_effort_41 : decode cX9_effort 41 = .ok (.getfield 10, 3) := by decide +kernel
theorem dX9_effort_44 : decode cX9_effort 44 = .ok (.getfield 62, 3) := by decide +kernel
theorem dX9_effort_47 : decode cX9_effort 47 = .ok (.iconst 3, 1) := by decide +kernel
theorem dX9_effort_48 : decode cX9_effort 48 = .ok (.invokevirtual 414, 3) := by decide +kernel
theorem dX9_effort_51 : decode cX9_effort 51 = .ok (.iadd, 1) := by decide +kernel
theorem dX9_effort_52 : decode cX9_effort 52 = .ok (.ireturn, 1) := by decide +kernel
theorem dX9_effort_53 : decode cX9_effort 53 = .ok (.iload_n 1, 1) := by decide +kernel
theorem dX9_effort_54 : decode cX9_effort 54 = .ok (.iconst 0, 1) := by decide +kernel
theorem dX9_effort_55 : decode cX9_effort 55 = .ok (.iconst 3, 1) := by decide +kernel
theorem dX9_effort_56 : decode cX9_effort 56 = .ok (.invokestatic 145, 3) := by decide +kernel
theorem dX9_effort_59 : decode cX9_effort 59 = .ok (.ifCond .eq 17, 3) := by decide +kernel
theorem dX9_effort_62 : decode cX9_effort 62 = .ok (.aload_n 0, 1) := by decide +kernel
theorem dX9_effort_63 : decode cX9_effort 63 = .ok (.getfield 10, 3) := by decide +kernel
theorem dX9_effort_66 : decode cX9_effort 66 = .ok (.getfield 62, 3) := by decide +kernel
theorem dX9_effort_69 : decode cX9_effort 69 = .ok (.iload_n 1, 1) := by decide +kernel
theorem dX9_effort_70 : decode cX9_effort 70 = .ok (.invokevirtual 414, 3) := by decide +kernel
theorem dX9_effort_73 : decode cX9_effort 73 = .ok (.goto 4, 3) := by decide +kernel
theorem dX9_effort_76 : decode cX9_effort 76 = .ok (.iconst (-1), 1) := by decide +kernel
theorem dX9_effort_77 : decode cX9_effort 77 = .ok (.ireturn, 1) := by decide +kernel
theorem dX9_fitting_0 : decode cX9_fitting 0 = .ok (.iload_n 1, 1) := by decide +kernel
theorem dX9_fitting_1 : decode cX9_fitting 1 = .ok (.iconst 0, 1) := by decide +kernel
theorem dX9_fitting_2 : decode cX9_fitting 2 = .ok (.iconst 2, 1) := by decide +kernel
theorem dX9_fitting_3 : decode cX9_fitting 3 = .ok (.invokestatic 145, 3) := by decide +kernel
theorem dX9_fitting_6 : decode cX9_fitting 6 = .ok (.ifCond .ne 5, 3) := by decide +kernel
theorem dX9_fitting_9 : decode cX9_fitting 9 = .ok (.iconst (-1), 1) := by decide +kernel
theorem dX9_fitting_10 : decode cX9_fitting 10 = .ok (.ireturn, 1) := by decide +kernel
theorem dX9_fitting_11 : decode cX9_fitting 11 = .ok (.iconst 0, 1) := by decide +kernel
theorem dX9_fitting_12 : decode cX9_fitting 12 = .ok (.istore_n 2, 1) := by decide +kernel
theorem dX9_fitting_13 : decode cX9_fitting 13 = .ok (.bipush (-9), 2) := by decide +kernel
theorem dX9_fitting_15 : decode cX9_fitting 15 = .ok (.istore_n 3, 1) := by decide +kernel
theorem dX9_fitting_16 : decode cX9_fitting 16 = .ok (.bipush (-9), 2) := by decide +kernel
theorem dX9_fitting_18 : decode cX9_fitting 18 = .ok (.istore 4, 2) := by decide +kernel
theorem dX9_fitting_20 : decode cX9_fitting 20 = .ok (.iconst 0, 1) := by decide +kernel
theorem dX9_fitting_21 : decode cX9_fitting 21 = .ok (.istore 5, 2) := by decide +kernel
theorem dX9_fitting_23 : decode cX9_fitting 23 = .ok (.iload 5, 2) := by decide +kernel
theorem dX9_fitting_25 : decode cX9_fitting 25 = .ok (.sipush 341, 3) := by decide +kernel
theorem dX9_fitting_28 : decode cX9_fitting 28 = .ok (.if_icmp .ge 62, 3) := by decide +kernel
theorem dX9_fitting_31 : decode cX9_fitting 31 = .ok (.iload 5, 2) := by decide +kernel
theorem dX9_fitting_33 : decode cX9_fitting 33 = .ok (.invokestatic 417, 3) := by decide +kernel
theorem dX9_fitting_36 : decode cX9_fitting 36 = .ok (.istore 6, 2) := by decide +kernel
theorem dX9_fitting_38 : decode cX9_fitting 38 = .ok (.aload_n 0, 1) := by decide +kernel
theorem dX9_fitting_39 : decode cX9_fitting 39 = .ok (.iload 6, 2) := by decide +kernel
theorem dX9_fitting_41 : decode cX9_fitting 41 = .ok (.invokevirtual 420, 3) := by decide +kernel
theorem dX9_fitting_44 : decode cX9_fitting 44 = .ok (.ifCond .eq 40, 3) := by decide +kernel
theorem dX9_fitting_47 : decode cX9_fitting 47 = .ok (.aload_n 0, 1) := by decide +kernel
theorem dX9_fitting_48 : decode cX9_fitting 48 = .ok (.getfield 10, 3) := by decide +kernel
theorem dX9_fitting_51 : decode cX9_fitting 51 = .ok (.getfield 62, 3) := by decide +kernel
theorem dX9_fitting_54 : decode cX9_fitting 54 = .ok (.aload_n 0, 1) := by decide +kernel
theorem dX9_fitting_55 : decode cX9_fitting 55 = .ok (.getfield 26, 3) := by decide +kernel
theorem dX9_fitting_58 : decode cX9_fitting 58 = .ok (.invokevirtual 423, 3) := by decide +kernel
theorem dX9_fitting_61 : decode cX9_fitting 61 = .ok (.ifCond .eq 23, 3) := by decide +kernel
theorem dX9_fitting_64 : decode cX9_fitting 64 = .ok (.iinc 2 1, 3) := by decide +kernel
theorem dX9_fitting_67 : decode cX9_fitting 67 = .ok (.iload_n 3, 1) := by decide +kernel
theorem dX9_fitting_68 : decode cX9_fitting 68 = .ok (.bipush (-9), 2) := by decide +kernel
theorem dX9_fitting_70 : decode cX9_fitting 70 = .ok (.if_icmp .ne 8, 3) := by decide +kernel
theorem dX9_fitting_73 : decode cX9_fitting 73 = .ok (.iload 6, 2) := by decide +kernel
theorem dX9_fitting_75 : decode cX9_fitting 75 = .ok (.goto 4, 3) := by decide +kernel
theorem dX9_fitting_78 : decode cX9_fitting 78 = .ok (.iload_n 3, 1) := by decide +kernel
theorem dX9_fitting_79 : decode cX9_fitting 79 = .ok (.istore_n 3, 1) := by decide +kernel
theorem dX9_fitting_80 : decode cX9_fitting 80 = .ok (.iload 6, 2) := by decide +kernel
theorem dX9_fitting_82 : decode cX9_fitting 82 = .ok (.istore 4, 2) := by decide +kernel
theorem dX9_fitting_84 : decode cX9_fitting 84 = .ok (.iinc 5 1, 3) := by decide +kernel
theorem dX9_fitting_87 : decode cX9_fitting 87 = .ok (.goto (-64), 3) := by decide +kernel
theorem dX9_fitting_90 : decode cX9_fitting 90 = .ok (.iload_n 1, 1) := by decide +kernel
theorem dX9_fitting_91 : decode cX9_fitting 91 = .ok (.ifCond .ne 5, 3) := by decide +kernel
theorem dX9_fitting_94 : decode cX9_fitting 94 = .ok (.iload_n 2, 1) := by decide +kernel
theorem dX9_fitting_95 : decode cX9_fitting 95 = .ok (.ireturn, 1) := by decide +kernel
theorem dX9_fitting_96 : decode cX9_fitting 96 = .ok (.iload_n 1, 1) := by decide +kernel
theorem dX9_fitting_97 : decode cX9_fitting 97 = .ok (.iconst 1, 1) := by decide +kernel
theorem dX9_fitting_98 : decode cX9_fitting 98 = .ok (.if_icmp .ne 7, 3) := by decide +kernel
theorem dX9_fitting_101 : decode cX9_fitting 101 = .ok (.iload_n 3, 1) := by decide +kernel
theorem dX9_fitting_102 : decode cX9_fitting 102 = .ok (.goto 5, 3) := by decide +kernel
theorem dX9_fitting_105 : decode cX9_fitting 105 = .ok (.iload 4, 2) := by decide +kernel
theorem dX9_fitting_107 : decode cX9_fitting 107 = .ok (.ireturn, 1) := by decide +kernel
theorem dX9_readsBy_0 : decode cX9_readsBy 0 = .ok (.aload_n 0, 1) := by decide +kernel
theorem dX9_readsBy_1 : decode cX9_readsBy 1 = .ok (.iload_n 1, 1) := by decide +kernel
theorem dX9_readsBy_2 : decode cX9_readsBy 2 = .ok (.invokevirtual 420, 3) := by decide +kernel
theorem dX9_readsBy_5 : decode cX9_readsBy 5 = .ok (.ifCond .eq 20, 3) := by decide +kernel
theorem dX9_readsBy_8 : decode cX9_readsBy 8 = .ok (.aload_n 0, 1) := by decide +kernel
theorem dX9_readsBy_9 : decode cX9_readsBy 9 = .ok (.getfield 10, 3) := by decide +kernel
theorem dX9_readsBy_12 : decode cX9_readsBy 12 = .ok (.getfield 62, 3) := by decide +kernel
theorem dX9_readsBy_15 : decode cX9_readsBy 15 = .ok (.aload_n 0, 1) := by decide +kernel
theorem dX9_readsBy_16 : decode cX9_readsBy 16 = .ok (.getfield 26, 3) := by decide +kernel
theorem dX9_readsBy_19 : decode cX9_readsBy 19 = .ok (.invokevirtual 427, 3) := by decide +kernel
theorem dX9_readsBy_22 : decode cX9_readsBy 22 = .ok (.goto 4, 3) := by decide +kernel
theorem dX9_readsBy_25 : decode cX9_readsBy 25 = .ok (.iconst (-1), 1) := by decide +kernel
theorem dX9_readsBy_26 : decode cX9_readsBy 26 = .ok (.ireturn, 1) := by decide +kernel
theorem dX9_cutsFor_0 : decode cX9_cutsFor 0 = .ok (.aload_n 0, 1) := by decide +kernel
theorem dX9_cutsFor_1 : decode cX9_cutsFor 1 = .ok (.iload_n 1, 1) := by decide +kernel
theorem dX9_cutsFor_2 : decode cX9_cutsFor 2 = .ok (.invokevirtual 420, 3) := by decide +kernel
theorem dX9_cutsFor_5 : decode cX9_cutsFor 5 = .ok (.ifCond .eq 20, 3) := by decide +kernel
theorem dX9_cutsFor_8 : decode cX9_cutsFor 8 = .ok (.aload_n 0, 1) := by decide +kernel
theorem dX9_cutsFor_9 : decode cX9_cutsFor 9 = .ok (.getfield 10, 3) := by decide +kernel
theorem dX9_cutsFor_12 : decode cX9_cutsFor 12 = .ok (.getfield 62, 3) := by decide +kernel
theorem dX9_cutsFor_15 : decode cX9_cutsFor 15 = .ok (.aload_n 0, 1) := by decide +kernel
theorem dX9_cutsFor_16 : decode cX9_cutsFor 16 = .ok (.getfield 26, 3) := by decide +kernel
theorem dX9_cutsFor_19 : decode cX9_cutsFor 19 = .ok (.invokevirtual 431, 3) := by decide +kernel
theorem dX9_cutsFor_22 : decode cX9_cutsFor 22 = .ok (.goto 4, 3) := by decide +kernel
theorem dX9_cutsFor_25 : decode cX9_cutsFor 25 = .ok (.iconst (-1), 1) := by decide +kernel
theorem dX9_cutsFor_26 : decode cX9_cutsFor 26 = .ok (.ireturn, 1) := by decide +kernel
theorem dX9_best_0 : decode cX9_best 0 = .ok (.iload_n 1, 1) := by decide +kernel
theorem dX9_best_1 : decode cX9_best 1 = .ok (.iconst 0, 1) := by decide +kernel
theorem dX9_best_2 : decode cX9_best 2 = .ok (.iconst 2, 1) := by decide +kernel
theorem dX9_best_3 : decode cX9_best 3 = .ok (.invokestatic 145, 3) := by decide +kernel
theorem dX9_best_6 : decode cX9_best 6 = .ok (.ifCond .ne 5, 3) := by decide +kernel
theorem dX9_best_9 : decode cX9_best 9 = .ok (.iconst (-1), 1) := by decide +kernel
theorem dX9_best_10 : decode cX9_best 10 = .ok (.ireturn, 1) := by decide +kernel
theorem dX9_best_11 : decode cX9_best 11 = .ok (.aload_n 0, 1) := by decide +kernel
theorem dX9_best_12 : decode cX9_best 12 = .ok (.invokevirtual 434, 3) := by decide +kernel
theorem dX9_best_15 : decode cX9_best 15 = .ok (.istore_n 2, 1) := by decide +kernel
theorem dX9_best_16 : decode cX9_best 16 = .ok (.iload_n 1, 1) := by decide +kernel
theorem dX9_best_17 : decode cX9_best 17 = .ok (.ifCond .ne 5, 3) := by decide +kernel
theorem dX9_best_20 : decode cX9_best 20 = .ok (.iload_n 2, 1) := by decide +kernel
theorem dX9_best_21 : decode cX9_best 21 = .ok (.ireturn, 1) := by decide +kernel
theorem dX9_best_22 : decode cX9_best 22 = .ok (.iload_n 1, 1) := by decide +kernel
theorem dX9_best_23 : decode cX9_best 23 = .ok (.iconst 1, 1) := by decide +kernel
theorem dX9_best_24 : decode cX9_best 24 = .ok (.if_icmp .ne 14, 3) := by decide +kernel
theorem dX9_best_27 : decode cX9_best 27 = .ok (.aload_n 0, 1) := by decide +kernel
theorem dX9_best_28 : decode cX9_best 28 = .ok (.iload_n 2, 1) := by decide +kernel
theorem dX9_best_29 : decode cX9_best 29 = .ok (.invokevirtual 437, 3) := by decide +kernel
theorem dX9_best_32 : decode cX9_best 32 = .ok (.invokestatic 290, 3) := by decide +kernel
theorem dX9_best_35 : decode cX9_best 35 = .ok (.goto 8, 3) := by decide +kernel
theorem dX9_best_38 : decode cX9_best 38 = .ok (.aload_n 0, 1) := by decide +kernel
theorem dX9_best_39 : decode cX9_best 39 = .ok (.iload_n 2, 1) := by decide +kernel
theorem dX9_best_40 : decode cX9_best 40 = .ok (.invokevirtual 440, 3) := by decide +kernel
theorem dX9_best_43 : decode cX9_best 43 = .ok (.ireturn, 1) := by decide +kernel
theorem dX9_bestFolds_0 : decode cX9_bestFolds 0 = .ok (.bipush (-9), 2) := by decide +kernel
theorem dX9_bestFolds_2 : decode cX9_bestFolds 2 = .ok (.istore_n 1, 1) := by decide +kernel
theorem dX9_bestFolds_3 : decode cX9_bestFolds 3 = .ok (.iconst 0, 1) := by decide +kernel
theorem dX9_bestFolds_4 : decode cX9_bestFolds 4 = .ok (.istore_n 2, 1) := by decide +kernel
theorem dX9_bestFolds_5 : decode cX9_bestFolds 5 = .ok (.iconst 0, 1) := by decide +kernel
theorem dX9_bestFolds_6 : decode cX9_bestFolds 6 = .ok (.istore_n 3, 1) := by decide +kernel
theorem dX9_bestFolds_7 : decode cX9_bestFolds 7 = .ok (.iload_n 3, 1) := by decide +kernel
theorem dX9_bestFolds_8 : decode cX9_bestFolds 8 = .ok (.sipush 341, 3) := by decide +kernel
theorem dX9_bestFolds_11 : decode cX9_bestFolds 11 = .ok (.if_icmp .ge 79, 3) := by decide +kernel
theorem dX9_bestFolds_14 : decode cX9_bestFolds 14 = .ok (.iload_n 3, 1) := by decide +kernel
theorem dX9_bestFolds_15 : decode cX9_bestFolds 15 = .ok (.invokestatic 417, 3) := by decide +kernel
theorem dX9_bestFolds_18 : decode cX9_bestFolds 18 = .ok (.istore 4, 2) := by decide +kernel
theorem dX9_bestFolds_20 : decode cX9_bestFolds 20 = .ok (.aload_n 0, 1) := by decide +kernel
theorem dX9_bestFolds_21 : decode cX9_bestFolds 21 = .ok (.iload 4, 2) := by decide +kernel
theorem dX9_bestFolds_23 : decode cX9_bestFolds 23 = .ok (.invokevirtual 420, 3) := by decide +kernel
theorem dX9_bestFolds_26 : decode cX9_bestFolds 26 = .ok (.ifCond .eq 58, 3) := by decide +kernel
theorem dX9_bestFolds_29 : decode cX9_bestFolds 29 = .ok (.aload_n 0, 1) := by decide +kernel
theorem dX9_bestFolds_30 : decode cX9_bestFolds 30 = .ok (.getfield 10, 3) := by decide +kernel
theorem dX9_bestFolds_33 : decode cX9_bestFolds 33 = .ok (.getfield 62, 3) := by decide +kernel
theorem dX9_bestFolds_36 : decode cX9_bestFolds 36 = .ok (.aload_n 0, 1) := by decide +kernel
theorem dX9_bestFolds_37 : decode cX9_bestFolds 37 = .ok (.getfield 26, 3) := by decide +kernel
theorem dX9_bestFolds_40 : decode cX9_bestFolds 40 = .ok (.invokevirtual 431, 3) := by decide +kernel
theorem dX9_bestFolds_43 : decode cX9_bestFolds 43 = .ok (.invokestatic 290, 3) := by decide +kernel
theorem dX9_bestFolds_46 : decode cX9_bestFolds 46 = .ok (.bipush 33, 2) := by decide +kernel
theorem dX9_bestFolds_48 : decode cX9_bestFolds 48 = .ok (.imul, 1) := by decide +kernel
theorem dX9_bestFolds_49 : decode cX9_bestFolds 49 = .ok (.aload_n 0, 1) := by decide +kernel
theorem dX9_bestFolds_50 : decode cX9_bestFolds 50 = .ok (.getfield 10, 3) := by decide +kernel
theorem dX9_bestFolds_53 : decode cX9_bestFolds 53 = .ok (.getfield 62, 3) := by decide +kernel
theorem dX9_bestFolds_56 : decode cX9_bestFolds 56 = .ok (.aload_n 0, 1) := by decide +kernel
theorem dX9_bestFolds_57 : decode cX9_bestFolds 57 = .ok (.getfield 26, 3) := by decide +kernel
theorem dX9_bestFolds_60 : decode cX9_bestFolds 60 = .ok (.invokevirtual 427, 3) := by decide +kernel
theorem dX9_bestFolds_63 : decode cX9_bestFolds 63 = .ok (.isub, 1) := by decide +kernel
theorem dX9_bestFolds_64 : decode cX9_bestFolds 64 = .ok (.istore 5, 2) := by decide +kernel
theorem dX9_bestFolds_66 : decode cX9_bestFolds 66 = .ok (.iload_n 1, 1) := by decide +kernel
theorem dX9_bestFolds_67 : decode cX9_bestFolds 67 = .ok (.bipush (-9), 2) := by decide +kernel
theorem dX9_bestFolds_69 : decode cX9_bestFolds 69 = .ok (.if_icmp .eq 9, 3) := by decide +kernel
theorem dX9_bestFolds_72 : decode cX9_bestFolds 72 = .ok (.iload 5, 2) := by decide +kernel
theorem dX9_bestFolds_74 : decode cX9_bestFolds 74 = .ok (.iload_n 2, 1) := by decide +kernel
theorem dX9_bestFolds_75 : decode cX9_bestFolds 75 = .ok (.if_icmp .ge 9, 3) := by decide +kernel
theorem dX9_bestFolds_78 : decode cX9_bestFolds 78 = .ok (.iload 4, 2) := by decide +kernel
theorem dX9_bestFolds_80 : decode cX9_bestFolds 80 = .ok (.istore_n 1, 1) := by decide +kernel
theorem dX9_bestFolds_81 : decode cX9_bestFolds 81 = .ok (.iload 5, 2) := by decide +kernel
theorem dX9_bestFolds_83 : decode cX9_bestFolds 83 = .ok (.istore_n 2, 1) := by decide +kernel
theorem dX9_bestFolds_84 : decode cX9_bestFolds 84 = .ok (.iinc 3 1, 3) := by decide +kernel
theorem dX9_bestFolds_87 : decode cX9_bestFolds 87 = .ok (.goto (-80), 3) := by decide +kernel
theorem dX9_bestFolds_90 : decode cX9_bestFolds 90 = .ok (.iload_n 1, 1) := by decide +kernel
theorem dX9_bestFolds_91 : decode cX9_bestFolds 91 = .ok (.ireturn, 1) := by decide +kernel
theorem dX9_tryFolds_0 : decode cX9_tryFolds 0 = .ok (.aload_n 0, 1) := by decide +kernel
theorem dX9_tryFolds_1 : decode cX9_tryFolds 1 = .ok (.getfield 26, 3) := by decide +kernel
theorem dX9_tryFolds_4 : decode cX9_tryFolds 4 = .ok (.aload_n 0, 1) := by decide +kernel
theorem dX9_tryFolds_5 : decode cX9_tryFolds 5 = .ok (.getfield 10, 3) := by decide +kernel
theorem dX9_tryFolds_8 : decode cX9_tryFolds 8 = .ok (.getfield 62, 3) := by decide +kernel
theorem dX9_tryFolds_11 : decode cX9_tryFolds 11 = .ok (.getfield 253, 3) := by decide +kernel
theorem dX9_tryFolds_14 : decode cX9_tryFolds 14 = .ok (.getfield 257, 3) := by decide +kernel
theorem dX9_tryFolds_17 : decode cX9_tryFolds 17 = .ok (.aload_n 0, 1) := by decide +kernel
theorem dX9_tryFolds_18 : decode cX9_tryFolds 18 = .ok (.getfield 10, 3) := by decide +kernel
theorem dX9_tryFolds_21 : decode cX9_tryFolds 21 = .ok (.getfield 62, 3) := by decide +kernel
theorem dX9_tryFolds_24 : decode cX9_tryFolds 24 = .ok (.getfield 253, 3) := by decide +kernel
theorem dX9_tryFolds_27 : decode cX9_tryFolds 27 = .ok (.getfield 262, 3) := by decide +kernel
theorem dX9_tryFolds_30 : decode cX9_tryFolds 30 = .ok (.iload_n 1, 1) := by decide +kernel
theorem dX9_tryFolds_31 : decode cX9_tryFolds 31 = .ok (.invokevirtual 443, 3) := by decide +kernel
theorem dX9_tryFolds_34 : decode cX9_tryFolds 34 = .ok (.ireturn, 1) := by decide +kernel
theorem dX9_rowOfFolds_0 : decode cX9_rowOfFolds 0 = .ok (.iconst 0, 1) := by decide +kernel
theorem dX9_rowOfFolds_1 : decode cX9_rowOfFolds 1 = .ok (.istore_n 1, 1) := by decide +kernel
theorem dX9_rowOfFolds_2 : decode cX9_rowOfFolds 2 = .ok (.iload_n 0, 1) := by decide +kernel
theorem dX9_rowOfFolds_3 : decode cX9_rowOfFolds 3 = .ok (.istore_n 2, 1) := by decide +kernel
theorem dX9_rowOfFolds_4 : decode cX9_rowOfFolds 4 = .ok (.iconst 1, 1) := by decide +kernel
theorem dX9_rowOfFolds_5 : decode cX9_rowOfFolds 5 = .ok (.istore_n 3, 1) := by decide +kernel
theorem dX9_rowOfFolds_6 : decode cX9_rowOfFolds 6 = .ok (.iload_n 3, 1) := by decide +kernel
theorem dX9_rowOfFolds_7 : decode cX9_rowOfFolds 7 = .ok (.sipush 1000, 3) := by decide +kernel
theorem dX9_rowOfFolds_10 : decode cX9_rowOfFolds 10 = .ok (.if_icmp .gt 33, 3) := by decide +kernel
theorem dX9_rowOfFolds_13 : decode cX9_rowOfFolds 13 = .ok (.iload_n 2, 1) := by decide +kernel
theorem dX9_rowOfFolds_14 : decode cX9_rowOfFolds 14 = .ok (.ifCond .le 29, 3) := by decide +kernel
theorem dX9_rowOfFolds_17 : decode cX9_rowOfFolds 17 = .ok (.iload_n 1, 1) := by decide +kernel
theorem dX9_rowOfFolds_18 : decode cX9_rowOfFolds 18 = .ok (.iload_n 2, 1) := by decide +kernel
theorem dX9_rowOfFolds_19 : decode cX9_rowOfFolds 19 = .ok (.iconst 1, 1) := by decide +kernel
theorem dX9_rowOfFolds_20 : decode cX9_rowOfFolds 20 = .ok (.isub, 1) := by decide +kernel
theorem dX9_rowOfFolds_21 : decode cX9_rowOfFolds 21 = .ok (.iconst 4, 1) := by decide +kernel
theorem dX9_rowOfFolds_22 : decode cX9_rowOfFolds 22 = .ok (.irem, 1) := by decide +kernel
theorem dX9_rowOfFolds_23 : decode cX9_rowOfFolds 23 = .ok (.iconst 1, 1) := by decide +kernel
theorem dX9_rowOfFolds_24 : decode cX9_rowOfFolds 24 = .ok (.iadd, 1) := by decide +kernel
theorem dX9_rowOfFolds_25 : decode cX9_rowOfFolds 25 = .ok (.iload_n 3, 1) := by decide +kernel
theorem dX9_rowOfFolds_26 : decode cX9_rowOfFolds 26 = .ok (.imul, 1) := by decide +kernel
theorem dX9_rowOfFolds_27 : decode cX9_rowOfFolds 27 = .ok (.iadd, 1) := by decide +kernel
theorem dX9_rowOfFolds_28 : decode cX9_rowOfFolds 28 = .ok (.istore_n 1, 1) := by decide +kernel
theorem dX9_rowOfFolds_29 : decode cX9_rowOfFolds 29 = .ok (.iload_n 2, 1) := by decide +kernel
theorem dX9_rowOfFolds_30 : decode cX9_rowOfFolds 30 = .ok (.iconst 1, 1) := by decide +kernel
theorem dX9_rowOfFolds_31 : decode cX9_rowOfFolds 31 = .ok (.isub, 1) := by decide +kernel
theorem dX9_rowOfFolds_32 : decode cX9_rowOfFolds 32 = .ok (.iconst 4, 1) := by decide +kernel
theorem dX9_rowOfFolds_33 : decode cX9_rowOfFolds 33 = .ok (.idiv, 1) := by decide +kernel
theorem dX9_rowOfFolds_34 : decode cX9_rowOfFolds 34 = .ok (.istore_n 2, 1) := by decide +kernel
theorem dX9_rowOfFolds_35 : decode cX9_rowOfFolds 35 = .ok (.iload_n 3, 1) := by decide +kernel
theorem dX9_rowOfFolds_36 : decode cX9_rowOfFolds 36 = .ok (.bipush 10, 2) := by decide +kernel
theorem dX9_rowOfFolds_38 : decode cX9_rowOfFolds 38 = .ok (.imul, 1) := by decide +kernel
theorem dX9_rowOfFolds_39 : decode cX9_rowOfFolds 39 = .ok (.istore_n 3, 1) := by decide +kernel
theorem dX9_rowOfFolds_40 : decode cX9_rowOfFolds 40 = .ok (.goto (-34), 3) := by decide +kernel
theorem dX9_rowOfFolds_43 : decode cX9_rowOfFolds 43 = .ok (.iload_n 1, 1) := by decide +kernel
theorem dX9_rowOfFolds_44 : decode cX9_rowOfFolds 44 = .ok (.ireturn, 1) := by decide +kernel
theorem dX9_isIn_0 : decode cX9_isIn 0 = .ok (.iload_n 0, 1) := by decide +kernel
theorem dX9_isIn_1 : decode cX9_isIn 1 = .ok (.iload_n 1, 1) := by decide +kernel
theorem dX9_isIn_2 : decode cX9_isIn 2 = .ok (.if_icmp .lt 12, 3) := by decide +kernel
theorem dX9_isIn_5 : decode cX9_isIn 5 = .ok (.iload_n 0, 1) := by decide +kernel
theorem dX9_isIn_6 : decode cX9_isIn 6 = .ok (.iload_n 2, 1) := by decide +kernel
theorem dX9_isIn_7 : decode cX9_isIn 7 = .ok (.if_icmp .gt 7, 3) := by decide +kernel
theorem dX9_isIn_10 : decode cX9_isIn 10 = .ok (.iconst 1, 1) := by decide +kernel
theorem dX9_isIn_11 : decode cX9_isIn 11 = .ok (.goto 4, 3) := by decide +kernel
theorem dX9_isIn_14 : decode cX9_isIn 14 = .ok (.iconst 0, 1) := by decide +kernel
theorem dX9_isIn_15 : decode cX9_isIn 15 = .ok (.ireturn, 1) := by decide +kernel
theorem dX9_isInSet_0 : decode cX9_isInSet 0 = .ok (.iload_n 1, 1) := by decide +kernel
theorem dX9_isInSet_1 : decode cX9_isInSet 1 = .ok (.iload_n 0, 1) := by decide +kernel
theorem dX9_isInSet_2 : decode cX9_isInSet 2 = .ok (.ishr, 1) := by decide +kernel
theorem dX9_isInSet_3 : decode cX9_isInSet 3 = .ok (.iconst 1, 1) := by decide +kernel
theorem dX9_isInSet_4 : decode cX9_isInSet 4 = .ok (.iand, 1) := by decide +kernel
theorem dX9_isInSet_5 : decode cX9_isInSet 5 = .ok (.iconst 1, 1) := by decide +kernel
theorem dX9_isInSet_6 : decode cX9_isInSet 6 = .ok (.if_icmp .ne 7, 3) := by decide +kernel
theorem dX9_isInSet_9 : decode cX9_isInSet 9 = .ok (.iconst 1, 1) := by decide +kernel
theorem dX9_isInSet_10 : decode cX9_isInSet 10 = .ok (.goto 4, 3) := by decide +kernel
theorem dX9_isInSet_13 : decode cX9_isInSet 13 = .ok (.iconst 0, 1) := by decide +kernel
theorem dX9_isInSet_14 : decode cX9_isInSet 14 = .ok (.ireturn, 1) := by decide +kernel
theorem dX9_asNumber_0 : decode cX9_asNumber 0 = .ok (.iload_n 0, 1) := by decide +kernel
theorem dX9_asNumber_1 : decode cX9_asNumber 1 = .ok (.ifCond .eq 7, 3) := by decide +kernel
theorem dX9_asNumber_4 : decode cX9_asNumber 4 = .ok (.iconst 1, 1) := by decide +kernel
theorem dX9_asNumber_5 : decode cX9_asNumber 5 = .ok (.goto 4, 3) := by decide +kernel
theorem dX9_asNumber_8 : decode cX9_asNumber 8 = .ok (.iconst 0, 1) := by decide +kernel
theorem dX9_asNumber_9 : decode cX9_asNumber 9 = .ok (.ireturn, 1) := by decide +kernel
theorem dX9_isError_0 : decode cX9_isError 0 = .ok (.iload_n 0, 1) := by decide +kernel
theorem dX9_isError_1 : decode cX9_isError 1 = .ok (.bipush (-3), 2) := by decide +kernel
theorem dX9_isError_3 : decode cX9_isError 3 = .ok (.iconst (-1), 1) := by decide +kernel
theorem dX9_isError_4 : decode cX9_isError 4 = .ok (.invokestatic 145, 3) := by decide +kernel
theorem dX9_isError_7 : decode cX9_isError 7 = .ok (.ireturn, 1) := by decide +kernel
theorem dX9_cellAt_0 : decode cX9_cellAt 0 = .ok (.iload_n 0, 1) := by decide +kernel
theorem dX9_cellAt_1 : decode cX9_cellAt 1 = .ok (.iconst 4, 1) := by decide +kernel
theorem dX9_cellAt_2 : decode cX9_cellAt 2 = .ok (.imul, 1) := by decide +kernel
theorem dX9_cellAt_3 : decode cX9_cellAt 3 = .ok (.iload_n 1, 1) := by decide +kernel
theorem dX9_cellAt_4 : decode cX9_cellAt 4 = .ok (.iadd, 1) := by decide +kernel
theorem dX9_cellAt_5 : decode cX9_cellAt 5 = .ok (.ireturn, 1) := by decide +kernel
theorem dX9_placeOfSide_0 : decode cX9_placeOfSide 0 = .ok (.iload_n 0, 1) := by decide +kernel
theorem dX9_placeOfSide_1 : decode cX9_placeOfSide 1 = .ok (.iconst 2, 1) := by decide +kernel
theorem dX9_placeOfSide_2 : decode cX9_placeOfSide 2 = .ok (.imul, 1) := by decide +kernel
theorem dX9_placeOfSide_3 : decode cX9_placeOfSide 3 = .ok (.iload_n 1, 1) := by decide +kernel
theorem dX9_placeOfSide_4 : decode cX9_placeOfSide 4 = .ok (.iadd, 1) := by decide +kernel
theorem dX9_placeOfSide_5 : decode cX9_placeOfSide 5 = .ok (.ireturn, 1) := by decide +kernel
theorem dJ6_bitCount_0f7a4_0 : decode cJ6_bitCount_0f7a4 0 = .ok (.iload_n 0, 1) := by decide +kernel
theorem dJ6_bitCount_0f7a4_1 : decode cJ6_bitCount_0f7a4 1 = .ok (.iload_n 0, 1) := by decide +kernel
theorem dJ6_bitCount_0f7a4_2 : decode cJ6_bitCount_0f7a4 2 = .ok (.iconst 1, 1) := by decide +kernel
theorem dJ6_bitCount_0f7a4_3 : decode cJ6_bitCount_0f7a4 3 = .ok (.iushr, 1) := by decide +kernel
theorem dJ6_bitCount_0f7a4_4 : decode cJ6_bitCount_0f7a4 4 = .ok (.ldc_w 265, 3) := by decide +kernel
theorem dJ6_bitCount_0f7a4_7 : decode cJ6_bitCount_0f7a4 7 = .ok (.iand, 1) := by decide +kernel
theorem dJ6_bitCount_0f7a4_8 : decode cJ6_bitCount_0f7a4 8 = .ok (.isub, 1) := by decide +kernel
theorem dJ6_bitCount_0f7a4_9 : decode cJ6_bitCount_0f7a4 9 = .ok (.istore_n 0, 1) := by decide +kernel
theorem dJ6_bitCount_0f7a4_10 : decode cJ6_bitCount_0f7a4 10 = .ok (.iload_n 0, 1) := by decide +kernel
theorem dJ6_bitCount_0f7a4_11 : decode cJ6_bitCount_0f7a4 11 = .ok (.ldc_w 266, 3) := by decide +kernel
theorem dJ6_bitCount_0f7a4_14 : decode cJ6_bitCount_0f7a4 14 = .ok (.iand, 1) := by decide +kernel
theorem dJ6_bitCount_0f7a4_15 : decode cJ6_bitCount_0f7a4 15 = .ok (.iload_n 0, 1) := by decide +kernel
theorem dJ6_bitCount_0f7a4_16 : decode cJ6_bitCount_0f7a4 16 = .ok (.iconst 2, 1) := by decide +kernel
theorem dJ6_bitCount_0f7a4_17 : decode cJ6_bitCount_0f7a4 17 = .ok (.iushr, 1) := by decide +kernel
theorem dJ6_bitCount_0f7a4_18 : decode cJ6_bitCount_0f7a4 18 = .ok (.ldc_w 266, 3) := by decide +kernel
theorem dJ6_bitCount_0f7a4_21 : decode cJ6_bitCount_0f7a4 21 = .ok (.iand, 1) := by decide +kernel
theorem dJ6_bitCount_0f7a4_22 : decode cJ6_bitCount_0f7a4 22 = .ok (.iadd, 1) := by decide +kernel
theorem dJ6_bitCount_0f7a4_23 : decode cJ6_bitCount_0f7a4 23 = .ok (.istore_n 0, 1) := by decide +kernel
theorem dJ6_bitCount_0f7a4_24 : decode cJ6_bitCount_0f7a4 24 = .ok (.iload_n 0, 1) := by decide +kernel
theorem dJ6_bitCount_0f7a4_25 : decode cJ6_bitCount_0f7a4 25 = .ok (.iload_n 0, 1) := by decide +kernel
theorem dJ6_bitCount_0f7a4_26 : decode cJ6_bitCount_0f7a4 26 = .ok (.iconst 4, 1) := by decide +kernel
theorem dJ6_bitCount_0f7a4_27 : decode cJ6_bitCount_0f7a4 27 = .ok (.iushr, 1) := by decide +kernel
theorem dJ6_bitCount_0f7a4_28 : decode cJ6_bitCount_0f7a4 28 = .ok (.iadd, 1) := by decide +kernel
theorem dJ6_bitCount_0f7a4_29 : decode cJ6_bitCount_0f7a4 29 = .ok (.ldc_w 267, 3) := by decide +kernel
theorem dJ6_bitCount_0f7a4_32 : decode cJ6_bitCount_0f7a4 32 = .ok (.iand, 1) := by decide +kernel
theorem dJ6_bitCount_0f7a4_33 : decode cJ6_bitCount_0f7a4 33 = .ok (.istore_n 0, 1) := by decide +kernel
theorem dJ6_bitCount_0f7a4_34 : decode cJ6_bitCount_0f7a4 34 = .ok (.iload_n 0, 1) := by decide +kernel
theorem dJ6_bitCount_0f7a4_35 : decode cJ6_bitCount_0f7a4 35 = .ok (.iload_n 0, 1) := by decide +kernel
theorem dJ6_bitCount_0f7a4_36 : decode cJ6_bitCount_0f7a4 36 = .ok (.bipush 8, 2) := by decide +kernel
theorem dJ6_bitCount_0f7a4_38 : decode cJ6_bitCount_0f7a4 38 = .ok (.iushr, 1) := by decide +kernel
theorem dJ6_bitCount_0f7a4_39 : decode cJ6_bitCount_0f7a4 39 = .ok (.iadd, 1) := by decide +kernel
theorem dJ6_bitCount_0f7a4_40 : decode cJ6_bitCount_0f7a4 40 = .ok (.istore_n 0, 1) := by decide +kernel
theorem dJ6_bitCount_0f7a4_41 : decode cJ6_bitCount_0f7a4 41 = .ok (.iload_n 0, 1) := by decide +kernel
theorem dJ6_bitCount_0f7a4_42 : decode cJ6_bitCount_0f7a4 42 = .ok (.iload_n 0, 1) := by decide +kernel
theorem dJ6_bitCount_0f7a4_43 : decode cJ6_bitCount_0f7a4 43 = .ok (.bipush 16, 2) := by decide +kernel
theorem dJ6_bitCount_0f7a4_45 : decode cJ6_bitCount_0f7a4 45 = .ok (.iushr, 1) := by decide +kernel
theorem dJ6_bitCount_0f7a4_46 : decode cJ6_bitCount_0f7a4 46 = .ok (.iadd, 1) := by decide +kernel
theorem dJ6_bitCount_0f7a4_47 : decode cJ6_bitCount_0f7a4 47 = .ok (.istore_n 0, 1) := by decide +kernel
theorem dJ6_bitCount_0f7a4_48 : decode cJ6_bitCount_0f7a4 48 = .ok (.iload_n 0, 1) := by decide +kernel
theorem dJ6_bitCount_0f7a4_49 : decode cJ6_bitCount_0f7a4 49 = .ok (.bipush 63, 2) := by decide +kernel
theorem dJ6_bitCount_0f7a4_51 : decode cJ6_bitCount_0f7a4 51 = .ok (.iand, 1) := by decide +kernel
theorem dJ6_bitCount_0f7a4_52 : decode cJ6_bitCount_0f7a4 52 = .ok (.ireturn, 1) := by decide +kernel
theorem dJ9_max_7cf53_0 : decode cJ9_max_7cf53 0 = .ok (.iload_n 0, 1) := by decide +kernel
theorem dJ9_max_7cf53_1 : decode cJ9_max_7cf53 1 = .ok (.iload_n 1, 1) := by decide +kernel
theorem dJ9_max_7cf53_2 : decode cJ9_max_7cf53 2 = .ok (.if_icmp .lt 7, 3) := by decide +kernel
theorem dJ9_max_7cf53_5 : decode cJ9_max_7cf53 5 = .ok (.iload_n 0, 1) := by decide +kernel
theorem dJ9_max_7cf53_6 : decode cJ9_max_7cf53 6 = .ok (.goto 4, 3) := by decide +kernel
theorem dJ9_max_7cf53_9 : decode cJ9_max_7cf53 9 = .ok (.iload_n 1, 1) := by decide +kernel
theorem dJ9_max_7cf53_10 : decode cJ9_max_7cf53 10 = .ok (.ireturn, 1) := by decide +kernel
theorem dJ9_min_7cf53_0 : decode cJ9_min_7cf53 0 = .ok (.iload_n 0, 1) := by decide +kernel
theorem dJ9_min_7cf53_1 : decode cJ9_min_7cf53 1 = .ok (.iload_n 1, 1) := by decide +kernel
theorem dJ9_min_7cf53_2 : decode cJ9_min_7cf53 2 = .ok (.if_icmp .gt 7, 3) := by decide +kernel
theorem dJ9_min_7cf53_5 : decode cJ9_min_7cf53 5 = .ok (.iload_n 0, 1) := by decide +kernel
theorem dJ9_min_7cf53_6 : decode cJ9_min_7cf53 6 = .ok (.goto 4, 3) := by decide +kernel
theorem dJ9_min_7cf53_9 : decode cJ9_min_7cf53 9 = .ok (.iload_n 1, 1) := by decide +kernel
theorem dJ9_min_7cf53_10 : decode cJ9_min_7cf53 10 = .ok (.ireturn, 1) := by decide +kernel
theorem dJ7_fill_53178_0 : decode cJ7_fill_53178 0 = .ok (.iconst 0, 1) := by decide +kernel
theorem dJ7_fill_53178_1 : decode cJ7_fill_53178 1 = .ok (.istore_n 2, 1) := by decide +kernel
theorem dJ7_fill_53178_2 : decode cJ7_fill_53178 2 = .ok (.aload_n 0, 1) := by decide +kernel
theorem dJ7_fill_53178_3 : decode cJ7_fill_53178 3 = .ok (.arraylength, 1) := by decide +kernel
theorem dJ7_fill_53178_4 : decode cJ7_fill_53178 4 = .ok (.istore_n 3, 1) := by decide +kernel
theorem dJ7_fill_53178_5 : decode cJ7_fill_53178 5 = .ok (.iload_n 2, 1) := by decide +kernel
theorem dJ7_fill_53178_6 : decode cJ7_fill_53178 6 = .ok (.iload_n 3, 1) := by decide +kernel
theorem dJ7_fill_53178_7 : decode cJ7_fill_53178 7 = .ok (.if_icmp .ge 13, 3) := by decide +kernel
theorem dJ7_fill_53178_10 : decode cJ7_fill_53178 10 = .ok (.aload_n 0, 1) := by decide +kernel
theorem dJ7_fill_53178_11 : decode cJ7_fill_53178 11 = .ok (.iload_n 2, 1) := by decide +kernel
theorem dJ7_fill_53178_12 : decode cJ7_fill_53178 12 = .ok (.iload_n 1, 1) := by decide +kernel
theorem dJ7_fill_53178_13 : decode cJ7_fill_53178 13 = .ok (.iastore, 1) := by decide +kernel
theorem dJ7_fill_53178_14 : decode cJ7_fill_53178 14 = .ok (.iinc 2 1, 3) := by decide +kernel
theorem dJ7_fill_53178_17 : decode cJ7_fill_53178 17 = .ok (.goto (-12), 3) := by decide +kernel
theorem dJ7_fill_53178_20 : decode cJ7_fill_53178 20 = .ok (.return_, 1) := by decide +kernel
