theorem dX0_init_0 : decode cX0_init 0 = .ok (.aload_n 0, 1) := by decide +kernel
theorem dX0_init_1 : decode cX0_init 1 = .ok (.invokespecial 3, 3) := by decide +kernel
theorem dX0_init_4 : decode cX0_init 4 = .ok (.aload_n 0, 1) := by decide +kernel
theorem dX0_init_5 : decode cX0_init 5 = .ok (.bipush 50, 2) := by decide +kernel
theorem dX0_init_7 : decode cX0_init 7 = .ok (.newarray .int, 2) := by decide +kernel
theorem dX0_init_9 : decode cX0_init 9 = .ok (.putfield 9, 3) := by decide +kernel
theorem dX0_init_12 : decode cX0_init 12 = .ok (.return_, 1) := by decide +kernel
theorem dX0_run_0 : decode cX0_run 0 = .ok (.aload_n 0, 1) := by decide +kernel
theorem dX0_run_1 : decode cX0_run 1 = .ok (.iconst 0, 1) := by decide +kernel
theorem dX0_run_2 : decode cX0_run 2 = .ok (.putfield 15, 3) := by decide +kernel
theorem dX0_run_5 : decode cX0_run 5 = .ok (.aload_n 0, 1) := by decide +kernel
theorem dX0_run_6 : decode cX0_run 6 = .ok (.aload_n 1, 1) := by decide +kernel
theorem dX0_run_7 : decode cX0_run 7 = .ok (.getfield 19, 3) := by decide +kernel
theorem dX0_run_10 : decode cX0_run 10 = .ok (.putfield 24, 3) := by decide +kernel
theorem dX0_run_13 : decode cX0_run 13 = .ok (.aload_n 0, 1) := by decide +kernel
theorem dX0_run_14 : decode cX0_run 14 = .ok (.iload_n 2, 1) := by decide +kernel
theorem dX0_run_15 : decode cX0_run 15 = .ok (.putfield 27, 3) := by decide +kernel
theorem dX0_run_18 : decode cX0_run 18 = .ok (.aload_n 0, 1) := by decide +kernel
theorem dX0_run_19 : decode cX0_run 19 = .ok (.aload_n 1, 1) := by decide +kernel
theorem dX0_run_20 : decode cX0_run 20 = .ok (.getfield 30, 3) := by decide +kernel
theorem dX0_run_23 : decode cX0_run 23 = .ok (.putfield 33, 3) := by decide +kernel
theorem dX0_run_26 : decode cX0_run 26 = .ok (.aload_n 0, 1) := by decide +kernel
theorem dX0_run_27 : decode cX0_run 27 = .ok (.aload_n 1, 1) := by decide +kernel
theorem dX0_run_28 : decode cX0_run 28 = .ok (.getfield 36, 3) := by decide +kernel
theorem dX0_run_31 : decode cX0_run 31 = .ok (.putfield 39, 3) := by decide +kernel
theorem dX0_run_34 : decode cX0_run 34 = .ok (.iload_n 3, 1) := by decide +kernel
theorem dX0_run_35 : decode cX0_run 35 = .ok (.tableswitch 58 0 2 #[25, 36, 47], 25) := by decide +kernel
theorem dX0_run_60 : decode cX0_run 60 = .ok (.aload_n 0, 1) := by decide +kernel
theorem dX0_run_61 : decode cX0_run 61 = .ok (.aload_n 0, 1) := by decide +kernel
theorem dX0_run_62 : decode cX0_run 62 = .ok (.getfield 24, 3) := by decide +kernel
theorem dX0_run_65 : decode cX0_run 65 = .ok (.iload 4, 2) := by decide +kernel
theorem dX0_run_67 : decode cX0_run 67 = .ok (.invokevirtual 42, 3) := by decide +kernel
theorem dX0_run_70 : decode cX0_run 70 = .ok (.ireturn, 1) := by decide +kernel
theorem dX0_run_71 : decode cX0_run 71 = .ok (.aload_n 0, 1) := by decide +kernel
theorem dX0_run_72 : decode cX0_run 72 = .ok (.aload_n 0, 1) := by decide +kernel
theorem dX0_run_73 : decode cX0_run 73 = .ok (.getfield 24, 3) := by decide +kernel
theorem dX0_run_76 : decode cX0_run 76 = .ok (.iload 4, 2) := by decide +kernel
theorem dX0_run_78 : decode cX0_run 78 = .ok (.invokevirtual 46, 3) := by decide +kernel
theorem dX0_run_81 : decode cX0_run 81 = .ok (.ireturn, 1) := by decide +kernel
theorem dX0_run_82 : decode cX0_run 82 = .ok (.aload_n 0, 1) := by decide +kernel
theorem dX0_run_83 : decode cX0_run 83 = .ok (.aload_n 0, 1) := by decide +kernel
theorem dX0_run_84 : decode cX0_run 84 = .ok (.getfield 24, 3) := by decide +kernel
theorem dX0_run_87 : decode cX0_run 87 = .ok (.iload 4, 2) := by decide +kernel
theorem dX0_run_89 : decode cX0_run 89 = .ok (.invokevirtual 49, 3) := by decide +kernel
theorem dX0_run_92 : decode cX0_run 92 = .ok (.ireturn, 1) := by decide +kernel
theorem dX0_run_93 : decode cX0_run 93 = .ok (.aload_n 0, 1) := by decide +kernel
theorem dX0_run_94 : decode cX0_run 94 = .ok (.aload_n 0, 1) := by decide +kernel
theorem dX0_run_95 : decode cX0_run 95 = .ok (.getfield 24, 3) := by decide +kernel
theorem dX0_run_98 : decode cX0_run 98 = .ok (.iload 4, 2) := by decide +kernel
theorem dX0_run_100 : decode cX0_run 100 = .ok (.invokevirtual 52, 3) := by decide +kernel
theorem dX0_run_103 : decode cX0_run 103 = .ok (.ireturn, 1) := by decide +kernel
theorem dX0_begin_0 : decode cX0_begin 0 = .ok (.aload_n 0, 1) := by decide +kernel
theorem dX0_begin_1 : decode cX0_begin 1 = .ok (.getfield 15, 3) := by decide +kernel
theorem dX0_begin_4 : decode cX0_begin 4 = .ok (.bipush 50, 2) := by decide +kernel
theorem dX0_begin_6 : decode cX0_begin 6 = .ok (.if_icmp .ge 23, 3) := by decide +kernel
theorem dX0_begin_9 : decode cX0_begin 9 = .ok (.aload_n 0, 1) := by decide +kernel
theorem dX0_begin_10 : decode cX0_begin 10 = .ok (.getfield 9, 3) := by decide +kernel
theorem dX0_begin_13 : decode cX0_begin 13 = .ok (.aload_n 0, 1) := by decide +kernel
theorem dX0_begin_14 : decode cX0_begin 14 = .ok (.getfield 15, 3) := by decide +kernel
theorem dX0_begin_17 : decode cX0_begin 17 = .ok (.iload_n 1, 1) := by decide +kernel
theorem dX0_begin_18 : decode cX0_begin 18 = .ok (.iastore, 1) := by decide +kernel
theorem dX0_begin_19 : decode cX0_begin 19 = .ok (.aload_n 0, 1) := by decide +kernel
theorem dX0_begin_20 : decode cX0_begin 20 = .ok (.dup, 1) := by decide +kernel
theorem dX0_begin_21 : decode cX0_begin 21 = .ok (.getfield 15, 3) := by decide +kernel
theorem dX0_begin_24 : decode cX0_begin 24 = .ok (.iconst 1, 1) := by decide +kernel
theorem dX0_begin_25 : decode cX0_begin 25 = .ok (.iadd, 1) := by decide +kernel
theorem dX0_begin_26 : decode cX0_begin 26 = .ok (.putfield 15, 3) := by decide +kernel
theorem dX0_begin_29 : decode cX0_begin 29 = .ok (.return_, 1) := by decide +kernel
theorem dX0_hear_0 : decode cX0_hear 0 = .ok (.iload_n 1, 1) := by decide +kernel
theorem dX0_hear_1 : decode cX0_hear 1 = .ok (.lookupswitch 65 #[(2, 27), (3, 42)], 27) := by decide +kernel
theorem dX0_hear_28 : decode cX0_hear 28 = .ok (.aload_n 0, 1) := by decide +kernel
theorem dX0_hear_29 : decode cX0_hear 29 = .ok (.bipush 30, 2) := by decide +kernel
theorem dX0_hear_31 : decode cX0_hear 31 = .ok (.invokevirtual 55, 3) := by decide +kernel
theorem dX0_hear_34 : decode cX0_hear 34 = .ok (.aload_n 0, 1) := by decide +kernel
theorem dX0_hear_35 : decode cX0_hear 35 = .ok (.iconst 0, 1) := by decide +kernel
theorem dX0_hear_36 : decode cX0_hear 36 = .ok (.iload_n 2, 1) := by decide +kernel
theorem dX0_hear_37 : decode cX0_hear 37 = .ok (.invokevirtual 42, 3) := by decide +kernel
theorem dX0_hear_40 : decode cX0_hear 40 = .ok (.iconst 3, 1) := by decide +kernel
theorem dX0_hear_41 : decode cX0_hear 41 = .ok (.imul, 1) := by decide +kernel
theorem dX0_hear_42 : decode cX0_hear 42 = .ok (.ireturn, 1) := by decide +kernel
theorem dX0_hear_43 : decode cX0_hear 43 = .ok (.aload_n 0, 1) := by decide +kernel
theorem dX0_hear_44 : decode cX0_hear 44 = .ok (.bipush 40, 2) := by decide +kernel
theorem dX0_hear_46 : decode cX0_hear 46 = .ok (.invokevirtual 55, 3) := by decide +kernel
theorem dX0_hear_49 : decode cX0_hear 49 = .ok (.aload_n 0, 1) := by decide +kernel
theorem dX0_hear_50 : decode cX0_hear 50 = .ok (.iconst 2, 1) := by decide +kernel
theorem dX0_hear_51 : decode cX0_hear 51 = .ok (.iload_n 2, 1) := by decide +kernel
theorem dX0_hear_52 : decode cX0_hear 52 = .ok (.invokevirtual 42, 3) := by decide +kernel
theorem dX0_hear_55 : decode cX0_hear 55 = .ok (.aload_n 0, 1) := by decide +kernel
theorem dX0_hear_56 : decode cX0_hear 56 = .ok (.aload_n 0, 1) := by decide +kernel
theorem dX0_hear_57 : decode cX0_hear 57 = .ok (.getfield 24, 3) := by decide +kernel
theorem dX0_hear_60 : decode cX0_hear 60 = .ok (.iload_n 2, 1) := by decide +kernel
theorem dX0_hear_61 : decode cX0_hear 61 = .ok (.invokevirtual 49, 3) := by decide +kernel
theorem dX0_hear_64 : decode cX0_hear 64 = .ok (.isub, 1) := by decide +kernel
theorem dX0_hear_65 : decode cX0_hear 65 = .ok (.ireturn, 1) := by decide +kernel
theorem dX0_hear_66 : decode cX0_hear 66 = .ok (.aload_n 0, 1) := by decide +kernel
theorem dX0_hear_67 : decode cX0_hear 67 = .ok (.bipush 10, 2) := by decide +kernel
theorem dX0_hear_69 : decode cX0_hear 69 = .ok (.invokevirtual 55, 3) := by decide +kernel
theorem dX0_hear_72 : decode cX0_hear 72 = .ok (.iload_n 2, 1) := by decide +kernel
theorem dX0_hear_73 : decode cX0_hear 73 = .ok (.aload_n 0, 1) := by decide +kernel
theorem dX0_hear_74 : decode cX0_hear 74 = .ok (.getfield 27, 3) := by decide +kernel
theorem dX0_hear_77 : decode cX0_hear 77 = .ok (.iadd, 1) := by decide +kernel
theorem dX0_hear_78 : decode cX0_hear 78 = .ok (.ireturn, 1) := by decide +kernel
theorem dX0_turn_0 : decode cX0_turn 0 = .ok (.iload_n 1, 1) := by decide +kernel
theorem dX0_turn_1 : decode cX0_turn 1 = .ok (.lookupswitch 97 #[(1, 35), (3, 53), (6, 71)], 35) := by decide +kernel
theorem dX0_turn_36 : decode cX0_turn 36 = .ok (.aload_n 0, 1) := by decide +kernel
theorem dX0_turn_37 : decode cX0_turn 37 = .ok (.bipush 20, 2) := by decide +kernel
theorem dX0_turn_39 : decode cX0_turn 39 = .ok (.invokevirtual 55, 3) := by decide +kernel
theorem dX0_turn_42 : decode cX0_turn 42 = .ok (.aload_n 0, 1) := by decide +kernel
theorem dX0_turn_43 : decode cX0_turn 43 = .ok (.iconst 0, 1) := by decide +kernel
theorem dX0_turn_44 : decode cX0_turn 44 = .ok (.iload_n 2, 1) := by decide +kernel
theorem dX0_turn_45 : decode cX0_turn 45 = .ok (.invokevirtual 46, 3) := by decide +kernel
theorem dX0_turn_48 : decode cX0_turn 48 = .ok (.aload_n 0, 1) := by decide +kernel
theorem dX0_turn_49 : decode cX0_turn 49 = .ok (.getfield 39, 3) := by decide +kernel
theorem dX0_turn_52 : decode cX0_turn 52 = .ok (.iadd, 1) := by decide +kernel
theorem dX0_turn_53 : decode cX0_turn 53 = .ok (.ireturn, 1) := by decide +kernel
theorem dX0_turn_54 : decode cX0_turn 54 = .ok (.aload_n 0, 1) := by decide +kernel
theorem dX0_turn_55 : decode cX0_turn 55 = .ok (.bipush 41, 2) := by decide +kernel
theorem dX0_turn_57 : decode cX0_turn 57 = .ok (.invokevirtual 55, 3) := by decide +kernel
theorem dX0_turn_60 : decode cX0_turn 60 = .ok (.aload_n 0, 1) := by decide +kernel
theorem dX0_turn_61 : decode cX0_turn 61 = .ok (.iconst 2, 1) := by decide +kernel
theorem dX0_turn_62 : decode cX0_turn 62 = .ok (.iload_n 2, 1) := by decide +kernel
theorem dX0_turn_63 : decode cX0_turn 63 = .ok (.aload_n 0, 1) := by decide +kernel
theorem dX0_turn_64 : decode cX0_turn 64 = .ok (.getfield 39, 3) := by decide +kernel
theorem dX0_turn_67 : decode cX0_turn 67 = .ok (.isub, 1) := by decide +kernel
theorem dX0_turn_68 : decode cX0_turn 68 = .ok (.invokevirtual 46, 3) := by decide +kernel
theorem dX0_turn_71 : decode cX0_turn 71 = .ok (.ireturn, 1) := by decide +kernel
theorem dX0_turn_72 : decode cX0_turn 72 = .ok (.aload_n 0, 1) := by decide +kernel
theorem dX0_turn_73 : decode cX0_turn 73 = .ok (.bipush 70, 2) := by decide +kernel
theorem dX0_turn_75 : decode cX0_turn 75 = .ok (.invokevirtual 55, 3) := by decide +kernel
theorem dX0_turn_78 : decode cX0_turn 78 = .ok (.aload_n 0, 1) := by decide +kernel
theorem dX0_turn_79 : decode cX0_turn 79 = .ok (.iconst 0, 1) := by decide +kernel
theorem dX0_turn_80 : decode cX0_turn 80 = .ok (.iload_n 2, 1) := by decide +kernel
theorem dX0_turn_81 : decode cX0_turn 81 = .ok (.invokevirtual 46, 3) := by decide +kernel
theorem dX0_turn_84 : decode cX0_turn 84 = .ok (.aload_n 0, 1) := by decide +kernel
theorem dX0_turn_85 : decode cX0_turn 85 = .ok (.aload_n 0, 1) := by decide +kernel
theorem dX0_turn_86 : decode cX0_turn 86 = .ok (.getfield 24, 3) := by decide +kernel
theorem dX0_turn_89 : decode cX0_turn 89 = .ok (.aload_n 0, 1) := by decide +kernel
theorem dX0_turn_90 : decode cX0_turn 90 = .ok (.getfield 39, 3) := by decide +kernel
theorem dX0_turn_93 : decode cX0_turn 93 = .ok (.invokevirtual 42, 3) := by decide +kernel
theorem dX0_turn_96 : decode cX0_turn 96 = .ok (.ixor, 1) := by decide +kernel
theorem dX0_turn_97 : decode cX0_turn 97 = .ok (.ireturn, 1) := by decide +kernel
theorem dX0_turn_98 : decode cX0_turn 98 = .ok (.aload_n 0, 1) := by decide +kernel
theorem dX0_turn_99 : decode cX0_turn 99 = .ok (.bipush 11, 2) := by decide +kernel
theorem dX0_turn_101 : decode cX0_turn 101 = .ok (.invokevirtual 55, 3) := by decide +kernel
theorem dX0_turn_104 : decode cX0_turn 104 = .ok (.aload_n 0, 1) := by decide +kernel
theorem dX0_turn_105 : decode cX0_turn 105 = .ok (.aload_n 0, 1) := by decide +kernel
theorem dX0_turn_106 : decode cX0_turn 106 = .ok (.getfield 24, 3) := by decide +kernel
theorem dX0_turn_109 : decode cX0_turn 109 = .ok (.iload_n 2, 1) := by decide +kernel
theorem dX0_turn_110 : decode cX0_turn 110 = .ok (.invokevirtual 42, 3) := by decide +kernel
theorem dX0_turn_113 : decode cX0_turn 113 = .ok (.iconst 2, 1) := by decide +kernel
theorem dX0_turn_114 : decode cX0_turn 114 = .ok (.imul, 1) := by decide +kernel
theorem dX0_turn_115 : decode cX0_turn 115 = .ok (.ireturn, 1) := by decide +kernel
theorem dX0_pay_0 : decode cX0_pay 0 = .ok (.iload_n 1, 1) := by decide +kernel
theorem dX0_pay_1 : decode cX0_pay 1 = .ok (.lookupswitch 60 #[(5, 27), (7, 45)], 27) := by decide +kernel
theorem dX0_pay_28 : decode cX0_pay 28 = .ok (.aload_n 0, 1) := by decide +kernel
theorem dX0_pay_29 : decode cX0_pay 29 = .ok (.bipush 60, 2) := by decide +kernel
theorem dX0_pay_31 : decode cX0_pay 31 = .ok (.invokevirtual 55, 3) := by decide +kernel
theorem dX0_pay_34 : decode cX0_pay 34 = .ok (.aload_n 0, 1) := by decide +kernel
theorem dX0_pay_35 : decode cX0_pay 35 = .ok (.iconst 0, 1) := by decide +kernel
theorem dX0_pay_36 : decode cX0_pay 36 = .ok (.iload_n 2, 1) := by decide +kernel
theorem dX0_pay_37 : decode cX0_pay 37 = .ok (.invokevirtual 49, 3) := by decide +kernel
theorem dX0_pay_40 : decode cX0_pay 40 = .ok (.aload_n 0, 1) := by decide +kernel
theorem dX0_pay_41 : decode cX0_pay 41 = .ok (.getfield 39, 3) := by decide +kernel
theorem dX0_pay_44 : decode cX0_pay 44 = .ok (.iadd, 1) := by decide +kernel
theorem dX0_pay_45 : decode cX0_pay 45 = .ok (.ireturn, 1) := by decide +kernel
theorem dX0_pay_46 : decode cX0_pay 46 = .ok (.aload_n 0, 1) := by decide +kernel
theorem dX0_pay_47 : decode cX0_pay 47 = .ok (.bipush 80, 2) := by decide +kernel
theorem dX0_pay_49 : decode cX0_pay 49 = .ok (.invokevirtual 55, 3) := by decide +kernel
theorem dX0_pay_52 : decode cX0_pay 52 = .ok (.aload_n 0, 1) := by decide +kernel
theorem dX0_pay_53 : decode cX0_pay 53 = .ok (.iconst 0, 1) := by decide +kernel
theorem dX0_pay_54 : decode cX0_pay 54 = .ok (.iload_n 2, 1) := by decide +kernel
theorem dX0_pay_55 : decode cX0_pay 55 = .ok (.invokevirtual 49, 3) := by decide +kernel
theorem dX0_pay_58 : decode cX0_pay 58 = .ok (.iconst 2, 1) := by decide +kernel
theorem dX0_pay_59 : decode cX0_pay 59 = .ok (.imul, 1) := by decide +kernel
theorem dX0_pay_60 : decode cX0_pay 60 = .ok (.ireturn, 1) := by decide +kernel
theorem dX0_pay_61 : decode cX0_pay 61 = .ok (.aload_n 0, 1) := by decide +kernel
theorem dX0_pay_62 : decode cX0_pay 62 = .ok (.bipush 12, 2) := by decide +kernel
theorem dX0_pay_64 : decode cX0_pay 64 = .ok (.invokevirtual 55, 3) := by decide +kernel
theorem dX0_pay_67 : decode cX0_pay 67 = .ok (.iload_n 2, 1) := by decide +kernel
theorem dX0_pay_68 : decode cX0_pay 68 = .ok (.aload_n 0, 1) := by decide +kernel
theorem dX0_pay_69 : decode cX0_pay 69 = .ok (.getfield 33, 3) := by decide +kernel
theorem dX0_pay_72 : decode cX0_pay 72 = .ok (.isub, 1) := by decide +kernel
theorem dX0_pay_73 : decode cX0_pay 73 = .ok (.ireturn, 1) := by decide +kernel
theorem dX0_end_0 : decode cX0_end 0 = .ok (.iload_n 1, 1) := by decide +kernel
theorem dX0_end_1 : decode cX0_end 1 = .ok (.tableswitch 65 2 4 #[27, 27, 42], 27) := by decide +kernel
theorem dX0_end_28 : decode cX0_end 28 = .ok (.aload_n 0, 1) := by decide +kernel
theorem dX0_end_29 : decode cX0_end 29 = .ok (.bipush 31, 2) := by decide +kernel
theorem dX0_end_31 : decode cX0_end 31 = .ok (.invokevirtual 55, 3) := by decide +kernel
theorem dX0_end_34 : decode cX0_end 34 = .ok (.aload_n 0, 1) := by decide +kernel
theorem dX0_end_35 : decode cX0_end 35 = .ok (.iconst 0, 1) := by decide +kernel
theorem dX0_end_36 : decode cX0_end 36 = .ok (.iload_n 2, 1) := by decide +kernel
theorem dX0_end_37 : decode cX0_end 37 = .ok (.iconst 1, 1) := by decide +kernel
theorem dX0_end_38 : decode cX0_end 38 = .ok (.iadd, 1) := by decide +kernel
theorem dX0_end_39 : decode cX0_end 39 = .ok (.invokevirtual 52, 3) := by decide +kernel
theorem dX0_end_42 : decode cX0_end 42 = .ok (.ireturn, 1) := by decide +kernel
theorem dX0_end_43 : decode cX0_end 43 = .ok (.aload_n 0, 1) := by decide +kernel
theorem dX0_end_44 : decode cX0_end 44 = .ok (.bipush 50, 2) := by decide +kernel
theorem dX0_end_46 : decode cX0_end 46 = .ok (.invokevirtual 55, 3) := by decide +kernel
theorem dX0_end_49 : decode cX0_end 49 = .ok (.aload_n 0, 1) := by decide +kernel
theorem dX0_end_50 : decode cX0_end 50 = .ok (.aload_n 0, 1) := by decide +kernel
theorem dX0_end_51 : decode cX0_end 51 = .ok (.getfield 24, 3) := by decide +kernel
theorem dX0_end_54 : decode cX0_end 54 = .ok (.iload_n 2, 1) := by decide +kernel
theorem dX0_end_55 : decode cX0_end 55 = .ok (.invokevirtual 49, 3) := by decide +kernel
theorem dX0_end_58 : decode cX0_end 58 = .ok (.aload_n 0, 1) := by decide +kernel
theorem dX0_end_59 : decode cX0_end 59 = .ok (.iconst 0, 1) := by decide +kernel
theorem dX0_end_60 : decode cX0_end 60 = .ok (.iload_n 2, 1) := by decide +kernel
theorem dX0_end_61 : decode cX0_end 61 = .ok (.invokevirtual 52, 3) := by decide +kernel
theorem dX0_end_64 : decode cX0_end 64 = .ok (.isub, 1) := by decide +kernel
theorem dX0_end_65 : decode cX0_end 65 = .ok (.ireturn, 1) := by decide +kernel
theorem dX0_end_66 : decode cX0_end 66 = .ok (.aload_n 0, 1) := by decide +kernel
theorem dX0_end_67 : decode cX0_end 67 = .ok (.bipush 13, 2) := by decide +kernel
theorem dX0_end_69 : decode cX0_end 69 = .ok (.invokevirtual 55, 3) := by decide +kernel
theorem dX0_end_72 : decode cX0_end 72 = .ok (.aload_n 0, 1) := by decide +kernel
theorem dX0_end_73 : decode cX0_end 73 = .ok (.aload_n 0, 1) := by decide +kernel
theorem dX0_end_74 : decode cX0_end 74 = .ok (.getfield 24, 3) := by decide +kernel
theorem dX0_end_77 : decode cX0_end 77 = .ok (.iload_n 2, 1) := by decide +kernel
theorem dX0_end_78 : decode cX0_end 78 = .ok (.invokevirtual 46, 3) := by decide +kernel
theorem dX0_end_81 : decode cX0_end 81 = .ok (.aload_n 0, 1) := by decide +kernel
theorem dX0_end_82 : decode cX0_end 82 = .ok (.aload_n 0, 1) := by decide +kernel
theorem dX0_end_83 : decode cX0_end 83 = .ok (.getfield 24, 3) := by decide +kernel
theorem dX0_end_86 : decode cX0_end 86 = .ok (.iload_n 2, 1) := by decide +kernel
theorem dX0_end_87 : decode cX0_end 87 = .ok (.invokevirtual 49, 3) := by decide +kernel
theorem dX0_end_90 : decode cX0_end 90 = .ok (.ixor, 1) := by decide +kernel
theorem dX0_end_91 : decode cX0_end 91 = .ok (.ireturn, 1) := by decide +kernel
theorem dX1_init_0 : decode cX1_init 0 = .ok (.aload_n 0, 1) := by decide +kernel
theorem dX1_init_1 : decode cX1_init 1 = .ok (.invokespecial 3, 3) := by decide +kernel
theorem dX1_init_4 : decode cX1_init 4 = .ok (.return_, 1) := by decide +kernel
theorem dX1_open_0 : decode cX1_open 0 = .ok (.aload_n 0, 1) := by decide +kernel
theorem dX1_open_1 : decode cX1_open 1 = .ok (.iload_n 1, 1) := by decide +kernel
theorem dX1_open_2 : decode cX1_open 2 = .ok (.putfield 9, 3) := by decide +kernel
theorem dX1_open_5 : decode cX1_open 5 = .ok (.aload_n 0, 1) := by decide +kernel
theorem dX1_open_6 : decode cX1_open 6 = .ok (.iconst 0, 1) := by decide +kernel
theorem dX1_open_7 : decode cX1_open 7 = .ok (.putfield 15, 3) := by decide +kernel
theorem dX1_open_10 : decode cX1_open 10 = .ok (.aload_n 0, 1) := by decide +kernel
theorem dX1_open_11 : decode cX1_open 11 = .ok (.iconst 0, 1) := by decide +kernel
theorem dX1_open_12 : decode cX1_open 12 = .ok (.putfield 18, 3) := by decide +kernel
theorem dX1_open_15 : decode cX1_open 15 = .ok (.aload_n 0, 1) := by decide +kernel
theorem dX1_open_16 : decode cX1_open 16 = .ok (.iconst 0, 1) := by decide +kernel
theorem dX1_open_17 : decode cX1_open 17 = .ok (.putfield 21, 3) := by decide +kernel
theorem dX1_open_20 : decode cX1_open 20 = .ok (.aload_n 0, 1) := by decide +kernel
theorem dX1_open_21 : decode cX1_open 21 = .ok (.iconst 0, 1) := by decide +kernel
theorem dX1_open_22 : decode cX1_open 22 = .ok (.putfield 24, 3) := by decide +kernel
theorem dX1_open_25 : decode cX1_open 25 = .ok (.aload_n 0, 1) := by decide +kernel
theorem dX1_open_26 : decode cX1_open 26 = .ok (.iconst (-1), 1) := by decide +kernel
theorem dX1_open_27 : decode cX1_open 27 = .ok (.putfield 27, 3) := by decide +kernel
theorem dX1_open_30 : decode cX1_open 30 = .ok (.aload_n 0, 1) := by decide +kernel
theorem dX1_open_31 : decode cX1_open 31 = .ok (.iconst 0, 1) := by decide +kernel
theorem dX1_open_32 : decode cX1_open 32 = .ok (.putfield 30, 3) := by decide +kernel
theorem dX1_open_35 : decode cX1_open 35 = .ok (.aload_n 0, 1) := by decide +kernel
theorem dX1_open_36 : decode cX1_open 36 = .ok (.iconst 0, 1) := by decide +kernel
theorem dX1_open_37 : decode cX1_open 37 = .ok (.putfield 33, 3) := by decide +kernel
theorem dX1_open_40 : decode cX1_open 40 = .ok (.aload_n 0, 1) := by decide +kernel
theorem dX1_open_41 : decode cX1_open 41 = .ok (.iconst 0, 1) := by decide +kernel
theorem dX1_open_42 : decode cX1_open 42 = .ok (.putfield 36, 3) := by decide +kernel
theorem dX1_open_45 : decode cX1_open 45 = .ok (.aload_n 0, 1) := by decide +kernel
theorem dX1_open_46 : decode cX1_open 46 = .ok (.iconst 0, 1) := by decide +kernel
theorem dX1_open_47 : decode cX1_open 47 = .ok (.putfield 39, 3) := by decide +kernel
theorem dX1_open_50 : decode cX1_open 50 = .ok (.aload_n 0, 1) := by decide +kernel
theorem dX1_open_51 : decode cX1_open 51 = .ok (.lconst 0, 1) := by decide +kernel
theorem dX1_open_52 : decode cX1_open 52 = .ok (.putfield 42, 3) := by decide +kernel
theorem dX1_open_55 : decode cX1_open 55 = .ok (.return_, 1) := by decide +kernel
theorem dX1_copyFrom_0 : decode cX1_copyFrom 0 = .ok (.aload_n 0, 1) := by decide +kernel
theorem dX1_copyFrom_1 : decode cX1_copyFrom 1 = .ok (.aload_n 1, 1) := by decide +kernel
theorem dX1_copyFrom_2 : decode cX1_copyFrom 2 = .ok (.getfield 9, 3) := by decide +kernel
theorem dX1_copyFrom_5 : decode cX1_copyFrom 5 = .ok (.putfield 9, 3) := by decide +kernel
theorem dX1_copyFrom_8 : decode cX1_copyFrom 8 = .ok (.aload_n 0, 1) := by decide +kernel
theorem dX1_copyFrom_9 : decode cX1_copyFrom 9 = .ok (.aload_n 1, 1) := by decide +kernel
theorem dX1_copyFrom_10 : decode cX1_copyFrom 10 = .ok (.getfield 15, 3) := by decide +kernel
theorem dX1_copyFrom_13 : decode cX1_copyFrom 13 = .ok (.putfield 15, 3) := by decide +kernel
theorem dX1_copyFrom_16 : decode cX1_copyFrom 16 = .ok (.aload_n 0, 1) := by decide +kernel
theorem dX1_copyFrom_17 : decode cX1_copyFrom 17 = .ok (.aload_n 1, 1) := by decide +kernel
theorem dX1_copyFrom_18 : decode cX1_copyFrom 18 = .ok (.getfield 18, 3) := by decide +kernel
theorem dX1_copyFrom_21 : decode cX1_copyFrom 21 = .ok (.putfield 18, 3) := by decide +kernel
theorem dX1_copyFrom_24 : decode cX1_copyFrom 24 = .ok (.aload_n 0, 1) := by decide +kernel
theorem dX1_copyFrom_25 : decode cX1_copyFrom 25 = .ok (.aload_n 1, 1) := by decide +kernel
theorem dX1_copyFrom_26 : decode cX1_copyFrom 26 = .ok (.getfield 21, 3) := by decide +kernel
theorem dX1_copyFrom_29 : decode cX1_copyFrom 29 = .ok (.putfield 21, 3) := by decide +kernel
theorem dX1_copyFrom_32 : decode cX1_copyFrom 32 = .ok (.aload_n 0, 1) := by decide +kernel
theorem dX1_copyFrom_33 : decode cX1_copyFrom 33 = .ok (.aload_n 1, 1) := by decide +kernel
theorem dX1_copyFrom_34 : decode cX1_copyFrom 34 = .ok (.getfield 24, 3) := by decide +kernel
theorem dX1_copyFrom_37 : decode cX1_copyFrom 37 = .ok (.putfield 24, 3) := by decide +kernel
theorem dX1_copyFrom_40 : decode cX1_copyFrom 40 = .ok (.aload_n 0, 1) := by decide +kernel
theorem dX1_copyFrom_41 : decode cX1_copyFrom 41 = .ok (.aload_n 1, 1) := by decide +kernel
theorem dX1_copyFrom_42 : decode cX1_copyFrom 42 = .ok (.getfield 27, 3) := by decide +kernel
theorem dX1_copyFrom_45 : decode cX1_copyFrom 45 = .ok (.putfield 27, 3) := by decide +kernel
theorem dX1_copyFrom_48 : decode cX1_copyFrom 48 = .ok (.aload_n 0, 1) := by decide +kernel
theorem dX1_copyFrom_49 : decode cX1_copyFrom 49 = .ok (.aload_n 1, 1) := by decide +kernel
theorem dX1_copyFrom_50 : decode cX1_copyFrom 50 = .ok (.getfield 30, 3) := by decide +kernel
theorem dX1_copyFrom_53 : decode cX1_copyFrom 53 = .ok (.putfield 30, 3) := by decide +kernel
theorem dX1_copyFrom_56 : decode cX1_copyFrom 56 = .ok (.aload_n 0, 1) := by decide +kernel
theorem dX1_copyFrom_57 : decode cX1_copyFrom 57 = .ok (.aload_n 1, 1) := by decide +kernel
theorem dX1_copyFrom_58 : decode cX1_copyFrom 58 = .ok (.getfield 33, 3) := by decide +kernel
theorem dX1_copyFrom_61 : decode cX1_copyFrom 61 = .ok (.putfield 33, 3) := by decide +kernel
theorem dX1_copyFrom_64 : decode cX1_copyFrom 64 = .ok (.aload_n 0, 1) := by decide +kernel
theorem dX1_copyFrom_65 : decode cX1_copyFrom 65 = .ok (.aload_n 1, 1) := by decide +kernel
theorem dX1_copyFrom_66 : decode cX1_copyFrom 66 = .ok (.getfield 36, 3) := by decide +kernel
theorem dX1_copyFrom_69 : decode cX1_copyFrom 69 = .ok (.putfield 36, 3) := by decide +kernel
theorem dX1_copyFrom_72 : decode cX1_copyFrom 72 = .ok (.aload_n 0, 1) := by decide +kernel
theorem dX1_copyFrom_73 : decode cX1_copyFrom 73 = .ok (.aload_n 1, 1) := by decide +kernel
theorem dX1_copyFrom_74 : decode cX1_copyFrom 74 = .ok (.getfield 39, 3) := by decide +kernel
theorem dX1_copyFrom_77 : decode cX1_copyFrom 77 = .ok (.putfield 39, 3) := by decide +kernel
theorem dX1_copyFrom_80 : decode cX1_copyFrom 80 = .ok (.aload_n 0, 1) := by decide +kernel
theorem dX1_copyFrom_81 : decode cX1_copyFrom 81 = .ok (.aload_n 1, 1) := by decide +kernel
theorem dX1_copyFrom_82 : decode cX1_copyFrom 82 = .ok (.getfield 42, 3) := by decide +kernel
theorem dX1_copyFrom_85 : decode cX1_copyFrom 85 = .ok (.putfield 42, 3) := by decide +kernel
theorem dX1_copyFrom_88 : decode cX1_copyFrom 88 = .ok (.return_, 1) := by decide +kernel
theorem dX1_lineAt_0 : decode cX1_lineAt 0 = .ok (.iload_n 1, 1) := by decide +kernel
theorem dX1_lineAt_1 : decode cX1_lineAt 1 = .ok (.ifCond .lt 11, 3) := by decide +kernel
theorem dX1_lineAt_4 : decode cX1_lineAt 4 = .ok (.iload_n 1, 1) := by decide +kernel
theorem dX1_lineAt_5 : decode cX1_lineAt 5 = .ok (.aload_n 0, 1) := by decide +kernel
theorem dX1_lineAt_6 : decode cX1_lineAt 6 = .ok (.getfield 21, 3) := by decide +kernel
theorem dX1_lineAt_9 : decode cX1_lineAt 9 = .ok (.if_icmp .lt 7, 3) := by decide +kernel
theorem dX1_lineAt_12 : decode cX1_lineAt 12 = .ok (.iconst (-1), 1) := by decide +kernel
theorem dX1_lineAt_13 : decode cX1_lineAt 13 = .ok (.goto 14, 3) := by decide +kernel
theorem dX1_lineAt_16 : decode cX1_lineAt 16 = .ok (.aload_n 0, 1) := by decide +kernel
theorem dX1_lineAt_17 : decode cX1_lineAt 17 = .ok (.getfield 36, 3) := by decide +kernel
theorem dX1_lineAt_20 : decode cX1_lineAt 20 = .ok (.iconst 4, 1) := by decide +kernel
theorem dX1_lineAt_21 : decode cX1_lineAt 21 = .ok (.iload_n 1, 1) := by decide +kernel
theorem dX1_lineAt_22 : decode cX1_lineAt 22 = .ok (.imul, 1) := by decide +kernel
theorem dX1_lineAt_23 : decode cX1_lineAt 23 = .ok (.iushr, 1) := by decide +kernel
theorem dX1_lineAt_24 : decode cX1_lineAt 24 = .ok (.bipush 15, 2) := by decide +kernel
theorem dX1_lineAt_26 : decode cX1_lineAt 26 = .ok (.iand, 1) := by decide +kernel
theorem dX1_lineAt_27 : decode cX1_lineAt 27 = .ok (.ireturn, 1) := by decide +kernel
theorem dX1_payerAt_0 : decode cX1_payerAt 0 = .ok (.iload_n 1, 1) := by decide +kernel
theorem dX1_payerAt_1 : decode cX1_payerAt 1 = .ok (.ifCond .lt 11, 3) := by decide +kernel
theorem dX1_payerAt_4 : decode cX1_payerAt 4 = .ok (.iload_n 1, 1) := by decide +kernel
theorem dX1_payerAt_5 : decode cX1_payerAt 5 = .ok (.aload_n 0, 1) := by decide +kernel
theorem dX1_payerAt_6 : decode cX1_payerAt 6 = .ok (.getfield 21, 3) := by decide +kernel
theorem dX1_payerAt_9 : decode cX1_payerAt 9 = .ok (.if_icmp .lt 7, 3) := by decide +kernel
theorem dX1_payerAt_12 : decode cX1_payerAt 12 = .ok (.iconst (-1), 1) := by decide +kernel
theorem dX1_payerAt_13 : decode cX1_payerAt 13 = .ok (.goto 14, 3) := by decide +kernel
theorem dX1_payerAt_16 : decode cX1_payerAt 16 = .ok (.aload_n 0, 1) := by decide +kernel
theorem dX1_payerAt_17 : decode cX1_payerAt 17 = .ok (.getfield 39, 3) := by decide +kernel
theorem dX1_payerAt_20 : decode cX1_payerAt 20 = .ok (.iconst 4, 1) := by decide +kernel
theorem dX1_payerAt_21 : decode cX1_payerAt 21 = .ok (.iload_n 1, 1) := by decide +kernel
theorem dX1_payerAt_22 : decode cX1_payerAt 22 = .ok (.imul, 1) := by decide +kernel
theorem dX1_payerAt_23 : decode cX1_payerAt 23 = .ok (.iushr, 1) := by decide +kernel
theorem dX1_payerAt_24 : decode cX1_payerAt 24 = .ok (.bipush 15, 2) := by decide +kernel
theorem dX1_payerAt_26 : decode cX1_payerAt 26 = .ok (.iand, 1) := by decide +kernel
theorem dX1_payerAt_27 : decode cX1_payerAt 27 = .ok (.ireturn, 1) := by decide +kernel
theorem dX1_actAt_0 : decode cX1_actAt 0 = .ok (.iload_n 1, 1) := by decide +kernel
theorem dX1_actAt_1 : decode cX1_actAt 1 = .ok (.ifCond .lt 17, 3) := by decide +kernel
theorem dX1_actAt_4 : decode cX1_actAt 4 = .ok (.iload_n 1, 1) := by decide +kernel
theorem dX1_actAt_5 : decode cX1_actAt 5 = .ok (.aload_n 0, 1) := by decide +kernel
theorem dX1_actAt_6 : decode cX1_actAt 6 = .ok (.getfield 33, 3) := by decide +kernel
theorem dX1_actAt_9 : decode cX1_actAt 9 = .ok (.if_icmp .ge 9, 3) := by decide +kernel
theorem dX1_actAt_12 : decode cX1_actAt 12 = .ok (.iload_n 1, 1) := by decide +kernel
theorem dX1_actAt_13 : decode cX1_actAt 13 = .ok (.bipush 10, 2) := by decide +kernel
theorem dX1_actAt_15 : decode cX1_actAt 15 = .ok (.if_icmp .lt 7, 3) := by decide +kernel
theorem dX1_actAt_18 : decode cX1_actAt 18 = .ok (.iconst (-1), 1) := by decide +kernel
theorem dX1_actAt_19 : decode cX1_actAt 19 = .ok (.goto 16, 3) := by decide +kernel
theorem dX1_actAt_22 : decode cX1_actAt 22 = .ok (.aload_n 0, 1) := by decide +kernel
theorem dX1_actAt_23 : decode cX1_actAt 23 = .ok (.getfield 42, 3) := by decide +kernel
theorem dX1_actAt_26 : decode cX1_actAt 26 = .ok (.iconst 5, 1) := by decide +kernel
theorem dX1_actAt_27 : decode cX1_actAt 27 = .ok (.iload_n 1, 1) := by decide +kernel
theorem dX1_actAt_28 : decode cX1_actAt 28 = .ok (.imul, 1) := by decide +kernel
theorem dX1_actAt_29 : decode cX1_actAt 29 = .ok (.lushr, 1) := by decide +kernel
theorem dX1_actAt_30 : decode cX1_actAt 30 = .ok (.ldc2_w 46, 3) := by decide +kernel
theorem dX1_actAt_33 : decode cX1_actAt 33 = .ok (.land, 1) := by decide +kernel
theorem dX1_actAt_34 : decode cX1_actAt 34 = .ok (.l2i, 1) := by decide +kernel
theorem dX1_actAt_35 : decode cX1_actAt 35 = .ok (.ireturn, 1) := by decide +kernel
theorem dX1_comesRoundTo_0 : decode cX1_comesRoundTo 0 = .ok (.aload_n 0, 1) := by decide +kernel
theorem dX1_comesRoundTo_1 : decode cX1_comesRoundTo 1 = .ok (.getfield 21, 3) := by decide +kernel
theorem dX1_comesRoundTo_4 : decode cX1_comesRoundTo 4 = .ok (.ifCond .le 13, 3) := by decide +kernel
theorem dX1_comesRoundTo_7 : decode cX1_comesRoundTo 7 = .ok (.iload_n 1, 1) := by decide +kernel
theorem dX1_comesRoundTo_8 : decode cX1_comesRoundTo 8 = .ok (.aload_n 0, 1) := by decide +kernel
theorem dX1_comesRoundTo_9 : decode cX1_comesRoundTo 9 = .ok (.getfield 9, 3) := by decide +kernel
theorem dX1_comesRoundTo_12 : decode cX1_comesRoundTo 12 = .ok (.if_icmp .ne 5, 3) := by decide +kernel
theorem dX1_comesRoundTo_15 : decode cX1_comesRoundTo 15 = .ok (.iconst 1, 1) := by decide +kernel
theorem dX1_comesRoundTo_16 : decode cX1_comesRoundTo 16 = .ok (.ireturn, 1) := by decide +kernel
theorem dX1_comesRoundTo_17 : decode cX1_comesRoundTo 17 = .ok (.iconst 0, 1) := by decide +kernel
theorem dX1_comesRoundTo_18 : decode cX1_comesRoundTo 18 = .ok (.istore_n 2, 1) := by decide +kernel
theorem dX1_comesRoundTo_19 : decode cX1_comesRoundTo 19 = .ok (.iload_n 2, 1) := by decide +kernel
theorem dX1_comesRoundTo_20 : decode cX1_comesRoundTo 20 = .ok (.aload_n 0, 1) := by decide +kernel
theorem dX1_comesRoundTo_21 : decode cX1_comesRoundTo 21 = .ok (.getfield 21, 3) := by decide +kernel
theorem dX1_comesRoundTo_24 : decode cX1_comesRoundTo 24 = .ok (.if_icmp .ge 20, 3) := by decide +kernel
theorem dX1_comesRoundTo_27 : decode cX1_comesRoundTo 27 = .ok (.aload_n 0, 1) := by decide +kernel
theorem dX1_comesRoundTo_28 : decode cX1_comesRoundTo 28 = .ok (.iload_n 2, 1) := by decide +kernel
theorem dX1_comesRoundTo_29 : decode cX1_comesRoundTo 29 = .ok (.invokevirtual 48, 3) := by decide +kernel
theorem dX1_comesRoundTo_32 : decode cX1_comesRoundTo 32 = .ok (.iload_n 1, 1) := by decide +kernel
theorem dX1_comesRoundTo_33 : decode cX1_comesRoundTo 33 = .ok (.if_icmp .ne 5, 3) := by decide +kernel
theorem dX1_comesRoundTo_36 : decode cX1_comesRoundTo 36 = .ok (.iconst 1, 1) := by decide +kernel
theorem dX1_comesRoundTo_37 : decode cX1_comesRoundTo 37 = .ok (.ireturn, 1) := by decide +kernel
theorem dX1_comesRoundTo_38 : decode cX1_comesRoundTo 38 = .ok (.iinc 2 1, 3) := by decide +kernel
theorem dX1_comesRoundTo_41 : decode cX1_comesRoundTo 41 = .ok (.goto (-22), 3) := by decide +kernel
theorem dX1_comesRoundTo_44 : decode cX1_comesRoundTo 44 = .ok (.iconst 0, 1) := by decide +kernel
theorem dX1_comesRoundTo_45 : decode cX1_comesRoundTo 45 = .ok (.ireturn, 1) := by decide +kernel
theorem dX1_enter_0 : decode cX1_enter 0 = .ok (.aload_n 0, 1) := by decide +kernel
theorem dX1_enter_1 : decode cX1_enter 1 = .ok (.dup, 1) := by decide +kernel
theorem dX1_enter_2 : decode cX1_enter 2 = .ok (.getfield 36, 3) := by decide +kernel
theorem dX1_enter_5 : decode cX1_enter 5 = .ok (.iload_n 1, 1) := by decide +kernel
theorem dX1_enter_6 : decode cX1_enter 6 = .ok (.iconst 4, 1) := by decide +kernel
theorem dX1_enter_7 : decode cX1_enter 7 = .ok (.aload_n 0, 1) := by decide +kernel
theorem dX1_enter_8 : decode cX1_enter 8 = .ok (.getfield 21, 3) := by decide +kernel
theorem dX1_enter_11 : decode cX1_enter 11 = .ok (.imul, 1) := by decide +kernel
theorem dX1_enter_12 : decode cX1_enter 12 = .ok (.ishl, 1) := by decide +kernel
theorem dX1_enter_13 : decode cX1_enter 13 = .ok (.ior, 1) := by decide +kernel
theorem dX1_enter_14 : decode cX1_enter 14 = .ok (.putfield 36, 3) := by decide +kernel
theorem dX1_enter_17 : decode cX1_enter 17 = .ok (.aload_n 0, 1) := by decide +kernel
theorem dX1_enter_18 : decode cX1_enter 18 = .ok (.dup, 1) := by decide +kernel
theorem dX1_enter_19 : decode cX1_enter 19 = .ok (.getfield 39, 3) := by decide +kernel
theorem dX1_enter_22 : decode cX1_enter 22 = .ok (.iload_n 2, 1) := by decide +kernel
theorem dX1_enter_23 : decode cX1_enter 23 = .ok (.iconst 4, 1) := by decide +kernel
theorem dX1_enter_24 : decode cX1_enter 24 = .ok (.aload_n 0, 1) := by decide +kernel
theorem dX1_enter_25 : decode cX1_enter 25 = .ok (.getfield 21, 3) := by decide +kernel
theorem dX1_enter_28 : decode cX1_enter 28 = .ok (.imul, 1) := by decide +kernel
theorem dX1_enter_29 : decode cX1_enter 29 = .ok (.ishl, 1) := by decide +kernel
theorem dX1_enter_30 : decode cX1_enter 30 = .ok (.ior, 1) := by decide +kernel
theorem dX1_enter_31 : decode cX1_enter 31 = .ok (.putfield 39, 3) := by decide +kernel
theorem dX1_enter_34 : decode cX1_enter 34 = .ok (.aload_n 0, 1) := by decide +kernel
theorem dX1_enter_35 : decode cX1_enter 35 = .ok (.dup, 1) := by decide +kernel
theorem dX1_enter_36 : decode cX1_enter 36 = .ok (.getfield 21, 3) := by decide +kernel
theorem dX1_enter_39 : decode cX1_enter 39 = .ok (.iconst 1, 1) := by decide +kernel
theorem dX1_enter_40 : decode cX1_enter 40 = .ok (.iadd, 1) := by decide +kernel
theorem dX1_enter_41 : decode cX1_enter 41 = .ok (.putfield 21, 3) := by decide +kernel
theorem dX1_enter_44 : decode cX1_enter 44 = .ok (.return_, 1) := by decide +kernel
theorem dX1_note_0 : decode cX1_note 0 = .ok (.aload_n 0, 1) := by decide +kernel
theorem dX1_note_1 : decode cX1_note 1 = .ok (.getfield 33, 3) := by decide +kernel
theorem dX1_note_4 : decode cX1_note 4 = .ok (.bipush 10, 2) := by decide +kernel
theorem dX1_note_6 : decode cX1_note 6 = .ok (.if_icmp .ge 21, 3) := by decide +kernel
theorem dX1_note_9 : decode cX1_note 9 = .ok (.aload_n 0, 1) := by decide +kernel
theorem dX1_note_10 : decode cX1_note 10 = .ok (.dup, 1) := by decide +kernel
theorem dX1_note_11 : decode cX1_note 11 = .ok (.getfield 42, 3) := by decide +kernel
theorem dX1_note_14 : decode cX1_note 14 = .ok (.iload_n 1, 1) := by decide +kernel
theorem dX1_note_15 : decode cX1_note 15 = .ok (.i2l, 1) := by decide +kernel
theorem dX1_note_16 : decode cX1_note 16 = .ok (.iconst 5, 1) := by decide +kernel
theorem dX1_note_17 : decode cX1_note 17 = .ok (.aload_n 0, 1) := by decide +kernel
theorem dX1_note_18 : decode cX1_note 18 = .ok (.getfield 33, 3) := by decide +kernel
theorem dX1_note_21 : decode cX1_note 21 = .ok (.imul, 1) := by decide +kernel
theorem dX1_note_22 : decode cX1_note 22 = .ok (.lshl, 1) := by decide +kernel
theorem dX1_note_23 : decode cX1_note 23 = .ok (.lor, 1) := by decide +kernel
theorem dX1_note_24 : decode cX1_note 24 = .ok (.putfield 42, 3) := by decide +kernel
theorem dX1_note_27 : decode cX1_note 27 = .ok (.aload_n 0, 1) := by decide +kernel
theorem dX1_note_28 : decode cX1_note 28 = .ok (.dup, 1) := by decide +kernel
theorem dX1_note_29 : decode cX1_note 29 = .ok (.getfield 33, 3) := by decide +kernel
theorem dX1_note_32 : decode cX1_note 32 = .ok (.iconst 1, 1) := by decide +kernel
theorem dX1_note_33 : decode cX1_note 33 = .ok (.iadd, 1) := by decide +kernel
theorem dX1_note_34 : decode cX1_note 34 = .ok (.putfield 33, 3) := by decide +kernel
theorem dX1_note_37 : decode cX1_note 37 = .ok (.return_, 1) := by decide +kernel
theorem dX2_init_0 : decode cX2_init 0 = .ok (.aload_n 0, 1) := by decide +kernel
theorem dX2_init_1 : decode cX2_init 1 = .ok (.invokespecial 3, 3) := by decide +kernel
theorem dX2_init_4 : decode cX2_init 4 = .ok (.aload_n 0, 1) := by decide +kernel
theorem dX2_init_5 : decode cX2_init 5 = .ok (.bipush 8, 2) := by decide +kernel
theorem dX2_init_7 : decode cX2_init 7 = .ok (.newarray .int, 2) := by decide +kernel
theorem dX2_init_9 : decode cX2_init 9 = .ok (.putfield 9, 3) := by decide +kernel
theorem dX2_init_12 : decode cX2_init 12 = .ok (.aload_n 0, 1) := by decide +kernel
theorem dX2_init_13 : decode cX2_init 13 = .ok (.bipush 8, 2) := by decide +kernel
theorem dX2_init_15 : decode cX2_init 15 = .ok (.newarray .int, 2) := by decide +kernel
theorem dX2_init_17 : decode cX2_init 17 = .ok (.putfield 15, 3) := by decide +kernel
theorem dX2_init_20 : decode cX2_init 20 = .ok (.aload_n 0, 1) := by decide +kernel
theorem dX2_init_21 : decode cX2_init 21 = .ok (.bipush 8, 2) := by decide +kernel
theorem dX2_init_23 : decode cX2_init 23 = .ok (.newarray .int, 2) := by decide +kernel
theorem dX2_init_25 : decode cX2_init 25 = .ok (.putfield 18, 3) := by decide +kernel
theorem dX2_init_28 : decode cX2_init 28 = .ok (.aload_n 0, 1) := by decide +kernel
theorem dX2_init_29 : decode cX2_init 29 = .ok (.bipush 8, 2) := by decide +kernel
theorem dX2_init_31 : decode cX2_init 31 = .ok (.newarray .int, 2) := by decide +kernel
theorem dX2_init_33 : decode cX2_init 33 = .ok (.putfield 21, 3) := by decide +kernel
theorem dX2_init_36 : decode cX2_init 36 = .ok (.aload_n 0, 1) := by decide +kernel
theorem dX2_init_37 : decode cX2_init 37 = .ok (.bipush 8, 2) := by decide +kernel
theorem dX2_init_39 : decode cX2_init 39 = .ok (.newarray .int, 2) := by decide +kernel
theorem dX2_init_41 : decode cX2_init 41 = .ok (.putfield 24, 3) := by decide +kernel
theorem dX2_init_44 : decode cX2_init 44 = .ok (.aload_n 0, 1) := by decide +kernel
theorem dX2_init_45 : decode cX2_init 45 = .ok (.aload_n 1, 1) := by decide +kernel
theorem dX2_init_46 : decode cX2_init 46 = .ok (.putfield 27, 3) := by decide +kernel
theorem dX2_init_49 : decode cX2_init 49 = .ok (.aload_n 0, 1) := by decide +kernel
theorem dX2_init_50 : decode cX2_init 50 = .ok (.iload_n 2, 1) := by decide +kernel
theorem dX2_init_51 : decode cX2_init 51 = .ok (.anewarray 31, 3) := by decide +kernel
theorem dX2_init_54 : decode cX2_init 54 = .ok (.putfield 33, 3) := by decide +kernel
theorem dX2_init_57 : decode cX2_init 57 = .ok (.iconst 0, 1) := by decide +kernel
theorem dX2_init_58 : decode cX2_init 58 = .ok (.istore_n 3, 1) := by decide +kernel
theorem dX2_init_59 : decode cX2_init 59 = .ok (.iload_n 3, 1) := by decide +kernel
theorem dX2_init_60 : decode cX2_init 60 = .ok (.iload_n 2, 1) := by decide +kernel
theorem dX2_init_61 : decode cX2_init 61 = .ok (.if_icmp .ge 22, 3) := by decide +kernel
theorem dX2_init_64 : decode cX2_init 64 = .ok (.aload_n 0, 1) := by decide +kernel
theorem dX2_init_65 : decode cX2_init 65 = .ok (.getfield 33, 3) := by decide +kernel
theorem dX2_init_68 : decode cX2_init 68 = .ok (.iload_n 3, 1) := by decide +kernel
theorem dX2_init_69 : decode cX2_init 69 = .ok (.new 31, 3) := by decide +kernel
theorem dX2_init_72 : decode cX2_init 72 = .ok (.dup, 1) := by decide +kernel
theorem dX2_init_73 : decode cX2_init 73 = .ok (.invokespecial 37, 3) := by decide +kernel
theorem dX2_init_76 : decode cX2_init 76 = .ok (.aastore, 1) := by decide +kernel
theorem dX2_init_77 : decode cX2_init 77 = .ok (.iinc 3 1, 3) := by decide +kernel
theorem dX2_init_80 : decode cX2_init 80 = .ok (.goto (-21), 3) := by decide +kernel
theorem dX2_init_83 : decode cX2_init 83 = .ok (.iconst 0, 1) := by decide +kernel
theorem dX2_init_84 : decode cX2_init 84 = .ok (.istore_n 3, 1) := by decide +kernel
theorem dX2_init_85 : decode cX2_init 85 = .ok (.iload_n 3, 1) := by decide +kernel
theorem dX2_init_86 : decode cX2_init 86 = .ok (.bipush 8, 2) := by decide +kernel
theorem dX2_init_88 : decode cX2_init 88 = .ok (.if_icmp .ge 23, 3) := by decide +kernel
theorem dX2_init_91 : decode cX2_init 91 = .ok (.aload_n 0, 1) := by decide +kernel
theorem dX2_init_92 : decode cX2_init 92 = .ok (.getfield 9, 3) := by decide +kernel
theorem dX2_init_95 : decode cX2_init 95 = .ok (.iload_n 3, 1) := by decide +kernel
theorem dX2_init_96 : decode cX2_init 96 = .ok (.iconst (-1), 1) := by decide +kernel
theorem dX2_init_97 : decode cX2_init 97 = .ok (.iastore, 1) := by decide +kernel
theorem dX2_init_98 : decode cX2_init 98 = .ok (.aload_n 0, 1) := by decide +kernel
theorem dX2_init_99 : decode cX2_init 99 = .ok (.getfield 15, 3) := by decide +kernel
theorem dX2_init_102 : decode cX2_init 102 = .ok (.iload_n 3, 1) := by decide +kernel
theorem dX2_init_103 : decode cX2_init 103 = .ok (.iconst (-1), 1) := by decide +kernel
theorem dX2_init_104 : decode cX2_init 104 = .ok (.iastore, 1) := by decide +kernel
theorem dX2_init_105 : decode cX2_init 105 = .ok (.iinc 3 1, 3) := by decide +kernel
theorem dX2_init_108 : decode cX2_init 108 = .ok (.goto (-23), 3) := by decide +kernel
theorem dX2_init_111 : decode cX2_init 111 = .ok (.return_, 1) := by decide +kernel
theorem dX2_copyFrom_0 : decode cX2_copyFrom 0 = .ok (.aload_n 0, 1) := by decide +kernel
theorem dX2_copyFrom_1 : decode cX2_copyFrom 1 = .ok (.aload_n 1, 1) := by decide +kernel
theorem dX2_copyFrom_2 : decode cX2_copyFrom 2 = .ok (.getfield 38, 3) := by decide +kernel
theorem dX2_copyFrom_5 : decode cX2_copyFrom 5 = .ok (.putfield 38, 3) := by decide +kernel
theorem dX2_copyFrom_8 : decode cX2_copyFrom 8 = .ok (.aload_n 0, 1) := by decide +kernel
theorem dX2_copyFrom_9 : decode cX2_copyFrom 9 = .ok (.aload_n 1, 1) := by decide +kernel
theorem dX2_copyFrom_10 : decode cX2_copyFrom 10 = .ok (.getfield 42, 3) := by decide +kernel
theorem dX2_copyFrom_13 : decode cX2_copyFrom 13 = .ok (.aload_n 0, 1) := by decide +kernel
theorem dX2_copyFrom_14 : decode cX2_copyFrom 14 = .ok (.getfield 33, 3) := by decide +kernel
theorem dX2_copyFrom_17 : decode cX2_copyFrom 17 = .ok (.arraylength, 1) := by decide +kernel
theorem dX2_copyFrom_18 : decode cX2_copyFrom 18 = .ok (.invokestatic 45, 3) := by decide +kernel
theorem dX2_copyFrom_21 : decode cX2_copyFrom 21 = .ok (.putfield 42, 3) := by decide +kernel
theorem dX2_copyFrom_24 : decode cX2_copyFrom 24 = .ok (.aload_n 0, 1) := by decide +kernel
theorem dX2_copyFrom_25 : decode cX2_copyFrom 25 = .ok (.aload_n 1, 1) := by decide +kernel
theorem dX2_copyFrom_26 : decode cX2_copyFrom 26 = .ok (.getfield 51, 3) := by decide +kernel
theorem dX2_copyFrom_29 : decode cX2_copyFrom 29 = .ok (.putfield 51, 3) := by decide +kernel
theorem dX2_copyFrom_32 : decode cX2_copyFrom 32 = .ok (.aload_n 0, 1) := by decide +kernel
theorem dX2_copyFrom_33 : decode cX2_copyFrom 33 = .ok (.aload_n 1, 1) := by decide +kernel
theorem dX2_copyFrom_34 : decode cX2_copyFrom 34 = .ok (.getfield 54, 3) := by decide +kernel
theorem dX2_copyFrom_37 : decode cX2_copyFrom 37 = .ok (.putfield 54, 3) := by decide +kernel
theorem dX2_copyFrom_40 : decode cX2_copyFrom 40 = .ok (.iconst 0, 1) := by decide +kernel
theorem dX2_copyFrom_41 : decode cX2_copyFrom 41 = .ok (.istore_n 2, 1) := by decide +kernel
theorem dX2_copyFrom_42 : decode cX2_copyFrom 42 = .ok (.iload_n 2, 1) := by decide +kernel
theorem dX2_copyFrom_43 : decode cX2_copyFrom 43 = .ok (.bipush 8, 2) := by decide +kernel
theorem dX2_copyFrom_45 : decode cX2_copyFrom 45 = .ok (.if_icmp .ge 45, 3) := by decide +kernel
theorem dX2_copyFrom_48 : decode cX2_copyFrom 48 = .ok (.aload_n 0, 1) := by decide +kernel
theorem dX2_copyFrom_49 : decode cX2_copyFrom 49 = .ok (.getfield 9, 3) := by decide +kernel
theorem dX2_copyFrom_52 : decode cX2_copyFrom 52 = .ok (.iload_n 2, 1) := by decide +kernel
theorem dX2_copyFrom_53 : decode cX2_copyFrom 53 = .ok (.aload_n 1, 1) := by decide +kernel
theorem dX2_copyFrom_54 : decode cX2_copyFrom 54 = .ok (.getfield 9, 3) := by decide +kernel
theorem dX2_copyFrom_57 : decode cX2_copyFrom 57 = .ok (.iload_n 2, 1) := by decide +kernel
theorem dX2_copyFrom_58 : decode cX2_copyFrom 58 = .ok (.iaload, 1) := by decide +kernel
theorem dX2_copyFrom_59 : decode cX2_copyFrom 59 = .ok (.iastore, 1) := by decide +kernel
theorem dX2_copyFrom_60 : decode cX2_copyFrom 60 = .ok (.aload_n 0, 1) := by decide +kernel
theorem dX2_copyFrom_61 : decode cX2_copyFrom 61 = .ok (.getfield 15, 3) := by decide +kernel
theorem dX2_copyFrom_64 : decode cX2_copyFrom 64 = .ok (.iload_n 2, 1) := by decide +kernel
theorem dX2_copyFrom_65 : decode cX2_copyFrom 65 = .ok (.aload_n 1, 1) := by decide +kernel
theorem dX2_copyFrom_66 : decode cX2_copyFrom 66 = .ok (.getfield 15, 3) := by decide +kernel
theorem dX2_copyFrom_69 : decode cX2_copyFrom 69 = .ok (.iload_n 2, 1) := by decide +kernel
theorem dX2_copyFrom_70 : decode cX2_copyFrom 70 = .ok (.iaload, 1) := by decide +kernel
theorem dX2_copyFrom_71 : decode cX2_copyFrom 71 = .ok (.iastore, 1) := by decide +kernel
theorem dX2_copyFrom_72 : decode cX2_copyFrom 72 = .ok (.aload_n 0, 1) := by decide +kernel
theorem dX2_copyFrom_73 : decode cX2_copyFrom 73 = .ok (.getfield 18, 3) := by decide +kernel
theorem dX2_copyFrom_76 : decode cX2_copyFrom 76 = .ok (.iload_n 2, 1) := by decide +kernel
theorem dX2_copyFrom_77 : decode cX2_copyFrom 77 = .ok (.aload_n 1, 1) := by decide +kernel
theorem dX2_copyFrom_78 : decode cX2_copyFrom 78 = .ok (.getfield 18, 3) := by decide +kernel
theorem dX2_copyFrom_81 : decode cX2_copyFrom 81 = .ok (.iload_n 2, 1) := by decide +kernel
theorem dX2_copyFrom_82 : decode cX2_copyFrom 82 = .ok (.iaload, 1) := by decide +kernel
theorem dX2_copyFrom_83 : decode cX2_copyFrom 83 = .ok (.iastore, 1) := by decide +kernel
theorem dX2_copyFrom_84 : decode cX2_copyFrom 84 = .ok (.iinc 2 1, 3) := by decide +kernel
theorem dX2_copyFrom_87 : decode cX2_copyFrom 87 = .ok (.goto (-45), 3) := by decide +kernel
theorem dX2_copyFrom_90 : decode cX2_copyFrom 90 = .ok (.iconst 0, 1) := by decide +kernel
theorem dX2_copyFrom_91 : decode cX2_copyFrom 91 = .ok (.istore_n 2, 1) := by decide +kernel
theorem dX2_copyFrom_92 : decode cX2_copyFrom 92 = .ok (.iload_n 2, 1) := by decide +kernel
theorem dX2_copyFrom_93 : decode cX2_copyFrom 93 = .ok (.aload_n 0, 1) := by decide +kernel
theorem dX2_copyFrom_94 : decode cX2_copyFrom 94 = .ok (.getfield 42, 3) := by decide +kernel
theorem dX2_copyFrom_97 : decode cX2_copyFrom 97 = .ok (.if_icmp .ge 24, 3) := by decide +kernel
theorem dX2_copyFrom_100 : decode cX2_copyFrom 100 = .ok (.aload_n 0, 1) := by decide +kernel
theorem dX2_copyFrom_101 : decode cX2_copyFrom 101 = .ok (.getfield 33, 3) := by decide +kernel
theorem dX2_copyFrom_104 : decode cX2_copyFrom 104 = .ok (.iload_n 2, 1) := by decide +kernel
theorem dX2_copyFrom_105 : decode cX2_copyFrom 105 = .ok (.aaload, 1) := by decide +kernel
theorem dX2_copyFrom_106 : decode cX2_copyFrom 106 = .ok (.aload_n 1, 1) := by decide +kernel
theorem dX2_copyFrom_107 : decode cX2_copyFrom 107 = .ok (.getfield 33, 3) := by decide +kernel
theorem dX2_copyFrom_110 : decode cX2_copyFrom 110 = .ok (.iload_n 2, 1) := by decide +kernel
theorem dX2_copyFrom_111 : decode cX2_copyFrom 111 = .ok (.aaload, 1) := by decide +kernel
theorem dX2_copyFrom_112 : decode cX2_copyFrom 112 = .ok (.invokevirtual 57, 3) := by decide +kernel
theorem dX2_copyFrom_115 : decode cX2_copyFrom 115 = .ok (.iinc 2 1, 3) := by decide +kernel
theorem dX2_copyFrom_118 : decode cX2_copyFrom 118 = .ok (.goto (-26), 3) := by decide +kernel
theorem dX2_copyFrom_121 : decode cX2_copyFrom 121 = .ok (.iconst 0, 1) := by decide +kernel
theorem dX2_copyFrom_122 : decode cX2_copyFrom 122 = .ok (.istore_n 2, 1) := by decide +kernel
theorem dX2_copyFrom_123 : decode cX2_copyFrom 123 = .ok (.iload_n 2, 1) := by decide +kernel
theorem dX2_copyFrom_124 : decode cX2_copyFrom 124 = .ok (.aload_n 0, 1) := by decide +kernel
theorem dX2_copyFrom_125 : decode cX2_copyFrom 125 = .ok (.getfield 51, 3) := by decide +kernel
theorem dX2_copyFrom_128 : decode cX2_copyFrom 128 = .ok (.if_icmp .ge 33, 3) := by decide +kernel
theorem dX2_copyFrom_131 : decode cX2_copyFrom 131 = .ok (.aload_n 0, 1) := by decide +kernel
theorem dX2_copyFrom_132 : decode cX2_copyFrom 132 = .ok (.getfield 21, 3) := by decide +kernel
theorem dX2_copyFrom_135 : decode cX2_copyFrom 135 = .ok (.iload_n 2, 1) := by decide +kernel
theorem dX2_copyFrom_136 : decode cX2_copyFrom 136 = .ok (.aload_n 1, 1) := by decide +kernel
theorem dX2_copyFrom_137 : decode cX2_copyFrom 137 = .ok (.getfield 21, 3) := by decide +kernel
theorem dX2_copyFrom_140 : decode cX2_copyFrom 140 = .ok (.iload_n 2, 1) := by decide +kernel
theorem dX2_copyFrom_141 : decode cX2_copyFrom 141 = .ok (.iaload, 1) := by decide +kernel
theorem dX2_copyFrom_142 : decode cX2_copyFrom 142 = .ok (.iastore, 1) := by decide +kernel
theorem dX2_copyFrom_143 : decode cX2_copyFrom 143 = .ok (.aload_n 0, 1) := by decide +kernel
theorem dX2_copyFrom_144 : decode cX2_copyFrom 144 = .ok (.getfield 24, 3) := by decide +kernel
theorem dX2_copyFrom_147 : decode cX2_copyFrom 147 = .ok (.iload_n 2, 1) := by decide +kernel
theorem dX2_copyFrom_148 : decode cX2_copyFrom 148 = .ok (.aload_n 1, 1) := by decide +kernel
theorem dX2_copyFrom_149 : decode cX2_copyFrom 149 = .ok (.getfield 24, 3) := by decide +kernel
theorem dX2_copyFrom_152 : decode cX2_copyFrom 152 = .ok (.iload_n 2, 1) := by decide +kernel
theorem dX2_copyFrom_153 : decode cX2_copyFrom 153 = .ok (.iaload, 1) := by decide +kernel
theorem dX2_copyFrom_154 : decode cX2_copyFrom 154 = .ok (.iastore, 1) := by decide +kernel
theorem dX2_copyFrom_155 : decode cX2_copyFrom 155 = .ok (.iinc 2 1, 3) := by decide +kernel
theorem dX2_copyFrom_158 : decode cX2_copyFrom 158 = .ok (.goto (-35), 3) := by decide +kernel
theorem dX2_copyFrom_161 : decode cX2_copyFrom 161 = .ok (.return_, 1) := by decide +kernel
theorem dX2_isLine_0 : decode cX2_isLine 0 = .ok (.iload_n 1, 1) := by decide +kernel
theorem dX2_isLine_1 : decode cX2_isLine 1 = .ok (.ifCond .lt 15, 3) := by decide +kernel
theorem dX2_isLine_4 : decode cX2_isLine 4 = .ok (.iload_n 1, 1) := by decide +kernel
theorem dX2_isLine_5 : decode cX2_isLine 5 = .ok (.aload_n 0, 1) := by decide +kernel
theorem dX2_isLine_6 : decode cX2_isLine 6 = .ok (.getfield 38, 3) := by decide +kernel
theorem dX2_isLine_9 : decode cX2_isLine 9 = .ok (.if_icmp .ge 7, 3) := by decide +kernel
theorem dX2_isLine_12 : decode cX2_isLine 12 = .ok (.iconst 1, 1) := by decide +kernel
theorem dX2_isLine_13 : decode cX2_isLine 13 = .ok (.goto 4, 3) := by decide +kernel
theorem dX2_isLine_16 : decode cX2_isLine 16 = .ok (.iconst 0, 1) := by decide +kernel
theorem dX2_isLine_17 : decode cX2_isLine 17 = .ok (.ireturn, 1) := by decide +kernel
theorem dX2_isCall_0 : decode cX2_isCall 0 = .ok (.iload_n 1, 1) := by decide +kernel
theorem dX2_isCall_1 : decode cX2_isCall 1 = .ok (.ifCond .lt 15, 3) := by decide +kernel
theorem dX2_isCall_4 : decode cX2_isCall 4 = .ok (.iload_n 1, 1) := by decide +kernel
theorem dX2_isCall_5 : decode cX2_isCall 5 = .ok (.aload_n 0, 1) := by decide +kernel
theorem dX2_isCall_6 : decode cX2_isCall 6 = .ok (.getfield 42, 3) := by decide +kernel
theorem dX2_isCall_9 : decode cX2_isCall 9 = .ok (.if_icmp .ge 7, 3) := by decide +kernel
theorem dX2_isCall_12 : decode cX2_isCall 12 = .ok (.iconst 1, 1) := by decide +kernel
theorem dX2_isCall_13 : decode cX2_isCall 13 = .ok (.goto 4, 3) := by decide +kernel
theorem dX2_isCall_16 : decode cX2_isCall 16 = .ok (.iconst 0, 1) := by decide +kernel
theorem dX2_isCall_17 : decode cX2_isCall 17 = .ok (.ireturn, 1) := by decide +kernel
theorem dX2_hasRoom_0 : decode cX2_hasRoom 0 = .ok (.aload_n 0, 1) := by decide +kernel
theorem dX2_hasRoom_1 : decode cX2_hasRoom 1 = .ok (.getfield 42, 3) := by decide +kernel
theorem dX2_hasRoom_4 : decode cX2_hasRoom 4 = .ok (.aload_n 0, 1) := by decide +kernel
theorem dX2_hasRoom_5 : decode cX2_hasRoom 5 = .ok (.getfield 33, 3) := by decide +kernel
theorem dX2_hasRoom_8 : decode cX2_hasRoom 8 = .ok (.arraylength, 1) := by decide +kernel
theorem dX2_hasRoom_9 : decode cX2_hasRoom 9 = .ok (.if_icmp .ge 7, 3) := by decide +kernel
theorem dX2_hasRoom_12 : decode cX2_hasRoom 12 = .ok (.iconst 1, 1) := by decide +kernel
theorem dX2_hasRoom_13 : decode cX2_hasRoom 13 = .ok (.goto 4, 3) := by decide +kernel
theorem dX2_hasRoom_16 : decode cX2_hasRoom 16 = .ok (.iconst 0, 1) := by decide +kernel
theorem dX2_hasRoom_17 : decode cX2_hasRoom 17 = .ok (.ireturn, 1) := by decide +kernel
theorem dX2_isFree_0 : decode cX2_isFree 0 = .ok (.aload_n 0, 1) := by decide +kernel
theorem dX2_isFree_1 : decode cX2_isFree 1 = .ok (.getfield 9, 3) := by decide +kernel
theorem dX2_isFree_4 : decode cX2_isFree 4 = .ok (.iload_n 1, 1) := by decide +kernel
theorem dX2_isFree_5 : decode cX2_isFree 5 = .ok (.iaload, 1) := by decide +kernel
theorem dX2_isFree_6 : decode cX2_isFree 6 = .ok (.iconst (-1), 1) := by decide +kernel
theorem dX2_isFree_7 : decode cX2_isFree 7 = .ok (.if_icmp .ne 7, 3) := by decide +kernel
theorem dX2_isFree_10 : decode cX2_isFree 10 = .ok (.iconst 1, 1) := by decide +kernel
theorem dX2_isFree_11 : decode cX2_isFree 11 = .ok (.goto 4, 3) := by decide +kernel
theorem dX2_isFree_14 : decode cX2_isFree 14 = .ok (.iconst 0, 1) := by decide +kernel
theorem dX2_isFree_15 : decode cX2_isFree 15 = .ok (.ireturn, 1) := by decide +kernel
theorem dX2_isRinging_0 : decode cX2_isRinging 0 = .ok (.aload_n 0, 1) := by decide +kernel
theorem dX2_isRinging_1 : decode cX2_isRinging 1 = .ok (.iload_n 1, 1) := by decide +kernel
theorem dX2_isRinging_2 : decode cX2_isRinging 2 = .ok (.invokevirtual 61, 3) := by decide +kernel
theorem dX2_isRinging_5 : decode cX2_isRinging 5 = .ok (.ifCond .ne 28, 3) := by decide +kernel
theorem dX2_isRinging_8 : decode cX2_isRinging 8 = .ok (.aload_n 0, 1) := by decide +kernel
theorem dX2_isRinging_9 : decode cX2_isRinging 9 = .ok (.getfield 33, 3) := by decide +kernel
theorem dX2_isRinging_12 : decode cX2_isRinging 12 = .ok (.aload_n 0, 1) := by decide +kernel
theorem dX2_isRinging_13 : decode cX2_isRinging 13 = .ok (.getfield 9, 3) := by decide +kernel
theorem dX2_isRinging_16 : decode cX2_isRinging 16 = .ok (.iload_n 1, 1) := by decide +kernel
theorem dX2_isRinging_17 : decode cX2_isRinging 17 = .ok (.iaload, 1) := by decide +kernel
theorem dX2_isRinging_18 : decode cX2_isRinging 18 = .ok (.aaload, 1) := by decide +kernel
theorem dX2_isRinging_19 : decode cX2_isRinging 19 = .ok (.getfield 65, 3) := by decide +kernel
theorem dX2_isRinging_22 : decode cX2_isRinging 22 = .ok (.iload_n 1, 1) := by decide +kernel
theorem dX2_isRinging_23 : decode cX2_isRinging 23 = .ok (.ishr, 1) := by decide +kernel
theorem dX2_isRinging_24 : decode cX2_isRinging 24 = .ok (.iconst 1, 1) := by decide +kernel
theorem dX2_isRinging_25 : decode cX2_isRinging 25 = .ok (.iand, 1) := by decide +kernel
theorem dX2_isRinging_26 : decode cX2_isRinging 26 = .ok (.ifCond .eq 7, 3) := by decide +kernel
theorem dX2_isRinging_29 : decode cX2_isRinging 29 = .ok (.iconst 1, 1) := by decide +kernel
theorem dX2_isRinging_30 : decode cX2_isRinging 30 = .ok (.goto 4, 3) := by decide +kernel
theorem dX2_isRinging_33 : decode cX2_isRinging 33 = .ok (.iconst 0, 1) := by decide +kernel
theorem dX2_isRinging_34 : decode cX2_isRinging 34 = .ok (.ireturn, 1) := by decide +kernel
theorem dX2_canHangUp_0 : decode cX2_canHangUp 0 = .ok (.aload_n 0, 1) := by decide +kernel
theorem dX2_canHangUp_1 : decode cX2_canHangUp 1 = .ok (.iload_n 1, 1) := by decide +kernel
theorem dX2_canHangUp_2 : decode cX2_canHangUp 2 = .ok (.invokevirtual 61, 3) := by decide +kernel
theorem dX2_canHangUp_5 : decode cX2_canHangUp 5 = .ok (.ifCond .ne 15, 3) := by decide +kernel
theorem dX2_canHangUp_8 : decode cX2_canHangUp 8 = .ok (.aload_n 0, 1) := by decide +kernel
theorem dX2_canHangUp_9 : decode cX2_canHangUp 9 = .ok (.iload_n 1, 1) := by decide +kernel
theorem dX2_canHangUp_10 : decode cX2_canHangUp 10 = .ok (.invokevirtual 68, 3) := by decide +kernel
theorem dX2_canHangUp_13 : decode cX2_canHangUp 13 = .ok (.ifCond .ne 7, 3) := by decide +kernel
theorem dX2_canHangUp_16 : decode cX2_canHangUp 16 = .ok (.iconst 1, 1) := by decide +kernel
theorem dX2_canHangUp_17 : decode cX2_canHangUp 17 = .ok (.goto 4, 3) := by decide +kernel
theorem dX2_canHangUp_20 : decode cX2_canHangUp 20 = .ok (.iconst 0, 1) := by decide +kernel
theorem dX2_canHangUp_21 : decode cX2_canHangUp 21 = .ok (.ireturn, 1) := by decide +kernel
theorem dX2_isTold_0 : decode cX2_isTold 0 = .ok (.aload_n 1, 1) := by decide +kernel
theorem dX2_isTold_1 : decode cX2_isTold 1 = .ok (.getfield 65, 3) := by decide +kernel
theorem dX2_isTold_4 : decode cX2_isTold 4 = .ok (.iload_n 2, 1) := by decide +kernel
theorem dX2_isTold_5 : decode cX2_isTold 5 = .ok (.ishr, 1) := by decide +kernel
theorem dX2_isTold_6 : decode cX2_isTold 6 = .ok (.iconst 1, 1) := by decide +kernel
theorem dX2_isTold_7 : decode cX2_isTold 7 = .ok (.iand, 1) := by decide +kernel
theorem dX2_isTold_8 : decode cX2_isTold 8 = .ok (.ifCond .ne 19, 3) := by decide +kernel
theorem dX2_isTold_11 : decode cX2_isTold 11 = .ok (.aload_n 1, 1) := by decide +kernel
theorem dX2_isTold_12 : decode cX2_isTold 12 = .ok (.getfield 71, 3) := by decide +kernel
theorem dX2_isTold_15 : decode cX2_isTold 15 = .ok (.iconst 2, 1) := by decide +kernel
theorem dX2_isTold_16 : decode cX2_isTold 16 = .ok (.if_icmp .ne 15, 3) := by decide +kernel
theorem dX2_isTold_19 : decode cX2_isTold 19 = .ok (.aload_n 1, 1) := by decide +kernel
theorem dX2_isTold_20 : decode cX2_isTold 20 = .ok (.getfield 74, 3) := by decide +kernel
theorem dX2_isTold_23 : decode cX2_isTold 23 = .ok (.iload_n 2, 1) := by decide +kernel
theorem dX2_isTold_24 : decode cX2_isTold 24 = .ok (.if_icmp .ne 7, 3) := by decide +kernel
theorem dX2_isTold_27 : decode cX2_isTold 27 = .ok (.iconst 1, 1) := by decide +kernel
theorem dX2_isTold_28 : decode cX2_isTold 28 = .ok (.goto 4, 3) := by decide +kernel
theorem dX2_isTold_31 : decode cX2_isTold 31 = .ok (.iconst 0, 1) := by decide +kernel
theorem dX2_isTold_32 : decode cX2_isTold 32 = .ok (.istore_n 3, 1) := by decide +kernel
theorem dX2_isTold_33 : decode cX2_isTold 33 = .ok (.iload_n 3, 1) := by decide +kernel
theorem dX2_isTold_34 : decode cX2_isTold 34 = .ok (.ifCond .eq 22, 3) := by decide +kernel
theorem dX2_isTold_37 : decode cX2_isTold 37 = .ok (.aload_n 0, 1) := by decide +kernel
theorem dX2_isTold_38 : decode cX2_isTold 38 = .ok (.getfield 27, 3) := by decide +kernel
theorem dX2_isTold_41 : decode cX2_isTold 41 = .ok (.aload_n 1, 1) := by decide +kernel
theorem dX2_isTold_42 : decode cX2_isTold 42 = .ok (.getfield 77, 3) := by decide +kernel
theorem dX2_isTold_45 : decode cX2_isTold 45 = .ok (.iload_n 2, 1) := by decide +kernel
theorem dX2_isTold_46 : decode cX2_isTold 46 = .ok (.invokevirtual 80, 3) := by decide +kernel
theorem dX2_isTold_49 : decode cX2_isTold 49 = .ok (.ifCond .ne 7, 3) := by decide +kernel
theorem dX2_isTold_52 : decode cX2_isTold 52 = .ok (.iconst 1, 1) := by decide +kernel
theorem dX2_isTold_53 : decode cX2_isTold 53 = .ok (.goto 4, 3) := by decide +kernel
theorem dX2_isTold_56 : decode cX2_isTold 56 = .ok (.iconst 0, 1) := by decide +kernel
theorem dX2_isTold_57 : decode cX2_isTold 57 = .ok (.ireturn, 1) := by decide +kernel
theorem dX2_countOpen_0 : decode cX2_countOpen 0 = .ok (.iconst 0, 1) := by decide +kernel
theorem dX2_countOpen_1 : decode cX2_countOpen 1 = .ok (.istore_n 1, 1) := by decide +kernel
theorem dX2_countOpen_2 : decode cX2_countOpen 2 = .ok (.iconst 0, 1) := by decide +kernel
theorem dX2_countOpen_3 : decode cX2_countOpen 3 = .ok (.istore_n 2, 1) := by decide +kernel
theorem dX2_countOpen_4 : decode cX2_countOpen 4 = .ok (.iload_n 2, 1) := by decide +kernel
theorem dX2_countOpen_5 : decode cX2_countOpen 5 = .ok (.aload_n 0, 1) := by decide +kernel
theorem dX2_countOpen_6 : decode cX2_countOpen 6 = .ok (.getfield 42, 3) := by decide +kernel
theorem dX2_countOpen_9 : decode cX2_countOpen 9 = .ok (.if_icmp .ge 25, 3) := by decide +kernel
theorem dX2_countOpen_12 : decode cX2_countOpen 12 = .ok (.aload_n 0, 1) := by decide +kernel
theorem dX2_countOpen_13 : decode cX2_countOpen 13 = .ok (.getfield 33, 3) := by decide +kernel
theorem dX2_countOpen_16 : decode cX2_countOpen 16 = .ok (.iload_n 2, 1) := by decide +kernel
theorem dX2_countOpen_17 : decode cX2_countOpen 17 = .ok (.aaload, 1) := by decide +kernel
theorem dX2_countOpen_18 : decode cX2_countOpen 18 = .ok (.getfield 71, 3) := by decide +kernel
theorem dX2_countOpen_21 : decode cX2_countOpen 21 = .ok (.iconst 3, 1) := by decide +kernel
theorem dX2_countOpen_22 : decode cX2_countOpen 22 = .ok (.if_icmp .eq 6, 3) := by decide +kernel
theorem dX2_countOpen_25 : decode cX2_countOpen 25 = .ok (.iinc 1 1, 3) := by decide +kernel
theorem dX2_countOpen_28 : decode cX2_countOpen 28 = .ok (.iinc 2 1, 3) := by decide +kernel
theorem dX2_countOpen_31 : decode cX2_countOpen 31 = .ok (.goto (-27), 3) := by decide +kernel
theorem dX2_countOpen_34 : decode cX2_countOpen 34 = .ok (.iload_n 1, 1) := by decide +kernel
theorem dX2_countOpen_35 : decode cX2_countOpen 35 = .ok (.ireturn, 1) := by decide +kernel
theorem dX2_connect_0 : decode cX2_connect 0 = .ok (.aload_n 0, 1) := by decide +kernel
theorem dX2_connect_1 : decode cX2_connect 1 = .ok (.iload_n 1, 1) := by decide +kernel
theorem dX2_connect_2 : decode cX2_connect 2 = .ok (.invokevirtual 86, 3) := by decide +kernel
theorem dX2_connect_5 : decode cX2_connect 5 = .ok (.istore_n 3, 1) := by decide +kernel
theorem dX2_connect_6 : decode cX2_connect 6 = .ok (.aload_n 0, 1) := by decide +kernel
theorem dX2_connect_7 : decode cX2_connect 7 = .ok (.iload_n 3, 1) := by decide +kernel
theorem dX2_connect_8 : decode cX2_connect 8 = .ok (.iload_n 1, 1) := by decide +kernel
theorem dX2_connect_9 : decode cX2_connect 9 = .ok (.iload_n 2, 1) := by decide +kernel
theorem dX2_connect_10 : decode cX2_connect 10 = .ok (.invokevirtual 90, 3) := by decide +kernel
theorem dX2_connect_13 : decode cX2_connect 13 = .ok (.aload_n 0, 1) := by decide +kernel
theorem dX2_connect_14 : decode cX2_connect 14 = .ok (.invokevirtual 94, 3) := by decide +kernel
theorem dX2_connect_17 : decode cX2_connect 17 = .ok (.iload_n 3, 1) := by decide +kernel
theorem dX2_connect_18 : decode cX2_connect 18 = .ok (.ireturn, 1) := by decide +kernel
theorem dX2_answer_0 : decode cX2_answer 0 = .ok (.aload_n 0, 1) := by decide +kernel
theorem dX2_answer_1 : decode cX2_answer 1 = .ok (.getfield 9, 3) := by decide +kernel
theorem dX2_answer_4 : decode cX2_answer 4 = .ok (.iload_n 1, 1) := by decide +kernel
theorem dX2_answer_5 : decode cX2_answer 5 = .ok (.iaload, 1) := by decide +kernel
theorem dX2_answer_6 : decode cX2_answer 6 = .ok (.istore_n 2, 1) := by decide +kernel
theorem dX2_answer_7 : decode cX2_answer 7 = .ok (.aload_n 0, 1) := by decide +kernel
theorem dX2_answer_8 : decode cX2_answer 8 = .ok (.getfield 33, 3) := by decide +kernel
theorem dX2_answer_11 : decode cX2_answer 11 = .ok (.iload_n 2, 1) := by decide +kernel
theorem dX2_answer_12 : decode cX2_answer 12 = .ok (.aaload, 1) := by decide +kernel
theorem dX2_answer_13 : decode cX2_answer 13 = .ok (.astore_n 3, 1) := by decide +kernel
theorem dX2_answer_14 : decode cX2_answer 14 = .ok (.aload_n 0, 1) := by decide +kernel
theorem dX2_answer_15 : decode cX2_answer 15 = .ok (.aload_n 3, 1) := by decide +kernel
theorem dX2_answer_16 : decode cX2_answer 16 = .ok (.invokevirtual 97, 3) := by decide +kernel
theorem dX2_answer_19 : decode cX2_answer 19 = .ok (.aload_n 3, 1) := by decide +kernel
theorem dX2_answer_20 : decode cX2_answer 20 = .ok (.iconst 1, 1) := by decide +kernel
theorem dX2_answer_21 : decode cX2_answer 21 = .ok (.putfield 71, 3) := by decide +kernel
theorem dX2_answer_24 : decode cX2_answer 24 = .ok (.aload_n 3, 1) := by decide +kernel
theorem dX2_answer_25 : decode cX2_answer 25 = .ok (.iload_n 1, 1) := by decide +kernel
theorem dX2_answer_26 : decode cX2_answer 26 = .ok (.putfield 74, 3) := by decide +kernel
theorem dX2_answer_29 : decode cX2_answer 29 = .ok (.aload_n 0, 1) := by decide +kernel
theorem dX2_answer_30 : decode cX2_answer 30 = .ok (.getfield 9, 3) := by decide +kernel
theorem dX2_answer_33 : decode cX2_answer 33 = .ok (.iload_n 1, 1) := by decide +kernel
theorem dX2_answer_34 : decode cX2_answer 34 = .ok (.iload_n 2, 1) := by decide +kernel
theorem dX2_answer_35 : decode cX2_answer 35 = .ok (.iastore, 1) := by decide +kernel
theorem dX2_answer_36 : decode cX2_answer 36 = .ok (.aload_n 0, 1) := by decide +kernel
theorem dX2_answer_37 : decode cX2_answer 37 = .ok (.invokevirtual 94, 3) := by decide +kernel
theorem dX2_answer_40 : decode cX2_answer 40 = .ok (.iload_n 2, 1) := by decide +kernel
theorem dX2_answer_41 : decode cX2_answer 41 = .ok (.ireturn, 1) := by decide +kernel
theorem dX2_hangUp_0 : decode cX2_hangUp 0 = .ok (.aload_n 0, 1) := by decide +kernel
theorem dX2_hangUp_1 : decode cX2_hangUp 1 = .ok (.getfield 9, 3) := by decide +kernel
theorem dX2_hangUp_4 : decode cX2_hangUp 4 = .ok (.iload_n 1, 1) := by decide +kernel
theorem dX2_hangUp_5 : decode cX2_hangUp 5 = .ok (.iaload, 1) := by decide +kernel
theorem dX2_hangUp_6 : decode cX2_hangUp 6 = .ok (.istore_n 2, 1) := by decide +kernel
theorem dX2_hangUp_7 : decode cX2_hangUp 7 = .ok (.aload_n 0, 1) := by decide +kernel
theorem dX2_hangUp_8 : decode cX2_hangUp 8 = .ok (.aload_n 0, 1) := by decide +kernel
theorem dX2_hangUp_9 : decode cX2_hangUp 9 = .ok (.getfield 33, 3) := by decide +kernel
theorem dX2_hangUp_12 : decode cX2_hangUp 12 = .ok (.iload_n 2, 1) := by decide +kernel
theorem dX2_hangUp_13 : decode cX2_hangUp 13 = .ok (.aaload, 1) := by decide +kernel
theorem dX2_hangUp_14 : decode cX2_hangUp 14 = .ok (.invokevirtual 97, 3) := by decide +kernel
theorem dX2_hangUp_17 : decode cX2_hangUp 17 = .ok (.aload_n 0, 1) := by decide +kernel
theorem dX2_hangUp_18 : decode cX2_hangUp 18 = .ok (.aload_n 0, 1) := by decide +kernel
theorem dX2_hangUp_19 : decode cX2_hangUp 19 = .ok (.getfield 33, 3) := by decide +kernel
theorem dX2_hangUp_22 : decode cX2_hangUp 22 = .ok (.iload_n 2, 1) := by decide +kernel
theorem dX2_hangUp_23 : decode cX2_hangUp 23 = .ok (.aaload, 1) := by decide +kernel
theorem dX2_hangUp_24 : decode cX2_hangUp 24 = .ok (.iconst 4, 1) := by decide +kernel
theorem dX2_hangUp_25 : decode cX2_hangUp 25 = .ok (.invokevirtual 100, 3) := by decide +kernel
theorem dX2_hangUp_28 : decode cX2_hangUp 28 = .ok (.aload_n 0, 1) := by decide +kernel
theorem dX2_hangUp_29 : decode cX2_hangUp 29 = .ok (.invokevirtual 94, 3) := by decide +kernel
theorem dX2_hangUp_32 : decode cX2_hangUp 32 = .ok (.iload_n 2, 1) := by decide +kernel
theorem dX2_hangUp_33 : decode cX2_hangUp 33 = .ok (.ireturn, 1) := by decide +kernel
theorem dX2_pass_0 : decode cX2_pass 0 = .ok (.aload_n 0, 1) := by decide +kernel
theorem dX2_pass_1 : decode cX2_pass 1 = .ok (.dup, 1) := by decide +kernel
theorem dX2_pass_2 : decode cX2_pass 2 = .ok (.getfield 54, 3) := by decide +kernel
theorem dX2_pass_5 : decode cX2_pass 5 = .ok (.iconst 1, 1) := by decide +kernel
theorem dX2_pass_6 : decode cX2_pass 6 = .ok (.iadd, 1) := by decide +kernel
theorem dX2_pass_7 : decode cX2_pass 7 = .ok (.putfield 54, 3) := by decide +kernel
theorem dX2_pass_10 : decode cX2_pass 10 = .ok (.aload_n 0, 1) := by decide +kernel
theorem dX2_pass_11 : decode cX2_pass 11 = .ok (.invokevirtual 104, 3) := by decide +kernel
theorem dX2_pass_14 : decode cX2_pass 14 = .ok (.iconst 0, 1) := by decide +kernel
theorem dX2_pass_15 : decode cX2_pass 15 = .ok (.istore_n 1, 1) := by decide +kernel
theorem dX2_pass_16 : decode cX2_pass 16 = .ok (.iload_n 1, 1) := by decide +kernel
theorem dX2_pass_17 : decode cX2_pass 17 = .ok (.aload_n 0, 1) := by decide +kernel
theorem dX2_pass_18 : decode cX2_pass 18 = .ok (.getfield 42, 3) := by decide +kernel
theorem dX2_pass_21 : decode cX2_pass 21 = .ok (.if_icmp .ge 98, 3) := by decide +kernel
theorem dX2_pass_24 : decode cX2_pass 24 = .ok (.aload_n 0, 1) := by decide +kernel
theorem dX2_pass_25 : decode cX2_pass 25 = .ok (.getfield 33, 3) := by decide +kernel
theorem dX2_pass_28 : decode cX2_pass 28 = .ok (.iload_n 1, 1) := by decide +kernel
theorem dX2_pass_29 : decode cX2_pass 29 = .ok (.aaload, 1) := by decide +kernel
theorem dX2_pass_30 : decode cX2_pass 30 = .ok (.astore_n 2, 1) := by decide +kernel
theorem dX2_pass_31 : decode cX2_pass 31 = .ok (.aload_n 2, 1) := by decide +kernel
theorem dX2_pass_32 : decode cX2_pass 32 = .ok (.getfield 71, 3) := by decide +kernel
theorem dX2_pass_35 : decode cX2_pass 35 = .ok (.ifCond .ne 78, 3) := by decide +kernel
theorem dX2_pass_38 : decode cX2_pass 38 = .ok (.aload_n 2, 1) := by decide +kernel
theorem dX2_pass_39 : decode cX2_pass 39 = .ok (.dup, 1) := by decide +kernel
theorem dX2_pass_40 : decode cX2_pass 40 = .ok (.getfield 107, 3) := by decide +kernel
theorem dX2_pass_43 : decode cX2_pass 43 = .ok (.iconst 1, 1) := by decide +kernel
theorem dX2_pass_44 : decode cX2_pass 44 = .ok (.iadd, 1) := by decide +kernel
theorem dX2_pass_45 : decode cX2_pass 45 = .ok (.putfield 107, 3) := by decide +kernel
theorem dX2_pass_48 : decode cX2_pass 48 = .ok (.aload_n 2, 1) := by decide +kernel
theorem dX2_pass_49 : decode cX2_pass 49 = .ok (.aload_n 2, 1) := by decide +kernel
theorem dX2_pass_50 : decode cX2_pass 50 = .ok (.getfield 110, 3) := by decide +kernel
theorem dX2_pass_53 : decode cX2_pass 53 = .ok (.iconst 1, 1) := by decide +kernel
theorem dX2_pass_54 : decode cX2_pass 54 = .ok (.isub, 1) := by decide +kernel
theorem dX2_pass_55 : decode cX2_pass 55 = .ok (.invokevirtual 113, 3) := by decide +kernel
theorem dX2_pass_58 : decode cX2_pass 58 = .ok (.istore_n 3, 1) := by decide +kernel
theorem dX2_pass_59 : decode cX2_pass 59 = .ok (.aload_n 0, 1) := by decide +kernel
theorem dX2_pass_60 : decode cX2_pass 60 = .ok (.getfield 27, 3) := by decide +kernel
theorem dX2_pass_63 : decode cX2_pass 63 = .ok (.iload_n 3, 1) := by decide +kernel
theorem dX2_pass_64 : decode cX2_pass 64 = .ok (.aload_n 2, 1) := by decide +kernel
theorem dX2_pass_65 : decode cX2_pass 65 = .ok (.getfield 107, 3) := by decide +kernel
theorem dX2_pass_68 : decode cX2_pass 68 = .ok (.invokevirtual 116, 3) := by decide +kernel
theorem dX2_pass_71 : decode cX2_pass 71 = .ok (.istore 4, 2) := by decide +kernel
theorem dX2_pass_73 : decode cX2_pass 73 = .ok (.iload 4, 2) := by decide +kernel
theorem dX2_pass_75 : decode cX2_pass 75 = .ok (.iconst (-1), 1) := by decide +kernel
theorem dX2_pass_76 : decode cX2_pass 76 = .ok (.if_icmp .eq 33, 3) := by decide +kernel
theorem dX2_pass_79 : decode cX2_pass 79 = .ok (.aload_n 0, 1) := by decide +kernel
theorem dX2_pass_80 : decode cX2_pass 80 = .ok (.aload_n 2, 1) := by decide +kernel
theorem dX2_pass_81 : decode cX2_pass 81 = .ok (.invokevirtual 97, 3) := by decide +kernel
theorem dX2_pass_84 : decode cX2_pass 84 = .ok (.aload_n 2, 1) := by decide +kernel
theorem dX2_pass_85 : decode cX2_pass 85 = .ok (.iload 4, 2) := by decide +kernel
theorem dX2_pass_87 : decode cX2_pass 87 = .ok (.invokevirtual 119, 3) := by decide +kernel
theorem dX2_pass_90 : decode cX2_pass 90 = .ok (.aload_n 0, 1) := by decide +kernel
theorem dX2_pass_91 : decode cX2_pass 91 = .ok (.iload_n 1, 1) := by decide +kernel
theorem dX2_pass_92 : decode cX2_pass 92 = .ok (.iload_n 3, 1) := by decide +kernel
theorem dX2_pass_93 : decode cX2_pass 93 = .ok (.aload_n 0, 1) := by decide +kernel
theorem dX2_pass_94 : decode cX2_pass 94 = .ok (.getfield 27, 3) := by decide +kernel
theorem dX2_pass_97 : decode cX2_pass 97 = .ok (.getfield 123, 3) := by decide +kernel
theorem dX2_pass_100 : decode cX2_pass 100 = .ok (.iload 4, 2) := by decide +kernel
theorem dX2_pass_102 : decode cX2_pass 102 = .ok (.aaload, 1) := by decide +kernel
theorem dX2_pass_103 : decode cX2_pass 103 = .ok (.getfield 127, 3) := by decide +kernel
theorem dX2_pass_106 : decode cX2_pass 106 = .ok (.invokevirtual 90, 3) := by decide +kernel
theorem dX2_pass_109 : decode cX2_pass 109 = .ok (.aload_n 0, 1) := by decide +kernel
theorem dX2_pass_110 : decode cX2_pass 110 = .ok (.invokevirtual 94, 3) := by decide +kernel
theorem dX2_pass_113 : decode cX2_pass 113 = .ok (.iinc 1 1, 3) := by decide +kernel
theorem dX2_pass_116 : decode cX2_pass 116 = .ok (.goto (-100), 3) := by decide +kernel
theorem dX2_pass_119 : decode cX2_pass 119 = .ok (.aload_n 0, 1) := by decide +kernel
theorem dX2_pass_120 : decode cX2_pass 120 = .ok (.getfield 51, 3) := by decide +kernel
theorem dX2_pass_123 : decode cX2_pass 123 = .ok (.istore_n 1, 1) := by decide +kernel
theorem dX2_pass_124 : decode cX2_pass 124 = .ok (.iconst 0, 1) := by decide +kernel
theorem dX2_pass_125 : decode cX2_pass 125 = .ok (.istore_n 2, 1) := by decide +kernel
theorem dX2_pass_126 : decode cX2_pass 126 = .ok (.iconst 0, 1) := by decide +kernel
theorem dX2_pass_127 : decode cX2_pass 127 = .ok (.istore_n 3, 1) := by decide +kernel
theorem dX2_pass_128 : decode cX2_pass 128 = .ok (.iload_n 3, 1) := by decide +kernel
theorem dX2_pass_129 : decode cX2_pass 129 = .ok (.iload_n 1, 1) := by decide +kernel
theorem dX2_pass_130 : decode cX2_pass 130 = .ok (.if_icmp .ge 79, 3) := by decide +kernel
theorem dX2_pass_133 : decode cX2_pass 133 = .ok (.aload_n 0, 1) := by decide +kernel
theorem dX2_pass_134 : decode cX2_pass 134 = .ok (.getfield 21, 3) := by decide +kernel
theorem dX2_pass_137 : decode cX2_pass 137 = .ok (.iload_n 2, 1) := by decide +kernel
theorem dX2_pass_138 : decode cX2_pass 138 = .ok (.iaload, 1) := by decide +kernel
theorem dX2_pass_139 : decode cX2_pass 139 = .ok (.istore 4, 2) := by decide +kernel
theorem dX2_pass_141 : decode cX2_pass 141 = .ok (.aload_n 0, 1) := by decide +kernel
theorem dX2_pass_142 : decode cX2_pass 142 = .ok (.getfield 24, 3) := by decide +kernel
theorem dX2_pass_145 : decode cX2_pass 145 = .ok (.iload_n 2, 1) := by decide +kernel
theorem dX2_pass_146 : decode cX2_pass 146 = .ok (.iaload, 1) := by decide +kernel
theorem dX2_pass_147 : decode cX2_pass 147 = .ok (.istore 5, 2) := by decide +kernel
theorem dX2_pass_149 : decode cX2_pass 149 = .ok (.aload_n 0, 1) := by decide +kernel
theorem dX2_pass_150 : decode cX2_pass 150 = .ok (.iload 4, 2) := by decide +kernel
theorem dX2_pass_152 : decode cX2_pass 152 = .ok (.invokevirtual 61, 3) := by decide +kernel
theorem dX2_pass_155 : decode cX2_pass 155 = .ok (.ifCond .eq 45, 3) := by decide +kernel
theorem dX2_pass_158 : decode cX2_pass 158 = .ok (.aload_n 0, 1) := by decide +kernel
theorem dX2_pass_159 : decode cX2_pass 159 = .ok (.iload 5, 2) := by decide +kernel
theorem dX2_pass_161 : decode cX2_pass 161 = .ok (.invokevirtual 61, 3) := by decide +kernel
theorem dX2_pass_164 : decode cX2_pass 164 = .ok (.ifCond .eq 36, 3) := by decide +kernel
theorem dX2_pass_167 : decode cX2_pass 167 = .ok (.aload_n 0, 1) := by decide +kernel
theorem dX2_pass_168 : decode cX2_pass 168 = .ok (.invokevirtual 132, 3) := by decide +kernel
theorem dX2_pass_171 : decode cX2_pass 171 = .ok (.ifCond .eq 29, 3) := by decide +kernel
theorem dX2_pass_174 : decode cX2_pass 174 = .ok (.aload_n 0, 1) := by decide +kernel
theorem dX2_pass_175 : decode cX2_pass 175 = .ok (.iload_n 2, 1) := by decide +kernel
theorem dX2_pass_176 : decode cX2_pass 176 = .ok (.invokevirtual 136, 3) := by decide +kernel
theorem dX2_pass_179 : decode cX2_pass 179 = .ok (.aload_n 0, 1) := by decide +kernel
theorem dX2_pass_180 : decode cX2_pass 180 = .ok (.aload_n 0, 1) := by decide +kernel
theorem dX2_pass_181 : decode cX2_pass 181 = .ok (.iload 4, 2) := by decide +kernel
theorem dX2_pass_183 : decode cX2_pass 183 = .ok (.invokevirtual 86, 3) := by decide +kernel
theorem dX2_pass_186 : decode cX2_pass 186 = .ok (.iload 4, 2) := by decide +kernel
theorem dX2_pass_188 : decode cX2_pass 188 = .ok (.iload 5, 2) := by decide +kernel
theorem dX2_pass_190 : decode cX2_pass 190 = .ok (.invokevirtual 90, 3) := by decide +kernel
theorem dX2_pass_193 : decode cX2_pass 193 = .ok (.aload_n 0, 1) := by decide +kernel
theorem dX2_pass_194 : decode cX2_pass 194 = .ok (.invokevirtual 94, 3) := by decide +kernel
theorem dX2_pass_197 : decode cX2_pass 197 = .ok (.goto 6, 3) := by decide +kernel
theorem dX2_pass_200 : decode cX2_pass 200 = .ok (.iinc 2 1, 3) := by decide +kernel
theorem dX2_pass_203 : decode cX2_pass 203 = .ok (.iinc 3 1, 3) := by decide +kernel
theorem dX2_pass_206 : decode cX2_pass 206 = .ok (.goto (-78), 3) := by decide +kernel
theorem dX2_pass_209 : decode cX2_pass 209 = .ok (.return_, 1) := by decide +kernel
theorem dX2_allows_0 : decode cX2_allows 0 = .ok (.iload_n 1, 1) := by decide +kernel
theorem dX2_allows_1 : decode cX2_allows 1 = .ok (.sipush 1000, 3) := by decide +kernel
theorem dX2_allows_4 : decode cX2_allows 4 = .ok (.irem, 1) := by decide +kernel
theorem dX2_allows_5 : decode cX2_allows 5 = .ok (.bipush 10, 2) := by decide +kernel
theorem dX2_allows_7 : decode cX2_allows 7 = .ok (.idiv, 1) := by decide +kernel
theorem dX2_allows_8 : decode cX2_allows 8 = .ok (.istore_n 2, 1) := by decide +kernel
theorem dX2_allows_9 : decode cX2_allows 9 = .ok (.iload_n 1, 1) := by decide +kernel
theorem dX2_allows_10 : decode cX2_allows 10 = .ok (.sipush 1000, 3) := by decide +kernel
theorem dX2_allows_13 : decode cX2_allows 13 = .ok (.idiv, 1) := by decide +kernel
theorem dX2_allows_14 : decode cX2_allows 14 = .ok (.tableswitch 59 1 3 #[26, 47, 53], 26) := by decide +kernel
theorem dX2_allows_40 : decode cX2_allows 40 = .ok (.aload_n 0, 1) := by decide +kernel
theorem dX2_allows_41 : decode cX2_allows 41 = .ok (.invokevirtual 132, 3) := by decide +kernel
theorem dX2_allows_44 : decode cX2_allows 44 = .ok (.ifCond .eq 15, 3) := by decide +kernel
theorem dX2_allows_47 : decode cX2_allows 47 = .ok (.aload_n 0, 1) := by decide +kernel
theorem dX2_allows_48 : decode cX2_allows 48 = .ok (.iload_n 2, 1) := by decide +kernel
theorem dX2_allows_49 : decode cX2_allows 49 = .ok (.invokevirtual 61, 3) := by decide +kernel
theorem dX2_allows_52 : decode cX2_allows 52 = .ok (.ifCond .eq 7, 3) := by decide +kernel
theorem dX2_allows_55 : decode cX2_allows 55 = .ok (.iconst 1, 1) := by decide +kernel
theorem dX2_allows_56 : decode cX2_allows 56 = .ok (.goto 4, 3) := by decide +kernel
theorem dX2_allows_59 : decode cX2_allows 59 = .ok (.iconst 0, 1) := by decide +kernel
theorem dX2_allows_60 : decode cX2_allows 60 = .ok (.ireturn, 1) := by decide +kernel
theorem dX2_allows_61 : decode cX2_allows 61 = .ok (.aload_n 0, 1) := by decide +kernel
theorem dX2_allows_62 : decode cX2_allows 62 = .ok (.iload_n 2, 1) := by decide +kernel
theorem dX2_allows_63 : decode cX2_allows 63 = .ok (.invokevirtual 68, 3) := by decide +kernel
theorem dX2_allows_66 : decode cX2_allows 66 = .ok (.ireturn, 1) := by decide +kernel
theorem dX2_allows_67 : decode cX2_allows 67 = .ok (.aload_n 0, 1) := by decide +kernel
theorem dX2_allows_68 : decode cX2_allows 68 = .ok (.iload_n 2, 1) := by decide +kernel
theorem dX2_allows_69 : decode cX2_allows 69 = .ok (.invokevirtual 139, 3) := by decide +kernel
theorem dX2_allows_72 : decode cX2_allows 72 = .ok (.ireturn, 1) := by decide +kernel
theorem dX2_allows_73 : decode cX2_allows 73 = .ok (.aload_n 0, 1) := by decide +kernel
theorem dX2_allows_74 : decode cX2_allows 74 = .ok (.getfield 54, 3) := by decide +kernel
theorem dX2_allows_77 : decode cX2_allows 77 = .ok (.sipush 1000, 3) := by decide +kernel
theorem dX2_allows_80 : decode cX2_allows 80 = .ok (.if_icmp .ge 7, 3) := by decide +kernel
theorem dX2_allows_83 : decode cX2_allows 83 = .ok (.iconst 1, 1) := by decide +kernel
theorem dX2_allows_84 : decode cX2_allows 84 = .ok (.goto 4, 3) := by decide +kernel
theorem dX2_allows_87 : decode cX2_allows 87 = .ok (.iconst 0, 1) := by decide +kernel
theorem dX2_allows_88 : decode cX2_allows 88 = .ok (.ireturn, 1) := by decide +kernel
theorem dX2_perform_0 : decode cX2_perform 0 = .ok (.iload_n 1, 1) := by decide +kernel
theorem dX2_perform_1 : decode cX2_perform 1 = .ok (.sipush 1000, 3) := by decide +kernel
theorem dX2_perform_4 : decode cX2_perform 4 = .ok (.irem, 1) := by decide +kernel
theorem dX2_perform_5 : decode cX2_perform 5 = .ok (.bipush 10, 2) := by decide +kernel
theorem dX2_perform_7 : decode cX2_perform 7 = .ok (.idiv, 1) := by decide +kernel
theorem dX2_perform_8 : decode cX2_perform 8 = .ok (.istore_n 2, 1) := by decide +kernel
theorem dX2_perform_9 : decode cX2_perform 9 = .ok (.iload_n 1, 1) := by decide +kernel
theorem dX2_perform_10 : decode cX2_perform 10 = .ok (.sipush 1000, 3) := by decide +kernel
theorem dX2_perform_13 : decode cX2_perform 13 = .ok (.idiv, 1) := by decide +kernel
theorem dX2_perform_14 : decode cX2_perform 14 = .ok (.tableswitch 57 1 3 #[26, 39, 48], 26) := by decide +kernel
theorem dX2_perform_40 : decode cX2_perform 40 = .ok (.aload_n 0, 1) := by decide +kernel
theorem dX2_perform_41 : decode cX2_perform 41 = .ok (.iload_n 2, 1) := by decide +kernel
theorem dX2_perform_42 : decode cX2_perform 42 = .ok (.iload_n 1, 1) := by decide +kernel
theorem dX2_perform_43 : decode cX2_perform 43 = .ok (.bipush 10, 2) := by decide +kernel
theorem dX2_perform_45 : decode cX2_perform 45 = .ok (.irem, 1) := by decide +kernel
theorem dX2_perform_46 : decode cX2_perform 46 = .ok (.invokevirtual 142, 3) := by decide +kernel
theorem dX2_perform_49 : decode cX2_perform 49 = .ok (.pop, 1) := by decide +kernel
theorem dX2_perform_50 : decode cX2_perform 50 = .ok (.goto 25, 3) := by decide +kernel
theorem dX2_perform_53 : decode cX2_perform 53 = .ok (.aload_n 0, 1) := by decide +kernel
theorem dX2_perform_54 : decode cX2_perform 54 = .ok (.iload_n 2, 1) := by decide +kernel
theorem dX2_perform_55 : decode cX2_perform 55 = .ok (.invokevirtual 145, 3) := by decide +kernel
theorem dX2_perform_58 : decode cX2_perform 58 = .ok (.pop, 1) := by decide +kernel
theorem dX2_perform_59 : decode cX2_perform 59 = .ok (.goto 16, 3) := by decide +kernel
theorem dX2_perform_62 : decode cX2_perform 62 = .ok (.aload_n 0, 1) := by decide +kernel
theorem dX2_perform_63 : decode cX2_perform 63 = .ok (.iload_n 2, 1) := by decide +kernel
theorem dX2_perform_64 : decode cX2_perform 64 = .ok (.invokevirtual 148, 3) := by decide +kernel
theorem dX2_perform_67 : decode cX2_perform 67 = .ok (.pop, 1) := by decide +kernel
theorem dX2_perform_68 : decode cX2_perform 68 = .ok (.goto 7, 3) := by decide +kernel
theorem dX2_perform_71 : decode cX2_perform 71 = .ok (.aload_n 0, 1) := by decide +kernel
theorem dX2_perform_72 : decode cX2_perform 72 = .ok (.invokevirtual 151, 3) := by decide +kernel
theorem dX2_perform_75 : decode cX2_perform 75 = .ok (.return_, 1) := by decide +kernel
theorem dX2_breaks_0 : decode cX2_breaks 0 = .ok (.iload_n 1, 1) := by decide +kernel
theorem dX2_breaks_1 : decode cX2_breaks 1 = .ok (.iconst 1, 1) := by decide +kernel
theorem dX2_breaks_2 : decode cX2_breaks 2 = .ok (.if_icmp .ne 18, 3) := by decide +kernel
theorem dX2_breaks_5 : decode cX2_breaks 5 = .ok (.aload_n 0, 1) := by decide +kernel
theorem dX2_breaks_6 : decode cX2_breaks 6 = .ok (.getfield 18, 3) := by decide +kernel
theorem dX2_breaks_9 : decode cX2_breaks 9 = .ok (.iload_n 2, 1) := by decide +kernel
theorem dX2_breaks_10 : decode cX2_breaks 10 = .ok (.iaload, 1) := by decide +kernel
theorem dX2_breaks_11 : decode cX2_breaks 11 = .ok (.ifCond .le 7, 3) := by decide +kernel
theorem dX2_breaks_14 : decode cX2_breaks 14 = .ok (.iconst 1, 1) := by decide +kernel
theorem dX2_breaks_15 : decode cX2_breaks 15 = .ok (.goto 4, 3) := by decide +kernel
theorem dX2_breaks_18 : decode cX2_breaks 18 = .ok (.iconst 0, 1) := by decide +kernel
theorem dX2_breaks_19 : decode cX2_breaks 19 = .ok (.ireturn, 1) := by decide +kernel
theorem dX2_breaks_20 : decode cX2_breaks 20 = .ok (.aload_n 0, 1) := by decide +kernel
theorem dX2_breaks_21 : decode cX2_breaks 21 = .ok (.iload_n 2, 1) := by decide +kernel
theorem dX2_breaks_22 : decode cX2_breaks 22 = .ok (.invokevirtual 61, 3) := by decide +kernel
theorem dX2_breaks_25 : decode cX2_breaks 25 = .ok (.ifCond .eq 5, 3) := by decide +kernel
theorem dX2_breaks_28 : decode cX2_breaks 28 = .ok (.iconst 0, 1) := by decide +kernel
theorem dX2_breaks_29 : decode cX2_breaks 29 = .ok (.ireturn, 1) := by decide +kernel
theorem dX2_breaks_30 : decode cX2_breaks 30 = .ok (.aload_n 0, 1) := by decide +kernel
theorem dX2_breaks_31 : decode cX2_breaks 31 = .ok (.getfield 33, 3) := by decide +kernel
theorem dX2_breaks_34 : decode cX2_breaks 34 = .ok (.aload_n 0, 1) := by decide +kernel
theorem dX2_breaks_35 : decode cX2_breaks 35 = .ok (.getfield 9, 3) := by decide +kernel
theorem dX2_breaks_38 : decode cX2_breaks 38 = .ok (.iload_n 2, 1) := by decide +kernel
theorem dX2_breaks_39 : decode cX2_breaks 39 = .ok (.iaload, 1) := by decide +kernel
theorem dX2_breaks_40 : decode cX2_breaks 40 = .ok (.aaload, 1) := by decide +kernel
theorem dX2_breaks_41 : decode cX2_breaks 41 = .ok (.astore 4, 2) := by decide +kernel
theorem dX2_breaks_43 : decode cX2_breaks 43 = .ok (.iload_n 1, 1) := by decide +kernel
theorem dX2_breaks_44 : decode cX2_breaks 44 = .ok (.ifCond .ne 38, 3) := by decide +kernel
theorem dX2_breaks_47 : decode cX2_breaks 47 = .ok (.iload_n 2, 1) := by decide +kernel
theorem dX2_breaks_48 : decode cX2_breaks 48 = .ok (.iload_n 3, 1) := by decide +kernel
theorem dX2_breaks_49 : decode cX2_breaks 49 = .ok (.if_icmp .eq 31, 3) := by decide +kernel
theorem dX2_breaks_52 : decode cX2_breaks 52 = .ok (.aload 4, 2) := by decide +kernel
theorem dX2_breaks_54 : decode cX2_breaks 54 = .ok (.getfield 71, 3) := by decide +kernel
theorem dX2_breaks_57 : decode cX2_breaks 57 = .ok (.iconst 1, 1) := by decide +kernel
theorem dX2_breaks_58 : decode cX2_breaks 58 = .ok (.if_icmp .ne 22, 3) := by decide +kernel
theorem dX2_breaks_61 : decode cX2_breaks 61 = .ok (.aload_n 0, 1) := by decide +kernel
theorem dX2_breaks_62 : decode cX2_breaks 62 = .ok (.getfield 9, 3) := by decide +kernel
theorem dX2_breaks_65 : decode cX2_breaks 65 = .ok (.iload_n 3, 1) := by decide +kernel
theorem dX2_breaks_66 : decode cX2_breaks 66 = .ok (.iaload, 1) := by decide +kernel
theorem dX2_breaks_67 : decode cX2_breaks 67 = .ok (.aload_n 0, 1) := by decide +kernel
theorem dX2_breaks_68 : decode cX2_breaks 68 = .ok (.getfield 9, 3) := by decide +kernel
theorem dX2_breaks_71 : decode cX2_breaks 71 = .ok (.iload_n 2, 1) := by decide +kernel
theorem dX2_breaks_72 : decode cX2_breaks 72 = .ok (.iaload, 1) := by decide +kernel
theorem dX2_breaks_73 : decode cX2_breaks 73 = .ok (.if_icmp .ne 7, 3) := by decide +kernel
theorem dX2_breaks_76 : decode cX2_breaks 76 = .ok (.iconst 1, 1) := by decide +kernel
theorem dX2_breaks_77 : decode cX2_breaks 77 = .ok (.goto 4, 3) := by decide +kernel
theorem dX2_breaks_80 : decode cX2_breaks 80 = .ok (.iconst 0, 1) := by decide +kernel
theorem dX2_breaks_81 : decode cX2_breaks 81 = .ok (.ireturn, 1) := by decide +kernel
theorem dX2_breaks_82 : decode cX2_breaks 82 = .ok (.aload 4, 2) := by decide +kernel
theorem dX2_breaks_84 : decode cX2_breaks 84 = .ok (.getfield 77, 3) := by decide +kernel
theorem dX2_breaks_87 : decode cX2_breaks 87 = .ok (.iload_n 2, 1) := by decide +kernel
theorem dX2_breaks_88 : decode cX2_breaks 88 = .ok (.if_icmp .ne 17, 3) := by decide +kernel
theorem dX2_breaks_91 : decode cX2_breaks 91 = .ok (.aload_n 0, 1) := by decide +kernel
theorem dX2_breaks_92 : decode cX2_breaks 92 = .ok (.aload 4, 2) := by decide +kernel
theorem dX2_breaks_94 : decode cX2_breaks 94 = .ok (.iload_n 3, 1) := by decide +kernel
theorem dX2_breaks_95 : decode cX2_breaks 95 = .ok (.invokevirtual 154, 3) := by decide +kernel
theorem dX2_breaks_98 : decode cX2_breaks 98 = .ok (.ifCond .eq 7, 3) := by decide +kernel
theorem dX2_breaks_101 : decode cX2_breaks 101 = .ok (.iconst 1, 1) := by decide +kernel
theorem dX2_breaks_102 : decode cX2_breaks 102 = .ok (.goto 4, 3) := by decide +kernel
theorem dX2_breaks_105 : decode cX2_breaks 105 = .ok (.iconst 0, 1) := by decide +kernel
theorem dX2_breaks_106 : decode cX2_breaks 106 = .ok (.ireturn, 1) := by decide +kernel
theorem dX2_opened_0 : decode cX2_opened 0 = .ok (.aload_n 0, 1) := by decide +kernel
theorem dX2_opened_1 : decode cX2_opened 1 = .ok (.invokevirtual 132, 3) := by decide +kernel
theorem dX2_opened_4 : decode cX2_opened 4 = .ok (.ifCond .ne 5, 3) := by decide +kernel
theorem dX2_opened_7 : decode cX2_opened 7 = .ok (.iconst (-1), 1) := by decide +kernel
theorem dX2_opened_8 : decode cX2_opened 8 = .ok (.ireturn, 1) := by decide +kernel
theorem dX2_opened_9 : decode cX2_opened 9 = .ok (.aload_n 0, 1) := by decide +kernel
theorem dX2_opened_10 : decode cX2_opened 10 = .ok (.getfield 33, 3) := by decide +kernel
theorem dX2_opened_13 : decode cX2_opened 13 = .ok (.aload_n 0, 1) := by decide +kernel
theorem dX2_opened_14 : decode cX2_opened 14 = .ok (.getfield 42, 3) := by decide +kernel
theorem dX2_opened_17 : decode cX2_opened 17 = .ok (.aaload, 1) := by decide +kernel
theorem dX2_opened_18 : decode cX2_opened 18 = .ok (.iload_n 1, 1) := by decide +kernel
theorem dX2_opened_19 : decode cX2_opened 19 = .ok (.invokevirtual 158, 3) := by decide +kernel
theorem dX2_opened_22 : decode cX2_opened 22 = .ok (.aload_n 0, 1) := by decide +kernel
theorem dX2_opened_23 : decode cX2_opened 23 = .ok (.getfield 9, 3) := by decide +kernel
theorem dX2_opened_26 : decode cX2_opened 26 = .ok (.iload_n 1, 1) := by decide +kernel
theorem dX2_opened_27 : decode cX2_opened 27 = .ok (.aload_n 0, 1) := by decide +kernel
theorem dX2_opened_28 : decode cX2_opened 28 = .ok (.getfield 42, 3) := by decide +kernel
theorem dX2_opened_31 : decode cX2_opened 31 = .ok (.iastore, 1) := by decide +kernel
theorem dX2_opened_32 : decode cX2_opened 32 = .ok (.aload_n 0, 1) := by decide +kernel
theorem dX2_opened_33 : decode cX2_opened 33 = .ok (.dup, 1) := by decide +kernel
theorem dX2_opened_34 : decode cX2_opened 34 = .ok (.getfield 42, 3) := by decide +kernel
theorem dX2_opened_37 : decode cX2_opened 37 = .ok (.iconst 1, 1) := by decide +kernel
theorem dX2_opened_38 : decode cX2_opened 38 = .ok (.iadd, 1) := by decide +kernel
theorem dX2_opened_39 : decode cX2_opened 39 = .ok (.putfield 42, 3) := by decide +kernel
theorem dX2_opened_42 : decode cX2_opened 42 = .ok (.aload_n 0, 1) := by decide +kernel
theorem dX2_opened_43 : decode cX2_opened 43 = .ok (.getfield 42, 3) := by decide +kernel
theorem dX2_opened_46 : decode cX2_opened 46 = .ok (.iconst 1, 1) := by decide +kernel
theorem dX2_opened_47 : decode cX2_opened 47 = .ok (.isub, 1) := by decide +kernel
theorem dX2_opened_48 : decode cX2_opened 48 = .ok (.ireturn, 1) := by decide +kernel
theorem dX2_go_0 : decode cX2_go 0 = .ok (.aload_n 0, 1) := by decide +kernel
theorem dX2_go_1 : decode cX2_go 1 = .ok (.iload_n 1, 1) := by decide +kernel
theorem dX2_go_2 : decode cX2_go 2 = .ok (.invokevirtual 161, 3) := by decide +kernel
theorem dX2_go_5 : decode cX2_go 5 = .ok (.ifCond .ne 4, 3) := by decide +kernel
theorem dX2_go_8 : decode cX2_go 8 = .ok (.return_, 1) := by decide +kernel
theorem dX2_go_9 : decode cX2_go 9 = .ok (.aload_n 0, 1) := by decide +kernel
theorem dX2_go_10 : decode cX2_go 10 = .ok (.getfield 33, 3) := by decide +kernel
theorem dX2_go_13 : decode cX2_go 13 = .ok (.iload_n 1, 1) := by decide +kernel
theorem dX2_go_14 : decode cX2_go 14 = .ok (.aaload, 1) := by decide +kernel
theorem dX2_go_15 : decode cX2_go 15 = .ok (.astore 4, 2) := by decide +kernel
theorem dX2_go_17 : decode cX2_go 17 = .ok (.iload_n 2, 1) := by decide +kernel
theorem dX2_go_18 : decode cX2_go 18 = .ok (.istore 5, 2) := by decide +kernel
theorem dX2_go_20 : decode cX2_go 20 = .ok (.iload_n 3, 1) := by decide +kernel
theorem dX2_go_21 : decode cX2_go 21 = .ok (.istore 6, 2) := by decide +kernel
theorem dX2_go_23 : decode cX2_go 23 = .ok (.iconst 0, 1) := by decide +kernel
theorem dX2_go_24 : decode cX2_go 24 = .ok (.istore 7, 2) := by decide +kernel
theorem dX2_go_26 : decode cX2_go 26 = .ok (.iload 7, 2) := by decide +kernel
theorem dX2_go_28 : decode cX2_go 28 = .ok (.bipush 8, 2) := by decide +kernel
theorem dX2_go_30 : decode cX2_go 30 = .ok (.if_icmp .gt 170, 3) := by decide +kernel
theorem dX2_go_33 : decode cX2_go 33 = .ok (.aload 4, 2) := by decide +kernel
theorem dX2_go_35 : decode cX2_go 35 = .ok (.iload 6, 2) := by decide +kernel
theorem dX2_go_37 : decode cX2_go 37 = .ok (.invokevirtual 164, 3) := by decide +kernel
theorem dX2_go_40 : decode cX2_go 40 = .ok (.ifCond .eq 11, 3) := by decide +kernel
theorem dX2_go_43 : decode cX2_go 43 = .ok (.aload_n 0, 1) := by decide +kernel
theorem dX2_go_44 : decode cX2_go 44 = .ok (.aload 4, 2) := by decide +kernel
theorem dX2_go_46 : decode cX2_go 46 = .ok (.iconst 2, 1) := by decide +kernel
theorem dX2_go_47 : decode cX2_go 47 = .ok (.invokevirtual 100, 3) := by decide +kernel
theorem dX2_go_50 : decode cX2_go 50 = .ok (.return_, 1) := by decide +kernel
theorem dX2_go_51 : decode cX2_go 51 = .ok (.aload 4, 2) := by decide +kernel
theorem dX2_go_53 : decode cX2_go 53 = .ok (.iload 6, 2) := by decide +kernel
theorem dX2_go_55 : decode cX2_go 55 = .ok (.aload 4, 2) := by decide +kernel
theorem dX2_go_57 : decode cX2_go 57 = .ok (.getfield 110, 3) := by decide +kernel
theorem dX2_go_60 : decode cX2_go 60 = .ok (.ifCond .ne 22, 3) := by decide +kernel
theorem dX2_go_63 : decode cX2_go 63 = .ok (.aload_n 0, 1) := by decide +kernel
theorem dX2_go_64 : decode cX2_go 64 = .ok (.getfield 27, 3) := by decide +kernel
theorem dX2_go_67 : decode cX2_go 67 = .ok (.iload 6, 2) := by decide +kernel
theorem dX2_go_69 : decode cX2_go 69 = .ok (.bipush 7, 2) := by decide +kernel
theorem dX2_go_71 : decode cX2_go 71 = .ok (.invokevirtual 167, 3) := by decide +kernel
theorem dX2_go_74 : decode cX2_go 74 = .ok (.ifCond .eq 8, 3) := by decide +kernel
theorem dX2_go_77 : decode cX2_go 77 = .ok (.iload 6, 2) := by decide +kernel
theorem dX2_go_79 : decode cX2_go 79 = .ok (.goto 5, 3) := by decide +kernel
theorem dX2_go_82 : decode cX2_go 82 = .ok (.iload 5, 2) := by decide +kernel
theorem dX2_go_84 : decode cX2_go 84 = .ok (.invokevirtual 170, 3) := by decide +kernel
theorem dX2_go_87 : decode cX2_go 87 = .ok (.aload_n 0, 1) := by decide +kernel
theorem dX2_go_88 : decode cX2_go 88 = .ok (.aload 4, 2) := by decide +kernel
theorem dX2_go_90 : decode cX2_go 90 = .ok (.getfield 77, 3) := by decide +kernel
theorem dX2_go_93 : decode cX2_go 93 = .ok (.iload 5, 2) := by decide +kernel
theorem dX2_go_95 : decode cX2_go 95 = .ok (.iload 6, 2) := by decide +kernel
theorem dX2_go_97 : decode cX2_go 97 = .ok (.invokevirtual 174, 3) := by decide +kernel
theorem dX2_go_100 : decode cX2_go 100 = .ok (.istore 8, 2) := by decide +kernel
theorem dX2_go_102 : decode cX2_go 102 = .ok (.iload 8, 2) := by decide +kernel
theorem dX2_go_104 : decode cX2_go 104 = .ok (.iconst (-1), 1) := by decide +kernel
theorem dX2_go_105 : decode cX2_go 105 = .ok (.if_icmp .ne 11, 3) := by decide +kernel
theorem dX2_go_108 : decode cX2_go 108 = .ok (.aload_n 0, 1) := by decide +kernel
theorem dX2_go_109 : decode cX2_go 109 = .ok (.iload_n 1, 1) := by decide +kernel
theorem dX2_go_110 : decode cX2_go 110 = .ok (.iload 6, 2) := by decide +kernel
theorem dX2_go_112 : decode cX2_go 112 = .ok (.invokevirtual 178, 3) := by decide +kernel
theorem dX2_go_115 : decode cX2_go 115 = .ok (.return_, 1) := by decide +kernel
theorem dX2_go_116 : decode cX2_go 116 = .ok (.aload 4, 2) := by decide +kernel
theorem dX2_go_118 : decode cX2_go 118 = .ok (.iload 8, 2) := by decide +kernel
theorem dX2_go_120 : decode cX2_go 120 = .ok (.invokevirtual 119, 3) := by decide +kernel
theorem dX2_go_123 : decode cX2_go 123 = .ok (.aload_n 0, 1) := by decide +kernel
theorem dX2_go_124 : decode cX2_go 124 = .ok (.getfield 27, 3) := by decide +kernel
theorem dX2_go_127 : decode cX2_go 127 = .ok (.getfield 123, 3) := by decide +kernel
theorem dX2_go_130 : decode cX2_go 130 = .ok (.iload 8, 2) := by decide +kernel
theorem dX2_go_132 : decode cX2_go 132 = .ok (.aaload, 1) := by decide +kernel
theorem dX2_go_133 : decode cX2_go 133 = .ok (.astore 9, 2) := by decide +kernel
theorem dX2_go_135 : decode cX2_go 135 = .ok (.aload 9, 2) := by decide +kernel
theorem dX2_go_137 : decode cX2_go 137 = .ok (.getfield 181, 3) := by decide +kernel
theorem dX2_go_140 : decode cX2_go 140 = .ok (.iconst 2, 1) := by decide +kernel
theorem dX2_go_141 : decode cX2_go 141 = .ok (.if_icmp .ne 11, 3) := by decide +kernel
theorem dX2_go_144 : decode cX2_go 144 = .ok (.aload_n 0, 1) := by decide +kernel
theorem dX2_go_145 : decode cX2_go 145 = .ok (.aload 4, 2) := by decide +kernel
theorem dX2_go_147 : decode cX2_go 147 = .ok (.iconst 1, 1) := by decide +kernel
theorem dX2_go_148 : decode cX2_go 148 = .ok (.invokevirtual 100, 3) := by decide +kernel
theorem dX2_go_151 : decode cX2_go 151 = .ok (.return_, 1) := by decide +kernel
theorem dX2_go_152 : decode cX2_go 152 = .ok (.aload 9, 2) := by decide +kernel
theorem dX2_go_154 : decode cX2_go 154 = .ok (.getfield 181, 3) := by decide +kernel
theorem dX2_go_157 : decode cX2_go 157 = .ok (.iconst 4, 1) := by decide +kernel
theorem dX2_go_158 : decode cX2_go 158 = .ok (.if_icmp .ne 25, 3) := by decide +kernel
theorem dX2_go_161 : decode cX2_go 161 = .ok (.aload 4, 2) := by decide +kernel
theorem dX2_go_163 : decode cX2_go 163 = .ok (.iconst 2, 1) := by decide +kernel
theorem dX2_go_164 : decode cX2_go 164 = .ok (.putfield 71, 3) := by decide +kernel
theorem dX2_go_167 : decode cX2_go 167 = .ok (.aload 4, 2) := by decide +kernel
theorem dX2_go_169 : decode cX2_go 169 = .ok (.iload 6, 2) := by decide +kernel
theorem dX2_go_171 : decode cX2_go 171 = .ok (.putfield 74, 3) := by decide +kernel
theorem dX2_go_174 : decode cX2_go 174 = .ok (.aload_n 0, 1) := by decide +kernel
theorem dX2_go_175 : decode cX2_go 175 = .ok (.getfield 15, 3) := by decide +kernel
theorem dX2_go_178 : decode cX2_go 178 = .ok (.iload 6, 2) := by decide +kernel
theorem dX2_go_180 : decode cX2_go 180 = .ok (.iload_n 1, 1) := by decide +kernel
theorem dX2_go_181 : decode cX2_go 181 = .ok (.iastore, 1) := by decide +kernel
theorem dX2_go_182 : decode cX2_go 182 = .ok (.return_, 1) := by decide +kernel
theorem dX2_go_183 : decode cX2_go 183 = .ok (.iload 6, 2) := by decide +kernel
theorem dX2_go_185 : decode cX2_go 185 = .ok (.istore 5, 2) := by decide +kernel
theorem dX2_go_187 : decode cX2_go 187 = .ok (.aload 9, 2) := by decide +kernel
theorem dX2_go_189 : decode cX2_go 189 = .ok (.getfield 127, 3) := by decide +kernel
theorem dX2_go_192 : decode cX2_go 192 = .ok (.istore 6, 2) := by decide +kernel
theorem dX2_go_194 : decode cX2_go 194 = .ok (.iinc 7 1, 3) := by decide +kernel
theorem dX2_go_197 : decode cX2_go 197 = .ok (.goto (-171), 3) := by decide +kernel
theorem dX2_go_200 : decode cX2_go 200 = .ok (.return_, 1) := by decide +kernel
theorem dX2_firstThatActs_0 : decode cX2_firstThatActs 0 = .ok (.aload_n 0, 1) := by decide +kernel
theorem dX2_firstThatActs_1 : decode cX2_firstThatActs 1 = .ok (.iload_n 3, 1) := by decide +kernel
theorem dX2_firstThatActs_2 : decode cX2_firstThatActs 2 = .ok (.invokevirtual 61, 3) := by decide +kernel
theorem dX2_firstThatActs_5 : decode cX2_firstThatActs 5 = .ok (.ifCond .ne 7, 3) := by decide +kernel
theorem dX2_firstThatActs_8 : decode cX2_firstThatActs 8 = .ok (.iconst 1, 1) := by decide +kernel
theorem dX2_firstThatActs_9 : decode cX2_firstThatActs 9 = .ok (.goto 4, 3) := by decide +kernel
theorem dX2_firstThatActs_12 : decode cX2_firstThatActs 12 = .ok (.iconst 0, 1) := by decide +kernel
theorem dX2_firstThatActs_13 : decode cX2_firstThatActs 13 = .ok (.istore 4, 2) := by decide +kernel
theorem dX2_firstThatActs_15 : decode cX2_firstThatActs 15 = .ok (.iload 4, 2) := by decide +kernel
theorem dX2_firstThatActs_17 : decode cX2_firstThatActs 17 = .ok (.ifCond .eq 22, 3) := by decide +kernel
theorem dX2_firstThatActs_20 : decode cX2_firstThatActs 20 = .ok (.iload_n 3, 1) := by decide +kernel
theorem dX2_firstThatActs_21 : decode cX2_firstThatActs 21 = .ok (.iload_n 1, 1) := by decide +kernel
theorem dX2_firstThatActs_22 : decode cX2_firstThatActs 22 = .ok (.if_icmp .eq 17, 3) := by decide +kernel
theorem dX2_firstThatActs_25 : decode cX2_firstThatActs 25 = .ok (.aload_n 0, 1) := by decide +kernel
theorem dX2_firstThatActs_26 : decode cX2_firstThatActs 26 = .ok (.getfield 15, 3) := by decide +kernel
theorem dX2_firstThatActs_29 : decode cX2_firstThatActs 29 = .ok (.iload_n 3, 1) := by decide +kernel
theorem dX2_firstThatActs_30 : decode cX2_firstThatActs 30 = .ok (.iaload, 1) := by decide +kernel
theorem dX2_firstThatActs_31 : decode cX2_firstThatActs 31 = .ok (.iconst (-1), 1) := by decide +kernel
theorem dX2_firstThatActs_32 : decode cX2_firstThatActs 32 = .ok (.if_icmp .ne 7, 3) := by decide +kernel
theorem dX2_firstThatActs_35 : decode cX2_firstThatActs 35 = .ok (.iconst 1, 1) := by decide +kernel
theorem dX2_firstThatActs_36 : decode cX2_firstThatActs 36 = .ok (.goto 4, 3) := by decide +kernel
theorem dX2_firstThatActs_39 : decode cX2_firstThatActs 39 = .ok (.iconst 0, 1) := by decide +kernel
theorem dX2_firstThatActs_40 : decode cX2_firstThatActs 40 = .ok (.istore 5, 2) := by decide +kernel
theorem dX2_firstThatActs_42 : decode cX2_firstThatActs 42 = .ok (.aload_n 0, 1) := by decide +kernel
theorem dX2_firstThatActs_43 : decode cX2_firstThatActs 43 = .ok (.getfield 54, 3) := by decide +kernel
theorem dX2_firstThatActs_46 : decode cX2_firstThatActs 46 = .ok (.bipush 24, 2) := by decide +kernel
theorem dX2_firstThatActs_48 : decode cX2_firstThatActs 48 = .ok (.irem, 1) := by decide +kernel
theorem dX2_firstThatActs_49 : decode cX2_firstThatActs 49 = .ok (.istore 6, 2) := by decide +kernel
theorem dX2_firstThatActs_51 : decode cX2_firstThatActs 51 = .ok (.iconst (-1), 1) := by decide +kernel
theorem dX2_firstThatActs_52 : decode cX2_firstThatActs 52 = .ok (.istore 7, 2) := by decide +kernel
theorem dX2_firstThatActs_54 : decode cX2_firstThatActs 54 = .ok (.iconst 0, 1) := by decide +kernel
theorem dX2_firstThatActs_55 : decode cX2_firstThatActs 55 = .ok (.istore 8, 2) := by decide +kernel
theorem dX2_firstThatActs_57 : decode cX2_firstThatActs 57 = .ok (.iload 8, 2) := by decide +kernel
theorem dX2_firstThatActs_59 : decode cX2_firstThatActs 59 = .ok (.aload_n 0, 1) := by decide +kernel
theorem dX2_firstThatActs_60 : decode cX2_firstThatActs 60 = .ok (.getfield 27, 3) := by decide +kernel
theorem dX2_firstThatActs_63 : decode cX2_firstThatActs 63 = .ok (.getfield 184, 3) := by decide +kernel
theorem dX2_firstThatActs_66 : decode cX2_firstThatActs 66 = .ok (.if_icmp .ge 109, 3) := by decide +kernel
theorem dX2_firstThatActs_69 : decode cX2_firstThatActs 69 = .ok (.aload_n 0, 1) := by decide +kernel
theorem dX2_firstThatActs_70 : decode cX2_firstThatActs 70 = .ok (.getfield 27, 3) := by decide +kernel
theorem dX2_firstThatActs_73 : decode cX2_firstThatActs 73 = .ok (.getfield 123, 3) := by decide +kernel
theorem dX2_firstThatActs_76 : decode cX2_firstThatActs 76 = .ok (.iload 8, 2) := by decide +kernel
theorem dX2_firstThatActs_78 : decode cX2_firstThatActs 78 = .ok (.aaload, 1) := by decide +kernel
theorem dX2_firstThatActs_79 : decode cX2_firstThatActs 79 = .ok (.astore 9, 2) := by decide +kernel
theorem dX2_firstThatActs_81 : decode cX2_firstThatActs 81 = .ok (.aload 9, 2) := by decide +kernel
theorem dX2_firstThatActs_83 : decode cX2_firstThatActs 83 = .ok (.iload_n 3, 1) := by decide +kernel
theorem dX2_firstThatActs_84 : decode cX2_firstThatActs 84 = .ok (.invokevirtual 187, 3) := by decide +kernel
theorem dX2_firstThatActs_87 : decode cX2_firstThatActs 87 = .ok (.ifCond .eq 43, 3) := by decide +kernel
theorem dX2_firstThatActs_90 : decode cX2_firstThatActs 90 = .ok (.aload 9, 2) := by decide +kernel
theorem dX2_firstThatActs_92 : decode cX2_firstThatActs 92 = .ok (.iload_n 1, 1) := by decide +kernel
theorem dX2_firstThatActs_93 : decode cX2_firstThatActs 93 = .ok (.iload_n 2, 1) := by decide +kernel
theorem dX2_firstThatActs_94 : decode cX2_firstThatActs 94 = .ok (.iload 6, 2) := by decide +kernel
theorem dX2_firstThatActs_96 : decode cX2_firstThatActs 96 = .ok (.invokevirtual 190, 3) := by decide +kernel
theorem dX2_firstThatActs_99 : decode cX2_firstThatActs 99 = .ok (.ifCond .ne 27, 3) := by decide +kernel
theorem dX2_firstThatActs_102 : decode cX2_firstThatActs 102 = .ok (.aload 9, 2) := by decide +kernel
theorem dX2_firstThatActs_104 : decode cX2_firstThatActs 104 = .ok (.iload 4, 2) := by decide +kernel
theorem dX2_firstThatActs_106 : decode cX2_firstThatActs 106 = .ok (.invokevirtual 194, 3) := by decide +kernel
theorem dX2_firstThatActs_109 : decode cX2_firstThatActs 109 = .ok (.ifCond .ne 17, 3) := by decide +kernel
theorem dX2_firstThatActs_112 : decode cX2_firstThatActs 112 = .ok (.aload 9, 2) := by decide +kernel
theorem dX2_firstThatActs_114 : decode cX2_firstThatActs 114 = .ok (.getfield 181, 3) := by decide +kernel
theorem dX2_firstThatActs_117 : decode cX2_firstThatActs 117 = .ok (.iconst 4, 1) := by decide +kernel
theorem dX2_firstThatActs_118 : decode cX2_firstThatActs 118 = .ok (.if_icmp .ne 12, 3) := by decide +kernel
theorem dX2_firstThatActs_121 : decode cX2_firstThatActs 121 = .ok (.iload 5, 2) := by decide +kernel
theorem dX2_firstThatActs_123 : decode cX2_firstThatActs 123 = .ok (.ifCond .eq 7, 3) := by decide +kernel
theorem dX2_firstThatActs_126 : decode cX2_firstThatActs 126 = .ok (.iconst 1, 1) := by decide +kernel
theorem dX2_firstThatActs_127 : decode cX2_firstThatActs 127 = .ok (.goto 4, 3) := by decide +kernel
theorem dX2_firstThatActs_130 : decode cX2_firstThatActs 130 = .ok (.iconst 0, 1) := by decide +kernel
theorem dX2_firstThatActs_131 : decode cX2_firstThatActs 131 = .ok (.istore 10, 2) := by decide +kernel
theorem dX2_firstThatActs_133 : decode cX2_firstThatActs 133 = .ok (.iload 10, 2) := by decide +kernel
theorem dX2_firstThatActs_135 : decode cX2_firstThatActs 135 = .ok (.ifCond .eq 34, 3) := by decide +kernel
theorem dX2_firstThatActs_138 : decode cX2_firstThatActs 138 = .ok (.iload 7, 2) := by decide +kernel
theorem dX2_firstThatActs_140 : decode cX2_firstThatActs 140 = .ok (.iconst (-1), 1) := by decide +kernel
theorem dX2_firstThatActs_141 : decode cX2_firstThatActs 141 = .ok (.if_icmp .eq 24, 3) := by decide +kernel
theorem dX2_firstThatActs_144 : decode cX2_firstThatActs 144 = .ok (.aload 9, 2) := by decide +kernel
theorem dX2_firstThatActs_146 : decode cX2_firstThatActs 146 = .ok (.getfield 198, 3) := by decide +kernel
theorem dX2_firstThatActs_149 : decode cX2_firstThatActs 149 = .ok (.aload_n 0, 1) := by decide +kernel
theorem dX2_firstThatActs_150 : decode cX2_firstThatActs 150 = .ok (.getfield 27, 3) := by decide +kernel
theorem dX2_firstThatActs_153 : decode cX2_firstThatActs 153 = .ok (.getfield 123, 3) := by decide +kernel
theorem dX2_firstThatActs_156 : decode cX2_firstThatActs 156 = .ok (.iload 7, 2) := by decide +kernel
theorem dX2_firstThatActs_158 : decode cX2_firstThatActs 158 = .ok (.aaload, 1) := by decide +kernel
theorem dX2_firstThatActs_159 : decode cX2_firstThatActs 159 = .ok (.getfield 198, 3) := by decide +kernel
theorem dX2_firstThatActs_162 : decode cX2_firstThatActs 162 = .ok (.if_icmp .ge 7, 3) := by decide +kernel
theorem dX2_firstThatActs_165 : decode cX2_firstThatActs 165 = .ok (.iload 8, 2) := by decide +kernel
theorem dX2_firstThatActs_167 : decode cX2_firstThatActs 167 = .ok (.istore 7, 2) := by decide +kernel
theorem dX2_firstThatActs_169 : decode cX2_firstThatActs 169 = .ok (.iinc 8 1, 3) := by decide +kernel
theorem dX2_firstThatActs_172 : decode cX2_firstThatActs 172 = .ok (.goto (-115), 3) := by decide +kernel
theorem dX2_firstThatActs_175 : decode cX2_firstThatActs 175 = .ok (.iload 7, 2) := by decide +kernel
theorem dX2_firstThatActs_177 : decode cX2_firstThatActs 177 = .ok (.ireturn, 1) := by decide +kernel
theorem dX2_arrive_0 : decode cX2_arrive 0 = .ok (.aload_n 0, 1) := by decide +kernel
theorem dX2_arrive_1 : decode cX2_arrive 1 = .ok (.getfield 33, 3) := by decide +kernel
theorem dX2_arrive_4 : decode cX2_arrive 4 = .ok (.iload_n 1, 1) := by decide +kernel
theorem dX2_arrive_5 : decode cX2_arrive 5 = .ok (.aaload, 1) := by decide +kernel
theorem dX2_arrive_6 : decode cX2_arrive 6 = .ok (.astore_n 3, 1) := by decide +kernel
theorem dX2_arrive_7 : decode cX2_arrive 7 = .ok (.aload_n 0, 1) := by decide +kernel
theorem dX2_arrive_8 : decode cX2_arrive 8 = .ok (.iload_n 2, 1) := by decide +kernel
theorem dX2_arrive_9 : decode cX2_arrive 9 = .ok (.invokevirtual 61, 3) := by decide +kernel
theorem dX2_arrive_12 : decode cX2_arrive 12 = .ok (.ifCond .ne 34, 3) := by decide +kernel
theorem dX2_arrive_15 : decode cX2_arrive 15 = .ok (.aload_n 0, 1) := by decide +kernel
theorem dX2_arrive_16 : decode cX2_arrive 16 = .ok (.aload_n 3, 1) := by decide +kernel
theorem dX2_arrive_17 : decode cX2_arrive 17 = .ok (.iconst 3, 1) := by decide +kernel
theorem dX2_arrive_18 : decode cX2_arrive 18 = .ok (.invokevirtual 100, 3) := by decide +kernel
theorem dX2_arrive_21 : decode cX2_arrive 21 = .ok (.aload_n 0, 1) := by decide +kernel
theorem dX2_arrive_22 : decode cX2_arrive 22 = .ok (.getfield 27, 3) := by decide +kernel
theorem dX2_arrive_25 : decode cX2_arrive 25 = .ok (.aload_n 3, 1) := by decide +kernel
theorem dX2_arrive_26 : decode cX2_arrive 26 = .ok (.getfield 77, 3) := by decide +kernel
theorem dX2_arrive_29 : decode cX2_arrive 29 = .ok (.iconst 5, 1) := by decide +kernel
theorem dX2_arrive_30 : decode cX2_arrive 30 = .ok (.invokevirtual 167, 3) := by decide +kernel
theorem dX2_arrive_33 : decode cX2_arrive 33 = .ok (.ifCond .eq 12, 3) := by decide +kernel
theorem dX2_arrive_36 : decode cX2_arrive 36 = .ok (.aload_n 0, 1) := by decide +kernel
theorem dX2_arrive_37 : decode cX2_arrive 37 = .ok (.aload_n 3, 1) := by decide +kernel
theorem dX2_arrive_38 : decode cX2_arrive 38 = .ok (.getfield 77, 3) := by decide +kernel
theorem dX2_arrive_41 : decode cX2_arrive 41 = .ok (.iload_n 2, 1) := by decide +kernel
theorem dX2_arrive_42 : decode cX2_arrive 42 = .ok (.invokevirtual 201, 3) := by decide +kernel
theorem dX2_arrive_45 : decode cX2_arrive 45 = .ok (.return_, 1) := by decide +kernel
theorem dX2_arrive_46 : decode cX2_arrive 46 = .ok (.iconst 1, 1) := by decide +kernel
theorem dX2_arrive_47 : decode cX2_arrive 47 = .ok (.iload_n 2, 1) := by decide +kernel
theorem dX2_arrive_48 : decode cX2_arrive 48 = .ok (.ishl, 1) := by decide +kernel
theorem dX2_arrive_49 : decode cX2_arrive 49 = .ok (.istore 4, 2) := by decide +kernel
theorem dX2_arrive_51 : decode cX2_arrive 51 = .ok (.iconst 0, 1) := by decide +kernel
theorem dX2_arrive_52 : decode cX2_arrive 52 = .ok (.istore 5, 2) := by decide +kernel
theorem dX2_arrive_54 : decode cX2_arrive 54 = .ok (.iload 5, 2) := by decide +kernel
theorem dX2_arrive_56 : decode cX2_arrive 56 = .ok (.aload_n 0, 1) := by decide +kernel
theorem dX2_arrive_57 : decode cX2_arrive 57 = .ok (.getfield 27, 3) := by decide +kernel
theorem dX2_arrive_60 : decode cX2_arrive 60 = .ok (.getfield 184, 3) := by decide +kernel
theorem dX2_arrive_63 : decode cX2_arrive 63 = .ok (.if_icmp .ge 64, 3) := by decide +kernel
theorem dX2_arrive_66 : decode cX2_arrive 66 = .ok (.aload_n 0, 1) := by decide +kernel
theorem dX2_arrive_67 : decode cX2_arrive 67 = .ok (.getfield 27, 3) := by decide +kernel
theorem dX2_arrive_70 : decode cX2_arrive 70 = .ok (.getfield 123, 3) := by decide +kernel
theorem dX2_arrive_73 : decode cX2_arrive 73 = .ok (.iload 5, 2) := by decide +kernel
theorem dX2_arrive_75 : decode cX2_arrive 75 = .ok (.aaload, 1) := by decide +kernel
theorem dX2_arrive_76 : decode cX2_arrive 76 = .ok (.astore 6, 2) := by decide +kernel
theorem dX2_arrive_78 : decode cX2_arrive 78 = .ok (.aload 6, 2) := by decide +kernel
theorem dX2_arrive_80 : decode cX2_arrive 80 = .ok (.getfield 181, 3) := by decide +kernel
theorem dX2_arrive_83 : decode cX2_arrive 83 = .ok (.bipush 6, 2) := by decide +kernel
theorem dX2_arrive_85 : decode cX2_arrive 85 = .ok (.if_icmp .ne 36, 3) := by decide +kernel
theorem dX2_arrive_88 : decode cX2_arrive 88 = .ok (.aload 6, 2) := by decide +kernel
theorem dX2_arrive_90 : decode cX2_arrive 90 = .ok (.iload_n 2, 1) := by decide +kernel
theorem dX2_arrive_91 : decode cX2_arrive 91 = .ok (.invokevirtual 187, 3) := by decide +kernel
theorem dX2_arrive_94 : decode cX2_arrive 94 = .ok (.ifCond .eq 27, 3) := by decide +kernel
theorem dX2_arrive_97 : decode cX2_arrive 97 = .ok (.aload_n 0, 1) := by decide +kernel
theorem dX2_arrive_98 : decode cX2_arrive 98 = .ok (.aload 6, 2) := by decide +kernel
theorem dX2_arrive_100 : decode cX2_arrive 100 = .ok (.getfield 127, 3) := by decide +kernel
theorem dX2_arrive_103 : decode cX2_arrive 103 = .ok (.invokevirtual 61, 3) := by decide +kernel
theorem dX2_arrive_106 : decode cX2_arrive 106 = .ok (.ifCond .eq 15, 3) := by decide +kernel
theorem dX2_arrive_109 : decode cX2_arrive 109 = .ok (.iload 4, 2) := by decide +kernel
theorem dX2_arrive_111 : decode cX2_arrive 111 = .ok (.iconst 1, 1) := by decide +kernel
theorem dX2_arrive_112 : decode cX2_arrive 112 = .ok (.aload 6, 2) := by decide +kernel
theorem dX2_arrive_114 : decode cX2_arrive 114 = .ok (.getfield 127, 3) := by decide +kernel
theorem dX2_arrive_117 : decode cX2_arrive 117 = .ok (.ishl, 1) := by decide +kernel
theorem dX2_arrive_118 : decode cX2_arrive 118 = .ok (.ior, 1) := by decide +kernel
theorem dX2_arrive_119 : decode cX2_arrive 119 = .ok (.istore 4, 2) := by decide +kernel
theorem dX2_arrive_121 : decode cX2_arrive 121 = .ok (.iinc 5 1, 3) := by decide +kernel
theorem dX2_arrive_124 : decode cX2_arrive 124 = .ok (.goto (-70), 3) := by decide +kernel
theorem dX2_arrive_127 : decode cX2_arrive 127 = .ok (.aload_n 0, 1) := by decide +kernel
theorem dX2_arrive_128 : decode cX2_arrive 128 = .ok (.iload_n 1, 1) := by decide +kernel
theorem dX2_arrive_129 : decode cX2_arrive 129 = .ok (.iload 4, 2) := by decide +kernel
theorem dX2_arrive_131 : decode cX2_arrive 131 = .ok (.invokevirtual 204, 3) := by decide +kernel
theorem dX2_arrive_134 : decode cX2_arrive 134 = .ok (.return_, 1) := by decide +kernel
theorem dX2_ringAt_0 : decode cX2_ringAt 0 = .ok (.aload_n 0, 1) := by decide +kernel
theorem dX2_ringAt_1 : decode cX2_ringAt 1 = .ok (.getfield 33, 3) := by decide +kernel
theorem dX2_ringAt_4 : decode cX2_ringAt 4 = .ok (.iload_n 1, 1) := by decide +kernel
theorem dX2_ringAt_5 : decode cX2_ringAt 5 = .ok (.aaload, 1) := by decide +kernel
theorem dX2_ringAt_6 : decode cX2_ringAt 6 = .ok (.astore_n 3, 1) := by decide +kernel
theorem dX2_ringAt_7 : decode cX2_ringAt 7 = .ok (.aload_n 3, 1) := by decide +kernel
theorem dX2_ringAt_8 : decode cX2_ringAt 8 = .ok (.iconst 0, 1) := by decide +kernel
theorem dX2_ringAt_9 : decode cX2_ringAt 9 = .ok (.putfield 71, 3) := by decide +kernel
theorem dX2_ringAt_12 : decode cX2_ringAt 12 = .ok (.aload_n 3, 1) := by decide +kernel
theorem dX2_ringAt_13 : decode cX2_ringAt 13 = .ok (.iload_n 2, 1) := by decide +kernel
theorem dX2_ringAt_14 : decode cX2_ringAt 14 = .ok (.putfield 65, 3) := by decide +kernel
theorem dX2_ringAt_17 : decode cX2_ringAt 17 = .ok (.aload_n 3, 1) := by decide +kernel
theorem dX2_ringAt_18 : decode cX2_ringAt 18 = .ok (.iconst (-1), 1) := by decide +kernel
theorem dX2_ringAt_19 : decode cX2_ringAt 19 = .ok (.putfield 74, 3) := by decide +kernel
theorem dX2_ringAt_22 : decode cX2_ringAt 22 = .ok (.aload_n 3, 1) := by decide +kernel
theorem dX2_ringAt_23 : decode cX2_ringAt 23 = .ok (.iconst 0, 1) := by decide +kernel
theorem dX2_ringAt_24 : decode cX2_ringAt 24 = .ok (.putfield 107, 3) := by decide +kernel
theorem dX2_ringAt_27 : decode cX2_ringAt 27 = .ok (.iconst 0, 1) := by decide +kernel
theorem dX2_ringAt_28 : decode cX2_ringAt 28 = .ok (.istore 4, 2) := by decide +kernel
theorem dX2_ringAt_30 : decode cX2_ringAt 30 = .ok (.iload 4, 2) := by decide +kernel
theorem dX2_ringAt_32 : decode cX2_ringAt 32 = .ok (.bipush 8, 2) := by decide +kernel
theorem dX2_ringAt_34 : decode cX2_ringAt 34 = .ok (.if_icmp .ge 26, 3) := by decide +kernel
theorem dX2_ringAt_37 : decode cX2_ringAt 37 = .ok (.iload_n 2, 1) := by decide +kernel
theorem dX2_ringAt_38 : decode cX2_ringAt 38 = .ok (.iload 4, 2) := by decide +kernel
theorem dX2_ringAt_40 : decode cX2_ringAt 40 = .ok (.ishr, 1) := by decide +kernel
theorem dX2_ringAt_41 : decode cX2_ringAt 41 = .ok (.iconst 1, 1) := by decide +kernel
theorem dX2_ringAt_42 : decode cX2_ringAt 42 = .ok (.iand, 1) := by decide +kernel
theorem dX2_ringAt_43 : decode cX2_ringAt 43 = .ok (.ifCond .eq 11, 3) := by decide +kernel
theorem dX2_ringAt_46 : decode cX2_ringAt 46 = .ok (.aload_n 0, 1) := by decide +kernel
theorem dX2_ringAt_47 : decode cX2_ringAt 47 = .ok (.getfield 9, 3) := by decide +kernel
theorem dX2_ringAt_50 : decode cX2_ringAt 50 = .ok (.iload 4, 2) := by decide +kernel
theorem dX2_ringAt_52 : decode cX2_ringAt 52 = .ok (.iload_n 1, 1) := by decide +kernel
theorem dX2_ringAt_53 : decode cX2_ringAt 53 = .ok (.iastore, 1) := by decide +kernel
theorem dX2_ringAt_54 : decode cX2_ringAt 54 = .ok (.iinc 4 1, 3) := by decide +kernel
theorem dX2_ringAt_57 : decode cX2_ringAt 57 = .ok (.goto (-27), 3) := by decide +kernel
theorem dX2_ringAt_60 : decode cX2_ringAt 60 = .ok (.return_, 1) := by decide +kernel
theorem dX2_silence_0 : decode cX2_silence 0 = .ok (.iconst 0, 1) := by decide +kernel
theorem dX2_silence_1 : decode cX2_silence 1 = .ok (.istore_n 2, 1) := by decide +kernel
theorem dX2_silence_2 : decode cX2_silence 2 = .ok (.iload_n 2, 1) := by decide +kernel
theorem dX2_silence_3 : decode cX2_silence 3 = .ok (.bipush 8, 2) := by decide +kernel
theorem dX2_silence_5 : decode cX2_silence 5 = .ok (.if_icmp .ge 27, 3) := by decide +kernel
theorem dX2_silence_8 : decode cX2_silence 8 = .ok (.aload_n 1, 1) := by decide +kernel
theorem dX2_silence_9 : decode cX2_silence 9 = .ok (.getfield 65, 3) := by decide +kernel
theorem dX2_silence_12 : decode cX2_silence 12 = .ok (.iload_n 2, 1) := by decide +kernel
theorem dX2_silence_13 : decode cX2_silence 13 = .ok (.ishr, 1) := by decide +kernel
theorem dX2_silence_14 : decode cX2_silence 14 = .ok (.iconst 1, 1) := by decide +kernel
theorem dX2_silence_15 : decode cX2_silence 15 = .ok (.iand, 1) := by decide +kernel
theorem dX2_silence_16 : decode cX2_silence 16 = .ok (.ifCond .eq 10, 3) := by decide +kernel
theorem dX2_silence_19 : decode cX2_silence 19 = .ok (.aload_n 0, 1) := by decide +kernel
theorem dX2_silence_20 : decode cX2_silence 20 = .ok (.getfield 9, 3) := by decide +kernel
theorem dX2_silence_23 : decode cX2_silence 23 = .ok (.iload_n 2, 1) := by decide +kernel
theorem dX2_silence_24 : decode cX2_silence 24 = .ok (.iconst (-1), 1) := by decide +kernel
theorem dX2_silence_25 : decode cX2_silence 25 = .ok (.iastore, 1) := by decide +kernel
theorem dX2_silence_26 : decode cX2_silence 26 = .ok (.iinc 2 1, 3) := by decide +kernel
theorem dX2_silence_29 : decode cX2_silence 29 = .ok (.goto (-27), 3) := by decide +kernel
theorem dX2_silence_32 : decode cX2_silence 32 = .ok (.aload_n 1, 1) := by decide +kernel
theorem dX2_silence_33 : decode cX2_silence 33 = .ok (.iconst 0, 1) := by decide +kernel
theorem dX2_silence_34 : decode cX2_silence 34 = .ok (.putfield 65, 3) := by decide +kernel
theorem dX2_silence_37 : decode cX2_silence 37 = .ok (.return_, 1) := by decide +kernel
theorem dX2_close_0 : decode cX2_close 0 = .ok (.aload_n 0, 1) := by decide +kernel
theorem dX2_close_1 : decode cX2_close 1 = .ok (.getfield 9, 3) := by decide +kernel
theorem dX2_close_4 : decode cX2_close 4 = .ok (.aload_n 1, 1) := by decide +kernel
theorem dX2_close_5 : decode cX2_close 5 = .ok (.getfield 77, 3) := by decide +kernel
theorem dX2_close_8 : decode cX2_close 8 = .ok (.iconst (-1), 1) := by decide +kernel
theorem dX2_close_9 : decode cX2_close 9 = .ok (.iastore, 1) := by decide +kernel
theorem dX2_close_10 : decode cX2_close 10 = .ok (.aload_n 1, 1) := by decide +kernel
theorem dX2_close_11 : decode cX2_close 11 = .ok (.getfield 71, 3) := by decide +kernel
theorem dX2_close_14 : decode cX2_close 14 = .ok (.iconst 1, 1) := by decide +kernel
theorem dX2_close_15 : decode cX2_close 15 = .ok (.if_icmp .ne 13, 3) := by decide +kernel
theorem dX2_close_18 : decode cX2_close 18 = .ok (.aload_n 0, 1) := by decide +kernel
theorem dX2_close_19 : decode cX2_close 19 = .ok (.getfield 9, 3) := by decide +kernel
theorem dX2_close_22 : decode cX2_close 22 = .ok (.aload_n 1, 1) := by decide +kernel
theorem dX2_close_23 : decode cX2_close 23 = .ok (.getfield 74, 3) := by decide +kernel
theorem dX2_close_26 : decode cX2_close 26 = .ok (.iconst (-1), 1) := by decide +kernel
theorem dX2_close_27 : decode cX2_close 27 = .ok (.iastore, 1) := by decide +kernel
theorem dX2_close_28 : decode cX2_close 28 = .ok (.aload_n 1, 1) := by decide +kernel
theorem dX2_close_29 : decode cX2_close 29 = .ok (.getfield 71, 3) := by decide +kernel
theorem dX2_close_32 : decode cX2_close 32 = .ok (.iconst 2, 1) := by decide +kernel
theorem dX2_close_33 : decode cX2_close 33 = .ok (.if_icmp .ne 13, 3) := by decide +kernel
theorem dX2_close_36 : decode cX2_close 36 = .ok (.aload_n 0, 1) := by decide +kernel
theorem dX2_close_37 : decode cX2_close 37 = .ok (.getfield 15, 3) := by decide +kernel
theorem dX2_close_40 : decode cX2_close 40 = .ok (.aload_n 1, 1) := by decide +kernel
theorem dX2_close_41 : decode cX2_close 41 = .ok (.getfield 74, 3) := by decide +kernel
theorem dX2_close_44 : decode cX2_close 44 = .ok (.iconst (-1), 1) := by decide +kernel
theorem dX2_close_45 : decode cX2_close 45 = .ok (.iastore, 1) := by decide +kernel
theorem dX2_close_46 : decode cX2_close 46 = .ok (.aload_n 1, 1) := by decide +kernel
theorem dX2_close_47 : decode cX2_close 47 = .ok (.iconst (-1), 1) := by decide +kernel
theorem dX2_close_48 : decode cX2_close 48 = .ok (.putfield 74, 3) := by decide +kernel
theorem dX2_close_51 : decode cX2_close 51 = .ok (.aload_n 1, 1) := by decide +kernel
theorem dX2_close_52 : decode cX2_close 52 = .ok (.iconst 3, 1) := by decide +kernel
theorem dX2_close_53 : decode cX2_close 53 = .ok (.putfield 71, 3) := by decide +kernel
theorem dX2_close_56 : decode cX2_close 56 = .ok (.aload_n 1, 1) := by decide +kernel
theorem dX2_close_57 : decode cX2_close 57 = .ok (.iload_n 2, 1) := by decide +kernel
theorem dX2_close_58 : decode cX2_close 58 = .ok (.putfield 207, 3) := by decide +kernel
theorem dX2_close_61 : decode cX2_close 61 = .ok (.return_, 1) := by decide +kernel
theorem dX2_settle_0 : decode cX2_settle 0 = .ok (.iconst 0, 1) := by decide +kernel
theorem dX2_settle_1 : decode cX2_settle 1 = .ok (.istore_n 1, 1) := by decide +kernel
theorem dX2_settle_2 : decode cX2_settle 2 = .ok (.iload_n 1, 1) := by decide +kernel
theorem dX2_settle_3 : decode cX2_settle 3 = .ok (.aload_n 0, 1) := by decide +kernel
theorem dX2_settle_4 : decode cX2_settle 4 = .ok (.getfield 38, 3) := by decide +kernel
theorem dX2_settle_7 : decode cX2_settle 7 = .ok (.if_icmp .ge 49, 3) := by decide +kernel
theorem dX2_settle_10 : decode cX2_settle 10 = .ok (.aload_n 0, 1) := by decide +kernel
theorem dX2_settle_11 : decode cX2_settle 11 = .ok (.iload_n 1, 1) := by decide +kernel
theorem dX2_settle_12 : decode cX2_settle 12 = .ok (.invokevirtual 61, 3) := by decide +kernel
theorem dX2_settle_15 : decode cX2_settle 15 = .ok (.ifCond .eq 35, 3) := by decide +kernel
theorem dX2_settle_18 : decode cX2_settle 18 = .ok (.aload_n 0, 1) := by decide +kernel
theorem dX2_settle_19 : decode cX2_settle 19 = .ok (.getfield 15, 3) := by decide +kernel
theorem dX2_settle_22 : decode cX2_settle 22 = .ok (.iload_n 1, 1) := by decide +kernel
theorem dX2_settle_23 : decode cX2_settle 23 = .ok (.iaload, 1) := by decide +kernel
theorem dX2_settle_24 : decode cX2_settle 24 = .ok (.iconst (-1), 1) := by decide +kernel
theorem dX2_settle_25 : decode cX2_settle 25 = .ok (.if_icmp .eq 25, 3) := by decide +kernel
theorem dX2_settle_28 : decode cX2_settle 28 = .ok (.aload_n 0, 1) := by decide +kernel
theorem dX2_settle_29 : decode cX2_settle 29 = .ok (.getfield 15, 3) := by decide +kernel
theorem dX2_settle_32 : decode cX2_settle 32 = .ok (.iload_n 1, 1) := by decide +kernel
theorem dX2_settle_33 : decode cX2_settle 33 = .ok (.iaload, 1) := by decide +kernel
theorem dX2_settle_34 : decode cX2_settle 34 = .ok (.istore_n 2, 1) := by decide +kernel
theorem dX2_settle_35 : decode cX2_settle 35 = .ok (.aload_n 0, 1) := by decide +kernel
theorem dX2_settle_36 : decode cX2_settle 36 = .ok (.getfield 15, 3) := by decide +kernel
theorem dX2_settle_39 : decode cX2_settle 39 = .ok (.iload_n 1, 1) := by decide +kernel
theorem dX2_settle_40 : decode cX2_settle 40 = .ok (.iconst (-1), 1) := by decide +kernel
theorem dX2_settle_41 : decode cX2_settle 41 = .ok (.iastore, 1) := by decide +kernel
theorem dX2_settle_42 : decode cX2_settle 42 = .ok (.aload_n 0, 1) := by decide +kernel
theorem dX2_settle_43 : decode cX2_settle 43 = .ok (.iload_n 2, 1) := by decide +kernel
theorem dX2_settle_44 : decode cX2_settle 44 = .ok (.iconst 1, 1) := by decide +kernel
theorem dX2_settle_45 : decode cX2_settle 45 = .ok (.iload_n 1, 1) := by decide +kernel
theorem dX2_settle_46 : decode cX2_settle 46 = .ok (.ishl, 1) := by decide +kernel
theorem dX2_settle_47 : decode cX2_settle 47 = .ok (.invokevirtual 204, 3) := by decide +kernel
theorem dX2_settle_50 : decode cX2_settle 50 = .ok (.iinc 1 1, 3) := by decide +kernel
theorem dX2_settle_53 : decode cX2_settle 53 = .ok (.goto (-51), 3) := by decide +kernel
theorem dX2_settle_56 : decode cX2_settle 56 = .ok (.return_, 1) := by decide +kernel
theorem dX2_charge_0 : decode cX2_charge 0 = .ok (.iconst 0, 1) := by decide +kernel
theorem dX2_charge_1 : decode cX2_charge 1 = .ok (.istore_n 1, 1) := by decide +kernel
theorem dX2_charge_2 : decode cX2_charge 2 = .ok (.iload_n 1, 1) := by decide +kernel
theorem dX2_charge_3 : decode cX2_charge 3 = .ok (.aload_n 0, 1) := by decide +kernel
theorem dX2_charge_4 : decode cX2_charge 4 = .ok (.getfield 42, 3) := by decide +kernel
theorem dX2_charge_7 : decode cX2_charge 7 = .ok (.if_icmp .ge 54, 3) := by decide +kernel
theorem dX2_charge_10 : decode cX2_charge 10 = .ok (.aload_n 0, 1) := by decide +kernel
theorem dX2_charge_11 : decode cX2_charge 11 = .ok (.getfield 33, 3) := by decide +kernel
theorem dX2_charge_14 : decode cX2_charge 14 = .ok (.iload_n 1, 1) := by decide +kernel
theorem dX2_charge_15 : decode cX2_charge 15 = .ok (.aaload, 1) := by decide +kernel
theorem dX2_charge_16 : decode cX2_charge 16 = .ok (.astore_n 2, 1) := by decide +kernel
theorem dX2_charge_17 : decode cX2_charge 17 = .ok (.aload_n 2, 1) := by decide +kernel
theorem dX2_charge_18 : decode cX2_charge 18 = .ok (.getfield 71, 3) := by decide +kernel
theorem dX2_charge_21 : decode cX2_charge 21 = .ok (.iconst 1, 1) := by decide +kernel
theorem dX2_charge_22 : decode cX2_charge 22 = .ok (.if_icmp .ne 33, 3) := by decide +kernel
theorem dX2_charge_25 : decode cX2_charge 25 = .ok (.iconst 0, 1) := by decide +kernel
theorem dX2_charge_26 : decode cX2_charge 26 = .ok (.istore_n 3, 1) := by decide +kernel
theorem dX2_charge_27 : decode cX2_charge 27 = .ok (.iload_n 3, 1) := by decide +kernel
theorem dX2_charge_28 : decode cX2_charge 28 = .ok (.aload_n 2, 1) := by decide +kernel
theorem dX2_charge_29 : decode cX2_charge 29 = .ok (.getfield 110, 3) := by decide +kernel
theorem dX2_charge_32 : decode cX2_charge 32 = .ok (.if_icmp .ge 23, 3) := by decide +kernel
theorem dX2_charge_35 : decode cX2_charge 35 = .ok (.aload_n 0, 1) := by decide +kernel
theorem dX2_charge_36 : decode cX2_charge 36 = .ok (.getfield 18, 3) := by decide +kernel
theorem dX2_charge_39 : decode cX2_charge 39 = .ok (.aload_n 2, 1) := by decide +kernel
theorem dX2_charge_40 : decode cX2_charge 40 = .ok (.iload_n 3, 1) := by decide +kernel
theorem dX2_charge_41 : decode cX2_charge 41 = .ok (.invokevirtual 210, 3) := by decide +kernel
theorem dX2_charge_44 : decode cX2_charge 44 = .ok (.dup2, 1) := by decide +kernel
theorem dX2_charge_45 : decode cX2_charge 45 = .ok (.iaload, 1) := by decide +kernel
theorem dX2_charge_46 : decode cX2_charge 46 = .ok (.iconst 1, 1) := by decide +kernel
theorem dX2_charge_47 : decode cX2_charge 47 = .ok (.iadd, 1) := by decide +kernel
theorem dX2_charge_48 : decode cX2_charge 48 = .ok (.iastore, 1) := by decide +kernel
theorem dX2_charge_49 : decode cX2_charge 49 = .ok (.iinc 3 1, 3) := by decide +kernel
theorem dX2_charge_52 : decode cX2_charge 52 = .ok (.goto (-25), 3) := by decide +kernel
theorem dX2_charge_55 : decode cX2_charge 55 = .ok (.iinc 1 1, 3) := by decide +kernel
theorem dX2_charge_58 : decode cX2_charge 58 = .ok (.goto (-56), 3) := by decide +kernel
theorem dX2_charge_61 : decode cX2_charge 61 = .ok (.return_, 1) := by decide +kernel
theorem dX2_addBack_0 : decode cX2_addBack 0 = .ok (.iconst 0, 1) := by decide +kernel
theorem dX2_addBack_1 : decode cX2_addBack 1 = .ok (.istore_n 3, 1) := by decide +kernel
theorem dX2_addBack_2 : decode cX2_addBack 2 = .ok (.iload_n 3, 1) := by decide +kernel
theorem dX2_addBack_3 : decode cX2_addBack 3 = .ok (.aload_n 0, 1) := by decide +kernel
theorem dX2_addBack_4 : decode cX2_addBack 4 = .ok (.getfield 51, 3) := by decide +kernel
theorem dX2_addBack_7 : decode cX2_addBack 7 = .ok (.if_icmp .ge 30, 3) := by decide +kernel
theorem dX2_addBack_10 : decode cX2_addBack 10 = .ok (.aload_n 0, 1) := by decide +kernel
theorem dX2_addBack_11 : decode cX2_addBack 11 = .ok (.getfield 21, 3) := by decide +kernel
theorem dX2_addBack_14 : decode cX2_addBack 14 = .ok (.iload_n 3, 1) := by decide +kernel
theorem dX2_addBack_15 : decode cX2_addBack 15 = .ok (.iaload, 1) := by decide +kernel
theorem dX2_addBack_16 : decode cX2_addBack 16 = .ok (.iload_n 1, 1) := by decide +kernel
theorem dX2_addBack_17 : decode cX2_addBack 17 = .ok (.if_icmp .ne 14, 3) := by decide +kernel
theorem dX2_addBack_20 : decode cX2_addBack 20 = .ok (.aload_n 0, 1) := by decide +kernel
theorem dX2_addBack_21 : decode cX2_addBack 21 = .ok (.getfield 24, 3) := by decide +kernel
theorem dX2_addBack_24 : decode cX2_addBack 24 = .ok (.iload_n 3, 1) := by decide +kernel
theorem dX2_addBack_25 : decode cX2_addBack 25 = .ok (.iaload, 1) := by decide +kernel
theorem dX2_addBack_26 : decode cX2_addBack 26 = .ok (.iload_n 2, 1) := by decide +kernel
theorem dX2_addBack_27 : decode cX2_addBack 27 = .ok (.if_icmp .ne 4, 3) := by decide +kernel
theorem dX2_addBack_30 : decode cX2_addBack 30 = .ok (.return_, 1) := by decide +kernel
theorem dX2_addBack_31 : decode cX2_addBack 31 = .ok (.iinc 3 1, 3) := by decide +kernel
theorem dX2_addBack_34 : decode cX2_addBack 34 = .ok (.goto (-32), 3) := by decide +kernel
theorem dX2_addBack_37 : decode cX2_addBack 37 = .ok (.aload_n 0, 1) := by decide +kernel
theorem dX2_addBack_38 : decode cX2_addBack 38 = .ok (.getfield 51, 3) := by decide +kernel
theorem dX2_addBack_41 : decode cX2_addBack 41 = .ok (.bipush 8, 2) := by decide +kernel
theorem dX2_addBack_43 : decode cX2_addBack 43 = .ok (.if_icmp .ge 33, 3) := by decide +kernel
theorem dX2_addBack_46 : decode cX2_addBack 46 = .ok (.aload_n 0, 1) := by decide +kernel
theorem dX2_addBack_47 : decode cX2_addBack 47 = .ok (.getfield 21, 3) := by decide +kernel
theorem dX2_addBack_50 : decode cX2_addBack 50 = .ok (.aload_n 0, 1) := by decide +kernel
theorem dX2_addBack_51 : decode cX2_addBack 51 = .ok (.getfield 51, 3) := by decide +kernel
theorem dX2_addBack_54 : decode cX2_addBack 54 = .ok (.iload_n 1, 1) := by decide +kernel
theorem dX2_addBack_55 : decode cX2_addBack 55 = .ok (.iastore, 1) := by decide +kernel
theorem dX2_addBack_56 : decode cX2_addBack 56 = .ok (.aload_n 0, 1) := by decide +kernel
theorem dX2_addBack_57 : decode cX2_addBack 57 = .ok (.getfield 24, 3) := by decide +kernel
theorem dX2_addBack_60 : decode cX2_addBack 60 = .ok (.aload_n 0, 1) := by decide +kernel
theorem dX2_addBack_61 : decode cX2_addBack 61 = .ok (.getfield 51, 3) := by decide +kernel
theorem dX2_addBack_64 : decode cX2_addBack 64 = .ok (.iload_n 2, 1) := by decide +kernel
theorem dX2_addBack_65 : decode cX2_addBack 65 = .ok (.iastore, 1) := by decide +kernel
theorem dX2_addBack_66 : decode cX2_addBack 66 = .ok (.aload_n 0, 1) := by decide +kernel
theorem dX2_addBack_67 : decode cX2_addBack 67 = .ok (.dup, 1) := by decide +kernel
theorem dX2_addBack_68 : decode cX2_addBack 68 = .ok (.getfield 51, 3) := by decide +kernel
theorem dX2_addBack_71 : decode cX2_addBack 71 = .ok (.iconst 1, 1) := by decide +kernel
theorem dX2_addBack_72 : decode cX2_addBack 72 = .ok (.iadd, 1) := by decide +kernel
theorem dX2_addBack_73 : decode cX2_addBack 73 = .ok (.putfield 51, 3) := by decide +kernel
theorem dX2_addBack_76 : decode cX2_addBack 76 = .ok (.return_, 1) := by decide +kernel
theorem dX2_dropBack_0 : decode cX2_dropBack 0 = .ok (.iload_n 1, 1) := by decide +kernel
theorem dX2_dropBack_1 : decode cX2_dropBack 1 = .ok (.iconst 1, 1) := by decide +kernel
theorem dX2_dropBack_2 : decode cX2_dropBack 2 = .ok (.iadd, 1) := by decide +kernel
theorem dX2_dropBack_3 : decode cX2_dropBack 3 = .ok (.istore_n 2, 1) := by decide +kernel
theorem dX2_dropBack_4 : decode cX2_dropBack 4 = .ok (.iload_n 2, 1) := by decide +kernel
theorem dX2_dropBack_5 : decode cX2_dropBack 5 = .ok (.aload_n 0, 1) := by decide +kernel
theorem dX2_dropBack_6 : decode cX2_dropBack 6 = .ok (.getfield 51, 3) := by decide +kernel
theorem dX2_dropBack_9 : decode cX2_dropBack 9 = .ok (.if_icmp .ge 37, 3) := by decide +kernel
theorem dX2_dropBack_12 : decode cX2_dropBack 12 = .ok (.aload_n 0, 1) := by decide +kernel
theorem dX2_dropBack_13 : decode cX2_dropBack 13 = .ok (.getfield 21, 3) := by decide +kernel
theorem dX2_dropBack_16 : decode cX2_dropBack 16 = .ok (.iload_n 2, 1) := by decide +kernel
theorem dX2_dropBack_17 : decode cX2_dropBack 17 = .ok (.iconst 1, 1) := by decide +kernel
theorem dX2_dropBack_18 : decode cX2_dropBack 18 = .ok (.isub, 1) := by decide +kernel
theorem dX2_dropBack_19 : decode cX2_dropBack 19 = .ok (.aload_n 0, 1) := by decide +kernel
theorem dX2_dropBack_20 : decode cX2_dropBack 20 = .ok (.getfield 21, 3) := by decide +kernel
theorem dX2_dropBack_23 : decode cX2_dropBack 23 = .ok (.iload_n 2, 1) := by decide +kernel
theorem dX2_dropBack_24 : decode cX2_dropBack 24 = .ok (.iaload, 1) := by decide +kernel
theorem dX2_dropBack_25 : decode cX2_dropBack 25 = .ok (.iastore, 1) := by decide +kernel
theorem dX2_dropBack_26 : decode cX2_dropBack 26 = .ok (.aload_n 0, 1) := by decide +kernel
theorem dX2_dropBack_27 : decode cX2_dropBack 27 = .ok (.getfield 24, 3) := by decide +kernel
theorem dX2_dropBack_30 : decode cX2_dropBack 30 = .ok (.iload_n 2, 1) := by decide +kernel
theorem dX2_dropBack_31 : decode cX2_dropBack 31 = .ok (.iconst 1, 1) := by decide +kernel
theorem dX2_dropBack_32 : decode cX2_dropBack 32 = .ok (.isub, 1) := by decide +kernel
theorem dX2_dropBack_33 : decode cX2_dropBack 33 = .ok (.aload_n 0, 1) := by decide +kernel
theorem dX2_dropBack_34 : decode cX2_dropBack 34 = .ok (.getfield 24, 3) := by decide +kernel
theorem dX2_dropBack_37 : decode cX2_dropBack 37 = .ok (.iload_n 2, 1) := by decide +kernel
theorem dX2_dropBack_38 : decode cX2_dropBack 38 = .ok (.iaload, 1) := by decide +kernel
theorem dX2_dropBack_39 : decode cX2_dropBack 39 = .ok (.iastore, 1) := by decide +kernel
theorem dX2_dropBack_40 : decode cX2_dropBack 40 = .ok (.iinc 2 1, 3) := by decide +kernel
theorem dX2_dropBack_43 : decode cX2_dropBack 43 = .ok (.goto (-39), 3) := by decide +kernel
theorem dX2_dropBack_46 : decode cX2_dropBack 46 = .ok (.aload_n 0, 1) := by decide +kernel
theorem dX2_dropBack_47 : decode cX2_dropBack 47 = .ok (.dup, 1) := by decide +kernel
theorem dX2_dropBack_48 : decode cX2_dropBack 48 = .ok (.getfield 51, 3) := by decide +kernel
theorem dX2_dropBack_51 : decode cX2_dropBack 51 = .ok (.iconst 1, 1) := by decide +kernel
theorem dX2_dropBack_52 : decode cX2_dropBack 52 = .ok (.isub, 1) := by decide +kernel
theorem dX2_dropBack_53 : decode cX2_dropBack 53 = .ok (.putfield 51, 3) := by decide +kernel
theorem dX2_dropBack_56 : decode cX2_dropBack 56 = .ok (.return_, 1) := by decide +kernel
theorem dX3_init_0 : decode cX3_init 0 = .ok (.aload_n 0, 1) := by decide +kernel
theorem dX3_init_1 : decode cX3_init 1 = .ok (.invokespecial 3, 3) := by decide +kernel
theorem dX3_init_4 : decode cX3_init 4 = .ok (.aload_n 0, 1) := by decide +kernel
theorem dX3_init_5 : decode cX3_init 5 = .ok (.new 9, 3) := by decide +kernel
theorem dX3_init_8 : decode cX3_init 8 = .ok (.dup, 1) := by decide +kernel
theorem dX3_init_9 : decode cX3_init 9 = .ok (.invokespecial 11, 3) := by decide +kernel
theorem dX3_init_12 : decode cX3_init 12 = .ok (.putfield 12, 3) := by decide +kernel
theorem dX3_init_15 : decode cX3_init 15 = .ok (.aload_n 0, 1) := by decide +kernel
theorem dX3_init_16 : decode cX3_init 16 = .ok (.iconst 4, 1) := by decide +kernel
theorem dX3_init_17 : decode cX3_init 17 = .ok (.anewarray 18, 3) := by decide +kernel
theorem dX3_init_20 : decode cX3_init 20 = .ok (.putfield 20, 3) := by decide +kernel
theorem dX3_init_23 : decode cX3_init 23 = .ok (.aload_n 0, 1) := by decide +kernel
theorem dX3_init_24 : decode cX3_init 24 = .ok (.bipush 13, 2) := by decide +kernel
theorem dX3_init_26 : decode cX3_init 26 = .ok (.newarray .int, 2) := by decide +kernel
theorem dX3_init_28 : decode cX3_init 28 = .ok (.putfield 24, 3) := by decide +kernel
theorem dX3_init_31 : decode cX3_init 31 = .ok (.aload_n 0, 1) := by decide +kernel
theorem dX3_init_32 : decode cX3_init 32 = .ok (.iconst 3, 1) := by decide +kernel
theorem dX3_init_33 : decode cX3_init 33 = .ok (.newarray .int, 2) := by decide +kernel
theorem dX3_init_35 : decode cX3_init 35 = .ok (.putfield 28, 3) := by decide +kernel
theorem dX3_init_38 : decode cX3_init 38 = .ok (.iconst 0, 1) := by decide +kernel
theorem dX3_init_39 : decode cX3_init 39 = .ok (.istore_n 1, 1) := by decide +kernel
theorem dX3_init_40 : decode cX3_init 40 = .ok (.iload_n 1, 1) := by decide +kernel
theorem dX3_init_41 : decode cX3_init 41 = .ok (.iconst 3, 1) := by decide +kernel
theorem dX3_init_42 : decode cX3_init 42 = .ok (.if_icmp .gt 28, 3) := by decide +kernel
theorem dX3_init_45 : decode cX3_init 45 = .ok (.aload_n 0, 1) := by decide +kernel
theorem dX3_init_46 : decode cX3_init 46 = .ok (.getfield 20, 3) := by decide +kernel
theorem dX3_init_49 : decode cX3_init 49 = .ok (.iload_n 1, 1) := by decide +kernel
theorem dX3_init_50 : decode cX3_init 50 = .ok (.new 18, 3) := by decide +kernel
theorem dX3_init_53 : decode cX3_init 53 = .ok (.dup, 1) := by decide +kernel
theorem dX3_init_54 : decode cX3_init 54 = .ok (.aload_n 0, 1) := by decide +kernel
theorem dX3_init_55 : decode cX3_init 55 = .ok (.getfield 12, 3) := by decide +kernel
theorem dX3_init_58 : decode cX3_init 58 = .ok (.bipush 8, 2) := by decide +kernel
theorem dX3_init_60 : decode cX3_init 60 = .ok (.invokespecial 31, 3) := by decide +kernel
theorem dX3_init_63 : decode cX3_init 63 = .ok (.aastore, 1) := by decide +kernel
theorem dX3_init_64 : decode cX3_init 64 = .ok (.iinc 1 1, 3) := by decide +kernel
theorem dX3_init_67 : decode cX3_init 67 = .ok (.goto (-27), 3) := by decide +kernel
theorem dX3_init_70 : decode cX3_init 70 = .ok (.return_, 1) := by decide +kernel
theorem dX3_open_0 : decode cX3_open 0 = .ok (.aload_n 0, 1) := by decide +kernel
theorem dX3_open_1 : decode cX3_open 1 = .ok (.getfield 12, 3) := by decide +kernel
theorem dX3_open_4 : decode cX3_open 4 = .ok (.aload_n 1, 1) := by decide +kernel
theorem dX3_open_5 : decode cX3_open 5 = .ok (.getfield 34, 3) := by decide +kernel
theorem dX3_open_8 : decode cX3_open 8 = .ok (.invokevirtual 35, 3) := by decide +kernel
theorem dX3_open_11 : decode cX3_open 11 = .ok (.aload_n 0, 1) := by decide +kernel
theorem dX3_open_12 : decode cX3_open 12 = .ok (.getfield 20, 3) := by decide +kernel
theorem dX3_open_15 : decode cX3_open 15 = .ok (.iconst 0, 1) := by decide +kernel
theorem dX3_open_16 : decode cX3_open 16 = .ok (.aaload, 1) := by decide +kernel
theorem dX3_open_17 : decode cX3_open 17 = .ok (.aload_n 1, 1) := by decide +kernel
theorem dX3_open_18 : decode cX3_open 18 = .ok (.getfield 39, 3) := by decide +kernel
theorem dX3_open_21 : decode cX3_open 21 = .ok (.putfield 39, 3) := by decide +kernel
theorem dX3_open_24 : decode cX3_open 24 = .ok (.aload_n 0, 1) := by decide +kernel
theorem dX3_open_25 : decode cX3_open 25 = .ok (.iload_n 2, 1) := by decide +kernel
theorem dX3_open_26 : decode cX3_open 26 = .ok (.putfield 43, 3) := by decide +kernel
theorem dX3_open_29 : decode cX3_open 29 = .ok (.aload_n 0, 1) := by decide +kernel
theorem dX3_open_30 : decode cX3_open 30 = .ok (.iload_n 3, 1) := by decide +kernel
theorem dX3_open_31 : decode cX3_open 31 = .ok (.putfield 46, 3) := by decide +kernel
theorem dX3_open_34 : decode cX3_open 34 = .ok (.aload_n 0, 1) := by decide +kernel
theorem dX3_open_35 : decode cX3_open 35 = .ok (.iload 4, 2) := by decide +kernel
theorem dX3_open_37 : decode cX3_open 37 = .ok (.putfield 49, 3) := by decide +kernel
theorem dX3_open_40 : decode cX3_open 40 = .ok (.aload_n 0, 1) := by decide +kernel
theorem dX3_open_41 : decode cX3_open 41 = .ok (.iconst 0, 1) := by decide +kernel
theorem dX3_open_42 : decode cX3_open 42 = .ok (.putfield 52, 3) := by decide +kernel
theorem dX3_open_45 : decode cX3_open 45 = .ok (.iconst 0, 1) := by decide +kernel
theorem dX3_open_46 : decode cX3_open 46 = .ok (.istore 6, 2) := by decide +kernel
theorem dX3_open_48 : decode cX3_open 48 = .ok (.iload 6, 2) := by decide +kernel
theorem dX3_open_50 : decode cX3_open 50 = .ok (.bipush 8, 2) := by decide +kernel
theorem dX3_open_52 : decode cX3_open 52 = .ok (.if_icmp .ge 68, 3) := by decide +kernel
theorem dX3_open_55 : decode cX3_open 55 = .ok (.iconst 0, 1) := by decide +kernel
theorem dX3_open_56 : decode cX3_open 56 = .ok (.istore 7, 2) := by decide +kernel
theorem dX3_open_58 : decode cX3_open 58 = .ok (.iload 7, 2) := by decide +kernel
theorem dX3_open_60 : decode cX3_open 60 = .ok (.bipush 8, 2) := by decide +kernel
theorem dX3_open_62 : decode cX3_open 62 = .ok (.if_icmp .ge 52, 3) := by decide +kernel
theorem dX3_open_65 : decode cX3_open 65 = .ok (.iload 6, 2) := by decide +kernel
theorem dX3_open_67 : decode cX3_open 67 = .ok (.iload 7, 2) := by decide +kernel
theorem dX3_open_69 : decode cX3_open 69 = .ok (.if_icmp .eq 39, 3) := by decide +kernel
theorem dX3_open_72 : decode cX3_open 72 = .ok (.iload 5, 2) := by decide +kernel
theorem dX3_open_74 : decode cX3_open 74 = .ok (.iload 6, 2) := by decide +kernel
theorem dX3_open_76 : decode cX3_open 76 = .ok (.ishr, 1) := by decide +kernel
theorem dX3_open_77 : decode cX3_open 77 = .ok (.iconst 1, 1) := by decide +kernel
theorem dX3_open_78 : decode cX3_open 78 = .ok (.iand, 1) := by decide +kernel
theorem dX3_open_79 : decode cX3_open 79 = .ok (.ifCond .eq 29, 3) := by decide +kernel
theorem dX3_open_82 : decode cX3_open 82 = .ok (.iload 5, 2) := by decide +kernel
theorem dX3_open_84 : decode cX3_open 84 = .ok (.iload 7, 2) := by decide +kernel
theorem dX3_open_86 : decode cX3_open 86 = .ok (.ishr, 1) := by decide +kernel
theorem dX3_open_87 : decode cX3_open 87 = .ok (.iconst 1, 1) := by decide +kernel
theorem dX3_open_88 : decode cX3_open 88 = .ok (.iand, 1) := by decide +kernel
theorem dX3_open_89 : decode cX3_open 89 = .ok (.ifCond .eq 19, 3) := by decide +kernel
theorem dX3_open_92 : decode cX3_open 92 = .ok (.aload_n 0, 1) := by decide +kernel
theorem dX3_open_93 : decode cX3_open 93 = .ok (.sipush 1000, 3) := by decide +kernel
theorem dX3_open_96 : decode cX3_open 96 = .ok (.bipush 10, 2) := by decide +kernel
theorem dX3_open_98 : decode cX3_open 98 = .ok (.iload 6, 2) := by decide +kernel
theorem dX3_open_100 : decode cX3_open 100 = .ok (.imul, 1) := by decide +kernel
theorem dX3_open_101 : decode cX3_open 101 = .ok (.iadd, 1) := by decide +kernel
theorem dX3_open_102 : decode cX3_open 102 = .ok (.iload 7, 2) := by decide +kernel
theorem dX3_open_104 : decode cX3_open 104 = .ok (.iadd, 1) := by decide +kernel
theorem dX3_open_105 : decode cX3_open 105 = .ok (.invokevirtual 55, 3) := by decide +kernel
theorem dX3_open_108 : decode cX3_open 108 = .ok (.iinc 7 1, 3) := by decide +kernel
theorem dX3_open_111 : decode cX3_open 111 = .ok (.goto (-53), 3) := by decide +kernel
theorem dX3_open_114 : decode cX3_open 114 = .ok (.iinc 6 1, 3) := by decide +kernel
theorem dX3_open_117 : decode cX3_open 117 = .ok (.goto (-69), 3) := by decide +kernel
theorem dX3_open_120 : decode cX3_open 120 = .ok (.aload_n 0, 1) := by decide +kernel
theorem dX3_open_121 : decode cX3_open 121 = .ok (.sipush 2000, 3) := by decide +kernel
theorem dX3_open_124 : decode cX3_open 124 = .ok (.iload 5, 2) := by decide +kernel
theorem dX3_open_126 : decode cX3_open 126 = .ok (.invokevirtual 59, 3) := by decide +kernel
theorem dX3_open_129 : decode cX3_open 129 = .ok (.aload_n 0, 1) := by decide +kernel
theorem dX3_open_130 : decode cX3_open 130 = .ok (.sipush 3000, 3) := by decide +kernel
theorem dX3_open_133 : decode cX3_open 133 = .ok (.iload 5, 2) := by decide +kernel
theorem dX3_open_135 : decode cX3_open 135 = .ok (.invokevirtual 59, 3) := by decide +kernel
theorem dX3_open_138 : decode cX3_open 138 = .ok (.aload_n 0, 1) := by decide +kernel
theorem dX3_open_139 : decode cX3_open 139 = .ok (.sipush 4000, 3) := by decide +kernel
theorem dX3_open_142 : decode cX3_open 142 = .ok (.invokevirtual 55, 3) := by decide +kernel
theorem dX3_open_145 : decode cX3_open 145 = .ok (.return_, 1) := by decide +kernel
theorem dX3_listOfEach_0 : decode cX3_listOfEach 0 = .ok (.iconst 0, 1) := by decide +kernel
theorem dX3_listOfEach_1 : decode cX3_listOfEach 1 = .ok (.istore_n 3, 1) := by decide +kernel
theorem dX3_listOfEach_2 : decode cX3_listOfEach 2 = .ok (.iload_n 3, 1) := by decide +kernel
theorem dX3_listOfEach_3 : decode cX3_listOfEach 3 = .ok (.bipush 8, 2) := by decide +kernel
theorem dX3_listOfEach_5 : decode cX3_listOfEach 5 = .ok (.if_icmp .ge 27, 3) := by decide +kernel
theorem dX3_listOfEach_8 : decode cX3_listOfEach 8 = .ok (.iload_n 2, 1) := by decide +kernel
theorem dX3_listOfEach_9 : decode cX3_listOfEach 9 = .ok (.iload_n 3, 1) := by decide +kernel
theorem dX3_listOfEach_10 : decode cX3_listOfEach 10 = .ok (.ishr, 1) := by decide +kernel
theorem dX3_listOfEach_11 : decode cX3_listOfEach 11 = .ok (.iconst 1, 1) := by decide +kernel
theorem dX3_listOfEach_12 : decode cX3_listOfEach 12 = .ok (.iand, 1) := by decide +kernel
theorem dX3_listOfEach_13 : decode cX3_listOfEach 13 = .ok (.ifCond .eq 13, 3) := by decide +kernel
theorem dX3_listOfEach_16 : decode cX3_listOfEach 16 = .ok (.aload_n 0, 1) := by decide +kernel
theorem dX3_listOfEach_17 : decode cX3_listOfEach 17 = .ok (.iload_n 1, 1) := by decide +kernel
theorem dX3_listOfEach_18 : decode cX3_listOfEach 18 = .ok (.bipush 10, 2) := by decide +kernel
theorem dX3_listOfEach_20 : decode cX3_listOfEach 20 = .ok (.iload_n 3, 1) := by decide +kernel
theorem dX3_listOfEach_21 : decode cX3_listOfEach 21 = .ok (.imul, 1) := by decide +kernel
theorem dX3_listOfEach_22 : decode cX3_listOfEach 22 = .ok (.iadd, 1) := by decide +kernel
theorem dX3_listOfEach_23 : decode cX3_listOfEach 23 = .ok (.invokevirtual 55, 3) := by decide +kernel
theorem dX3_listOfEach_26 : decode cX3_listOfEach 26 = .ok (.iinc 3 1, 3) := by decide +kernel
theorem dX3_listOfEach_29 : decode cX3_listOfEach 29 = .ok (.goto (-27), 3) := by decide +kernel
theorem dX3_listOfEach_32 : decode cX3_listOfEach 32 = .ok (.return_, 1) := by decide +kernel
theorem dX3_list_0 : decode cX3_list 0 = .ok (.aload_n 0, 1) := by decide +kernel
theorem dX3_list_1 : decode cX3_list 1 = .ok (.getfield 52, 3) := by decide +kernel
theorem dX3_list_4 : decode cX3_list 4 = .ok (.bipush 13, 2) := by decide +kernel
theorem dX3_list_6 : decode cX3_list 6 = .ok (.if_icmp .ge 23, 3) := by decide +kernel
theorem dX3_list_9 : decode cX3_list 9 = .ok (.aload_n 0, 1) := by decide +kernel
theorem dX3_list_10 : decode cX3_list 10 = .ok (.getfield 24, 3) := by decide +kernel
theorem dX3_list_13 : decode cX3_list 13 = .ok (.aload_n 0, 1) := by decide +kernel
theorem dX3_list_14 : decode cX3_list 14 = .ok (.getfield 52, 3) := by decide +kernel
theorem dX3_list_17 : decode cX3_list 17 = .ok (.iload_n 1, 1) := by decide +kernel
theorem dX3_list_18 : decode cX3_list 18 = .ok (.iastore, 1) := by decide +kernel
theorem dX3_list_19 : decode cX3_list 19 = .ok (.aload_n 0, 1) := by decide +kernel
theorem dX3_list_20 : decode cX3_list 20 = .ok (.dup, 1) := by decide +kernel
theorem dX3_list_21 : decode cX3_list 21 = .ok (.getfield 52, 3) := by decide +kernel
theorem dX3_list_24 : decode cX3_list 24 = .ok (.iconst 1, 1) := by decide +kernel
theorem dX3_list_25 : decode cX3_list 25 = .ok (.iadd, 1) := by decide +kernel
theorem dX3_list_26 : decode cX3_list 26 = .ok (.putfield 52, 3) := by decide +kernel
theorem dX3_list_29 : decode cX3_list 29 = .ok (.return_, 1) := by decide +kernel
theorem dX3_find_0 : decode cX3_find 0 = .ok (.iconst 1, 1) := by decide +kernel
theorem dX3_find_1 : decode cX3_find 1 = .ok (.istore_n 2, 1) := by decide +kernel
theorem dX3_find_2 : decode cX3_find 2 = .ok (.iload_n 2, 1) := by decide +kernel
theorem dX3_find_3 : decode cX3_find 3 = .ok (.iload_n 1, 1) := by decide +kernel
theorem dX3_find_4 : decode cX3_find 4 = .ok (.if_icmp .gt 20, 3) := by decide +kernel
theorem dX3_find_7 : decode cX3_find 7 = .ok (.aload_n 0, 1) := by decide +kernel
theorem dX3_find_8 : decode cX3_find 8 = .ok (.iconst 0, 1) := by decide +kernel
theorem dX3_find_9 : decode cX3_find 9 = .ok (.iload_n 2, 1) := by decide +kernel
theorem dX3_find_10 : decode cX3_find 10 = .ok (.invokevirtual 63, 3) := by decide +kernel
theorem dX3_find_13 : decode cX3_find 13 = .ok (.ifCond .eq 5, 3) := by decide +kernel
theorem dX3_find_16 : decode cX3_find 16 = .ok (.iload_n 2, 1) := by decide +kernel
theorem dX3_find_17 : decode cX3_find 17 = .ok (.ireturn, 1) := by decide +kernel
theorem dX3_find_18 : decode cX3_find 18 = .ok (.iinc 2 1, 3) := by decide +kernel
theorem dX3_find_21 : decode cX3_find 21 = .ok (.goto (-19), 3) := by decide +kernel
theorem dX3_find_24 : decode cX3_find 24 = .ok (.iconst 0, 1) := by decide +kernel
theorem dX3_find_25 : decode cX3_find 25 = .ok (.ireturn, 1) := by decide +kernel
theorem dX3_search_0 : decode cX3_search 0 = .ok (.iload_n 1, 1) := by decide +kernel
theorem dX3_search_1 : decode cX3_search 1 = .ok (.iload_n 2, 1) := by decide +kernel
theorem dX3_search_2 : decode cX3_search 2 = .ok (.if_icmp .ge 8, 3) := by decide +kernel
theorem dX3_search_5 : decode cX3_search 5 = .ok (.iload_n 1, 1) := by decide +kernel
theorem dX3_search_6 : decode cX3_search 6 = .ok (.iconst 3, 1) := by decide +kernel
theorem dX3_search_7 : decode cX3_search 7 = .ok (.if_icmp .lt 5, 3) := by decide +kernel
theorem dX3_search_10 : decode cX3_search 10 = .ok (.iconst 0, 1) := by decide +kernel
theorem dX3_search_11 : decode cX3_search 11 = .ok (.ireturn, 1) := by decide +kernel
theorem dX3_search_12 : decode cX3_search 12 = .ok (.aload_n 0, 1) := by decide +kernel
theorem dX3_search_13 : decode cX3_search 13 = .ok (.getfield 20, 3) := by decide +kernel
theorem dX3_search_16 : decode cX3_search 16 = .ok (.iload_n 1, 1) := by decide +kernel
theorem dX3_search_17 : decode cX3_search 17 = .ok (.aaload, 1) := by decide +kernel
theorem dX3_search_18 : decode cX3_search 18 = .ok (.astore_n 3, 1) := by decide +kernel
theorem dX3_search_19 : decode cX3_search 19 = .ok (.aload_n 0, 1) := by decide +kernel
theorem dX3_search_20 : decode cX3_search 20 = .ok (.getfield 20, 3) := by decide +kernel
theorem dX3_search_23 : decode cX3_search 23 = .ok (.iload_n 1, 1) := by decide +kernel
theorem dX3_search_24 : decode cX3_search 24 = .ok (.iconst 1, 1) := by decide +kernel
theorem dX3_search_25 : decode cX3_search 25 = .ok (.iadd, 1) := by decide +kernel
theorem dX3_search_26 : decode cX3_search 26 = .ok (.aaload, 1) := by decide +kernel
theorem dX3_search_27 : decode cX3_search 27 = .ok (.astore 4, 2) := by decide +kernel
theorem dX3_search_29 : decode cX3_search 29 = .ok (.iconst 0, 1) := by decide +kernel
theorem dX3_search_30 : decode cX3_search 30 = .ok (.istore 5, 2) := by decide +kernel
theorem dX3_search_32 : decode cX3_search 32 = .ok (.iload 5, 2) := by decide +kernel
theorem dX3_search_34 : decode cX3_search 34 = .ok (.aload_n 0, 1) := by decide +kernel
theorem dX3_search_35 : decode cX3_search 35 = .ok (.getfield 52, 3) := by decide +kernel
theorem dX3_search_38 : decode cX3_search 38 = .ok (.if_icmp .ge 92, 3) := by decide +kernel
theorem dX3_search_41 : decode cX3_search 41 = .ok (.aload_n 0, 1) := by decide +kernel
theorem dX3_search_42 : decode cX3_search 42 = .ok (.getfield 24, 3) := by decide +kernel
theorem dX3_search_45 : decode cX3_search 45 = .ok (.iload 5, 2) := by decide +kernel
theorem dX3_search_47 : decode cX3_search 47 = .ok (.iaload, 1) := by decide +kernel
theorem dX3_search_48 : decode cX3_search 48 = .ok (.istore 6, 2) := by decide +kernel
theorem dX3_search_50 : decode cX3_search 50 = .ok (.aload_n 3, 1) := by decide +kernel
theorem dX3_search_51 : decode cX3_search 51 = .ok (.iload 6, 2) := by decide +kernel
theorem dX3_search_53 : decode cX3_search 53 = .ok (.invokevirtual 67, 3) := by decide +kernel
theorem dX3_search_56 : decode cX3_search 56 = .ok (.ifCond .eq 68, 3) := by decide +kernel
theorem dX3_search_59 : decode cX3_search 59 = .ok (.aload_n 0, 1) := by decide +kernel
theorem dX3_search_60 : decode cX3_search 60 = .ok (.getfield 28, 3) := by decide +kernel
theorem dX3_search_63 : decode cX3_search 63 = .ok (.iload_n 1, 1) := by decide +kernel
theorem dX3_search_64 : decode cX3_search 64 = .ok (.iload 6, 2) := by decide +kernel
theorem dX3_search_66 : decode cX3_search 66 = .ok (.iastore, 1) := by decide +kernel
theorem dX3_search_67 : decode cX3_search 67 = .ok (.aload 4, 2) := by decide +kernel
theorem dX3_search_69 : decode cX3_search 69 = .ok (.aload_n 3, 1) := by decide +kernel
theorem dX3_search_70 : decode cX3_search 70 = .ok (.invokevirtual 71, 3) := by decide +kernel
theorem dX3_search_73 : decode cX3_search 73 = .ok (.aload 4, 2) := by decide +kernel
theorem dX3_search_75 : decode cX3_search 75 = .ok (.iload 6, 2) := by decide +kernel
theorem dX3_search_77 : decode cX3_search 77 = .ok (.invokevirtual 74, 3) := by decide +kernel
theorem dX3_search_80 : decode cX3_search 80 = .ok (.iload_n 1, 1) := by decide +kernel
theorem dX3_search_81 : decode cX3_search 81 = .ok (.iconst 1, 1) := by decide +kernel
theorem dX3_search_82 : decode cX3_search 82 = .ok (.iadd, 1) := by decide +kernel
theorem dX3_search_83 : decode cX3_search 83 = .ok (.iload_n 2, 1) := by decide +kernel
theorem dX3_search_84 : decode cX3_search 84 = .ok (.if_icmp .ne 23, 3) := by decide +kernel
theorem dX3_search_87 : decode cX3_search 87 = .ok (.aload 4, 2) := by decide +kernel
theorem dX3_search_89 : decode cX3_search 89 = .ok (.aload_n 0, 1) := by decide +kernel
theorem dX3_search_90 : decode cX3_search 90 = .ok (.getfield 43, 3) := by decide +kernel
theorem dX3_search_93 : decode cX3_search 93 = .ok (.aload_n 0, 1) := by decide +kernel
theorem dX3_search_94 : decode cX3_search 94 = .ok (.getfield 46, 3) := by decide +kernel
theorem dX3_search_97 : decode cX3_search 97 = .ok (.aload_n 0, 1) := by decide +kernel
theorem dX3_search_98 : decode cX3_search 98 = .ok (.getfield 49, 3) := by decide +kernel
theorem dX3_search_101 : decode cX3_search 101 = .ok (.invokevirtual 77, 3) := by decide +kernel
theorem dX3_search_104 : decode cX3_search 104 = .ok (.goto 11, 3) := by decide +kernel
theorem dX3_search_107 : decode cX3_search 107 = .ok (.aload_n 0, 1) := by decide +kernel
theorem dX3_search_108 : decode cX3_search 108 = .ok (.iload_n 1, 1) := by decide +kernel
theorem dX3_search_109 : decode cX3_search 109 = .ok (.iconst 1, 1) := by decide +kernel
theorem dX3_search_110 : decode cX3_search 110 = .ok (.iadd, 1) := by decide +kernel
theorem dX3_search_111 : decode cX3_search 111 = .ok (.iload_n 2, 1) := by decide +kernel
theorem dX3_search_112 : decode cX3_search 112 = .ok (.invokevirtual 63, 3) := by decide +kernel
theorem dX3_search_115 : decode cX3_search 115 = .ok (.istore 7, 2) := by decide +kernel
theorem dX3_search_117 : decode cX3_search 117 = .ok (.iload 7, 2) := by decide +kernel
theorem dX3_search_119 : decode cX3_search 119 = .ok (.ifCond .eq 5, 3) := by decide +kernel
theorem dX3_search_122 : decode cX3_search 122 = .ok (.iconst 1, 1) := by decide +kernel
theorem dX3_search_123 : decode cX3_search 123 = .ok (.ireturn, 1) := by decide +kernel
theorem dX3_search_124 : decode cX3_search 124 = .ok (.iinc 5 1, 3) := by decide +kernel
theorem dX3_search_127 : decode cX3_search 127 = .ok (.goto (-95), 3) := by decide +kernel
theorem dX3_search_130 : decode cX3_search 130 = .ok (.iconst 0, 1) := by decide +kernel
theorem dX3_search_131 : decode cX3_search 131 = .ok (.ireturn, 1) := by decide +kernel
theorem dX4_init_0 : decode cX4_init 0 = .ok (.aload_n 0, 1) := by decide +kernel
theorem dX4_init_1 : decode cX4_init 1 = .ok (.invokespecial 3, 3) := by decide +kernel
theorem dX4_init_4 : decode cX4_init 4 = .ok (.aload_n 0, 1) := by decide +kernel
theorem dX4_init_5 : decode cX4_init 5 = .ok (.iconst 4, 1) := by decide +kernel
theorem dX4_init_6 : decode cX4_init 6 = .ok (.newarray .int, 2) := by decide +kernel
theorem dX4_init_8 : decode cX4_init 8 = .ok (.putfield 9, 3) := by decide +kernel
theorem dX4_init_11 : decode cX4_init 11 = .ok (.aload_n 0, 1) := by decide +kernel
theorem dX4_init_12 : decode cX4_init 12 = .ok (.iconst 4, 1) := by decide +kernel
theorem dX4_init_13 : decode cX4_init 13 = .ok (.newarray .int, 2) := by decide +kernel
theorem dX4_init_15 : decode cX4_init 15 = .ok (.putfield 15, 3) := by decide +kernel
theorem dX4_init_18 : decode cX4_init 18 = .ok (.aload_n 0, 1) := by decide +kernel
theorem dX4_init_19 : decode cX4_init 19 = .ok (.sipush 160, 3) := by decide +kernel
theorem dX4_init_22 : decode cX4_init 22 = .ok (.newarray .int, 2) := by decide +kernel
theorem dX4_init_24 : decode cX4_init 24 = .ok (.putfield 18, 3) := by decide +kernel
theorem dX4_init_27 : decode cX4_init 27 = .ok (.iconst 0, 1) := by decide +kernel
theorem dX4_init_28 : decode cX4_init 28 = .ok (.istore_n 1, 1) := by decide +kernel
theorem dX4_init_29 : decode cX4_init 29 = .ok (.iload_n 1, 1) := by decide +kernel
theorem dX4_init_30 : decode cX4_init 30 = .ok (.iconst 4, 1) := by decide +kernel
theorem dX4_init_31 : decode cX4_init 31 = .ok (.if_icmp .ge 16, 3) := by decide +kernel
theorem dX4_init_34 : decode cX4_init 34 = .ok (.aload_n 0, 1) := by decide +kernel
theorem dX4_init_35 : decode cX4_init 35 = .ok (.getfield 9, 3) := by decide +kernel
theorem dX4_init_38 : decode cX4_init 38 = .ok (.iload_n 1, 1) := by decide +kernel
theorem dX4_init_39 : decode cX4_init 39 = .ok (.iconst (-1), 1) := by decide +kernel
theorem dX4_init_40 : decode cX4_init 40 = .ok (.iastore, 1) := by decide +kernel
theorem dX4_init_41 : decode cX4_init 41 = .ok (.iinc 1 1, 3) := by decide +kernel
theorem dX4_init_44 : decode cX4_init 44 = .ok (.goto (-15), 3) := by decide +kernel
theorem dX4_init_47 : decode cX4_init 47 = .ok (.return_, 1) := by decide +kernel
theorem dX4_isSheet_0 : decode cX4_isSheet 0 = .ok (.iload_n 0, 1) := by decide +kernel
theorem dX4_isSheet_1 : decode cX4_isSheet 1 = .ok (.ifCond .lt 12, 3) := by decide +kernel
theorem dX4_isSheet_4 : decode cX4_isSheet 4 = .ok (.iload_n 0, 1) := by decide +kernel
theorem dX4_isSheet_5 : decode cX4_isSheet 5 = .ok (.iconst 4, 1) := by decide +kernel
theorem dX4_isSheet_6 : decode cX4_isSheet 6 = .ok (.if_icmp .ge 7, 3) := by decide +kernel
theorem dX4_isSheet_9 : decode cX4_isSheet 9 = .ok (.iconst 1, 1) := by decide +kernel
theorem dX4_isSheet_10 : decode cX4_isSheet 10 = .ok (.goto 4, 3) := by decide +kernel
theorem dX4_isSheet_13 : decode cX4_isSheet 13 = .ok (.iconst 0, 1) := by decide +kernel
theorem dX4_isSheet_14 : decode cX4_isSheet 14 = .ok (.ireturn, 1) := by decide +kernel
theorem dX4_isSort_0 : decode cX4_isSort 0 = .ok (.iload_n 0, 1) := by decide +kernel
theorem dX4_isSort_1 : decode cX4_isSort 1 = .ok (.ifCond .lt 12, 3) := by decide +kernel
theorem dX4_isSort_4 : decode cX4_isSort 4 = .ok (.iload_n 0, 1) := by decide +kernel
theorem dX4_isSort_5 : decode cX4_isSort 5 = .ok (.iconst 2, 1) := by decide +kernel
theorem dX4_isSort_6 : decode cX4_isSort 6 = .ok (.if_icmp .gt 7, 3) := by decide +kernel
theorem dX4_isSort_9 : decode cX4_isSort 9 = .ok (.iconst 1, 1) := by decide +kernel
theorem dX4_isSort_10 : decode cX4_isSort 10 = .ok (.goto 4, 3) := by decide +kernel
theorem dX4_isSort_13 : decode cX4_isSort 13 = .ok (.iconst 0, 1) := by decide +kernel
theorem dX4_isSort_14 : decode cX4_isSort 14 = .ok (.ireturn, 1) := by decide +kernel
theorem dX4_isMissing_0 : decode cX4_isMissing 0 = .ok (.aload_n 0, 1) := by decide +kernel
theorem dX4_isMissing_1 : decode cX4_isMissing 1 = .ok (.getfield 9, 3) := by decide +kernel
theorem dX4_isMissing_4 : decode cX4_isMissing 4 = .ok (.iload_n 1, 1) := by decide +kernel
theorem dX4_isMissing_5 : decode cX4_isMissing 5 = .ok (.iaload, 1) := by decide +kernel
theorem dX4_isMissing_6 : decode cX4_isMissing 6 = .ok (.iconst (-1), 1) := by decide +kernel
theorem dX4_isMissing_7 : decode cX4_isMissing 7 = .ok (.if_icmp .ne 7, 3) := by decide +kernel
theorem dX4_isMissing_10 : decode cX4_isMissing 10 = .ok (.iconst 1, 1) := by decide +kernel
theorem dX4_isMissing_11 : decode cX4_isMissing 11 = .ok (.goto 4, 3) := by decide +kernel
theorem dX4_isMissing_14 : decode cX4_isMissing 14 = .ok (.iconst 0, 1) := by decide +kernel
theorem dX4_isMissing_15 : decode cX4_isMissing 15 = .ok (.ireturn, 1) := by decide +kernel
theorem dX4_lay_0 : decode cX4_lay 0 = .ok (.aload_n 0, 1) := by decide +kernel
theorem dX4_lay_1 : decode cX4_lay 1 = .ok (.getfield 9, 3) := by decide +kernel
theorem dX4_lay_4 : decode cX4_lay 4 = .ok (.iload_n 1, 1) := by decide +kernel
theorem dX4_lay_5 : decode cX4_lay 5 = .ok (.iload_n 2, 1) := by decide +kernel
theorem dX4_lay_6 : decode cX4_lay 6 = .ok (.iastore, 1) := by decide +kernel
theorem dX4_lay_7 : decode cX4_lay 7 = .ok (.aload_n 0, 1) := by decide +kernel
theorem dX4_lay_8 : decode cX4_lay 8 = .ok (.getfield 15, 3) := by decide +kernel
theorem dX4_lay_11 : decode cX4_lay 11 = .ok (.iload_n 1, 1) := by decide +kernel
theorem dX4_lay_12 : decode cX4_lay 12 = .ok (.iload_n 2, 1) := by decide +kernel
theorem dX4_lay_13 : decode cX4_lay 13 = .ok (.iconst (-1), 1) := by decide +kernel
theorem dX4_lay_14 : decode cX4_lay 14 = .ok (.if_icmp .ne 7, 3) := by decide +kernel
theorem dX4_lay_17 : decode cX4_lay 17 = .ok (.iconst 0, 1) := by decide +kernel
theorem dX4_lay_18 : decode cX4_lay 18 = .ok (.goto 4, 3) := by decide +kernel
theorem dX4_lay_21 : decode cX4_lay 21 = .ok (.iload_n 3, 1) := by decide +kernel
theorem dX4_lay_22 : decode cX4_lay 22 = .ok (.iastore, 1) := by decide +kernel
theorem dX4_lay_23 : decode cX4_lay 23 = .ok (.iconst 0, 1) := by decide +kernel
theorem dX4_lay_24 : decode cX4_lay 24 = .ok (.istore 4, 2) := by decide +kernel
theorem dX4_lay_26 : decode cX4_lay 26 = .ok (.iload 4, 2) := by decide +kernel
theorem dX4_lay_28 : decode cX4_lay 28 = .ok (.bipush 40, 2) := by decide +kernel
theorem dX4_lay_30 : decode cX4_lay 30 = .ok (.if_icmp .ge 22, 3) := by decide +kernel
theorem dX4_lay_33 : decode cX4_lay 33 = .ok (.aload_n 0, 1) := by decide +kernel
theorem dX4_lay_34 : decode cX4_lay 34 = .ok (.getfield 18, 3) := by decide +kernel
theorem dX4_lay_37 : decode cX4_lay 37 = .ok (.iload_n 1, 1) := by decide +kernel
theorem dX4_lay_38 : decode cX4_lay 38 = .ok (.bipush 40, 2) := by decide +kernel
theorem dX4_lay_40 : decode cX4_lay 40 = .ok (.imul, 1) := by decide +kernel
theorem dX4_lay_41 : decode cX4_lay 41 = .ok (.iload 4, 2) := by decide +kernel
theorem dX4_lay_43 : decode cX4_lay 43 = .ok (.iadd, 1) := by decide +kernel
theorem dX4_lay_44 : decode cX4_lay 44 = .ok (.iconst 0, 1) := by decide +kernel
theorem dX4_lay_45 : decode cX4_lay 45 = .ok (.iastore, 1) := by decide +kernel
theorem dX4_lay_46 : decode cX4_lay 46 = .ok (.iinc 4 1, 3) := by decide +kernel
theorem dX4_lay_49 : decode cX4_lay 49 = .ok (.goto (-23), 3) := by decide +kernel
theorem dX4_lay_52 : decode cX4_lay 52 = .ok (.return_, 1) := by decide +kernel
theorem dX4_hasPlaces_0 : decode cX4_hasPlaces 0 = .ok (.iload_n 2, 1) := by decide +kernel
theorem dX4_hasPlaces_1 : decode cX4_hasPlaces 1 = .ok (.ifCond .lt 23, 3) := by decide +kernel
theorem dX4_hasPlaces_4 : decode cX4_hasPlaces 4 = .ok (.iload_n 3, 1) := by decide +kernel
theorem dX4_hasPlaces_5 : decode cX4_hasPlaces 5 = .ok (.ifCond .lt 19, 3) := by decide +kernel
theorem dX4_hasPlaces_8 : decode cX4_hasPlaces 8 = .ok (.iload_n 2, 1) := by decide +kernel
theorem dX4_hasPlaces_9 : decode cX4_hasPlaces 9 = .ok (.aload_n 0, 1) := by decide +kernel
theorem dX4_hasPlaces_10 : decode cX4_hasPlaces 10 = .ok (.getfield 15, 3) := by decide +kernel
theorem dX4_hasPlaces_13 : decode cX4_hasPlaces 13 = .ok (.iload_n 1, 1) := by decide +kernel
theorem dX4_hasPlaces_14 : decode cX4_hasPlaces 14 = .ok (.iaload, 1) := by decide +kernel
theorem dX4_hasPlaces_15 : decode cX4_hasPlaces 15 = .ok (.iload_n 3, 1) := by decide +kernel
theorem dX4_hasPlaces_16 : decode cX4_hasPlaces 16 = .ok (.isub, 1) := by decide +kernel
theorem dX4_hasPlaces_17 : decode cX4_hasPlaces 17 = .ok (.if_icmp .gt 7, 3) := by decide +kernel
theorem dX4_hasPlaces_20 : decode cX4_hasPlaces 20 = .ok (.iconst 1, 1) := by decide +kernel
theorem dX4_hasPlaces_21 : decode cX4_hasPlaces 21 = .ok (.goto 4, 3) := by decide +kernel
theorem dX4_hasPlaces_24 : decode cX4_hasPlaces 24 = .ok (.iconst 0, 1) := by decide +kernel
theorem dX4_hasPlaces_25 : decode cX4_hasPlaces 25 = .ok (.ireturn, 1) := by decide +kernel
theorem dX4_read_0 : decode cX4_read 0 = .ok (.aload_n 0, 1) := by decide +kernel
theorem dX4_read_1 : decode cX4_read 1 = .ok (.getfield 18, 3) := by decide +kernel
theorem dX4_read_4 : decode cX4_read 4 = .ok (.iload_n 1, 1) := by decide +kernel
theorem dX4_read_5 : decode cX4_read 5 = .ok (.bipush 40, 2) := by decide +kernel
theorem dX4_read_7 : decode cX4_read 7 = .ok (.imul, 1) := by decide +kernel
theorem dX4_read_8 : decode cX4_read 8 = .ok (.iload_n 2, 1) := by decide +kernel
theorem dX4_read_9 : decode cX4_read 9 = .ok (.iadd, 1) := by decide +kernel
theorem dX4_read_10 : decode cX4_read 10 = .ok (.iaload, 1) := by decide +kernel
theorem dX4_read_11 : decode cX4_read 11 = .ok (.ireturn, 1) := by decide +kernel
theorem dX4_write_0 : decode cX4_write 0 = .ok (.aload_n 0, 1) := by decide +kernel
theorem dX4_write_1 : decode cX4_write 1 = .ok (.getfield 18, 3) := by decide +kernel
theorem dX4_write_4 : decode cX4_write 4 = .ok (.iload_n 1, 1) := by decide +kernel
theorem dX4_write_5 : decode cX4_write 5 = .ok (.bipush 40, 2) := by decide +kernel
theorem dX4_write_7 : decode cX4_write 7 = .ok (.imul, 1) := by decide +kernel
theorem dX4_write_8 : decode cX4_write 8 = .ok (.iload_n 2, 1) := by decide +kernel
theorem dX4_write_9 : decode cX4_write 9 = .ok (.iadd, 1) := by decide +kernel
theorem dX4_write_10 : decode cX4_write 10 = .ok (.aload_n 0, 1) := by decide +kernel
theorem dX4_write_11 : decode cX4_write 11 = .ok (.getfield 9, 3) := by decide +kernel
theorem dX4_write_14 : decode cX4_write 14 = .ok (.iload_n 1, 1) := by decide +kernel
theorem dX4_write_15 : decode cX4_write 15 = .ok (.iaload, 1) := by decide +kernel
theorem dX4_write_16 : decode cX4_write 16 = .ok (.ifCond .ne 8, 3) := by decide +kernel
theorem dX4_write_19 : decode cX4_write 19 = .ok (.iload_n 3, 1) := by decide +kernel
theorem dX4_write_20 : decode cX4_write 20 = .ok (.i2b, 1) := by decide +kernel
theorem dX4_write_21 : decode cX4_write 21 = .ok (.goto 4, 3) := by decide +kernel
theorem dX4_write_24 : decode cX4_write 24 = .ok (.iload_n 3, 1) := by decide +kernel
theorem dX4_write_25 : decode cX4_write 25 = .ok (.iastore, 1) := by decide +kernel
theorem dX4_write_26 : decode cX4_write 26 = .ok (.return_, 1) := by decide +kernel
theorem dX5_init_0 : decode cX5_init 0 = .ok (.aload_n 0, 1) := by decide +kernel
theorem dX5_init_1 : decode cX5_init 1 = .ok (.invokespecial 3, 3) := by decide +kernel
theorem dX5_init_4 : decode cX5_init 4 = .ok (.return_, 1) := by decide +kernel
theorem dX5_copyFrom_0 : decode cX5_copyFrom 0 = .ok (.aload_n 0, 1) := by decide +kernel
theorem dX5_copyFrom_1 : decode cX5_copyFrom 1 = .ok (.aload_n 1, 1) := by decide +kernel
theorem dX5_copyFrom_2 : decode cX5_copyFrom 2 = .ok (.getfield 9, 3) := by decide +kernel
theorem dX5_copyFrom_5 : decode cX5_copyFrom 5 = .ok (.putfield 9, 3) := by decide +kernel
theorem dX5_copyFrom_8 : decode cX5_copyFrom 8 = .ok (.aload_n 0, 1) := by decide +kernel
theorem dX5_copyFrom_9 : decode cX5_copyFrom 9 = .ok (.aload_n 1, 1) := by decide +kernel
theorem dX5_copyFrom_10 : decode cX5_copyFrom 10 = .ok (.getfield 15, 3) := by decide +kernel
theorem dX5_copyFrom_13 : decode cX5_copyFrom 13 = .ok (.putfield 15, 3) := by decide +kernel
theorem dX5_copyFrom_16 : decode cX5_copyFrom 16 = .ok (.aload_n 0, 1) := by decide +kernel
theorem dX5_copyFrom_17 : decode cX5_copyFrom 17 = .ok (.aload_n 1, 1) := by decide +kernel
theorem dX5_copyFrom_18 : decode cX5_copyFrom 18 = .ok (.getfield 18, 3) := by decide +kernel
theorem dX5_copyFrom_21 : decode cX5_copyFrom 21 = .ok (.putfield 18, 3) := by decide +kernel
theorem dX5_copyFrom_24 : decode cX5_copyFrom 24 = .ok (.aload_n 0, 1) := by decide +kernel
theorem dX5_copyFrom_25 : decode cX5_copyFrom 25 = .ok (.aload_n 1, 1) := by decide +kernel
theorem dX5_copyFrom_26 : decode cX5_copyFrom 26 = .ok (.getfield 21, 3) := by decide +kernel
theorem dX5_copyFrom_29 : decode cX5_copyFrom 29 = .ok (.putfield 21, 3) := by decide +kernel
theorem dX5_copyFrom_32 : decode cX5_copyFrom 32 = .ok (.aload_n 0, 1) := by decide +kernel
theorem dX5_copyFrom_33 : decode cX5_copyFrom 33 = .ok (.aload_n 1, 1) := by decide +kernel
theorem dX5_copyFrom_34 : decode cX5_copyFrom 34 = .ok (.getfield 24, 3) := by decide +kernel
theorem dX5_copyFrom_37 : decode cX5_copyFrom 37 = .ok (.putfield 24, 3) := by decide +kernel
theorem dX5_copyFrom_40 : decode cX5_copyFrom 40 = .ok (.aload_n 0, 1) := by decide +kernel
theorem dX5_copyFrom_41 : decode cX5_copyFrom 41 = .ok (.aload_n 1, 1) := by decide +kernel
theorem dX5_copyFrom_42 : decode cX5_copyFrom 42 = .ok (.getfield 27, 3) := by decide +kernel
theorem dX5_copyFrom_45 : decode cX5_copyFrom 45 = .ok (.putfield 27, 3) := by decide +kernel
theorem dX5_copyFrom_48 : decode cX5_copyFrom 48 = .ok (.return_, 1) := by decide +kernel
theorem dX5_isOnFor_0 : decode cX5_isOnFor 0 = .ok (.aload_n 0, 1) := by decide +kernel
theorem dX5_isOnFor_1 : decode cX5_isOnFor 1 = .ok (.getfield 27, 3) := by decide +kernel
theorem dX5_isOnFor_4 : decode cX5_isOnFor 4 = .ok (.ifCond .eq 15, 3) := by decide +kernel
theorem dX5_isOnFor_7 : decode cX5_isOnFor 7 = .ok (.aload_n 0, 1) := by decide +kernel
theorem dX5_isOnFor_8 : decode cX5_isOnFor 8 = .ok (.getfield 9, 3) := by decide +kernel
theorem dX5_isOnFor_11 : decode cX5_isOnFor 11 = .ok (.iload_n 1, 1) := by decide +kernel
theorem dX5_isOnFor_12 : decode cX5_isOnFor 12 = .ok (.if_icmp .ne 7, 3) := by decide +kernel
theorem dX5_isOnFor_15 : decode cX5_isOnFor 15 = .ok (.iconst 1, 1) := by decide +kernel
theorem dX5_isOnFor_16 : decode cX5_isOnFor 16 = .ok (.goto 4, 3) := by decide +kernel
theorem dX5_isOnFor_19 : decode cX5_isOnFor 19 = .ok (.iconst 0, 1) := by decide +kernel
theorem dX5_isOnFor_20 : decode cX5_isOnFor 20 = .ok (.ireturn, 1) := by decide +kernel
theorem dX5_isOfThoseThatAct_0 : decode cX5_isOfThoseThatAct 0 = .ok (.aload_n 0, 1) := by decide +kernel
theorem dX5_isOfThoseThatAct_1 : decode cX5_isOfThoseThatAct 1 = .ok (.getfield 15, 3) := by decide +kernel
theorem dX5_isOfThoseThatAct_4 : decode cX5_isOfThoseThatAct 4 = .ok (.iconst 1, 1) := by decide +kernel
theorem dX5_isOfThoseThatAct_5 : decode cX5_isOfThoseThatAct 5 = .ok (.if_icmp .eq 19, 3) := by decide +kernel
theorem dX5_isOfThoseThatAct_8 : decode cX5_isOfThoseThatAct 8 = .ok (.aload_n 0, 1) := by decide +kernel
theorem dX5_isOfThoseThatAct_9 : decode cX5_isOfThoseThatAct 9 = .ok (.getfield 15, 3) := by decide +kernel
theorem dX5_isOfThoseThatAct_12 : decode cX5_isOfThoseThatAct 12 = .ok (.iconst 2, 1) := by decide +kernel
theorem dX5_isOfThoseThatAct_13 : decode cX5_isOfThoseThatAct 13 = .ok (.if_icmp .eq 11, 3) := by decide +kernel
theorem dX5_isOfThoseThatAct_16 : decode cX5_isOfThoseThatAct 16 = .ok (.aload_n 0, 1) := by decide +kernel
theorem dX5_isOfThoseThatAct_17 : decode cX5_isOfThoseThatAct 17 = .ok (.getfield 15, 3) := by decide +kernel
theorem dX5_isOfThoseThatAct_20 : decode cX5_isOfThoseThatAct 20 = .ok (.iconst 4, 1) := by decide +kernel
theorem dX5_isOfThoseThatAct_21 : decode cX5_isOfThoseThatAct 21 = .ok (.if_icmp .ne 7, 3) := by decide +kernel
theorem dX5_isOfThoseThatAct_24 : decode cX5_isOfThoseThatAct 24 = .ok (.iconst 1, 1) := by decide +kernel
theorem dX5_isOfThoseThatAct_25 : decode cX5_isOfThoseThatAct 25 = .ok (.goto 4, 3) := by decide +kernel
theorem dX5_isOfThoseThatAct_28 : decode cX5_isOfThoseThatAct 28 = .ok (.iconst 0, 1) := by decide +kernel
theorem dX5_isOfThoseThatAct_29 : decode cX5_isOfThoseThatAct 29 = .ok (.ireturn, 1) := by decide +kernel
theorem dX5_shutsOut_0 : decode cX5_shutsOut 0 = .ok (.aload_n 0, 1) := by decide +kernel
theorem dX5_shutsOut_1 : decode cX5_shutsOut 1 = .ok (.getfield 21, 3) := by decide +kernel
theorem dX5_shutsOut_4 : decode cX5_shutsOut 4 = .ok (.iload_n 1, 1) := by decide +kernel
theorem dX5_shutsOut_5 : decode cX5_shutsOut 5 = .ok (.if_icmp .eq 20, 3) := by decide +kernel
theorem dX5_shutsOut_8 : decode cX5_shutsOut 8 = .ok (.aload_n 0, 1) := by decide +kernel
theorem dX5_shutsOut_9 : decode cX5_shutsOut 9 = .ok (.getfield 24, 3) := by decide +kernel
theorem dX5_shutsOut_12 : decode cX5_shutsOut 12 = .ok (.iconst 4, 1) := by decide +kernel
theorem dX5_shutsOut_13 : decode cX5_shutsOut 13 = .ok (.iand, 1) := by decide +kernel
theorem dX5_shutsOut_14 : decode cX5_shutsOut 14 = .ok (.ifCond .eq 15, 3) := by decide +kernel
theorem dX5_shutsOut_17 : decode cX5_shutsOut 17 = .ok (.aload_n 0, 1) := by decide +kernel
theorem dX5_shutsOut_18 : decode cX5_shutsOut 18 = .ok (.getfield 21, 3) := by decide +kernel
theorem dX5_shutsOut_21 : decode cX5_shutsOut 21 = .ok (.iload_n 2, 1) := by decide +kernel
theorem dX5_shutsOut_22 : decode cX5_shutsOut 22 = .ok (.if_icmp .ne 7, 3) := by decide +kernel
theorem dX5_shutsOut_25 : decode cX5_shutsOut 25 = .ok (.iconst 1, 1) := by decide +kernel
theorem dX5_shutsOut_26 : decode cX5_shutsOut 26 = .ok (.goto 4, 3) := by decide +kernel
theorem dX5_shutsOut_29 : decode cX5_shutsOut 29 = .ok (.iconst 0, 1) := by decide +kernel
theorem dX5_shutsOut_30 : decode cX5_shutsOut 30 = .ok (.istore 4, 2) := by decide +kernel
theorem dX5_shutsOut_32 : decode cX5_shutsOut 32 = .ok (.iload_n 3, 1) := by decide +kernel
theorem dX5_shutsOut_33 : decode cX5_shutsOut 33 = .ok (.bipush 12, 2) := by decide +kernel
theorem dX5_shutsOut_35 : decode cX5_shutsOut 35 = .ok (.if_icmp .ge 7, 3) := by decide +kernel
theorem dX5_shutsOut_38 : decode cX5_shutsOut 38 = .ok (.iconst 1, 1) := by decide +kernel
theorem dX5_shutsOut_39 : decode cX5_shutsOut 39 = .ok (.goto 4, 3) := by decide +kernel
theorem dX5_shutsOut_42 : decode cX5_shutsOut 42 = .ok (.iconst 2, 1) := by decide +kernel
theorem dX5_shutsOut_43 : decode cX5_shutsOut 43 = .ok (.istore 5, 2) := by decide +kernel
theorem dX5_shutsOut_45 : decode cX5_shutsOut 45 = .ok (.aload_n 0, 1) := by decide +kernel
theorem dX5_shutsOut_46 : decode cX5_shutsOut 46 = .ok (.getfield 15, 3) := by decide +kernel
theorem dX5_shutsOut_49 : decode cX5_shutsOut 49 = .ok (.iconst 2, 1) := by decide +kernel
theorem dX5_shutsOut_50 : decode cX5_shutsOut 50 = .ok (.if_icmp .ne 22, 3) := by decide +kernel
theorem dX5_shutsOut_53 : decode cX5_shutsOut 53 = .ok (.iload 4, 2) := by decide +kernel
theorem dX5_shutsOut_55 : decode cX5_shutsOut 55 = .ok (.ifCond .eq 17, 3) := by decide +kernel
theorem dX5_shutsOut_58 : decode cX5_shutsOut 58 = .ok (.aload_n 0, 1) := by decide +kernel
theorem dX5_shutsOut_59 : decode cX5_shutsOut 59 = .ok (.getfield 24, 3) := by decide +kernel
theorem dX5_shutsOut_62 : decode cX5_shutsOut 62 = .ok (.iload 5, 2) := by decide +kernel
theorem dX5_shutsOut_64 : decode cX5_shutsOut 64 = .ok (.iand, 1) := by decide +kernel
theorem dX5_shutsOut_65 : decode cX5_shutsOut 65 = .ok (.ifCond .eq 7, 3) := by decide +kernel
theorem dX5_shutsOut_68 : decode cX5_shutsOut 68 = .ok (.iconst 1, 1) := by decide +kernel
theorem dX5_shutsOut_69 : decode cX5_shutsOut 69 = .ok (.goto 4, 3) := by decide +kernel
theorem dX5_shutsOut_72 : decode cX5_shutsOut 72 = .ok (.iconst 0, 1) := by decide +kernel
theorem dX5_shutsOut_73 : decode cX5_shutsOut 73 = .ok (.ireturn, 1) := by decide +kernel
theorem dX5_sendsOn_0 : decode cX5_sendsOn 0 = .ok (.aload_n 0, 1) := by decide +kernel
theorem dX5_sendsOn_1 : decode cX5_sendsOn 1 = .ok (.getfield 15, 3) := by decide +kernel
theorem dX5_sendsOn_4 : decode cX5_sendsOn 4 = .ok (.iconst 1, 1) := by decide +kernel
theorem dX5_sendsOn_5 : decode cX5_sendsOn 5 = .ok (.if_icmp .ne 26, 3) := by decide +kernel
theorem dX5_sendsOn_8 : decode cX5_sendsOn 8 = .ok (.aload_n 0, 1) := by decide +kernel
theorem dX5_sendsOn_9 : decode cX5_sendsOn 9 = .ok (.getfield 24, 3) := by decide +kernel
theorem dX5_sendsOn_12 : decode cX5_sendsOn 12 = .ok (.ifCond .eq 15, 3) := by decide +kernel
theorem dX5_sendsOn_15 : decode cX5_sendsOn 15 = .ok (.aload_n 0, 1) := by decide +kernel
theorem dX5_sendsOn_16 : decode cX5_sendsOn 16 = .ok (.getfield 24, 3) := by decide +kernel
theorem dX5_sendsOn_19 : decode cX5_sendsOn 19 = .ok (.iconst 1, 1) := by decide +kernel
theorem dX5_sendsOn_20 : decode cX5_sendsOn 20 = .ok (.if_icmp .ne 11, 3) := by decide +kernel
theorem dX5_sendsOn_23 : decode cX5_sendsOn 23 = .ok (.iload_n 1, 1) := by decide +kernel
theorem dX5_sendsOn_24 : decode cX5_sendsOn 24 = .ok (.ifCond .eq 7, 3) := by decide +kernel
theorem dX5_sendsOn_27 : decode cX5_sendsOn 27 = .ok (.iconst 1, 1) := by decide +kernel
theorem dX5_sendsOn_28 : decode cX5_sendsOn 28 = .ok (.goto 4, 3) := by decide +kernel
theorem dX5_sendsOn_31 : decode cX5_sendsOn 31 = .ok (.iconst 0, 1) := by decide +kernel
theorem dX5_sendsOn_32 : decode cX5_sendsOn 32 = .ok (.ireturn, 1) := by decide +kernel
theorem dX6_init_0 : decode cX6_init 0 = .ok (.aload_n 0, 1) := by decide +kernel
theorem dX6_init_1 : decode cX6_init 1 = .ok (.invokespecial 3, 3) := by decide +kernel
theorem dX6_init_4 : decode cX6_init 4 = .ok (.aload_n 0, 1) := by decide +kernel
theorem dX6_init_5 : decode cX6_init 5 = .ok (.bipush 24, 2) := by decide +kernel
theorem dX6_init_7 : decode cX6_init 7 = .ok (.anewarray 9, 3) := by decide +kernel
theorem dX6_init_10 : decode cX6_init 10 = .ok (.putfield 11, 3) := by decide +kernel
theorem dX6_init_13 : decode cX6_init 13 = .ok (.iconst 0, 1) := by decide +kernel
theorem dX6_init_14 : decode cX6_init 14 = .ok (.istore_n 1, 1) := by decide +kernel
theorem dX6_init_15 : decode cX6_init 15 = .ok (.iload_n 1, 1) := by decide +kernel
theorem dX6_init_16 : decode cX6_init 16 = .ok (.bipush 24, 2) := by decide +kernel
theorem dX6_init_18 : decode cX6_init 18 = .ok (.if_icmp .ge 22, 3) := by decide +kernel
theorem dX6_init_21 : decode cX6_init 21 = .ok (.aload_n 0, 1) := by decide +kernel
theorem dX6_init_22 : decode cX6_init 22 = .ok (.getfield 11, 3) := by decide +kernel
theorem dX6_init_25 : decode cX6_init 25 = .ok (.iload_n 1, 1) := by decide +kernel
theorem dX6_init_26 : decode cX6_init 26 = .ok (.new 9, 3) := by decide +kernel
theorem dX6_init_29 : decode cX6_init 29 = .ok (.dup, 1) := by decide +kernel
theorem dX6_init_30 : decode cX6_init 30 = .ok (.invokespecial 17, 3) := by decide +kernel
theorem dX6_init_33 : decode cX6_init 33 = .ok (.aastore, 1) := by decide +kernel
theorem dX6_init_34 : decode cX6_init 34 = .ok (.iinc 1 1, 3) := by decide +kernel
theorem dX6_init_37 : decode cX6_init 37 = .ok (.goto (-22), 3) := by decide +kernel
theorem dX6_init_40 : decode cX6_init 40 = .ok (.return_, 1) := by decide +kernel
theorem dX6_copyFrom_0 : decode cX6_copyFrom 0 = .ok (.aload_n 0, 1) := by decide +kernel
theorem dX6_copyFrom_1 : decode cX6_copyFrom 1 = .ok (.aload_n 1, 1) := by decide +kernel
theorem dX6_copyFrom_2 : decode cX6_copyFrom 2 = .ok (.getfield 18, 3) := by decide +kernel
theorem dX6_copyFrom_5 : decode cX6_copyFrom 5 = .ok (.putfield 18, 3) := by decide +kernel
theorem dX6_copyFrom_8 : decode cX6_copyFrom 8 = .ok (.iconst 0, 1) := by decide +kernel
theorem dX6_copyFrom_9 : decode cX6_copyFrom 9 = .ok (.istore_n 2, 1) := by decide +kernel
theorem dX6_copyFrom_10 : decode cX6_copyFrom 10 = .ok (.iload_n 2, 1) := by decide +kernel
theorem dX6_copyFrom_11 : decode cX6_copyFrom 11 = .ok (.aload_n 0, 1) := by decide +kernel
theorem dX6_copyFrom_12 : decode cX6_copyFrom 12 = .ok (.getfield 18, 3) := by decide +kernel
theorem dX6_copyFrom_15 : decode cX6_copyFrom 15 = .ok (.if_icmp .ge 24, 3) := by decide +kernel
theorem dX6_copyFrom_18 : decode cX6_copyFrom 18 = .ok (.aload_n 0, 1) := by decide +kernel
theorem dX6_copyFrom_19 : decode cX6_copyFrom 19 = .ok (.getfield 11, 3) := by decide +kernel
theorem dX6_copyFrom_22 : decode cX6_copyFrom 22 = .ok (.iload_n 2, 1) := by decide +kernel
theorem dX6_copyFrom_23 : decode cX6_copyFrom 23 = .ok (.aaload, 1) := by decide +kernel
theorem dX6_copyFrom_24 : decode cX6_copyFrom 24 = .ok (.aload_n 1, 1) := by decide +kernel
theorem dX6_copyFrom_25 : decode cX6_copyFrom 25 = .ok (.getfield 11, 3) := by decide +kernel
theorem dX6_copyFrom_28 : decode cX6_copyFrom 28 = .ok (.iload_n 2, 1) := by decide +kernel
theorem dX6_copyFrom_29 : decode cX6_copyFrom 29 = .ok (.aaload, 1) := by decide +kernel
theorem dX6_copyFrom_30 : decode cX6_copyFrom 30 = .ok (.invokevirtual 22, 3) := by decide +kernel
theorem dX6_copyFrom_33 : decode cX6_copyFrom 33 = .ok (.iinc 2 1, 3) := by decide +kernel
theorem dX6_copyFrom_36 : decode cX6_copyFrom 36 = .ok (.goto (-26), 3) := by decide +kernel
theorem dX6_copyFrom_39 : decode cX6_copyFrom 39 = .ok (.return_, 1) := by decide +kernel
theorem dX6_holds_0 : decode cX6_holds 0 = .ok (.iload_n 1, 1) := by decide +kernel
theorem dX6_holds_1 : decode cX6_holds 1 = .ok (.ifCond .lt 15, 3) := by decide +kernel
theorem dX6_holds_4 : decode cX6_holds 4 = .ok (.iload_n 1, 1) := by decide +kernel
theorem dX6_holds_5 : decode cX6_holds 5 = .ok (.aload_n 0, 1) := by decide +kernel
theorem dX6_holds_6 : decode cX6_holds 6 = .ok (.getfield 18, 3) := by decide +kernel
theorem dX6_holds_9 : decode cX6_holds 9 = .ok (.if_icmp .ge 7, 3) := by decide +kernel
theorem dX6_holds_12 : decode cX6_holds 12 = .ok (.iconst 1, 1) := by decide +kernel
theorem dX6_holds_13 : decode cX6_holds 13 = .ok (.goto 4, 3) := by decide +kernel
theorem dX6_holds_16 : decode cX6_holds 16 = .ok (.iconst 0, 1) := by decide +kernel
theorem dX6_holds_17 : decode cX6_holds 17 = .ok (.ireturn, 1) := by decide +kernel
theorem dX6_isFull_0 : decode cX6_isFull 0 = .ok (.aload_n 0, 1) := by decide +kernel
theorem dX6_isFull_1 : decode cX6_isFull 1 = .ok (.getfield 18, 3) := by decide +kernel
theorem dX6_isFull_4 : decode cX6_isFull 4 = .ok (.bipush 24, 2) := by decide +kernel
theorem dX6_isFull_6 : decode cX6_isFull 6 = .ok (.if_icmp .lt 7, 3) := by decide +kernel
theorem dX6_isFull_9 : decode cX6_isFull 9 = .ok (.iconst 1, 1) := by decide +kernel
theorem dX6_isFull_10 : decode cX6_isFull 10 = .ok (.goto 4, 3) := by decide +kernel
theorem dX6_isFull_13 : decode cX6_isFull 13 = .ok (.iconst 0, 1) := by decide +kernel
theorem dX6_isFull_14 : decode cX6_isFull 14 = .ok (.ireturn, 1) := by decide +kernel
theorem dX6_added_0 : decode cX6_added 0 = .ok (.aload_n 0, 1) := by decide +kernel
theorem dX6_added_1 : decode cX6_added 1 = .ok (.invokevirtual 26, 3) := by decide +kernel
theorem dX6_added_4 : decode cX6_added 4 = .ok (.ifCond .eq 5, 3) := by decide +kernel
theorem dX6_added_7 : decode cX6_added 7 = .ok (.iconst (-1), 1) := by decide +kernel
theorem dX6_added_8 : decode cX6_added 8 = .ok (.ireturn, 1) := by decide +kernel
theorem dX6_added_9 : decode cX6_added 9 = .ok (.aload_n 0, 1) := by decide +kernel
theorem dX6_added_10 : decode cX6_added 10 = .ok (.getfield 11, 3) := by decide +kernel
theorem dX6_added_13 : decode cX6_added 13 = .ok (.aload_n 0, 1) := by decide +kernel
theorem dX6_added_14 : decode cX6_added 14 = .ok (.getfield 18, 3) := by decide +kernel
theorem dX6_added_17 : decode cX6_added 17 = .ok (.aaload, 1) := by decide +kernel
theorem dX6_added_18 : decode cX6_added 18 = .ok (.astore 6, 2) := by decide +kernel
theorem dX6_added_20 : decode cX6_added 20 = .ok (.aload 6, 2) := by decide +kernel
theorem dX6_added_22 : decode cX6_added 22 = .ok (.iload_n 1, 1) := by decide +kernel
theorem dX6_added_23 : decode cX6_added 23 = .ok (.putfield 30, 3) := by decide +kernel
theorem dX6_added_26 : decode cX6_added 26 = .ok (.aload 6, 2) := by decide +kernel
theorem dX6_added_28 : decode cX6_added 28 = .ok (.iload_n 2, 1) := by decide +kernel
theorem dX6_added_29 : decode cX6_added 29 = .ok (.putfield 33, 3) := by decide +kernel
theorem dX6_added_32 : decode cX6_added 32 = .ok (.aload 6, 2) := by decide +kernel
theorem dX6_added_34 : decode cX6_added 34 = .ok (.iload_n 3, 1) := by decide +kernel
theorem dX6_added_35 : decode cX6_added 35 = .ok (.putfield 36, 3) := by decide +kernel
theorem dX6_added_38 : decode cX6_added 38 = .ok (.aload 6, 2) := by decide +kernel
theorem dX6_added_40 : decode cX6_added 40 = .ok (.iload 4, 2) := by decide +kernel
theorem dX6_added_42 : decode cX6_added 42 = .ok (.putfield 39, 3) := by decide +kernel
theorem dX6_added_45 : decode cX6_added 45 = .ok (.aload 6, 2) := by decide +kernel
theorem dX6_added_47 : decode cX6_added 47 = .ok (.iload 5, 2) := by decide +kernel
theorem dX6_added_49 : decode cX6_added 49 = .ok (.putfield 42, 3) := by decide +kernel
theorem dX6_added_52 : decode cX6_added 52 = .ok (.aload 6, 2) := by decide +kernel
theorem dX6_added_54 : decode cX6_added 54 = .ok (.iconst 1, 1) := by decide +kernel
theorem dX6_added_55 : decode cX6_added 55 = .ok (.putfield 45, 3) := by decide +kernel
theorem dX6_added_58 : decode cX6_added 58 = .ok (.aload_n 0, 1) := by decide +kernel
theorem dX6_added_59 : decode cX6_added 59 = .ok (.dup, 1) := by decide +kernel
theorem dX6_added_60 : decode cX6_added 60 = .ok (.getfield 18, 3) := by decide +kernel
theorem dX6_added_63 : decode cX6_added 63 = .ok (.iconst 1, 1) := by decide +kernel
theorem dX6_added_64 : decode cX6_added 64 = .ok (.iadd, 1) := by decide +kernel
theorem dX6_added_65 : decode cX6_added 65 = .ok (.putfield 18, 3) := by decide +kernel
theorem dX6_added_68 : decode cX6_added 68 = .ok (.aload_n 0, 1) := by decide +kernel
theorem dX6_added_69 : decode cX6_added 69 = .ok (.getfield 18, 3) := by decide +kernel
theorem dX6_added_72 : decode cX6_added 72 = .ok (.iconst 1, 1) := by decide +kernel
theorem dX6_added_73 : decode cX6_added 73 = .ok (.isub, 1) := by decide +kernel
theorem dX6_added_74 : decode cX6_added 74 = .ok (.ireturn, 1) := by decide +kernel
theorem dX6_has_0 : decode cX6_has 0 = .ok (.iconst 0, 1) := by decide +kernel
theorem dX6_has_1 : decode cX6_has 1 = .ok (.istore_n 3, 1) := by decide +kernel
theorem dX6_has_2 : decode cX6_has 2 = .ok (.iload_n 3, 1) := by decide +kernel
theorem dX6_has_3 : decode cX6_has 3 = .ok (.aload_n 0, 1) := by decide +kernel
theorem dX6_has_4 : decode cX6_has 4 = .ok (.getfield 18, 3) := by decide +kernel
theorem dX6_has_7 : decode cX6_has 7 = .ok (.if_icmp .ge 45, 3) := by decide +kernel
theorem dX6_has_10 : decode cX6_has 10 = .ok (.aload_n 0, 1) := by decide +kernel
theorem dX6_has_11 : decode cX6_has 11 = .ok (.getfield 11, 3) := by decide +kernel
theorem dX6_has_14 : decode cX6_has 14 = .ok (.iload_n 3, 1) := by decide +kernel
theorem dX6_has_15 : decode cX6_has 15 = .ok (.aaload, 1) := by decide +kernel
theorem dX6_has_16 : decode cX6_has 16 = .ok (.astore 4, 2) := by decide +kernel
theorem dX6_has_18 : decode cX6_has 18 = .ok (.aload 4, 2) := by decide +kernel
theorem dX6_has_20 : decode cX6_has 20 = .ok (.getfield 45, 3) := by decide +kernel
theorem dX6_has_23 : decode cX6_has 23 = .ok (.ifCond .eq 23, 3) := by decide +kernel
theorem dX6_has_26 : decode cX6_has 26 = .ok (.aload 4, 2) := by decide +kernel
theorem dX6_has_28 : decode cX6_has 28 = .ok (.getfield 30, 3) := by decide +kernel
theorem dX6_has_31 : decode cX6_has 31 = .ok (.iload_n 1, 1) := by decide +kernel
theorem dX6_has_32 : decode cX6_has 32 = .ok (.if_icmp .ne 14, 3) := by decide +kernel
theorem dX6_has_35 : decode cX6_has 35 = .ok (.aload 4, 2) := by decide +kernel
theorem dX6_has_37 : decode cX6_has 37 = .ok (.getfield 33, 3) := by decide +kernel
theorem dX6_has_40 : decode cX6_has 40 = .ok (.iload_n 2, 1) := by decide +kernel
theorem dX6_has_41 : decode cX6_has 41 = .ok (.if_icmp .ne 5, 3) := by decide +kernel
theorem dX6_has_44 : decode cX6_has 44 = .ok (.iconst 1, 1) := by decide +kernel
theorem dX6_has_45 : decode cX6_has 45 = .ok (.ireturn, 1) := by decide +kernel
theorem dX6_has_46 : decode cX6_has 46 = .ok (.iinc 3 1, 3) := by decide +kernel
theorem dX6_has_49 : decode cX6_has 49 = .ok (.goto (-47), 3) := by decide +kernel
theorem dX6_has_52 : decode cX6_has 52 = .ok (.iconst 0, 1) := by decide +kernel
theorem dX6_has_53 : decode cX6_has 53 = .ok (.ireturn, 1) := by decide +kernel
theorem dX6_hides_0 : decode cX6_hides 0 = .ok (.iconst 0, 1) := by decide +kernel
theorem dX6_hides_1 : decode cX6_hides 1 = .ok (.istore_n 3, 1) := by decide +kernel
theorem dX6_hides_2 : decode cX6_hides 2 = .ok (.iload_n 3, 1) := by decide +kernel
theorem dX6_hides_3 : decode cX6_hides 3 = .ok (.aload_n 0, 1) := by decide +kernel
theorem dX6_hides_4 : decode cX6_hides 4 = .ok (.getfield 18, 3) := by decide +kernel
theorem dX6_hides_7 : decode cX6_hides 7 = .ok (.if_icmp .ge 46, 3) := by decide +kernel
theorem dX6_hides_10 : decode cX6_hides 10 = .ok (.aload_n 0, 1) := by decide +kernel
theorem dX6_hides_11 : decode cX6_hides 11 = .ok (.getfield 11, 3) := by decide +kernel
theorem dX6_hides_14 : decode cX6_hides 14 = .ok (.iload_n 3, 1) := by decide +kernel
theorem dX6_hides_15 : decode cX6_hides 15 = .ok (.aaload, 1) := by decide +kernel
theorem dX6_hides_16 : decode cX6_hides 16 = .ok (.astore 4, 2) := by decide +kernel
theorem dX6_hides_18 : decode cX6_hides 18 = .ok (.aload 4, 2) := by decide +kernel
theorem dX6_hides_20 : decode cX6_hides 20 = .ok (.getfield 33, 3) := by decide +kernel
theorem dX6_hides_23 : decode cX6_hides 23 = .ok (.iconst 3, 1) := by decide +kernel
theorem dX6_hides_24 : decode cX6_hides 24 = .ok (.if_icmp .ne 23, 3) := by decide +kernel
theorem dX6_hides_27 : decode cX6_hides 27 = .ok (.aload 4, 2) := by decide +kernel
theorem dX6_hides_29 : decode cX6_hides 29 = .ok (.iload_n 1, 1) := by decide +kernel
theorem dX6_hides_30 : decode cX6_hides 30 = .ok (.invokevirtual 49, 3) := by decide +kernel
theorem dX6_hides_33 : decode cX6_hides 33 = .ok (.ifCond .eq 14, 3) := by decide +kernel
theorem dX6_hides_36 : decode cX6_hides 36 = .ok (.aload 4, 2) := by decide +kernel
theorem dX6_hides_38 : decode cX6_hides 38 = .ok (.getfield 39, 3) := by decide +kernel
theorem dX6_hides_41 : decode cX6_hides 41 = .ok (.iload_n 2, 1) := by decide +kernel
theorem dX6_hides_42 : decode cX6_hides 42 = .ok (.if_icmp .eq 5, 3) := by decide +kernel
theorem dX6_hides_45 : decode cX6_hides 45 = .ok (.iconst 1, 1) := by decide +kernel
theorem dX6_hides_46 : decode cX6_hides 46 = .ok (.ireturn, 1) := by decide +kernel
theorem dX6_hides_47 : decode cX6_hides 47 = .ok (.iinc 3 1, 3) := by decide +kernel
theorem dX6_hides_50 : decode cX6_hides 50 = .ok (.goto (-48), 3) := by decide +kernel
theorem dX6_hides_53 : decode cX6_hides 53 = .ok (.iconst 0, 1) := by decide +kernel
theorem dX6_hides_54 : decode cX6_hides 54 = .ok (.ireturn, 1) := by decide +kernel
theorem dX6_countOn_0 : decode cX6_countOn 0 = .ok (.iconst 0, 1) := by decide +kernel
theorem dX6_countOn_1 : decode cX6_countOn 1 = .ok (.istore_n 2, 1) := by decide +kernel
theorem dX6_countOn_2 : decode cX6_countOn 2 = .ok (.iconst 0, 1) := by decide +kernel
theorem dX6_countOn_3 : decode cX6_countOn 3 = .ok (.istore_n 3, 1) := by decide +kernel
theorem dX6_countOn_4 : decode cX6_countOn 4 = .ok (.iload_n 3, 1) := by decide +kernel
