theorem dX8_alone_200 : decode cX8_alone 200 = .ok (.iload 6, 2) := by decide +kernel
theorem dX8_alone_202 : decode cX8_alone 202 = .ok (.ireturn, 1) := by decide +kernel
theorem dX8_peace_0 : decode cX8_peace 0 = .ok (.aload_n 0, 1) := by decide +kernel
theorem dX8_peace_1 : decode cX8_peace 1 = .ok (.iload_n 1, 1) := by decide +kernel
theorem dX8_peace_2 : decode cX8_peace 2 = .ok (.invokevirtual 142, 3) := by decide +kernel
theorem dX8_peace_5 : decode cX8_peace 5 = .ok (.ifCond .eq 18, 3) := by decide +kernel
theorem dX8_peace_8 : decode cX8_peace 8 = .ok (.aload_n 0, 1) := by decide +kernel
theorem dX8_peace_9 : decode cX8_peace 9 = .ok (.iload_n 2, 1) := by decide +kernel
theorem dX8_peace_10 : decode cX8_peace 10 = .ok (.iload_n 3, 1) := by decide +kernel
theorem dX8_peace_11 : decode cX8_peace 11 = .ok (.iload 4, 2) := by decide +kernel
theorem dX8_peace_13 : decode cX8_peace 13 = .ok (.iload 5, 2) := by decide +kernel
theorem dX8_peace_15 : decode cX8_peace 15 = .ok (.iload 6, 2) := by decide +kernel
theorem dX8_peace_17 : decode cX8_peace 17 = .ok (.invokevirtual 274, 3) := by decide +kernel
theorem dX8_peace_20 : decode cX8_peace 20 = .ok (.ifCond .ne 5, 3) := by decide +kernel
theorem dX8_peace_23 : decode cX8_peace 23 = .ok (.iconst (-1), 1) := by decide +kernel
theorem dX8_peace_24 : decode cX8_peace 24 = .ok (.ireturn, 1) := by decide +kernel
theorem dX8_peace_25 : decode cX8_peace 25 = .ok (.aload_n 0, 1) := by decide +kernel
theorem dX8_peace_26 : decode cX8_peace 26 = .ok (.getfield 16, 3) := by decide +kernel
theorem dX8_peace_29 : decode cX8_peace 29 = .ok (.iload_n 1, 1) := by decide +kernel
theorem dX8_peace_30 : decode cX8_peace 30 = .ok (.iaload, 1) := by decide +kernel
theorem dX8_peace_31 : decode cX8_peace 31 = .ok (.istore 7, 2) := by decide +kernel
theorem dX8_peace_33 : decode cX8_peace 33 = .ok (.iconst (-1), 1) := by decide +kernel
theorem dX8_peace_34 : decode cX8_peace 34 = .ok (.istore 8, 2) := by decide +kernel
theorem dX8_peace_36 : decode cX8_peace 36 = .ok (.iconst 0, 1) := by decide +kernel
theorem dX8_peace_37 : decode cX8_peace 37 = .ok (.istore 9, 2) := by decide +kernel
theorem dX8_peace_39 : decode cX8_peace 39 = .ok (.iload 9, 2) := by decide +kernel
theorem dX8_peace_41 : decode cX8_peace 41 = .ok (.bipush 9, 2) := by decide +kernel
theorem dX8_peace_43 : decode cX8_peace 43 = .ok (.if_icmp .gt 41, 3) := by decide +kernel
theorem dX8_peace_46 : decode cX8_peace 46 = .ok (.iload 8, 2) := by decide +kernel
theorem dX8_peace_48 : decode cX8_peace 48 = .ok (.ifCond .ge 36, 3) := by decide +kernel
theorem dX8_peace_51 : decode cX8_peace 51 = .ok (.aload_n 0, 1) := by decide +kernel
theorem dX8_peace_52 : decode cX8_peace 52 = .ok (.getfield 16, 3) := by decide +kernel
theorem dX8_peace_55 : decode cX8_peace 55 = .ok (.iload_n 1, 1) := by decide +kernel
theorem dX8_peace_56 : decode cX8_peace 56 = .ok (.iload 9, 2) := by decide +kernel
theorem dX8_peace_58 : decode cX8_peace 58 = .ok (.iastore, 1) := by decide +kernel
theorem dX8_peace_59 : decode cX8_peace 59 = .ok (.aload_n 0, 1) := by decide +kernel
theorem dX8_peace_60 : decode cX8_peace 60 = .ok (.iload_n 2, 1) := by decide +kernel
theorem dX8_peace_61 : decode cX8_peace 61 = .ok (.iload_n 3, 1) := by decide +kernel
theorem dX8_peace_62 : decode cX8_peace 62 = .ok (.iload 4, 2) := by decide +kernel
theorem dX8_peace_64 : decode cX8_peace 64 = .ok (.iload 5, 2) := by decide +kernel
theorem dX8_peace_66 : decode cX8_peace 66 = .ok (.iload 6, 2) := by decide +kernel
theorem dX8_peace_68 : decode cX8_peace 68 = .ok (.invokevirtual 277, 3) := by decide +kernel
theorem dX8_peace_71 : decode cX8_peace 71 = .ok (.ifCond .ne 7, 3) := by decide +kernel
theorem dX8_peace_74 : decode cX8_peace 74 = .ok (.iload 9, 2) := by decide +kernel
theorem dX8_peace_76 : decode cX8_peace 76 = .ok (.istore 8, 2) := by decide +kernel
theorem dX8_peace_78 : decode cX8_peace 78 = .ok (.iinc 9 1, 3) := by decide +kernel
theorem dX8_peace_81 : decode cX8_peace 81 = .ok (.goto (-42), 3) := by decide +kernel
theorem dX8_peace_84 : decode cX8_peace 84 = .ok (.aload_n 0, 1) := by decide +kernel
theorem dX8_peace_85 : decode cX8_peace 85 = .ok (.getfield 16, 3) := by decide +kernel
theorem dX8_peace_88 : decode cX8_peace 88 = .ok (.iload_n 1, 1) := by decide +kernel
theorem dX8_peace_89 : decode cX8_peace 89 = .ok (.iload 7, 2) := by decide +kernel
theorem dX8_peace_91 : decode cX8_peace 91 = .ok (.iastore, 1) := by decide +kernel
theorem dX8_peace_92 : decode cX8_peace 92 = .ok (.iload 8, 2) := by decide +kernel
theorem dX8_peace_94 : decode cX8_peace 94 = .ok (.ireturn, 1) := by decide +kernel
theorem dX8_count_0 : decode cX8_count 0 = .ok (.iconst 0, 1) := by decide +kernel
theorem dX8_count_1 : decode cX8_count 1 = .ok (.istore_n 2, 1) := by decide +kernel
theorem dX8_count_2 : decode cX8_count 2 = .ok (.iload_n 1, 1) := by decide +kernel
theorem dX8_count_3 : decode cX8_count 3 = .ok (.tableswitch 100 0 7 #[45, 45, 45, 45, 45, 52, 90, 95], 45) := by decide +kernel
theorem dX8_count_48 : decode cX8_count 48 = .ok (.aload_n 0, 1) := by decide +kernel
theorem dX8_count_49 : decode cX8_count 49 = .ok (.getfield 70, 3) := by decide +kernel
theorem dX8_count_52 : decode cX8_count 52 = .ok (.iload_n 1, 1) := by decide +kernel
theorem dX8_count_53 : decode cX8_count 53 = .ok (.iaload, 1) := by decide +kernel
theorem dX8_count_54 : decode cX8_count 54 = .ok (.ireturn, 1) := by decide +kernel
theorem dX8_count_55 : decode cX8_count 55 = .ok (.iconst 0, 1) := by decide +kernel
theorem dX8_count_56 : decode cX8_count 56 = .ok (.istore_n 3, 1) := by decide +kernel
theorem dX8_count_57 : decode cX8_count 57 = .ok (.iload_n 3, 1) := by decide +kernel
theorem dX8_count_58 : decode cX8_count 58 = .ok (.aload_n 0, 1) := by decide +kernel
theorem dX8_count_59 : decode cX8_count 59 = .ok (.getfield 70, 3) := by decide +kernel
theorem dX8_count_62 : decode cX8_count 62 = .ok (.iconst 2, 1) := by decide +kernel
theorem dX8_count_63 : decode cX8_count 63 = .ok (.iaload, 1) := by decide +kernel
theorem dX8_count_64 : decode cX8_count 64 = .ok (.if_icmp .ge 27, 3) := by decide +kernel
theorem dX8_count_67 : decode cX8_count 67 = .ok (.iload_n 2, 1) := by decide +kernel
theorem dX8_count_68 : decode cX8_count 68 = .ok (.aload_n 0, 1) := by decide +kernel
theorem dX8_count_69 : decode cX8_count 69 = .ok (.getfield 31, 3) := by decide +kernel
theorem dX8_count_72 : decode cX8_count 72 = .ok (.iload_n 3, 1) := by decide +kernel
theorem dX8_count_73 : decode cX8_count 73 = .ok (.iaload, 1) := by decide +kernel
theorem dX8_count_74 : decode cX8_count 74 = .ok (.iconst 3, 1) := by decide +kernel
theorem dX8_count_75 : decode cX8_count 75 = .ok (.if_icmp .eq 7, 3) := by decide +kernel
theorem dX8_count_78 : decode cX8_count 78 = .ok (.iconst 1, 1) := by decide +kernel
theorem dX8_count_79 : decode cX8_count 79 = .ok (.goto 4, 3) := by decide +kernel
theorem dX8_count_82 : decode cX8_count 82 = .ok (.iconst 0, 1) := by decide +kernel
theorem dX8_count_83 : decode cX8_count 83 = .ok (.iadd, 1) := by decide +kernel
theorem dX8_count_84 : decode cX8_count 84 = .ok (.istore_n 2, 1) := by decide +kernel
theorem dX8_count_85 : decode cX8_count 85 = .ok (.iinc 3 1, 3) := by decide +kernel
theorem dX8_count_88 : decode cX8_count 88 = .ok (.goto (-31), 3) := by decide +kernel
theorem dX8_count_91 : decode cX8_count 91 = .ok (.iload_n 2, 1) := by decide +kernel
theorem dX8_count_92 : decode cX8_count 92 = .ok (.ireturn, 1) := by decide +kernel
theorem dX8_count_93 : decode cX8_count 93 = .ok (.aload_n 0, 1) := by decide +kernel
theorem dX8_count_94 : decode cX8_count 94 = .ok (.getfield 280, 3) := by decide +kernel
theorem dX8_count_97 : decode cX8_count 97 = .ok (.ireturn, 1) := by decide +kernel
theorem dX8_count_98 : decode cX8_count 98 = .ok (.aload_n 0, 1) := by decide +kernel
theorem dX8_count_99 : decode cX8_count 99 = .ok (.getfield 286, 3) := by decide +kernel
theorem dX8_count_102 : decode cX8_count 102 = .ok (.ireturn, 1) := by decide +kernel
theorem dX8_count_103 : decode cX8_count 103 = .ok (.iconst (-1), 1) := by decide +kernel
theorem dX8_count_104 : decode cX8_count 104 = .ok (.ireturn, 1) := by decide +kernel
theorem dX8_traces_0 : decode cX8_traces 0 = .ok (.aload_n 0, 1) := by decide +kernel
theorem dX8_traces_1 : decode cX8_traces 1 = .ok (.getfield 286, 3) := by decide +kernel
theorem dX8_traces_4 : decode cX8_traces 4 = .ok (.bipush 50, 2) := by decide +kernel
theorem dX8_traces_6 : decode cX8_traces 6 = .ok (.if_icmp .ge 13, 3) := by decide +kernel
theorem dX8_traces_9 : decode cX8_traces 9 = .ok (.aload_n 0, 1) := by decide +kernel
theorem dX8_traces_10 : decode cX8_traces 10 = .ok (.getfield 97, 3) := by decide +kernel
theorem dX8_traces_13 : decode cX8_traces 13 = .ok (.aload_n 0, 1) := by decide +kernel
theorem dX8_traces_14 : decode cX8_traces 14 = .ok (.getfield 286, 3) := by decide +kernel
theorem dX8_traces_17 : decode cX8_traces 17 = .ok (.iload_n 1, 1) := by decide +kernel
theorem dX8_traces_18 : decode cX8_traces 18 = .ok (.iastore, 1) := by decide +kernel
theorem dX8_traces_19 : decode cX8_traces 19 = .ok (.aload_n 0, 1) := by decide +kernel
theorem dX8_traces_20 : decode cX8_traces 20 = .ok (.dup, 1) := by decide +kernel
theorem dX8_traces_21 : decode cX8_traces 21 = .ok (.getfield 286, 3) := by decide +kernel
theorem dX8_traces_24 : decode cX8_traces 24 = .ok (.iconst 1, 1) := by decide +kernel
theorem dX8_traces_25 : decode cX8_traces 25 = .ok (.iadd, 1) := by decide +kernel
theorem dX8_traces_26 : decode cX8_traces 26 = .ok (.putfield 286, 3) := by decide +kernel
theorem dX8_traces_29 : decode cX8_traces 29 = .ok (.return_, 1) := by decide +kernel
theorem dX8_plainHear_0 : decode cX8_plainHear 0 = .ok (.aload_n 0, 1) := by decide +kernel
theorem dX8_plainHear_1 : decode cX8_plainHear 1 = .ok (.bipush 10, 2) := by decide +kernel
theorem dX8_plainHear_3 : decode cX8_plainHear 3 = .ok (.invokevirtual 289, 3) := by decide +kernel
theorem dX8_plainHear_6 : decode cX8_plainHear 6 = .ok (.iload_n 2, 1) := by decide +kernel
theorem dX8_plainHear_7 : decode cX8_plainHear 7 = .ok (.iload_n 1, 1) := by decide +kernel
theorem dX8_plainHear_8 : decode cX8_plainHear 8 = .ok (.iadd, 1) := by decide +kernel
theorem dX8_plainHear_9 : decode cX8_plainHear 9 = .ok (.ireturn, 1) := by decide +kernel
theorem dX8_shutHear_0 : decode cX8_shutHear 0 = .ok (.aload_n 0, 1) := by decide +kernel
theorem dX8_shutHear_1 : decode cX8_shutHear 1 = .ok (.bipush 30, 2) := by decide +kernel
theorem dX8_shutHear_3 : decode cX8_shutHear 3 = .ok (.invokevirtual 289, 3) := by decide +kernel
theorem dX8_shutHear_6 : decode cX8_shutHear 6 = .ok (.aload_n 0, 1) := by decide +kernel
theorem dX8_shutHear_7 : decode cX8_shutHear 7 = .ok (.iload_n 1, 1) := by decide +kernel
theorem dX8_shutHear_8 : decode cX8_shutHear 8 = .ok (.iload_n 2, 1) := by decide +kernel
theorem dX8_shutHear_9 : decode cX8_shutHear 9 = .ok (.invokevirtual 291, 3) := by decide +kernel
theorem dX8_shutHear_12 : decode cX8_shutHear 12 = .ok (.iconst 3, 1) := by decide +kernel
theorem dX8_shutHear_13 : decode cX8_shutHear 13 = .ok (.imul, 1) := by decide +kernel
theorem dX8_shutHear_14 : decode cX8_shutHear 14 = .ok (.ireturn, 1) := by decide +kernel
theorem dX8_hear_0 : decode cX8_hear 0 = .ok (.aload_n 0, 1) := by decide +kernel
theorem dX8_hear_1 : decode cX8_hear 1 = .ok (.getfield 13, 3) := by decide +kernel
theorem dX8_hear_4 : decode cX8_hear 4 = .ok (.iload_n 1, 1) := by decide +kernel
theorem dX8_hear_5 : decode cX8_hear 5 = .ok (.iaload, 1) := by decide +kernel
theorem dX8_hear_6 : decode cX8_hear 6 = .ok (.iconst 3, 1) := by decide +kernel
theorem dX8_hear_7 : decode cX8_hear 7 = .ok (.if_icmp .ne 25, 3) := by decide +kernel
theorem dX8_hear_10 : decode cX8_hear 10 = .ok (.aload_n 0, 1) := by decide +kernel
theorem dX8_hear_11 : decode cX8_hear 11 = .ok (.bipush 40, 2) := by decide +kernel
theorem dX8_hear_13 : decode cX8_hear 13 = .ok (.invokevirtual 289, 3) := by decide +kernel
theorem dX8_hear_16 : decode cX8_hear 16 = .ok (.aload_n 0, 1) := by decide +kernel
theorem dX8_hear_17 : decode cX8_hear 17 = .ok (.iload_n 1, 1) := by decide +kernel
theorem dX8_hear_18 : decode cX8_hear 18 = .ok (.iload_n 2, 1) := by decide +kernel
theorem dX8_hear_19 : decode cX8_hear 19 = .ok (.invokevirtual 294, 3) := by decide +kernel
theorem dX8_hear_22 : decode cX8_hear 22 = .ok (.istore_n 3, 1) := by decide +kernel
theorem dX8_hear_23 : decode cX8_hear 23 = .ok (.iload_n 3, 1) := by decide +kernel
theorem dX8_hear_24 : decode cX8_hear 24 = .ok (.aload_n 0, 1) := by decide +kernel
theorem dX8_hear_25 : decode cX8_hear 25 = .ok (.iload_n 1, 1) := by decide +kernel
theorem dX8_hear_26 : decode cX8_hear 26 = .ok (.iload_n 2, 1) := by decide +kernel
theorem dX8_hear_27 : decode cX8_hear 27 = .ok (.invokevirtual 297, 3) := by decide +kernel
theorem dX8_hear_30 : decode cX8_hear 30 = .ok (.isub, 1) := by decide +kernel
theorem dX8_hear_31 : decode cX8_hear 31 = .ok (.ireturn, 1) := by decide +kernel
theorem dX8_hear_32 : decode cX8_hear 32 = .ok (.aload_n 0, 1) := by decide +kernel
theorem dX8_hear_33 : decode cX8_hear 33 = .ok (.getfield 13, 3) := by decide +kernel
theorem dX8_hear_36 : decode cX8_hear 36 = .ok (.iload_n 1, 1) := by decide +kernel
theorem dX8_hear_37 : decode cX8_hear 37 = .ok (.iaload, 1) := by decide +kernel
theorem dX8_hear_38 : decode cX8_hear 38 = .ok (.iconst 2, 1) := by decide +kernel
theorem dX8_hear_39 : decode cX8_hear 39 = .ok (.if_icmp .ne 12, 3) := by decide +kernel
theorem dX8_hear_42 : decode cX8_hear 42 = .ok (.aload_n 0, 1) := by decide +kernel
theorem dX8_hear_43 : decode cX8_hear 43 = .ok (.iload_n 1, 1) := by decide +kernel
theorem dX8_hear_44 : decode cX8_hear 44 = .ok (.iload_n 2, 1) := by decide +kernel
theorem dX8_hear_45 : decode cX8_hear 45 = .ok (.invokevirtual 294, 3) := by decide +kernel
theorem dX8_hear_48 : decode cX8_hear 48 = .ok (.goto 9, 3) := by decide +kernel
theorem dX8_hear_51 : decode cX8_hear 51 = .ok (.aload_n 0, 1) := by decide +kernel
theorem dX8_hear_52 : decode cX8_hear 52 = .ok (.iload_n 1, 1) := by decide +kernel
theorem dX8_hear_53 : decode cX8_hear 53 = .ok (.iload_n 2, 1) := by decide +kernel
theorem dX8_hear_54 : decode cX8_hear 54 = .ok (.invokevirtual 291, 3) := by decide +kernel
theorem dX8_hear_57 : decode cX8_hear 57 = .ok (.ireturn, 1) := by decide +kernel
theorem dX8_plainPay_0 : decode cX8_plainPay 0 = .ok (.aload_n 0, 1) := by decide +kernel
theorem dX8_plainPay_1 : decode cX8_plainPay 1 = .ok (.bipush 12, 2) := by decide +kernel
theorem dX8_plainPay_3 : decode cX8_plainPay 3 = .ok (.invokevirtual 289, 3) := by decide +kernel
theorem dX8_plainPay_6 : decode cX8_plainPay 6 = .ok (.iload_n 2, 1) := by decide +kernel
theorem dX8_plainPay_7 : decode cX8_plainPay 7 = .ok (.aload_n 0, 1) := by decide +kernel
theorem dX8_plainPay_8 : decode cX8_plainPay 8 = .ok (.getfield 16, 3) := by decide +kernel
theorem dX8_plainPay_11 : decode cX8_plainPay 11 = .ok (.iload_n 1, 1) := by decide +kernel
theorem dX8_plainPay_12 : decode cX8_plainPay 12 = .ok (.iaload, 1) := by decide +kernel
theorem dX8_plainPay_13 : decode cX8_plainPay 13 = .ok (.isub, 1) := by decide +kernel
theorem dX8_plainPay_14 : decode cX8_plainPay 14 = .ok (.ireturn, 1) := by decide +kernel
theorem dX8_pay_0 : decode cX8_pay 0 = .ok (.aload_n 0, 1) := by decide +kernel
theorem dX8_pay_1 : decode cX8_pay 1 = .ok (.getfield 13, 3) := by decide +kernel
theorem dX8_pay_4 : decode cX8_pay 4 = .ok (.iload_n 1, 1) := by decide +kernel
theorem dX8_pay_5 : decode cX8_pay 5 = .ok (.iaload, 1) := by decide +kernel
theorem dX8_pay_6 : decode cX8_pay 6 = .ok (.iconst 5, 1) := by decide +kernel
theorem dX8_pay_7 : decode cX8_pay 7 = .ok (.if_icmp .ne 23, 3) := by decide +kernel
theorem dX8_pay_10 : decode cX8_pay 10 = .ok (.aload_n 0, 1) := by decide +kernel
theorem dX8_pay_11 : decode cX8_pay 11 = .ok (.bipush 60, 2) := by decide +kernel
theorem dX8_pay_13 : decode cX8_pay 13 = .ok (.invokevirtual 289, 3) := by decide +kernel
theorem dX8_pay_16 : decode cX8_pay 16 = .ok (.aload_n 0, 1) := by decide +kernel
theorem dX8_pay_17 : decode cX8_pay 17 = .ok (.iload_n 1, 1) := by decide +kernel
theorem dX8_pay_18 : decode cX8_pay 18 = .ok (.iload_n 2, 1) := by decide +kernel
theorem dX8_pay_19 : decode cX8_pay 19 = .ok (.invokevirtual 300, 3) := by decide +kernel
theorem dX8_pay_22 : decode cX8_pay 22 = .ok (.aload_n 0, 1) := by decide +kernel
theorem dX8_pay_23 : decode cX8_pay 23 = .ok (.getfield 19, 3) := by decide +kernel
theorem dX8_pay_26 : decode cX8_pay 26 = .ok (.iload_n 1, 1) := by decide +kernel
theorem dX8_pay_27 : decode cX8_pay 27 = .ok (.iaload, 1) := by decide +kernel
theorem dX8_pay_28 : decode cX8_pay 28 = .ok (.iadd, 1) := by decide +kernel
theorem dX8_pay_29 : decode cX8_pay 29 = .ok (.ireturn, 1) := by decide +kernel
theorem dX8_pay_30 : decode cX8_pay 30 = .ok (.aload_n 0, 1) := by decide +kernel
theorem dX8_pay_31 : decode cX8_pay 31 = .ok (.getfield 13, 3) := by decide +kernel
theorem dX8_pay_34 : decode cX8_pay 34 = .ok (.iload_n 1, 1) := by decide +kernel
theorem dX8_pay_35 : decode cX8_pay 35 = .ok (.iaload, 1) := by decide +kernel
theorem dX8_pay_36 : decode cX8_pay 36 = .ok (.bipush 7, 2) := by decide +kernel
theorem dX8_pay_38 : decode cX8_pay 38 = .ok (.if_icmp .eq 10, 3) := by decide +kernel
theorem dX8_pay_41 : decode cX8_pay 41 = .ok (.aload_n 0, 1) := by decide +kernel
theorem dX8_pay_42 : decode cX8_pay 42 = .ok (.iload_n 1, 1) := by decide +kernel
theorem dX8_pay_43 : decode cX8_pay 43 = .ok (.iload_n 2, 1) := by decide +kernel
theorem dX8_pay_44 : decode cX8_pay 44 = .ok (.invokevirtual 300, 3) := by decide +kernel
theorem dX8_pay_47 : decode cX8_pay 47 = .ok (.ireturn, 1) := by decide +kernel
theorem dX8_pay_48 : decode cX8_pay 48 = .ok (.aload_n 0, 1) := by decide +kernel
theorem dX8_pay_49 : decode cX8_pay 49 = .ok (.bipush 80, 2) := by decide +kernel
theorem dX8_pay_51 : decode cX8_pay 51 = .ok (.invokevirtual 289, 3) := by decide +kernel
theorem dX8_pay_54 : decode cX8_pay 54 = .ok (.aload_n 0, 1) := by decide +kernel
theorem dX8_pay_55 : decode cX8_pay 55 = .ok (.iload_n 1, 1) := by decide +kernel
theorem dX8_pay_56 : decode cX8_pay 56 = .ok (.iload_n 2, 1) := by decide +kernel
theorem dX8_pay_57 : decode cX8_pay 57 = .ok (.invokevirtual 300, 3) := by decide +kernel
theorem dX8_pay_60 : decode cX8_pay 60 = .ok (.iconst 2, 1) := by decide +kernel
theorem dX8_pay_61 : decode cX8_pay 61 = .ok (.imul, 1) := by decide +kernel
theorem dX8_pay_62 : decode cX8_pay 62 = .ok (.ireturn, 1) := by decide +kernel
theorem dX8_plainTurn_0 : decode cX8_plainTurn 0 = .ok (.aload_n 0, 1) := by decide +kernel
theorem dX8_plainTurn_1 : decode cX8_plainTurn 1 = .ok (.bipush 11, 2) := by decide +kernel
theorem dX8_plainTurn_3 : decode cX8_plainTurn 3 = .ok (.invokevirtual 289, 3) := by decide +kernel
theorem dX8_plainTurn_6 : decode cX8_plainTurn 6 = .ok (.aload_n 0, 1) := by decide +kernel
theorem dX8_plainTurn_7 : decode cX8_plainTurn 7 = .ok (.iload_n 1, 1) := by decide +kernel
theorem dX8_plainTurn_8 : decode cX8_plainTurn 8 = .ok (.iload_n 2, 1) := by decide +kernel
theorem dX8_plainTurn_9 : decode cX8_plainTurn 9 = .ok (.invokevirtual 303, 3) := by decide +kernel
theorem dX8_plainTurn_12 : decode cX8_plainTurn 12 = .ok (.iconst 2, 1) := by decide +kernel
theorem dX8_plainTurn_13 : decode cX8_plainTurn 13 = .ok (.imul, 1) := by decide +kernel
theorem dX8_plainTurn_14 : decode cX8_plainTurn 14 = .ok (.ireturn, 1) := by decide +kernel
theorem dX8_turn_0 : decode cX8_turn 0 = .ok (.aload_n 0, 1) := by decide +kernel
theorem dX8_turn_1 : decode cX8_turn 1 = .ok (.getfield 13, 3) := by decide +kernel
theorem dX8_turn_4 : decode cX8_turn 4 = .ok (.iload_n 1, 1) := by decide +kernel
theorem dX8_turn_5 : decode cX8_turn 5 = .ok (.iaload, 1) := by decide +kernel
theorem dX8_turn_6 : decode cX8_turn 6 = .ok (.iconst 1, 1) := by decide +kernel
theorem dX8_turn_7 : decode cX8_turn 7 = .ok (.if_icmp .ne 23, 3) := by decide +kernel
theorem dX8_turn_10 : decode cX8_turn 10 = .ok (.aload_n 0, 1) := by decide +kernel
theorem dX8_turn_11 : decode cX8_turn 11 = .ok (.bipush 20, 2) := by decide +kernel
theorem dX8_turn_13 : decode cX8_turn 13 = .ok (.invokevirtual 289, 3) := by decide +kernel
theorem dX8_turn_16 : decode cX8_turn 16 = .ok (.aload_n 0, 1) := by decide +kernel
theorem dX8_turn_17 : decode cX8_turn 17 = .ok (.iload_n 1, 1) := by decide +kernel
theorem dX8_turn_18 : decode cX8_turn 18 = .ok (.iload_n 2, 1) := by decide +kernel
theorem dX8_turn_19 : decode cX8_turn 19 = .ok (.invokevirtual 306, 3) := by decide +kernel
theorem dX8_turn_22 : decode cX8_turn 22 = .ok (.aload_n 0, 1) := by decide +kernel
theorem dX8_turn_23 : decode cX8_turn 23 = .ok (.getfield 19, 3) := by decide +kernel
theorem dX8_turn_26 : decode cX8_turn 26 = .ok (.iload_n 1, 1) := by decide +kernel
theorem dX8_turn_27 : decode cX8_turn 27 = .ok (.iaload, 1) := by decide +kernel
theorem dX8_turn_28 : decode cX8_turn 28 = .ok (.iadd, 1) := by decide +kernel
theorem dX8_turn_29 : decode cX8_turn 29 = .ok (.ireturn, 1) := by decide +kernel
theorem dX8_turn_30 : decode cX8_turn 30 = .ok (.aload_n 0, 1) := by decide +kernel
theorem dX8_turn_31 : decode cX8_turn 31 = .ok (.getfield 13, 3) := by decide +kernel
theorem dX8_turn_34 : decode cX8_turn 34 = .ok (.iload_n 1, 1) := by decide +kernel
theorem dX8_turn_35 : decode cX8_turn 35 = .ok (.iaload, 1) := by decide +kernel
theorem dX8_turn_36 : decode cX8_turn 36 = .ok (.iconst 3, 1) := by decide +kernel
theorem dX8_turn_37 : decode cX8_turn 37 = .ok (.if_icmp .ne 23, 3) := by decide +kernel
theorem dX8_turn_40 : decode cX8_turn 40 = .ok (.aload_n 0, 1) := by decide +kernel
theorem dX8_turn_41 : decode cX8_turn 41 = .ok (.bipush 41, 2) := by decide +kernel
theorem dX8_turn_43 : decode cX8_turn 43 = .ok (.invokevirtual 289, 3) := by decide +kernel
theorem dX8_turn_46 : decode cX8_turn 46 = .ok (.aload_n 0, 1) := by decide +kernel
theorem dX8_turn_47 : decode cX8_turn 47 = .ok (.iload_n 1, 1) := by decide +kernel
theorem dX8_turn_48 : decode cX8_turn 48 = .ok (.iload_n 2, 1) := by decide +kernel
theorem dX8_turn_49 : decode cX8_turn 49 = .ok (.aload_n 0, 1) := by decide +kernel
theorem dX8_turn_50 : decode cX8_turn 50 = .ok (.getfield 19, 3) := by decide +kernel
theorem dX8_turn_53 : decode cX8_turn 53 = .ok (.iload_n 1, 1) := by decide +kernel
theorem dX8_turn_54 : decode cX8_turn 54 = .ok (.iaload, 1) := by decide +kernel
theorem dX8_turn_55 : decode cX8_turn 55 = .ok (.isub, 1) := by decide +kernel
theorem dX8_turn_56 : decode cX8_turn 56 = .ok (.invokevirtual 306, 3) := by decide +kernel
theorem dX8_turn_59 : decode cX8_turn 59 = .ok (.ireturn, 1) := by decide +kernel
theorem dX8_turn_60 : decode cX8_turn 60 = .ok (.aload_n 0, 1) := by decide +kernel
theorem dX8_turn_61 : decode cX8_turn 61 = .ok (.getfield 13, 3) := by decide +kernel
theorem dX8_turn_64 : decode cX8_turn 64 = .ok (.iload_n 1, 1) := by decide +kernel
theorem dX8_turn_65 : decode cX8_turn 65 = .ok (.iaload, 1) := by decide +kernel
theorem dX8_turn_66 : decode cX8_turn 66 = .ok (.bipush 6, 2) := by decide +kernel
theorem dX8_turn_68 : decode cX8_turn 68 = .ok (.if_icmp .eq 10, 3) := by decide +kernel
theorem dX8_turn_71 : decode cX8_turn 71 = .ok (.aload_n 0, 1) := by decide +kernel
theorem dX8_turn_72 : decode cX8_turn 72 = .ok (.iload_n 1, 1) := by decide +kernel
theorem dX8_turn_73 : decode cX8_turn 73 = .ok (.iload_n 2, 1) := by decide +kernel
theorem dX8_turn_74 : decode cX8_turn 74 = .ok (.invokevirtual 306, 3) := by decide +kernel
theorem dX8_turn_77 : decode cX8_turn 77 = .ok (.ireturn, 1) := by decide +kernel
theorem dX8_turn_78 : decode cX8_turn 78 = .ok (.aload_n 0, 1) := by decide +kernel
theorem dX8_turn_79 : decode cX8_turn 79 = .ok (.bipush 70, 2) := by decide +kernel
theorem dX8_turn_81 : decode cX8_turn 81 = .ok (.invokevirtual 289, 3) := by decide +kernel
theorem dX8_turn_84 : decode cX8_turn 84 = .ok (.aload_n 0, 1) := by decide +kernel
theorem dX8_turn_85 : decode cX8_turn 85 = .ok (.iload_n 1, 1) := by decide +kernel
theorem dX8_turn_86 : decode cX8_turn 86 = .ok (.iload_n 2, 1) := by decide +kernel
theorem dX8_turn_87 : decode cX8_turn 87 = .ok (.invokevirtual 306, 3) := by decide +kernel
theorem dX8_turn_90 : decode cX8_turn 90 = .ok (.istore_n 3, 1) := by decide +kernel
theorem dX8_turn_91 : decode cX8_turn 91 = .ok (.iload_n 3, 1) := by decide +kernel
theorem dX8_turn_92 : decode cX8_turn 92 = .ok (.aload_n 0, 1) := by decide +kernel
theorem dX8_turn_93 : decode cX8_turn 93 = .ok (.iload_n 1, 1) := by decide +kernel
theorem dX8_turn_94 : decode cX8_turn 94 = .ok (.aload_n 0, 1) := by decide +kernel
theorem dX8_turn_95 : decode cX8_turn 95 = .ok (.getfield 19, 3) := by decide +kernel
theorem dX8_turn_98 : decode cX8_turn 98 = .ok (.iload_n 1, 1) := by decide +kernel
theorem dX8_turn_99 : decode cX8_turn 99 = .ok (.iaload, 1) := by decide +kernel
theorem dX8_turn_100 : decode cX8_turn 100 = .ok (.invokevirtual 303, 3) := by decide +kernel
theorem dX8_turn_103 : decode cX8_turn 103 = .ok (.ixor, 1) := by decide +kernel
theorem dX8_turn_104 : decode cX8_turn 104 = .ok (.ireturn, 1) := by decide +kernel
theorem dX8_plainEnd_0 : decode cX8_plainEnd 0 = .ok (.aload_n 0, 1) := by decide +kernel
theorem dX8_plainEnd_1 : decode cX8_plainEnd 1 = .ok (.bipush 13, 2) := by decide +kernel
theorem dX8_plainEnd_3 : decode cX8_plainEnd 3 = .ok (.invokevirtual 289, 3) := by decide +kernel
theorem dX8_plainEnd_6 : decode cX8_plainEnd 6 = .ok (.aload_n 0, 1) := by decide +kernel
theorem dX8_plainEnd_7 : decode cX8_plainEnd 7 = .ok (.iload_n 1, 1) := by decide +kernel
theorem dX8_plainEnd_8 : decode cX8_plainEnd 8 = .ok (.iload_n 2, 1) := by decide +kernel
theorem dX8_plainEnd_9 : decode cX8_plainEnd 9 = .ok (.invokevirtual 309, 3) := by decide +kernel
theorem dX8_plainEnd_12 : decode cX8_plainEnd 12 = .ok (.istore_n 3, 1) := by decide +kernel
theorem dX8_plainEnd_13 : decode cX8_plainEnd 13 = .ok (.iload_n 3, 1) := by decide +kernel
theorem dX8_plainEnd_14 : decode cX8_plainEnd 14 = .ok (.aload_n 0, 1) := by decide +kernel
theorem dX8_plainEnd_15 : decode cX8_plainEnd 15 = .ok (.iload_n 1, 1) := by decide +kernel
theorem dX8_plainEnd_16 : decode cX8_plainEnd 16 = .ok (.iload_n 2, 1) := by decide +kernel
theorem dX8_plainEnd_17 : decode cX8_plainEnd 17 = .ok (.invokevirtual 297, 3) := by decide +kernel
theorem dX8_plainEnd_20 : decode cX8_plainEnd 20 = .ok (.ixor, 1) := by decide +kernel
theorem dX8_plainEnd_21 : decode cX8_plainEnd 21 = .ok (.ireturn, 1) := by decide +kernel
theorem dX8_end_0 : decode cX8_end 0 = .ok (.aload_n 0, 1) := by decide +kernel
theorem dX8_end_1 : decode cX8_end 1 = .ok (.getfield 13, 3) := by decide +kernel
theorem dX8_end_4 : decode cX8_end 4 = .ok (.iload_n 1, 1) := by decide +kernel
theorem dX8_end_5 : decode cX8_end 5 = .ok (.iaload, 1) := by decide +kernel
theorem dX8_end_6 : decode cX8_end 6 = .ok (.iconst 2, 1) := by decide +kernel
theorem dX8_end_7 : decode cX8_end 7 = .ok (.if_icmp .eq 13, 3) := by decide +kernel
theorem dX8_end_10 : decode cX8_end 10 = .ok (.aload_n 0, 1) := by decide +kernel
theorem dX8_end_11 : decode cX8_end 11 = .ok (.getfield 13, 3) := by decide +kernel
theorem dX8_end_14 : decode cX8_end 14 = .ok (.iload_n 1, 1) := by decide +kernel
theorem dX8_end_15 : decode cX8_end 15 = .ok (.iaload, 1) := by decide +kernel
theorem dX8_end_16 : decode cX8_end 16 = .ok (.iconst 3, 1) := by decide +kernel
theorem dX8_end_17 : decode cX8_end 17 = .ok (.if_icmp .ne 18, 3) := by decide +kernel
theorem dX8_end_20 : decode cX8_end 20 = .ok (.aload_n 0, 1) := by decide +kernel
theorem dX8_end_21 : decode cX8_end 21 = .ok (.bipush 31, 2) := by decide +kernel
theorem dX8_end_23 : decode cX8_end 23 = .ok (.invokevirtual 289, 3) := by decide +kernel
theorem dX8_end_26 : decode cX8_end 26 = .ok (.aload_n 0, 1) := by decide +kernel
theorem dX8_end_27 : decode cX8_end 27 = .ok (.iload_n 1, 1) := by decide +kernel
theorem dX8_end_28 : decode cX8_end 28 = .ok (.iload_n 2, 1) := by decide +kernel
theorem dX8_end_29 : decode cX8_end 29 = .ok (.iconst 1, 1) := by decide +kernel
theorem dX8_end_30 : decode cX8_end 30 = .ok (.iadd, 1) := by decide +kernel
theorem dX8_end_31 : decode cX8_end 31 = .ok (.invokevirtual 312, 3) := by decide +kernel
theorem dX8_end_34 : decode cX8_end 34 = .ok (.ireturn, 1) := by decide +kernel
theorem dX8_end_35 : decode cX8_end 35 = .ok (.aload_n 0, 1) := by decide +kernel
theorem dX8_end_36 : decode cX8_end 36 = .ok (.getfield 13, 3) := by decide +kernel
theorem dX8_end_39 : decode cX8_end 39 = .ok (.iload_n 1, 1) := by decide +kernel
theorem dX8_end_40 : decode cX8_end 40 = .ok (.iaload, 1) := by decide +kernel
theorem dX8_end_41 : decode cX8_end 41 = .ok (.iconst 4, 1) := by decide +kernel
theorem dX8_end_42 : decode cX8_end 42 = .ok (.if_icmp .eq 10, 3) := by decide +kernel
theorem dX8_end_45 : decode cX8_end 45 = .ok (.aload_n 0, 1) := by decide +kernel
theorem dX8_end_46 : decode cX8_end 46 = .ok (.iload_n 1, 1) := by decide +kernel
theorem dX8_end_47 : decode cX8_end 47 = .ok (.iload_n 2, 1) := by decide +kernel
theorem dX8_end_48 : decode cX8_end 48 = .ok (.invokevirtual 312, 3) := by decide +kernel
theorem dX8_end_51 : decode cX8_end 51 = .ok (.ireturn, 1) := by decide +kernel
theorem dX8_end_52 : decode cX8_end 52 = .ok (.aload_n 0, 1) := by decide +kernel
theorem dX8_end_53 : decode cX8_end 53 = .ok (.bipush 50, 2) := by decide +kernel
theorem dX8_end_55 : decode cX8_end 55 = .ok (.invokevirtual 289, 3) := by decide +kernel
theorem dX8_end_58 : decode cX8_end 58 = .ok (.aload_n 0, 1) := by decide +kernel
theorem dX8_end_59 : decode cX8_end 59 = .ok (.iload_n 1, 1) := by decide +kernel
theorem dX8_end_60 : decode cX8_end 60 = .ok (.iload_n 2, 1) := by decide +kernel
theorem dX8_end_61 : decode cX8_end 61 = .ok (.invokevirtual 297, 3) := by decide +kernel
theorem dX8_end_64 : decode cX8_end 64 = .ok (.istore_n 3, 1) := by decide +kernel
theorem dX8_end_65 : decode cX8_end 65 = .ok (.iload_n 3, 1) := by decide +kernel
theorem dX8_end_66 : decode cX8_end 66 = .ok (.aload_n 0, 1) := by decide +kernel
theorem dX8_end_67 : decode cX8_end 67 = .ok (.iload_n 1, 1) := by decide +kernel
theorem dX8_end_68 : decode cX8_end 68 = .ok (.iload_n 2, 1) := by decide +kernel
theorem dX8_end_69 : decode cX8_end 69 = .ok (.invokevirtual 312, 3) := by decide +kernel
theorem dX8_end_72 : decode cX8_end 72 = .ok (.isub, 1) := by decide +kernel
theorem dX8_end_73 : decode cX8_end 73 = .ok (.ireturn, 1) := by decide +kernel
theorem dX8_act_0 : decode cX8_act 0 = .ok (.aload_n 0, 1) := by decide +kernel
theorem dX8_act_1 : decode cX8_act 1 = .ok (.iload_n 1, 1) := by decide +kernel
theorem dX8_act_2 : decode cX8_act 2 = .ok (.invokevirtual 142, 3) := by decide +kernel
theorem dX8_act_5 : decode cX8_act 5 = .ok (.ifCond .eq 15, 3) := by decide +kernel
theorem dX8_act_8 : decode cX8_act 8 = .ok (.iload_n 2, 1) := by decide +kernel
theorem dX8_act_9 : decode cX8_act 9 = .ok (.i2l, 1) := by decide +kernel
theorem dX8_act_10 : decode cX8_act 10 = .ok (.lconst 0, 1) := by decide +kernel
theorem dX8_act_11 : decode cX8_act 11 = .ok (.ldc2_w 272, 3) := by decide +kernel
theorem dX8_act_14 : decode cX8_act 14 = .ok (.invokestatic 126, 3) := by decide +kernel
theorem dX8_act_17 : decode cX8_act 17 = .ok (.ifCond .ne 9, 3) := by decide +kernel
theorem dX8_act_20 : decode cX8_act 20 = .ok (.aload_n 0, 1) := by decide +kernel
theorem dX8_act_21 : decode cX8_act 21 = .ok (.iconst 1, 1) := by decide +kernel
theorem dX8_act_22 : decode cX8_act 22 = .ok (.invokevirtual 113, 3) := by decide +kernel
theorem dX8_act_25 : decode cX8_act 25 = .ok (.ireturn, 1) := by decide +kernel
theorem dX8_act_26 : decode cX8_act 26 = .ok (.aload_n 0, 1) := by decide +kernel
theorem dX8_act_27 : decode cX8_act 27 = .ok (.iconst 0, 1) := by decide +kernel
theorem dX8_act_28 : decode cX8_act 28 = .ok (.putfield 286, 3) := by decide +kernel
theorem dX8_act_31 : decode cX8_act 31 = .ok (.aload_n 0, 1) := by decide +kernel
theorem dX8_act_32 : decode cX8_act 32 = .ok (.iload_n 2, 1) := by decide +kernel
theorem dX8_act_33 : decode cX8_act 33 = .ok (.ifCond .ne 12, 3) := by decide +kernel
theorem dX8_act_36 : decode cX8_act 36 = .ok (.aload_n 0, 1) := by decide +kernel
theorem dX8_act_37 : decode cX8_act 37 = .ok (.iload_n 1, 1) := by decide +kernel
theorem dX8_act_38 : decode cX8_act 38 = .ok (.iload_n 3, 1) := by decide +kernel
theorem dX8_act_39 : decode cX8_act 39 = .ok (.invokevirtual 303, 3) := by decide +kernel
theorem dX8_act_42 : decode cX8_act 42 = .ok (.goto 37, 3) := by decide +kernel
theorem dX8_act_45 : decode cX8_act 45 = .ok (.iload_n 2, 1) := by decide +kernel
theorem dX8_act_46 : decode cX8_act 46 = .ok (.iconst 1, 1) := by decide +kernel
theorem dX8_act_47 : decode cX8_act 47 = .ok (.if_icmp .ne 12, 3) := by decide +kernel
theorem dX8_act_50 : decode cX8_act 50 = .ok (.aload_n 0, 1) := by decide +kernel
theorem dX8_act_51 : decode cX8_act 51 = .ok (.iload_n 1, 1) := by decide +kernel
theorem dX8_act_52 : decode cX8_act 52 = .ok (.iload_n 3, 1) := by decide +kernel
theorem dX8_act_53 : decode cX8_act 53 = .ok (.invokevirtual 309, 3) := by decide +kernel
theorem dX8_act_56 : decode cX8_act 56 = .ok (.goto 23, 3) := by decide +kernel
theorem dX8_act_59 : decode cX8_act 59 = .ok (.iload_n 2, 1) := by decide +kernel
theorem dX8_act_60 : decode cX8_act 60 = .ok (.iconst 2, 1) := by decide +kernel
theorem dX8_act_61 : decode cX8_act 61 = .ok (.if_icmp .ne 12, 3) := by decide +kernel
theorem dX8_act_64 : decode cX8_act 64 = .ok (.aload_n 0, 1) := by decide +kernel
theorem dX8_act_65 : decode cX8_act 65 = .ok (.iload_n 1, 1) := by decide +kernel
theorem dX8_act_66 : decode cX8_act 66 = .ok (.iload_n 3, 1) := by decide +kernel
theorem dX8_act_67 : decode cX8_act 67 = .ok (.invokevirtual 297, 3) := by decide +kernel
theorem dX8_act_70 : decode cX8_act 70 = .ok (.goto 9, 3) := by decide +kernel
theorem dX8_act_73 : decode cX8_act 73 = .ok (.aload_n 0, 1) := by decide +kernel
theorem dX8_act_74 : decode cX8_act 74 = .ok (.iload_n 1, 1) := by decide +kernel
theorem dX8_act_75 : decode cX8_act 75 = .ok (.iload_n 3, 1) := by decide +kernel
theorem dX8_act_76 : decode cX8_act 76 = .ok (.invokevirtual 315, 3) := by decide +kernel
theorem dX8_act_79 : decode cX8_act 79 = .ok (.invokevirtual 117, 3) := by decide +kernel
theorem dX8_act_82 : decode cX8_act 82 = .ok (.ireturn, 1) := by decide +kernel
theorem dX8_trace_0 : decode cX8_trace 0 = .ok (.iload_n 1, 1) := by decide +kernel
theorem dX8_trace_1 : decode cX8_trace 1 = .ok (.i2l, 1) := by decide +kernel
theorem dX8_trace_2 : decode cX8_trace 2 = .ok (.lconst 0, 1) := by decide +kernel
theorem dX8_trace_3 : decode cX8_trace 3 = .ok (.aload_n 0, 1) := by decide +kernel
theorem dX8_trace_4 : decode cX8_trace 4 = .ok (.getfield 286, 3) := by decide +kernel
theorem dX8_trace_7 : decode cX8_trace 7 = .ok (.bipush 50, 2) := by decide +kernel
theorem dX8_trace_9 : decode cX8_trace 9 = .ok (.if_icmp .ge 10, 3) := by decide +kernel
theorem dX8_trace_12 : decode cX8_trace 12 = .ok (.aload_n 0, 1) := by decide +kernel
theorem dX8_trace_13 : decode cX8_trace 13 = .ok (.getfield 286, 3) := by decide +kernel
theorem dX8_trace_16 : decode cX8_trace 16 = .ok (.goto 5, 3) := by decide +kernel
theorem dX8_trace_19 : decode cX8_trace 19 = .ok (.bipush 50, 2) := by decide +kernel
theorem dX8_trace_21 : decode cX8_trace 21 = .ok (.iconst 1, 1) := by decide +kernel
theorem dX8_trace_22 : decode cX8_trace 22 = .ok (.isub, 1) := by decide +kernel
theorem dX8_trace_23 : decode cX8_trace 23 = .ok (.i2l, 1) := by decide +kernel
theorem dX8_trace_24 : decode cX8_trace 24 = .ok (.invokestatic 126, 3) := by decide +kernel
theorem dX8_trace_27 : decode cX8_trace 27 = .ok (.ifCond .eq 12, 3) := by decide +kernel
theorem dX8_trace_30 : decode cX8_trace 30 = .ok (.aload_n 0, 1) := by decide +kernel
theorem dX8_trace_31 : decode cX8_trace 31 = .ok (.getfield 97, 3) := by decide +kernel
theorem dX8_trace_34 : decode cX8_trace 34 = .ok (.iload_n 1, 1) := by decide +kernel
theorem dX8_trace_35 : decode cX8_trace 35 = .ok (.iaload, 1) := by decide +kernel
theorem dX8_trace_36 : decode cX8_trace 36 = .ok (.goto 4, 3) := by decide +kernel
theorem dX8_trace_39 : decode cX8_trace 39 = .ok (.iconst (-1), 1) := by decide +kernel
theorem dX8_trace_40 : decode cX8_trace 40 = .ok (.ireturn, 1) := by decide +kernel
theorem dX8_sheet_0 : decode cX8_sheet 0 = .ok (.iload_n 1, 1) := by decide +kernel
theorem dX8_sheet_1 : decode cX8_sheet 1 = .ok (.i2l, 1) := by decide +kernel
theorem dX8_sheet_2 : decode cX8_sheet 2 = .ok (.lconst 0, 1) := by decide +kernel
theorem dX8_sheet_3 : decode cX8_sheet 3 = .ok (.ldc2_w 272, 3) := by decide +kernel
theorem dX8_sheet_6 : decode cX8_sheet 6 = .ok (.invokestatic 126, 3) := by decide +kernel
theorem dX8_sheet_9 : decode cX8_sheet 9 = .ok (.ifCond .eq 33, 3) := by decide +kernel
theorem dX8_sheet_12 : decode cX8_sheet 12 = .ok (.iload_n 2, 1) := by decide +kernel
theorem dX8_sheet_13 : decode cX8_sheet 13 = .ok (.i2l, 1) := by decide +kernel
theorem dX8_sheet_14 : decode cX8_sheet 14 = .ok (.ldc2_w 318, 3) := by decide +kernel
theorem dX8_sheet_17 : decode cX8_sheet 17 = .ok (.ldc2_w 267, 3) := by decide +kernel
theorem dX8_sheet_20 : decode cX8_sheet 20 = .ok (.invokestatic 126, 3) := by decide +kernel
theorem dX8_sheet_23 : decode cX8_sheet 23 = .ok (.ifCond .eq 19, 3) := by decide +kernel
theorem dX8_sheet_26 : decode cX8_sheet 26 = .ok (.iload_n 2, 1) := by decide +kernel
theorem dX8_sheet_27 : decode cX8_sheet 27 = .ok (.ifCond .lt 21, 3) := by decide +kernel
theorem dX8_sheet_30 : decode cX8_sheet 30 = .ok (.iload_n 3, 1) := by decide +kernel
theorem dX8_sheet_31 : decode cX8_sheet 31 = .ok (.i2l, 1) := by decide +kernel
theorem dX8_sheet_32 : decode cX8_sheet 32 = .ok (.lconst 0, 1) := by decide +kernel
theorem dX8_sheet_33 : decode cX8_sheet 33 = .ok (.ldc2_w 320, 3) := by decide +kernel
theorem dX8_sheet_36 : decode cX8_sheet 36 = .ok (.invokestatic 126, 3) := by decide +kernel
theorem dX8_sheet_39 : decode cX8_sheet 39 = .ok (.ifCond .ne 9, 3) := by decide +kernel
theorem dX8_sheet_42 : decode cX8_sheet 42 = .ok (.aload_n 0, 1) := by decide +kernel
theorem dX8_sheet_43 : decode cX8_sheet 43 = .ok (.iconst 1, 1) := by decide +kernel
theorem dX8_sheet_44 : decode cX8_sheet 44 = .ok (.invokevirtual 113, 3) := by decide +kernel
theorem dX8_sheet_47 : decode cX8_sheet 47 = .ok (.ireturn, 1) := by decide +kernel
theorem dX8_sheet_48 : decode cX8_sheet 48 = .ok (.aload_n 0, 1) := by decide +kernel
theorem dX8_sheet_49 : decode cX8_sheet 49 = .ok (.getfield 100, 3) := by decide +kernel
theorem dX8_sheet_52 : decode cX8_sheet 52 = .ok (.iload_n 1, 1) := by decide +kernel
theorem dX8_sheet_53 : decode cX8_sheet 53 = .ok (.iload_n 2, 1) := by decide +kernel
theorem dX8_sheet_54 : decode cX8_sheet 54 = .ok (.iconst 1, 1) := by decide +kernel
theorem dX8_sheet_55 : decode cX8_sheet 55 = .ok (.iadd, 1) := by decide +kernel
theorem dX8_sheet_56 : decode cX8_sheet 56 = .ok (.iastore, 1) := by decide +kernel
theorem dX8_sheet_57 : decode cX8_sheet 57 = .ok (.aload_n 0, 1) := by decide +kernel
theorem dX8_sheet_58 : decode cX8_sheet 58 = .ok (.getfield 103, 3) := by decide +kernel
theorem dX8_sheet_61 : decode cX8_sheet 61 = .ok (.iload_n 1, 1) := by decide +kernel
theorem dX8_sheet_62 : decode cX8_sheet 62 = .ok (.iload_n 2, 1) := by decide +kernel
theorem dX8_sheet_63 : decode cX8_sheet 63 = .ok (.ifCond .ge 7, 3) := by decide +kernel
theorem dX8_sheet_66 : decode cX8_sheet 66 = .ok (.iconst 0, 1) := by decide +kernel
theorem dX8_sheet_67 : decode cX8_sheet 67 = .ok (.goto 4, 3) := by decide +kernel
theorem dX8_sheet_70 : decode cX8_sheet 70 = .ok (.iload_n 3, 1) := by decide +kernel
theorem dX8_sheet_71 : decode cX8_sheet 71 = .ok (.iastore, 1) := by decide +kernel
theorem dX8_sheet_72 : decode cX8_sheet 72 = .ok (.bipush 40, 2) := by decide +kernel
theorem dX8_sheet_74 : decode cX8_sheet 74 = .ok (.iload_n 1, 1) := by decide +kernel
theorem dX8_sheet_75 : decode cX8_sheet 75 = .ok (.imul, 1) := by decide +kernel
theorem dX8_sheet_76 : decode cX8_sheet 76 = .ok (.istore 4, 2) := by decide +kernel
theorem dX8_sheet_78 : decode cX8_sheet 78 = .ok (.iload 4, 2) := by decide +kernel
theorem dX8_sheet_80 : decode cX8_sheet 80 = .ok (.bipush 40, 2) := by decide +kernel
theorem dX8_sheet_82 : decode cX8_sheet 82 = .ok (.iload_n 1, 1) := by decide +kernel
theorem dX8_sheet_83 : decode cX8_sheet 83 = .ok (.imul, 1) := by decide +kernel
theorem dX8_sheet_84 : decode cX8_sheet 84 = .ok (.bipush 40, 2) := by decide +kernel
theorem dX8_sheet_86 : decode cX8_sheet 86 = .ok (.iadd, 1) := by decide +kernel
theorem dX8_sheet_87 : decode cX8_sheet 87 = .ok (.if_icmp .ge 17, 3) := by decide +kernel
theorem dX8_sheet_90 : decode cX8_sheet 90 = .ok (.aload_n 0, 1) := by decide +kernel
theorem dX8_sheet_91 : decode cX8_sheet 91 = .ok (.getfield 106, 3) := by decide +kernel
theorem dX8_sheet_94 : decode cX8_sheet 94 = .ok (.iload 4, 2) := by decide +kernel
theorem dX8_sheet_96 : decode cX8_sheet 96 = .ok (.iconst 0, 1) := by decide +kernel
theorem dX8_sheet_97 : decode cX8_sheet 97 = .ok (.iastore, 1) := by decide +kernel
theorem dX8_sheet_98 : decode cX8_sheet 98 = .ok (.iinc 4 1, 3) := by decide +kernel
theorem dX8_sheet_101 : decode cX8_sheet 101 = .ok (.goto (-23), 3) := by decide +kernel
theorem dX8_sheet_104 : decode cX8_sheet 104 = .ok (.aload_n 0, 1) := by decide +kernel
theorem dX8_sheet_105 : decode cX8_sheet 105 = .ok (.iconst 1, 1) := by decide +kernel
theorem dX8_sheet_106 : decode cX8_sheet 106 = .ok (.invokevirtual 117, 3) := by decide +kernel
theorem dX8_sheet_109 : decode cX8_sheet 109 = .ok (.ireturn, 1) := by decide +kernel
theorem dX8_byteOf_0 : decode cX8_byteOf 0 = .ok (.iload_n 0, 1) := by decide +kernel
theorem dX8_byteOf_1 : decode cX8_byteOf 1 = .ok (.sipush 255, 3) := by decide +kernel
theorem dX8_byteOf_4 : decode cX8_byteOf 4 = .ok (.iand, 1) := by decide +kernel
theorem dX8_byteOf_5 : decode cX8_byteOf 5 = .ok (.istore_n 1, 1) := by decide +kernel
theorem dX8_byteOf_6 : decode cX8_byteOf 6 = .ok (.iload_n 1, 1) := by decide +kernel
theorem dX8_byteOf_7 : decode cX8_byteOf 7 = .ok (.bipush 127, 2) := by decide +kernel
theorem dX8_byteOf_9 : decode cX8_byteOf 9 = .ok (.if_icmp .le 11, 3) := by decide +kernel
theorem dX8_byteOf_12 : decode cX8_byteOf 12 = .ok (.iload_n 1, 1) := by decide +kernel
theorem dX8_byteOf_13 : decode cX8_byteOf 13 = .ok (.sipush 256, 3) := by decide +kernel
theorem dX8_byteOf_16 : decode cX8_byteOf 16 = .ok (.isub, 1) := by decide +kernel
theorem dX8_byteOf_17 : decode cX8_byteOf 17 = .ok (.goto 4, 3) := by decide +kernel
theorem dX8_byteOf_20 : decode cX8_byteOf 20 = .ok (.iload_n 1, 1) := by decide +kernel
theorem dX8_byteOf_21 : decode cX8_byteOf 21 = .ok (.ireturn, 1) := by decide +kernel
theorem dX8_cell_0 : decode cX8_cell 0 = .ok (.iload_n 1, 1) := by decide +kernel
theorem dX8_cell_1 : decode cX8_cell 1 = .ok (.i2l, 1) := by decide +kernel
theorem dX8_cell_2 : decode cX8_cell 2 = .ok (.lconst 0, 1) := by decide +kernel
theorem dX8_cell_3 : decode cX8_cell 3 = .ok (.ldc2_w 272, 3) := by decide +kernel
theorem dX8_cell_6 : decode cX8_cell 6 = .ok (.invokestatic 126, 3) := by decide +kernel
theorem dX8_cell_9 : decode cX8_cell 9 = .ok (.ifCond .eq 17, 3) := by decide +kernel
theorem dX8_cell_12 : decode cX8_cell 12 = .ok (.iload_n 3, 1) := by decide +kernel
theorem dX8_cell_13 : decode cX8_cell 13 = .ok (.i2l, 1) := by decide +kernel
theorem dX8_cell_14 : decode cX8_cell 14 = .ok (.ldc2_w 322, 3) := by decide +kernel
theorem dX8_cell_17 : decode cX8_cell 17 = .ok (.ldc2_w 324, 3) := by decide +kernel
theorem dX8_cell_20 : decode cX8_cell 20 = .ok (.invokestatic 126, 3) := by decide +kernel
theorem dX8_cell_23 : decode cX8_cell 23 = .ok (.ifCond .ne 9, 3) := by decide +kernel
theorem dX8_cell_26 : decode cX8_cell 26 = .ok (.aload_n 0, 1) := by decide +kernel
theorem dX8_cell_27 : decode cX8_cell 27 = .ok (.iconst 1, 1) := by decide +kernel
theorem dX8_cell_28 : decode cX8_cell 28 = .ok (.invokevirtual 113, 3) := by decide +kernel
theorem dX8_cell_31 : decode cX8_cell 31 = .ok (.ireturn, 1) := by decide +kernel
theorem dX8_cell_32 : decode cX8_cell 32 = .ok (.aload_n 0, 1) := by decide +kernel
theorem dX8_cell_33 : decode cX8_cell 33 = .ok (.getfield 100, 3) := by decide +kernel
theorem dX8_cell_36 : decode cX8_cell 36 = .ok (.iload_n 1, 1) := by decide +kernel
theorem dX8_cell_37 : decode cX8_cell 37 = .ok (.iaload, 1) := by decide +kernel
theorem dX8_cell_38 : decode cX8_cell 38 = .ok (.ifCond .ne 10, 3) := by decide +kernel
theorem dX8_cell_41 : decode cX8_cell 41 = .ok (.aload_n 0, 1) := by decide +kernel
theorem dX8_cell_42 : decode cX8_cell 42 = .ok (.bipush 10, 2) := by decide +kernel
theorem dX8_cell_44 : decode cX8_cell 44 = .ok (.invokevirtual 113, 3) := by decide +kernel
theorem dX8_cell_47 : decode cX8_cell 47 = .ok (.ireturn, 1) := by decide +kernel
theorem dX8_cell_48 : decode cX8_cell 48 = .ok (.iload_n 2, 1) := by decide +kernel
theorem dX8_cell_49 : decode cX8_cell 49 = .ok (.i2l, 1) := by decide +kernel
theorem dX8_cell_50 : decode cX8_cell 50 = .ok (.lconst 0, 1) := by decide +kernel
theorem dX8_cell_51 : decode cX8_cell 51 = .ok (.aload_n 0, 1) := by decide +kernel
theorem dX8_cell_52 : decode cX8_cell 52 = .ok (.getfield 103, 3) := by decide +kernel
theorem dX8_cell_55 : decode cX8_cell 55 = .ok (.iload_n 1, 1) := by decide +kernel
theorem dX8_cell_56 : decode cX8_cell 56 = .ok (.iaload, 1) := by decide +kernel
theorem dX8_cell_57 : decode cX8_cell 57 = .ok (.iconst 1, 1) := by decide +kernel
theorem dX8_cell_58 : decode cX8_cell 58 = .ok (.isub, 1) := by decide +kernel
theorem dX8_cell_59 : decode cX8_cell 59 = .ok (.i2l, 1) := by decide +kernel
theorem dX8_cell_60 : decode cX8_cell 60 = .ok (.invokestatic 126, 3) := by decide +kernel
theorem dX8_cell_63 : decode cX8_cell 63 = .ok (.ifCond .ne 10, 3) := by decide +kernel
theorem dX8_cell_66 : decode cX8_cell 66 = .ok (.aload_n 0, 1) := by decide +kernel
theorem dX8_cell_67 : decode cX8_cell 67 = .ok (.bipush 12, 2) := by decide +kernel
theorem dX8_cell_69 : decode cX8_cell 69 = .ok (.invokevirtual 113, 3) := by decide +kernel
theorem dX8_cell_72 : decode cX8_cell 72 = .ok (.ireturn, 1) := by decide +kernel
theorem dX8_cell_73 : decode cX8_cell 73 = .ok (.aload_n 0, 1) := by decide +kernel
theorem dX8_cell_74 : decode cX8_cell 74 = .ok (.getfield 106, 3) := by decide +kernel
theorem dX8_cell_77 : decode cX8_cell 77 = .ok (.bipush 40, 2) := by decide +kernel
theorem dX8_cell_79 : decode cX8_cell 79 = .ok (.iload_n 1, 1) := by decide +kernel
theorem dX8_cell_80 : decode cX8_cell 80 = .ok (.imul, 1) := by decide +kernel
theorem dX8_cell_81 : decode cX8_cell 81 = .ok (.iload_n 2, 1) := by decide +kernel
theorem dX8_cell_82 : decode cX8_cell 82 = .ok (.iadd, 1) := by decide +kernel
theorem dX8_cell_83 : decode cX8_cell 83 = .ok (.aload_n 0, 1) := by decide +kernel
theorem dX8_cell_84 : decode cX8_cell 84 = .ok (.getfield 100, 3) := by decide +kernel
theorem dX8_cell_87 : decode cX8_cell 87 = .ok (.iload_n 1, 1) := by decide +kernel
theorem dX8_cell_88 : decode cX8_cell 88 = .ok (.iaload, 1) := by decide +kernel
theorem dX8_cell_89 : decode cX8_cell 89 = .ok (.iconst 1, 1) := by decide +kernel
theorem dX8_cell_90 : decode cX8_cell 90 = .ok (.if_icmp .ne 10, 3) := by decide +kernel
theorem dX8_cell_93 : decode cX8_cell 93 = .ok (.iload_n 3, 1) := by decide +kernel
theorem dX8_cell_94 : decode cX8_cell 94 = .ok (.invokestatic 326, 3) := by decide +kernel
theorem dX8_cell_97 : decode cX8_cell 97 = .ok (.goto 4, 3) := by decide +kernel
theorem dX8_cell_100 : decode cX8_cell 100 = .ok (.iload_n 3, 1) := by decide +kernel
theorem dX8_cell_101 : decode cX8_cell 101 = .ok (.iastore, 1) := by decide +kernel
theorem dX8_cell_102 : decode cX8_cell 102 = .ok (.aload_n 0, 1) := by decide +kernel
theorem dX8_cell_103 : decode cX8_cell 103 = .ok (.iconst 1, 1) := by decide +kernel
theorem dX8_cell_104 : decode cX8_cell 104 = .ok (.invokevirtual 117, 3) := by decide +kernel
theorem dX8_cell_107 : decode cX8_cell 107 = .ok (.ireturn, 1) := by decide +kernel
theorem dX8_order_0 : decode cX8_order 0 = .ok (.iload_n 1, 1) := by decide +kernel
theorem dX8_order_1 : decode cX8_order 1 = .ok (.i2l, 1) := by decide +kernel
theorem dX8_order_2 : decode cX8_order 2 = .ok (.lconst 0, 1) := by decide +kernel
theorem dX8_order_3 : decode cX8_order 3 = .ok (.ldc2_w 272, 3) := by decide +kernel
theorem dX8_order_6 : decode cX8_order 6 = .ok (.invokestatic 126, 3) := by decide +kernel
theorem dX8_order_9 : decode cX8_order 9 = .ok (.ifCond .eq 15, 3) := by decide +kernel
theorem dX8_order_12 : decode cX8_order 12 = .ok (.iload_n 2, 1) := by decide +kernel
theorem dX8_order_13 : decode cX8_order 13 = .ok (.i2l, 1) := by decide +kernel
theorem dX8_order_14 : decode cX8_order 14 = .ok (.lconst 0, 1) := by decide +kernel
theorem dX8_order_15 : decode cX8_order 15 = .ok (.ldc2_w 267, 3) := by decide +kernel
theorem dX8_order_18 : decode cX8_order 18 = .ok (.invokestatic 126, 3) := by decide +kernel
theorem dX8_order_21 : decode cX8_order 21 = .ok (.ifCond .ne 9, 3) := by decide +kernel
theorem dX8_order_24 : decode cX8_order 24 = .ok (.aload_n 0, 1) := by decide +kernel
theorem dX8_order_25 : decode cX8_order 25 = .ok (.iconst 1, 1) := by decide +kernel
theorem dX8_order_26 : decode cX8_order 26 = .ok (.invokevirtual 113, 3) := by decide +kernel
theorem dX8_order_29 : decode cX8_order 29 = .ok (.ireturn, 1) := by decide +kernel
theorem dX8_order_30 : decode cX8_order 30 = .ok (.aload_n 0, 1) := by decide +kernel
theorem dX8_order_31 : decode cX8_order 31 = .ok (.getfield 70, 3) := by decide +kernel
theorem dX8_order_34 : decode cX8_order 34 = .ok (.iconst 1, 1) := by decide +kernel
theorem dX8_order_35 : decode cX8_order 35 = .ok (.iaload, 1) := by decide +kernel
theorem dX8_order_36 : decode cX8_order 36 = .ok (.bipush 24, 2) := by decide +kernel
theorem dX8_order_38 : decode cX8_order 38 = .ok (.if_icmp .ne 9, 3) := by decide +kernel
theorem dX8_order_41 : decode cX8_order 41 = .ok (.aload_n 0, 1) := by decide +kernel
theorem dX8_order_42 : decode cX8_order 42 = .ok (.iconst 2, 1) := by decide +kernel
theorem dX8_order_43 : decode cX8_order 43 = .ok (.invokevirtual 113, 3) := by decide +kernel
theorem dX8_order_46 : decode cX8_order 46 = .ok (.ireturn, 1) := by decide +kernel
theorem dX8_order_47 : decode cX8_order 47 = .ok (.aload_n 0, 1) := by decide +kernel
theorem dX8_order_48 : decode cX8_order 48 = .ok (.getfield 100, 3) := by decide +kernel
theorem dX8_order_51 : decode cX8_order 51 = .ok (.iload_n 1, 1) := by decide +kernel
theorem dX8_order_52 : decode cX8_order 52 = .ok (.iaload, 1) := by decide +kernel
theorem dX8_order_53 : decode cX8_order 53 = .ok (.ifCond .ne 10, 3) := by decide +kernel
theorem dX8_order_56 : decode cX8_order 56 = .ok (.aload_n 0, 1) := by decide +kernel
theorem dX8_order_57 : decode cX8_order 57 = .ok (.bipush 10, 2) := by decide +kernel
theorem dX8_order_59 : decode cX8_order 59 = .ok (.invokevirtual 113, 3) := by decide +kernel
theorem dX8_order_62 : decode cX8_order 62 = .ok (.ireturn, 1) := by decide +kernel
theorem dX8_order_63 : decode cX8_order 63 = .ok (.aload_n 0, 1) := by decide +kernel
theorem dX8_order_64 : decode cX8_order 64 = .ok (.getfield 100, 3) := by decide +kernel
theorem dX8_order_67 : decode cX8_order 67 = .ok (.iload_n 1, 1) := by decide +kernel
theorem dX8_order_68 : decode cX8_order 68 = .ok (.iaload, 1) := by decide +kernel
theorem dX8_order_69 : decode cX8_order 69 = .ok (.iload_n 2, 1) := by decide +kernel
theorem dX8_order_70 : decode cX8_order 70 = .ok (.iconst 1, 1) := by decide +kernel
theorem dX8_order_71 : decode cX8_order 71 = .ok (.iadd, 1) := by decide +kernel
theorem dX8_order_72 : decode cX8_order 72 = .ok (.if_icmp .eq 10, 3) := by decide +kernel
theorem dX8_order_75 : decode cX8_order 75 = .ok (.aload_n 0, 1) := by decide +kernel
theorem dX8_order_76 : decode cX8_order 76 = .ok (.bipush 11, 2) := by decide +kernel
theorem dX8_order_78 : decode cX8_order 78 = .ok (.invokevirtual 113, 3) := by decide +kernel
theorem dX8_order_81 : decode cX8_order 81 = .ok (.ireturn, 1) := by decide +kernel
theorem dX8_order_82 : decode cX8_order 82 = .ok (.iload_n 3, 1) := by decide +kernel
theorem dX8_order_83 : decode cX8_order 83 = .ok (.ifCond .lt 20, 3) := by decide +kernel
theorem dX8_order_86 : decode cX8_order 86 = .ok (.iload_n 3, 1) := by decide +kernel
theorem dX8_order_87 : decode cX8_order 87 = .ok (.i2l, 1) := by decide +kernel
theorem dX8_order_88 : decode cX8_order 88 = .ok (.ldc2_w 329, 3) := by decide +kernel
theorem dX8_order_91 : decode cX8_order 91 = .ok (.ladd, 1) := by decide +kernel
theorem dX8_order_92 : decode cX8_order 92 = .ok (.aload_n 0, 1) := by decide +kernel
theorem dX8_order_93 : decode cX8_order 93 = .ok (.getfield 103, 3) := by decide +kernel
theorem dX8_order_96 : decode cX8_order 96 = .ok (.iload_n 1, 1) := by decide +kernel
theorem dX8_order_97 : decode cX8_order 97 = .ok (.iaload, 1) := by decide +kernel
theorem dX8_order_98 : decode cX8_order 98 = .ok (.i2l, 1) := by decide +kernel
theorem dX8_order_99 : decode cX8_order 99 = .ok (.lcmp, 1) := by decide +kernel
theorem dX8_order_100 : decode cX8_order 100 = .ok (.ifCond .le 10, 3) := by decide +kernel
theorem dX8_order_103 : decode cX8_order 103 = .ok (.aload_n 0, 1) := by decide +kernel
theorem dX8_order_104 : decode cX8_order 104 = .ok (.bipush 12, 2) := by decide +kernel
theorem dX8_order_106 : decode cX8_order 106 = .ok (.invokevirtual 113, 3) := by decide +kernel
theorem dX8_order_109 : decode cX8_order 109 = .ok (.ireturn, 1) := by decide +kernel
theorem dX8_order_110 : decode cX8_order 110 = .ok (.bipush 40, 2) := by decide +kernel
theorem dX8_order_112 : decode cX8_order 112 = .ok (.iload_n 1, 1) := by decide +kernel
theorem dX8_order_113 : decode cX8_order 113 = .ok (.imul, 1) := by decide +kernel
theorem dX8_order_114 : decode cX8_order 114 = .ok (.iload_n 3, 1) := by decide +kernel
theorem dX8_order_115 : decode cX8_order 115 = .ok (.iadd, 1) := by decide +kernel
theorem dX8_order_116 : decode cX8_order 116 = .ok (.istore 4, 2) := by decide +kernel
theorem dX8_order_118 : decode cX8_order 118 = .ok (.aload_n 0, 1) := by decide +kernel
theorem dX8_order_119 : decode cX8_order 119 = .ok (.aload_n 0, 1) := by decide +kernel
theorem dX8_order_120 : decode cX8_order 120 = .ok (.getfield 106, 3) := by decide +kernel
theorem dX8_order_123 : decode cX8_order 123 = .ok (.iload 4, 2) := by decide +kernel
theorem dX8_order_125 : decode cX8_order 125 = .ok (.iaload, 1) := by decide +kernel
theorem dX8_order_126 : decode cX8_order 126 = .ok (.aload_n 0, 1) := by decide +kernel
theorem dX8_order_127 : decode cX8_order 127 = .ok (.getfield 106, 3) := by decide +kernel
theorem dX8_order_130 : decode cX8_order 130 = .ok (.iload 4, 2) := by decide +kernel
theorem dX8_order_132 : decode cX8_order 132 = .ok (.iconst 1, 1) := by decide +kernel
theorem dX8_order_133 : decode cX8_order 133 = .ok (.iadd, 1) := by decide +kernel
theorem dX8_order_134 : decode cX8_order 134 = .ok (.iaload, 1) := by decide +kernel
theorem dX8_order_135 : decode cX8_order 135 = .ok (.aload_n 0, 1) := by decide +kernel
theorem dX8_order_136 : decode cX8_order 136 = .ok (.getfield 106, 3) := by decide +kernel
theorem dX8_order_139 : decode cX8_order 139 = .ok (.iload 4, 2) := by decide +kernel
theorem dX8_order_141 : decode cX8_order 141 = .ok (.iconst 2, 1) := by decide +kernel
theorem dX8_order_142 : decode cX8_order 142 = .ok (.iadd, 1) := by decide +kernel
theorem dX8_order_143 : decode cX8_order 143 = .ok (.iaload, 1) := by decide +kernel
theorem dX8_order_144 : decode cX8_order 144 = .ok (.aload_n 0, 1) := by decide +kernel
theorem dX8_order_145 : decode cX8_order 145 = .ok (.getfield 106, 3) := by decide +kernel
theorem dX8_order_148 : decode cX8_order 148 = .ok (.iload 4, 2) := by decide +kernel
theorem dX8_order_150 : decode cX8_order 150 = .ok (.iconst 3, 1) := by decide +kernel
theorem dX8_order_151 : decode cX8_order 151 = .ok (.iadd, 1) := by decide +kernel
theorem dX8_order_152 : decode cX8_order 152 = .ok (.iaload, 1) := by decide +kernel
theorem dX8_order_153 : decode cX8_order 153 = .ok (.aload_n 0, 1) := by decide +kernel
theorem dX8_order_154 : decode cX8_order 154 = .ok (.getfield 106, 3) := by decide +kernel
theorem dX8_order_157 : decode cX8_order 157 = .ok (.iload 4, 2) := by decide +kernel
theorem dX8_order_159 : decode cX8_order 159 = .ok (.iconst 4, 1) := by decide +kernel
theorem dX8_order_160 : decode cX8_order 160 = .ok (.iadd, 1) := by decide +kernel
theorem dX8_order_161 : decode cX8_order 161 = .ok (.iaload, 1) := by decide +kernel
theorem dX8_order_162 : decode cX8_order 162 = .ok (.invokevirtual 134, 3) := by decide +kernel
theorem dX8_order_165 : decode cX8_order 165 = .ok (.ifCond .ne 9, 3) := by decide +kernel
theorem dX8_order_168 : decode cX8_order 168 = .ok (.aload_n 0, 1) := by decide +kernel
theorem dX8_order_169 : decode cX8_order 169 = .ok (.iconst 3, 1) := by decide +kernel
theorem dX8_order_170 : decode cX8_order 170 = .ok (.invokevirtual 113, 3) := by decide +kernel
theorem dX8_order_173 : decode cX8_order 173 = .ok (.ireturn, 1) := by decide +kernel
theorem dX8_order_174 : decode cX8_order 174 = .ok (.aload_n 0, 1) := by decide +kernel
theorem dX8_order_175 : decode cX8_order 175 = .ok (.aload_n 0, 1) := by decide +kernel
theorem dX8_order_176 : decode cX8_order 176 = .ok (.getfield 106, 3) := by decide +kernel
theorem dX8_order_179 : decode cX8_order 179 = .ok (.iload 4, 2) := by decide +kernel
theorem dX8_order_181 : decode cX8_order 181 = .ok (.iaload, 1) := by decide +kernel
theorem dX8_order_182 : decode cX8_order 182 = .ok (.aload_n 0, 1) := by decide +kernel
theorem dX8_order_183 : decode cX8_order 183 = .ok (.getfield 106, 3) := by decide +kernel
theorem dX8_order_186 : decode cX8_order 186 = .ok (.iload 4, 2) := by decide +kernel
theorem dX8_order_188 : decode cX8_order 188 = .ok (.iconst 1, 1) := by decide +kernel
theorem dX8_order_189 : decode cX8_order 189 = .ok (.iadd, 1) := by decide +kernel
theorem dX8_order_190 : decode cX8_order 190 = .ok (.iaload, 1) := by decide +kernel
theorem dX8_order_191 : decode cX8_order 191 = .ok (.aload_n 0, 1) := by decide +kernel
theorem dX8_order_192 : decode cX8_order 192 = .ok (.getfield 106, 3) := by decide +kernel
theorem dX8_order_195 : decode cX8_order 195 = .ok (.iload 4, 2) := by decide +kernel
theorem dX8_order_197 : decode cX8_order 197 = .ok (.iconst 2, 1) := by decide +kernel
theorem dX8_order_198 : decode cX8_order 198 = .ok (.iadd, 1) := by decide +kernel
theorem dX8_order_199 : decode cX8_order 199 = .ok (.iaload, 1) := by decide +kernel
theorem dX8_order_200 : decode cX8_order 200 = .ok (.aload_n 0, 1) := by decide +kernel
theorem dX8_order_201 : decode cX8_order 201 = .ok (.getfield 106, 3) := by decide +kernel
theorem dX8_order_204 : decode cX8_order 204 = .ok (.iload 4, 2) := by decide +kernel
theorem dX8_order_206 : decode cX8_order 206 = .ok (.iconst 3, 1) := by decide +kernel
theorem dX8_order_207 : decode cX8_order 207 = .ok (.iadd, 1) := by decide +kernel
theorem dX8_order_208 : decode cX8_order 208 = .ok (.iaload, 1) := by decide +kernel
theorem dX8_order_209 : decode cX8_order 209 = .ok (.aload_n 0, 1) := by decide +kernel
theorem dX8_order_210 : decode cX8_order 210 = .ok (.getfield 106, 3) := by decide +kernel
theorem dX8_order_213 : decode cX8_order 213 = .ok (.iload 4, 2) := by decide +kernel
theorem dX8_order_215 : decode cX8_order 215 = .ok (.iconst 4, 1) := by decide +kernel
theorem dX8_order_216 : decode cX8_order 216 = .ok (.iadd, 1) := by decide +kernel
theorem dX8_order_217 : decode cX8_order 217 = .ok (.iaload, 1) := by decide +kernel
theorem dX8_order_218 : decode cX8_order 218 = .ok (.invokevirtual 138, 3) := by decide +kernel
theorem dX8_order_221 : decode cX8_order 221 = .ok (.ireturn, 1) := by decide +kernel
theorem dX8_modulo_0 : decode cX8_modulo 0 = .ok (.iload_n 0, 1) := by decide +kernel
theorem dX8_modulo_1 : decode cX8_modulo 1 = .ok (.iload_n 1, 1) := by decide +kernel
theorem dX8_modulo_2 : decode cX8_modulo 2 = .ok (.irem, 1) := by decide +kernel
theorem dX8_modulo_3 : decode cX8_modulo 3 = .ok (.iload_n 1, 1) := by decide +kernel
theorem dX8_modulo_4 : decode cX8_modulo 4 = .ok (.iadd, 1) := by decide +kernel
theorem dX8_modulo_5 : decode cX8_modulo 5 = .ok (.iload_n 1, 1) := by decide +kernel
theorem dX8_modulo_6 : decode cX8_modulo 6 = .ok (.irem, 1) := by decide +kernel
theorem dX8_modulo_7 : decode cX8_modulo 7 = .ok (.ireturn, 1) := by decide +kernel
theorem dX8_forge_0 : decode cX8_forge 0 = .ok (.iload_n 1, 1) := by decide +kernel
theorem dX8_forge_1 : decode cX8_forge 1 = .ok (.i2l, 1) := by decide +kernel
theorem dX8_forge_2 : decode cX8_forge 2 = .ok (.lconst 0, 1) := by decide +kernel
theorem dX8_forge_3 : decode cX8_forge 3 = .ok (.ldc2_w 331, 3) := by decide +kernel
theorem dX8_forge_6 : decode cX8_forge 6 = .ok (.invokestatic 126, 3) := by decide +kernel
theorem dX8_forge_9 : decode cX8_forge 9 = .ok (.ifCond .eq 31, 3) := by decide +kernel
theorem dX8_forge_12 : decode cX8_forge 12 = .ok (.iload_n 2, 1) := by decide +kernel
theorem dX8_forge_13 : decode cX8_forge 13 = .ok (.i2l, 1) := by decide +kernel
theorem dX8_forge_14 : decode cX8_forge 14 = .ok (.ldc2_w 333, 3) := by decide +kernel
theorem dX8_forge_17 : decode cX8_forge 17 = .ok (.ldc2_w 335, 3) := by decide +kernel
theorem dX8_forge_20 : decode cX8_forge 20 = .ok (.invokestatic 126, 3) := by decide +kernel
theorem dX8_forge_23 : decode cX8_forge 23 = .ok (.ifCond .eq 17, 3) := by decide +kernel
theorem dX8_forge_26 : decode cX8_forge 26 = .ok (.iload_n 3, 1) := by decide +kernel
theorem dX8_forge_27 : decode cX8_forge 27 = .ok (.i2l, 1) := by decide +kernel
theorem dX8_forge_28 : decode cX8_forge 28 = .ok (.ldc2_w 333, 3) := by decide +kernel
theorem dX8_forge_31 : decode cX8_forge 31 = .ok (.ldc2_w 335, 3) := by decide +kernel
theorem dX8_forge_34 : decode cX8_forge 34 = .ok (.invokestatic 126, 3) := by decide +kernel
theorem dX8_forge_37 : decode cX8_forge 37 = .ok (.ifCond .ne 9, 3) := by decide +kernel
theorem dX8_forge_40 : decode cX8_forge 40 = .ok (.aload_n 0, 1) := by decide +kernel
theorem dX8_forge_41 : decode cX8_forge 41 = .ok (.iconst 1, 1) := by decide +kernel
theorem dX8_forge_42 : decode cX8_forge 42 = .ok (.invokevirtual 113, 3) := by decide +kernel
theorem dX8_forge_45 : decode cX8_forge 45 = .ok (.ireturn, 1) := by decide +kernel
theorem dX8_forge_46 : decode cX8_forge 46 = .ok (.iload_n 3, 1) := by decide +kernel
theorem dX8_forge_47 : decode cX8_forge 47 = .ok (.bipush 24, 2) := by decide +kernel
theorem dX8_forge_49 : decode cX8_forge 49 = .ok (.invokestatic 337, 3) := by decide +kernel
theorem dX8_forge_52 : decode cX8_forge 52 = .ok (.istore 4, 2) := by decide +kernel
theorem dX8_forge_54 : decode cX8_forge 54 = .ok (.iload_n 3, 1) := by decide +kernel
theorem dX8_forge_55 : decode cX8_forge 55 = .ok (.iconst 4, 1) := by decide +kernel
theorem dX8_forge_56 : decode cX8_forge 56 = .ok (.invokestatic 337, 3) := by decide +kernel
theorem dX8_forge_59 : decode cX8_forge 59 = .ok (.istore 5, 2) := by decide +kernel
theorem dX8_forge_61 : decode cX8_forge 61 = .ok (.iload_n 1, 1) := by decide +kernel
theorem dX8_forge_62 : decode cX8_forge 62 = .ok (.tableswitch 317 0 5 #[38, 129, 148, 228, 236, 294], 38) := by decide +kernel
theorem dX8_forge_100 : decode cX8_forge 100 = .ok (.iload_n 2, 1) := by decide +kernel
theorem dX8_forge_101 : decode cX8_forge 101 = .ok (.bipush 8, 2) := by decide +kernel
theorem dX8_forge_103 : decode cX8_forge 103 = .ok (.invokestatic 337, 3) := by decide +kernel
theorem dX8_forge_106 : decode cX8_forge 106 = .ok (.istore 6, 2) := by decide +kernel
theorem dX8_forge_108 : decode cX8_forge 108 = .ok (.aload_n 0, 1) := by decide +kernel
theorem dX8_forge_109 : decode cX8_forge 109 = .ok (.iload 4, 2) := by decide +kernel
theorem dX8_forge_111 : decode cX8_forge 111 = .ok (.invokevirtual 142, 3) := by decide +kernel
theorem dX8_forge_114 : decode cX8_forge 114 = .ok (.ifCond .ne 10, 3) := by decide +kernel
theorem dX8_forge_117 : decode cX8_forge 117 = .ok (.aload_n 0, 1) := by decide +kernel
theorem dX8_forge_118 : decode cX8_forge 118 = .ok (.bipush 10, 2) := by decide +kernel
theorem dX8_forge_120 : decode cX8_forge 120 = .ok (.invokevirtual 113, 3) := by decide +kernel
theorem dX8_forge_123 : decode cX8_forge 123 = .ok (.ireturn, 1) := by decide +kernel
theorem dX8_forge_124 : decode cX8_forge 124 = .ok (.iload 6, 2) := by decide +kernel
theorem dX8_forge_126 : decode cX8_forge 126 = .ok (.ifCond .eq 32, 3) := by decide +kernel
theorem dX8_forge_129 : decode cX8_forge 129 = .ok (.aload_n 0, 1) := by decide +kernel
theorem dX8_forge_130 : decode cX8_forge 130 = .ok (.getfield 13, 3) := by decide +kernel
theorem dX8_forge_133 : decode cX8_forge 133 = .ok (.iload 4, 2) := by decide +kernel
theorem dX8_forge_135 : decode cX8_forge 135 = .ok (.iaload, 1) := by decide +kernel
theorem dX8_forge_136 : decode cX8_forge 136 = .ok (.iload 6, 2) := by decide +kernel
theorem dX8_forge_138 : decode cX8_forge 138 = .ok (.if_icmp .eq 20, 3) := by decide +kernel
theorem dX8_forge_141 : decode cX8_forge 141 = .ok (.iload 6, 2) := by decide +kernel
theorem dX8_forge_143 : decode cX8_forge 143 = .ok (.iconst 2, 1) := by decide +kernel
theorem dX8_forge_144 : decode cX8_forge 144 = .ok (.if_icmp .ne 18, 3) := by decide +kernel
theorem dX8_forge_147 : decode cX8_forge 147 = .ok (.aload_n 0, 1) := by decide +kernel
theorem dX8_forge_148 : decode cX8_forge 148 = .ok (.getfield 13, 3) := by decide +kernel
theorem dX8_forge_151 : decode cX8_forge 151 = .ok (.iload 4, 2) := by decide +kernel
theorem dX8_forge_153 : decode cX8_forge 153 = .ok (.iaload, 1) := by decide +kernel
theorem dX8_forge_154 : decode cX8_forge 154 = .ok (.iconst 3, 1) := by decide +kernel
theorem dX8_forge_155 : decode cX8_forge 155 = .ok (.if_icmp .ne 7, 3) := by decide +kernel
theorem dX8_forge_158 : decode cX8_forge 158 = .ok (.iconst 1, 1) := by decide +kernel
theorem dX8_forge_159 : decode cX8_forge 159 = .ok (.goto 4, 3) := by decide +kernel
theorem dX8_forge_162 : decode cX8_forge 162 = .ok (.iconst 0, 1) := by decide +kernel
theorem dX8_forge_163 : decode cX8_forge 163 = .ok (.istore 7, 2) := by decide +kernel
theorem dX8_forge_165 : decode cX8_forge 165 = .ok (.iload 7, 2) := by decide +kernel
theorem dX8_forge_167 : decode cX8_forge 167 = .ok (.ifCond .eq 17, 3) := by decide +kernel
theorem dX8_forge_170 : decode cX8_forge 170 = .ok (.aload_n 0, 1) := by decide +kernel
theorem dX8_forge_171 : decode cX8_forge 171 = .ok (.aload_n 0, 1) := by decide +kernel
theorem dX8_forge_172 : decode cX8_forge 172 = .ok (.getfield 13, 3) := by decide +kernel
theorem dX8_forge_175 : decode cX8_forge 175 = .ok (.iload 4, 2) := by decide +kernel
theorem dX8_forge_177 : decode cX8_forge 177 = .ok (.iaload, 1) := by decide +kernel
theorem dX8_forge_178 : decode cX8_forge 178 = .ok (.invokevirtual 117, 3) := by decide +kernel
theorem dX8_forge_181 : decode cX8_forge 181 = .ok (.goto 9, 3) := by decide +kernel
theorem dX8_forge_184 : decode cX8_forge 184 = .ok (.aload_n 0, 1) := by decide +kernel
theorem dX8_forge_185 : decode cX8_forge 185 = .ok (.bipush 11, 2) := by decide +kernel
theorem dX8_forge_187 : decode cX8_forge 187 = .ok (.invokevirtual 113, 3) := by decide +kernel
theorem dX8_forge_190 : decode cX8_forge 190 = .ok (.ireturn, 1) := by decide +kernel
theorem dX8_forge_191 : decode cX8_forge 191 = .ok (.iload_n 2, 1) := by decide +kernel
theorem dX8_forge_192 : decode cX8_forge 192 = .ok (.ifCond .ge 12, 3) := by decide +kernel
theorem dX8_forge_195 : decode cX8_forge 195 = .ok (.aload_n 0, 1) := by decide +kernel
theorem dX8_forge_196 : decode cX8_forge 196 = .ok (.bipush 13, 2) := by decide +kernel
theorem dX8_forge_198 : decode cX8_forge 198 = .ok (.invokevirtual 113, 3) := by decide +kernel
theorem dX8_forge_201 : decode cX8_forge 201 = .ok (.goto 8, 3) := by decide +kernel
theorem dX8_forge_204 : decode cX8_forge 204 = .ok (.aload_n 0, 1) := by decide +kernel
theorem dX8_forge_205 : decode cX8_forge 205 = .ok (.iload_n 2, 1) := by decide +kernel
theorem dX8_forge_206 : decode cX8_forge 206 = .ok (.invokevirtual 117, 3) := by decide +kernel
theorem dX8_forge_209 : decode cX8_forge 209 = .ok (.ireturn, 1) := by decide +kernel
theorem dX8_forge_210 : decode cX8_forge 210 = .ok (.aload_n 0, 1) := by decide +kernel
theorem dX8_forge_211 : decode cX8_forge 211 = .ok (.getfield 100, 3) := by decide +kernel
theorem dX8_forge_214 : decode cX8_forge 214 = .ok (.iload 5, 2) := by decide +kernel
theorem dX8_forge_216 : decode cX8_forge 216 = .ok (.iaload, 1) := by decide +kernel
theorem dX8_forge_217 : decode cX8_forge 217 = .ok (.ifCond .ne 10, 3) := by decide +kernel
theorem dX8_forge_220 : decode cX8_forge 220 = .ok (.aload_n 0, 1) := by decide +kernel
theorem dX8_forge_221 : decode cX8_forge 221 = .ok (.bipush 10, 2) := by decide +kernel
theorem dX8_forge_223 : decode cX8_forge 223 = .ok (.invokevirtual 113, 3) := by decide +kernel
theorem dX8_forge_226 : decode cX8_forge 226 = .ok (.ireturn, 1) := by decide +kernel
theorem dX8_forge_227 : decode cX8_forge 227 = .ok (.aload_n 0, 1) := by decide +kernel
theorem dX8_forge_228 : decode cX8_forge 228 = .ok (.getfield 100, 3) := by decide +kernel
theorem dX8_forge_231 : decode cX8_forge 231 = .ok (.iload 5, 2) := by decide +kernel
theorem dX8_forge_233 : decode cX8_forge 233 = .ok (.iaload, 1) := by decide +kernel
theorem dX8_forge_234 : decode cX8_forge 234 = .ok (.iconst 2, 1) := by decide +kernel
theorem dX8_forge_235 : decode cX8_forge 235 = .ok (.if_icmp .eq 10, 3) := by decide +kernel
theorem dX8_forge_238 : decode cX8_forge 238 = .ok (.aload_n 0, 1) := by decide +kernel
theorem dX8_forge_239 : decode cX8_forge 239 = .ok (.bipush 11, 2) := by decide +kernel
theorem dX8_forge_241 : decode cX8_forge 241 = .ok (.invokevirtual 113, 3) := by decide +kernel
theorem dX8_forge_244 : decode cX8_forge 244 = .ok (.ireturn, 1) := by decide +kernel
theorem dX8_forge_245 : decode cX8_forge 245 = .ok (.iload_n 2, 1) := by decide +kernel
theorem dX8_forge_246 : decode cX8_forge 246 = .ok (.i2l, 1) := by decide +kernel
theorem dX8_forge_247 : decode cX8_forge 247 = .ok (.lconst 0, 1) := by decide +kernel
theorem dX8_forge_248 : decode cX8_forge 248 = .ok (.aload_n 0, 1) := by decide +kernel
theorem dX8_forge_249 : decode cX8_forge 249 = .ok (.getfield 103, 3) := by decide +kernel
theorem dX8_forge_252 : decode cX8_forge 252 = .ok (.iload 5, 2) := by decide +kernel
theorem dX8_forge_254 : decode cX8_forge 254 = .ok (.iaload, 1) := by decide +kernel
theorem dX8_forge_255 : decode cX8_forge 255 = .ok (.iconst 1, 1) := by decide +kernel
theorem dX8_forge_256 : decode cX8_forge 256 = .ok (.isub, 1) := by decide +kernel
theorem dX8_forge_257 : decode cX8_forge 257 = .ok (.i2l, 1) := by decide +kernel
theorem dX8_forge_258 : decode cX8_forge 258 = .ok (.invokestatic 126, 3) := by decide +kernel
theorem dX8_forge_261 : decode cX8_forge 261 = .ok (.ifCond .eq 22, 3) := by decide +kernel
theorem dX8_forge_264 : decode cX8_forge 264 = .ok (.aload_n 0, 1) := by decide +kernel
theorem dX8_forge_265 : decode cX8_forge 265 = .ok (.aload_n 0, 1) := by decide +kernel
theorem dX8_forge_266 : decode cX8_forge 266 = .ok (.getfield 106, 3) := by decide +kernel
theorem dX8_forge_269 : decode cX8_forge 269 = .ok (.bipush 40, 2) := by decide +kernel
theorem dX8_forge_271 : decode cX8_forge 271 = .ok (.iload 5, 2) := by decide +kernel
theorem dX8_forge_273 : decode cX8_forge 273 = .ok (.imul, 1) := by decide +kernel
theorem dX8_forge_274 : decode cX8_forge 274 = .ok (.iload_n 2, 1) := by decide +kernel
theorem dX8_forge_275 : decode cX8_forge 275 = .ok (.iadd, 1) := by decide +kernel
theorem dX8_forge_276 : decode cX8_forge 276 = .ok (.iaload, 1) := by decide +kernel
theorem dX8_forge_277 : decode cX8_forge 277 = .ok (.invokevirtual 117, 3) := by decide +kernel
theorem dX8_forge_280 : decode cX8_forge 280 = .ok (.goto 9, 3) := by decide +kernel
theorem dX8_forge_283 : decode cX8_forge 283 = .ok (.aload_n 0, 1) := by decide +kernel
theorem dX8_forge_284 : decode cX8_forge 284 = .ok (.bipush 12, 2) := by decide +kernel
theorem dX8_forge_286 : decode cX8_forge 286 = .ok (.invokevirtual 113, 3) := by decide +kernel
theorem dX8_forge_289 : decode cX8_forge 289 = .ok (.ireturn, 1) := by decide +kernel
theorem dX8_forge_290 : decode cX8_forge 290 = .ok (.aload_n 0, 1) := by decide +kernel
theorem dX8_forge_291 : decode cX8_forge 291 = .ok (.iload 5, 2) := by decide +kernel
theorem dX8_forge_293 : decode cX8_forge 293 = .ok (.iload_n 2, 1) := by decide +kernel
theorem dX8_forge_294 : decode cX8_forge 294 = .ok (.invokevirtual 340, 3) := by decide +kernel
theorem dX8_forge_297 : decode cX8_forge 297 = .ok (.ireturn, 1) := by decide +kernel
theorem dX8_forge_298 : decode cX8_forge 298 = .ok (.aload_n 0, 1) := by decide +kernel
theorem dX8_forge_299 : decode cX8_forge 299 = .ok (.iload 4, 2) := by decide +kernel
theorem dX8_forge_301 : decode cX8_forge 301 = .ok (.invokevirtual 142, 3) := by decide +kernel
theorem dX8_forge_304 : decode cX8_forge 304 = .ok (.ifCond .ne 9, 3) := by decide +kernel
theorem dX8_forge_307 : decode cX8_forge 307 = .ok (.aload_n 0, 1) := by decide +kernel
theorem dX8_forge_308 : decode cX8_forge 308 = .ok (.iconst 0, 1) := by decide +kernel
theorem dX8_forge_309 : decode cX8_forge 309 = .ok (.invokevirtual 117, 3) := by decide +kernel
theorem dX8_forge_312 : decode cX8_forge 312 = .ok (.ireturn, 1) := by decide +kernel
theorem dX8_forge_313 : decode cX8_forge 313 = .ok (.aload_n 0, 1) := by decide +kernel
theorem dX8_forge_314 : decode cX8_forge 314 = .ok (.getfield 13, 3) := by decide +kernel
theorem dX8_forge_317 : decode cX8_forge 317 = .ok (.iload 4, 2) := by decide +kernel
theorem dX8_forge_319 : decode cX8_forge 319 = .ok (.iaload, 1) := by decide +kernel
theorem dX8_forge_320 : decode cX8_forge 320 = .ok (.iconst 2, 1) := by decide +kernel
theorem dX8_forge_321 : decode cX8_forge 321 = .ok (.if_icmp .eq 14, 3) := by decide +kernel
theorem dX8_forge_324 : decode cX8_forge 324 = .ok (.aload_n 0, 1) := by decide +kernel
theorem dX8_forge_325 : decode cX8_forge 325 = .ok (.getfield 13, 3) := by decide +kernel
theorem dX8_forge_328 : decode cX8_forge 328 = .ok (.iload 4, 2) := by decide +kernel
theorem dX8_forge_330 : decode cX8_forge 330 = .ok (.iaload, 1) := by decide +kernel
theorem dX8_forge_331 : decode cX8_forge 331 = .ok (.iconst 3, 1) := by decide +kernel
theorem dX8_forge_332 : decode cX8_forge 332 = .ok (.if_icmp .ne 17, 3) := by decide +kernel
theorem dX8_forge_335 : decode cX8_forge 335 = .ok (.aload_n 0, 1) := by decide +kernel
theorem dX8_forge_336 : decode cX8_forge 336 = .ok (.aload_n 0, 1) := by decide +kernel
theorem dX8_forge_337 : decode cX8_forge 337 = .ok (.getfield 13, 3) := by decide +kernel
theorem dX8_forge_340 : decode cX8_forge 340 = .ok (.iload 4, 2) := by decide +kernel
theorem dX8_forge_342 : decode cX8_forge 342 = .ok (.iaload, 1) := by decide +kernel
theorem dX8_forge_343 : decode cX8_forge 343 = .ok (.invokevirtual 117, 3) := by decide +kernel
theorem dX8_forge_346 : decode cX8_forge 346 = .ok (.goto 9, 3) := by decide +kernel
theorem dX8_forge_349 : decode cX8_forge 349 = .ok (.aload_n 0, 1) := by decide +kernel
theorem dX8_forge_350 : decode cX8_forge 350 = .ok (.bipush 14, 2) := by decide +kernel
theorem dX8_forge_352 : decode cX8_forge 352 = .ok (.invokevirtual 113, 3) := by decide +kernel
theorem dX8_forge_355 : decode cX8_forge 355 = .ok (.ireturn, 1) := by decide +kernel
theorem dX8_forge_356 : decode cX8_forge 356 = .ok (.iload_n 2, 1) := by decide +kernel
theorem dX8_forge_357 : decode cX8_forge 357 = .ok (.ifCond .ne 12, 3) := by decide +kernel
theorem dX8_forge_360 : decode cX8_forge 360 = .ok (.aload_n 0, 1) := by decide +kernel
theorem dX8_forge_361 : decode cX8_forge 361 = .ok (.bipush 15, 2) := by decide +kernel
theorem dX8_forge_363 : decode cX8_forge 363 = .ok (.invokevirtual 113, 3) := by decide +kernel
theorem dX8_forge_366 : decode cX8_forge 366 = .ok (.goto 12, 3) := by decide +kernel
theorem dX8_forge_369 : decode cX8_forge 369 = .ok (.aload_n 0, 1) := by decide +kernel
theorem dX8_forge_370 : decode cX8_forge 370 = .ok (.sipush 1000, 3) := by decide +kernel
theorem dX8_forge_373 : decode cX8_forge 373 = .ok (.iload_n 2, 1) := by decide +kernel
theorem dX8_forge_374 : decode cX8_forge 374 = .ok (.idiv, 1) := by decide +kernel
theorem dX8_forge_375 : decode cX8_forge 375 = .ok (.invokevirtual 117, 3) := by decide +kernel
theorem dX8_forge_378 : decode cX8_forge 378 = .ok (.ireturn, 1) := by decide +kernel
theorem dX8_forge_379 : decode cX8_forge 379 = .ok (.iload_n 2, 1) := by decide +kernel
theorem dX8_forge_380 : decode cX8_forge 380 = .ok (.iconst 2, 1) := by decide +kernel
theorem dX8_forge_381 : decode cX8_forge 381 = .ok (.invokestatic 337, 3) := by decide +kernel
theorem dX8_forge_384 : decode cX8_forge 384 = .ok (.ifCond .ne 12, 3) := by decide +kernel
theorem dX8_forge_387 : decode cX8_forge 387 = .ok (.aload_n 0, 1) := by decide +kernel
theorem dX8_forge_388 : decode cX8_forge 388 = .ok (.bipush 10, 2) := by decide +kernel
theorem dX8_forge_390 : decode cX8_forge 390 = .ok (.invokevirtual 113, 3) := by decide +kernel
theorem dX8_forge_393 : decode cX8_forge 393 = .ok (.goto 8, 3) := by decide +kernel
theorem dX8_forge_396 : decode cX8_forge 396 = .ok (.aload_n 0, 1) := by decide +kernel
theorem dX8_forge_397 : decode cX8_forge 397 = .ok (.iconst 1, 1) := by decide +kernel
theorem dX8_forge_398 : decode cX8_forge 398 = .ok (.invokevirtual 117, 3) := by decide +kernel
theorem dX8_forge_401 : decode cX8_forge 401 = .ok (.ireturn, 1) := by decide +kernel
theorem dX8_copied_0 : decode cX8_copied 0 = .ok (.aload_n 0, 1) := by decide +kernel
theorem dX8_copied_1 : decode cX8_copied 1 = .ok (.getfield 100, 3) := by decide +kernel
theorem dX8_copied_4 : decode cX8_copied 4 = .ok (.iload_n 1, 1) := by decide +kernel
theorem dX8_copied_5 : decode cX8_copied 5 = .ok (.iaload, 1) := by decide +kernel
theorem dX8_copied_6 : decode cX8_copied 6 = .ok (.ifCond .ne 10, 3) := by decide +kernel
theorem dX8_copied_9 : decode cX8_copied 9 = .ok (.aload_n 0, 1) := by decide +kernel
theorem dX8_copied_10 : decode cX8_copied 10 = .ok (.bipush 10, 2) := by decide +kernel
theorem dX8_copied_12 : decode cX8_copied 12 = .ok (.invokevirtual 113, 3) := by decide +kernel
theorem dX8_copied_15 : decode cX8_copied 15 = .ok (.ireturn, 1) := by decide +kernel
theorem dX8_copied_16 : decode cX8_copied 16 = .ok (.aload_n 0, 1) := by decide +kernel
theorem dX8_copied_17 : decode cX8_copied 17 = .ok (.getfield 100, 3) := by decide +kernel
theorem dX8_copied_20 : decode cX8_copied 20 = .ok (.iload_n 1, 1) := by decide +kernel
theorem dX8_copied_21 : decode cX8_copied 21 = .ok (.iaload, 1) := by decide +kernel
theorem dX8_copied_22 : decode cX8_copied 22 = .ok (.iconst 1, 1) := by decide +kernel
theorem dX8_copied_23 : decode cX8_copied 23 = .ok (.if_icmp .eq 10, 3) := by decide +kernel
theorem dX8_copied_26 : decode cX8_copied 26 = .ok (.aload_n 0, 1) := by decide +kernel
theorem dX8_copied_27 : decode cX8_copied 27 = .ok (.bipush 11, 2) := by decide +kernel
theorem dX8_copied_29 : decode cX8_copied 29 = .ok (.invokevirtual 113, 3) := by decide +kernel
theorem dX8_copied_32 : decode cX8_copied 32 = .ok (.ireturn, 1) := by decide +kernel
theorem dX8_copied_33 : decode cX8_copied 33 = .ok (.iload_n 2, 1) := by decide +kernel
theorem dX8_copied_34 : decode cX8_copied 34 = .ok (.ifCond .lt 23, 3) := by decide +kernel
theorem dX8_copied_37 : decode cX8_copied 37 = .ok (.iload_n 2, 1) := by decide +kernel
theorem dX8_copied_38 : decode cX8_copied 38 = .ok (.iconst 1, 1) := by decide +kernel
theorem dX8_copied_39 : decode cX8_copied 39 = .ok (.iadd, 1) := by decide +kernel
theorem dX8_copied_40 : decode cX8_copied 40 = .ok (.aload_n 0, 1) := by decide +kernel
theorem dX8_copied_41 : decode cX8_copied 41 = .ok (.getfield 103, 3) := by decide +kernel
theorem dX8_copied_44 : decode cX8_copied 44 = .ok (.iload_n 1, 1) := by decide +kernel
theorem dX8_copied_45 : decode cX8_copied 45 = .ok (.iaload, 1) := by decide +kernel
theorem dX8_copied_46 : decode cX8_copied 46 = .ok (.if_icmp .gt 11, 3) := by decide +kernel
theorem dX8_copied_49 : decode cX8_copied 49 = .ok (.iload_n 2, 1) := by decide +kernel
theorem dX8_copied_50 : decode cX8_copied 50 = .ok (.iload_n 2, 1) := by decide +kernel
theorem dX8_copied_51 : decode cX8_copied 51 = .ok (.iadd, 1) := by decide +kernel
theorem dX8_copied_52 : decode cX8_copied 52 = .ok (.bipush 6, 2) := by decide +kernel
theorem dX8_copied_54 : decode cX8_copied 54 = .ok (.if_icmp .le 10, 3) := by decide +kernel
theorem dX8_copied_57 : decode cX8_copied 57 = .ok (.aload_n 0, 1) := by decide +kernel
theorem dX8_copied_58 : decode cX8_copied 58 = .ok (.bipush 12, 2) := by decide +kernel
theorem dX8_copied_60 : decode cX8_copied 60 = .ok (.invokevirtual 113, 3) := by decide +kernel
theorem dX8_copied_63 : decode cX8_copied 63 = .ok (.ireturn, 1) := by decide +kernel
theorem dX8_copied_64 : decode cX8_copied 64 = .ok (.iconst 0, 1) := by decide +kernel
theorem dX8_copied_65 : decode cX8_copied 65 = .ok (.istore_n 3, 1) := by decide +kernel
theorem dX8_copied_66 : decode cX8_copied 66 = .ok (.iconst 1, 1) := by decide +kernel
theorem dX8_copied_67 : decode cX8_copied 67 = .ok (.istore 4, 2) := by decide +kernel
theorem dX8_copied_69 : decode cX8_copied 69 = .ok (.iload 4, 2) := by decide +kernel
theorem dX8_copied_71 : decode cX8_copied 71 = .ok (.iload_n 2, 1) := by decide +kernel
theorem dX8_copied_72 : decode cX8_copied 72 = .ok (.if_icmp .gt 24, 3) := by decide +kernel
theorem dX8_copied_75 : decode cX8_copied 75 = .ok (.iload_n 3, 1) := by decide +kernel
theorem dX8_copied_76 : decode cX8_copied 76 = .ok (.aload_n 0, 1) := by decide +kernel
theorem dX8_copied_77 : decode cX8_copied 77 = .ok (.getfield 106, 3) := by decide +kernel
theorem dX8_copied_80 : decode cX8_copied 80 = .ok (.bipush 40, 2) := by decide +kernel
theorem dX8_copied_82 : decode cX8_copied 82 = .ok (.iload_n 1, 1) := by decide +kernel
theorem dX8_copied_83 : decode cX8_copied 83 = .ok (.imul, 1) := by decide +kernel
theorem dX8_copied_84 : decode cX8_copied 84 = .ok (.iload 4, 2) := by decide +kernel
theorem dX8_copied_86 : decode cX8_copied 86 = .ok (.iadd, 1) := by decide +kernel
theorem dX8_copied_87 : decode cX8_copied 87 = .ok (.iaload, 1) := by decide +kernel
theorem dX8_copied_88 : decode cX8_copied 88 = .ok (.iadd, 1) := by decide +kernel
theorem dX8_copied_89 : decode cX8_copied 89 = .ok (.istore_n 3, 1) := by decide +kernel
theorem dX8_copied_90 : decode cX8_copied 90 = .ok (.iinc 4 1, 3) := by decide +kernel
theorem dX8_copied_93 : decode cX8_copied 93 = .ok (.goto (-24), 3) := by decide +kernel
theorem dX8_copied_96 : decode cX8_copied 96 = .ok (.aload_n 0, 1) := by decide +kernel
theorem dX8_copied_97 : decode cX8_copied 97 = .ok (.iload_n 3, 1) := by decide +kernel
theorem dX8_copied_98 : decode cX8_copied 98 = .ok (.invokevirtual 117, 3) := by decide +kernel
theorem dX8_copied_101 : decode cX8_copied 101 = .ok (.ireturn, 1) := by decide +kernel
theorem dX8_status_0 : decode cX8_status 0 = .ok (.aload_n 0, 1) := by decide +kernel
theorem dX8_status_1 : decode cX8_status 1 = .ok (.getfield 109, 3) := by decide +kernel
theorem dX8_status_4 : decode cX8_status 4 = .ok (.ireturn, 1) := by decide +kernel
theorem dJ6_bitCount_0f7a4_0 : decode cJ6_bitCount_0f7a4 0 = .ok (.iload_n 0, 1) := by decide +kernel
theorem dJ6_bitCount_0f7a4_1 : decode cJ6_bitCount_0f7a4 1 = .ok (.iload_n 0, 1) := by decide +kernel
theorem dJ6_bitCount_0f7a4_2 : decode cJ6_bitCount_0f7a4 2 = .ok (.iconst 1, 1) := by decide +kernel
theorem dJ6_bitCount_0f7a4_3 : decode cJ6_bitCount_0f7a4 3 = .ok (.iushr, 1) := by decide +kernel
theorem dJ6_bitCount_0f7a4_4 : decode cJ6_bitCount_0f7a4 4 = .ok (.ldc_w 265, 3) := by decide +kernel
theorem dJ6_bitCount_0f7a4_7 : decode cJ6_bitCount_0f7a4 7 = .ok (.iand, 1) := by decide +kernel
theorem dJ6_bitCount_0f7a4_8 : decode cJ6_bitCount_0f7a4 8 = .ok (.isub, 1) := by decide +kernel
theorem dJ6_bitCount_0f7a4_9 : decode cJ6_bitCount_0f7a4 9 = .ok (.istore_n 0, 1) := by decide +kernel
theorem dJ6_bitCount_0f7a4_10 : decode cJ6_bitCount_0f7a4 10 = .ok (.iload_n 0, 1) := by decide +kernel
theorem dJ6_bitCount_0f7a4_11 : decode cJ6_bitCount_0f7a4 11 = .ok (.ldc_w 266, 3) := by decide +kernel
theorem dJ6_bitCount_0f7a4_14 : decode cJ6_bitCount_0f7a4 14 = .ok (.iand, 1) := by decide +kernel
theorem dJ6_bitCount_0f7a4_15 : decode cJ6_bitCount_0f7a4 15 = .ok (.iload_n 0, 1) := by decide +kernel
theorem dJ6_bitCount_0f7a4_16 : decode cJ6_bitCount_0f7a4 16 = .ok (.iconst 2, 1) := by decide +kernel
theorem dJ6_bitCount_0f7a4_17 : decode cJ6_bitCount_0f7a4 17 = .ok (.iushr, 1) := by decide +kernel
theorem dJ6_bitCount_0f7a4_18 : decode cJ6_bitCount_0f7a4 18 = .ok (.ldc_w 266, 3) := by decide +kernel
theorem dJ6_bitCount_0f7a4_21 : decode cJ6_bitCount_0f7a4 21 = .ok (.iand, 1) := by decide +kernel
theorem dJ6_bitCount_0f7a4_22 : decode cJ6_bitCount_0f7a4 22 = .ok (.iadd, 1) := by decide +kernel
theorem dJ6_bitCount_0f7a4_23 : decode cJ6_bitCount_0f7a4 23 = .ok (.istore_n 0, 1) := by decide +kernel
theorem dJ6_bitCount_0f7a4_24 : decode cJ6_bitCount_0f7a4 24 = .ok (.iload_n 0, 1) := by decide +kernel
theorem dJ6_bitCount_0f7a4_25 : decode cJ6_bitCount_0f7a4 25 = .ok (.iload_n 0, 1) := by decide +kernel
theorem dJ6_bitCount_0f7a4_26 : decode cJ6_bitCount_0f7a4 26 = .ok (.iconst 4, 1) := by decide +kernel
theorem dJ6_bitCount_0f7a4_27 : decode cJ6_bitCount_0f7a4 27 = .ok (.iushr, 1) := by decide +kernel
theorem dJ6_bitCount_0f7a4_28 : decode cJ6_bitCount_0f7a4 28 = .ok (.iadd, 1) := by decide +kernel
theorem dJ6_bitCount_0f7a4_29 : decode cJ6_bitCount_0f7a4 29 = .ok (.ldc_w 267, 3) := by decide +kernel
theorem dJ6_bitCount_0f7a4_32 : decode cJ6_bitCount_0f7a4 32 = .ok (.iand, 1) := by decide +kernel
theorem dJ6_bitCount_0f7a4_33 : decode cJ6_bitCount_0f7a4 33 = .ok (.istore_n 0, 1) := by decide +kernel
theorem dJ6_bitCount_0f7a4_34 : decode cJ6_bitCount_0f7a4 34 = .ok (.iload_n 0, 1) := by decide +kernel
theorem dJ6_bitCount_0f7a4_35 : decode cJ6_bitCount_0f7a4 35 = .ok (.iload_n 0, 1) := by decide +kernel
theorem dJ6_bitCount_0f7a4_36 : decode cJ6_bitCount_0f7a4 36 = .ok (.bipush 8, 2) := by decide +kernel
theorem dJ6_bitCount_0f7a4_38 : decode cJ6_bitCount_0f7a4 38 = .ok (.iushr, 1) := by decide +kernel
theorem dJ6_bitCount_0f7a4_39 : decode cJ6_bitCount_0f7a4 39 = .ok (.iadd, 1) := by decide +kernel
theorem dJ6_bitCount_0f7a4_40 : decode cJ6_bitCount_0f7a4 40 = .ok (.istore_n 0, 1) := by decide +kernel
theorem dJ6_bitCount_0f7a4_41 : decode cJ6_bitCount_0f7a4 41 = .ok (.iload_n 0, 1) := by decide +kernel
theorem dJ6_bitCount_0f7a4_42 : decode cJ6_bitCount_0f7a4 42 = .ok (.iload_n 0, 1) := by decide +kernel
theorem dJ6_bitCount_0f7a4_43 : decode cJ6_bitCount_0f7a4 43 = .ok (.bipush 16, 2) := by decide +kernel
theorem dJ6_bitCount_0f7a4_45 : decode cJ6_bitCount_0f7a4 45 = .ok (.iushr, 1) := by decide +kernel
theorem dJ6_bitCount_0f7a4_46 : decode cJ6_bitCount_0f7a4 46 = .ok (.iadd, 1) := by decide +kernel
theorem dJ6_bitCount_0f7a4_47 : decode cJ6_bitCount_0f7a4 47 = .ok (.istore_n 0, 1) := by decide +kernel
theorem dJ6_bitCount_0f7a4_48 : decode cJ6_bitCount_0f7a4 48 = .ok (.iload_n 0, 1) := by decide +kernel
theorem dJ6_bitCount_0f7a4_49 : decode cJ6_bitCount_0f7a4 49 = .ok (.bipush 63, 2) := by decide +kernel
theorem dJ6_bitCount_0f7a4_51 : decode cJ6_bitCount_0f7a4 51 = .ok (.iand, 1) := by decide +kernel
theorem dJ6_bitCount_0f7a4_52 : decode cJ6_bitCount_0f7a4 52 = .ok (.ireturn, 1) := by decide +kernel
theorem dJ9_floorMod_7cf53_0 : decode cJ9_floorMod_7cf53 0 = .ok (.iload_n 0, 1) := by decide +kernel
theorem dJ9_floorMod_7cf53_1 : decode cJ9_floorMod_7cf53 1 = .ok (.iload_n 1, 1) := by decide +kernel
theorem dJ9_floorMod_7cf53_2 : decode cJ9_floorMod_7cf53 2 = .ok (.irem, 1) := by decide +kernel
theorem dJ9_floorMod_7cf53_3 : decode cJ9_floorMod_7cf53 3 = .ok (.istore_n 2, 1) := by decide +kernel
theorem dJ9_floorMod_7cf53_4 : decode cJ9_floorMod_7cf53 4 = .ok (.iload_n 0, 1) := by decide +kernel
theorem dJ9_floorMod_7cf53_5 : decode cJ9_floorMod_7cf53 5 = .ok (.iload_n 1, 1) := by decide +kernel
theorem dJ9_floorMod_7cf53_6 : decode cJ9_floorMod_7cf53 6 = .ok (.ixor, 1) := by decide +kernel
theorem dJ9_floorMod_7cf53_7 : decode cJ9_floorMod_7cf53 7 = .ok (.ifCond .ge 11, 3) := by decide +kernel
theorem dJ9_floorMod_7cf53_10 : decode cJ9_floorMod_7cf53 10 = .ok (.iload_n 2, 1) := by decide +kernel
theorem dJ9_floorMod_7cf53_11 : decode cJ9_floorMod_7cf53 11 = .ok (.ifCond .eq 7, 3) := by decide +kernel
theorem dJ9_floorMod_7cf53_14 : decode cJ9_floorMod_7cf53 14 = .ok (.iload_n 2, 1) := by decide +kernel
theorem dJ9_floorMod_7cf53_15 : decode cJ9_floorMod_7cf53 15 = .ok (.iload_n 1, 1) := by decide +kernel
theorem dJ9_floorMod_7cf53_16 : decode cJ9_floorMod_7cf53 16 = .ok (.iadd, 1) := by decide +kernel
theorem dJ9_floorMod_7cf53_17 : decode cJ9_floorMod_7cf53 17 = .ok (.ireturn, 1) := by decide +kernel
theorem dJ9_floorMod_7cf53_18 : decode cJ9_floorMod_7cf53 18 = .ok (.iload_n 2, 1) := by decide +kernel
theorem dJ9_floorMod_7cf53_19 : decode cJ9_floorMod_7cf53 19 = .ok (.ireturn, 1) := by decide +kernel
theorem dJ9_min_7cf53_0 : decode cJ9_min_7cf53 0 = .ok (.iload_n 0, 1) := by decide +kernel
theorem dJ9_min_7cf53_1 : decode cJ9_min_7cf53 1 = .ok (.iload_n 1, 1) := by decide +kernel
theorem dJ9_min_7cf53_2 : decode cJ9_min_7cf53 2 = .ok (.if_icmp .gt 7, 3) := by decide +kernel
theorem dJ9_min_7cf53_5 : decode cJ9_min_7cf53 5 = .ok (.iload_n 0, 1) := by decide +kernel
theorem dJ9_min_7cf53_6 : decode cJ9_min_7cf53 6 = .ok (.goto 4, 3) := by decide +kernel
theorem dJ9_min_7cf53_9 : decode cJ9_min_7cf53 9 = .ok (.iload_n 1, 1) := by decide +kernel
theorem dJ9_min_7cf53_10 : decode cJ9_min_7cf53 10 = .ok (.ireturn, 1) := by decide +kernel
theorem dL_law_0 : decode cL_law 0 = .ok (.new 7, 3) := by decide +kernel
theorem dL_law_3 : decode cL_law 3 = .ok (.dup, 1) := by decide +kernel
theorem dL_law_4 : decode cL_law 4 = .ok (.invokespecial 9, 3) := by decide +kernel
theorem dL_law_7 : decode cL_law 7 = .ok (.astore_n 1, 1) := by decide +kernel
theorem dL_law_8 : decode cL_law 8 = .ok (.new 10, 3) := by decide +kernel
theorem dL_law_11 : decode cL_law 11 = .ok (.dup, 1) := by decide +kernel
theorem dL_law_12 : decode cL_law 12 = .ok (.invokespecial 12, 3) := by decide +kernel
theorem dL_law_15 : decode cL_law 15 = .ok (.astore_n 2, 1) := by decide +kernel
theorem dL_law_16 : decode cL_law 16 = .ok (.iconst 0, 1) := by decide +kernel
theorem dL_law_17 : decode cL_law 17 = .ok (.istore_n 3, 1) := by decide +kernel
theorem dL_law_18 : decode cL_law 18 = .ok (.iload_n 3, 1) := by decide +kernel
theorem dL_law_19 : decode cL_law 19 = .ok (.aload_n 0, 1) := by decide +kernel
theorem dL_law_20 : decode cL_law 20 = .ok (.arraylength, 1) := by decide +kernel
theorem dL_law_21 : decode cL_law 21 = .ok (.bipush 7, 2) := by decide +kernel
theorem dL_law_23 : decode cL_law 23 = .ok (.isub, 1) := by decide +kernel
theorem dL_law_24 : decode cL_law 24 = .ok (.if_icmp .gt 1188, 3) := by decide +kernel
theorem dL_law_27 : decode cL_law 27 = .ok (.aload_n 0, 1) := by decide +kernel
theorem dL_law_28 : decode cL_law 28 = .ok (.iload_n 3, 1) := by decide +kernel
theorem dL_law_29 : decode cL_law 29 = .ok (.iaload, 1) := by decide +kernel
theorem dL_law_30 : decode cL_law 30 = .ok (.bipush 31, 2) := by decide +kernel
theorem dL_law_32 : decode cL_law 32 = .ok (.iand, 1) := by decide +kernel
theorem dL_law_33 : decode cL_law 33 = .ok (.tableswitch 1173 0 29 #[135, 148, 211, 260, 293, 326, 349, 372, 385, 398, 411, 444, 477, 510, 543, 576, 609, 642, 675, 738, 761, 824, 899, 922, 965, 988, 1031, 1074, 1117, 1160], 135) := by decide +kernel
theorem dL_law_168 : decode cL_law 168 = .ok (.aload_n 1, 1) := by decide +kernel
theorem dL_law_169 : decode cL_law 169 = .ok (.invokevirtual 13, 3) := by decide +kernel
theorem dL_law_172 : decode cL_law 172 = .ok (.aload_n 2, 1) := by decide +kernel
theorem dL_law_173 : decode cL_law 173 = .ok (.invokevirtual 17, 3) := by decide +kernel
theorem dL_law_176 : decode cL_law 176 = .ok (.if_icmp .eq 1030, 3) := by decide +kernel
theorem dL_law_179 : decode cL_law 179 = .ok (.iconst 0, 1) := by decide +kernel
theorem dL_law_180 : decode cL_law 180 = .ok (.ireturn, 1) := by decide +kernel
theorem dL_law_181 : decode cL_law 181 = .ok (.aload_n 1, 1) := by decide +kernel
theorem dL_law_182 : decode cL_law 182 = .ok (.aload_n 0, 1) := by decide +kernel
theorem dL_law_183 : decode cL_law 183 = .ok (.iload_n 3, 1) := by decide +kernel
theorem dL_law_184 : decode cL_law 184 = .ok (.iconst 1, 1) := by decide +kernel
theorem dL_law_185 : decode cL_law 185 = .ok (.iadd, 1) := by decide +kernel
theorem dL_law_186 : decode cL_law 186 = .ok (.iaload, 1) := by decide +kernel
theorem dL_law_187 : decode cL_law 187 = .ok (.aload_n 0, 1) := by decide +kernel
theorem dL_law_188 : decode cL_law 188 = .ok (.iload_n 3, 1) := by decide +kernel
theorem dL_law_189 : decode cL_law 189 = .ok (.iconst 2, 1) := by decide +kernel
theorem dL_law_190 : decode cL_law 190 = .ok (.iadd, 1) := by decide +kernel
theorem dL_law_191 : decode cL_law 191 = .ok (.iaload, 1) := by decide +kernel
theorem dL_law_192 : decode cL_law 192 = .ok (.aload_n 0, 1) := by decide +kernel
theorem dL_law_193 : decode cL_law 193 = .ok (.iload_n 3, 1) := by decide +kernel
theorem dL_law_194 : decode cL_law 194 = .ok (.iconst 3, 1) := by decide +kernel
theorem dL_law_195 : decode cL_law 195 = .ok (.iadd, 1) := by decide +kernel
theorem dL_law_196 : decode cL_law 196 = .ok (.iaload, 1) := by decide +kernel
theorem dL_law_197 : decode cL_law 197 = .ok (.aload_n 0, 1) := by decide +kernel
theorem dL_law_198 : decode cL_law 198 = .ok (.iload_n 3, 1) := by decide +kernel
theorem dL_law_199 : decode cL_law 199 = .ok (.iconst 4, 1) := by decide +kernel
theorem dL_law_200 : decode cL_law 200 = .ok (.iadd, 1) := by decide +kernel
theorem dL_law_201 : decode cL_law 201 = .ok (.iaload, 1) := by decide +kernel
theorem dL_law_202 : decode cL_law 202 = .ok (.aload_n 0, 1) := by decide +kernel
theorem dL_law_203 : decode cL_law 203 = .ok (.iload_n 3, 1) := by decide +kernel
theorem dL_law_204 : decode cL_law 204 = .ok (.iconst 5, 1) := by decide +kernel
theorem dL_law_205 : decode cL_law 205 = .ok (.iadd, 1) := by decide +kernel
theorem dL_law_206 : decode cL_law 206 = .ok (.iaload, 1) := by decide +kernel
theorem dL_law_207 : decode cL_law 207 = .ok (.invokevirtual 18, 3) := by decide +kernel
theorem dL_law_210 : decode cL_law 210 = .ok (.aload_n 2, 1) := by decide +kernel
theorem dL_law_211 : decode cL_law 211 = .ok (.aload_n 0, 1) := by decide +kernel
theorem dL_law_212 : decode cL_law 212 = .ok (.iload_n 3, 1) := by decide +kernel
theorem dL_law_213 : decode cL_law 213 = .ok (.iconst 1, 1) := by decide +kernel
theorem dL_law_214 : decode cL_law 214 = .ok (.iadd, 1) := by decide +kernel
theorem dL_law_215 : decode cL_law 215 = .ok (.iaload, 1) := by decide +kernel
theorem dL_law_216 : decode cL_law 216 = .ok (.aload_n 0, 1) := by decide +kernel
theorem dL_law_217 : decode cL_law 217 = .ok (.iload_n 3, 1) := by decide +kernel
theorem dL_law_218 : decode cL_law 218 = .ok (.iconst 2, 1) := by decide +kernel
theorem dL_law_219 : decode cL_law 219 = .ok (.iadd, 1) := by decide +kernel
theorem dL_law_220 : decode cL_law 220 = .ok (.iaload, 1) := by decide +kernel
theorem dL_law_221 : decode cL_law 221 = .ok (.aload_n 0, 1) := by decide +kernel
theorem dL_law_222 : decode cL_law 222 = .ok (.iload_n 3, 1) := by decide +kernel
theorem dL_law_223 : decode cL_law 223 = .ok (.iconst 3, 1) := by decide +kernel
theorem dL_law_224 : decode cL_law 224 = .ok (.iadd, 1) := by decide +kernel
theorem dL_law_225 : decode cL_law 225 = .ok (.iaload, 1) := by decide +kernel
theorem dL_law_226 : decode cL_law 226 = .ok (.aload_n 0, 1) := by decide +kernel
theorem dL_law_227 : decode cL_law 227 = .ok (.iload_n 3, 1) := by decide +kernel
theorem dL_law_228 : decode cL_law 228 = .ok (.iconst 4, 1) := by decide +kernel
theorem dL_law_229 : decode cL_law 229 = .ok (.iadd, 1) := by decide +kernel
theorem dL_law_230 : decode cL_law 230 = .ok (.iaload, 1) := by decide +kernel
theorem dL_law_231 : decode cL_law 231 = .ok (.aload_n 0, 1) := by decide +kernel
theorem dL_law_232 : decode cL_law 232 = .ok (.iload_n 3, 1) := by decide +kernel
theorem dL_law_233 : decode cL_law 233 = .ok (.iconst 5, 1) := by decide +kernel
theorem dL_law_234 : decode cL_law 234 = .ok (.iadd, 1) := by decide +kernel
theorem dL_law_235 : decode cL_law 235 = .ok (.iaload, 1) := by decide +kernel
theorem dL_law_236 : decode cL_law 236 = .ok (.invokevirtual 22, 3) := by decide +kernel
theorem dL_law_239 : decode cL_law 239 = .ok (.if_icmp .eq 967, 3) := by decide +kernel
theorem dL_law_242 : decode cL_law 242 = .ok (.iconst 0, 1) := by decide +kernel
theorem dL_law_243 : decode cL_law 243 = .ok (.ireturn, 1) := by decide +kernel
theorem dL_law_244 : decode cL_law 244 = .ok (.aload_n 1, 1) := by decide +kernel
theorem dL_law_245 : decode cL_law 245 = .ok (.aload_n 0, 1) := by decide +kernel
theorem dL_law_246 : decode cL_law 246 = .ok (.iload_n 3, 1) := by decide +kernel
theorem dL_law_247 : decode cL_law 247 = .ok (.iconst 1, 1) := by decide +kernel
theorem dL_law_248 : decode cL_law 248 = .ok (.iadd, 1) := by decide +kernel
theorem dL_law_249 : decode cL_law 249 = .ok (.iaload, 1) := by decide +kernel
theorem dL_law_250 : decode cL_law 250 = .ok (.aload_n 0, 1) := by decide +kernel
theorem dL_law_251 : decode cL_law 251 = .ok (.iload_n 3, 1) := by decide +kernel
theorem dL_law_252 : decode cL_law 252 = .ok (.iconst 2, 1) := by decide +kernel
theorem dL_law_253 : decode cL_law 253 = .ok (.iadd, 1) := by decide +kernel
theorem dL_law_254 : decode cL_law 254 = .ok (.iaload, 1) := by decide +kernel
theorem dL_law_255 : decode cL_law 255 = .ok (.ifCond .eq 7, 3) := by decide +kernel
theorem dL_law_258 : decode cL_law 258 = .ok (.iconst 1, 1) := by decide +kernel
theorem dL_law_259 : decode cL_law 259 = .ok (.goto 4, 3) := by decide +kernel
theorem dL_law_262 : decode cL_law 262 = .ok (.iconst 0, 1) := by decide +kernel
theorem dL_law_263 : decode cL_law 263 = .ok (.invokevirtual 23, 3) := by decide +kernel
theorem dL_law_266 : decode cL_law 266 = .ok (.aload_n 2, 1) := by decide +kernel
theorem dL_law_267 : decode cL_law 267 = .ok (.aload_n 0, 1) := by decide +kernel
theorem dL_law_268 : decode cL_law 268 = .ok (.iload_n 3, 1) := by decide +kernel
theorem dL_law_269 : decode cL_law 269 = .ok (.iconst 1, 1) := by decide +kernel
theorem dL_law_270 : decode cL_law 270 = .ok (.iadd, 1) := by decide +kernel
theorem dL_law_271 : decode cL_law 271 = .ok (.iaload, 1) := by decide +kernel
theorem dL_law_272 : decode cL_law 272 = .ok (.aload_n 0, 1) := by decide +kernel
theorem dL_law_273 : decode cL_law 273 = .ok (.iload_n 3, 1) := by decide +kernel
theorem dL_law_274 : decode cL_law 274 = .ok (.iconst 2, 1) := by decide +kernel
theorem dL_law_275 : decode cL_law 275 = .ok (.iadd, 1) := by decide +kernel
theorem dL_law_276 : decode cL_law 276 = .ok (.iaload, 1) := by decide +kernel
theorem dL_law_277 : decode cL_law 277 = .ok (.ifCond .eq 7, 3) := by decide +kernel
theorem dL_law_280 : decode cL_law 280 = .ok (.iconst 1, 1) := by decide +kernel
theorem dL_law_281 : decode cL_law 281 = .ok (.goto 4, 3) := by decide +kernel
theorem dL_law_284 : decode cL_law 284 = .ok (.iconst 0, 1) := by decide +kernel
theorem dL_law_285 : decode cL_law 285 = .ok (.invokevirtual 27, 3) := by decide +kernel
theorem dL_law_288 : decode cL_law 288 = .ok (.if_icmp .eq 918, 3) := by decide +kernel
theorem dL_law_291 : decode cL_law 291 = .ok (.iconst 0, 1) := by decide +kernel
theorem dL_law_292 : decode cL_law 292 = .ok (.ireturn, 1) := by decide +kernel
theorem dL_law_293 : decode cL_law 293 = .ok (.aload_n 1, 1) := by decide +kernel
theorem dL_law_294 : decode cL_law 294 = .ok (.aload_n 0, 1) := by decide +kernel
theorem dL_law_295 : decode cL_law 295 = .ok (.iload_n 3, 1) := by decide +kernel
theorem dL_law_296 : decode cL_law 296 = .ok (.iconst 1, 1) := by decide +kernel
theorem dL_law_297 : decode cL_law 297 = .ok (.iadd, 1) := by decide +kernel
theorem dL_law_298 : decode cL_law 298 = .ok (.iaload, 1) := by decide +kernel
theorem dL_law_299 : decode cL_law 299 = .ok (.aload_n 0, 1) := by decide +kernel
theorem dL_law_300 : decode cL_law 300 = .ok (.iload_n 3, 1) := by decide +kernel
theorem dL_law_301 : decode cL_law 301 = .ok (.iconst 2, 1) := by decide +kernel
theorem dL_law_302 : decode cL_law 302 = .ok (.iadd, 1) := by decide +kernel
theorem dL_law_303 : decode cL_law 303 = .ok (.iaload, 1) := by decide +kernel
theorem dL_law_304 : decode cL_law 304 = .ok (.invokevirtual 28, 3) := by decide +kernel
theorem dL_law_307 : decode cL_law 307 = .ok (.aload_n 2, 1) := by decide +kernel
theorem dL_law_308 : decode cL_law 308 = .ok (.aload_n 0, 1) := by decide +kernel
theorem dL_law_309 : decode cL_law 309 = .ok (.iload_n 3, 1) := by decide +kernel
theorem dL_law_310 : decode cL_law 310 = .ok (.iconst 1, 1) := by decide +kernel
theorem dL_law_311 : decode cL_law 311 = .ok (.iadd, 1) := by decide +kernel
theorem dL_law_312 : decode cL_law 312 = .ok (.iaload, 1) := by decide +kernel
theorem dL_law_313 : decode cL_law 313 = .ok (.aload_n 0, 1) := by decide +kernel
theorem dL_law_314 : decode cL_law 314 = .ok (.iload_n 3, 1) := by decide +kernel
theorem dL_law_315 : decode cL_law 315 = .ok (.iconst 2, 1) := by decide +kernel
theorem dL_law_316 : decode cL_law 316 = .ok (.iadd, 1) := by decide +kernel
theorem dL_law_317 : decode cL_law 317 = .ok (.iaload, 1) := by decide +kernel
theorem dL_law_318 : decode cL_law 318 = .ok (.invokevirtual 32, 3) := by decide +kernel
theorem dL_law_321 : decode cL_law 321 = .ok (.if_icmp .eq 885, 3) := by decide +kernel
theorem dL_law_324 : decode cL_law 324 = .ok (.iconst 0, 1) := by decide +kernel
theorem dL_law_325 : decode cL_law 325 = .ok (.ireturn, 1) := by decide +kernel
theorem dL_law_326 : decode cL_law 326 = .ok (.aload_n 1, 1) := by decide +kernel
theorem dL_law_327 : decode cL_law 327 = .ok (.aload_n 0, 1) := by decide +kernel
theorem dL_law_328 : decode cL_law 328 = .ok (.iload_n 3, 1) := by decide +kernel
theorem dL_law_329 : decode cL_law 329 = .ok (.iconst 1, 1) := by decide +kernel
theorem dL_law_330 : decode cL_law 330 = .ok (.iadd, 1) := by decide +kernel
theorem dL_law_331 : decode cL_law 331 = .ok (.iaload, 1) := by decide +kernel
theorem dL_law_332 : decode cL_law 332 = .ok (.aload_n 0, 1) := by decide +kernel
theorem dL_law_333 : decode cL_law 333 = .ok (.iload_n 3, 1) := by decide +kernel
theorem dL_law_334 : decode cL_law 334 = .ok (.iconst 2, 1) := by decide +kernel
theorem dL_law_335 : decode cL_law 335 = .ok (.iadd, 1) := by decide +kernel
theorem dL_law_336 : decode cL_law 336 = .ok (.iaload, 1) := by decide +kernel
theorem dL_law_337 : decode cL_law 337 = .ok (.invokevirtual 33, 3) := by decide +kernel
theorem dL_law_340 : decode cL_law 340 = .ok (.aload_n 2, 1) := by decide +kernel
theorem dL_law_341 : decode cL_law 341 = .ok (.aload_n 0, 1) := by decide +kernel
theorem dL_law_342 : decode cL_law 342 = .ok (.iload_n 3, 1) := by decide +kernel
theorem dL_law_343 : decode cL_law 343 = .ok (.iconst 1, 1) := by decide +kernel
theorem dL_law_344 : decode cL_law 344 = .ok (.iadd, 1) := by decide +kernel
theorem dL_law_345 : decode cL_law 345 = .ok (.iaload, 1) := by decide +kernel
theorem dL_law_346 : decode cL_law 346 = .ok (.aload_n 0, 1) := by decide +kernel
theorem dL_law_347 : decode cL_law 347 = .ok (.iload_n 3, 1) := by decide +kernel
theorem dL_law_348 : decode cL_law 348 = .ok (.iconst 2, 1) := by decide +kernel
theorem dL_law_349 : decode cL_law 349 = .ok (.iadd, 1) := by decide +kernel
theorem dL_law_350 : decode cL_law 350 = .ok (.iaload, 1) := by decide +kernel
theorem dL_law_351 : decode cL_law 351 = .ok (.invokevirtual 36, 3) := by decide +kernel
theorem dL_law_354 : decode cL_law 354 = .ok (.if_icmp .eq 852, 3) := by decide +kernel
theorem dL_law_357 : decode cL_law 357 = .ok (.iconst 0, 1) := by decide +kernel
theorem dL_law_358 : decode cL_law 358 = .ok (.ireturn, 1) := by decide +kernel
theorem dL_law_359 : decode cL_law 359 = .ok (.aload_n 1, 1) := by decide +kernel
theorem dL_law_360 : decode cL_law 360 = .ok (.aload_n 0, 1) := by decide +kernel
theorem dL_law_361 : decode cL_law 361 = .ok (.iload_n 3, 1) := by decide +kernel
theorem dL_law_362 : decode cL_law 362 = .ok (.iconst 1, 1) := by decide +kernel
theorem dL_law_363 : decode cL_law 363 = .ok (.iadd, 1) := by decide +kernel
theorem dL_law_364 : decode cL_law 364 = .ok (.iaload, 1) := by decide +kernel
theorem dL_law_365 : decode cL_law 365 = .ok (.invokevirtual 37, 3) := by decide +kernel
theorem dL_law_368 : decode cL_law 368 = .ok (.aload_n 2, 1) := by decide +kernel
theorem dL_law_369 : decode cL_law 369 = .ok (.aload_n 0, 1) := by decide +kernel
theorem dL_law_370 : decode cL_law 370 = .ok (.iload_n 3, 1) := by decide +kernel
theorem dL_law_371 : decode cL_law 371 = .ok (.iconst 1, 1) := by decide +kernel
theorem dL_law_372 : decode cL_law 372 = .ok (.iadd, 1) := by decide +kernel
theorem dL_law_373 : decode cL_law 373 = .ok (.iaload, 1) := by decide +kernel
theorem dL_law_374 : decode cL_law 374 = .ok (.invokevirtual 41, 3) := by decide +kernel
theorem dL_law_377 : decode cL_law 377 = .ok (.if_icmp .eq 829, 3) := by decide +kernel
theorem dL_law_380 : decode cL_law 380 = .ok (.iconst 0, 1) := by decide +kernel
theorem dL_law_381 : decode cL_law 381 = .ok (.ireturn, 1) := by decide +kernel
theorem dL_law_382 : decode cL_law 382 = .ok (.aload_n 1, 1) := by decide +kernel
theorem dL_law_383 : decode cL_law 383 = .ok (.aload_n 0, 1) := by decide +kernel
theorem dL_law_384 : decode cL_law 384 = .ok (.iload_n 3, 1) := by decide +kernel
theorem dL_law_385 : decode cL_law 385 = .ok (.iconst 1, 1) := by decide +kernel
theorem dL_law_386 : decode cL_law 386 = .ok (.iadd, 1) := by decide +kernel
theorem dL_law_387 : decode cL_law 387 = .ok (.iaload, 1) := by decide +kernel
theorem dL_law_388 : decode cL_law 388 = .ok (.invokevirtual 42, 3) := by decide +kernel
theorem dL_law_391 : decode cL_law 391 = .ok (.aload_n 2, 1) := by decide +kernel
theorem dL_law_392 : decode cL_law 392 = .ok (.aload_n 0, 1) := by decide +kernel
theorem dL_law_393 : decode cL_law 393 = .ok (.iload_n 3, 1) := by decide +kernel
theorem dL_law_394 : decode cL_law 394 = .ok (.iconst 1, 1) := by decide +kernel
theorem dL_law_395 : decode cL_law 395 = .ok (.iadd, 1) := by decide +kernel
theorem dL_law_396 : decode cL_law 396 = .ok (.iaload, 1) := by decide +kernel
theorem dL_law_397 : decode cL_law 397 = .ok (.invokevirtual 45, 3) := by decide +kernel
theorem dL_law_400 : decode cL_law 400 = .ok (.if_icmp .eq 806, 3) := by decide +kernel
theorem dL_law_403 : decode cL_law 403 = .ok (.iconst 0, 1) := by decide +kernel
theorem dL_law_404 : decode cL_law 404 = .ok (.ireturn, 1) := by decide +kernel
theorem dL_law_405 : decode cL_law 405 = .ok (.aload_n 1, 1) := by decide +kernel
theorem dL_law_406 : decode cL_law 406 = .ok (.invokevirtual 46, 3) := by decide +kernel
theorem dL_law_409 : decode cL_law 409 = .ok (.aload_n 2, 1) := by decide +kernel
theorem dL_law_410 : decode cL_law 410 = .ok (.invokevirtual 49, 3) := by decide +kernel
theorem dL_law_413 : decode cL_law 413 = .ok (.if_icmp .eq 793, 3) := by decide +kernel
theorem dL_law_416 : decode cL_law 416 = .ok (.iconst 0, 1) := by decide +kernel
theorem dL_law_417 : decode cL_law 417 = .ok (.ireturn, 1) := by decide +kernel
theorem dL_law_418 : decode cL_law 418 = .ok (.aload_n 1, 1) := by decide +kernel
theorem dL_law_419 : decode cL_law 419 = .ok (.invokevirtual 50, 3) := by decide +kernel
theorem dL_law_422 : decode cL_law 422 = .ok (.aload_n 2, 1) := by decide +kernel
theorem dL_law_423 : decode cL_law 423 = .ok (.invokevirtual 53, 3) := by decide +kernel
theorem dL_law_426 : decode cL_law 426 = .ok (.if_icmp .eq 780, 3) := by decide +kernel
theorem dL_law_429 : decode cL_law 429 = .ok (.iconst 0, 1) := by decide +kernel
theorem dL_law_430 : decode cL_law 430 = .ok (.ireturn, 1) := by decide +kernel
theorem dL_law_431 : decode cL_law 431 = .ok (.aload_n 1, 1) := by decide +kernel
theorem dL_law_432 : decode cL_law 432 = .ok (.invokevirtual 54, 3) := by decide +kernel
theorem dL_law_435 : decode cL_law 435 = .ok (.aload_n 2, 1) := by decide +kernel
theorem dL_law_436 : decode cL_law 436 = .ok (.invokevirtual 57, 3) := by decide +kernel
theorem dL_law_439 : decode cL_law 439 = .ok (.if_icmp .eq 767, 3) := by decide +kernel
theorem dL_law_442 : decode cL_law 442 = .ok (.iconst 0, 1) := by decide +kernel
theorem dL_law_443 : decode cL_law 443 = .ok (.ireturn, 1) := by decide +kernel
theorem dL_law_444 : decode cL_law 444 = .ok (.aload_n 1, 1) := by decide +kernel
theorem dL_law_445 : decode cL_law 445 = .ok (.aload_n 0, 1) := by decide +kernel
theorem dL_law_446 : decode cL_law 446 = .ok (.iload_n 3, 1) := by decide +kernel
theorem dL_law_447 : decode cL_law 447 = .ok (.iconst 1, 1) := by decide +kernel
theorem dL_law_448 : decode cL_law 448 = .ok (.iadd, 1) := by decide +kernel
theorem dL_law_449 : decode cL_law 449 = .ok (.iaload, 1) := by decide +kernel
theorem dL_law_450 : decode cL_law 450 = .ok (.aload_n 0, 1) := by decide +kernel
theorem dL_law_451 : decode cL_law 451 = .ok (.iload_n 3, 1) := by decide +kernel
theorem dL_law_452 : decode cL_law 452 = .ok (.iconst 2, 1) := by decide +kernel
theorem dL_law_453 : decode cL_law 453 = .ok (.iadd, 1) := by decide +kernel
theorem dL_law_454 : decode cL_law 454 = .ok (.iaload, 1) := by decide +kernel
theorem dL_law_455 : decode cL_law 455 = .ok (.invokevirtual 58, 3) := by decide +kernel
theorem dL_law_458 : decode cL_law 458 = .ok (.aload_n 2, 1) := by decide +kernel
theorem dL_law_459 : decode cL_law 459 = .ok (.aload_n 0, 1) := by decide +kernel
theorem dL_law_460 : decode cL_law 460 = .ok (.iload_n 3, 1) := by decide +kernel
theorem dL_law_461 : decode cL_law 461 = .ok (.iconst 1, 1) := by decide +kernel
theorem dL_law_462 : decode cL_law 462 = .ok (.iadd, 1) := by decide +kernel
theorem dL_law_463 : decode cL_law 463 = .ok (.iaload, 1) := by decide +kernel
theorem dL_law_464 : decode cL_law 464 = .ok (.aload_n 0, 1) := by decide +kernel
theorem dL_law_465 : decode cL_law 465 = .ok (.iload_n 3, 1) := by decide +kernel
theorem dL_law_466 : decode cL_law 466 = .ok (.iconst 2, 1) := by decide +kernel
theorem dL_law_467 : decode cL_law 467 = .ok (.iadd, 1) := by decide +kernel
theorem dL_law_468 : decode cL_law 468 = .ok (.iaload, 1) := by decide +kernel
theorem dL_law_469 : decode cL_law 469 = .ok (.invokevirtual 61, 3) := by decide +kernel
theorem dL_law_472 : decode cL_law 472 = .ok (.if_icmp .eq 734, 3) := by decide +kernel
theorem dL_law_475 : decode cL_law 475 = .ok (.iconst 0, 1) := by decide +kernel
theorem dL_law_476 : decode cL_law 476 = .ok (.ireturn, 1) := by decide +kernel
theorem dL_law_477 : decode cL_law 477 = .ok (.aload_n 1, 1) := by decide +kernel
theorem dL_law_478 : decode cL_law 478 = .ok (.aload_n 0, 1) := by decide +kernel
theorem dL_law_479 : decode cL_law 479 = .ok (.iload_n 3, 1) := by decide +kernel
theorem dL_law_480 : decode cL_law 480 = .ok (.iconst 1, 1) := by decide +kernel
theorem dL_law_481 : decode cL_law 481 = .ok (.iadd, 1) := by decide +kernel
theorem dL_law_482 : decode cL_law 482 = .ok (.iaload, 1) := by decide +kernel
theorem dL_law_483 : decode cL_law 483 = .ok (.aload_n 0, 1) := by decide +kernel
theorem dL_law_484 : decode cL_law 484 = .ok (.iload_n 3, 1) := by decide +kernel
theorem dL_law_485 : decode cL_law 485 = .ok (.iconst 2, 1) := by decide +kernel
theorem dL_law_486 : decode cL_law 486 = .ok (.iadd, 1) := by decide +kernel
theorem dL_law_487 : decode cL_law 487 = .ok (.iaload, 1) := by decide +kernel
theorem dL_law_488 : decode cL_law 488 = .ok (.invokevirtual 62, 3) := by decide +kernel
theorem dL_law_491 : decode cL_law 491 = .ok (.aload_n 2, 1) := by decide +kernel
theorem dL_law_492 : decode cL_law 492 = .ok (.aload_n 0, 1) := by decide +kernel
theorem dL_law_493 : decode cL_law 493 = .ok (.iload_n 3, 1) := by decide +kernel
theorem dL_law_494 : decode cL_law 494 = .ok (.iconst 1, 1) := by decide +kernel
theorem dL_law_495 : decode cL_law 495 = .ok (.iadd, 1) := by decide +kernel
theorem dL_law_496 : decode cL_law 496 = .ok (.iaload, 1) := by decide +kernel
theorem dL_law_497 : decode cL_law 497 = .ok (.aload_n 0, 1) := by decide +kernel
theorem dL_law_498 : decode cL_law 498 = .ok (.iload_n 3, 1) := by decide +kernel
theorem dL_law_499 : decode cL_law 499 = .ok (.iconst 2, 1) := by decide +kernel
theorem dL_law_500 : decode cL_law 500 = .ok (.iadd, 1) := by decide +kernel
theorem dL_law_501 : decode cL_law 501 = .ok (.iaload, 1) := by decide +kernel
theorem dL_law_502 : decode cL_law 502 = .ok (.invokevirtual 65, 3) := by decide +kernel
theorem dL_law_505 : decode cL_law 505 = .ok (.if_icmp .eq 701, 3) := by decide +kernel
theorem dL_law_508 : decode cL_law 508 = .ok (.iconst 0, 1) := by decide +kernel
theorem dL_law_509 : decode cL_law 509 = .ok (.ireturn, 1) := by decide +kernel
theorem dL_law_510 : decode cL_law 510 = .ok (.aload_n 1, 1) := by decide +kernel
theorem dL_law_511 : decode cL_law 511 = .ok (.aload_n 0, 1) := by decide +kernel
theorem dL_law_512 : decode cL_law 512 = .ok (.iload_n 3, 1) := by decide +kernel
theorem dL_law_513 : decode cL_law 513 = .ok (.iconst 1, 1) := by decide +kernel
theorem dL_law_514 : decode cL_law 514 = .ok (.iadd, 1) := by decide +kernel
theorem dL_law_515 : decode cL_law 515 = .ok (.iaload, 1) := by decide +kernel
theorem dL_law_516 : decode cL_law 516 = .ok (.aload_n 0, 1) := by decide +kernel
theorem dL_law_517 : decode cL_law 517 = .ok (.iload_n 3, 1) := by decide +kernel
theorem dL_law_518 : decode cL_law 518 = .ok (.iconst 2, 1) := by decide +kernel
theorem dL_law_519 : decode cL_law 519 = .ok (.iadd, 1) := by decide +kernel
theorem dL_law_520 : decode cL_law 520 = .ok (.iaload, 1) := by decide +kernel
theorem dL_law_521 : decode cL_law 521 = .ok (.invokevirtual 66, 3) := by decide +kernel
theorem dL_law_524 : decode cL_law 524 = .ok (.aload_n 2, 1) := by decide +kernel
theorem dL_law_525 : decode cL_law 525 = .ok (.aload_n 0, 1) := by decide +kernel
theorem dL_law_526 : decode cL_law 526 = .ok (.iload_n 3, 1) := by decide +kernel
theorem dL_law_527 : decode cL_law 527 = .ok (.iconst 1, 1) := by decide +kernel
theorem dL_law_528 : decode cL_law 528 = .ok (.iadd, 1) := by decide +kernel
theorem dL_law_529 : decode cL_law 529 = .ok (.iaload, 1) := by decide +kernel
theorem dL_law_530 : decode cL_law 530 = .ok (.aload_n 0, 1) := by decide +kernel
theorem dL_law_531 : decode cL_law 531 = .ok (.iload_n 3, 1) := by decide +kernel
theorem dL_law_532 : decode cL_law 532 = .ok (.iconst 2, 1) := by decide +kernel
theorem dL_law_533 : decode cL_law 533 = .ok (.iadd, 1) := by decide +kernel
theorem dL_law_534 : decode cL_law 534 = .ok (.iaload, 1) := by decide +kernel
theorem dL_law_535 : decode cL_law 535 = .ok (.invokevirtual 69, 3) := by decide +kernel
theorem dL_law_538 : decode cL_law 538 = .ok (.if_icmp .eq 668, 3) := by decide +kernel
theorem dL_law_541 : decode cL_law 541 = .ok (.iconst 0, 1) := by decide +kernel
theorem dL_law_542 : decode cL_law 542 = .ok (.ireturn, 1) := by decide +kernel
theorem dL_law_543 : decode cL_law 543 = .ok (.aload_n 1, 1) := by decide +kernel
theorem dL_law_544 : decode cL_law 544 = .ok (.aload_n 0, 1) := by decide +kernel
theorem dL_law_545 : decode cL_law 545 = .ok (.iload_n 3, 1) := by decide +kernel
theorem dL_law_546 : decode cL_law 546 = .ok (.iconst 1, 1) := by decide +kernel
theorem dL_law_547 : decode cL_law 547 = .ok (.iadd, 1) := by decide +kernel
theorem dL_law_548 : decode cL_law 548 = .ok (.iaload, 1) := by decide +kernel
theorem dL_law_549 : decode cL_law 549 = .ok (.aload_n 0, 1) := by decide +kernel
theorem dL_law_550 : decode cL_law 550 = .ok (.iload_n 3, 1) := by decide +kernel
theorem dL_law_551 : decode cL_law 551 = .ok (.iconst 2, 1) := by decide +kernel
theorem dL_law_552 : decode cL_law 552 = .ok (.iadd, 1) := by decide +kernel
theorem dL_law_553 : decode cL_law 553 = .ok (.iaload, 1) := by decide +kernel
theorem dL_law_554 : decode cL_law 554 = .ok (.invokevirtual 70, 3) := by decide +kernel
theorem dL_law_557 : decode cL_law 557 = .ok (.aload_n 2, 1) := by decide +kernel
theorem dL_law_558 : decode cL_law 558 = .ok (.aload_n 0, 1) := by decide +kernel
theorem dL_law_559 : decode cL_law 559 = .ok (.iload_n 3, 1) := by decide +kernel
theorem dL_law_560 : decode cL_law 560 = .ok (.iconst 1, 1) := by decide +kernel
theorem dL_law_561 : decode cL_law 561 = .ok (.iadd, 1) := by decide +kernel
theorem dL_law_562 : decode cL_law 562 = .ok (.iaload, 1) := by decide +kernel
theorem dL_law_563 : decode cL_law 563 = .ok (.aload_n 0, 1) := by decide +kernel
theorem dL_law_564 : decode cL_law 564 = .ok (.iload_n 3, 1) := by decide +kernel
theorem dL_law_565 : decode cL_law 565 = .ok (.iconst 2, 1) := by decide +kernel
theorem dL_law_566 : decode cL_law 566 = .ok (.iadd, 1) := by decide +kernel
theorem dL_law_567 : decode cL_law 567 = .ok (.iaload, 1) := by decide +kernel
theorem dL_law_568 : decode cL_law 568 = .ok (.invokevirtual 73, 3) := by decide +kernel
theorem dL_law_571 : decode cL_law 571 = .ok (.if_icmp .eq 635, 3) := by decide +kernel
theorem dL_law_574 : decode cL_law 574 = .ok (.iconst 0, 1) := by decide +kernel
theorem dL_law_575 : decode cL_law 575 = .ok (.ireturn, 1) := by decide +kernel
theorem dL_law_576 : decode cL_law 576 = .ok (.aload_n 1, 1) := by decide +kernel
theorem dL_law_577 : decode cL_law 577 = .ok (.aload_n 0, 1) := by decide +kernel
theorem dL_law_578 : decode cL_law 578 = .ok (.iload_n 3, 1) := by decide +kernel
theorem dL_law_579 : decode cL_law 579 = .ok (.iconst 1, 1) := by decide +kernel
theorem dL_law_580 : decode cL_law 580 = .ok (.iadd, 1) := by decide +kernel
theorem dL_law_581 : decode cL_law 581 = .ok (.iaload, 1) := by decide +kernel
theorem dL_law_582 : decode cL_law 582 = .ok (.aload_n 0, 1) := by decide +kernel
theorem dL_law_583 : decode cL_law 583 = .ok (.iload_n 3, 1) := by decide +kernel
theorem dL_law_584 : decode cL_law 584 = .ok (.iconst 2, 1) := by decide +kernel
theorem dL_law_585 : decode cL_law 585 = .ok (.iadd, 1) := by decide +kernel
theorem dL_law_586 : decode cL_law 586 = .ok (.iaload, 1) := by decide +kernel
theorem dL_law_587 : decode cL_law 587 = .ok (.invokevirtual 74, 3) := by decide +kernel
theorem dL_law_590 : decode cL_law 590 = .ok (.aload_n 2, 1) := by decide +kernel
theorem dL_law_591 : decode cL_law 591 = .ok (.aload_n 0, 1) := by decide +kernel
theorem dL_law_592 : decode cL_law 592 = .ok (.iload_n 3, 1) := by decide +kernel
theorem dL_law_593 : decode cL_law 593 = .ok (.iconst 1, 1) := by decide +kernel
theorem dL_law_594 : decode cL_law 594 = .ok (.iadd, 1) := by decide +kernel
theorem dL_law_595 : decode cL_law 595 = .ok (.iaload, 1) := by decide +kernel
theorem dL_law_596 : decode cL_law 596 = .ok (.aload_n 0, 1) := by decide +kernel
theorem dL_law_597 : decode cL_law 597 = .ok (.iload_n 3, 1) := by decide +kernel
theorem dL_law_598 : decode cL_law 598 = .ok (.iconst 2, 1) := by decide +kernel
theorem dL_law_599 : decode cL_law 599 = .ok (.iadd, 1) := by decide +kernel
theorem dL_law_600 : decode cL_law 600 = .ok (.iaload, 1) := by decide +kernel
theorem dL_law_601 : decode cL_law 601 = .ok (.invokevirtual 77, 3) := by decide +kernel
theorem dL_law_604 : decode cL_law 604 = .ok (.if_icmp .eq 602, 3) := by decide +kernel
theorem dL_law_607 : decode cL_law 607 = .ok (.iconst 0, 1) := by decide +kernel
theorem dL_law_608 : decode cL_law 608 = .ok (.ireturn, 1) := by decide +kernel
theorem dL_law_609 : decode cL_law 609 = .ok (.aload_n 1, 1) := by decide +kernel
theorem dL_law_610 : decode cL_law 610 = .ok (.aload_n 0, 1) := by decide +kernel
theorem dL_law_611 : decode cL_law 611 = .ok (.iload_n 3, 1) := by decide +kernel
theorem dL_law_612 : decode cL_law 612 = .ok (.iconst 1, 1) := by decide +kernel
theorem dL_law_613 : decode cL_law 613 = .ok (.iadd, 1) := by decide +kernel
theorem dL_law_614 : decode cL_law 614 = .ok (.iaload, 1) := by decide +kernel
theorem dL_law_615 : decode cL_law 615 = .ok (.aload_n 0, 1) := by decide +kernel
theorem dL_law_616 : decode cL_law 616 = .ok (.iload_n 3, 1) := by decide +kernel
theorem dL_law_617 : decode cL_law 617 = .ok (.iconst 2, 1) := by decide +kernel
theorem dL_law_618 : decode cL_law 618 = .ok (.iadd, 1) := by decide +kernel
theorem dL_law_619 : decode cL_law 619 = .ok (.iaload, 1) := by decide +kernel
theorem dL_law_620 : decode cL_law 620 = .ok (.invokevirtual 78, 3) := by decide +kernel
theorem dL_law_623 : decode cL_law 623 = .ok (.aload_n 2, 1) := by decide +kernel
theorem dL_law_624 : decode cL_law 624 = .ok (.aload_n 0, 1) := by decide +kernel
theorem dL_law_625 : decode cL_law 625 = .ok (.iload_n 3, 1) := by decide +kernel
theorem dL_law_626 : decode cL_law 626 = .ok (.iconst 1, 1) := by decide +kernel
theorem dL_law_627 : decode cL_law 627 = .ok (.iadd, 1) := by decide +kernel
theorem dL_law_628 : decode cL_law 628 = .ok (.iaload, 1) := by decide +kernel
theorem dL_law_629 : decode cL_law 629 = .ok (.aload_n 0, 1) := by decide +kernel
theorem dL_law_630 : decode cL_law 630 = .ok (.iload_n 3, 1) := by decide +kernel
theorem dL_law_631 : decode cL_law 631 = .ok (.iconst 2, 1) := by decide +kernel
theorem dL_law_632 : decode cL_law 632 = .ok (.iadd, 1) := by decide +kernel
theorem dL_law_633 : decode cL_law 633 = .ok (.iaload, 1) := by decide +kernel
theorem dL_law_634 : decode cL_law 634 = .ok (.invokevirtual 81, 3) := by decide +kernel
theorem dL_law_637 : decode cL_law 637 = .ok (.if_icmp .eq 569, 3) := by decide +kernel
theorem dL_law_640 : decode cL_law 640 = .ok (.iconst 0, 1) := by decide +kernel
theorem dL_law_641 : decode cL_law 641 = .ok (.ireturn, 1) := by decide +kernel
theorem dL_law_642 : decode cL_law 642 = .ok (.aload_n 1, 1) := by decide +kernel
theorem dL_law_643 : decode cL_law 643 = .ok (.aload_n 0, 1) := by decide +kernel
theorem dL_law_644 : decode cL_law 644 = .ok (.iload_n 3, 1) := by decide +kernel
theorem dL_law_645 : decode cL_law 645 = .ok (.iconst 1, 1) := by decide +kernel
theorem dL_law_646 : decode cL_law 646 = .ok (.iadd, 1) := by decide +kernel
theorem dL_law_647 : decode cL_law 647 = .ok (.iaload, 1) := by decide +kernel
theorem dL_law_648 : decode cL_law 648 = .ok (.aload_n 0, 1) := by decide +kernel
theorem dL_law_649 : decode cL_law 649 = .ok (.iload_n 3, 1) := by decide +kernel
theorem dL_law_650 : decode cL_law 650 = .ok (.iconst 2, 1) := by decide +kernel
theorem dL_law_651 : decode cL_law 651 = .ok (.iadd, 1) := by decide +kernel
theorem dL_law_652 : decode cL_law 652 = .ok (.iaload, 1) := by decide +kernel
theorem dL_law_653 : decode cL_law 653 = .ok (.invokevirtual 82, 3) := by decide +kernel
theorem dL_law_656 : decode cL_law 656 = .ok (.aload_n 2, 1) := by decide +kernel
theorem dL_law_657 : decode cL_law 657 = .ok (.aload_n 0, 1) := by decide +kernel
theorem dL_law_658 : decode cL_law 658 = .ok (.iload_n 3, 1) := by decide +kernel
theorem dL_law_659 : decode cL_law 659 = .ok (.iconst 1, 1) := by decide +kernel
theorem dL_law_660 : decode cL_law 660 = .ok (.iadd, 1) := by decide +kernel
theorem dL_law_661 : decode cL_law 661 = .ok (.iaload, 1) := by decide +kernel
theorem dL_law_662 : decode cL_law 662 = .ok (.aload_n 0, 1) := by decide +kernel
theorem dL_law_663 : decode cL_law 663 = .ok (.iload_n 3, 1) := by decide +kernel
theorem dL_law_664 : decode cL_law 664 = .ok (.iconst 2, 1) := by decide +kernel
theorem dL_law_665 : decode cL_law 665 = .ok (.iadd, 1) := by decide +kernel
theorem dL_law_666 : decode cL_law 666 = .ok (.iaload, 1) := by decide +kernel
theorem dL_law_667 : decode cL_law 667 = .ok (.invokevirtual 85, 3) := by decide +kernel
theorem dL_law_670 : decode cL_law 670 = .ok (.if_icmp .eq 536, 3) := by decide +kernel
theorem dL_law_673 : decode cL_law 673 = .ok (.iconst 0, 1) := by decide +kernel
theorem dL_law_674 : decode cL_law 674 = .ok (.ireturn, 1) := by decide +kernel
theorem dL_law_675 : decode cL_law 675 = .ok (.aload_n 1, 1) := by decide +kernel
theorem dL_law_676 : decode cL_law 676 = .ok (.aload_n 0, 1) := by decide +kernel
theorem dL_law_677 : decode cL_law 677 = .ok (.iload_n 3, 1) := by decide +kernel
theorem dL_law_678 : decode cL_law 678 = .ok (.iconst 1, 1) := by decide +kernel
theorem dL_law_679 : decode cL_law 679 = .ok (.iadd, 1) := by decide +kernel
theorem dL_law_680 : decode cL_law 680 = .ok (.iaload, 1) := by decide +kernel
theorem dL_law_681 : decode cL_law 681 = .ok (.aload_n 0, 1) := by decide +kernel
theorem dL_law_682 : decode cL_law 682 = .ok (.iload_n 3, 1) := by decide +kernel
theorem dL_law_683 : decode cL_law 683 = .ok (.iconst 2, 1) := by decide +kernel
theorem dL_law_684 : decode cL_law 684 = .ok (.iadd, 1) := by decide +kernel
theorem dL_law_685 : decode cL_law 685 = .ok (.iaload, 1) := by decide +kernel
theorem dL_law_686 : decode cL_law 686 = .ok (.invokevirtual 86, 3) := by decide +kernel
theorem dL_law_689 : decode cL_law 689 = .ok (.aload_n 2, 1) := by decide +kernel
theorem dL_law_690 : decode cL_law 690 = .ok (.aload_n 0, 1) := by decide +kernel
theorem dL_law_691 : decode cL_law 691 = .ok (.iload_n 3, 1) := by decide +kernel
theorem dL_law_692 : decode cL_law 692 = .ok (.iconst 1, 1) := by decide +kernel
theorem dL_law_693 : decode cL_law 693 = .ok (.iadd, 1) := by decide +kernel
theorem dL_law_694 : decode cL_law 694 = .ok (.iaload, 1) := by decide +kernel
theorem dL_law_695 : decode cL_law 695 = .ok (.aload_n 0, 1) := by decide +kernel
theorem dL_law_696 : decode cL_law 696 = .ok (.iload_n 3, 1) := by decide +kernel
theorem dL_law_697 : decode cL_law 697 = .ok (.iconst 2, 1) := by decide +kernel
theorem dL_law_698 : decode cL_law 698 = .ok (.iadd, 1) := by decide +kernel
theorem dL_law_699 : decode cL_law 699 = .ok (.iaload, 1) := by decide +kernel
theorem dL_law_700 : decode cL_law 700 = .ok (.invokevirtual 89, 3) := by decide +kernel
theorem dL_law_703 : decode cL_law 703 = .ok (.if_icmp .eq 503, 3) := by decide +kernel
theorem dL_law_706 : decode cL_law 706 = .ok (.iconst 0, 1) := by decide +kernel
theorem dL_law_707 : decode cL_law 707 = .ok (.ireturn, 1) := by decide +kernel
theorem dL_law_708 : decode cL_law 708 = .ok (.aload_n 1, 1) := by decide +kernel
theorem dL_law_709 : decode cL_law 709 = .ok (.aload_n 0, 1) := by decide +kernel
theorem dL_law_710 : decode cL_law 710 = .ok (.iload_n 3, 1) := by decide +kernel
theorem dL_law_711 : decode cL_law 711 = .ok (.iconst 1, 1) := by decide +kernel
theorem dL_law_712 : decode cL_law 712 = .ok (.iadd, 1) := by decide +kernel
theorem dL_law_713 : decode cL_law 713 = .ok (.iaload, 1) := by decide +kernel
theorem dL_law_714 : decode cL_law 714 = .ok (.aload_n 0, 1) := by decide +kernel
theorem dL_law_715 : decode cL_law 715 = .ok (.iload_n 3, 1) := by decide +kernel
theorem dL_law_716 : decode cL_law 716 = .ok (.iconst 2, 1) := by decide +kernel
theorem dL_law_717 : decode cL_law 717 = .ok (.iadd, 1) := by decide +kernel
theorem dL_law_718 : decode cL_law 718 = .ok (.iaload, 1) := by decide +kernel
theorem dL_law_719 : decode cL_law 719 = .ok (.aload_n 0, 1) := by decide +kernel
theorem dL_law_720 : decode cL_law 720 = .ok (.iload_n 3, 1) := by decide +kernel
theorem dL_law_721 : decode cL_law 721 = .ok (.iconst 3, 1) := by decide +kernel
theorem dL_law_722 : decode cL_law 722 = .ok (.iadd, 1) := by decide +kernel
theorem dL_law_723 : decode cL_law 723 = .ok (.iaload, 1) := by decide +kernel
theorem dL_law_724 : decode cL_law 724 = .ok (.aload_n 0, 1) := by decide +kernel
theorem dL_law_725 : decode cL_law 725 = .ok (.iload_n 3, 1) := by decide +kernel
theorem dL_law_726 : decode cL_law 726 = .ok (.iconst 4, 1) := by decide +kernel
theorem dL_law_727 : decode cL_law 727 = .ok (.iadd, 1) := by decide +kernel
theorem dL_law_728 : decode cL_law 728 = .ok (.iaload, 1) := by decide +kernel
theorem dL_law_729 : decode cL_law 729 = .ok (.aload_n 0, 1) := by decide +kernel
theorem dL_law_730 : decode cL_law 730 = .ok (.iload_n 3, 1) := by decide +kernel
theorem dL_law_731 : decode cL_law 731 = .ok (.iconst 5, 1) := by decide +kernel
theorem dL_law_732 : decode cL_law 732 = .ok (.iadd, 1) := by decide +kernel
theorem dL_law_733 : decode cL_law 733 = .ok (.iaload, 1) := by decide +kernel
theorem dL_law_734 : decode cL_law 734 = .ok (.invokevirtual 90, 3) := by decide +kernel
theorem dL_law_737 : decode cL_law 737 = .ok (.aload_n 2, 1) := by decide +kernel
theorem dL_law_738 : decode cL_law 738 = .ok (.aload_n 0, 1) := by decide +kernel
theorem dL_law_739 : decode cL_law 739 = .ok (.iload_n 3, 1) := by decide +kernel
theorem dL_law_740 : decode cL_law 740 = .ok (.iconst 1, 1) := by decide +kernel
theorem dL_law_741 : decode cL_law 741 = .ok (.iadd, 1) := by decide +kernel
theorem dL_law_742 : decode cL_law 742 = .ok (.iaload, 1) := by decide +kernel
theorem dL_law_743 : decode cL_law 743 = .ok (.aload_n 0, 1) := by decide +kernel
theorem dL_law_744 : decode cL_law 744 = .ok (.iload_n 3, 1) := by decide +kernel
theorem dL_law_745 : decode cL_law 745 = .ok (.iconst 2, 1) := by decide +kernel
theorem dL_law_746 : decode cL_law 746 = .ok (.iadd, 1) := by decide +kernel
theorem dL_law_747 : decode cL_law 747 = .ok (.iaload, 1) := by decide +kernel
theorem dL_law_748 : decode cL_law 748 = .ok (.aload_n 0, 1) := by decide +kernel
theorem dL_law_749 : decode cL_law 749 = .ok (.iload_n 3, 1) := by decide +kernel
theorem dL_law_750 : decode cL_law 750 = .ok (.iconst 3, 1) := by decide +kernel
theorem dL_law_751 : decode cL_law 751 = .ok (.iadd, 1) := by decide +kernel
theorem dL_law_752 : decode cL_law 752 = .ok (.iaload, 1) := by decide +kernel
theorem dL_law_753 : decode cL_law 753 = .ok (.aload_n 0, 1) := by decide +kernel
theorem dL_law_754 : decode cL_law 754 = .ok (.iload_n 3, 1) := by decide +kernel
theorem dL_law_755 : decode cL_law 755 = .ok (.iconst 4, 1) := by decide +kernel
theorem dL_law_756 : decode cL_law 756 = .ok (.iadd, 1) := by decide +kernel
theorem dL_law_757 : decode cL_law 757 = .ok (.iaload, 1) := by decide +kernel
theorem dL_law_758 : decode cL_law 758 = .ok (.aload_n 0, 1) := by decide +kernel
theorem dL_law_759 : decode cL_law 759 = .ok (.iload_n 3, 1) := by decide +kernel
theorem dL_law_760 : decode cL_law 760 = .ok (.iconst 5, 1) := by decide +kernel
theorem dL_law_761 : decode cL_law 761 = .ok (.iadd, 1) := by decide +kernel
theorem dL_law_762 : decode cL_law 762 = .ok (.iaload, 1) := by decide +kernel
theorem dL_law_763 : decode cL_law 763 = .ok (.invokevirtual 93, 3) := by decide +kernel
theorem dL_law_766 : decode cL_law 766 = .ok (.if_icmp .eq 440, 3) := by decide +kernel
theorem dL_law_769 : decode cL_law 769 = .ok (.iconst 0, 1) := by decide +kernel
theorem dL_law_770 : decode cL_law 770 = .ok (.ireturn, 1) := by decide +kernel
theorem dL_law_771 : decode cL_law 771 = .ok (.aload_n 1, 1) := by decide +kernel
theorem dL_law_772 : decode cL_law 772 = .ok (.aload_n 0, 1) := by decide +kernel
theorem dL_law_773 : decode cL_law 773 = .ok (.iload_n 3, 1) := by decide +kernel
theorem dL_law_774 : decode cL_law 774 = .ok (.iconst 1, 1) := by decide +kernel
theorem dL_law_775 : decode cL_law 775 = .ok (.iadd, 1) := by decide +kernel
theorem dL_law_776 : decode cL_law 776 = .ok (.iaload, 1) := by decide +kernel
theorem dL_law_777 : decode cL_law 777 = .ok (.invokevirtual 94, 3) := by decide +kernel
theorem dL_law_780 : decode cL_law 780 = .ok (.aload_n 2, 1) := by decide +kernel
theorem dL_law_781 : decode cL_law 781 = .ok (.aload_n 0, 1) := by decide +kernel
theorem dL_law_782 : decode cL_law 782 = .ok (.iload_n 3, 1) := by decide +kernel
theorem dL_law_783 : decode cL_law 783 = .ok (.iconst 1, 1) := by decide +kernel
theorem dL_law_784 : decode cL_law 784 = .ok (.iadd, 1) := by decide +kernel
theorem dL_law_785 : decode cL_law 785 = .ok (.iaload, 1) := by decide +kernel
theorem dL_law_786 : decode cL_law 786 = .ok (.invokevirtual 97, 3) := by decide +kernel
theorem dL_law_789 : decode cL_law 789 = .ok (.if_icmp .eq 417, 3) := by decide +kernel
theorem dL_law_792 : decode cL_law 792 = .ok (.iconst 0, 1) := by decide +kernel
theorem dL_law_793 : decode cL_law 793 = .ok (.ireturn, 1) := by decide +kernel
theorem dL_law_794 : decode cL_law 794 = .ok (.aload_n 1, 1) := by decide +kernel
theorem dL_law_795 : decode cL_law 795 = .ok (.aload_n 0, 1) := by decide +kernel
theorem dL_law_796 : decode cL_law 796 = .ok (.iload_n 3, 1) := by decide +kernel
theorem dL_law_797 : decode cL_law 797 = .ok (.iconst 1, 1) := by decide +kernel
theorem dL_law_798 : decode cL_law 798 = .ok (.iadd, 1) := by decide +kernel
theorem dL_law_799 : decode cL_law 799 = .ok (.iaload, 1) := by decide +kernel
theorem dL_law_800 : decode cL_law 800 = .ok (.aload_n 0, 1) := by decide +kernel
theorem dL_law_801 : decode cL_law 801 = .ok (.iload_n 3, 1) := by decide +kernel
theorem dL_law_802 : decode cL_law 802 = .ok (.iconst 2, 1) := by decide +kernel
theorem dL_law_803 : decode cL_law 803 = .ok (.iadd, 1) := by decide +kernel
theorem dL_law_804 : decode cL_law 804 = .ok (.iaload, 1) := by decide +kernel
theorem dL_law_805 : decode cL_law 805 = .ok (.aload_n 0, 1) := by decide +kernel
theorem dL_law_806 : decode cL_law 806 = .ok (.iload_n 3, 1) := by decide +kernel
theorem dL_law_807 : decode cL_law 807 = .ok (.iconst 3, 1) := by decide +kernel
theorem dL_law_808 : decode cL_law 808 = .ok (.iadd, 1) := by decide +kernel
theorem dL_law_809 : decode cL_law 809 = .ok (.iaload, 1) := by decide +kernel
theorem dL_law_810 : decode cL_law 810 = .ok (.aload_n 0, 1) := by decide +kernel
theorem dL_law_811 : decode cL_law 811 = .ok (.iload_n 3, 1) := by decide +kernel
theorem dL_law_812 : decode cL_law 812 = .ok (.iconst 4, 1) := by decide +kernel
theorem dL_law_813 : decode cL_law 813 = .ok (.iadd, 1) := by decide +kernel
theorem dL_law_814 : decode cL_law 814 = .ok (.iaload, 1) := by decide +kernel
theorem dL_law_815 : decode cL_law 815 = .ok (.aload_n 0, 1) := by decide +kernel
theorem dL_law_816 : decode cL_law 816 = .ok (.iload_n 3, 1) := by decide +kernel
theorem dL_law_817 : decode cL_law 817 = .ok (.iconst 5, 1) := by decide +kernel
theorem dL_law_818 : decode cL_law 818 = .ok (.iadd, 1) := by decide +kernel
theorem dL_law_819 : decode cL_law 819 = .ok (.iaload, 1) := by decide +kernel
theorem dL_law_820 : decode cL_law 820 = .ok (.invokevirtual 98, 3) := by decide +kernel
theorem dL_law_823 : decode cL_law 823 = .ok (.aload_n 2, 1) := by decide +kernel
theorem dL_law_824 : decode cL_law 824 = .ok (.aload_n 0, 1) := by decide +kernel
theorem dL_law_825 : decode cL_law 825 = .ok (.iload_n 3, 1) := by decide +kernel
theorem dL_law_826 : decode cL_law 826 = .ok (.iconst 1, 1) := by decide +kernel
theorem dL_law_827 : decode cL_law 827 = .ok (.iadd, 1) := by decide +kernel
theorem dL_law_828 : decode cL_law 828 = .ok (.iaload, 1) := by decide +kernel
theorem dL_law_829 : decode cL_law 829 = .ok (.aload_n 0, 1) := by decide +kernel
theorem dL_law_830 : decode cL_law 830 = .ok (.iload_n 3, 1) := by decide +kernel
theorem dL_law_831 : decode cL_law 831 = .ok (.iconst 2, 1) := by decide +kernel
theorem dL_law_832 : decode cL_law 832 = .ok (.iadd, 1) := by decide +kernel
theorem dL_law_833 : decode cL_law 833 = .ok (.iaload, 1) := by decide +kernel
theorem dL_law_834 : decode cL_law 834 = .ok (.aload_n 0, 1) := by decide +kernel
theorem dL_law_835 : decode cL_law 835 = .ok (.iload_n 3, 1) := by decide +kernel
theorem dL_law_836 : decode cL_law 836 = .ok (.iconst 3, 1) := by decide +kernel
theorem dL_law_837 : decode cL_law 837 = .ok (.iadd, 1) := by decide +kernel
theorem dL_law_838 : decode cL_law 838 = .ok (.iaload, 1) := by decide +kernel
theorem dL_law_839 : decode cL_law 839 = .ok (.aload_n 0, 1) := by decide +kernel
theorem dL_law_840 : decode cL_law 840 = .ok (.iload_n 3, 1) := by decide +kernel
theorem dL_law_841 : decode cL_law 841 = .ok (.iconst 4, 1) := by decide +kernel
theorem dL_law_842 : decode cL_law 842 = .ok (.iadd, 1) := by decide +kernel
theorem dL_law_843 : decode cL_law 843 = .ok (.iaload, 1) := by decide +kernel
theorem dL_law_844 : decode cL_law 844 = .ok (.aload_n 0, 1) := by decide +kernel
theorem dL_law_845 : decode cL_law 845 = .ok (.iload_n 3, 1) := by decide +kernel
theorem dL_law_846 : decode cL_law 846 = .ok (.iconst 5, 1) := by decide +kernel
theorem dL_law_847 : decode cL_law 847 = .ok (.iadd, 1) := by decide +kernel
theorem dL_law_848 : decode cL_law 848 = .ok (.iaload, 1) := by decide +kernel
theorem dL_law_849 : decode cL_law 849 = .ok (.invokevirtual 101, 3) := by decide +kernel
theorem dL_law_852 : decode cL_law 852 = .ok (.if_icmp .eq 354, 3) := by decide +kernel
theorem dL_law_855 : decode cL_law 855 = .ok (.iconst 0, 1) := by decide +kernel
theorem dL_law_856 : decode cL_law 856 = .ok (.ireturn, 1) := by decide +kernel
theorem dL_law_857 : decode cL_law 857 = .ok (.aload_n 1, 1) := by decide +kernel
theorem dL_law_858 : decode cL_law 858 = .ok (.aload_n 0, 1) := by decide +kernel
theorem dL_law_859 : decode cL_law 859 = .ok (.iload_n 3, 1) := by decide +kernel
theorem dL_law_860 : decode cL_law 860 = .ok (.iconst 1, 1) := by decide +kernel
theorem dL_law_861 : decode cL_law 861 = .ok (.iadd, 1) := by decide +kernel
theorem dL_law_862 : decode cL_law 862 = .ok (.iaload, 1) := by decide +kernel
theorem dL_law_863 : decode cL_law 863 = .ok (.aload_n 0, 1) := by decide +kernel
theorem dL_law_864 : decode cL_law 864 = .ok (.iload_n 3, 1) := by decide +kernel
theorem dL_law_865 : decode cL_law 865 = .ok (.iconst 2, 1) := by decide +kernel
theorem dL_law_866 : decode cL_law 866 = .ok (.iadd, 1) := by decide +kernel
theorem dL_law_867 : decode cL_law 867 = .ok (.iaload, 1) := by decide +kernel
theorem dL_law_868 : decode cL_law 868 = .ok (.aload_n 0, 1) := by decide +kernel
theorem dL_law_869 : decode cL_law 869 = .ok (.iload_n 3, 1) := by decide +kernel
theorem dL_law_870 : decode cL_law 870 = .ok (.iconst 3, 1) := by decide +kernel
theorem dL_law_871 : decode cL_law 871 = .ok (.iadd, 1) := by decide +kernel
theorem dL_law_872 : decode cL_law 872 = .ok (.iaload, 1) := by decide +kernel
theorem dL_law_873 : decode cL_law 873 = .ok (.aload_n 0, 1) := by decide +kernel
theorem dL_law_874 : decode cL_law 874 = .ok (.iload_n 3, 1) := by decide +kernel
theorem dL_law_875 : decode cL_law 875 = .ok (.iconst 4, 1) := by decide +kernel
theorem dL_law_876 : decode cL_law 876 = .ok (.iadd, 1) := by decide +kernel
theorem dL_law_877 : decode cL_law 877 = .ok (.iaload, 1) := by decide +kernel
theorem dL_law_878 : decode cL_law 878 = .ok (.aload_n 0, 1) := by decide +kernel
theorem dL_law_879 : decode cL_law 879 = .ok (.iload_n 3, 1) := by decide +kernel
theorem dL_law_880 : decode cL_law 880 = .ok (.iconst 5, 1) := by decide +kernel
theorem dL_law_881 : decode cL_law 881 = .ok (.iadd, 1) := by decide +kernel
theorem dL_law_882 : decode cL_law 882 = .ok (.iaload, 1) := by decide +kernel
theorem dL_law_883 : decode cL_law 883 = .ok (.aload_n 0, 1) := by decide +kernel
theorem dL_law_884 : decode cL_law 884 = .ok (.iload_n 3, 1) := by decide +kernel
theorem dL_law_885 : decode cL_law 885 = .ok (.bipush 6, 2) := by decide +kernel
theorem dL_law_887 : decode cL_law 887 = .ok (.iadd, 1) := by decide +kernel
theorem dL_law_888 : decode cL_law 888 = .ok (.iaload, 1) := by decide +kernel
theorem dL_law_889 : decode cL_law 889 = .ok (.invokevirtual 102, 3) := by decide +kernel
theorem dL_law_892 : decode cL_law 892 = .ok (.aload_n 2, 1) := by decide +kernel
theorem dL_law_893 : decode cL_law 893 = .ok (.aload_n 0, 1) := by decide +kernel
theorem dL_law_894 : decode cL_law 894 = .ok (.iload_n 3, 1) := by decide +kernel
theorem dL_law_895 : decode cL_law 895 = .ok (.iconst 1, 1) := by decide +kernel
theorem dL_law_896 : decode cL_law 896 = .ok (.iadd, 1) := by decide +kernel
theorem dL_law_897 : decode cL_law 897 = .ok (.iaload, 1) := by decide +kernel
theorem dL_law_898 : decode cL_law 898 = .ok (.aload_n 0, 1) := by decide +kernel
theorem dL_law_899 : decode cL_law 899 = .ok (.iload_n 3, 1) := by decide +kernel
theorem dL_law_900 : decode cL_law 900 = .ok (.iconst 2, 1) := by decide +kernel
theorem dL_law_901 : decode cL_law 901 = .ok (.iadd, 1) := by decide +kernel
theorem dL_law_902 : decode cL_law 902 = .ok (.iaload, 1) := by decide +kernel
theorem dL_law_903 : decode cL_law 903 = .ok (.aload_n 0, 1) := by decide +kernel
theorem dL_law_904 : decode cL_law 904 = .ok (.iload_n 3, 1) := by decide +kernel
theorem dL_law_905 : decode cL_law 905 = .ok (.iconst 3, 1) := by decide +kernel
theorem dL_law_906 : decode cL_law 906 = .ok (.iadd, 1) := by decide +kernel
theorem dL_law_907 : decode cL_law 907 = .ok (.iaload, 1) := by decide +kernel
theorem dL_law_908 : decode cL_law 908 = .ok (.aload_n 0, 1) := by decide +kernel
theorem dL_law_909 : decode cL_law 909 = .ok (.iload_n 3, 1) := by decide +kernel
theorem dL_law_910 : decode cL_law 910 = .ok (.iconst 4, 1) := by decide +kernel
theorem dL_law_911 : decode cL_law 911 = .ok (.iadd, 1) := by decide +kernel
theorem dL_law_912 : decode cL_law 912 = .ok (.iaload, 1) := by decide +kernel
theorem dL_law_913 : decode cL_law 913 = .ok (.aload_n 0, 1) := by decide +kernel
theorem dL_law_914 : decode cL_law 914 = .ok (.iload_n 3, 1) := by decide +kernel
theorem dL_law_915 : decode cL_law 915 = .ok (.iconst 5, 1) := by decide +kernel
theorem dL_law_916 : decode cL_law 916 = .ok (.iadd, 1) := by decide +kernel
theorem dL_law_917 : decode cL_law 917 = .ok (.iaload, 1) := by decide +kernel
theorem dL_law_918 : decode cL_law 918 = .ok (.aload_n 0, 1) := by decide +kernel
theorem dL_law_919 : decode cL_law 919 = .ok (.iload_n 3, 1) := by decide +kernel
theorem dL_law_920 : decode cL_law 920 = .ok (.bipush 6, 2) := by decide +kernel
theorem dL_law_922 : decode cL_law 922 = .ok (.iadd, 1) := by decide +kernel
theorem dL_law_923 : decode cL_law 923 = .ok (.iaload, 1) := by decide +kernel
theorem dL_law_924 : decode cL_law 924 = .ok (.invokevirtual 106, 3) := by decide +kernel
theorem dL_law_927 : decode cL_law 927 = .ok (.if_icmp .eq 279, 3) := by decide +kernel
theorem dL_law_930 : decode cL_law 930 = .ok (.iconst 0, 1) := by decide +kernel
theorem dL_law_931 : decode cL_law 931 = .ok (.ireturn, 1) := by decide +kernel
theorem dL_law_932 : decode cL_law 932 = .ok (.aload_n 1, 1) := by decide +kernel
theorem dL_law_933 : decode cL_law 933 = .ok (.aload_n 0, 1) := by decide +kernel
theorem dL_law_934 : decode cL_law 934 = .ok (.iload_n 3, 1) := by decide +kernel
theorem dL_law_935 : decode cL_law 935 = .ok (.iconst 1, 1) := by decide +kernel
theorem dL_law_936 : decode cL_law 936 = .ok (.iadd, 1) := by decide +kernel
theorem dL_law_937 : decode cL_law 937 = .ok (.iaload, 1) := by decide +kernel
theorem dL_law_938 : decode cL_law 938 = .ok (.invokevirtual 107, 3) := by decide +kernel
theorem dL_law_941 : decode cL_law 941 = .ok (.aload_n 2, 1) := by decide +kernel
theorem dL_law_942 : decode cL_law 942 = .ok (.aload_n 0, 1) := by decide +kernel
theorem dL_law_943 : decode cL_law 943 = .ok (.iload_n 3, 1) := by decide +kernel
theorem dL_law_944 : decode cL_law 944 = .ok (.iconst 1, 1) := by decide +kernel
theorem dL_law_945 : decode cL_law 945 = .ok (.iadd, 1) := by decide +kernel
theorem dL_law_946 : decode cL_law 946 = .ok (.iaload, 1) := by decide +kernel
theorem dL_law_947 : decode cL_law 947 = .ok (.invokevirtual 110, 3) := by decide +kernel
theorem dL_law_950 : decode cL_law 950 = .ok (.if_icmp .eq 256, 3) := by decide +kernel
theorem dL_law_953 : decode cL_law 953 = .ok (.iconst 0, 1) := by decide +kernel
theorem dL_law_954 : decode cL_law 954 = .ok (.ireturn, 1) := by decide +kernel
theorem dL_law_955 : decode cL_law 955 = .ok (.aload_n 1, 1) := by decide +kernel
theorem dL_law_956 : decode cL_law 956 = .ok (.aload_n 0, 1) := by decide +kernel
theorem dL_law_957 : decode cL_law 957 = .ok (.iload_n 3, 1) := by decide +kernel
theorem dL_law_958 : decode cL_law 958 = .ok (.iconst 1, 1) := by decide +kernel
theorem dL_law_959 : decode cL_law 959 = .ok (.iadd, 1) := by decide +kernel
theorem dL_law_960 : decode cL_law 960 = .ok (.iaload, 1) := by decide +kernel
theorem dL_law_961 : decode cL_law 961 = .ok (.aload_n 0, 1) := by decide +kernel
theorem dL_law_962 : decode cL_law 962 = .ok (.iload_n 3, 1) := by decide +kernel
theorem dL_law_963 : decode cL_law 963 = .ok (.iconst 2, 1) := by decide +kernel
theorem dL_law_964 : decode cL_law 964 = .ok (.iadd, 1) := by decide +kernel
theorem dL_law_965 : decode cL_law 965 = .ok (.iaload, 1) := by decide +kernel
theorem dL_law_966 : decode cL_law 966 = .ok (.aload_n 0, 1) := by decide +kernel
theorem dL_law_967 : decode cL_law 967 = .ok (.iload_n 3, 1) := by decide +kernel
theorem dL_law_968 : decode cL_law 968 = .ok (.iconst 3, 1) := by decide +kernel
theorem dL_law_969 : decode cL_law 969 = .ok (.iadd, 1) := by decide +kernel
theorem dL_law_970 : decode cL_law 970 = .ok (.iaload, 1) := by decide +kernel
theorem dL_law_971 : decode cL_law 971 = .ok (.invokevirtual 111, 3) := by decide +kernel
theorem dL_law_974 : decode cL_law 974 = .ok (.aload_n 2, 1) := by decide +kernel
theorem dL_law_975 : decode cL_law 975 = .ok (.aload_n 0, 1) := by decide +kernel
theorem dL_law_976 : decode cL_law 976 = .ok (.iload_n 3, 1) := by decide +kernel
theorem dL_law_977 : decode cL_law 977 = .ok (.iconst 1, 1) := by decide +kernel
theorem dL_law_978 : decode cL_law 978 = .ok (.iadd, 1) := by decide +kernel
theorem dL_law_979 : decode cL_law 979 = .ok (.iaload, 1) := by decide +kernel
theorem dL_law_980 : decode cL_law 980 = .ok (.aload_n 0, 1) := by decide +kernel
theorem dL_law_981 : decode cL_law 981 = .ok (.iload_n 3, 1) := by decide +kernel
theorem dL_law_982 : decode cL_law 982 = .ok (.iconst 2, 1) := by decide +kernel
theorem dL_law_983 : decode cL_law 983 = .ok (.iadd, 1) := by decide +kernel
theorem dL_law_984 : decode cL_law 984 = .ok (.iaload, 1) := by decide +kernel
theorem dL_law_985 : decode cL_law 985 = .ok (.aload_n 0, 1) := by decide +kernel
theorem dL_law_986 : decode cL_law 986 = .ok (.iload_n 3, 1) := by decide +kernel
theorem dL_law_987 : decode cL_law 987 = .ok (.iconst 3, 1) := by decide +kernel
theorem dL_law_988 : decode cL_law 988 = .ok (.iadd, 1) := by decide +kernel
theorem dL_law_989 : decode cL_law 989 = .ok (.iaload, 1) := by decide +kernel
theorem dL_law_990 : decode cL_law 990 = .ok (.invokevirtual 115, 3) := by decide +kernel
theorem dL_law_993 : decode cL_law 993 = .ok (.if_icmp .eq 213, 3) := by decide +kernel
theorem dL_law_996 : decode cL_law 996 = .ok (.iconst 0, 1) := by decide +kernel
theorem dL_law_997 : decode cL_law 997 = .ok (.ireturn, 1) := by decide +kernel
theorem dL_law_998 : decode cL_law 998 = .ok (.aload_n 1, 1) := by decide +kernel
theorem dL_law_999 : decode cL_law 999 = .ok (.aload_n 0, 1) := by decide +kernel
theorem dL_law_1000 : decode cL_law 1000 = .ok (.iload_n 3, 1) := by decide +kernel
theorem dL_law_1001 : decode cL_law 1001 = .ok (.iconst 1, 1) := by decide +kernel
theorem dL_law_1002 : decode cL_law 1002 = .ok (.iadd, 1) := by decide +kernel
theorem dL_law_1003 : decode cL_law 1003 = .ok (.iaload, 1) := by decide +kernel
theorem dL_law_1004 : decode cL_law 1004 = .ok (.invokevirtual 116, 3) := by decide +kernel
theorem dL_law_1007 : decode cL_law 1007 = .ok (.aload_n 2, 1) := by decide +kernel
theorem dL_law_1008 : decode cL_law 1008 = .ok (.aload_n 0, 1) := by decide +kernel
theorem dL_law_1009 : decode cL_law 1009 = .ok (.iload_n 3, 1) := by decide +kernel
theorem dL_law_1010 : decode cL_law 1010 = .ok (.iconst 1, 1) := by decide +kernel
theorem dL_law_1011 : decode cL_law 1011 = .ok (.iadd, 1) := by decide +kernel
theorem dL_law_1012 : decode cL_law 1012 = .ok (.iaload, 1) := by decide +kernel
theorem dL_law_1013 : decode cL_law 1013 = .ok (.invokevirtual 119, 3) := by decide +kernel
theorem dL_law_1016 : decode cL_law 1016 = .ok (.if_icmp .eq 190, 3) := by decide +kernel
theorem dL_law_1019 : decode cL_law 1019 = .ok (.iconst 0, 1) := by decide +kernel
theorem dL_law_1020 : decode cL_law 1020 = .ok (.ireturn, 1) := by decide +kernel
theorem dL_law_1021 : decode cL_law 1021 = .ok (.aload_n 1, 1) := by decide +kernel
theorem dL_law_1022 : decode cL_law 1022 = .ok (.aload_n 0, 1) := by decide +kernel
theorem dL_law_1023 : decode cL_law 1023 = .ok (.iload_n 3, 1) := by decide +kernel
theorem dL_law_1024 : decode cL_law 1024 = .ok (.iconst 1, 1) := by decide +kernel
theorem dL_law_1025 : decode cL_law 1025 = .ok (.iadd, 1) := by decide +kernel
theorem dL_law_1026 : decode cL_law 1026 = .ok (.iaload, 1) := by decide +kernel
theorem dL_law_1027 : decode cL_law 1027 = .ok (.aload_n 0, 1) := by decide +kernel
theorem dL_law_1028 : decode cL_law 1028 = .ok (.iload_n 3, 1) := by decide +kernel
theorem dL_law_1029 : decode cL_law 1029 = .ok (.iconst 2, 1) := by decide +kernel
theorem dL_law_1030 : decode cL_law 1030 = .ok (.iadd, 1) := by decide +kernel
theorem dL_law_1031 : decode cL_law 1031 = .ok (.iaload, 1) := by decide +kernel
theorem dL_law_1032 : decode cL_law 1032 = .ok (.aload_n 0, 1) := by decide +kernel
theorem dL_law_1033 : decode cL_law 1033 = .ok (.iload_n 3, 1) := by decide +kernel
theorem dL_law_1034 : decode cL_law 1034 = .ok (.iconst 3, 1) := by decide +kernel
theorem dL_law_1035 : decode cL_law 1035 = .ok (.iadd, 1) := by decide +kernel
theorem dL_law_1036 : decode cL_law 1036 = .ok (.iaload, 1) := by decide +kernel
theorem dL_law_1037 : decode cL_law 1037 = .ok (.invokevirtual 120, 3) := by decide +kernel
theorem dL_law_1040 : decode cL_law 1040 = .ok (.aload_n 2, 1) := by decide +kernel
theorem dL_law_1041 : decode cL_law 1041 = .ok (.aload_n 0, 1) := by decide +kernel
theorem dL_law_1042 : decode cL_law 1042 = .ok (.iload_n 3, 1) := by decide +kernel
theorem dL_law_1043 : decode cL_law 1043 = .ok (.iconst 1, 1) := by decide +kernel
theorem dL_law_1044 : decode cL_law 1044 = .ok (.iadd, 1) := by decide +kernel
theorem dL_law_1045 : decode cL_law 1045 = .ok (.iaload, 1) := by decide +kernel
theorem dL_law_1046 : decode cL_law 1046 = .ok (.aload_n 0, 1) := by decide +kernel
theorem dL_law_1047 : decode cL_law 1047 = .ok (.iload_n 3, 1) := by decide +kernel
theorem dL_law_1048 : decode cL_law 1048 = .ok (.iconst 2, 1) := by decide +kernel
theorem dL_law_1049 : decode cL_law 1049 = .ok (.iadd, 1) := by decide +kernel
theorem dL_law_1050 : decode cL_law 1050 = .ok (.iaload, 1) := by decide +kernel
theorem dL_law_1051 : decode cL_law 1051 = .ok (.aload_n 0, 1) := by decide +kernel
theorem dL_law_1052 : decode cL_law 1052 = .ok (.iload_n 3, 1) := by decide +kernel
theorem dL_law_1053 : decode cL_law 1053 = .ok (.iconst 3, 1) := by decide +kernel
theorem dL_law_1054 : decode cL_law 1054 = .ok (.iadd, 1) := by decide +kernel
theorem dL_law_1055 : decode cL_law 1055 = .ok (.iaload, 1) := by decide +kernel
theorem dL_law_1056 : decode cL_law 1056 = .ok (.invokevirtual 123, 3) := by decide +kernel
theorem dL_law_1059 : decode cL_law 1059 = .ok (.if_icmp .eq 147, 3) := by decide +kernel
theorem dL_law_1062 : decode cL_law 1062 = .ok (.iconst 0, 1) := by decide +kernel
theorem dL_law_1063 : decode cL_law 1063 = .ok (.ireturn, 1) := by decide +kernel
theorem dL_law_1064 : decode cL_law 1064 = .ok (.aload_n 1, 1) := by decide +kernel
theorem dL_law_1065 : decode cL_law 1065 = .ok (.aload_n 0, 1) := by decide +kernel
theorem dL_law_1066 : decode cL_law 1066 = .ok (.iload_n 3, 1) := by decide +kernel
theorem dL_law_1067 : decode cL_law 1067 = .ok (.iconst 1, 1) := by decide +kernel
theorem dL_law_1068 : decode cL_law 1068 = .ok (.iadd, 1) := by decide +kernel
theorem dL_law_1069 : decode cL_law 1069 = .ok (.iaload, 1) := by decide +kernel
theorem dL_law_1070 : decode cL_law 1070 = .ok (.aload_n 0, 1) := by decide +kernel
theorem dL_law_1071 : decode cL_law 1071 = .ok (.iload_n 3, 1) := by decide +kernel
theorem dL_law_1072 : decode cL_law 1072 = .ok (.iconst 2, 1) := by decide +kernel
theorem dL_law_1073 : decode cL_law 1073 = .ok (.iadd, 1) := by decide +kernel
theorem dL_law_1074 : decode cL_law 1074 = .ok (.iaload, 1) := by decide +kernel
theorem dL_law_1075 : decode cL_law 1075 = .ok (.aload_n 0, 1) := by decide +kernel
theorem dL_law_1076 : decode cL_law 1076 = .ok (.iload_n 3, 1) := by decide +kernel
theorem dL_law_1077 : decode cL_law 1077 = .ok (.iconst 3, 1) := by decide +kernel
theorem dL_law_1078 : decode cL_law 1078 = .ok (.iadd, 1) := by decide +kernel
theorem dL_law_1079 : decode cL_law 1079 = .ok (.iaload, 1) := by decide +kernel
theorem dL_law_1080 : decode cL_law 1080 = .ok (.invokevirtual 124, 3) := by decide +kernel
theorem dL_law_1083 : decode cL_law 1083 = .ok (.aload_n 2, 1) := by decide +kernel
theorem dL_law_1084 : decode cL_law 1084 = .ok (.aload_n 0, 1) := by decide +kernel
theorem dL_law_1085 : decode cL_law 1085 = .ok (.iload_n 3, 1) := by decide +kernel
theorem dL_law_1086 : decode cL_law 1086 = .ok (.iconst 1, 1) := by decide +kernel
theorem dL_law_1087 : decode cL_law 1087 = .ok (.iadd, 1) := by decide +kernel
theorem dL_law_1088 : decode cL_law 1088 = .ok (.iaload, 1) := by decide +kernel
theorem dL_law_1089 : decode cL_law 1089 = .ok (.aload_n 0, 1) := by decide +kernel
theorem dL_law_1090 : decode cL_law 1090 = .ok (.iload_n 3, 1) := by decide +kernel
theorem dL_law_1091 : decode cL_law 1091 = .ok (.iconst 2, 1) := by decide +kernel
theorem dL_law_1092 : decode cL_law 1092 = .ok (.iadd, 1) := by decide +kernel
theorem dL_law_1093 : decode cL_law 1093 = .ok (.iaload, 1) := by decide +kernel
theorem dL_law_1094 : decode cL_law 1094 = .ok (.aload_n 0, 1) := by decide +kernel
theorem dL_law_1095 : decode cL_law 1095 = .ok (.iload_n 3, 1) := by decide +kernel
theorem dL_law_1096 : decode cL_law 1096 = .ok (.iconst 3, 1) := by decide +kernel
theorem dL_law_1097 : decode cL_law 1097 = .ok (.iadd, 1) := by decide +kernel
theorem dL_law_1098 : decode cL_law 1098 = .ok (.iaload, 1) := by decide +kernel
theorem dL_law_1099 : decode cL_law 1099 = .ok (.invokevirtual 127, 3) := by decide +kernel
theorem dL_law_1102 : decode cL_law 1102 = .ok (.if_icmp .eq 104, 3) := by decide +kernel
theorem dL_law_1105 : decode cL_law 1105 = .ok (.iconst 0, 1) := by decide +kernel
theorem dL_law_1106 : decode cL_law 1106 = .ok (.ireturn, 1) := by decide +kernel
theorem dL_law_1107 : decode cL_law 1107 = .ok (.aload_n 1, 1) := by decide +kernel
theorem dL_law_1108 : decode cL_law 1108 = .ok (.aload_n 0, 1) := by decide +kernel
theorem dL_law_1109 : decode cL_law 1109 = .ok (.iload_n 3, 1) := by decide +kernel
theorem dL_law_1110 : decode cL_law 1110 = .ok (.iconst 1, 1) := by decide +kernel
theorem dL_law_1111 : decode cL_law 1111 = .ok (.iadd, 1) := by decide +kernel
theorem dL_law_1112 : decode cL_law 1112 = .ok (.iaload, 1) := by decide +kernel
theorem dL_law_1113 : decode cL_law 1113 = .ok (.aload_n 0, 1) := by decide +kernel
theorem dL_law_1114 : decode cL_law 1114 = .ok (.iload_n 3, 1) := by decide +kernel
theorem dL_law_1115 : decode cL_law 1115 = .ok (.iconst 2, 1) := by decide +kernel
theorem dL_law_1116 : decode cL_law 1116 = .ok (.iadd, 1) := by decide +kernel
theorem dL_law_1117 : decode cL_law 1117 = .ok (.iaload, 1) := by decide +kernel
theorem dL_law_1118 : decode cL_law 1118 = .ok (.aload_n 0, 1) := by decide +kernel
theorem dL_law_1119 : decode cL_law 1119 = .ok (.iload_n 3, 1) := by decide +kernel
theorem dL_law_1120 : decode cL_law 1120 = .ok (.iconst 3, 1) := by decide +kernel
theorem dL_law_1121 : decode cL_law 1121 = .ok (.iadd, 1) := by decide +kernel
theorem dL_law_1122 : decode cL_law 1122 = .ok (.iaload, 1) := by decide +kernel
theorem dL_law_1123 : decode cL_law 1123 = .ok (.invokevirtual 128, 3) := by decide +kernel
theorem dL_law_1126 : decode cL_law 1126 = .ok (.aload_n 2, 1) := by decide +kernel
theorem dL_law_1127 : decode cL_law 1127 = .ok (.aload_n 0, 1) := by decide +kernel
theorem dL_law_1128 : decode cL_law 1128 = .ok (.iload_n 3, 1) := by decide +kernel
theorem dL_law_1129 : decode cL_law 1129 = .ok (.iconst 1, 1) := by decide +kernel
theorem dL_law_1130 : decode cL_law 1130 = .ok (.iadd, 1) := by decide +kernel
theorem dL_law_1131 : decode cL_law 1131 = .ok (.iaload, 1) := by decide +kernel
theorem dL_law_1132 : decode cL_law 1132 = .ok (.aload_n 0, 1) := by decide +kernel
theorem dL_law_1133 : decode cL_law 1133 = .ok (.iload_n 3, 1) := by decide +kernel
theorem dL_law_1134 : decode cL_law 1134 = .ok (.iconst 2, 1) := by decide +kernel
theorem dL_law_1135 : decode cL_law 1135 = .ok (.iadd, 1) := by decide +kernel
theorem dL_law_1136 : decode cL_law 1136 = .ok (.iaload, 1) := by decide +kernel
theorem dL_law_1137 : decode cL_law 1137 = .ok (.aload_n 0, 1) := by decide +kernel
theorem dL_law_1138 : decode cL_law 1138 = .ok (.iload_n 3, 1) := by decide +kernel
theorem dL_law_1139 : decode cL_law 1139 = .ok (.iconst 3, 1) := by decide +kernel
theorem dL_law_1140 : decode cL_law 1140 = .ok (.iadd, 1) := by decide +kernel
theorem dL_law_1141 : decode cL_law 1141 = .ok (.iaload, 1) := by decide +kernel
theorem dL_law_1142 : decode cL_law 1142 = .ok (.invokevirtual 131, 3) := by decide +kernel
theorem dL_law_1145 : decode cL_law 1145 = .ok (.if_icmp .eq 61, 3) := by decide +kernel
theorem dL_law_1148 : decode cL_law 1148 = .ok (.iconst 0, 1) := by decide +kernel
theorem dL_law_1149 : decode cL_law 1149 = .ok (.ireturn, 1) := by decide +kernel
theorem dL_law_1150 : decode cL_law 1150 = .ok (.aload_n 1, 1) := by decide +kernel
theorem dL_law_1151 : decode cL_law 1151 = .ok (.aload_n 0, 1) := by decide +kernel
theorem dL_law_1152 : decode cL_law 1152 = .ok (.iload_n 3, 1) := by decide +kernel
theorem dL_law_1153 : decode cL_law 1153 = .ok (.iconst 1, 1) := by decide +kernel
theorem dL_law_1154 : decode cL_law 1154 = .ok (.iadd, 1) := by decide +kernel
theorem dL_law_1155 : decode cL_law 1155 = .ok (.iaload, 1) := by decide +kernel
theorem dL_law_1156 : decode cL_law 1156 = .ok (.aload_n 0, 1) := by decide +kernel
theorem dL_law_1157 : decode cL_law 1157 = .ok (.iload_n 3, 1) := by decide +kernel
theorem dL_law_1158 : decode cL_law 1158 = .ok (.iconst 2, 1) := by decide +kernel
theorem dL_law_1159 : decode cL_law 1159 = .ok (.iadd, 1) := by decide +kernel
theorem dL_law_1160 : decode cL_law 1160 = .ok (.iaload, 1) := by decide +kernel
theorem dL_law_1161 : decode cL_law 1161 = .ok (.aload_n 0, 1) := by decide +kernel
theorem dL_law_1162 : decode cL_law 1162 = .ok (.iload_n 3, 1) := by decide +kernel
theorem dL_law_1163 : decode cL_law 1163 = .ok (.iconst 3, 1) := by decide +kernel
theorem dL_law_1164 : decode cL_law 1164 = .ok (.iadd, 1) := by decide +kernel
theorem dL_law_1165 : decode cL_law 1165 = .ok (.iaload, 1) := by decide +kernel
theorem dL_law_1166 : decode cL_law 1166 = .ok (.invokevirtual 132, 3) := by decide +kernel
theorem dL_law_1169 : decode cL_law 1169 = .ok (.aload_n 2, 1) := by decide +kernel
theorem dL_law_1170 : decode cL_law 1170 = .ok (.aload_n 0, 1) := by decide +kernel
theorem dL_law_1171 : decode cL_law 1171 = .ok (.iload_n 3, 1) := by decide +kernel
theorem dL_law_1172 : decode cL_law 1172 = .ok (.iconst 1, 1) := by decide +kernel
theorem dL_law_1173 : decode cL_law 1173 = .ok (.iadd, 1) := by decide +kernel
theorem dL_law_1174 : decode cL_law 1174 = .ok (.iaload, 1) := by decide +kernel
theorem dL_law_1175 : decode cL_law 1175 = .ok (.aload_n 0, 1) := by decide +kernel
theorem dL_law_1176 : decode cL_law 1176 = .ok (.iload_n 3, 1) := by decide +kernel
theorem dL_law_1177 : decode cL_law 1177 = .ok (.iconst 2, 1) := by decide +kernel
theorem dL_law_1178 : decode cL_law 1178 = .ok (.iadd, 1) := by decide +kernel
theorem dL_law_1179 : decode cL_law 1179 = .ok (.iaload, 1) := by decide +kernel
theorem dL_law_1180 : decode cL_law 1180 = .ok (.aload_n 0, 1) := by decide +kernel
theorem dL_law_1181 : decode cL_law 1181 = .ok (.iload_n 3, 1) := by decide +kernel
theorem dL_law_1182 : decode cL_law 1182 = .ok (.iconst 3, 1) := by decide +kernel
theorem dL_law_1183 : decode cL_law 1183 = .ok (.iadd, 1) := by decide +kernel
theorem dL_law_1184 : decode cL_law 1184 = .ok (.iaload, 1) := by decide +kernel
theorem dL_law_1185 : decode cL_law 1185 = .ok (.invokevirtual 135, 3) := by decide +kernel
theorem dL_law_1188 : decode cL_law 1188 = .ok (.if_icmp .eq 18, 3) := by decide +kernel
theorem dL_law_1191 : decode cL_law 1191 = .ok (.iconst 0, 1) := by decide +kernel
theorem dL_law_1192 : decode cL_law 1192 = .ok (.ireturn, 1) := by decide +kernel
theorem dL_law_1193 : decode cL_law 1193 = .ok (.aload_n 1, 1) := by decide +kernel
theorem dL_law_1194 : decode cL_law 1194 = .ok (.invokevirtual 136, 3) := by decide +kernel
theorem dL_law_1197 : decode cL_law 1197 = .ok (.aload_n 2, 1) := by decide +kernel
theorem dL_law_1198 : decode cL_law 1198 = .ok (.invokevirtual 139, 3) := by decide +kernel
theorem dL_law_1201 : decode cL_law 1201 = .ok (.if_icmp .eq 5, 3) := by decide +kernel
theorem dL_law_1204 : decode cL_law 1204 = .ok (.iconst 0, 1) := by decide +kernel
theorem dL_law_1205 : decode cL_law 1205 = .ok (.ireturn, 1) := by decide +kernel
theorem dL_law_1206 : decode cL_law 1206 = .ok (.iinc 3 7, 3) := by decide +kernel
theorem dL_law_1209 : decode cL_law 1209 = .ok (.goto (-1191), 3) := by decide +kernel
theorem dL_law_1212 : decode cL_law 1212 = .ok (.iconst 1, 1) := by decide +kernel
theorem dL_law_1213 : decode cL_law 1213 = .ok (.ireturn, 1) := by decide +kernel
