theorem dX6_countOn_5 : decode cX6_countOn 5 = .ok (.aload_n 0, 1) := by decide +kernel
theorem dX6_countOn_6 : decode cX6_countOn 6 = .ok (.getfield 18, 3) := by decide +kernel
theorem dX6_countOn_9 : decode cX6_countOn 9 = .ok (.if_icmp .ge 25, 3) := by decide +kernel
theorem dX6_countOn_12 : decode cX6_countOn 12 = .ok (.aload_n 0, 1) := by decide +kernel
theorem dX6_countOn_13 : decode cX6_countOn 13 = .ok (.getfield 11, 3) := by decide +kernel
theorem dX6_countOn_16 : decode cX6_countOn 16 = .ok (.iload_n 3, 1) := by decide +kernel
theorem dX6_countOn_17 : decode cX6_countOn 17 = .ok (.aaload, 1) := by decide +kernel
theorem dX6_countOn_18 : decode cX6_countOn 18 = .ok (.iload_n 1, 1) := by decide +kernel
theorem dX6_countOn_19 : decode cX6_countOn 19 = .ok (.invokevirtual 49, 3) := by decide +kernel
theorem dX6_countOn_22 : decode cX6_countOn 22 = .ok (.ifCond .eq 6, 3) := by decide +kernel
theorem dX6_countOn_25 : decode cX6_countOn 25 = .ok (.iinc 2 1, 3) := by decide +kernel
theorem dX6_countOn_28 : decode cX6_countOn 28 = .ok (.iinc 3 1, 3) := by decide +kernel
theorem dX6_countOn_31 : decode cX6_countOn 31 = .ok (.goto (-27), 3) := by decide +kernel
theorem dX6_countOn_34 : decode cX6_countOn 34 = .ok (.iload_n 2, 1) := by decide +kernel
theorem dX6_countOn_35 : decode cX6_countOn 35 = .ok (.ireturn, 1) := by decide +kernel
theorem dX6_placeOf_0 : decode cX6_placeOf 0 = .ok (.aload_n 0, 1) := by decide +kernel
theorem dX6_placeOf_1 : decode cX6_placeOf 1 = .ok (.getfield 11, 3) := by decide +kernel
theorem dX6_placeOf_4 : decode cX6_placeOf 4 = .ok (.iload_n 1, 1) := by decide +kernel
theorem dX6_placeOf_5 : decode cX6_placeOf 5 = .ok (.aaload, 1) := by decide +kernel
theorem dX6_placeOf_6 : decode cX6_placeOf 6 = .ok (.astore_n 2, 1) := by decide +kernel
theorem dX6_placeOf_7 : decode cX6_placeOf 7 = .ok (.iconst 0, 1) := by decide +kernel
theorem dX6_placeOf_8 : decode cX6_placeOf 8 = .ok (.istore_n 3, 1) := by decide +kernel
theorem dX6_placeOf_9 : decode cX6_placeOf 9 = .ok (.iconst 0, 1) := by decide +kernel
theorem dX6_placeOf_10 : decode cX6_placeOf 10 = .ok (.istore 4, 2) := by decide +kernel
theorem dX6_placeOf_12 : decode cX6_placeOf 12 = .ok (.iload 4, 2) := by decide +kernel
theorem dX6_placeOf_14 : decode cX6_placeOf 14 = .ok (.aload_n 0, 1) := by decide +kernel
theorem dX6_placeOf_15 : decode cX6_placeOf 15 = .ok (.getfield 18, 3) := by decide +kernel
theorem dX6_placeOf_18 : decode cX6_placeOf 18 = .ok (.if_icmp .ge 75, 3) := by decide +kernel
theorem dX6_placeOf_21 : decode cX6_placeOf 21 = .ok (.aload_n 0, 1) := by decide +kernel
theorem dX6_placeOf_22 : decode cX6_placeOf 22 = .ok (.getfield 11, 3) := by decide +kernel
theorem dX6_placeOf_25 : decode cX6_placeOf 25 = .ok (.iload 4, 2) := by decide +kernel
theorem dX6_placeOf_27 : decode cX6_placeOf 27 = .ok (.aaload, 1) := by decide +kernel
theorem dX6_placeOf_28 : decode cX6_placeOf 28 = .ok (.astore 5, 2) := by decide +kernel
theorem dX6_placeOf_30 : decode cX6_placeOf 30 = .ok (.aload 5, 2) := by decide +kernel
theorem dX6_placeOf_32 : decode cX6_placeOf 32 = .ok (.getfield 36, 3) := by decide +kernel
theorem dX6_placeOf_35 : decode cX6_placeOf 35 = .ok (.aload_n 2, 1) := by decide +kernel
theorem dX6_placeOf_36 : decode cX6_placeOf 36 = .ok (.getfield 36, 3) := by decide +kernel
theorem dX6_placeOf_39 : decode cX6_placeOf 39 = .ok (.if_icmp .lt 21, 3) := by decide +kernel
theorem dX6_placeOf_42 : decode cX6_placeOf 42 = .ok (.aload 5, 2) := by decide +kernel
theorem dX6_placeOf_44 : decode cX6_placeOf 44 = .ok (.getfield 36, 3) := by decide +kernel
theorem dX6_placeOf_47 : decode cX6_placeOf 47 = .ok (.aload_n 2, 1) := by decide +kernel
theorem dX6_placeOf_48 : decode cX6_placeOf 48 = .ok (.getfield 36, 3) := by decide +kernel
theorem dX6_placeOf_51 : decode cX6_placeOf 51 = .ok (.if_icmp .ne 13, 3) := by decide +kernel
theorem dX6_placeOf_54 : decode cX6_placeOf 54 = .ok (.iload 4, 2) := by decide +kernel
theorem dX6_placeOf_56 : decode cX6_placeOf 56 = .ok (.iload_n 1, 1) := by decide +kernel
theorem dX6_placeOf_57 : decode cX6_placeOf 57 = .ok (.if_icmp .ge 7, 3) := by decide +kernel
theorem dX6_placeOf_60 : decode cX6_placeOf 60 = .ok (.iconst 1, 1) := by decide +kernel
theorem dX6_placeOf_61 : decode cX6_placeOf 61 = .ok (.goto 4, 3) := by decide +kernel
theorem dX6_placeOf_64 : decode cX6_placeOf 64 = .ok (.iconst 0, 1) := by decide +kernel
theorem dX6_placeOf_65 : decode cX6_placeOf 65 = .ok (.istore 6, 2) := by decide +kernel
theorem dX6_placeOf_67 : decode cX6_placeOf 67 = .ok (.iload 6, 2) := by decide +kernel
theorem dX6_placeOf_69 : decode cX6_placeOf 69 = .ok (.ifCond .eq 18, 3) := by decide +kernel
theorem dX6_placeOf_72 : decode cX6_placeOf 72 = .ok (.aload 5, 2) := by decide +kernel
theorem dX6_placeOf_74 : decode cX6_placeOf 74 = .ok (.aload_n 2, 1) := by decide +kernel
theorem dX6_placeOf_75 : decode cX6_placeOf 75 = .ok (.getfield 30, 3) := by decide +kernel
theorem dX6_placeOf_78 : decode cX6_placeOf 78 = .ok (.invokevirtual 49, 3) := by decide +kernel
theorem dX6_placeOf_81 : decode cX6_placeOf 81 = .ok (.ifCond .eq 6, 3) := by decide +kernel
theorem dX6_placeOf_84 : decode cX6_placeOf 84 = .ok (.iinc 3 1, 3) := by decide +kernel
theorem dX6_placeOf_87 : decode cX6_placeOf 87 = .ok (.iinc 4 1, 3) := by decide +kernel
theorem dX6_placeOf_90 : decode cX6_placeOf 90 = .ok (.goto (-78), 3) := by decide +kernel
theorem dX6_placeOf_93 : decode cX6_placeOf 93 = .ok (.iload_n 3, 1) := by decide +kernel
theorem dX6_placeOf_94 : decode cX6_placeOf 94 = .ok (.ireturn, 1) := by decide +kernel
theorem dX6_inOrder_0 : decode cX6_inOrder 0 = .ok (.iconst 0, 1) := by decide +kernel
theorem dX6_inOrder_1 : decode cX6_inOrder 1 = .ok (.istore_n 3, 1) := by decide +kernel
theorem dX6_inOrder_2 : decode cX6_inOrder 2 = .ok (.iload_n 3, 1) := by decide +kernel
theorem dX6_inOrder_3 : decode cX6_inOrder 3 = .ok (.aload_n 0, 1) := by decide +kernel
theorem dX6_inOrder_4 : decode cX6_inOrder 4 = .ok (.getfield 18, 3) := by decide +kernel
theorem dX6_inOrder_7 : decode cX6_inOrder 7 = .ok (.if_icmp .ge 33, 3) := by decide +kernel
theorem dX6_inOrder_10 : decode cX6_inOrder 10 = .ok (.aload_n 0, 1) := by decide +kernel
theorem dX6_inOrder_11 : decode cX6_inOrder 11 = .ok (.getfield 11, 3) := by decide +kernel
theorem dX6_inOrder_14 : decode cX6_inOrder 14 = .ok (.iload_n 3, 1) := by decide +kernel
theorem dX6_inOrder_15 : decode cX6_inOrder 15 = .ok (.aaload, 1) := by decide +kernel
theorem dX6_inOrder_16 : decode cX6_inOrder 16 = .ok (.iload_n 1, 1) := by decide +kernel
theorem dX6_inOrder_17 : decode cX6_inOrder 17 = .ok (.invokevirtual 49, 3) := by decide +kernel
theorem dX6_inOrder_20 : decode cX6_inOrder 20 = .ok (.ifCond .eq 14, 3) := by decide +kernel
theorem dX6_inOrder_23 : decode cX6_inOrder 23 = .ok (.aload_n 0, 1) := by decide +kernel
theorem dX6_inOrder_24 : decode cX6_inOrder 24 = .ok (.iload_n 3, 1) := by decide +kernel
theorem dX6_inOrder_25 : decode cX6_inOrder 25 = .ok (.invokevirtual 53, 3) := by decide +kernel
theorem dX6_inOrder_28 : decode cX6_inOrder 28 = .ok (.iload_n 2, 1) := by decide +kernel
theorem dX6_inOrder_29 : decode cX6_inOrder 29 = .ok (.if_icmp .ne 5, 3) := by decide +kernel
theorem dX6_inOrder_32 : decode cX6_inOrder 32 = .ok (.iload_n 3, 1) := by decide +kernel
theorem dX6_inOrder_33 : decode cX6_inOrder 33 = .ok (.ireturn, 1) := by decide +kernel
theorem dX6_inOrder_34 : decode cX6_inOrder 34 = .ok (.iinc 3 1, 3) := by decide +kernel
theorem dX6_inOrder_37 : decode cX6_inOrder 37 = .ok (.goto (-35), 3) := by decide +kernel
theorem dX6_inOrder_40 : decode cX6_inOrder 40 = .ok (.iconst (-1), 1) := by decide +kernel
theorem dX6_inOrder_41 : decode cX6_inOrder 41 = .ok (.ireturn, 1) := by decide +kernel
theorem dX6_onwardAfter_0 : decode cX6_onwardAfter 0 = .ok (.iconst (-1), 1) := by decide +kernel
theorem dX6_onwardAfter_1 : decode cX6_onwardAfter 1 = .ok (.istore_n 3, 1) := by decide +kernel
theorem dX6_onwardAfter_2 : decode cX6_onwardAfter 2 = .ok (.iconst 0, 1) := by decide +kernel
theorem dX6_onwardAfter_3 : decode cX6_onwardAfter 3 = .ok (.istore 4, 2) := by decide +kernel
theorem dX6_onwardAfter_5 : decode cX6_onwardAfter 5 = .ok (.iload 4, 2) := by decide +kernel
theorem dX6_onwardAfter_7 : decode cX6_onwardAfter 7 = .ok (.aload_n 0, 1) := by decide +kernel
theorem dX6_onwardAfter_8 : decode cX6_onwardAfter 8 = .ok (.getfield 18, 3) := by decide +kernel
theorem dX6_onwardAfter_11 : decode cX6_onwardAfter 11 = .ok (.if_icmp .ge 84, 3) := by decide +kernel
theorem dX6_onwardAfter_14 : decode cX6_onwardAfter 14 = .ok (.aload_n 0, 1) := by decide +kernel
theorem dX6_onwardAfter_15 : decode cX6_onwardAfter 15 = .ok (.getfield 11, 3) := by decide +kernel
theorem dX6_onwardAfter_18 : decode cX6_onwardAfter 18 = .ok (.iload 4, 2) := by decide +kernel
theorem dX6_onwardAfter_20 : decode cX6_onwardAfter 20 = .ok (.aaload, 1) := by decide +kernel
theorem dX6_onwardAfter_21 : decode cX6_onwardAfter 21 = .ok (.astore 5, 2) := by decide +kernel
theorem dX6_onwardAfter_23 : decode cX6_onwardAfter 23 = .ok (.aload 5, 2) := by decide +kernel
theorem dX6_onwardAfter_25 : decode cX6_onwardAfter 25 = .ok (.getfield 33, 3) := by decide +kernel
theorem dX6_onwardAfter_28 : decode cX6_onwardAfter 28 = .ok (.iconst 1, 1) := by decide +kernel
theorem dX6_onwardAfter_29 : decode cX6_onwardAfter 29 = .ok (.if_icmp .ne 27, 3) := by decide +kernel
theorem dX6_onwardAfter_32 : decode cX6_onwardAfter 32 = .ok (.aload 5, 2) := by decide +kernel
theorem dX6_onwardAfter_34 : decode cX6_onwardAfter 34 = .ok (.getfield 42, 3) := by decide +kernel
theorem dX6_onwardAfter_37 : decode cX6_onwardAfter 37 = .ok (.iconst 2, 1) := by decide +kernel
theorem dX6_onwardAfter_38 : decode cX6_onwardAfter 38 = .ok (.iload_n 2, 1) := by decide +kernel
theorem dX6_onwardAfter_39 : decode cX6_onwardAfter 39 = .ok (.iadd, 1) := by decide +kernel
theorem dX6_onwardAfter_40 : decode cX6_onwardAfter 40 = .ok (.if_icmp .ne 16, 3) := by decide +kernel
theorem dX6_onwardAfter_43 : decode cX6_onwardAfter 43 = .ok (.aload 5, 2) := by decide +kernel
theorem dX6_onwardAfter_45 : decode cX6_onwardAfter 45 = .ok (.iload_n 1, 1) := by decide +kernel
theorem dX6_onwardAfter_46 : decode cX6_onwardAfter 46 = .ok (.invokevirtual 49, 3) := by decide +kernel
theorem dX6_onwardAfter_49 : decode cX6_onwardAfter 49 = .ok (.ifCond .eq 7, 3) := by decide +kernel
theorem dX6_onwardAfter_52 : decode cX6_onwardAfter 52 = .ok (.iconst 1, 1) := by decide +kernel
theorem dX6_onwardAfter_53 : decode cX6_onwardAfter 53 = .ok (.goto 4, 3) := by decide +kernel
theorem dX6_onwardAfter_56 : decode cX6_onwardAfter 56 = .ok (.iconst 0, 1) := by decide +kernel
theorem dX6_onwardAfter_57 : decode cX6_onwardAfter 57 = .ok (.istore 6, 2) := by decide +kernel
theorem dX6_onwardAfter_59 : decode cX6_onwardAfter 59 = .ok (.iload 6, 2) := by decide +kernel
theorem dX6_onwardAfter_61 : decode cX6_onwardAfter 61 = .ok (.ifCond .eq 28, 3) := by decide +kernel
theorem dX6_onwardAfter_64 : decode cX6_onwardAfter 64 = .ok (.iload_n 3, 1) := by decide +kernel
theorem dX6_onwardAfter_65 : decode cX6_onwardAfter 65 = .ok (.iconst (-1), 1) := by decide +kernel
theorem dX6_onwardAfter_66 : decode cX6_onwardAfter 66 = .ok (.if_icmp .eq 20, 3) := by decide +kernel
theorem dX6_onwardAfter_69 : decode cX6_onwardAfter 69 = .ok (.aload 5, 2) := by decide +kernel
theorem dX6_onwardAfter_71 : decode cX6_onwardAfter 71 = .ok (.getfield 36, 3) := by decide +kernel
theorem dX6_onwardAfter_74 : decode cX6_onwardAfter 74 = .ok (.aload_n 0, 1) := by decide +kernel
theorem dX6_onwardAfter_75 : decode cX6_onwardAfter 75 = .ok (.getfield 11, 3) := by decide +kernel
theorem dX6_onwardAfter_78 : decode cX6_onwardAfter 78 = .ok (.iload_n 3, 1) := by decide +kernel
theorem dX6_onwardAfter_79 : decode cX6_onwardAfter 79 = .ok (.aaload, 1) := by decide +kernel
theorem dX6_onwardAfter_80 : decode cX6_onwardAfter 80 = .ok (.getfield 36, 3) := by decide +kernel
theorem dX6_onwardAfter_83 : decode cX6_onwardAfter 83 = .ok (.if_icmp .ge 6, 3) := by decide +kernel
theorem dX6_onwardAfter_86 : decode cX6_onwardAfter 86 = .ok (.iload 4, 2) := by decide +kernel
theorem dX6_onwardAfter_88 : decode cX6_onwardAfter 88 = .ok (.istore_n 3, 1) := by decide +kernel
theorem dX6_onwardAfter_89 : decode cX6_onwardAfter 89 = .ok (.iinc 4 1, 3) := by decide +kernel
theorem dX6_onwardAfter_92 : decode cX6_onwardAfter 92 = .ok (.goto (-87), 3) := by decide +kernel
theorem dX6_onwardAfter_95 : decode cX6_onwardAfter 95 = .ok (.iload_n 3, 1) := by decide +kernel
theorem dX6_onwardAfter_96 : decode cX6_onwardAfter 96 = .ok (.ireturn, 1) := by decide +kernel
theorem dX6_leaveAlone_0 : decode cX6_leaveAlone 0 = .ok (.iconst 0, 1) := by decide +kernel
theorem dX6_leaveAlone_1 : decode cX6_leaveAlone 1 = .ok (.istore_n 2, 1) := by decide +kernel
theorem dX6_leaveAlone_2 : decode cX6_leaveAlone 2 = .ok (.iload_n 2, 1) := by decide +kernel
theorem dX6_leaveAlone_3 : decode cX6_leaveAlone 3 = .ok (.aload_n 0, 1) := by decide +kernel
theorem dX6_leaveAlone_4 : decode cX6_leaveAlone 4 = .ok (.getfield 18, 3) := by decide +kernel
theorem dX6_leaveAlone_7 : decode cX6_leaveAlone 7 = .ok (.if_icmp .ge 40, 3) := by decide +kernel
theorem dX6_leaveAlone_10 : decode cX6_leaveAlone 10 = .ok (.aload_n 0, 1) := by decide +kernel
theorem dX6_leaveAlone_11 : decode cX6_leaveAlone 11 = .ok (.getfield 11, 3) := by decide +kernel
theorem dX6_leaveAlone_14 : decode cX6_leaveAlone 14 = .ok (.iload_n 2, 1) := by decide +kernel
theorem dX6_leaveAlone_15 : decode cX6_leaveAlone 15 = .ok (.aaload, 1) := by decide +kernel
theorem dX6_leaveAlone_16 : decode cX6_leaveAlone 16 = .ok (.invokevirtual 57, 3) := by decide +kernel
theorem dX6_leaveAlone_19 : decode cX6_leaveAlone 19 = .ok (.ifCond .eq 22, 3) := by decide +kernel
theorem dX6_leaveAlone_22 : decode cX6_leaveAlone 22 = .ok (.aload_n 0, 1) := by decide +kernel
theorem dX6_leaveAlone_23 : decode cX6_leaveAlone 23 = .ok (.getfield 11, 3) := by decide +kernel
theorem dX6_leaveAlone_26 : decode cX6_leaveAlone 26 = .ok (.iload_n 2, 1) := by decide +kernel
theorem dX6_leaveAlone_27 : decode cX6_leaveAlone 27 = .ok (.aaload, 1) := by decide +kernel
theorem dX6_leaveAlone_28 : decode cX6_leaveAlone 28 = .ok (.iload_n 2, 1) := by decide +kernel
theorem dX6_leaveAlone_29 : decode cX6_leaveAlone 29 = .ok (.iload_n 1, 1) := by decide +kernel
theorem dX6_leaveAlone_30 : decode cX6_leaveAlone 30 = .ok (.if_icmp .ne 7, 3) := by decide +kernel
theorem dX6_leaveAlone_33 : decode cX6_leaveAlone 33 = .ok (.iconst 1, 1) := by decide +kernel
theorem dX6_leaveAlone_34 : decode cX6_leaveAlone 34 = .ok (.goto 4, 3) := by decide +kernel
theorem dX6_leaveAlone_37 : decode cX6_leaveAlone 37 = .ok (.iconst 0, 1) := by decide +kernel
theorem dX6_leaveAlone_38 : decode cX6_leaveAlone 38 = .ok (.putfield 45, 3) := by decide +kernel
theorem dX6_leaveAlone_41 : decode cX6_leaveAlone 41 = .ok (.iinc 2 1, 3) := by decide +kernel
theorem dX6_leaveAlone_44 : decode cX6_leaveAlone 44 = .ok (.goto (-42), 3) := by decide +kernel
theorem dX6_leaveAlone_47 : decode cX6_leaveAlone 47 = .ok (.return_, 1) := by decide +kernel
theorem dX7_init_0 : decode cX7_init 0 = .ok (.aload_n 0, 1) := by decide +kernel
theorem dX7_init_1 : decode cX7_init 1 = .ok (.invokespecial 1, 3) := by decide +kernel
theorem dX7_init_4 : decode cX7_init 4 = .ok (.aload_n 0, 1) := by decide +kernel
theorem dX7_init_5 : decode cX7_init 5 = .ok (.new 7, 3) := by decide +kernel
theorem dX7_init_8 : decode cX7_init 8 = .ok (.dup, 1) := by decide +kernel
theorem dX7_init_9 : decode cX7_init 9 = .ok (.new 9, 3) := by decide +kernel
theorem dX7_init_12 : decode cX7_init 12 = .ok (.dup, 1) := by decide +kernel
theorem dX7_init_13 : decode cX7_init 13 = .ok (.invokespecial 11, 3) := by decide +kernel
theorem dX7_init_16 : decode cX7_init 16 = .ok (.bipush 60, 2) := by decide +kernel
theorem dX7_init_18 : decode cX7_init 18 = .ok (.invokespecial 14, 3) := by decide +kernel
theorem dX7_init_21 : decode cX7_init 21 = .ok (.putfield 17, 3) := by decide +kernel
theorem dX7_init_24 : decode cX7_init 24 = .ok (.aload_n 0, 1) := by decide +kernel
theorem dX7_init_25 : decode cX7_init 25 = .ok (.new 7, 3) := by decide +kernel
theorem dX7_init_28 : decode cX7_init 28 = .ok (.dup, 1) := by decide +kernel
theorem dX7_init_29 : decode cX7_init 29 = .ok (.new 9, 3) := by decide +kernel
theorem dX7_init_32 : decode cX7_init 32 = .ok (.dup, 1) := by decide +kernel
theorem dX7_init_33 : decode cX7_init 33 = .ok (.invokespecial 11, 3) := by decide +kernel
theorem dX7_init_36 : decode cX7_init 36 = .ok (.bipush 60, 2) := by decide +kernel
theorem dX7_init_38 : decode cX7_init 38 = .ok (.invokespecial 14, 3) := by decide +kernel
theorem dX7_init_41 : decode cX7_init 41 = .ok (.putfield 21, 3) := by decide +kernel
theorem dX7_init_44 : decode cX7_init 44 = .ok (.aload_n 0, 1) := by decide +kernel
theorem dX7_init_45 : decode cX7_init 45 = .ok (.new 24, 3) := by decide +kernel
theorem dX7_init_48 : decode cX7_init 48 = .ok (.dup, 1) := by decide +kernel
theorem dX7_init_49 : decode cX7_init 49 = .ok (.invokespecial 26, 3) := by decide +kernel
theorem dX7_init_52 : decode cX7_init 52 = .ok (.putfield 27, 3) := by decide +kernel
theorem dX7_init_55 : decode cX7_init 55 = .ok (.aload_n 0, 1) := by decide +kernel
theorem dX7_init_56 : decode cX7_init 56 = .ok (.new 31, 3) := by decide +kernel
theorem dX7_init_59 : decode cX7_init 59 = .ok (.dup, 1) := by decide +kernel
theorem dX7_init_60 : decode cX7_init 60 = .ok (.invokespecial 33, 3) := by decide +kernel
theorem dX7_init_63 : decode cX7_init 63 = .ok (.putfield 34, 3) := by decide +kernel
theorem dX7_init_66 : decode cX7_init 66 = .ok (.aload_n 0, 1) := by decide +kernel
theorem dX7_init_67 : decode cX7_init 67 = .ok (.new 38, 3) := by decide +kernel
theorem dX7_init_70 : decode cX7_init 70 = .ok (.dup, 1) := by decide +kernel
theorem dX7_init_71 : decode cX7_init 71 = .ok (.invokespecial 40, 3) := by decide +kernel
theorem dX7_init_74 : decode cX7_init 74 = .ok (.putfield 41, 3) := by decide +kernel
theorem dX7_init_77 : decode cX7_init 77 = .ok (.aload_n 0, 1) := by decide +kernel
theorem dX7_init_78 : decode cX7_init 78 = .ok (.iconst 3, 1) := by decide +kernel
theorem dX7_init_79 : decode cX7_init 79 = .ok (.newarray .int, 2) := by decide +kernel
theorem dX7_init_81 : decode cX7_init 81 = .ok (.putfield 45, 3) := by decide +kernel
theorem dX7_init_84 : decode cX7_init 84 = .ok (.return_, 1) := by decide +kernel
theorem dX7_line_0 : decode cX7_line 0 = .ok (.aload_n 0, 1) := by decide +kernel
theorem dX7_line_1 : decode cX7_line 1 = .ok (.getfield 17, 3) := by decide +kernel
theorem dX7_line_4 : decode cX7_line 4 = .ok (.getfield 49, 3) := by decide +kernel
theorem dX7_line_7 : decode cX7_line 7 = .ok (.bipush 8, 2) := by decide +kernel
theorem dX7_line_9 : decode cX7_line 9 = .ok (.if_icmp .lt 9, 3) := by decide +kernel
theorem dX7_line_12 : decode cX7_line 12 = .ok (.aload_n 0, 1) := by decide +kernel
theorem dX7_line_13 : decode cX7_line 13 = .ok (.iconst 2, 1) := by decide +kernel
theorem dX7_line_14 : decode cX7_line 14 = .ok (.invokevirtual 53, 3) := by decide +kernel
theorem dX7_line_17 : decode cX7_line 17 = .ok (.ireturn, 1) := by decide +kernel
theorem dX7_line_18 : decode cX7_line 18 = .ok (.aload_n 0, 1) := by decide +kernel
theorem dX7_line_19 : decode cX7_line 19 = .ok (.getfield 17, 3) := by decide +kernel
theorem dX7_line_22 : decode cX7_line 22 = .ok (.dup, 1) := by decide +kernel
theorem dX7_line_23 : decode cX7_line 23 = .ok (.getfield 49, 3) := by decide +kernel
theorem dX7_line_26 : decode cX7_line 26 = .ok (.iconst 1, 1) := by decide +kernel
theorem dX7_line_27 : decode cX7_line 27 = .ok (.iadd, 1) := by decide +kernel
theorem dX7_line_28 : decode cX7_line 28 = .ok (.putfield 49, 3) := by decide +kernel
theorem dX7_line_31 : decode cX7_line 31 = .ok (.aload_n 0, 1) := by decide +kernel
theorem dX7_line_32 : decode cX7_line 32 = .ok (.aload_n 0, 1) := by decide +kernel
theorem dX7_line_33 : decode cX7_line 33 = .ok (.getfield 17, 3) := by decide +kernel
theorem dX7_line_36 : decode cX7_line 36 = .ok (.getfield 49, 3) := by decide +kernel
theorem dX7_line_39 : decode cX7_line 39 = .ok (.iconst 1, 1) := by decide +kernel
theorem dX7_line_40 : decode cX7_line 40 = .ok (.isub, 1) := by decide +kernel
theorem dX7_line_41 : decode cX7_line 41 = .ok (.invokevirtual 57, 3) := by decide +kernel
theorem dX7_line_44 : decode cX7_line 44 = .ok (.ireturn, 1) := by decide +kernel
theorem dX7_wish_0 : decode cX7_wish 0 = .ok (.aload_n 0, 1) := by decide +kernel
theorem dX7_wish_1 : decode cX7_wish 1 = .ok (.iload_n 1, 1) := by decide +kernel
theorem dX7_wish_2 : decode cX7_wish 2 = .ok (.iload_n 2, 1) := by decide +kernel
theorem dX7_wish_3 : decode cX7_wish 3 = .ok (.iload_n 3, 1) := by decide +kernel
theorem dX7_wish_4 : decode cX7_wish 4 = .ok (.iload 4, 2) := by decide +kernel
theorem dX7_wish_6 : decode cX7_wish 6 = .ok (.iload 5, 2) := by decide +kernel
theorem dX7_wish_8 : decode cX7_wish 8 = .ok (.invokevirtual 60, 3) := by decide +kernel
theorem dX7_wish_11 : decode cX7_wish 11 = .ok (.ifCond .ne 9, 3) := by decide +kernel
theorem dX7_wish_14 : decode cX7_wish 14 = .ok (.aload_n 0, 1) := by decide +kernel
theorem dX7_wish_15 : decode cX7_wish 15 = .ok (.iconst 1, 1) := by decide +kernel
theorem dX7_wish_16 : decode cX7_wish 16 = .ok (.invokevirtual 53, 3) := by decide +kernel
theorem dX7_wish_19 : decode cX7_wish 19 = .ok (.ireturn, 1) := by decide +kernel
theorem dX7_wish_20 : decode cX7_wish 20 = .ok (.aload_n 0, 1) := by decide +kernel
theorem dX7_wish_21 : decode cX7_wish 21 = .ok (.getfield 17, 3) := by decide +kernel
theorem dX7_wish_24 : decode cX7_wish 24 = .ok (.getfield 64, 3) := by decide +kernel
theorem dX7_wish_27 : decode cX7_wish 27 = .ok (.invokevirtual 68, 3) := by decide +kernel
theorem dX7_wish_30 : decode cX7_wish 30 = .ok (.ifCond .eq 9, 3) := by decide +kernel
theorem dX7_wish_33 : decode cX7_wish 33 = .ok (.aload_n 0, 1) := by decide +kernel
theorem dX7_wish_34 : decode cX7_wish 34 = .ok (.iconst 2, 1) := by decide +kernel
theorem dX7_wish_35 : decode cX7_wish 35 = .ok (.invokevirtual 53, 3) := by decide +kernel
theorem dX7_wish_38 : decode cX7_wish 38 = .ok (.ireturn, 1) := by decide +kernel
theorem dX7_wish_39 : decode cX7_wish 39 = .ok (.aload_n 0, 1) := by decide +kernel
theorem dX7_wish_40 : decode cX7_wish 40 = .ok (.aload_n 0, 1) := by decide +kernel
theorem dX7_wish_41 : decode cX7_wish 41 = .ok (.getfield 17, 3) := by decide +kernel
theorem dX7_wish_44 : decode cX7_wish 44 = .ok (.getfield 64, 3) := by decide +kernel
theorem dX7_wish_47 : decode cX7_wish 47 = .ok (.iload_n 1, 1) := by decide +kernel
theorem dX7_wish_48 : decode cX7_wish 48 = .ok (.iload_n 2, 1) := by decide +kernel
theorem dX7_wish_49 : decode cX7_wish 49 = .ok (.iload_n 3, 1) := by decide +kernel
theorem dX7_wish_50 : decode cX7_wish 50 = .ok (.iload 4, 2) := by decide +kernel
theorem dX7_wish_52 : decode cX7_wish 52 = .ok (.iload 5, 2) := by decide +kernel
theorem dX7_wish_54 : decode cX7_wish 54 = .ok (.invokevirtual 72, 3) := by decide +kernel
theorem dX7_wish_57 : decode cX7_wish 57 = .ok (.invokevirtual 57, 3) := by decide +kernel
theorem dX7_wish_60 : decode cX7_wish 60 = .ok (.ireturn, 1) := by decide +kernel
theorem dX7_on_0 : decode cX7_on 0 = .ok (.aload_n 0, 1) := by decide +kernel
theorem dX7_on_1 : decode cX7_on 1 = .ok (.getfield 17, 3) := by decide +kernel
theorem dX7_on_4 : decode cX7_on 4 = .ok (.getfield 64, 3) := by decide +kernel
theorem dX7_on_7 : decode cX7_on 7 = .ok (.iload_n 1, 1) := by decide +kernel
theorem dX7_on_8 : decode cX7_on 8 = .ok (.invokevirtual 76, 3) := by decide +kernel
theorem dX7_on_11 : decode cX7_on 11 = .ok (.ifCond .ne 9, 3) := by decide +kernel
theorem dX7_on_14 : decode cX7_on 14 = .ok (.aload_n 0, 1) := by decide +kernel
theorem dX7_on_15 : decode cX7_on 15 = .ok (.iconst 1, 1) := by decide +kernel
theorem dX7_on_16 : decode cX7_on 16 = .ok (.invokevirtual 53, 3) := by decide +kernel
theorem dX7_on_19 : decode cX7_on 19 = .ok (.ireturn, 1) := by decide +kernel
theorem dX7_on_20 : decode cX7_on 20 = .ok (.aload_n 0, 1) := by decide +kernel
theorem dX7_on_21 : decode cX7_on 21 = .ok (.getfield 17, 3) := by decide +kernel
theorem dX7_on_24 : decode cX7_on 24 = .ok (.getfield 64, 3) := by decide +kernel
theorem dX7_on_27 : decode cX7_on 27 = .ok (.getfield 80, 3) := by decide +kernel
theorem dX7_on_30 : decode cX7_on 30 = .ok (.iload_n 1, 1) := by decide +kernel
theorem dX7_on_31 : decode cX7_on 31 = .ok (.aaload, 1) := by decide +kernel
theorem dX7_on_32 : decode cX7_on 32 = .ok (.astore_n 3, 1) := by decide +kernel
theorem dX7_on_33 : decode cX7_on 33 = .ok (.aload_n 3, 1) := by decide +kernel
theorem dX7_on_34 : decode cX7_on 34 = .ok (.getfield 84, 3) := by decide +kernel
theorem dX7_on_37 : decode cX7_on 37 = .ok (.iload_n 2, 1) := by decide +kernel
theorem dX7_on_38 : decode cX7_on 38 = .ok (.if_icmp .ne 7, 3) := by decide +kernel
theorem dX7_on_41 : decode cX7_on 41 = .ok (.iconst 0, 1) := by decide +kernel
theorem dX7_on_42 : decode cX7_on 42 = .ok (.goto 4, 3) := by decide +kernel
theorem dX7_on_45 : decode cX7_on 45 = .ok (.iconst 1, 1) := by decide +kernel
theorem dX7_on_46 : decode cX7_on 46 = .ok (.istore 4, 2) := by decide +kernel
theorem dX7_on_48 : decode cX7_on 48 = .ok (.aload_n 3, 1) := by decide +kernel
theorem dX7_on_49 : decode cX7_on 49 = .ok (.iload_n 2, 1) := by decide +kernel
theorem dX7_on_50 : decode cX7_on 50 = .ok (.putfield 84, 3) := by decide +kernel
theorem dX7_on_53 : decode cX7_on 53 = .ok (.aload_n 0, 1) := by decide +kernel
theorem dX7_on_54 : decode cX7_on 54 = .ok (.iload 4, 2) := by decide +kernel
theorem dX7_on_56 : decode cX7_on 56 = .ok (.invokevirtual 57, 3) := by decide +kernel
theorem dX7_on_59 : decode cX7_on 59 = .ok (.ireturn, 1) := by decide +kernel
theorem dX7_rank_0 : decode cX7_rank 0 = .ok (.aload_n 0, 1) := by decide +kernel
theorem dX7_rank_1 : decode cX7_rank 1 = .ok (.getfield 17, 3) := by decide +kernel
theorem dX7_rank_4 : decode cX7_rank 4 = .ok (.getfield 64, 3) := by decide +kernel
theorem dX7_rank_7 : decode cX7_rank 7 = .ok (.iload_n 1, 1) := by decide +kernel
theorem dX7_rank_8 : decode cX7_rank 8 = .ok (.invokevirtual 76, 3) := by decide +kernel
theorem dX7_rank_11 : decode cX7_rank 11 = .ok (.ifCond .eq 10, 3) := by decide +kernel
theorem dX7_rank_14 : decode cX7_rank 14 = .ok (.iload_n 2, 1) := by decide +kernel
theorem dX7_rank_15 : decode cX7_rank 15 = .ok (.invokestatic 90, 3) := by decide +kernel
theorem dX7_rank_18 : decode cX7_rank 18 = .ok (.ifCond .ne 9, 3) := by decide +kernel
theorem dX7_rank_21 : decode cX7_rank 21 = .ok (.aload_n 0, 1) := by decide +kernel
theorem dX7_rank_22 : decode cX7_rank 22 = .ok (.iconst 1, 1) := by decide +kernel
theorem dX7_rank_23 : decode cX7_rank 23 = .ok (.invokevirtual 53, 3) := by decide +kernel
theorem dX7_rank_26 : decode cX7_rank 26 = .ok (.ireturn, 1) := by decide +kernel
theorem dX7_rank_27 : decode cX7_rank 27 = .ok (.aload_n 0, 1) := by decide +kernel
theorem dX7_rank_28 : decode cX7_rank 28 = .ok (.getfield 17, 3) := by decide +kernel
theorem dX7_rank_31 : decode cX7_rank 31 = .ok (.getfield 64, 3) := by decide +kernel
theorem dX7_rank_34 : decode cX7_rank 34 = .ok (.getfield 80, 3) := by decide +kernel
theorem dX7_rank_37 : decode cX7_rank 37 = .ok (.iload_n 1, 1) := by decide +kernel
theorem dX7_rank_38 : decode cX7_rank 38 = .ok (.aaload, 1) := by decide +kernel
theorem dX7_rank_39 : decode cX7_rank 39 = .ok (.astore_n 3, 1) := by decide +kernel
theorem dX7_rank_40 : decode cX7_rank 40 = .ok (.aload_n 3, 1) := by decide +kernel
theorem dX7_rank_41 : decode cX7_rank 41 = .ok (.getfield 93, 3) := by decide +kernel
theorem dX7_rank_44 : decode cX7_rank 44 = .ok (.istore 4, 2) := by decide +kernel
theorem dX7_rank_46 : decode cX7_rank 46 = .ok (.aload_n 3, 1) := by decide +kernel
theorem dX7_rank_47 : decode cX7_rank 47 = .ok (.iload_n 2, 1) := by decide +kernel
theorem dX7_rank_48 : decode cX7_rank 48 = .ok (.putfield 93, 3) := by decide +kernel
theorem dX7_rank_51 : decode cX7_rank 51 = .ok (.aload_n 0, 1) := by decide +kernel
theorem dX7_rank_52 : decode cX7_rank 52 = .ok (.iload 4, 2) := by decide +kernel
theorem dX7_rank_54 : decode cX7_rank 54 = .ok (.invokevirtual 57, 3) := by decide +kernel
theorem dX7_rank_57 : decode cX7_rank 57 = .ok (.ireturn, 1) := by decide +kernel
theorem dX7_dial_0 : decode cX7_dial 0 = .ok (.aload_n 0, 1) := by decide +kernel
theorem dX7_dial_1 : decode cX7_dial 1 = .ok (.getfield 17, 3) := by decide +kernel
theorem dX7_dial_4 : decode cX7_dial 4 = .ok (.iload_n 1, 1) := by decide +kernel
theorem dX7_dial_5 : decode cX7_dial 5 = .ok (.invokevirtual 96, 3) := by decide +kernel
theorem dX7_dial_8 : decode cX7_dial 8 = .ok (.ifCond .eq 14, 3) := by decide +kernel
theorem dX7_dial_11 : decode cX7_dial 11 = .ok (.aload_n 0, 1) := by decide +kernel
theorem dX7_dial_12 : decode cX7_dial 12 = .ok (.getfield 17, 3) := by decide +kernel
theorem dX7_dial_15 : decode cX7_dial 15 = .ok (.iload_n 2, 1) := by decide +kernel
theorem dX7_dial_16 : decode cX7_dial 16 = .ok (.invokevirtual 96, 3) := by decide +kernel
theorem dX7_dial_19 : decode cX7_dial 19 = .ok (.ifCond .ne 9, 3) := by decide +kernel
theorem dX7_dial_22 : decode cX7_dial 22 = .ok (.aload_n 0, 1) := by decide +kernel
theorem dX7_dial_23 : decode cX7_dial 23 = .ok (.iconst 1, 1) := by decide +kernel
theorem dX7_dial_24 : decode cX7_dial 24 = .ok (.invokevirtual 53, 3) := by decide +kernel
theorem dX7_dial_27 : decode cX7_dial 27 = .ok (.ireturn, 1) := by decide +kernel
theorem dX7_dial_28 : decode cX7_dial 28 = .ok (.aload_n 0, 1) := by decide +kernel
theorem dX7_dial_29 : decode cX7_dial 29 = .ok (.getfield 17, 3) := by decide +kernel
theorem dX7_dial_32 : decode cX7_dial 32 = .ok (.invokevirtual 99, 3) := by decide +kernel
theorem dX7_dial_35 : decode cX7_dial 35 = .ok (.ifCond .ne 9, 3) := by decide +kernel
theorem dX7_dial_38 : decode cX7_dial 38 = .ok (.aload_n 0, 1) := by decide +kernel
theorem dX7_dial_39 : decode cX7_dial 39 = .ok (.iconst 2, 1) := by decide +kernel
theorem dX7_dial_40 : decode cX7_dial 40 = .ok (.invokevirtual 53, 3) := by decide +kernel
theorem dX7_dial_43 : decode cX7_dial 43 = .ok (.ireturn, 1) := by decide +kernel
theorem dX7_dial_44 : decode cX7_dial 44 = .ok (.aload_n 0, 1) := by decide +kernel
theorem dX7_dial_45 : decode cX7_dial 45 = .ok (.getfield 17, 3) := by decide +kernel
theorem dX7_dial_48 : decode cX7_dial 48 = .ok (.iload_n 1, 1) := by decide +kernel
theorem dX7_dial_49 : decode cX7_dial 49 = .ok (.invokevirtual 102, 3) := by decide +kernel
theorem dX7_dial_52 : decode cX7_dial 52 = .ok (.ifCond .ne 9, 3) := by decide +kernel
theorem dX7_dial_55 : decode cX7_dial 55 = .ok (.aload_n 0, 1) := by decide +kernel
theorem dX7_dial_56 : decode cX7_dial 56 = .ok (.iconst 3, 1) := by decide +kernel
theorem dX7_dial_57 : decode cX7_dial 57 = .ok (.invokevirtual 53, 3) := by decide +kernel
theorem dX7_dial_60 : decode cX7_dial 60 = .ok (.ireturn, 1) := by decide +kernel
theorem dX7_dial_61 : decode cX7_dial 61 = .ok (.aload_n 0, 1) := by decide +kernel
theorem dX7_dial_62 : decode cX7_dial 62 = .ok (.aload_n 0, 1) := by decide +kernel
theorem dX7_dial_63 : decode cX7_dial 63 = .ok (.getfield 17, 3) := by decide +kernel
theorem dX7_dial_66 : decode cX7_dial 66 = .ok (.iload_n 1, 1) := by decide +kernel
theorem dX7_dial_67 : decode cX7_dial 67 = .ok (.iload_n 2, 1) := by decide +kernel
theorem dX7_dial_68 : decode cX7_dial 68 = .ok (.invokevirtual 105, 3) := by decide +kernel
theorem dX7_dial_71 : decode cX7_dial 71 = .ok (.invokevirtual 57, 3) := by decide +kernel
theorem dX7_dial_74 : decode cX7_dial 74 = .ok (.ireturn, 1) := by decide +kernel
theorem dX7_take_0 : decode cX7_take 0 = .ok (.aload_n 0, 1) := by decide +kernel
theorem dX7_take_1 : decode cX7_take 1 = .ok (.getfield 17, 3) := by decide +kernel
theorem dX7_take_4 : decode cX7_take 4 = .ok (.iload_n 1, 1) := by decide +kernel
theorem dX7_take_5 : decode cX7_take 5 = .ok (.invokevirtual 96, 3) := by decide +kernel
theorem dX7_take_8 : decode cX7_take 8 = .ok (.ifCond .ne 9, 3) := by decide +kernel
theorem dX7_take_11 : decode cX7_take 11 = .ok (.aload_n 0, 1) := by decide +kernel
theorem dX7_take_12 : decode cX7_take 12 = .ok (.iconst 1, 1) := by decide +kernel
theorem dX7_take_13 : decode cX7_take 13 = .ok (.invokevirtual 53, 3) := by decide +kernel
theorem dX7_take_16 : decode cX7_take 16 = .ok (.ireturn, 1) := by decide +kernel
theorem dX7_take_17 : decode cX7_take 17 = .ok (.aload_n 0, 1) := by decide +kernel
theorem dX7_take_18 : decode cX7_take 18 = .ok (.getfield 17, 3) := by decide +kernel
theorem dX7_take_21 : decode cX7_take 21 = .ok (.iload_n 1, 1) := by decide +kernel
theorem dX7_take_22 : decode cX7_take 22 = .ok (.invokevirtual 109, 3) := by decide +kernel
theorem dX7_take_25 : decode cX7_take 25 = .ok (.ifCond .ne 9, 3) := by decide +kernel
theorem dX7_take_28 : decode cX7_take 28 = .ok (.aload_n 0, 1) := by decide +kernel
theorem dX7_take_29 : decode cX7_take 29 = .ok (.iconst 3, 1) := by decide +kernel
theorem dX7_take_30 : decode cX7_take 30 = .ok (.invokevirtual 53, 3) := by decide +kernel
theorem dX7_take_33 : decode cX7_take 33 = .ok (.ireturn, 1) := by decide +kernel
theorem dX7_take_34 : decode cX7_take 34 = .ok (.aload_n 0, 1) := by decide +kernel
theorem dX7_take_35 : decode cX7_take 35 = .ok (.aload_n 0, 1) := by decide +kernel
theorem dX7_take_36 : decode cX7_take 36 = .ok (.getfield 17, 3) := by decide +kernel
theorem dX7_take_39 : decode cX7_take 39 = .ok (.iload_n 1, 1) := by decide +kernel
theorem dX7_take_40 : decode cX7_take 40 = .ok (.invokevirtual 112, 3) := by decide +kernel
theorem dX7_take_43 : decode cX7_take 43 = .ok (.invokevirtual 57, 3) := by decide +kernel
theorem dX7_take_46 : decode cX7_take 46 = .ok (.ireturn, 1) := by decide +kernel
theorem dX7_down_0 : decode cX7_down 0 = .ok (.aload_n 0, 1) := by decide +kernel
theorem dX7_down_1 : decode cX7_down 1 = .ok (.getfield 17, 3) := by decide +kernel
theorem dX7_down_4 : decode cX7_down 4 = .ok (.iload_n 1, 1) := by decide +kernel
theorem dX7_down_5 : decode cX7_down 5 = .ok (.invokevirtual 96, 3) := by decide +kernel
theorem dX7_down_8 : decode cX7_down 8 = .ok (.ifCond .ne 9, 3) := by decide +kernel
theorem dX7_down_11 : decode cX7_down 11 = .ok (.aload_n 0, 1) := by decide +kernel
theorem dX7_down_12 : decode cX7_down 12 = .ok (.iconst 1, 1) := by decide +kernel
theorem dX7_down_13 : decode cX7_down 13 = .ok (.invokevirtual 53, 3) := by decide +kernel
theorem dX7_down_16 : decode cX7_down 16 = .ok (.ireturn, 1) := by decide +kernel
theorem dX7_down_17 : decode cX7_down 17 = .ok (.aload_n 0, 1) := by decide +kernel
theorem dX7_down_18 : decode cX7_down 18 = .ok (.getfield 17, 3) := by decide +kernel
theorem dX7_down_21 : decode cX7_down 21 = .ok (.iload_n 1, 1) := by decide +kernel
theorem dX7_down_22 : decode cX7_down 22 = .ok (.invokevirtual 115, 3) := by decide +kernel
theorem dX7_down_25 : decode cX7_down 25 = .ok (.ifCond .ne 9, 3) := by decide +kernel
theorem dX7_down_28 : decode cX7_down 28 = .ok (.aload_n 0, 1) := by decide +kernel
theorem dX7_down_29 : decode cX7_down 29 = .ok (.iconst 3, 1) := by decide +kernel
theorem dX7_down_30 : decode cX7_down 30 = .ok (.invokevirtual 53, 3) := by decide +kernel
theorem dX7_down_33 : decode cX7_down 33 = .ok (.ireturn, 1) := by decide +kernel
theorem dX7_down_34 : decode cX7_down 34 = .ok (.aload_n 0, 1) := by decide +kernel
theorem dX7_down_35 : decode cX7_down 35 = .ok (.aload_n 0, 1) := by decide +kernel
theorem dX7_down_36 : decode cX7_down 36 = .ok (.getfield 17, 3) := by decide +kernel
theorem dX7_down_39 : decode cX7_down 39 = .ok (.iload_n 1, 1) := by decide +kernel
theorem dX7_down_40 : decode cX7_down 40 = .ok (.invokevirtual 118, 3) := by decide +kernel
theorem dX7_down_43 : decode cX7_down 43 = .ok (.invokevirtual 57, 3) := by decide +kernel
theorem dX7_down_46 : decode cX7_down 46 = .ok (.ireturn, 1) := by decide +kernel
theorem dX7_tick_0 : decode cX7_tick 0 = .ok (.aload_n 0, 1) := by decide +kernel
theorem dX7_tick_1 : decode cX7_tick 1 = .ok (.getfield 17, 3) := by decide +kernel
theorem dX7_tick_4 : decode cX7_tick 4 = .ok (.getfield 121, 3) := by decide +kernel
theorem dX7_tick_7 : decode cX7_tick 7 = .ok (.sipush 1000, 3) := by decide +kernel
theorem dX7_tick_10 : decode cX7_tick 10 = .ok (.if_icmp .lt 9, 3) := by decide +kernel
theorem dX7_tick_13 : decode cX7_tick 13 = .ok (.aload_n 0, 1) := by decide +kernel
theorem dX7_tick_14 : decode cX7_tick 14 = .ok (.iconst 2, 1) := by decide +kernel
theorem dX7_tick_15 : decode cX7_tick 15 = .ok (.invokevirtual 53, 3) := by decide +kernel
theorem dX7_tick_18 : decode cX7_tick 18 = .ok (.ireturn, 1) := by decide +kernel
theorem dX7_tick_19 : decode cX7_tick 19 = .ok (.aload_n 0, 1) := by decide +kernel
theorem dX7_tick_20 : decode cX7_tick 20 = .ok (.getfield 17, 3) := by decide +kernel
theorem dX7_tick_23 : decode cX7_tick 23 = .ok (.invokevirtual 124, 3) := by decide +kernel
theorem dX7_tick_26 : decode cX7_tick 26 = .ok (.aload_n 0, 1) := by decide +kernel
theorem dX7_tick_27 : decode cX7_tick 27 = .ok (.aload_n 0, 1) := by decide +kernel
theorem dX7_tick_28 : decode cX7_tick 28 = .ok (.getfield 17, 3) := by decide +kernel
theorem dX7_tick_31 : decode cX7_tick 31 = .ok (.getfield 121, 3) := by decide +kernel
theorem dX7_tick_34 : decode cX7_tick 34 = .ok (.invokevirtual 57, 3) := by decide +kernel
theorem dX7_tick_37 : decode cX7_tick 37 = .ok (.ireturn, 1) := by decide +kernel
theorem dX7_image_0 : decode cX7_image 0 = .ok (.aload_n 0, 1) := by decide +kernel
theorem dX7_image_1 : decode cX7_image 1 = .ok (.getfield 21, 3) := by decide +kernel
theorem dX7_image_4 : decode cX7_image 4 = .ok (.aload_n 0, 1) := by decide +kernel
theorem dX7_image_5 : decode cX7_image 5 = .ok (.getfield 17, 3) := by decide +kernel
theorem dX7_image_8 : decode cX7_image 8 = .ok (.invokevirtual 127, 3) := by decide +kernel
theorem dX7_image_11 : decode cX7_image 11 = .ok (.aload_n 0, 1) := by decide +kernel
theorem dX7_image_12 : decode cX7_image 12 = .ok (.getfield 21, 3) := by decide +kernel
theorem dX7_image_15 : decode cX7_image 15 = .ok (.getfield 64, 3) := by decide +kernel
theorem dX7_image_18 : decode cX7_image 18 = .ok (.aload_n 0, 1) := by decide +kernel
theorem dX7_image_19 : decode cX7_image 19 = .ok (.getfield 17, 3) := by decide +kernel
theorem dX7_image_22 : decode cX7_image 22 = .ok (.getfield 64, 3) := by decide +kernel
theorem dX7_image_25 : decode cX7_image 25 = .ok (.invokevirtual 131, 3) := by decide +kernel
theorem dX7_image_28 : decode cX7_image 28 = .ok (.aload_n 0, 1) := by decide +kernel
theorem dX7_image_29 : decode cX7_image 29 = .ok (.iconst 1, 1) := by decide +kernel
theorem dX7_image_30 : decode cX7_image 30 = .ok (.putfield 134, 3) := by decide +kernel
theorem dX7_image_33 : decode cX7_image 33 = .ok (.aload_n 0, 1) := by decide +kernel
theorem dX7_image_34 : decode cX7_image 34 = .ok (.iconst 1, 1) := by decide +kernel
theorem dX7_image_35 : decode cX7_image 35 = .ok (.invokevirtual 57, 3) := by decide +kernel
theorem dX7_image_38 : decode cX7_image 38 = .ok (.ireturn, 1) := by decide +kernel
theorem dX7_restore_0 : decode cX7_restore 0 = .ok (.aload_n 0, 1) := by decide +kernel
theorem dX7_restore_1 : decode cX7_restore 1 = .ok (.getfield 137, 3) := by decide +kernel
theorem dX7_restore_4 : decode cX7_restore 4 = .ok (.bipush 10, 2) := by decide +kernel
theorem dX7_restore_6 : decode cX7_restore 6 = .ok (.if_icmp .lt 9, 3) := by decide +kernel
theorem dX7_restore_9 : decode cX7_restore 9 = .ok (.aload_n 0, 1) := by decide +kernel
theorem dX7_restore_10 : decode cX7_restore 10 = .ok (.iconst 2, 1) := by decide +kernel
theorem dX7_restore_11 : decode cX7_restore 11 = .ok (.invokevirtual 53, 3) := by decide +kernel
theorem dX7_restore_14 : decode cX7_restore 14 = .ok (.ireturn, 1) := by decide +kernel
theorem dX7_restore_15 : decode cX7_restore 15 = .ok (.aload_n 0, 1) := by decide +kernel
theorem dX7_restore_16 : decode cX7_restore 16 = .ok (.getfield 134, 3) := by decide +kernel
theorem dX7_restore_19 : decode cX7_restore 19 = .ok (.ifCond .ne 9, 3) := by decide +kernel
theorem dX7_restore_22 : decode cX7_restore 22 = .ok (.aload_n 0, 1) := by decide +kernel
theorem dX7_restore_23 : decode cX7_restore 23 = .ok (.iconst 3, 1) := by decide +kernel
theorem dX7_restore_24 : decode cX7_restore 24 = .ok (.invokevirtual 53, 3) := by decide +kernel
theorem dX7_restore_27 : decode cX7_restore 27 = .ok (.ireturn, 1) := by decide +kernel
theorem dX7_restore_28 : decode cX7_restore 28 = .ok (.aload_n 0, 1) := by decide +kernel
theorem dX7_restore_29 : decode cX7_restore 29 = .ok (.getfield 17, 3) := by decide +kernel
theorem dX7_restore_32 : decode cX7_restore 32 = .ok (.aload_n 0, 1) := by decide +kernel
theorem dX7_restore_33 : decode cX7_restore 33 = .ok (.getfield 21, 3) := by decide +kernel
theorem dX7_restore_36 : decode cX7_restore 36 = .ok (.invokevirtual 127, 3) := by decide +kernel
theorem dX7_restore_39 : decode cX7_restore 39 = .ok (.aload_n 0, 1) := by decide +kernel
theorem dX7_restore_40 : decode cX7_restore 40 = .ok (.getfield 17, 3) := by decide +kernel
theorem dX7_restore_43 : decode cX7_restore 43 = .ok (.getfield 64, 3) := by decide +kernel
theorem dX7_restore_46 : decode cX7_restore 46 = .ok (.aload_n 0, 1) := by decide +kernel
theorem dX7_restore_47 : decode cX7_restore 47 = .ok (.getfield 21, 3) := by decide +kernel
theorem dX7_restore_50 : decode cX7_restore 50 = .ok (.getfield 64, 3) := by decide +kernel
theorem dX7_restore_53 : decode cX7_restore 53 = .ok (.invokevirtual 131, 3) := by decide +kernel
theorem dX7_restore_56 : decode cX7_restore 56 = .ok (.aload_n 0, 1) := by decide +kernel
theorem dX7_restore_57 : decode cX7_restore 57 = .ok (.dup, 1) := by decide +kernel
theorem dX7_restore_58 : decode cX7_restore 58 = .ok (.getfield 137, 3) := by decide +kernel
theorem dX7_restore_61 : decode cX7_restore 61 = .ok (.iconst 1, 1) := by decide +kernel
theorem dX7_restore_62 : decode cX7_restore 62 = .ok (.iadd, 1) := by decide +kernel
theorem dX7_restore_63 : decode cX7_restore 63 = .ok (.putfield 137, 3) := by decide +kernel
theorem dX7_restore_66 : decode cX7_restore 66 = .ok (.aload_n 0, 1) := by decide +kernel
theorem dX7_restore_67 : decode cX7_restore 67 = .ok (.aload_n 0, 1) := by decide +kernel
theorem dX7_restore_68 : decode cX7_restore 68 = .ok (.getfield 17, 3) := by decide +kernel
theorem dX7_restore_71 : decode cX7_restore 71 = .ok (.getfield 121, 3) := by decide +kernel
theorem dX7_restore_74 : decode cX7_restore 74 = .ok (.invokevirtual 57, 3) := by decide +kernel
theorem dX7_restore_77 : decode cX7_restore 77 = .ok (.ireturn, 1) := by decide +kernel
theorem dX7_wishTold_0 : decode cX7_wishTold 0 = .ok (.aload_n 0, 1) := by decide +kernel
theorem dX7_wishTold_1 : decode cX7_wishTold 1 = .ok (.getfield 17, 3) := by decide +kernel
theorem dX7_wishTold_4 : decode cX7_wishTold 4 = .ok (.getfield 64, 3) := by decide +kernel
theorem dX7_wishTold_7 : decode cX7_wishTold 7 = .ok (.iload_n 1, 1) := by decide +kernel
theorem dX7_wishTold_8 : decode cX7_wishTold 8 = .ok (.invokevirtual 76, 3) := by decide +kernel
theorem dX7_wishTold_11 : decode cX7_wishTold 11 = .ok (.ifCond .ne 5, 3) := by decide +kernel
theorem dX7_wishTold_14 : decode cX7_wishTold 14 = .ok (.iconst (-1), 1) := by decide +kernel
theorem dX7_wishTold_15 : decode cX7_wishTold 15 = .ok (.ireturn, 1) := by decide +kernel
theorem dX7_wishTold_16 : decode cX7_wishTold 16 = .ok (.aload_n 0, 1) := by decide +kernel
theorem dX7_wishTold_17 : decode cX7_wishTold 17 = .ok (.getfield 17, 3) := by decide +kernel
theorem dX7_wishTold_20 : decode cX7_wishTold 20 = .ok (.getfield 64, 3) := by decide +kernel
theorem dX7_wishTold_23 : decode cX7_wishTold 23 = .ok (.getfield 80, 3) := by decide +kernel
theorem dX7_wishTold_26 : decode cX7_wishTold 26 = .ok (.iload_n 1, 1) := by decide +kernel
theorem dX7_wishTold_27 : decode cX7_wishTold 27 = .ok (.aaload, 1) := by decide +kernel
theorem dX7_wishTold_28 : decode cX7_wishTold 28 = .ok (.astore_n 3, 1) := by decide +kernel
theorem dX7_wishTold_29 : decode cX7_wishTold 29 = .ok (.iload_n 2, 1) := by decide +kernel
theorem dX7_wishTold_30 : decode cX7_wishTold 30 = .ok (.tableswitch 76 0 5 #[38, 43, 48, 53, 58, 63], 38) := by decide +kernel
theorem dX7_wishTold_68 : decode cX7_wishTold 68 = .ok (.aload_n 3, 1) := by decide +kernel
theorem dX7_wishTold_69 : decode cX7_wishTold 69 = .ok (.getfield 140, 3) := by decide +kernel
theorem dX7_wishTold_72 : decode cX7_wishTold 72 = .ok (.ireturn, 1) := by decide +kernel
theorem dX7_wishTold_73 : decode cX7_wishTold 73 = .ok (.aload_n 3, 1) := by decide +kernel
theorem dX7_wishTold_74 : decode cX7_wishTold 74 = .ok (.getfield 143, 3) := by decide +kernel
theorem dX7_wishTold_77 : decode cX7_wishTold 77 = .ok (.ireturn, 1) := by decide +kernel
theorem dX7_wishTold_78 : decode cX7_wishTold 78 = .ok (.aload_n 3, 1) := by decide +kernel
theorem dX7_wishTold_79 : decode cX7_wishTold 79 = .ok (.getfield 93, 3) := by decide +kernel
theorem dX7_wishTold_82 : decode cX7_wishTold 82 = .ok (.ireturn, 1) := by decide +kernel
theorem dX7_wishTold_83 : decode cX7_wishTold 83 = .ok (.aload_n 3, 1) := by decide +kernel
theorem dX7_wishTold_84 : decode cX7_wishTold 84 = .ok (.getfield 146, 3) := by decide +kernel
theorem dX7_wishTold_87 : decode cX7_wishTold 87 = .ok (.ireturn, 1) := by decide +kernel
theorem dX7_wishTold_88 : decode cX7_wishTold 88 = .ok (.aload_n 3, 1) := by decide +kernel
theorem dX7_wishTold_89 : decode cX7_wishTold 89 = .ok (.getfield 149, 3) := by decide +kernel
theorem dX7_wishTold_92 : decode cX7_wishTold 92 = .ok (.ireturn, 1) := by decide +kernel
theorem dX7_wishTold_93 : decode cX7_wishTold 93 = .ok (.aload_n 3, 1) := by decide +kernel
theorem dX7_wishTold_94 : decode cX7_wishTold 94 = .ok (.getfield 84, 3) := by decide +kernel
theorem dX7_wishTold_97 : decode cX7_wishTold 97 = .ok (.ifCond .eq 7, 3) := by decide +kernel
theorem dX7_wishTold_100 : decode cX7_wishTold 100 = .ok (.iconst 1, 1) := by decide +kernel
theorem dX7_wishTold_101 : decode cX7_wishTold 101 = .ok (.goto 4, 3) := by decide +kernel
theorem dX7_wishTold_104 : decode cX7_wishTold 104 = .ok (.iconst 0, 1) := by decide +kernel
theorem dX7_wishTold_105 : decode cX7_wishTold 105 = .ok (.ireturn, 1) := by decide +kernel
theorem dX7_wishTold_106 : decode cX7_wishTold 106 = .ok (.iconst (-1), 1) := by decide +kernel
theorem dX7_wishTold_107 : decode cX7_wishTold 107 = .ok (.ireturn, 1) := by decide +kernel
theorem dX7_lineTold_0 : decode cX7_lineTold 0 = .ok (.aload_n 0, 1) := by decide +kernel
theorem dX7_lineTold_1 : decode cX7_lineTold 1 = .ok (.getfield 17, 3) := by decide +kernel
theorem dX7_lineTold_4 : decode cX7_lineTold 4 = .ok (.iload_n 1, 1) := by decide +kernel
theorem dX7_lineTold_5 : decode cX7_lineTold 5 = .ok (.invokevirtual 96, 3) := by decide +kernel
theorem dX7_lineTold_8 : decode cX7_lineTold 8 = .ok (.ifCond .ne 5, 3) := by decide +kernel
theorem dX7_lineTold_11 : decode cX7_lineTold 11 = .ok (.iconst (-1), 1) := by decide +kernel
theorem dX7_lineTold_12 : decode cX7_lineTold 12 = .ok (.ireturn, 1) := by decide +kernel
theorem dX7_lineTold_13 : decode cX7_lineTold 13 = .ok (.iload_n 2, 1) := by decide +kernel
theorem dX7_lineTold_14 : decode cX7_lineTold 14 = .ok (.tableswitch 93 0 4 #[34, 44, 54, 64, 81], 34) := by decide +kernel
theorem dX7_lineTold_48 : decode cX7_lineTold 48 = .ok (.aload_n 0, 1) := by decide +kernel
theorem dX7_lineTold_49 : decode cX7_lineTold 49 = .ok (.getfield 17, 3) := by decide +kernel
theorem dX7_lineTold_52 : decode cX7_lineTold 52 = .ok (.getfield 152, 3) := by decide +kernel
theorem dX7_lineTold_55 : decode cX7_lineTold 55 = .ok (.iload_n 1, 1) := by decide +kernel
theorem dX7_lineTold_56 : decode cX7_lineTold 56 = .ok (.iaload, 1) := by decide +kernel
theorem dX7_lineTold_57 : decode cX7_lineTold 57 = .ok (.ireturn, 1) := by decide +kernel
theorem dX7_lineTold_58 : decode cX7_lineTold 58 = .ok (.aload_n 0, 1) := by decide +kernel
theorem dX7_lineTold_59 : decode cX7_lineTold 59 = .ok (.getfield 17, 3) := by decide +kernel
theorem dX7_lineTold_62 : decode cX7_lineTold 62 = .ok (.getfield 155, 3) := by decide +kernel
theorem dX7_lineTold_65 : decode cX7_lineTold 65 = .ok (.iload_n 1, 1) := by decide +kernel
theorem dX7_lineTold_66 : decode cX7_lineTold 66 = .ok (.iaload, 1) := by decide +kernel
theorem dX7_lineTold_67 : decode cX7_lineTold 67 = .ok (.ireturn, 1) := by decide +kernel
theorem dX7_lineTold_68 : decode cX7_lineTold 68 = .ok (.aload_n 0, 1) := by decide +kernel
theorem dX7_lineTold_69 : decode cX7_lineTold 69 = .ok (.getfield 17, 3) := by decide +kernel
theorem dX7_lineTold_72 : decode cX7_lineTold 72 = .ok (.getfield 158, 3) := by decide +kernel
theorem dX7_lineTold_75 : decode cX7_lineTold 75 = .ok (.iload_n 1, 1) := by decide +kernel
theorem dX7_lineTold_76 : decode cX7_lineTold 76 = .ok (.iaload, 1) := by decide +kernel
theorem dX7_lineTold_77 : decode cX7_lineTold 77 = .ok (.ireturn, 1) := by decide +kernel
theorem dX7_lineTold_78 : decode cX7_lineTold 78 = .ok (.aload_n 0, 1) := by decide +kernel
theorem dX7_lineTold_79 : decode cX7_lineTold 79 = .ok (.getfield 17, 3) := by decide +kernel
theorem dX7_lineTold_82 : decode cX7_lineTold 82 = .ok (.iload_n 1, 1) := by decide +kernel
theorem dX7_lineTold_83 : decode cX7_lineTold 83 = .ok (.invokevirtual 109, 3) := by decide +kernel
theorem dX7_lineTold_86 : decode cX7_lineTold 86 = .ok (.ifCond .eq 7, 3) := by decide +kernel
theorem dX7_lineTold_89 : decode cX7_lineTold 89 = .ok (.iconst 1, 1) := by decide +kernel
theorem dX7_lineTold_90 : decode cX7_lineTold 90 = .ok (.goto 4, 3) := by decide +kernel
theorem dX7_lineTold_93 : decode cX7_lineTold 93 = .ok (.iconst 0, 1) := by decide +kernel
theorem dX7_lineTold_94 : decode cX7_lineTold 94 = .ok (.ireturn, 1) := by decide +kernel
theorem dX7_lineTold_95 : decode cX7_lineTold 95 = .ok (.aload_n 0, 1) := by decide +kernel
theorem dX7_lineTold_96 : decode cX7_lineTold 96 = .ok (.getfield 17, 3) := by decide +kernel
theorem dX7_lineTold_99 : decode cX7_lineTold 99 = .ok (.getfield 64, 3) := by decide +kernel
theorem dX7_lineTold_102 : decode cX7_lineTold 102 = .ok (.iload_n 1, 1) := by decide +kernel
theorem dX7_lineTold_103 : decode cX7_lineTold 103 = .ok (.invokevirtual 161, 3) := by decide +kernel
theorem dX7_lineTold_106 : decode cX7_lineTold 106 = .ok (.ireturn, 1) := by decide +kernel
theorem dX7_lineTold_107 : decode cX7_lineTold 107 = .ok (.iload_n 2, 1) := by decide +kernel
theorem dX7_lineTold_108 : decode cX7_lineTold 108 = .ok (.iconst 5, 1) := by decide +kernel
theorem dX7_lineTold_109 : decode cX7_lineTold 109 = .ok (.if_icmp .ge 7, 3) := by decide +kernel
theorem dX7_lineTold_112 : decode cX7_lineTold 112 = .ok (.iconst (-1), 1) := by decide +kernel
theorem dX7_lineTold_113 : decode cX7_lineTold 113 = .ok (.goto 17, 3) := by decide +kernel
theorem dX7_lineTold_116 : decode cX7_lineTold 116 = .ok (.aload_n 0, 1) := by decide +kernel
theorem dX7_lineTold_117 : decode cX7_lineTold 117 = .ok (.getfield 17, 3) := by decide +kernel
theorem dX7_lineTold_120 : decode cX7_lineTold 120 = .ok (.getfield 64, 3) := by decide +kernel
theorem dX7_lineTold_123 : decode cX7_lineTold 123 = .ok (.iload_n 1, 1) := by decide +kernel
theorem dX7_lineTold_124 : decode cX7_lineTold 124 = .ok (.iload_n 2, 1) := by decide +kernel
theorem dX7_lineTold_125 : decode cX7_lineTold 125 = .ok (.iconst 5, 1) := by decide +kernel
theorem dX7_lineTold_126 : decode cX7_lineTold 126 = .ok (.isub, 1) := by decide +kernel
theorem dX7_lineTold_127 : decode cX7_lineTold 127 = .ok (.invokevirtual 164, 3) := by decide +kernel
theorem dX7_lineTold_130 : decode cX7_lineTold 130 = .ok (.ireturn, 1) := by decide +kernel
theorem dX7_call_0 : decode cX7_call 0 = .ok (.aload_n 0, 1) := by decide +kernel
theorem dX7_call_1 : decode cX7_call 1 = .ok (.getfield 17, 3) := by decide +kernel
theorem dX7_call_4 : decode cX7_call 4 = .ok (.iload_n 1, 1) := by decide +kernel
theorem dX7_call_5 : decode cX7_call 5 = .ok (.invokevirtual 167, 3) := by decide +kernel
theorem dX7_call_8 : decode cX7_call 8 = .ok (.ifCond .ne 5, 3) := by decide +kernel
theorem dX7_call_11 : decode cX7_call 11 = .ok (.iconst (-1), 1) := by decide +kernel
theorem dX7_call_12 : decode cX7_call 12 = .ok (.ireturn, 1) := by decide +kernel
theorem dX7_call_13 : decode cX7_call 13 = .ok (.aload_n 0, 1) := by decide +kernel
theorem dX7_call_14 : decode cX7_call 14 = .ok (.getfield 17, 3) := by decide +kernel
theorem dX7_call_17 : decode cX7_call 17 = .ok (.getfield 170, 3) := by decide +kernel
theorem dX7_call_20 : decode cX7_call 20 = .ok (.iload_n 1, 1) := by decide +kernel
theorem dX7_call_21 : decode cX7_call 21 = .ok (.aaload, 1) := by decide +kernel
theorem dX7_call_22 : decode cX7_call 22 = .ok (.astore_n 3, 1) := by decide +kernel
theorem dX7_call_23 : decode cX7_call 23 = .ok (.iload_n 2, 1) := by decide +kernel
theorem dX7_call_24 : decode cX7_call 24 = .ok (.tableswitch 88 0 7 #[48, 53, 58, 63, 68, 73, 78, 83], 48) := by decide +kernel
theorem dX7_call_72 : decode cX7_call 72 = .ok (.aload_n 3, 1) := by decide +kernel
theorem dX7_call_73 : decode cX7_call 73 = .ok (.getfield 174, 3) := by decide +kernel
theorem dX7_call_76 : decode cX7_call 76 = .ok (.ireturn, 1) := by decide +kernel
theorem dX7_call_77 : decode cX7_call 77 = .ok (.aload_n 3, 1) := by decide +kernel
theorem dX7_call_78 : decode cX7_call 78 = .ok (.getfield 179, 3) := by decide +kernel
theorem dX7_call_81 : decode cX7_call 81 = .ok (.ireturn, 1) := by decide +kernel
theorem dX7_call_82 : decode cX7_call 82 = .ok (.aload_n 3, 1) := by decide +kernel
theorem dX7_call_83 : decode cX7_call 83 = .ok (.getfield 182, 3) := by decide +kernel
theorem dX7_call_86 : decode cX7_call 86 = .ok (.ireturn, 1) := by decide +kernel
theorem dX7_call_87 : decode cX7_call 87 = .ok (.aload_n 3, 1) := by decide +kernel
theorem dX7_call_88 : decode cX7_call 88 = .ok (.getfield 185, 3) := by decide +kernel
theorem dX7_call_91 : decode cX7_call 91 = .ok (.ireturn, 1) := by decide +kernel
theorem dX7_call_92 : decode cX7_call 92 = .ok (.aload_n 3, 1) := by decide +kernel
theorem dX7_call_93 : decode cX7_call 93 = .ok (.getfield 188, 3) := by decide +kernel
theorem dX7_call_96 : decode cX7_call 96 = .ok (.ireturn, 1) := by decide +kernel
theorem dX7_call_97 : decode cX7_call 97 = .ok (.aload_n 3, 1) := by decide +kernel
theorem dX7_call_98 : decode cX7_call 98 = .ok (.getfield 191, 3) := by decide +kernel
theorem dX7_call_101 : decode cX7_call 101 = .ok (.ireturn, 1) := by decide +kernel
theorem dX7_call_102 : decode cX7_call 102 = .ok (.aload_n 3, 1) := by decide +kernel
theorem dX7_call_103 : decode cX7_call 103 = .ok (.getfield 194, 3) := by decide +kernel
theorem dX7_call_106 : decode cX7_call 106 = .ok (.ireturn, 1) := by decide +kernel
theorem dX7_call_107 : decode cX7_call 107 = .ok (.aload_n 3, 1) := by decide +kernel
theorem dX7_call_108 : decode cX7_call 108 = .ok (.getfield 197, 3) := by decide +kernel
theorem dX7_call_111 : decode cX7_call 111 = .ok (.ireturn, 1) := by decide +kernel
theorem dX7_call_112 : decode cX7_call 112 = .ok (.iconst (-1), 1) := by decide +kernel
theorem dX7_call_113 : decode cX7_call 113 = .ok (.ireturn, 1) := by decide +kernel
theorem dX7_row_0 : decode cX7_row 0 = .ok (.aload_n 0, 1) := by decide +kernel
theorem dX7_row_1 : decode cX7_row 1 = .ok (.getfield 17, 3) := by decide +kernel
theorem dX7_row_4 : decode cX7_row 4 = .ok (.iload_n 1, 1) := by decide +kernel
theorem dX7_row_5 : decode cX7_row 5 = .ok (.invokevirtual 167, 3) := by decide +kernel
theorem dX7_row_8 : decode cX7_row 8 = .ok (.ifCond .eq 19, 3) := by decide +kernel
theorem dX7_row_11 : decode cX7_row 11 = .ok (.aload_n 0, 1) := by decide +kernel
theorem dX7_row_12 : decode cX7_row 12 = .ok (.getfield 17, 3) := by decide +kernel
theorem dX7_row_15 : decode cX7_row 15 = .ok (.getfield 170, 3) := by decide +kernel
theorem dX7_row_18 : decode cX7_row 18 = .ok (.iload_n 1, 1) := by decide +kernel
theorem dX7_row_19 : decode cX7_row 19 = .ok (.aaload, 1) := by decide +kernel
theorem dX7_row_20 : decode cX7_row 20 = .ok (.iload_n 2, 1) := by decide +kernel
theorem dX7_row_21 : decode cX7_row 21 = .ok (.invokevirtual 200, 3) := by decide +kernel
theorem dX7_row_24 : decode cX7_row 24 = .ok (.goto 4, 3) := by decide +kernel
theorem dX7_row_27 : decode cX7_row 27 = .ok (.iconst (-1), 1) := by decide +kernel
theorem dX7_row_28 : decode cX7_row 28 = .ok (.ireturn, 1) := by decide +kernel
theorem dX7_piece_0 : decode cX7_piece 0 = .ok (.aload_n 0, 1) := by decide +kernel
theorem dX7_piece_1 : decode cX7_piece 1 = .ok (.getfield 17, 3) := by decide +kernel
theorem dX7_piece_4 : decode cX7_piece 4 = .ok (.iload_n 1, 1) := by decide +kernel
theorem dX7_piece_5 : decode cX7_piece 5 = .ok (.invokevirtual 167, 3) := by decide +kernel
theorem dX7_piece_8 : decode cX7_piece 8 = .ok (.ifCond .eq 19, 3) := by decide +kernel
theorem dX7_piece_11 : decode cX7_piece 11 = .ok (.aload_n 0, 1) := by decide +kernel
theorem dX7_piece_12 : decode cX7_piece 12 = .ok (.getfield 17, 3) := by decide +kernel
theorem dX7_piece_15 : decode cX7_piece 15 = .ok (.getfield 170, 3) := by decide +kernel
theorem dX7_piece_18 : decode cX7_piece 18 = .ok (.iload_n 1, 1) := by decide +kernel
theorem dX7_piece_19 : decode cX7_piece 19 = .ok (.aaload, 1) := by decide +kernel
theorem dX7_piece_20 : decode cX7_piece 20 = .ok (.iload_n 2, 1) := by decide +kernel
theorem dX7_piece_21 : decode cX7_piece 21 = .ok (.invokevirtual 203, 3) := by decide +kernel
theorem dX7_piece_24 : decode cX7_piece 24 = .ok (.goto 4, 3) := by decide +kernel
theorem dX7_piece_27 : decode cX7_piece 27 = .ok (.iconst (-1), 1) := by decide +kernel
theorem dX7_piece_28 : decode cX7_piece 28 = .ok (.ireturn, 1) := by decide +kernel
theorem dX7_acted_0 : decode cX7_acted 0 = .ok (.aload_n 0, 1) := by decide +kernel
theorem dX7_acted_1 : decode cX7_acted 1 = .ok (.getfield 17, 3) := by decide +kernel
theorem dX7_acted_4 : decode cX7_acted 4 = .ok (.iload_n 1, 1) := by decide +kernel
theorem dX7_acted_5 : decode cX7_acted 5 = .ok (.invokevirtual 167, 3) := by decide +kernel
theorem dX7_acted_8 : decode cX7_acted 8 = .ok (.ifCond .eq 19, 3) := by decide +kernel
theorem dX7_acted_11 : decode cX7_acted 11 = .ok (.aload_n 0, 1) := by decide +kernel
theorem dX7_acted_12 : decode cX7_acted 12 = .ok (.getfield 17, 3) := by decide +kernel
theorem dX7_acted_15 : decode cX7_acted 15 = .ok (.getfield 170, 3) := by decide +kernel
theorem dX7_acted_18 : decode cX7_acted 18 = .ok (.iload_n 1, 1) := by decide +kernel
theorem dX7_acted_19 : decode cX7_acted 19 = .ok (.aaload, 1) := by decide +kernel
theorem dX7_acted_20 : decode cX7_acted 20 = .ok (.iload_n 2, 1) := by decide +kernel
theorem dX7_acted_21 : decode cX7_acted 21 = .ok (.invokevirtual 206, 3) := by decide +kernel
theorem dX7_acted_24 : decode cX7_acted 24 = .ok (.goto 4, 3) := by decide +kernel
theorem dX7_acted_27 : decode cX7_acted 27 = .ok (.iconst (-1), 1) := by decide +kernel
theorem dX7_acted_28 : decode cX7_acted 28 = .ok (.ireturn, 1) := by decide +kernel
theorem dX7_tells_0 : decode cX7_tells 0 = .ok (.aload_n 0, 1) := by decide +kernel
theorem dX7_tells_1 : decode cX7_tells 1 = .ok (.getfield 17, 3) := by decide +kernel
theorem dX7_tells_4 : decode cX7_tells 4 = .ok (.iload_n 1, 1) := by decide +kernel
theorem dX7_tells_5 : decode cX7_tells 5 = .ok (.invokevirtual 167, 3) := by decide +kernel
theorem dX7_tells_8 : decode cX7_tells 8 = .ok (.ifCond .eq 14, 3) := by decide +kernel
theorem dX7_tells_11 : decode cX7_tells 11 = .ok (.aload_n 0, 1) := by decide +kernel
theorem dX7_tells_12 : decode cX7_tells 12 = .ok (.getfield 17, 3) := by decide +kernel
theorem dX7_tells_15 : decode cX7_tells 15 = .ok (.iload_n 2, 1) := by decide +kernel
theorem dX7_tells_16 : decode cX7_tells 16 = .ok (.invokevirtual 96, 3) := by decide +kernel
theorem dX7_tells_19 : decode cX7_tells 19 = .ok (.ifCond .ne 5, 3) := by decide +kernel
theorem dX7_tells_22 : decode cX7_tells 22 = .ok (.iconst (-1), 1) := by decide +kernel
theorem dX7_tells_23 : decode cX7_tells 23 = .ok (.ireturn, 1) := by decide +kernel
theorem dX7_tells_24 : decode cX7_tells 24 = .ok (.aload_n 0, 1) := by decide +kernel
theorem dX7_tells_25 : decode cX7_tells 25 = .ok (.getfield 17, 3) := by decide +kernel
theorem dX7_tells_28 : decode cX7_tells 28 = .ok (.aload_n 0, 1) := by decide +kernel
theorem dX7_tells_29 : decode cX7_tells 29 = .ok (.getfield 17, 3) := by decide +kernel
theorem dX7_tells_32 : decode cX7_tells 32 = .ok (.getfield 170, 3) := by decide +kernel
theorem dX7_tells_35 : decode cX7_tells 35 = .ok (.iload_n 1, 1) := by decide +kernel
theorem dX7_tells_36 : decode cX7_tells 36 = .ok (.aaload, 1) := by decide +kernel
theorem dX7_tells_37 : decode cX7_tells 37 = .ok (.iload_n 2, 1) := by decide +kernel
theorem dX7_tells_38 : decode cX7_tells 38 = .ok (.invokevirtual 209, 3) := by decide +kernel
theorem dX7_tells_41 : decode cX7_tells 41 = .ok (.ifCond .eq 7, 3) := by decide +kernel
theorem dX7_tells_44 : decode cX7_tells 44 = .ok (.iconst 1, 1) := by decide +kernel
theorem dX7_tells_45 : decode cX7_tells 45 = .ok (.goto 4, 3) := by decide +kernel
theorem dX7_tells_48 : decode cX7_tells 48 = .ok (.iconst 0, 1) := by decide +kernel
theorem dX7_tells_49 : decode cX7_tells 49 = .ok (.ireturn, 1) := by decide +kernel
theorem dX7_backs_0 : decode cX7_backs 0 = .ok (.iload_n 1, 1) := by decide +kernel
theorem dX7_backs_1 : decode cX7_backs 1 = .ok (.ifCond .lt 14, 3) := by decide +kernel
theorem dX7_backs_4 : decode cX7_backs 4 = .ok (.iload_n 1, 1) := by decide +kernel
theorem dX7_backs_5 : decode cX7_backs 5 = .ok (.aload_n 0, 1) := by decide +kernel
theorem dX7_backs_6 : decode cX7_backs 6 = .ok (.getfield 17, 3) := by decide +kernel
theorem dX7_backs_9 : decode cX7_backs 9 = .ok (.getfield 213, 3) := by decide +kernel
theorem dX7_backs_12 : decode cX7_backs 12 = .ok (.if_icmp .lt 5, 3) := by decide +kernel
theorem dX7_backs_15 : decode cX7_backs 15 = .ok (.iconst (-1), 1) := by decide +kernel
theorem dX7_backs_16 : decode cX7_backs 16 = .ok (.ireturn, 1) := by decide +kernel
theorem dX7_backs_17 : decode cX7_backs 17 = .ok (.iload_n 2, 1) := by decide +kernel
theorem dX7_backs_18 : decode cX7_backs 18 = .ok (.lookupswitch 46 #[(0, 26), (1, 36)], 26) := by decide +kernel
theorem dX7_backs_44 : decode cX7_backs 44 = .ok (.aload_n 0, 1) := by decide +kernel
theorem dX7_backs_45 : decode cX7_backs 45 = .ok (.getfield 17, 3) := by decide +kernel
theorem dX7_backs_48 : decode cX7_backs 48 = .ok (.getfield 216, 3) := by decide +kernel
theorem dX7_backs_51 : decode cX7_backs 51 = .ok (.iload_n 1, 1) := by decide +kernel
theorem dX7_backs_52 : decode cX7_backs 52 = .ok (.iaload, 1) := by decide +kernel
theorem dX7_backs_53 : decode cX7_backs 53 = .ok (.ireturn, 1) := by decide +kernel
theorem dX7_backs_54 : decode cX7_backs 54 = .ok (.aload_n 0, 1) := by decide +kernel
theorem dX7_backs_55 : decode cX7_backs 55 = .ok (.getfield 17, 3) := by decide +kernel
theorem dX7_backs_58 : decode cX7_backs 58 = .ok (.getfield 219, 3) := by decide +kernel
theorem dX7_backs_61 : decode cX7_backs 61 = .ok (.iload_n 1, 1) := by decide +kernel
theorem dX7_backs_62 : decode cX7_backs 62 = .ok (.iaload, 1) := by decide +kernel
theorem dX7_backs_63 : decode cX7_backs 63 = .ok (.ireturn, 1) := by decide +kernel
theorem dX7_backs_64 : decode cX7_backs 64 = .ok (.iconst (-1), 1) := by decide +kernel
theorem dX7_backs_65 : decode cX7_backs 65 = .ok (.ireturn, 1) := by decide +kernel
theorem dX7_judge_0 : decode cX7_judge 0 = .ok (.aload_n 0, 1) := by decide +kernel
theorem dX7_judge_1 : decode cX7_judge 1 = .ok (.iload_n 1, 1) := by decide +kernel
theorem dX7_judge_2 : decode cX7_judge 2 = .ok (.iload_n 2, 1) := by decide +kernel
theorem dX7_judge_3 : decode cX7_judge 3 = .ok (.iload_n 3, 1) := by decide +kernel
theorem dX7_judge_4 : decode cX7_judge 4 = .ok (.iload 4, 2) := by decide +kernel
theorem dX7_judge_6 : decode cX7_judge 6 = .ok (.iload 5, 2) := by decide +kernel
theorem dX7_judge_8 : decode cX7_judge 8 = .ok (.invokevirtual 222, 3) := by decide +kernel
theorem dX7_judge_11 : decode cX7_judge 11 = .ok (.ifCond .ne 9, 3) := by decide +kernel
theorem dX7_judge_14 : decode cX7_judge 14 = .ok (.aload_n 0, 1) := by decide +kernel
theorem dX7_judge_15 : decode cX7_judge 15 = .ok (.iconst 1, 1) := by decide +kernel
theorem dX7_judge_16 : decode cX7_judge 16 = .ok (.invokevirtual 53, 3) := by decide +kernel
theorem dX7_judge_19 : decode cX7_judge 19 = .ok (.ireturn, 1) := by decide +kernel
theorem dX7_judge_20 : decode cX7_judge 20 = .ok (.aload_n 0, 1) := by decide +kernel
theorem dX7_judge_21 : decode cX7_judge 21 = .ok (.getfield 27, 3) := by decide +kernel
theorem dX7_judge_24 : decode cX7_judge 24 = .ok (.aload_n 0, 1) := by decide +kernel
theorem dX7_judge_25 : decode cX7_judge 25 = .ok (.getfield 17, 3) := by decide +kernel
theorem dX7_judge_28 : decode cX7_judge 28 = .ok (.iload_n 1, 1) := by decide +kernel
theorem dX7_judge_29 : decode cX7_judge 29 = .ok (.iload_n 2, 1) := by decide +kernel
theorem dX7_judge_30 : decode cX7_judge 30 = .ok (.iload_n 3, 1) := by decide +kernel
theorem dX7_judge_31 : decode cX7_judge 31 = .ok (.iload 4, 2) := by decide +kernel
theorem dX7_judge_33 : decode cX7_judge 33 = .ok (.invokevirtual 225, 3) := by decide +kernel
theorem dX7_judge_36 : decode cX7_judge 36 = .ok (.aload_n 0, 1) := by decide +kernel
theorem dX7_judge_37 : decode cX7_judge 37 = .ok (.aload_n 0, 1) := by decide +kernel
theorem dX7_judge_38 : decode cX7_judge 38 = .ok (.getfield 27, 3) := by decide +kernel
theorem dX7_judge_41 : decode cX7_judge 41 = .ok (.iload 5, 2) := by decide +kernel
theorem dX7_judge_43 : decode cX7_judge 43 = .ok (.invokevirtual 229, 3) := by decide +kernel
theorem dX7_judge_46 : decode cX7_judge 46 = .ok (.putfield 232, 3) := by decide +kernel
theorem dX7_judge_49 : decode cX7_judge 49 = .ok (.aload_n 0, 1) := by decide +kernel
theorem dX7_judge_50 : decode cX7_judge 50 = .ok (.getfield 27, 3) := by decide +kernel
theorem dX7_judge_53 : decode cX7_judge 53 = .ok (.getfield 235, 3) := by decide +kernel
theorem dX7_judge_56 : decode cX7_judge 56 = .ok (.iconst 0, 1) := by decide +kernel
theorem dX7_judge_57 : decode cX7_judge 57 = .ok (.aload_n 0, 1) := by decide +kernel
theorem dX7_judge_58 : decode cX7_judge 58 = .ok (.getfield 45, 3) := by decide +kernel
theorem dX7_judge_61 : decode cX7_judge 61 = .ok (.iconst 0, 1) := by decide +kernel
theorem dX7_judge_62 : decode cX7_judge 62 = .ok (.iconst 3, 1) := by decide +kernel
theorem dX7_judge_63 : decode cX7_judge 63 = .ok (.invokestatic 238, 3) := by decide +kernel
theorem dX7_judge_66 : decode cX7_judge 66 = .ok (.aload_n 0, 1) := by decide +kernel
theorem dX7_judge_67 : decode cX7_judge 67 = .ok (.aload_n 0, 1) := by decide +kernel
theorem dX7_judge_68 : decode cX7_judge 68 = .ok (.getfield 232, 3) := by decide +kernel
theorem dX7_judge_71 : decode cX7_judge 71 = .ok (.invokevirtual 57, 3) := by decide +kernel
theorem dX7_judge_74 : decode cX7_judge 74 = .ok (.ireturn, 1) := by decide +kernel
theorem dX7_actOf_0 : decode cX7_actOf 0 = .ok (.iload_n 1, 1) := by decide +kernel
theorem dX7_actOf_1 : decode cX7_actOf 1 = .ok (.ifCond .lt 16, 3) := by decide +kernel
theorem dX7_actOf_4 : decode cX7_actOf 4 = .ok (.iload_n 1, 1) := by decide +kernel
theorem dX7_actOf_5 : decode cX7_actOf 5 = .ok (.aload_n 0, 1) := by decide +kernel
theorem dX7_actOf_6 : decode cX7_actOf 6 = .ok (.getfield 232, 3) := by decide +kernel
theorem dX7_actOf_9 : decode cX7_actOf 9 = .ok (.if_icmp .ge 8, 3) := by decide +kernel
theorem dX7_actOf_12 : decode cX7_actOf 12 = .ok (.iload_n 1, 1) := by decide +kernel
theorem dX7_actOf_13 : decode cX7_actOf 13 = .ok (.iconst 3, 1) := by decide +kernel
theorem dX7_actOf_14 : decode cX7_actOf 14 = .ok (.if_icmp .lt 7, 3) := by decide +kernel
theorem dX7_actOf_17 : decode cX7_actOf 17 = .ok (.iconst (-1), 1) := by decide +kernel
theorem dX7_actOf_18 : decode cX7_actOf 18 = .ok (.goto 9, 3) := by decide +kernel
theorem dX7_actOf_21 : decode cX7_actOf 21 = .ok (.aload_n 0, 1) := by decide +kernel
theorem dX7_actOf_22 : decode cX7_actOf 22 = .ok (.getfield 45, 3) := by decide +kernel
theorem dX7_actOf_25 : decode cX7_actOf 25 = .ok (.iload_n 1, 1) := by decide +kernel
theorem dX7_actOf_26 : decode cX7_actOf 26 = .ok (.iaload, 1) := by decide +kernel
theorem dX7_actOf_27 : decode cX7_actOf 27 = .ok (.ireturn, 1) := by decide +kernel
theorem dX7_alone_0 : decode cX7_alone 0 = .ok (.aload_n 0, 1) := by decide +kernel
theorem dX7_alone_1 : decode cX7_alone 1 = .ok (.iload_n 1, 1) := by decide +kernel
theorem dX7_alone_2 : decode cX7_alone 2 = .ok (.iload_n 2, 1) := by decide +kernel
theorem dX7_alone_3 : decode cX7_alone 3 = .ok (.iload_n 3, 1) := by decide +kernel
theorem dX7_alone_4 : decode cX7_alone 4 = .ok (.iload 4, 2) := by decide +kernel
theorem dX7_alone_6 : decode cX7_alone 6 = .ok (.iload 5, 2) := by decide +kernel
theorem dX7_alone_8 : decode cX7_alone 8 = .ok (.invokevirtual 222, 3) := by decide +kernel
theorem dX7_alone_11 : decode cX7_alone 11 = .ok (.ifCond .ne 5, 3) := by decide +kernel
theorem dX7_alone_14 : decode cX7_alone 14 = .ok (.iconst (-1), 1) := by decide +kernel
theorem dX7_alone_15 : decode cX7_alone 15 = .ok (.ireturn, 1) := by decide +kernel
theorem dX7_alone_16 : decode cX7_alone 16 = .ok (.aload_n 0, 1) := by decide +kernel
theorem dX7_alone_17 : decode cX7_alone 17 = .ok (.getfield 27, 3) := by decide +kernel
theorem dX7_alone_20 : decode cX7_alone 20 = .ok (.aload_n 0, 1) := by decide +kernel
theorem dX7_alone_21 : decode cX7_alone 21 = .ok (.getfield 17, 3) := by decide +kernel
theorem dX7_alone_24 : decode cX7_alone 24 = .ok (.iload_n 1, 1) := by decide +kernel
theorem dX7_alone_25 : decode cX7_alone 25 = .ok (.iload_n 2, 1) := by decide +kernel
theorem dX7_alone_26 : decode cX7_alone 26 = .ok (.iload_n 3, 1) := by decide +kernel
theorem dX7_alone_27 : decode cX7_alone 27 = .ok (.iload 4, 2) := by decide +kernel
theorem dX7_alone_29 : decode cX7_alone 29 = .ok (.invokevirtual 225, 3) := by decide +kernel
theorem dX7_alone_32 : decode cX7_alone 32 = .ok (.iconst 0, 1) := by decide +kernel
theorem dX7_alone_33 : decode cX7_alone 33 = .ok (.istore 6, 2) := by decide +kernel
theorem dX7_alone_35 : decode cX7_alone 35 = .ok (.iload 6, 2) := by decide +kernel
theorem dX7_alone_37 : decode cX7_alone 37 = .ok (.aload_n 0, 1) := by decide +kernel
theorem dX7_alone_38 : decode cX7_alone 38 = .ok (.getfield 17, 3) := by decide +kernel
theorem dX7_alone_41 : decode cX7_alone 41 = .ok (.getfield 64, 3) := by decide +kernel
theorem dX7_alone_44 : decode cX7_alone 44 = .ok (.getfield 244, 3) := by decide +kernel
theorem dX7_alone_47 : decode cX7_alone 47 = .ok (.if_icmp .ge 55, 3) := by decide +kernel
theorem dX7_alone_50 : decode cX7_alone 50 = .ok (.aload_n 0, 1) := by decide +kernel
theorem dX7_alone_51 : decode cX7_alone 51 = .ok (.getfield 17, 3) := by decide +kernel
theorem dX7_alone_54 : decode cX7_alone 54 = .ok (.getfield 64, 3) := by decide +kernel
theorem dX7_alone_57 : decode cX7_alone 57 = .ok (.getfield 80, 3) := by decide +kernel
theorem dX7_alone_60 : decode cX7_alone 60 = .ok (.iload 6, 2) := by decide +kernel
theorem dX7_alone_62 : decode cX7_alone 62 = .ok (.aaload, 1) := by decide +kernel
theorem dX7_alone_63 : decode cX7_alone 63 = .ok (.invokevirtual 247, 3) := by decide +kernel
theorem dX7_alone_66 : decode cX7_alone 66 = .ok (.ifCond .eq 30, 3) := by decide +kernel
theorem dX7_alone_69 : decode cX7_alone 69 = .ok (.aload_n 0, 1) := by decide +kernel
theorem dX7_alone_70 : decode cX7_alone 70 = .ok (.getfield 27, 3) := by decide +kernel
theorem dX7_alone_73 : decode cX7_alone 73 = .ok (.getfield 250, 3) := by decide +kernel
theorem dX7_alone_76 : decode cX7_alone 76 = .ok (.iload 6, 2) := by decide +kernel
theorem dX7_alone_78 : decode cX7_alone 78 = .ok (.invokevirtual 251, 3) := by decide +kernel
theorem dX7_alone_81 : decode cX7_alone 81 = .ok (.aload_n 0, 1) := by decide +kernel
theorem dX7_alone_82 : decode cX7_alone 82 = .ok (.getfield 27, 3) := by decide +kernel
theorem dX7_alone_85 : decode cX7_alone 85 = .ok (.iload 5, 2) := by decide +kernel
theorem dX7_alone_87 : decode cX7_alone 87 = .ok (.invokevirtual 229, 3) := by decide +kernel
theorem dX7_alone_90 : decode cX7_alone 90 = .ok (.ifCond .le 6, 3) := by decide +kernel
theorem dX7_alone_93 : decode cX7_alone 93 = .ok (.iload 6, 2) := by decide +kernel
theorem dX7_alone_95 : decode cX7_alone 95 = .ok (.ireturn, 1) := by decide +kernel
theorem dX7_alone_96 : decode cX7_alone 96 = .ok (.iinc 6 1, 3) := by decide +kernel
theorem dX7_alone_99 : decode cX7_alone 99 = .ok (.goto (-64), 3) := by decide +kernel
theorem dX7_alone_102 : decode cX7_alone 102 = .ok (.iconst (-1), 1) := by decide +kernel
theorem dX7_alone_103 : decode cX7_alone 103 = .ok (.ireturn, 1) := by decide +kernel
theorem dX7_peace_0 : decode cX7_peace 0 = .ok (.aload_n 0, 1) := by decide +kernel
theorem dX7_peace_1 : decode cX7_peace 1 = .ok (.getfield 17, 3) := by decide +kernel
theorem dX7_peace_4 : decode cX7_peace 4 = .ok (.getfield 64, 3) := by decide +kernel
theorem dX7_peace_7 : decode cX7_peace 7 = .ok (.iload_n 1, 1) := by decide +kernel
theorem dX7_peace_8 : decode cX7_peace 8 = .ok (.invokevirtual 76, 3) := by decide +kernel
theorem dX7_peace_11 : decode cX7_peace 11 = .ok (.ifCond .eq 18, 3) := by decide +kernel
theorem dX7_peace_14 : decode cX7_peace 14 = .ok (.aload_n 0, 1) := by decide +kernel
theorem dX7_peace_15 : decode cX7_peace 15 = .ok (.iload_n 2, 1) := by decide +kernel
theorem dX7_peace_16 : decode cX7_peace 16 = .ok (.iload_n 3, 1) := by decide +kernel
theorem dX7_peace_17 : decode cX7_peace 17 = .ok (.iload 4, 2) := by decide +kernel
theorem dX7_peace_19 : decode cX7_peace 19 = .ok (.iload 5, 2) := by decide +kernel
theorem dX7_peace_21 : decode cX7_peace 21 = .ok (.iload 6, 2) := by decide +kernel
theorem dX7_peace_23 : decode cX7_peace 23 = .ok (.invokevirtual 222, 3) := by decide +kernel
theorem dX7_peace_26 : decode cX7_peace 26 = .ok (.ifCond .ne 5, 3) := by decide +kernel
theorem dX7_peace_29 : decode cX7_peace 29 = .ok (.iconst (-1), 1) := by decide +kernel
theorem dX7_peace_30 : decode cX7_peace 30 = .ok (.ireturn, 1) := by decide +kernel
theorem dX7_peace_31 : decode cX7_peace 31 = .ok (.aload_n 0, 1) := by decide +kernel
theorem dX7_peace_32 : decode cX7_peace 32 = .ok (.getfield 27, 3) := by decide +kernel
theorem dX7_peace_35 : decode cX7_peace 35 = .ok (.aload_n 0, 1) := by decide +kernel
theorem dX7_peace_36 : decode cX7_peace 36 = .ok (.getfield 17, 3) := by decide +kernel
theorem dX7_peace_39 : decode cX7_peace 39 = .ok (.iload_n 2, 1) := by decide +kernel
theorem dX7_peace_40 : decode cX7_peace 40 = .ok (.iload_n 3, 1) := by decide +kernel
theorem dX7_peace_41 : decode cX7_peace 41 = .ok (.iload 4, 2) := by decide +kernel
theorem dX7_peace_43 : decode cX7_peace 43 = .ok (.iload 5, 2) := by decide +kernel
theorem dX7_peace_45 : decode cX7_peace 45 = .ok (.invokevirtual 225, 3) := by decide +kernel
theorem dX7_peace_48 : decode cX7_peace 48 = .ok (.iconst (-1), 1) := by decide +kernel
theorem dX7_peace_49 : decode cX7_peace 49 = .ok (.istore 7, 2) := by decide +kernel
theorem dX7_peace_51 : decode cX7_peace 51 = .ok (.iconst 0, 1) := by decide +kernel
theorem dX7_peace_52 : decode cX7_peace 52 = .ok (.istore 8, 2) := by decide +kernel
theorem dX7_peace_54 : decode cX7_peace 54 = .ok (.iload 8, 2) := by decide +kernel
theorem dX7_peace_56 : decode cX7_peace 56 = .ok (.bipush 9, 2) := by decide +kernel
theorem dX7_peace_58 : decode cX7_peace 58 = .ok (.if_icmp .gt 65, 3) := by decide +kernel
theorem dX7_peace_61 : decode cX7_peace 61 = .ok (.aload_n 0, 1) := by decide +kernel
theorem dX7_peace_62 : decode cX7_peace 62 = .ok (.getfield 27, 3) := by decide +kernel
theorem dX7_peace_65 : decode cX7_peace 65 = .ok (.getfield 250, 3) := by decide +kernel
theorem dX7_peace_68 : decode cX7_peace 68 = .ok (.getfield 80, 3) := by decide +kernel
theorem dX7_peace_71 : decode cX7_peace 71 = .ok (.iload_n 1, 1) := by decide +kernel
theorem dX7_peace_72 : decode cX7_peace 72 = .ok (.aaload, 1) := by decide +kernel
theorem dX7_peace_73 : decode cX7_peace 73 = .ok (.iload 8, 2) := by decide +kernel
theorem dX7_peace_75 : decode cX7_peace 75 = .ok (.putfield 93, 3) := by decide +kernel
theorem dX7_peace_78 : decode cX7_peace 78 = .ok (.aload_n 0, 1) := by decide +kernel
theorem dX7_peace_79 : decode cX7_peace 79 = .ok (.getfield 27, 3) := by decide +kernel
theorem dX7_peace_82 : decode cX7_peace 82 = .ok (.getfield 250, 3) := by decide +kernel
theorem dX7_peace_85 : decode cX7_peace 85 = .ok (.iload_n 1, 1) := by decide +kernel
theorem dX7_peace_86 : decode cX7_peace 86 = .ok (.invokevirtual 255, 3) := by decide +kernel
theorem dX7_peace_89 : decode cX7_peace 89 = .ok (.istore 9, 2) := by decide +kernel
theorem dX7_peace_91 : decode cX7_peace 91 = .ok (.iload 9, 2) := by decide +kernel
theorem dX7_peace_93 : decode cX7_peace 93 = .ok (.iload 7, 2) := by decide +kernel
theorem dX7_peace_95 : decode cX7_peace 95 = .ok (.if_icmp .eq 18, 3) := by decide +kernel
theorem dX7_peace_98 : decode cX7_peace 98 = .ok (.aload_n 0, 1) := by decide +kernel
theorem dX7_peace_99 : decode cX7_peace 99 = .ok (.getfield 27, 3) := by decide +kernel
theorem dX7_peace_102 : decode cX7_peace 102 = .ok (.iload 6, 2) := by decide +kernel
theorem dX7_peace_104 : decode cX7_peace 104 = .ok (.invokevirtual 229, 3) := by decide +kernel
theorem dX7_peace_107 : decode cX7_peace 107 = .ok (.ifCond .ne 6, 3) := by decide +kernel
theorem dX7_peace_110 : decode cX7_peace 110 = .ok (.iload 8, 2) := by decide +kernel
theorem dX7_peace_112 : decode cX7_peace 112 = .ok (.ireturn, 1) := by decide +kernel
theorem dX7_peace_113 : decode cX7_peace 113 = .ok (.iload 9, 2) := by decide +kernel
theorem dX7_peace_115 : decode cX7_peace 115 = .ok (.istore 7, 2) := by decide +kernel
theorem dX7_peace_117 : decode cX7_peace 117 = .ok (.iinc 8 1, 3) := by decide +kernel
theorem dX7_peace_120 : decode cX7_peace 120 = .ok (.goto (-66), 3) := by decide +kernel
theorem dX7_peace_123 : decode cX7_peace 123 = .ok (.iconst (-1), 1) := by decide +kernel
theorem dX7_peace_124 : decode cX7_peace 124 = .ok (.ireturn, 1) := by decide +kernel
theorem dX7_count_0 : decode cX7_count 0 = .ok (.iload_n 1, 1) := by decide +kernel
theorem dX7_count_1 : decode cX7_count 1 = .ok (.tableswitch 111 0 7 #[47, 55, 66, 74, 82, 90, 98, 103], 47) := by decide +kernel
theorem dX7_count_48 : decode cX7_count 48 = .ok (.aload_n 0, 1) := by decide +kernel
theorem dX7_count_49 : decode cX7_count 49 = .ok (.getfield 17, 3) := by decide +kernel
theorem dX7_count_52 : decode cX7_count 52 = .ok (.getfield 49, 3) := by decide +kernel
theorem dX7_count_55 : decode cX7_count 55 = .ok (.ireturn, 1) := by decide +kernel
theorem dX7_count_56 : decode cX7_count 56 = .ok (.aload_n 0, 1) := by decide +kernel
theorem dX7_count_57 : decode cX7_count 57 = .ok (.getfield 17, 3) := by decide +kernel
theorem dX7_count_60 : decode cX7_count 60 = .ok (.getfield 64, 3) := by decide +kernel
theorem dX7_count_63 : decode cX7_count 63 = .ok (.getfield 244, 3) := by decide +kernel
theorem dX7_count_66 : decode cX7_count 66 = .ok (.ireturn, 1) := by decide +kernel
theorem dX7_count_67 : decode cX7_count 67 = .ok (.aload_n 0, 1) := by decide +kernel
theorem dX7_count_68 : decode cX7_count 68 = .ok (.getfield 17, 3) := by decide +kernel
theorem dX7_count_71 : decode cX7_count 71 = .ok (.getfield 258, 3) := by decide +kernel
theorem dX7_count_74 : decode cX7_count 74 = .ok (.ireturn, 1) := by decide +kernel
theorem dX7_count_75 : decode cX7_count 75 = .ok (.aload_n 0, 1) := by decide +kernel
theorem dX7_count_76 : decode cX7_count 76 = .ok (.getfield 17, 3) := by decide +kernel
theorem dX7_count_79 : decode cX7_count 79 = .ok (.getfield 121, 3) := by decide +kernel
theorem dX7_count_82 : decode cX7_count 82 = .ok (.ireturn, 1) := by decide +kernel
theorem dX7_count_83 : decode cX7_count 83 = .ok (.aload_n 0, 1) := by decide +kernel
theorem dX7_count_84 : decode cX7_count 84 = .ok (.getfield 17, 3) := by decide +kernel
theorem dX7_count_87 : decode cX7_count 87 = .ok (.getfield 213, 3) := by decide +kernel
theorem dX7_count_90 : decode cX7_count 90 = .ok (.ireturn, 1) := by decide +kernel
theorem dX7_count_91 : decode cX7_count 91 = .ok (.aload_n 0, 1) := by decide +kernel
theorem dX7_count_92 : decode cX7_count 92 = .ok (.getfield 17, 3) := by decide +kernel
theorem dX7_count_95 : decode cX7_count 95 = .ok (.invokevirtual 261, 3) := by decide +kernel
theorem dX7_count_98 : decode cX7_count 98 = .ok (.ireturn, 1) := by decide +kernel
theorem dX7_count_99 : decode cX7_count 99 = .ok (.aload_n 0, 1) := by decide +kernel
theorem dX7_count_100 : decode cX7_count 100 = .ok (.getfield 232, 3) := by decide +kernel
theorem dX7_count_103 : decode cX7_count 103 = .ok (.ireturn, 1) := by decide +kernel
theorem dX7_count_104 : decode cX7_count 104 = .ok (.aload_n 0, 1) := by decide +kernel
theorem dX7_count_105 : decode cX7_count 105 = .ok (.getfield 34, 3) := by decide +kernel
theorem dX7_count_108 : decode cX7_count 108 = .ok (.getfield 265, 3) := by decide +kernel
theorem dX7_count_111 : decode cX7_count 111 = .ok (.ireturn, 1) := by decide +kernel
theorem dX7_count_112 : decode cX7_count 112 = .ok (.iconst (-1), 1) := by decide +kernel
theorem dX7_count_113 : decode cX7_count 113 = .ok (.ireturn, 1) := by decide +kernel
theorem dX7_act_0 : decode cX7_act 0 = .ok (.aload_n 0, 1) := by decide +kernel
theorem dX7_act_1 : decode cX7_act 1 = .ok (.getfield 17, 3) := by decide +kernel
theorem dX7_act_4 : decode cX7_act 4 = .ok (.getfield 64, 3) := by decide +kernel
theorem dX7_act_7 : decode cX7_act 7 = .ok (.iload_n 1, 1) := by decide +kernel
theorem dX7_act_8 : decode cX7_act 8 = .ok (.invokevirtual 76, 3) := by decide +kernel
theorem dX7_act_11 : decode cX7_act 11 = .ok (.ifCond .eq 12, 3) := by decide +kernel
theorem dX7_act_14 : decode cX7_act 14 = .ok (.iload_n 2, 1) := by decide +kernel
theorem dX7_act_15 : decode cX7_act 15 = .ok (.ifCond .lt 8, 3) := by decide +kernel
theorem dX7_act_18 : decode cX7_act 18 = .ok (.iload_n 2, 1) := by decide +kernel
theorem dX7_act_19 : decode cX7_act 19 = .ok (.iconst 3, 1) := by decide +kernel
theorem dX7_act_20 : decode cX7_act 20 = .ok (.if_icmp .le 9, 3) := by decide +kernel
theorem dX7_act_23 : decode cX7_act 23 = .ok (.aload_n 0, 1) := by decide +kernel
theorem dX7_act_24 : decode cX7_act 24 = .ok (.iconst 1, 1) := by decide +kernel
theorem dX7_act_25 : decode cX7_act 25 = .ok (.invokevirtual 53, 3) := by decide +kernel
theorem dX7_act_28 : decode cX7_act 28 = .ok (.ireturn, 1) := by decide +kernel
theorem dX7_act_29 : decode cX7_act 29 = .ok (.aload_n 0, 1) := by decide +kernel
theorem dX7_act_30 : decode cX7_act 30 = .ok (.aload_n 0, 1) := by decide +kernel
theorem dX7_act_31 : decode cX7_act 31 = .ok (.getfield 34, 3) := by decide +kernel
theorem dX7_act_34 : decode cX7_act 34 = .ok (.aload_n 0, 1) := by decide +kernel
theorem dX7_act_35 : decode cX7_act 35 = .ok (.getfield 17, 3) := by decide +kernel
theorem dX7_act_38 : decode cX7_act 38 = .ok (.getfield 64, 3) := by decide +kernel
theorem dX7_act_41 : decode cX7_act 41 = .ok (.getfield 80, 3) := by decide +kernel
theorem dX7_act_44 : decode cX7_act 44 = .ok (.iload_n 1, 1) := by decide +kernel
theorem dX7_act_45 : decode cX7_act 45 = .ok (.aaload, 1) := by decide +kernel
theorem dX7_act_46 : decode cX7_act 46 = .ok (.iload_n 1, 1) := by decide +kernel
theorem dX7_act_47 : decode cX7_act 47 = .ok (.iload_n 2, 1) := by decide +kernel
theorem dX7_act_48 : decode cX7_act 48 = .ok (.iload_n 3, 1) := by decide +kernel
theorem dX7_act_49 : decode cX7_act 49 = .ok (.invokevirtual 268, 3) := by decide +kernel
theorem dX7_act_52 : decode cX7_act 52 = .ok (.invokevirtual 57, 3) := by decide +kernel
theorem dX7_act_55 : decode cX7_act 55 = .ok (.ireturn, 1) := by decide +kernel
theorem dX7_trace_0 : decode cX7_trace 0 = .ok (.iload_n 1, 1) := by decide +kernel
theorem dX7_trace_1 : decode cX7_trace 1 = .ok (.ifCond .lt 20, 3) := by decide +kernel
theorem dX7_trace_4 : decode cX7_trace 4 = .ok (.iload_n 1, 1) := by decide +kernel
theorem dX7_trace_5 : decode cX7_trace 5 = .ok (.aload_n 0, 1) := by decide +kernel
theorem dX7_trace_6 : decode cX7_trace 6 = .ok (.getfield 34, 3) := by decide +kernel
theorem dX7_trace_9 : decode cX7_trace 9 = .ok (.getfield 265, 3) := by decide +kernel
theorem dX7_trace_12 : decode cX7_trace 12 = .ok (.if_icmp .ge 9, 3) := by decide +kernel
theorem dX7_trace_15 : decode cX7_trace 15 = .ok (.iload_n 1, 1) := by decide +kernel
theorem dX7_trace_16 : decode cX7_trace 16 = .ok (.bipush 50, 2) := by decide +kernel
theorem dX7_trace_18 : decode cX7_trace 18 = .ok (.if_icmp .lt 7, 3) := by decide +kernel
theorem dX7_trace_21 : decode cX7_trace 21 = .ok (.iconst (-1), 1) := by decide +kernel
theorem dX7_trace_22 : decode cX7_trace 22 = .ok (.goto 12, 3) := by decide +kernel
theorem dX7_trace_25 : decode cX7_trace 25 = .ok (.aload_n 0, 1) := by decide +kernel
theorem dX7_trace_26 : decode cX7_trace 26 = .ok (.getfield 34, 3) := by decide +kernel
theorem dX7_trace_29 : decode cX7_trace 29 = .ok (.getfield 272, 3) := by decide +kernel
theorem dX7_trace_32 : decode cX7_trace 32 = .ok (.iload_n 1, 1) := by decide +kernel
theorem dX7_trace_33 : decode cX7_trace 33 = .ok (.iaload, 1) := by decide +kernel
theorem dX7_trace_34 : decode cX7_trace 34 = .ok (.ireturn, 1) := by decide +kernel
theorem dX7_sheet_0 : decode cX7_sheet 0 = .ok (.iload_n 3, 1) := by decide +kernel
theorem dX7_sheet_1 : decode cX7_sheet 1 = .ok (.ifCond .lt 20, 3) := by decide +kernel
theorem dX7_sheet_4 : decode cX7_sheet 4 = .ok (.iload_n 3, 1) := by decide +kernel
theorem dX7_sheet_5 : decode cX7_sheet 5 = .ok (.bipush 40, 2) := by decide +kernel
theorem dX7_sheet_7 : decode cX7_sheet 7 = .ok (.if_icmp .gt 14, 3) := by decide +kernel
theorem dX7_sheet_10 : decode cX7_sheet 10 = .ok (.iload_n 2, 1) := by decide +kernel
theorem dX7_sheet_11 : decode cX7_sheet 11 = .ok (.invokestatic 275, 3) := by decide +kernel
theorem dX7_sheet_14 : decode cX7_sheet 14 = .ok (.ifCond .eq 7, 3) := by decide +kernel
theorem dX7_sheet_17 : decode cX7_sheet 17 = .ok (.iconst 1, 1) := by decide +kernel
theorem dX7_sheet_18 : decode cX7_sheet 18 = .ok (.goto 4, 3) := by decide +kernel
theorem dX7_sheet_21 : decode cX7_sheet 21 = .ok (.iconst 0, 1) := by decide +kernel
theorem dX7_sheet_22 : decode cX7_sheet 22 = .ok (.istore 4, 2) := by decide +kernel
theorem dX7_sheet_24 : decode cX7_sheet 24 = .ok (.iload_n 1, 1) := by decide +kernel
theorem dX7_sheet_25 : decode cX7_sheet 25 = .ok (.invokestatic 278, 3) := by decide +kernel
theorem dX7_sheet_28 : decode cX7_sheet 28 = .ok (.ifCond .eq 13, 3) := by decide +kernel
theorem dX7_sheet_31 : decode cX7_sheet 31 = .ok (.iload_n 2, 1) := by decide +kernel
theorem dX7_sheet_32 : decode cX7_sheet 32 = .ok (.iconst (-1), 1) := by decide +kernel
theorem dX7_sheet_33 : decode cX7_sheet 33 = .ok (.if_icmp .eq 14, 3) := by decide +kernel
theorem dX7_sheet_36 : decode cX7_sheet 36 = .ok (.iload 4, 2) := by decide +kernel
theorem dX7_sheet_38 : decode cX7_sheet 38 = .ok (.ifCond .ne 9, 3) := by decide +kernel
theorem dX7_sheet_41 : decode cX7_sheet 41 = .ok (.aload_n 0, 1) := by decide +kernel
theorem dX7_sheet_42 : decode cX7_sheet 42 = .ok (.iconst 1, 1) := by decide +kernel
theorem dX7_sheet_43 : decode cX7_sheet 43 = .ok (.invokevirtual 53, 3) := by decide +kernel
theorem dX7_sheet_46 : decode cX7_sheet 46 = .ok (.ireturn, 1) := by decide +kernel
theorem dX7_sheet_47 : decode cX7_sheet 47 = .ok (.aload_n 0, 1) := by decide +kernel
theorem dX7_sheet_48 : decode cX7_sheet 48 = .ok (.getfield 41, 3) := by decide +kernel
theorem dX7_sheet_51 : decode cX7_sheet 51 = .ok (.iload_n 1, 1) := by decide +kernel
theorem dX7_sheet_52 : decode cX7_sheet 52 = .ok (.iload_n 2, 1) := by decide +kernel
theorem dX7_sheet_53 : decode cX7_sheet 53 = .ok (.iload_n 3, 1) := by decide +kernel
theorem dX7_sheet_54 : decode cX7_sheet 54 = .ok (.invokevirtual 281, 3) := by decide +kernel
theorem dX7_sheet_57 : decode cX7_sheet 57 = .ok (.aload_n 0, 1) := by decide +kernel
theorem dX7_sheet_58 : decode cX7_sheet 58 = .ok (.iconst 1, 1) := by decide +kernel
theorem dX7_sheet_59 : decode cX7_sheet 59 = .ok (.invokevirtual 57, 3) := by decide +kernel
theorem dX7_sheet_62 : decode cX7_sheet 62 = .ok (.ireturn, 1) := by decide +kernel
theorem dX7_cell_0 : decode cX7_cell 0 = .ok (.iload_n 1, 1) := by decide +kernel
theorem dX7_cell_1 : decode cX7_cell 1 = .ok (.invokestatic 278, 3) := by decide +kernel
theorem dX7_cell_4 : decode cX7_cell 4 = .ok (.ifCond .eq 17, 3) := by decide +kernel
theorem dX7_cell_7 : decode cX7_cell 7 = .ok (.iload_n 3, 1) := by decide +kernel
theorem dX7_cell_8 : decode cX7_cell 8 = .ok (.sipush (-1000), 3) := by decide +kernel
theorem dX7_cell_11 : decode cX7_cell 11 = .ok (.if_icmp .lt 10, 3) := by decide +kernel
theorem dX7_cell_14 : decode cX7_cell 14 = .ok (.iload_n 3, 1) := by decide +kernel
theorem dX7_cell_15 : decode cX7_cell 15 = .ok (.sipush 1000, 3) := by decide +kernel
theorem dX7_cell_18 : decode cX7_cell 18 = .ok (.if_icmp .le 9, 3) := by decide +kernel
theorem dX7_cell_21 : decode cX7_cell 21 = .ok (.aload_n 0, 1) := by decide +kernel
theorem dX7_cell_22 : decode cX7_cell 22 = .ok (.iconst 1, 1) := by decide +kernel
theorem dX7_cell_23 : decode cX7_cell 23 = .ok (.invokevirtual 53, 3) := by decide +kernel
theorem dX7_cell_26 : decode cX7_cell 26 = .ok (.ireturn, 1) := by decide +kernel
theorem dX7_cell_27 : decode cX7_cell 27 = .ok (.aload_n 0, 1) := by decide +kernel
theorem dX7_cell_28 : decode cX7_cell 28 = .ok (.getfield 41, 3) := by decide +kernel
theorem dX7_cell_31 : decode cX7_cell 31 = .ok (.iload_n 1, 1) := by decide +kernel
theorem dX7_cell_32 : decode cX7_cell 32 = .ok (.invokevirtual 285, 3) := by decide +kernel
theorem dX7_cell_35 : decode cX7_cell 35 = .ok (.ifCond .eq 10, 3) := by decide +kernel
theorem dX7_cell_38 : decode cX7_cell 38 = .ok (.aload_n 0, 1) := by decide +kernel
theorem dX7_cell_39 : decode cX7_cell 39 = .ok (.bipush 10, 2) := by decide +kernel
theorem dX7_cell_41 : decode cX7_cell 41 = .ok (.invokevirtual 53, 3) := by decide +kernel
theorem dX7_cell_44 : decode cX7_cell 44 = .ok (.ireturn, 1) := by decide +kernel
theorem dX7_cell_45 : decode cX7_cell 45 = .ok (.aload_n 0, 1) := by decide +kernel
theorem dX7_cell_46 : decode cX7_cell 46 = .ok (.getfield 41, 3) := by decide +kernel
theorem dX7_cell_49 : decode cX7_cell 49 = .ok (.iload_n 1, 1) := by decide +kernel
theorem dX7_cell_50 : decode cX7_cell 50 = .ok (.iload_n 2, 1) := by decide +kernel
theorem dX7_cell_51 : decode cX7_cell 51 = .ok (.iconst 1, 1) := by decide +kernel
theorem dX7_cell_52 : decode cX7_cell 52 = .ok (.invokevirtual 288, 3) := by decide +kernel
theorem dX7_cell_55 : decode cX7_cell 55 = .ok (.ifCond .ne 10, 3) := by decide +kernel
theorem dX7_cell_58 : decode cX7_cell 58 = .ok (.aload_n 0, 1) := by decide +kernel
theorem dX7_cell_59 : decode cX7_cell 59 = .ok (.bipush 12, 2) := by decide +kernel
theorem dX7_cell_61 : decode cX7_cell 61 = .ok (.invokevirtual 53, 3) := by decide +kernel
theorem dX7_cell_64 : decode cX7_cell 64 = .ok (.ireturn, 1) := by decide +kernel
theorem dX7_cell_65 : decode cX7_cell 65 = .ok (.aload_n 0, 1) := by decide +kernel
theorem dX7_cell_66 : decode cX7_cell 66 = .ok (.getfield 41, 3) := by decide +kernel
theorem dX7_cell_69 : decode cX7_cell 69 = .ok (.iload_n 1, 1) := by decide +kernel
theorem dX7_cell_70 : decode cX7_cell 70 = .ok (.iload_n 2, 1) := by decide +kernel
theorem dX7_cell_71 : decode cX7_cell 71 = .ok (.iload_n 3, 1) := by decide +kernel
theorem dX7_cell_72 : decode cX7_cell 72 = .ok (.invokevirtual 292, 3) := by decide +kernel
theorem dX7_cell_75 : decode cX7_cell 75 = .ok (.aload_n 0, 1) := by decide +kernel
theorem dX7_cell_76 : decode cX7_cell 76 = .ok (.iconst 1, 1) := by decide +kernel
theorem dX7_cell_77 : decode cX7_cell 77 = .ok (.invokevirtual 57, 3) := by decide +kernel
theorem dX7_cell_80 : decode cX7_cell 80 = .ok (.ireturn, 1) := by decide +kernel
theorem dX7_order_0 : decode cX7_order 0 = .ok (.iload_n 1, 1) := by decide +kernel
theorem dX7_order_1 : decode cX7_order 1 = .ok (.invokestatic 278, 3) := by decide +kernel
theorem dX7_order_4 : decode cX7_order 4 = .ok (.ifCond .eq 10, 3) := by decide +kernel
theorem dX7_order_7 : decode cX7_order 7 = .ok (.iload_n 2, 1) := by decide +kernel
theorem dX7_order_8 : decode cX7_order 8 = .ok (.invokestatic 275, 3) := by decide +kernel
theorem dX7_order_11 : decode cX7_order 11 = .ok (.ifCond .ne 9, 3) := by decide +kernel
theorem dX7_order_14 : decode cX7_order 14 = .ok (.aload_n 0, 1) := by decide +kernel
theorem dX7_order_15 : decode cX7_order 15 = .ok (.iconst 1, 1) := by decide +kernel
theorem dX7_order_16 : decode cX7_order 16 = .ok (.invokevirtual 53, 3) := by decide +kernel
theorem dX7_order_19 : decode cX7_order 19 = .ok (.ireturn, 1) := by decide +kernel
theorem dX7_order_20 : decode cX7_order 20 = .ok (.aload_n 0, 1) := by decide +kernel
theorem dX7_order_21 : decode cX7_order 21 = .ok (.getfield 17, 3) := by decide +kernel
theorem dX7_order_24 : decode cX7_order 24 = .ok (.getfield 64, 3) := by decide +kernel
theorem dX7_order_27 : decode cX7_order 27 = .ok (.invokevirtual 68, 3) := by decide +kernel
theorem dX7_order_30 : decode cX7_order 30 = .ok (.ifCond .eq 9, 3) := by decide +kernel
theorem dX7_order_33 : decode cX7_order 33 = .ok (.aload_n 0, 1) := by decide +kernel
theorem dX7_order_34 : decode cX7_order 34 = .ok (.iconst 2, 1) := by decide +kernel
theorem dX7_order_35 : decode cX7_order 35 = .ok (.invokevirtual 53, 3) := by decide +kernel
theorem dX7_order_38 : decode cX7_order 38 = .ok (.ireturn, 1) := by decide +kernel
theorem dX7_order_39 : decode cX7_order 39 = .ok (.aload_n 0, 1) := by decide +kernel
theorem dX7_order_40 : decode cX7_order 40 = .ok (.getfield 41, 3) := by decide +kernel
theorem dX7_order_43 : decode cX7_order 43 = .ok (.iload_n 1, 1) := by decide +kernel
theorem dX7_order_44 : decode cX7_order 44 = .ok (.invokevirtual 285, 3) := by decide +kernel
theorem dX7_order_47 : decode cX7_order 47 = .ok (.ifCond .eq 10, 3) := by decide +kernel
theorem dX7_order_50 : decode cX7_order 50 = .ok (.aload_n 0, 1) := by decide +kernel
theorem dX7_order_51 : decode cX7_order 51 = .ok (.bipush 10, 2) := by decide +kernel
theorem dX7_order_53 : decode cX7_order 53 = .ok (.invokevirtual 53, 3) := by decide +kernel
theorem dX7_order_56 : decode cX7_order 56 = .ok (.ireturn, 1) := by decide +kernel
theorem dX7_order_57 : decode cX7_order 57 = .ok (.aload_n 0, 1) := by decide +kernel
theorem dX7_order_58 : decode cX7_order 58 = .ok (.getfield 41, 3) := by decide +kernel
theorem dX7_order_61 : decode cX7_order 61 = .ok (.getfield 295, 3) := by decide +kernel
theorem dX7_order_64 : decode cX7_order 64 = .ok (.iload_n 1, 1) := by decide +kernel
theorem dX7_order_65 : decode cX7_order 65 = .ok (.iaload, 1) := by decide +kernel
theorem dX7_order_66 : decode cX7_order 66 = .ok (.iload_n 2, 1) := by decide +kernel
theorem dX7_order_67 : decode cX7_order 67 = .ok (.if_icmp .eq 10, 3) := by decide +kernel
theorem dX7_order_70 : decode cX7_order 70 = .ok (.aload_n 0, 1) := by decide +kernel
theorem dX7_order_71 : decode cX7_order 71 = .ok (.bipush 11, 2) := by decide +kernel
theorem dX7_order_73 : decode cX7_order 73 = .ok (.invokevirtual 53, 3) := by decide +kernel
theorem dX7_order_76 : decode cX7_order 76 = .ok (.ireturn, 1) := by decide +kernel
theorem dX7_order_77 : decode cX7_order 77 = .ok (.aload_n 0, 1) := by decide +kernel
theorem dX7_order_78 : decode cX7_order 78 = .ok (.getfield 41, 3) := by decide +kernel
theorem dX7_order_81 : decode cX7_order 81 = .ok (.iload_n 1, 1) := by decide +kernel
theorem dX7_order_82 : decode cX7_order 82 = .ok (.iload_n 3, 1) := by decide +kernel
theorem dX7_order_83 : decode cX7_order 83 = .ok (.iconst 5, 1) := by decide +kernel
theorem dX7_order_84 : decode cX7_order 84 = .ok (.invokevirtual 288, 3) := by decide +kernel
theorem dX7_order_87 : decode cX7_order 87 = .ok (.ifCond .ne 10, 3) := by decide +kernel
theorem dX7_order_90 : decode cX7_order 90 = .ok (.aload_n 0, 1) := by decide +kernel
theorem dX7_order_91 : decode cX7_order 91 = .ok (.bipush 12, 2) := by decide +kernel
theorem dX7_order_93 : decode cX7_order 93 = .ok (.invokevirtual 53, 3) := by decide +kernel
theorem dX7_order_96 : decode cX7_order 96 = .ok (.ireturn, 1) := by decide +kernel
theorem dX7_order_97 : decode cX7_order 97 = .ok (.aload_n 0, 1) := by decide +kernel
theorem dX7_order_98 : decode cX7_order 98 = .ok (.iload_n 1, 1) := by decide +kernel
theorem dX7_order_99 : decode cX7_order 99 = .ok (.iload_n 3, 1) := by decide +kernel
theorem dX7_order_100 : decode cX7_order 100 = .ok (.invokevirtual 298, 3) := by decide +kernel
theorem dX7_order_103 : decode cX7_order 103 = .ok (.ireturn, 1) := by decide +kernel
theorem dX7_forge_0 : decode cX7_forge 0 = .ok (.iload_n 2, 1) := by decide +kernel
theorem dX7_forge_1 : decode cX7_forge 1 = .ok (.bipush (-100), 2) := by decide +kernel
theorem dX7_forge_3 : decode cX7_forge 3 = .ok (.if_icmp .lt 21, 3) := by decide +kernel
theorem dX7_forge_6 : decode cX7_forge 6 = .ok (.iload_n 2, 1) := by decide +kernel
theorem dX7_forge_7 : decode cX7_forge 7 = .ok (.bipush 100, 2) := by decide +kernel
theorem dX7_forge_9 : decode cX7_forge 9 = .ok (.if_icmp .gt 15, 3) := by decide +kernel
theorem dX7_forge_12 : decode cX7_forge 12 = .ok (.iload_n 3, 1) := by decide +kernel
theorem dX7_forge_13 : decode cX7_forge 13 = .ok (.bipush (-100), 2) := by decide +kernel
theorem dX7_forge_15 : decode cX7_forge 15 = .ok (.if_icmp .lt 9, 3) := by decide +kernel
theorem dX7_forge_18 : decode cX7_forge 18 = .ok (.iload_n 3, 1) := by decide +kernel
theorem dX7_forge_19 : decode cX7_forge 19 = .ok (.bipush 100, 2) := by decide +kernel
theorem dX7_forge_21 : decode cX7_forge 21 = .ok (.if_icmp .le 9, 3) := by decide +kernel
theorem dX7_forge_24 : decode cX7_forge 24 = .ok (.aload_n 0, 1) := by decide +kernel
theorem dX7_forge_25 : decode cX7_forge 25 = .ok (.iconst 1, 1) := by decide +kernel
theorem dX7_forge_26 : decode cX7_forge 26 = .ok (.invokevirtual 53, 3) := by decide +kernel
theorem dX7_forge_29 : decode cX7_forge 29 = .ok (.ireturn, 1) := by decide +kernel
theorem dX7_forge_30 : decode cX7_forge 30 = .ok (.iload_n 3, 1) := by decide +kernel
theorem dX7_forge_31 : decode cX7_forge 31 = .ok (.bipush 24, 2) := by decide +kernel
theorem dX7_forge_33 : decode cX7_forge 33 = .ok (.invokestatic 301, 3) := by decide +kernel
theorem dX7_forge_36 : decode cX7_forge 36 = .ok (.istore 4, 2) := by decide +kernel
theorem dX7_forge_38 : decode cX7_forge 38 = .ok (.iload_n 3, 1) := by decide +kernel
theorem dX7_forge_39 : decode cX7_forge 39 = .ok (.iconst 4, 1) := by decide +kernel
theorem dX7_forge_40 : decode cX7_forge 40 = .ok (.invokestatic 301, 3) := by decide +kernel
theorem dX7_forge_43 : decode cX7_forge 43 = .ok (.istore 5, 2) := by decide +kernel
theorem dX7_forge_45 : decode cX7_forge 45 = .ok (.iload_n 1, 1) := by decide +kernel
theorem dX7_forge_46 : decode cX7_forge 46 = .ok (.tableswitch 143 0 6 #[42, 55, 74, 82, 90, 97, 120], 42) := by decide +kernel
theorem dX7_forge_88 : decode cX7_forge 88 = .ok (.aload_n 0, 1) := by decide +kernel
theorem dX7_forge_89 : decode cX7_forge 89 = .ok (.iload 4, 2) := by decide +kernel
theorem dX7_forge_91 : decode cX7_forge 91 = .ok (.iload_n 2, 1) := by decide +kernel
theorem dX7_forge_92 : decode cX7_forge 92 = .ok (.bipush 8, 2) := by decide +kernel
theorem dX7_forge_94 : decode cX7_forge 94 = .ok (.invokestatic 301, 3) := by decide +kernel
theorem dX7_forge_97 : decode cX7_forge 97 = .ok (.invokevirtual 306, 3) := by decide +kernel
theorem dX7_forge_100 : decode cX7_forge 100 = .ok (.ireturn, 1) := by decide +kernel
theorem dX7_forge_101 : decode cX7_forge 101 = .ok (.iload_n 2, 1) := by decide +kernel
theorem dX7_forge_102 : decode cX7_forge 102 = .ok (.ifCond .ge 12, 3) := by decide +kernel
theorem dX7_forge_105 : decode cX7_forge 105 = .ok (.aload_n 0, 1) := by decide +kernel
theorem dX7_forge_106 : decode cX7_forge 106 = .ok (.bipush 13, 2) := by decide +kernel
theorem dX7_forge_108 : decode cX7_forge 108 = .ok (.invokevirtual 53, 3) := by decide +kernel
theorem dX7_forge_111 : decode cX7_forge 111 = .ok (.goto 8, 3) := by decide +kernel
theorem dX7_forge_114 : decode cX7_forge 114 = .ok (.aload_n 0, 1) := by decide +kernel
theorem dX7_forge_115 : decode cX7_forge 115 = .ok (.iload_n 2, 1) := by decide +kernel
theorem dX7_forge_116 : decode cX7_forge 116 = .ok (.invokevirtual 57, 3) := by decide +kernel
theorem dX7_forge_119 : decode cX7_forge 119 = .ok (.ireturn, 1) := by decide +kernel
theorem dX7_forge_120 : decode cX7_forge 120 = .ok (.aload_n 0, 1) := by decide +kernel
theorem dX7_forge_121 : decode cX7_forge 121 = .ok (.iload 5, 2) := by decide +kernel
theorem dX7_forge_123 : decode cX7_forge 123 = .ok (.iload_n 2, 1) := by decide +kernel
theorem dX7_forge_124 : decode cX7_forge 124 = .ok (.invokevirtual 309, 3) := by decide +kernel
theorem dX7_forge_127 : decode cX7_forge 127 = .ok (.ireturn, 1) := by decide +kernel
theorem dX7_forge_128 : decode cX7_forge 128 = .ok (.aload_n 0, 1) := by decide +kernel
theorem dX7_forge_129 : decode cX7_forge 129 = .ok (.iload 5, 2) := by decide +kernel
theorem dX7_forge_131 : decode cX7_forge 131 = .ok (.iload_n 2, 1) := by decide +kernel
theorem dX7_forge_132 : decode cX7_forge 132 = .ok (.invokevirtual 312, 3) := by decide +kernel
theorem dX7_forge_135 : decode cX7_forge 135 = .ok (.ireturn, 1) := by decide +kernel
theorem dX7_forge_136 : decode cX7_forge 136 = .ok (.aload_n 0, 1) := by decide +kernel
theorem dX7_forge_137 : decode cX7_forge 137 = .ok (.iload 4, 2) := by decide +kernel
theorem dX7_forge_139 : decode cX7_forge 139 = .ok (.invokevirtual 315, 3) := by decide +kernel
theorem dX7_forge_142 : decode cX7_forge 142 = .ok (.ireturn, 1) := by decide +kernel
theorem dX7_forge_143 : decode cX7_forge 143 = .ok (.iload_n 2, 1) := by decide +kernel
theorem dX7_forge_144 : decode cX7_forge 144 = .ok (.ifCond .ne 12, 3) := by decide +kernel
theorem dX7_forge_147 : decode cX7_forge 147 = .ok (.aload_n 0, 1) := by decide +kernel
theorem dX7_forge_148 : decode cX7_forge 148 = .ok (.bipush 15, 2) := by decide +kernel
theorem dX7_forge_150 : decode cX7_forge 150 = .ok (.invokevirtual 53, 3) := by decide +kernel
theorem dX7_forge_153 : decode cX7_forge 153 = .ok (.goto 12, 3) := by decide +kernel
theorem dX7_forge_156 : decode cX7_forge 156 = .ok (.aload_n 0, 1) := by decide +kernel
theorem dX7_forge_157 : decode cX7_forge 157 = .ok (.sipush 1000, 3) := by decide +kernel
theorem dX7_forge_160 : decode cX7_forge 160 = .ok (.iload_n 2, 1) := by decide +kernel
theorem dX7_forge_161 : decode cX7_forge 161 = .ok (.idiv, 1) := by decide +kernel
theorem dX7_forge_162 : decode cX7_forge 162 = .ok (.invokevirtual 57, 3) := by decide +kernel
theorem dX7_forge_165 : decode cX7_forge 165 = .ok (.ireturn, 1) := by decide +kernel
theorem dX7_forge_166 : decode cX7_forge 166 = .ok (.iload_n 2, 1) := by decide +kernel
theorem dX7_forge_167 : decode cX7_forge 167 = .ok (.iconst 2, 1) := by decide +kernel
theorem dX7_forge_168 : decode cX7_forge 168 = .ok (.invokestatic 301, 3) := by decide +kernel
theorem dX7_forge_171 : decode cX7_forge 171 = .ok (.ifCond .ne 12, 3) := by decide +kernel
theorem dX7_forge_174 : decode cX7_forge 174 = .ok (.aload_n 0, 1) := by decide +kernel
theorem dX7_forge_175 : decode cX7_forge 175 = .ok (.bipush 10, 2) := by decide +kernel
theorem dX7_forge_177 : decode cX7_forge 177 = .ok (.invokevirtual 53, 3) := by decide +kernel
theorem dX7_forge_180 : decode cX7_forge 180 = .ok (.goto 8, 3) := by decide +kernel
theorem dX7_forge_183 : decode cX7_forge 183 = .ok (.aload_n 0, 1) := by decide +kernel
theorem dX7_forge_184 : decode cX7_forge 184 = .ok (.iconst 1, 1) := by decide +kernel
theorem dX7_forge_185 : decode cX7_forge 185 = .ok (.invokevirtual 57, 3) := by decide +kernel
theorem dX7_forge_188 : decode cX7_forge 188 = .ok (.ireturn, 1) := by decide +kernel
theorem dX7_forge_189 : decode cX7_forge 189 = .ok (.aload_n 0, 1) := by decide +kernel
theorem dX7_forge_190 : decode cX7_forge 190 = .ok (.iconst 1, 1) := by decide +kernel
theorem dX7_forge_191 : decode cX7_forge 191 = .ok (.invokevirtual 53, 3) := by decide +kernel
theorem dX7_forge_194 : decode cX7_forge 194 = .ok (.ireturn, 1) := by decide +kernel
theorem dX7_status_0 : decode cX7_status 0 = .ok (.aload_n 0, 1) := by decide +kernel
theorem dX7_status_1 : decode cX7_status 1 = .ok (.getfield 318, 3) := by decide +kernel
theorem dX7_status_4 : decode cX7_status 4 = .ok (.ireturn, 1) := by decide +kernel
theorem dX7_refused_0 : decode cX7_refused 0 = .ok (.aload_n 0, 1) := by decide +kernel
theorem dX7_refused_1 : decode cX7_refused 1 = .ok (.iload_n 1, 1) := by decide +kernel
theorem dX7_refused_2 : decode cX7_refused 2 = .ok (.putfield 318, 3) := by decide +kernel
theorem dX7_refused_5 : decode cX7_refused 5 = .ok (.iconst (-1), 1) := by decide +kernel
theorem dX7_refused_6 : decode cX7_refused 6 = .ok (.ireturn, 1) := by decide +kernel
theorem dX7_done_0 : decode cX7_done 0 = .ok (.aload_n 0, 1) := by decide +kernel
theorem dX7_done_1 : decode cX7_done 1 = .ok (.iconst 0, 1) := by decide +kernel
theorem dX7_done_2 : decode cX7_done 2 = .ok (.putfield 318, 3) := by decide +kernel
theorem dX7_done_5 : decode cX7_done 5 = .ok (.iload_n 1, 1) := by decide +kernel
theorem dX7_done_6 : decode cX7_done 6 = .ok (.ireturn, 1) := by decide +kernel
theorem dX7_isRank_0 : decode cX7_isRank 0 = .ok (.iload_n 0, 1) := by decide +kernel
theorem dX7_isRank_1 : decode cX7_isRank 1 = .ok (.ifCond .lt 13, 3) := by decide +kernel
theorem dX7_isRank_4 : decode cX7_isRank 4 = .ok (.iload_n 0, 1) := by decide +kernel
theorem dX7_isRank_5 : decode cX7_isRank 5 = .ok (.bipush 9, 2) := by decide +kernel
theorem dX7_isRank_7 : decode cX7_isRank 7 = .ok (.if_icmp .gt 7, 3) := by decide +kernel
theorem dX7_isRank_10 : decode cX7_isRank 10 = .ok (.iconst 1, 1) := by decide +kernel
theorem dX7_isRank_11 : decode cX7_isRank 11 = .ok (.goto 4, 3) := by decide +kernel
theorem dX7_isRank_14 : decode cX7_isRank 14 = .ok (.iconst 0, 1) := by decide +kernel
theorem dX7_isRank_15 : decode cX7_isRank 15 = .ok (.ireturn, 1) := by decide +kernel
theorem dX7_isWish_0 : decode cX7_isWish 0 = .ok (.aload_n 0, 1) := by decide +kernel
theorem dX7_isWish_1 : decode cX7_isWish 1 = .ok (.getfield 17, 3) := by decide +kernel
theorem dX7_isWish_4 : decode cX7_isWish 4 = .ok (.iload_n 1, 1) := by decide +kernel
theorem dX7_isWish_5 : decode cX7_isWish 5 = .ok (.invokevirtual 96, 3) := by decide +kernel
theorem dX7_isWish_8 : decode cX7_isWish 8 = .ok (.ifCond .eq 48, 3) := by decide +kernel
theorem dX7_isWish_11 : decode cX7_isWish 11 = .ok (.aload_n 0, 1) := by decide +kernel
theorem dX7_isWish_12 : decode cX7_isWish 12 = .ok (.getfield 17, 3) := by decide +kernel
theorem dX7_isWish_15 : decode cX7_isWish 15 = .ok (.iload 4, 2) := by decide +kernel
theorem dX7_isWish_17 : decode cX7_isWish 17 = .ok (.invokevirtual 96, 3) := by decide +kernel
theorem dX7_isWish_20 : decode cX7_isWish 20 = .ok (.ifCond .eq 36, 3) := by decide +kernel
theorem dX7_isWish_23 : decode cX7_isWish 23 = .ok (.iload_n 2, 1) := by decide +kernel
theorem dX7_isWish_24 : decode cX7_isWish 24 = .ok (.ifCond .lt 32, 3) := by decide +kernel
theorem dX7_isWish_27 : decode cX7_isWish 27 = .ok (.iload_n 2, 1) := by decide +kernel
theorem dX7_isWish_28 : decode cX7_isWish 28 = .ok (.bipush 8, 2) := by decide +kernel
theorem dX7_isWish_30 : decode cX7_isWish 30 = .ok (.if_icmp .ge 26, 3) := by decide +kernel
theorem dX7_isWish_33 : decode cX7_isWish 33 = .ok (.iload_n 3, 1) := by decide +kernel
theorem dX7_isWish_34 : decode cX7_isWish 34 = .ok (.invokestatic 90, 3) := by decide +kernel
theorem dX7_isWish_37 : decode cX7_isWish 37 = .ok (.ifCond .eq 19, 3) := by decide +kernel
theorem dX7_isWish_40 : decode cX7_isWish 40 = .ok (.iload 5, 2) := by decide +kernel
theorem dX7_isWish_42 : decode cX7_isWish 42 = .ok (.ifCond .lt 14, 3) := by decide +kernel
theorem dX7_isWish_45 : decode cX7_isWish 45 = .ok (.iload 5, 2) := by decide +kernel
theorem dX7_isWish_47 : decode cX7_isWish 47 = .ok (.bipush 31, 2) := by decide +kernel
theorem dX7_isWish_49 : decode cX7_isWish 49 = .ok (.if_icmp .gt 7, 3) := by decide +kernel
theorem dX7_isWish_52 : decode cX7_isWish 52 = .ok (.iconst 1, 1) := by decide +kernel
theorem dX7_isWish_53 : decode cX7_isWish 53 = .ok (.goto 4, 3) := by decide +kernel
theorem dX7_isWish_56 : decode cX7_isWish 56 = .ok (.iconst 0, 1) := by decide +kernel
theorem dX7_isWish_57 : decode cX7_isWish 57 = .ok (.istore 6, 2) := by decide +kernel
theorem dX7_isWish_59 : decode cX7_isWish 59 = .ok (.iload 5, 2) := by decide +kernel
theorem dX7_isWish_61 : decode cX7_isWish 61 = .ok (.iconst 2, 1) := by decide +kernel
theorem dX7_isWish_62 : decode cX7_isWish 62 = .ok (.if_icmp .eq 10, 3) := by decide +kernel
theorem dX7_isWish_65 : decode cX7_isWish 65 = .ok (.iload 5, 2) := by decide +kernel
theorem dX7_isWish_67 : decode cX7_isWish 67 = .ok (.bipush 11, 2) := by decide +kernel
theorem dX7_isWish_69 : decode cX7_isWish 69 = .ok (.if_icmp .le 7, 3) := by decide +kernel
theorem dX7_isWish_72 : decode cX7_isWish 72 = .ok (.iconst 1, 1) := by decide +kernel
theorem dX7_isWish_73 : decode cX7_isWish 73 = .ok (.goto 4, 3) := by decide +kernel
theorem dX7_isWish_76 : decode cX7_isWish 76 = .ok (.iconst 0, 1) := by decide +kernel
theorem dX7_isWish_77 : decode cX7_isWish 77 = .ok (.istore 7, 2) := by decide +kernel
theorem dX7_isWish_79 : decode cX7_isWish 79 = .ok (.iload 6, 2) := by decide +kernel
theorem dX7_isWish_81 : decode cX7_isWish 81 = .ok (.ifCond .eq 17, 3) := by decide +kernel
theorem dX7_isWish_84 : decode cX7_isWish 84 = .ok (.iload_n 2, 1) := by decide +kernel
theorem dX7_isWish_85 : decode cX7_isWish 85 = .ok (.iconst 1, 1) := by decide +kernel
theorem dX7_isWish_86 : decode cX7_isWish 86 = .ok (.if_icmp .ne 8, 3) := by decide +kernel
theorem dX7_isWish_89 : decode cX7_isWish 89 = .ok (.iload 7, 2) := by decide +kernel
theorem dX7_isWish_91 : decode cX7_isWish 91 = .ok (.ifCond .ne 7, 3) := by decide +kernel
theorem dX7_isWish_94 : decode cX7_isWish 94 = .ok (.iconst 1, 1) := by decide +kernel
theorem dX7_isWish_95 : decode cX7_isWish 95 = .ok (.goto 4, 3) := by decide +kernel
theorem dX7_isWish_98 : decode cX7_isWish 98 = .ok (.iconst 0, 1) := by decide +kernel
theorem dX7_isWish_99 : decode cX7_isWish 99 = .ok (.ireturn, 1) := by decide +kernel
theorem dX7_isJudged_0 : decode cX7_isJudged 0 = .ok (.iload_n 1, 1) := by decide +kernel
theorem dX7_isJudged_1 : decode cX7_isJudged 1 = .ok (.ifCond .lt 39, 3) := by decide +kernel
theorem dX7_isJudged_4 : decode cX7_isJudged 4 = .ok (.iload_n 1, 1) := by decide +kernel
theorem dX7_isJudged_5 : decode cX7_isJudged 5 = .ok (.iconst 2, 1) := by decide +kernel
theorem dX7_isJudged_6 : decode cX7_isJudged 6 = .ok (.if_icmp .gt 34, 3) := by decide +kernel
theorem dX7_isJudged_9 : decode cX7_isJudged 9 = .ok (.aload_n 0, 1) := by decide +kernel
theorem dX7_isJudged_10 : decode cX7_isJudged 10 = .ok (.getfield 17, 3) := by decide +kernel
theorem dX7_isJudged_13 : decode cX7_isJudged 13 = .ok (.iload_n 2, 1) := by decide +kernel
theorem dX7_isJudged_14 : decode cX7_isJudged 14 = .ok (.invokevirtual 96, 3) := by decide +kernel
theorem dX7_isJudged_17 : decode cX7_isJudged 17 = .ok (.ifCond .eq 23, 3) := by decide +kernel
theorem dX7_isJudged_20 : decode cX7_isJudged 20 = .ok (.iload_n 1, 1) := by decide +kernel
theorem dX7_isJudged_21 : decode cX7_isJudged 21 = .ok (.iconst 1, 1) := by decide +kernel
theorem dX7_isJudged_22 : decode cX7_isJudged 22 = .ok (.if_icmp .eq 14, 3) := by decide +kernel
theorem dX7_isJudged_25 : decode cX7_isJudged 25 = .ok (.aload_n 0, 1) := by decide +kernel
theorem dX7_isJudged_26 : decode cX7_isJudged 26 = .ok (.getfield 17, 3) := by decide +kernel
theorem dX7_isJudged_29 : decode cX7_isJudged 29 = .ok (.iload_n 3, 1) := by decide +kernel
theorem dX7_isJudged_30 : decode cX7_isJudged 30 = .ok (.invokevirtual 96, 3) := by decide +kernel
theorem dX7_isJudged_33 : decode cX7_isJudged 33 = .ok (.ifCond .eq 7, 3) := by decide +kernel
theorem dX7_isJudged_36 : decode cX7_isJudged 36 = .ok (.iconst 1, 1) := by decide +kernel
theorem dX7_isJudged_37 : decode cX7_isJudged 37 = .ok (.goto 4, 3) := by decide +kernel
theorem dX7_isJudged_40 : decode cX7_isJudged 40 = .ok (.iconst 0, 1) := by decide +kernel
theorem dX7_isJudged_41 : decode cX7_isJudged 41 = .ok (.istore 6, 2) := by decide +kernel
theorem dX7_isJudged_43 : decode cX7_isJudged 43 = .ok (.iload 4, 2) := by decide +kernel
theorem dX7_isJudged_45 : decode cX7_isJudged 45 = .ok (.ifCond .lt 30, 3) := by decide +kernel
theorem dX7_isJudged_48 : decode cX7_isJudged 48 = .ok (.iload 4, 2) := by decide +kernel
theorem dX7_isJudged_50 : decode cX7_isJudged 50 = .ok (.iconst 1, 1) := by decide +kernel
theorem dX7_isJudged_51 : decode cX7_isJudged 51 = .ok (.aload_n 0, 1) := by decide +kernel
theorem dX7_isJudged_52 : decode cX7_isJudged 52 = .ok (.getfield 17, 3) := by decide +kernel
theorem dX7_isJudged_55 : decode cX7_isJudged 55 = .ok (.getfield 49, 3) := by decide +kernel
theorem dX7_isJudged_58 : decode cX7_isJudged 58 = .ok (.ishl, 1) := by decide +kernel
theorem dX7_isJudged_59 : decode cX7_isJudged 59 = .ok (.if_icmp .ge 16, 3) := by decide +kernel
theorem dX7_isJudged_62 : decode cX7_isJudged 62 = .ok (.iload 4, 2) := by decide +kernel
theorem dX7_isJudged_64 : decode cX7_isJudged 64 = .ok (.invokestatic 321, 3) := by decide +kernel
theorem dX7_isJudged_67 : decode cX7_isJudged 67 = .ok (.iconst 3, 1) := by decide +kernel
theorem dX7_isJudged_68 : decode cX7_isJudged 68 = .ok (.if_icmp .gt 7, 3) := by decide +kernel
theorem dX7_isJudged_71 : decode cX7_isJudged 71 = .ok (.iconst 1, 1) := by decide +kernel
theorem dX7_isJudged_72 : decode cX7_isJudged 72 = .ok (.goto 4, 3) := by decide +kernel
theorem dX7_isJudged_75 : decode cX7_isJudged 75 = .ok (.iconst 0, 1) := by decide +kernel
theorem dX7_isJudged_76 : decode cX7_isJudged 76 = .ok (.istore 7, 2) := by decide +kernel
theorem dX7_isJudged_78 : decode cX7_isJudged 78 = .ok (.iload 6, 2) := by decide +kernel
theorem dX7_isJudged_80 : decode cX7_isJudged 80 = .ok (.ifCond .eq 24, 3) := by decide +kernel
theorem dX7_isJudged_83 : decode cX7_isJudged 83 = .ok (.iload 7, 2) := by decide +kernel
theorem dX7_isJudged_85 : decode cX7_isJudged 85 = .ok (.ifCond .eq 19, 3) := by decide +kernel
theorem dX7_isJudged_88 : decode cX7_isJudged 88 = .ok (.iload 5, 2) := by decide +kernel
theorem dX7_isJudged_90 : decode cX7_isJudged 90 = .ok (.iconst 1, 1) := by decide +kernel
theorem dX7_isJudged_91 : decode cX7_isJudged 91 = .ok (.if_icmp .lt 13, 3) := by decide +kernel
theorem dX7_isJudged_94 : decode cX7_isJudged 94 = .ok (.iload 5, 2) := by decide +kernel
theorem dX7_isJudged_96 : decode cX7_isJudged 96 = .ok (.iconst 3, 1) := by decide +kernel
theorem dX7_isJudged_97 : decode cX7_isJudged 97 = .ok (.if_icmp .gt 7, 3) := by decide +kernel
theorem dX7_isJudged_100 : decode cX7_isJudged 100 = .ok (.iconst 1, 1) := by decide +kernel
theorem dX7_isJudged_101 : decode cX7_isJudged 101 = .ok (.goto 4, 3) := by decide +kernel
theorem dX7_isJudged_104 : decode cX7_isJudged 104 = .ok (.iconst 0, 1) := by decide +kernel
theorem dX7_isJudged_105 : decode cX7_isJudged 105 = .ok (.ireturn, 1) := by decide +kernel
theorem dX7_orderedFrom_0 : decode cX7_orderedFrom 0 = .ok (.aload_n 0, 1) := by decide +kernel
theorem dX7_orderedFrom_1 : decode cX7_orderedFrom 1 = .ok (.getfield 41, 3) := by decide +kernel
theorem dX7_orderedFrom_4 : decode cX7_orderedFrom 4 = .ok (.iload_n 1, 1) := by decide +kernel
theorem dX7_orderedFrom_5 : decode cX7_orderedFrom 5 = .ok (.iload_n 2, 1) := by decide +kernel
theorem dX7_orderedFrom_6 : decode cX7_orderedFrom 6 = .ok (.invokevirtual 326, 3) := by decide +kernel
theorem dX7_orderedFrom_9 : decode cX7_orderedFrom 9 = .ok (.istore_n 3, 1) := by decide +kernel
theorem dX7_orderedFrom_10 : decode cX7_orderedFrom 10 = .ok (.aload_n 0, 1) := by decide +kernel
theorem dX7_orderedFrom_11 : decode cX7_orderedFrom 11 = .ok (.getfield 41, 3) := by decide +kernel
theorem dX7_orderedFrom_14 : decode cX7_orderedFrom 14 = .ok (.iload_n 1, 1) := by decide +kernel
theorem dX7_orderedFrom_15 : decode cX7_orderedFrom 15 = .ok (.iload_n 2, 1) := by decide +kernel
theorem dX7_orderedFrom_16 : decode cX7_orderedFrom 16 = .ok (.iconst 1, 1) := by decide +kernel
theorem dX7_orderedFrom_17 : decode cX7_orderedFrom 17 = .ok (.iadd, 1) := by decide +kernel
theorem dX7_orderedFrom_18 : decode cX7_orderedFrom 18 = .ok (.invokevirtual 326, 3) := by decide +kernel
theorem dX7_orderedFrom_21 : decode cX7_orderedFrom 21 = .ok (.istore 4, 2) := by decide +kernel
theorem dX7_orderedFrom_23 : decode cX7_orderedFrom 23 = .ok (.aload_n 0, 1) := by decide +kernel
theorem dX7_orderedFrom_24 : decode cX7_orderedFrom 24 = .ok (.getfield 41, 3) := by decide +kernel
theorem dX7_orderedFrom_27 : decode cX7_orderedFrom 27 = .ok (.iload_n 1, 1) := by decide +kernel
theorem dX7_orderedFrom_28 : decode cX7_orderedFrom 28 = .ok (.iload_n 2, 1) := by decide +kernel
theorem dX7_orderedFrom_29 : decode cX7_orderedFrom 29 = .ok (.iconst 2, 1) := by decide +kernel
theorem dX7_orderedFrom_30 : decode cX7_orderedFrom 30 = .ok (.iadd, 1) := by decide +kernel
theorem dX7_orderedFrom_31 : decode cX7_orderedFrom 31 = .ok (.invokevirtual 326, 3) := by decide +kernel
theorem dX7_orderedFrom_34 : decode cX7_orderedFrom 34 = .ok (.istore 5, 2) := by decide +kernel
theorem dX7_orderedFrom_36 : decode cX7_orderedFrom 36 = .ok (.aload_n 0, 1) := by decide +kernel
theorem dX7_orderedFrom_37 : decode cX7_orderedFrom 37 = .ok (.getfield 41, 3) := by decide +kernel
theorem dX7_orderedFrom_40 : decode cX7_orderedFrom 40 = .ok (.iload_n 1, 1) := by decide +kernel
theorem dX7_orderedFrom_41 : decode cX7_orderedFrom 41 = .ok (.iload_n 2, 1) := by decide +kernel
theorem dX7_orderedFrom_42 : decode cX7_orderedFrom 42 = .ok (.iconst 3, 1) := by decide +kernel
theorem dX7_orderedFrom_43 : decode cX7_orderedFrom 43 = .ok (.iadd, 1) := by decide +kernel
theorem dX7_orderedFrom_44 : decode cX7_orderedFrom 44 = .ok (.invokevirtual 326, 3) := by decide +kernel
theorem dX7_orderedFrom_47 : decode cX7_orderedFrom 47 = .ok (.istore 6, 2) := by decide +kernel
theorem dX7_orderedFrom_49 : decode cX7_orderedFrom 49 = .ok (.aload_n 0, 1) := by decide +kernel
theorem dX7_orderedFrom_50 : decode cX7_orderedFrom 50 = .ok (.getfield 41, 3) := by decide +kernel
theorem dX7_orderedFrom_53 : decode cX7_orderedFrom 53 = .ok (.iload_n 1, 1) := by decide +kernel
theorem dX7_orderedFrom_54 : decode cX7_orderedFrom 54 = .ok (.iload_n 2, 1) := by decide +kernel
theorem dX7_orderedFrom_55 : decode cX7_orderedFrom 55 = .ok (.iconst 4, 1) := by decide +kernel
theorem dX7_orderedFrom_56 : decode cX7_orderedFrom 56 = .ok (.iadd, 1) := by decide +kernel
theorem dX7_orderedFrom_57 : decode cX7_orderedFrom 57 = .ok (.invokevirtual 326, 3) := by decide +kernel
theorem dX7_orderedFrom_60 : decode cX7_orderedFrom 60 = .ok (.istore 7, 2) := by decide +kernel
theorem dX7_orderedFrom_62 : decode cX7_orderedFrom 62 = .ok (.aload_n 0, 1) := by decide +kernel
theorem dX7_orderedFrom_63 : decode cX7_orderedFrom 63 = .ok (.iload_n 3, 1) := by decide +kernel
theorem dX7_orderedFrom_64 : decode cX7_orderedFrom 64 = .ok (.iload 4, 2) := by decide +kernel
theorem dX7_orderedFrom_66 : decode cX7_orderedFrom 66 = .ok (.iload 5, 2) := by decide +kernel
theorem dX7_orderedFrom_68 : decode cX7_orderedFrom 68 = .ok (.iload 6, 2) := by decide +kernel
theorem dX7_orderedFrom_70 : decode cX7_orderedFrom 70 = .ok (.iload 7, 2) := by decide +kernel
theorem dX7_orderedFrom_72 : decode cX7_orderedFrom 72 = .ok (.invokevirtual 60, 3) := by decide +kernel
theorem dX7_orderedFrom_75 : decode cX7_orderedFrom 75 = .ok (.ifCond .ne 9, 3) := by decide +kernel
theorem dX7_orderedFrom_78 : decode cX7_orderedFrom 78 = .ok (.aload_n 0, 1) := by decide +kernel
theorem dX7_orderedFrom_79 : decode cX7_orderedFrom 79 = .ok (.iconst 3, 1) := by decide +kernel
theorem dX7_orderedFrom_80 : decode cX7_orderedFrom 80 = .ok (.invokevirtual 53, 3) := by decide +kernel
theorem dX7_orderedFrom_83 : decode cX7_orderedFrom 83 = .ok (.ireturn, 1) := by decide +kernel
theorem dX7_orderedFrom_84 : decode cX7_orderedFrom 84 = .ok (.aload_n 0, 1) := by decide +kernel
theorem dX7_orderedFrom_85 : decode cX7_orderedFrom 85 = .ok (.aload_n 0, 1) := by decide +kernel
theorem dX7_orderedFrom_86 : decode cX7_orderedFrom 86 = .ok (.getfield 17, 3) := by decide +kernel
theorem dX7_orderedFrom_89 : decode cX7_orderedFrom 89 = .ok (.getfield 64, 3) := by decide +kernel
theorem dX7_orderedFrom_92 : decode cX7_orderedFrom 92 = .ok (.iload_n 3, 1) := by decide +kernel
theorem dX7_orderedFrom_93 : decode cX7_orderedFrom 93 = .ok (.iload 4, 2) := by decide +kernel
theorem dX7_orderedFrom_95 : decode cX7_orderedFrom 95 = .ok (.iload 5, 2) := by decide +kernel
theorem dX7_orderedFrom_97 : decode cX7_orderedFrom 97 = .ok (.iload 6, 2) := by decide +kernel
theorem dX7_orderedFrom_99 : decode cX7_orderedFrom 99 = .ok (.iload 7, 2) := by decide +kernel
theorem dX7_orderedFrom_101 : decode cX7_orderedFrom 101 = .ok (.invokevirtual 72, 3) := by decide +kernel
theorem dX7_orderedFrom_104 : decode cX7_orderedFrom 104 = .ok (.invokevirtual 57, 3) := by decide +kernel
theorem dX7_orderedFrom_107 : decode cX7_orderedFrom 107 = .ok (.ireturn, 1) := by decide +kernel
theorem dX7_takenForKind_0 : decode cX7_takenForKind 0 = .ok (.aload_n 0, 1) := by decide +kernel
theorem dX7_takenForKind_1 : decode cX7_takenForKind 1 = .ok (.getfield 17, 3) := by decide +kernel
theorem dX7_takenForKind_4 : decode cX7_takenForKind 4 = .ok (.getfield 64, 3) := by decide +kernel
theorem dX7_takenForKind_7 : decode cX7_takenForKind 7 = .ok (.iload_n 1, 1) := by decide +kernel
theorem dX7_takenForKind_8 : decode cX7_takenForKind 8 = .ok (.invokevirtual 76, 3) := by decide +kernel
theorem dX7_takenForKind_11 : decode cX7_takenForKind 11 = .ok (.ifCond .ne 10, 3) := by decide +kernel
theorem dX7_takenForKind_14 : decode cX7_takenForKind 14 = .ok (.aload_n 0, 1) := by decide +kernel
theorem dX7_takenForKind_15 : decode cX7_takenForKind 15 = .ok (.bipush 10, 2) := by decide +kernel
theorem dX7_takenForKind_17 : decode cX7_takenForKind 17 = .ok (.invokevirtual 53, 3) := by decide +kernel
theorem dX7_takenForKind_20 : decode cX7_takenForKind 20 = .ok (.ireturn, 1) := by decide +kernel
theorem dX7_takenForKind_21 : decode cX7_takenForKind 21 = .ok (.aload_n 0, 1) := by decide +kernel
theorem dX7_takenForKind_22 : decode cX7_takenForKind 22 = .ok (.getfield 17, 3) := by decide +kernel
theorem dX7_takenForKind_25 : decode cX7_takenForKind 25 = .ok (.getfield 64, 3) := by decide +kernel
theorem dX7_takenForKind_28 : decode cX7_takenForKind 28 = .ok (.getfield 80, 3) := by decide +kernel
theorem dX7_takenForKind_31 : decode cX7_takenForKind 31 = .ok (.iload_n 1, 1) := by decide +kernel
theorem dX7_takenForKind_32 : decode cX7_takenForKind 32 = .ok (.aaload, 1) := by decide +kernel
theorem dX7_takenForKind_33 : decode cX7_takenForKind 33 = .ok (.getfield 143, 3) := by decide +kernel
theorem dX7_takenForKind_36 : decode cX7_takenForKind 36 = .ok (.istore_n 3, 1) := by decide +kernel
theorem dX7_takenForKind_37 : decode cX7_takenForKind 37 = .ok (.iload_n 2, 1) := by decide +kernel
theorem dX7_takenForKind_38 : decode cX7_takenForKind 38 = .ok (.ifCond .eq 13, 3) := by decide +kernel
theorem dX7_takenForKind_41 : decode cX7_takenForKind 41 = .ok (.iload_n 2, 1) := by decide +kernel
theorem dX7_takenForKind_42 : decode cX7_takenForKind 42 = .ok (.iconst 2, 1) := by decide +kernel
theorem dX7_takenForKind_43 : decode cX7_takenForKind 43 = .ok (.if_icmp .ne 12, 3) := by decide +kernel
theorem dX7_takenForKind_46 : decode cX7_takenForKind 46 = .ok (.iload_n 3, 1) := by decide +kernel
theorem dX7_takenForKind_47 : decode cX7_takenForKind 47 = .ok (.iconst 3, 1) := by decide +kernel
theorem dX7_takenForKind_48 : decode cX7_takenForKind 48 = .ok (.if_icmp .ne 7, 3) := by decide +kernel
theorem dX7_takenForKind_51 : decode cX7_takenForKind 51 = .ok (.iconst 1, 1) := by decide +kernel
theorem dX7_takenForKind_52 : decode cX7_takenForKind 52 = .ok (.goto 4, 3) := by decide +kernel
theorem dX7_takenForKind_55 : decode cX7_takenForKind 55 = .ok (.iconst 0, 1) := by decide +kernel
theorem dX7_takenForKind_56 : decode cX7_takenForKind 56 = .ok (.istore 4, 2) := by decide +kernel
theorem dX7_takenForKind_58 : decode cX7_takenForKind 58 = .ok (.iload_n 3, 1) := by decide +kernel
theorem dX7_takenForKind_59 : decode cX7_takenForKind 59 = .ok (.iload_n 2, 1) := by decide +kernel
theorem dX7_takenForKind_60 : decode cX7_takenForKind 60 = .ok (.if_icmp .eq 8, 3) := by decide +kernel
theorem dX7_takenForKind_63 : decode cX7_takenForKind 63 = .ok (.iload 4, 2) := by decide +kernel
theorem dX7_takenForKind_65 : decode cX7_takenForKind 65 = .ok (.ifCond .eq 11, 3) := by decide +kernel
theorem dX7_takenForKind_68 : decode cX7_takenForKind 68 = .ok (.aload_n 0, 1) := by decide +kernel
theorem dX7_takenForKind_69 : decode cX7_takenForKind 69 = .ok (.iload_n 3, 1) := by decide +kernel
theorem dX7_takenForKind_70 : decode cX7_takenForKind 70 = .ok (.invokevirtual 57, 3) := by decide +kernel
theorem dX7_takenForKind_73 : decode cX7_takenForKind 73 = .ok (.goto 9, 3) := by decide +kernel
theorem dX7_takenForKind_76 : decode cX7_takenForKind 76 = .ok (.aload_n 0, 1) := by decide +kernel
theorem dX7_takenForKind_77 : decode cX7_takenForKind 77 = .ok (.bipush 11, 2) := by decide +kernel
theorem dX7_takenForKind_79 : decode cX7_takenForKind 79 = .ok (.invokevirtual 53, 3) := by decide +kernel
theorem dX7_takenForKind_82 : decode cX7_takenForKind 82 = .ok (.ireturn, 1) := by decide +kernel
theorem dX7_readAsShort_0 : decode cX7_readAsShort 0 = .ok (.aload_n 0, 1) := by decide +kernel
theorem dX7_readAsShort_1 : decode cX7_readAsShort 1 = .ok (.getfield 41, 3) := by decide +kernel
theorem dX7_readAsShort_4 : decode cX7_readAsShort 4 = .ok (.iload_n 1, 1) := by decide +kernel
theorem dX7_readAsShort_5 : decode cX7_readAsShort 5 = .ok (.invokevirtual 285, 3) := by decide +kernel
theorem dX7_readAsShort_8 : decode cX7_readAsShort 8 = .ok (.ifCond .eq 10, 3) := by decide +kernel
theorem dX7_readAsShort_11 : decode cX7_readAsShort 11 = .ok (.aload_n 0, 1) := by decide +kernel
theorem dX7_readAsShort_12 : decode cX7_readAsShort 12 = .ok (.bipush 10, 2) := by decide +kernel
theorem dX7_readAsShort_14 : decode cX7_readAsShort 14 = .ok (.invokevirtual 53, 3) := by decide +kernel
theorem dX7_readAsShort_17 : decode cX7_readAsShort 17 = .ok (.ireturn, 1) := by decide +kernel
theorem dX7_readAsShort_18 : decode cX7_readAsShort 18 = .ok (.aload_n 0, 1) := by decide +kernel
theorem dX7_readAsShort_19 : decode cX7_readAsShort 19 = .ok (.getfield 41, 3) := by decide +kernel
theorem dX7_readAsShort_22 : decode cX7_readAsShort 22 = .ok (.getfield 295, 3) := by decide +kernel
theorem dX7_readAsShort_25 : decode cX7_readAsShort 25 = .ok (.iload_n 1, 1) := by decide +kernel
theorem dX7_readAsShort_26 : decode cX7_readAsShort 26 = .ok (.iaload, 1) := by decide +kernel
theorem dX7_readAsShort_27 : decode cX7_readAsShort 27 = .ok (.iconst 1, 1) := by decide +kernel
theorem dX7_readAsShort_28 : decode cX7_readAsShort 28 = .ok (.if_icmp .eq 10, 3) := by decide +kernel
theorem dX7_readAsShort_31 : decode cX7_readAsShort 31 = .ok (.aload_n 0, 1) := by decide +kernel
theorem dX7_readAsShort_32 : decode cX7_readAsShort 32 = .ok (.bipush 11, 2) := by decide +kernel
theorem dX7_readAsShort_34 : decode cX7_readAsShort 34 = .ok (.invokevirtual 53, 3) := by decide +kernel
theorem dX7_readAsShort_37 : decode cX7_readAsShort 37 = .ok (.ireturn, 1) := by decide +kernel
theorem dX7_readAsShort_38 : decode cX7_readAsShort 38 = .ok (.aload_n 0, 1) := by decide +kernel
theorem dX7_readAsShort_39 : decode cX7_readAsShort 39 = .ok (.getfield 41, 3) := by decide +kernel
theorem dX7_readAsShort_42 : decode cX7_readAsShort 42 = .ok (.iload_n 1, 1) := by decide +kernel
theorem dX7_readAsShort_43 : decode cX7_readAsShort 43 = .ok (.iload_n 2, 1) := by decide +kernel
theorem dX7_readAsShort_44 : decode cX7_readAsShort 44 = .ok (.iconst 1, 1) := by decide +kernel
theorem dX7_readAsShort_45 : decode cX7_readAsShort 45 = .ok (.invokevirtual 288, 3) := by decide +kernel
theorem dX7_readAsShort_48 : decode cX7_readAsShort 48 = .ok (.ifCond .eq 19, 3) := by decide +kernel
theorem dX7_readAsShort_51 : decode cX7_readAsShort 51 = .ok (.aload_n 0, 1) := by decide +kernel
theorem dX7_readAsShort_52 : decode cX7_readAsShort 52 = .ok (.aload_n 0, 1) := by decide +kernel
theorem dX7_readAsShort_53 : decode cX7_readAsShort 53 = .ok (.getfield 41, 3) := by decide +kernel
theorem dX7_readAsShort_56 : decode cX7_readAsShort 56 = .ok (.iload_n 1, 1) := by decide +kernel
theorem dX7_readAsShort_57 : decode cX7_readAsShort 57 = .ok (.iload_n 2, 1) := by decide +kernel
theorem dX7_readAsShort_58 : decode cX7_readAsShort 58 = .ok (.invokevirtual 326, 3) := by decide +kernel
theorem dX7_readAsShort_61 : decode cX7_readAsShort 61 = .ok (.invokevirtual 57, 3) := by decide +kernel
theorem dX7_readAsShort_64 : decode cX7_readAsShort 64 = .ok (.goto 9, 3) := by decide +kernel
theorem dX7_readAsShort_67 : decode cX7_readAsShort 67 = .ok (.aload_n 0, 1) := by decide +kernel
theorem dX7_readAsShort_68 : decode cX7_readAsShort 68 = .ok (.bipush 12, 2) := by decide +kernel
theorem dX7_readAsShort_70 : decode cX7_readAsShort 70 = .ok (.invokevirtual 53, 3) := by decide +kernel
theorem dX7_readAsShort_73 : decode cX7_readAsShort 73 = .ok (.ireturn, 1) := by decide +kernel
theorem dX7_copiedAsBytes_0 : decode cX7_copiedAsBytes 0 = .ok (.aload_n 0, 1) := by decide +kernel
theorem dX7_copiedAsBytes_1 : decode cX7_copiedAsBytes 1 = .ok (.getfield 41, 3) := by decide +kernel
theorem dX7_copiedAsBytes_4 : decode cX7_copiedAsBytes 4 = .ok (.iload_n 1, 1) := by decide +kernel
theorem dX7_copiedAsBytes_5 : decode cX7_copiedAsBytes 5 = .ok (.invokevirtual 285, 3) := by decide +kernel
theorem dX7_copiedAsBytes_8 : decode cX7_copiedAsBytes 8 = .ok (.ifCond .eq 10, 3) := by decide +kernel
theorem dX7_copiedAsBytes_11 : decode cX7_copiedAsBytes 11 = .ok (.aload_n 0, 1) := by decide +kernel
theorem dX7_copiedAsBytes_12 : decode cX7_copiedAsBytes 12 = .ok (.bipush 10, 2) := by decide +kernel
theorem dX7_copiedAsBytes_14 : decode cX7_copiedAsBytes 14 = .ok (.invokevirtual 53, 3) := by decide +kernel
theorem dX7_copiedAsBytes_17 : decode cX7_copiedAsBytes 17 = .ok (.ireturn, 1) := by decide +kernel
theorem dX7_copiedAsBytes_18 : decode cX7_copiedAsBytes 18 = .ok (.aload_n 0, 1) := by decide +kernel
theorem dX7_copiedAsBytes_19 : decode cX7_copiedAsBytes 19 = .ok (.getfield 41, 3) := by decide +kernel
theorem dX7_copiedAsBytes_22 : decode cX7_copiedAsBytes 22 = .ok (.getfield 295, 3) := by decide +kernel
theorem dX7_copiedAsBytes_25 : decode cX7_copiedAsBytes 25 = .ok (.iload_n 1, 1) := by decide +kernel
theorem dX7_copiedAsBytes_26 : decode cX7_copiedAsBytes 26 = .ok (.iaload, 1) := by decide +kernel
theorem dX7_copiedAsBytes_27 : decode cX7_copiedAsBytes 27 = .ok (.ifCond .eq 10, 3) := by decide +kernel
theorem dX7_copiedAsBytes_30 : decode cX7_copiedAsBytes 30 = .ok (.aload_n 0, 1) := by decide +kernel
theorem dX7_copiedAsBytes_31 : decode cX7_copiedAsBytes 31 = .ok (.bipush 11, 2) := by decide +kernel
theorem dX7_copiedAsBytes_33 : decode cX7_copiedAsBytes 33 = .ok (.invokevirtual 53, 3) := by decide +kernel
theorem dX7_copiedAsBytes_36 : decode cX7_copiedAsBytes 36 = .ok (.ireturn, 1) := by decide +kernel
theorem dX7_copiedAsBytes_37 : decode cX7_copiedAsBytes 37 = .ok (.iload_n 2, 1) := by decide +kernel
theorem dX7_copiedAsBytes_38 : decode cX7_copiedAsBytes 38 = .ok (.ifCond .lt 24, 3) := by decide +kernel
theorem dX7_copiedAsBytes_41 : decode cX7_copiedAsBytes 41 = .ok (.iload_n 2, 1) := by decide +kernel
theorem dX7_copiedAsBytes_42 : decode cX7_copiedAsBytes 42 = .ok (.iload_n 2, 1) := by decide +kernel
theorem dX7_copiedAsBytes_43 : decode cX7_copiedAsBytes 43 = .ok (.iadd, 1) := by decide +kernel
theorem dX7_copiedAsBytes_44 : decode cX7_copiedAsBytes 44 = .ok (.bipush 6, 2) := by decide +kernel
theorem dX7_copiedAsBytes_46 : decode cX7_copiedAsBytes 46 = .ok (.if_icmp .gt 16, 3) := by decide +kernel
theorem dX7_copiedAsBytes_49 : decode cX7_copiedAsBytes 49 = .ok (.aload_n 0, 1) := by decide +kernel
theorem dX7_copiedAsBytes_50 : decode cX7_copiedAsBytes 50 = .ok (.getfield 41, 3) := by decide +kernel
theorem dX7_copiedAsBytes_53 : decode cX7_copiedAsBytes 53 = .ok (.iload_n 1, 1) := by decide +kernel
theorem dX7_copiedAsBytes_54 : decode cX7_copiedAsBytes 54 = .ok (.iconst 1, 1) := by decide +kernel
theorem dX7_copiedAsBytes_55 : decode cX7_copiedAsBytes 55 = .ok (.iload_n 2, 1) := by decide +kernel
theorem dX7_copiedAsBytes_56 : decode cX7_copiedAsBytes 56 = .ok (.invokevirtual 288, 3) := by decide +kernel
theorem dX7_copiedAsBytes_59 : decode cX7_copiedAsBytes 59 = .ok (.ifCond .ne 10, 3) := by decide +kernel
theorem dX7_copiedAsBytes_62 : decode cX7_copiedAsBytes 62 = .ok (.aload_n 0, 1) := by decide +kernel
theorem dX7_copiedAsBytes_63 : decode cX7_copiedAsBytes 63 = .ok (.bipush 12, 2) := by decide +kernel
theorem dX7_copiedAsBytes_65 : decode cX7_copiedAsBytes 65 = .ok (.invokevirtual 53, 3) := by decide +kernel
theorem dX7_copiedAsBytes_68 : decode cX7_copiedAsBytes 68 = .ok (.ireturn, 1) := by decide +kernel
theorem dX7_copiedAsBytes_69 : decode cX7_copiedAsBytes 69 = .ok (.iconst 0, 1) := by decide +kernel
theorem dX7_copiedAsBytes_70 : decode cX7_copiedAsBytes 70 = .ok (.istore_n 3, 1) := by decide +kernel
theorem dX7_copiedAsBytes_71 : decode cX7_copiedAsBytes 71 = .ok (.iconst 1, 1) := by decide +kernel
theorem dX7_copiedAsBytes_72 : decode cX7_copiedAsBytes 72 = .ok (.istore 4, 2) := by decide +kernel
theorem dX7_copiedAsBytes_74 : decode cX7_copiedAsBytes 74 = .ok (.iload 4, 2) := by decide +kernel
theorem dX7_copiedAsBytes_76 : decode cX7_copiedAsBytes 76 = .ok (.iload_n 2, 1) := by decide +kernel
theorem dX7_copiedAsBytes_77 : decode cX7_copiedAsBytes 77 = .ok (.if_icmp .gt 22, 3) := by decide +kernel
theorem dX7_copiedAsBytes_80 : decode cX7_copiedAsBytes 80 = .ok (.iload_n 3, 1) := by decide +kernel
theorem dX7_copiedAsBytes_81 : decode cX7_copiedAsBytes 81 = .ok (.aload_n 0, 1) := by decide +kernel
theorem dX7_copiedAsBytes_82 : decode cX7_copiedAsBytes 82 = .ok (.getfield 41, 3) := by decide +kernel
theorem dX7_copiedAsBytes_85 : decode cX7_copiedAsBytes 85 = .ok (.iload_n 1, 1) := by decide +kernel
theorem dX7_copiedAsBytes_86 : decode cX7_copiedAsBytes 86 = .ok (.iload 4, 2) := by decide +kernel
theorem dX7_copiedAsBytes_88 : decode cX7_copiedAsBytes 88 = .ok (.invokevirtual 326, 3) := by decide +kernel
theorem dX7_copiedAsBytes_91 : decode cX7_copiedAsBytes 91 = .ok (.iadd, 1) := by decide +kernel
theorem dX7_copiedAsBytes_92 : decode cX7_copiedAsBytes 92 = .ok (.istore_n 3, 1) := by decide +kernel
theorem dX7_copiedAsBytes_93 : decode cX7_copiedAsBytes 93 = .ok (.iinc 4 1, 3) := by decide +kernel
theorem dX7_copiedAsBytes_96 : decode cX7_copiedAsBytes 96 = .ok (.goto (-22), 3) := by decide +kernel
theorem dX7_copiedAsBytes_99 : decode cX7_copiedAsBytes 99 = .ok (.aload_n 0, 1) := by decide +kernel
theorem dX7_copiedAsBytes_100 : decode cX7_copiedAsBytes 100 = .ok (.iload_n 3, 1) := by decide +kernel
theorem dX7_copiedAsBytes_101 : decode cX7_copiedAsBytes 101 = .ok (.invokevirtual 57, 3) := by decide +kernel
theorem dX7_copiedAsBytes_104 : decode cX7_copiedAsBytes 104 = .ok (.ireturn, 1) := by decide +kernel
theorem dX7_putAmongShut_0 : decode cX7_putAmongShut 0 = .ok (.aload_n 0, 1) := by decide +kernel
theorem dX7_putAmongShut_1 : decode cX7_putAmongShut 1 = .ok (.getfield 17, 3) := by decide +kernel
theorem dX7_putAmongShut_4 : decode cX7_putAmongShut 4 = .ok (.getfield 64, 3) := by decide +kernel
theorem dX7_putAmongShut_7 : decode cX7_putAmongShut 7 = .ok (.iload_n 1, 1) := by decide +kernel
theorem dX7_putAmongShut_8 : decode cX7_putAmongShut 8 = .ok (.invokevirtual 76, 3) := by decide +kernel
theorem dX7_putAmongShut_11 : decode cX7_putAmongShut 11 = .ok (.ifCond .ne 9, 3) := by decide +kernel
theorem dX7_putAmongShut_14 : decode cX7_putAmongShut 14 = .ok (.aload_n 0, 1) := by decide +kernel
theorem dX7_putAmongShut_15 : decode cX7_putAmongShut 15 = .ok (.iconst 0, 1) := by decide +kernel
theorem dX7_putAmongShut_16 : decode cX7_putAmongShut 16 = .ok (.invokevirtual 57, 3) := by decide +kernel
theorem dX7_putAmongShut_19 : decode cX7_putAmongShut 19 = .ok (.ireturn, 1) := by decide +kernel
theorem dX7_putAmongShut_20 : decode cX7_putAmongShut 20 = .ok (.aload_n 0, 1) := by decide +kernel
theorem dX7_putAmongShut_21 : decode cX7_putAmongShut 21 = .ok (.getfield 17, 3) := by decide +kernel
theorem dX7_putAmongShut_24 : decode cX7_putAmongShut 24 = .ok (.getfield 64, 3) := by decide +kernel
theorem dX7_putAmongShut_27 : decode cX7_putAmongShut 27 = .ok (.getfield 80, 3) := by decide +kernel
theorem dX7_putAmongShut_30 : decode cX7_putAmongShut 30 = .ok (.iload_n 1, 1) := by decide +kernel
theorem dX7_putAmongShut_31 : decode cX7_putAmongShut 31 = .ok (.aaload, 1) := by decide +kernel
theorem dX7_putAmongShut_32 : decode cX7_putAmongShut 32 = .ok (.getfield 143, 3) := by decide +kernel
theorem dX7_putAmongShut_35 : decode cX7_putAmongShut 35 = .ok (.istore_n 2, 1) := by decide +kernel
theorem dX7_putAmongShut_36 : decode cX7_putAmongShut 36 = .ok (.iload_n 2, 1) := by decide +kernel
theorem dX7_putAmongShut_37 : decode cX7_putAmongShut 37 = .ok (.iconst 2, 1) := by decide +kernel
theorem dX7_putAmongShut_38 : decode cX7_putAmongShut 38 = .ok (.if_icmp .eq 8, 3) := by decide +kernel
theorem dX7_putAmongShut_41 : decode cX7_putAmongShut 41 = .ok (.iload_n 2, 1) := by decide +kernel
theorem dX7_putAmongShut_42 : decode cX7_putAmongShut 42 = .ok (.iconst 3, 1) := by decide +kernel
theorem dX7_putAmongShut_43 : decode cX7_putAmongShut 43 = .ok (.if_icmp .ne 11, 3) := by decide +kernel
theorem dX7_putAmongShut_46 : decode cX7_putAmongShut 46 = .ok (.aload_n 0, 1) := by decide +kernel
theorem dX7_putAmongShut_47 : decode cX7_putAmongShut 47 = .ok (.iload_n 2, 1) := by decide +kernel
theorem dX7_putAmongShut_48 : decode cX7_putAmongShut 48 = .ok (.invokevirtual 57, 3) := by decide +kernel
theorem dX7_putAmongShut_51 : decode cX7_putAmongShut 51 = .ok (.goto 9, 3) := by decide +kernel
theorem dX7_putAmongShut_54 : decode cX7_putAmongShut 54 = .ok (.aload_n 0, 1) := by decide +kernel
theorem dX7_putAmongShut_55 : decode cX7_putAmongShut 55 = .ok (.bipush 14, 2) := by decide +kernel
theorem dX7_putAmongShut_57 : decode cX7_putAmongShut 57 = .ok (.invokevirtual 53, 3) := by decide +kernel
theorem dX7_putAmongShut_60 : decode cX7_putAmongShut 60 = .ok (.ireturn, 1) := by decide +kernel
theorem dX8_init_0 : decode cX8_init 0 = .ok (.aload_n 0, 1) := by decide +kernel
theorem dX8_init_1 : decode cX8_init 1 = .ok (.invokespecial 1, 3) := by decide +kernel
theorem dX8_init_4 : decode cX8_init 4 = .ok (.aload_n 0, 1) := by decide +kernel
theorem dX8_init_5 : decode cX8_init 5 = .ok (.bipush 24, 2) := by decide +kernel
theorem dX8_init_7 : decode cX8_init 7 = .ok (.newarray .int, 2) := by decide +kernel
theorem dX8_init_9 : decode cX8_init 9 = .ok (.putfield 7, 3) := by decide +kernel
theorem dX8_init_12 : decode cX8_init 12 = .ok (.aload_n 0, 1) := by decide +kernel
theorem dX8_init_13 : decode cX8_init 13 = .ok (.bipush 24, 2) := by decide +kernel
theorem dX8_init_15 : decode cX8_init 15 = .ok (.newarray .int, 2) := by decide +kernel
theorem dX8_init_17 : decode cX8_init 17 = .ok (.putfield 13, 3) := by decide +kernel
theorem dX8_init_20 : decode cX8_init 20 = .ok (.aload_n 0, 1) := by decide +kernel
theorem dX8_init_21 : decode cX8_init 21 = .ok (.bipush 24, 2) := by decide +kernel
theorem dX8_init_23 : decode cX8_init 23 = .ok (.newarray .int, 2) := by decide +kernel
theorem dX8_init_25 : decode cX8_init 25 = .ok (.putfield 16, 3) := by decide +kernel
theorem dX8_init_28 : decode cX8_init 28 = .ok (.aload_n 0, 1) := by decide +kernel
theorem dX8_init_29 : decode cX8_init 29 = .ok (.bipush 24, 2) := by decide +kernel
theorem dX8_init_31 : decode cX8_init 31 = .ok (.newarray .int, 2) := by decide +kernel
theorem dX8_init_33 : decode cX8_init 33 = .ok (.putfield 19, 3) := by decide +kernel
theorem dX8_init_36 : decode cX8_init 36 = .ok (.aload_n 0, 1) := by decide +kernel
theorem dX8_init_37 : decode cX8_init 37 = .ok (.bipush 24, 2) := by decide +kernel
theorem dX8_init_39 : decode cX8_init 39 = .ok (.newarray .int, 2) := by decide +kernel
theorem dX8_init_41 : decode cX8_init 41 = .ok (.putfield 22, 3) := by decide +kernel
theorem dX8_init_44 : decode cX8_init 44 = .ok (.aload_n 0, 1) := by decide +kernel
theorem dX8_init_45 : decode cX8_init 45 = .ok (.bipush 24, 2) := by decide +kernel
theorem dX8_init_47 : decode cX8_init 47 = .ok (.newarray .int, 2) := by decide +kernel
theorem dX8_init_49 : decode cX8_init 49 = .ok (.putfield 25, 3) := by decide +kernel
theorem dX8_init_52 : decode cX8_init 52 = .ok (.aload_n 0, 1) := by decide +kernel
theorem dX8_init_53 : decode cX8_init 53 = .ok (.bipush 60, 2) := by decide +kernel
theorem dX8_init_55 : decode cX8_init 55 = .ok (.newarray .int, 2) := by decide +kernel
theorem dX8_init_57 : decode cX8_init 57 = .ok (.putfield 28, 3) := by decide +kernel
theorem dX8_init_60 : decode cX8_init 60 = .ok (.aload_n 0, 1) := by decide +kernel
theorem dX8_init_61 : decode cX8_init 61 = .ok (.bipush 60, 2) := by decide +kernel
theorem dX8_init_63 : decode cX8_init 63 = .ok (.newarray .int, 2) := by decide +kernel
theorem dX8_init_65 : decode cX8_init 65 = .ok (.putfield 31, 3) := by decide +kernel
theorem dX8_init_68 : decode cX8_init 68 = .ok (.aload_n 0, 1) := by decide +kernel
theorem dX8_init_69 : decode cX8_init 69 = .ok (.bipush 60, 2) := by decide +kernel
theorem dX8_init_71 : decode cX8_init 71 = .ok (.newarray .int, 2) := by decide +kernel
theorem dX8_init_73 : decode cX8_init 73 = .ok (.putfield 34, 3) := by decide +kernel
theorem dX8_init_76 : decode cX8_init 76 = .ok (.aload_n 0, 1) := by decide +kernel
theorem dX8_init_77 : decode cX8_init 77 = .ok (.bipush 60, 2) := by decide +kernel
theorem dX8_init_79 : decode cX8_init 79 = .ok (.newarray .int, 2) := by decide +kernel
theorem dX8_init_81 : decode cX8_init 81 = .ok (.putfield 37, 3) := by decide +kernel
theorem dX8_init_84 : decode cX8_init 84 = .ok (.aload_n 0, 1) := by decide +kernel
theorem dX8_init_85 : decode cX8_init 85 = .ok (.sipush 540, 3) := by decide +kernel
theorem dX8_init_88 : decode cX8_init 88 = .ok (.newarray .int, 2) := by decide +kernel
theorem dX8_init_90 : decode cX8_init 90 = .ok (.putfield 40, 3) := by decide +kernel
theorem dX8_init_93 : decode cX8_init 93 = .ok (.aload_n 0, 1) := by decide +kernel
theorem dX8_init_94 : decode cX8_init 94 = .ok (.sipush 540, 3) := by decide +kernel
theorem dX8_init_97 : decode cX8_init 97 = .ok (.newarray .int, 2) := by decide +kernel
theorem dX8_init_99 : decode cX8_init 99 = .ok (.putfield 43, 3) := by decide +kernel
theorem dX8_init_102 : decode cX8_init 102 = .ok (.aload_n 0, 1) := by decide +kernel
theorem dX8_init_103 : decode cX8_init 103 = .ok (.bipush 60, 2) := by decide +kernel
theorem dX8_init_105 : decode cX8_init 105 = .ok (.newarray .int, 2) := by decide +kernel
theorem dX8_init_107 : decode cX8_init 107 = .ok (.putfield 46, 3) := by decide +kernel
theorem dX8_init_110 : decode cX8_init 110 = .ok (.aload_n 0, 1) := by decide +kernel
theorem dX8_init_111 : decode cX8_init 111 = .ok (.bipush 60, 2) := by decide +kernel
theorem dX8_init_113 : decode cX8_init 113 = .ok (.newarray .int, 2) := by decide +kernel
theorem dX8_init_115 : decode cX8_init 115 = .ok (.putfield 49, 3) := by decide +kernel
theorem dX8_init_118 : decode cX8_init 118 = .ok (.aload_n 0, 1) := by decide +kernel
theorem dX8_init_119 : decode cX8_init 119 = .ok (.bipush 60, 2) := by decide +kernel
theorem dX8_init_121 : decode cX8_init 121 = .ok (.newarray .int, 2) := by decide +kernel
theorem dX8_init_123 : decode cX8_init 123 = .ok (.putfield 52, 3) := by decide +kernel
theorem dX8_init_126 : decode cX8_init 126 = .ok (.aload_n 0, 1) := by decide +kernel
theorem dX8_init_127 : decode cX8_init 127 = .ok (.bipush 60, 2) := by decide +kernel
theorem dX8_init_129 : decode cX8_init 129 = .ok (.newarray .int, 2) := by decide +kernel
theorem dX8_init_131 : decode cX8_init 131 = .ok (.putfield 55, 3) := by decide +kernel
theorem dX8_init_134 : decode cX8_init 134 = .ok (.aload_n 0, 1) := by decide +kernel
theorem dX8_init_135 : decode cX8_init 135 = .ok (.sipush 600, 3) := by decide +kernel
theorem dX8_init_138 : decode cX8_init 138 = .ok (.newarray .int, 2) := by decide +kernel
theorem dX8_init_140 : decode cX8_init 140 = .ok (.putfield 58, 3) := by decide +kernel
theorem dX8_init_143 : decode cX8_init 143 = .ok (.aload_n 0, 1) := by decide +kernel
theorem dX8_init_144 : decode cX8_init 144 = .ok (.bipush 8, 2) := by decide +kernel
theorem dX8_init_146 : decode cX8_init 146 = .ok (.newarray .int, 2) := by decide +kernel
theorem dX8_init_148 : decode cX8_init 148 = .ok (.putfield 61, 3) := by decide +kernel
theorem dX8_init_151 : decode cX8_init 151 = .ok (.aload_n 0, 1) := by decide +kernel
theorem dX8_init_152 : decode cX8_init 152 = .ok (.bipush 8, 2) := by decide +kernel
theorem dX8_init_154 : decode cX8_init 154 = .ok (.newarray .int, 2) := by decide +kernel
theorem dX8_init_156 : decode cX8_init 156 = .ok (.putfield 64, 3) := by decide +kernel
theorem dX8_init_159 : decode cX8_init 159 = .ok (.aload_n 0, 1) := by decide +kernel
theorem dX8_init_160 : decode cX8_init 160 = .ok (.bipush 8, 2) := by decide +kernel
theorem dX8_init_162 : decode cX8_init 162 = .ok (.newarray .int, 2) := by decide +kernel
theorem dX8_init_164 : decode cX8_init 164 = .ok (.putfield 67, 3) := by decide +kernel
theorem dX8_init_167 : decode cX8_init 167 = .ok (.aload_n 0, 1) := by decide +kernel
theorem dX8_init_168 : decode cX8_init 168 = .ok (.iconst 5, 1) := by decide +kernel
theorem dX8_init_169 : decode cX8_init 169 = .ok (.newarray .int, 2) := by decide +kernel
theorem dX8_init_171 : decode cX8_init 171 = .ok (.putfield 70, 3) := by decide +kernel
theorem dX8_init_174 : decode cX8_init 174 = .ok (.aload_n 0, 1) := by decide +kernel
theorem dX8_init_175 : decode cX8_init 175 = .ok (.sipush 2500, 3) := by decide +kernel
theorem dX8_init_178 : decode cX8_init 178 = .ok (.newarray .int, 2) := by decide +kernel
theorem dX8_init_180 : decode cX8_init 180 = .ok (.putfield 73, 3) := by decide +kernel
theorem dX8_init_183 : decode cX8_init 183 = .ok (.aload_n 0, 1) := by decide +kernel
theorem dX8_init_184 : decode cX8_init 184 = .ok (.sipush 2500, 3) := by decide +kernel
theorem dX8_init_187 : decode cX8_init 187 = .ok (.newarray .int, 2) := by decide +kernel
theorem dX8_init_189 : decode cX8_init 189 = .ok (.putfield 76, 3) := by decide +kernel
theorem dX8_init_192 : decode cX8_init 192 = .ok (.aload_n 0, 1) := by decide +kernel
theorem dX8_init_193 : decode cX8_init 193 = .ok (.bipush 8, 2) := by decide +kernel
theorem dX8_init_195 : decode cX8_init 195 = .ok (.newarray .int, 2) := by decide +kernel
theorem dX8_init_197 : decode cX8_init 197 = .ok (.putfield 79, 3) := by decide +kernel
theorem dX8_init_200 : decode cX8_init 200 = .ok (.aload_n 0, 1) := by decide +kernel
theorem dX8_init_201 : decode cX8_init 201 = .ok (.bipush 8, 2) := by decide +kernel
theorem dX8_init_203 : decode cX8_init 203 = .ok (.newarray .int, 2) := by decide +kernel
theorem dX8_init_205 : decode cX8_init 205 = .ok (.putfield 82, 3) := by decide +kernel
theorem dX8_init_208 : decode cX8_init 208 = .ok (.aload_n 0, 1) := by decide +kernel
theorem dX8_init_209 : decode cX8_init 209 = .ok (.bipush 14, 2) := by decide +kernel
theorem dX8_init_211 : decode cX8_init 211 = .ok (.newarray .int, 2) := by decide +kernel
theorem dX8_init_213 : decode cX8_init 213 = .ok (.putfield 85, 3) := by decide +kernel
theorem dX8_init_216 : decode cX8_init 216 = .ok (.aload_n 0, 1) := by decide +kernel
theorem dX8_init_217 : decode cX8_init 217 = .ok (.iconst 3, 1) := by decide +kernel
theorem dX8_init_218 : decode cX8_init 218 = .ok (.newarray .int, 2) := by decide +kernel
theorem dX8_init_220 : decode cX8_init 220 = .ok (.putfield 88, 3) := by decide +kernel
theorem dX8_init_223 : decode cX8_init 223 = .ok (.aload_n 0, 1) := by decide +kernel
theorem dX8_init_224 : decode cX8_init 224 = .ok (.iconst 3, 1) := by decide +kernel
theorem dX8_init_225 : decode cX8_init 225 = .ok (.newarray .int, 2) := by decide +kernel
theorem dX8_init_227 : decode cX8_init 227 = .ok (.putfield 91, 3) := by decide +kernel
theorem dX8_init_230 : decode cX8_init 230 = .ok (.aload_n 0, 1) := by decide +kernel
theorem dX8_init_231 : decode cX8_init 231 = .ok (.bipush 24, 2) := by decide +kernel
theorem dX8_init_233 : decode cX8_init 233 = .ok (.newarray .int, 2) := by decide +kernel
theorem dX8_init_235 : decode cX8_init 235 = .ok (.putfield 94, 3) := by decide +kernel
theorem dX8_init_238 : decode cX8_init 238 = .ok (.aload_n 0, 1) := by decide +kernel
theorem dX8_init_239 : decode cX8_init 239 = .ok (.bipush 50, 2) := by decide +kernel
theorem dX8_init_241 : decode cX8_init 241 = .ok (.newarray .int, 2) := by decide +kernel
theorem dX8_init_243 : decode cX8_init 243 = .ok (.putfield 97, 3) := by decide +kernel
theorem dX8_init_246 : decode cX8_init 246 = .ok (.aload_n 0, 1) := by decide +kernel
theorem dX8_init_247 : decode cX8_init 247 = .ok (.iconst 4, 1) := by decide +kernel
theorem dX8_init_248 : decode cX8_init 248 = .ok (.newarray .int, 2) := by decide +kernel
theorem dX8_init_250 : decode cX8_init 250 = .ok (.putfield 100, 3) := by decide +kernel
theorem dX8_init_253 : decode cX8_init 253 = .ok (.aload_n 0, 1) := by decide +kernel
theorem dX8_init_254 : decode cX8_init 254 = .ok (.iconst 4, 1) := by decide +kernel
theorem dX8_init_255 : decode cX8_init 255 = .ok (.newarray .int, 2) := by decide +kernel
theorem dX8_init_257 : decode cX8_init 257 = .ok (.putfield 103, 3) := by decide +kernel
theorem dX8_init_260 : decode cX8_init 260 = .ok (.aload_n 0, 1) := by decide +kernel
theorem dX8_init_261 : decode cX8_init 261 = .ok (.sipush 160, 3) := by decide +kernel
theorem dX8_init_264 : decode cX8_init 264 = .ok (.newarray .int, 2) := by decide +kernel
theorem dX8_init_266 : decode cX8_init 266 = .ok (.putfield 106, 3) := by decide +kernel
theorem dX8_init_269 : decode cX8_init 269 = .ok (.return_, 1) := by decide +kernel
theorem dX8_isIn_0 : decode cX8_isIn 0 = .ok (.lload_n 0, 1) := by decide +kernel
theorem dX8_isIn_1 : decode cX8_isIn 1 = .ok (.lload_n 2, 1) := by decide +kernel
theorem dX8_isIn_2 : decode cX8_isIn 2 = .ok (.lcmp, 1) := by decide +kernel
theorem dX8_isIn_3 : decode cX8_isIn 3 = .ok (.ifCond .lt 14, 3) := by decide +kernel
theorem dX8_isIn_6 : decode cX8_isIn 6 = .ok (.lload_n 0, 1) := by decide +kernel
theorem dX8_isIn_7 : decode cX8_isIn 7 = .ok (.lload 4, 2) := by decide +kernel
theorem dX8_isIn_9 : decode cX8_isIn 9 = .ok (.lcmp, 1) := by decide +kernel
theorem dX8_isIn_10 : decode cX8_isIn 10 = .ok (.ifCond .gt 7, 3) := by decide +kernel
theorem dX8_isIn_13 : decode cX8_isIn 13 = .ok (.iconst 1, 1) := by decide +kernel
theorem dX8_isIn_14 : decode cX8_isIn 14 = .ok (.goto 4, 3) := by decide +kernel
theorem dX8_isIn_17 : decode cX8_isIn 17 = .ok (.iconst 0, 1) := by decide +kernel
theorem dX8_isIn_18 : decode cX8_isIn 18 = .ok (.ireturn, 1) := by decide +kernel
theorem dX8_refused_0 : decode cX8_refused 0 = .ok (.aload_n 0, 1) := by decide +kernel
theorem dX8_refused_1 : decode cX8_refused 1 = .ok (.iload_n 1, 1) := by decide +kernel
theorem dX8_refused_2 : decode cX8_refused 2 = .ok (.putfield 109, 3) := by decide +kernel
theorem dX8_refused_5 : decode cX8_refused 5 = .ok (.iconst (-1), 1) := by decide +kernel
theorem dX8_refused_6 : decode cX8_refused 6 = .ok (.ireturn, 1) := by decide +kernel
theorem dX8_done_0 : decode cX8_done 0 = .ok (.aload_n 0, 1) := by decide +kernel
theorem dX8_done_1 : decode cX8_done 1 = .ok (.iconst 0, 1) := by decide +kernel
theorem dX8_done_2 : decode cX8_done 2 = .ok (.putfield 109, 3) := by decide +kernel
theorem dX8_done_5 : decode cX8_done 5 = .ok (.iload_n 1, 1) := by decide +kernel
theorem dX8_done_6 : decode cX8_done 6 = .ok (.ireturn, 1) := by decide +kernel
theorem dX8_isLine_0 : decode cX8_isLine 0 = .ok (.iload_n 1, 1) := by decide +kernel
theorem dX8_isLine_1 : decode cX8_isLine 1 = .ok (.ifCond .lt 17, 3) := by decide +kernel
theorem dX8_isLine_4 : decode cX8_isLine 4 = .ok (.iload_n 1, 1) := by decide +kernel
theorem dX8_isLine_5 : decode cX8_isLine 5 = .ok (.aload_n 0, 1) := by decide +kernel
theorem dX8_isLine_6 : decode cX8_isLine 6 = .ok (.getfield 70, 3) := by decide +kernel
theorem dX8_isLine_9 : decode cX8_isLine 9 = .ok (.iconst 0, 1) := by decide +kernel
theorem dX8_isLine_10 : decode cX8_isLine 10 = .ok (.iaload, 1) := by decide +kernel
theorem dX8_isLine_11 : decode cX8_isLine 11 = .ok (.if_icmp .ge 7, 3) := by decide +kernel
theorem dX8_isLine_14 : decode cX8_isLine 14 = .ok (.iconst 1, 1) := by decide +kernel
theorem dX8_isLine_15 : decode cX8_isLine 15 = .ok (.goto 4, 3) := by decide +kernel
theorem dX8_isLine_18 : decode cX8_isLine 18 = .ok (.iconst 0, 1) := by decide +kernel
theorem dX8_isLine_19 : decode cX8_isLine 19 = .ok (.ireturn, 1) := by decide +kernel
theorem dX8_isWish_0 : decode cX8_isWish 0 = .ok (.iload_n 1, 1) := by decide +kernel
theorem dX8_isWish_1 : decode cX8_isWish 1 = .ok (.ifCond .lt 17, 3) := by decide +kernel
theorem dX8_isWish_4 : decode cX8_isWish 4 = .ok (.iload_n 1, 1) := by decide +kernel
theorem dX8_isWish_5 : decode cX8_isWish 5 = .ok (.aload_n 0, 1) := by decide +kernel
theorem dX8_isWish_6 : decode cX8_isWish 6 = .ok (.getfield 70, 3) := by decide +kernel
theorem dX8_isWish_9 : decode cX8_isWish 9 = .ok (.iconst 1, 1) := by decide +kernel
theorem dX8_isWish_10 : decode cX8_isWish 10 = .ok (.iaload, 1) := by decide +kernel
theorem dX8_isWish_11 : decode cX8_isWish 11 = .ok (.if_icmp .ge 7, 3) := by decide +kernel
theorem dX8_isWish_14 : decode cX8_isWish 14 = .ok (.iconst 1, 1) := by decide +kernel
theorem dX8_isWish_15 : decode cX8_isWish 15 = .ok (.goto 4, 3) := by decide +kernel
theorem dX8_isWish_18 : decode cX8_isWish 18 = .ok (.iconst 0, 1) := by decide +kernel
theorem dX8_isWish_19 : decode cX8_isWish 19 = .ok (.ireturn, 1) := by decide +kernel
theorem dX8_isCall_0 : decode cX8_isCall 0 = .ok (.iload_n 1, 1) := by decide +kernel
theorem dX8_isCall_1 : decode cX8_isCall 1 = .ok (.ifCond .lt 17, 3) := by decide +kernel
theorem dX8_isCall_4 : decode cX8_isCall 4 = .ok (.iload_n 1, 1) := by decide +kernel
theorem dX8_isCall_5 : decode cX8_isCall 5 = .ok (.aload_n 0, 1) := by decide +kernel
theorem dX8_isCall_6 : decode cX8_isCall 6 = .ok (.getfield 70, 3) := by decide +kernel
theorem dX8_isCall_9 : decode cX8_isCall 9 = .ok (.iconst 2, 1) := by decide +kernel
theorem dX8_isCall_10 : decode cX8_isCall 10 = .ok (.iaload, 1) := by decide +kernel
theorem dX8_isCall_11 : decode cX8_isCall 11 = .ok (.if_icmp .ge 7, 3) := by decide +kernel
theorem dX8_isCall_14 : decode cX8_isCall 14 = .ok (.iconst 1, 1) := by decide +kernel
theorem dX8_isCall_15 : decode cX8_isCall 15 = .ok (.goto 4, 3) := by decide +kernel
theorem dX8_isCall_18 : decode cX8_isCall 18 = .ok (.iconst 0, 1) := by decide +kernel
theorem dX8_isCall_19 : decode cX8_isCall 19 = .ok (.ireturn, 1) := by decide +kernel
theorem dX8_line_0 : decode cX8_line 0 = .ok (.aload_n 0, 1) := by decide +kernel
theorem dX8_line_1 : decode cX8_line 1 = .ok (.getfield 70, 3) := by decide +kernel
theorem dX8_line_4 : decode cX8_line 4 = .ok (.iconst 0, 1) := by decide +kernel
theorem dX8_line_5 : decode cX8_line 5 = .ok (.iaload, 1) := by decide +kernel
theorem dX8_line_6 : decode cX8_line 6 = .ok (.bipush 8, 2) := by decide +kernel
theorem dX8_line_8 : decode cX8_line 8 = .ok (.if_icmp .ne 9, 3) := by decide +kernel
theorem dX8_line_11 : decode cX8_line 11 = .ok (.aload_n 0, 1) := by decide +kernel
theorem dX8_line_12 : decode cX8_line 12 = .ok (.iconst 2, 1) := by decide +kernel
theorem dX8_line_13 : decode cX8_line 13 = .ok (.invokevirtual 113, 3) := by decide +kernel
theorem dX8_line_16 : decode cX8_line 16 = .ok (.ireturn, 1) := by decide +kernel
theorem dX8_line_17 : decode cX8_line 17 = .ok (.aload_n 0, 1) := by decide +kernel
theorem dX8_line_18 : decode cX8_line 18 = .ok (.getfield 70, 3) := by decide +kernel
theorem dX8_line_21 : decode cX8_line 21 = .ok (.iconst 0, 1) := by decide +kernel
theorem dX8_line_22 : decode cX8_line 22 = .ok (.dup2, 1) := by decide +kernel
theorem dX8_line_23 : decode cX8_line 23 = .ok (.iaload, 1) := by decide +kernel
theorem dX8_line_24 : decode cX8_line 24 = .ok (.iconst 1, 1) := by decide +kernel
theorem dX8_line_25 : decode cX8_line 25 = .ok (.iadd, 1) := by decide +kernel
theorem dX8_line_26 : decode cX8_line 26 = .ok (.iastore, 1) := by decide +kernel
theorem dX8_line_27 : decode cX8_line 27 = .ok (.aload_n 0, 1) := by decide +kernel
theorem dX8_line_28 : decode cX8_line 28 = .ok (.aload_n 0, 1) := by decide +kernel
theorem dX8_line_29 : decode cX8_line 29 = .ok (.getfield 70, 3) := by decide +kernel
theorem dX8_line_32 : decode cX8_line 32 = .ok (.iconst 0, 1) := by decide +kernel
theorem dX8_line_33 : decode cX8_line 33 = .ok (.iaload, 1) := by decide +kernel
theorem dX8_line_34 : decode cX8_line 34 = .ok (.iconst 1, 1) := by decide +kernel
theorem dX8_line_35 : decode cX8_line 35 = .ok (.isub, 1) := by decide +kernel
theorem dX8_line_36 : decode cX8_line 36 = .ok (.invokevirtual 117, 3) := by decide +kernel
theorem dX8_line_39 : decode cX8_line 39 = .ok (.ireturn, 1) := by decide +kernel
theorem dX8_isGood_0 : decode cX8_isGood 0 = .ok (.aload_n 0, 1) := by decide +kernel
theorem dX8_isGood_1 : decode cX8_isGood 1 = .ok (.iload_n 1, 1) := by decide +kernel
theorem dX8_isGood_2 : decode cX8_isGood 2 = .ok (.invokevirtual 120, 3) := by decide +kernel
theorem dX8_isGood_5 : decode cX8_isGood 5 = .ok (.ifCond .eq 49, 3) := by decide +kernel
theorem dX8_isGood_8 : decode cX8_isGood 8 = .ok (.iload_n 2, 1) := by decide +kernel
theorem dX8_isGood_9 : decode cX8_isGood 9 = .ok (.i2l, 1) := by decide +kernel
theorem dX8_isGood_10 : decode cX8_isGood 10 = .ok (.lconst 0, 1) := by decide +kernel
theorem dX8_isGood_11 : decode cX8_isGood 11 = .ok (.ldc2_w 124, 3) := by decide +kernel
theorem dX8_isGood_14 : decode cX8_isGood 14 = .ok (.invokestatic 126, 3) := by decide +kernel
theorem dX8_isGood_17 : decode cX8_isGood 17 = .ok (.ifCond .eq 37, 3) := by decide +kernel
theorem dX8_isGood_20 : decode cX8_isGood 20 = .ok (.iload_n 3, 1) := by decide +kernel
theorem dX8_isGood_21 : decode cX8_isGood 21 = .ok (.i2l, 1) := by decide +kernel
theorem dX8_isGood_22 : decode cX8_isGood 22 = .ok (.lconst 0, 1) := by decide +kernel
theorem dX8_isGood_23 : decode cX8_isGood 23 = .ok (.ldc2_w 130, 3) := by decide +kernel
theorem dX8_isGood_26 : decode cX8_isGood 26 = .ok (.invokestatic 126, 3) := by decide +kernel
theorem dX8_isGood_29 : decode cX8_isGood 29 = .ok (.ifCond .eq 25, 3) := by decide +kernel
theorem dX8_isGood_32 : decode cX8_isGood 32 = .ok (.aload_n 0, 1) := by decide +kernel
theorem dX8_isGood_33 : decode cX8_isGood 33 = .ok (.iload 4, 2) := by decide +kernel
theorem dX8_isGood_35 : decode cX8_isGood 35 = .ok (.invokevirtual 120, 3) := by decide +kernel
theorem dX8_isGood_38 : decode cX8_isGood 38 = .ok (.ifCond .eq 16, 3) := by decide +kernel
theorem dX8_isGood_41 : decode cX8_isGood 41 = .ok (.iload 5, 2) := by decide +kernel
theorem dX8_isGood_43 : decode cX8_isGood 43 = .ok (.i2l, 1) := by decide +kernel
theorem dX8_isGood_44 : decode cX8_isGood 44 = .ok (.lconst 0, 1) := by decide +kernel
theorem dX8_isGood_45 : decode cX8_isGood 45 = .ok (.ldc2_w 132, 3) := by decide +kernel
theorem dX8_isGood_48 : decode cX8_isGood 48 = .ok (.invokestatic 126, 3) := by decide +kernel
theorem dX8_isGood_51 : decode cX8_isGood 51 = .ok (.ifCond .ne 5, 3) := by decide +kernel
theorem dX8_isGood_54 : decode cX8_isGood 54 = .ok (.iconst 0, 1) := by decide +kernel
theorem dX8_isGood_55 : decode cX8_isGood 55 = .ok (.ireturn, 1) := by decide +kernel
theorem dX8_isGood_56 : decode cX8_isGood 56 = .ok (.iload_n 2, 1) := by decide +kernel
theorem dX8_isGood_57 : decode cX8_isGood 57 = .ok (.iconst 1, 1) := by decide +kernel
theorem dX8_isGood_58 : decode cX8_isGood 58 = .ok (.if_icmp .ne 16, 3) := by decide +kernel
theorem dX8_isGood_61 : decode cX8_isGood 61 = .ok (.iload 5, 2) := by decide +kernel
theorem dX8_isGood_63 : decode cX8_isGood 63 = .ok (.bipush 11, 2) := by decide +kernel
theorem dX8_isGood_65 : decode cX8_isGood 65 = .ok (.if_icmp .gt 13, 3) := by decide +kernel
theorem dX8_isGood_68 : decode cX8_isGood 68 = .ok (.iload 5, 2) := by decide +kernel
theorem dX8_isGood_70 : decode cX8_isGood 70 = .ok (.iconst 2, 1) := by decide +kernel
theorem dX8_isGood_71 : decode cX8_isGood 71 = .ok (.if_icmp .eq 7, 3) := by decide +kernel
theorem dX8_isGood_74 : decode cX8_isGood 74 = .ok (.iconst 1, 1) := by decide +kernel
theorem dX8_isGood_75 : decode cX8_isGood 75 = .ok (.goto 4, 3) := by decide +kernel
theorem dX8_isGood_78 : decode cX8_isGood 78 = .ok (.iconst 0, 1) := by decide +kernel
theorem dX8_isGood_79 : decode cX8_isGood 79 = .ok (.ireturn, 1) := by decide +kernel
theorem dX8_adds_0 : decode cX8_adds 0 = .ok (.aload_n 0, 1) := by decide +kernel
theorem dX8_adds_1 : decode cX8_adds 1 = .ok (.getfield 70, 3) := by decide +kernel
theorem dX8_adds_4 : decode cX8_adds 4 = .ok (.iconst 1, 1) := by decide +kernel
theorem dX8_adds_5 : decode cX8_adds 5 = .ok (.iaload, 1) := by decide +kernel
theorem dX8_adds_6 : decode cX8_adds 6 = .ok (.istore 6, 2) := by decide +kernel
theorem dX8_adds_8 : decode cX8_adds 8 = .ok (.aload_n 0, 1) := by decide +kernel
theorem dX8_adds_9 : decode cX8_adds 9 = .ok (.getfield 70, 3) := by decide +kernel
theorem dX8_adds_12 : decode cX8_adds 12 = .ok (.iconst 1, 1) := by decide +kernel
theorem dX8_adds_13 : decode cX8_adds 13 = .ok (.dup2, 1) := by decide +kernel
theorem dX8_adds_14 : decode cX8_adds 14 = .ok (.iaload, 1) := by decide +kernel
theorem dX8_adds_15 : decode cX8_adds 15 = .ok (.iconst 1, 1) := by decide +kernel
theorem dX8_adds_16 : decode cX8_adds 16 = .ok (.iadd, 1) := by decide +kernel
theorem dX8_adds_17 : decode cX8_adds 17 = .ok (.iastore, 1) := by decide +kernel
theorem dX8_adds_18 : decode cX8_adds 18 = .ok (.aload_n 0, 1) := by decide +kernel
theorem dX8_adds_19 : decode cX8_adds 19 = .ok (.getfield 7, 3) := by decide +kernel
theorem dX8_adds_22 : decode cX8_adds 22 = .ok (.iload 6, 2) := by decide +kernel
theorem dX8_adds_24 : decode cX8_adds 24 = .ok (.iload_n 1, 1) := by decide +kernel
theorem dX8_adds_25 : decode cX8_adds 25 = .ok (.iastore, 1) := by decide +kernel
theorem dX8_adds_26 : decode cX8_adds 26 = .ok (.aload_n 0, 1) := by decide +kernel
theorem dX8_adds_27 : decode cX8_adds 27 = .ok (.getfield 13, 3) := by decide +kernel
theorem dX8_adds_30 : decode cX8_adds 30 = .ok (.iload 6, 2) := by decide +kernel
theorem dX8_adds_32 : decode cX8_adds 32 = .ok (.iload_n 2, 1) := by decide +kernel
theorem dX8_adds_33 : decode cX8_adds 33 = .ok (.iastore, 1) := by decide +kernel
theorem dX8_adds_34 : decode cX8_adds 34 = .ok (.aload_n 0, 1) := by decide +kernel
theorem dX8_adds_35 : decode cX8_adds 35 = .ok (.getfield 16, 3) := by decide +kernel
theorem dX8_adds_38 : decode cX8_adds 38 = .ok (.iload 6, 2) := by decide +kernel
theorem dX8_adds_40 : decode cX8_adds 40 = .ok (.iload_n 3, 1) := by decide +kernel
theorem dX8_adds_41 : decode cX8_adds 41 = .ok (.iastore, 1) := by decide +kernel
theorem dX8_adds_42 : decode cX8_adds 42 = .ok (.aload_n 0, 1) := by decide +kernel
theorem dX8_adds_43 : decode cX8_adds 43 = .ok (.getfield 19, 3) := by decide +kernel
theorem dX8_adds_46 : decode cX8_adds 46 = .ok (.iload 6, 2) := by decide +kernel
theorem dX8_adds_48 : decode cX8_adds 48 = .ok (.iload 4, 2) := by decide +kernel
theorem dX8_adds_50 : decode cX8_adds 50 = .ok (.iastore, 1) := by decide +kernel
theorem dX8_adds_51 : decode cX8_adds 51 = .ok (.aload_n 0, 1) := by decide +kernel
theorem dX8_adds_52 : decode cX8_adds 52 = .ok (.getfield 22, 3) := by decide +kernel
theorem dX8_adds_55 : decode cX8_adds 55 = .ok (.iload 6, 2) := by decide +kernel
theorem dX8_adds_57 : decode cX8_adds 57 = .ok (.iload 5, 2) := by decide +kernel
theorem dX8_adds_59 : decode cX8_adds 59 = .ok (.iastore, 1) := by decide +kernel
theorem dX8_adds_60 : decode cX8_adds 60 = .ok (.aload_n 0, 1) := by decide +kernel
theorem dX8_adds_61 : decode cX8_adds 61 = .ok (.getfield 25, 3) := by decide +kernel
theorem dX8_adds_64 : decode cX8_adds 64 = .ok (.iload 6, 2) := by decide +kernel
theorem dX8_adds_66 : decode cX8_adds 66 = .ok (.iconst 1, 1) := by decide +kernel
theorem dX8_adds_67 : decode cX8_adds 67 = .ok (.iastore, 1) := by decide +kernel
theorem dX8_adds_68 : decode cX8_adds 68 = .ok (.aload_n 0, 1) := by decide +kernel
theorem dX8_adds_69 : decode cX8_adds 69 = .ok (.iload 6, 2) := by decide +kernel
theorem dX8_adds_71 : decode cX8_adds 71 = .ok (.invokevirtual 117, 3) := by decide +kernel
theorem dX8_adds_74 : decode cX8_adds 74 = .ok (.ireturn, 1) := by decide +kernel
theorem dX8_wish_0 : decode cX8_wish 0 = .ok (.aload_n 0, 1) := by decide +kernel
theorem dX8_wish_1 : decode cX8_wish 1 = .ok (.iload_n 1, 1) := by decide +kernel
theorem dX8_wish_2 : decode cX8_wish 2 = .ok (.iload_n 2, 1) := by decide +kernel
theorem dX8_wish_3 : decode cX8_wish 3 = .ok (.iload_n 3, 1) := by decide +kernel
theorem dX8_wish_4 : decode cX8_wish 4 = .ok (.iload 4, 2) := by decide +kernel
theorem dX8_wish_6 : decode cX8_wish 6 = .ok (.iload 5, 2) := by decide +kernel
theorem dX8_wish_8 : decode cX8_wish 8 = .ok (.invokevirtual 134, 3) := by decide +kernel
theorem dX8_wish_11 : decode cX8_wish 11 = .ok (.ifCond .ne 9, 3) := by decide +kernel
theorem dX8_wish_14 : decode cX8_wish 14 = .ok (.aload_n 0, 1) := by decide +kernel
theorem dX8_wish_15 : decode cX8_wish 15 = .ok (.iconst 1, 1) := by decide +kernel
theorem dX8_wish_16 : decode cX8_wish 16 = .ok (.invokevirtual 113, 3) := by decide +kernel
theorem dX8_wish_19 : decode cX8_wish 19 = .ok (.ireturn, 1) := by decide +kernel
theorem dX8_wish_20 : decode cX8_wish 20 = .ok (.aload_n 0, 1) := by decide +kernel
theorem dX8_wish_21 : decode cX8_wish 21 = .ok (.getfield 70, 3) := by decide +kernel
theorem dX8_wish_24 : decode cX8_wish 24 = .ok (.iconst 1, 1) := by decide +kernel
theorem dX8_wish_25 : decode cX8_wish 25 = .ok (.iaload, 1) := by decide +kernel
theorem dX8_wish_26 : decode cX8_wish 26 = .ok (.bipush 24, 2) := by decide +kernel
theorem dX8_wish_28 : decode cX8_wish 28 = .ok (.if_icmp .ne 9, 3) := by decide +kernel
theorem dX8_wish_31 : decode cX8_wish 31 = .ok (.aload_n 0, 1) := by decide +kernel
theorem dX8_wish_32 : decode cX8_wish 32 = .ok (.iconst 2, 1) := by decide +kernel
theorem dX8_wish_33 : decode cX8_wish 33 = .ok (.invokevirtual 113, 3) := by decide +kernel
theorem dX8_wish_36 : decode cX8_wish 36 = .ok (.ireturn, 1) := by decide +kernel
theorem dX8_wish_37 : decode cX8_wish 37 = .ok (.aload_n 0, 1) := by decide +kernel
theorem dX8_wish_38 : decode cX8_wish 38 = .ok (.iload_n 1, 1) := by decide +kernel
theorem dX8_wish_39 : decode cX8_wish 39 = .ok (.iload_n 2, 1) := by decide +kernel
theorem dX8_wish_40 : decode cX8_wish 40 = .ok (.iload_n 3, 1) := by decide +kernel
theorem dX8_wish_41 : decode cX8_wish 41 = .ok (.iload 4, 2) := by decide +kernel
theorem dX8_wish_43 : decode cX8_wish 43 = .ok (.iload 5, 2) := by decide +kernel
theorem dX8_wish_45 : decode cX8_wish 45 = .ok (.invokevirtual 138, 3) := by decide +kernel
theorem dX8_wish_48 : decode cX8_wish 48 = .ok (.ireturn, 1) := by decide +kernel
theorem dX8_on_0 : decode cX8_on 0 = .ok (.aload_n 0, 1) := by decide +kernel
theorem dX8_on_1 : decode cX8_on 1 = .ok (.iload_n 1, 1) := by decide +kernel
theorem dX8_on_2 : decode cX8_on 2 = .ok (.invokevirtual 142, 3) := by decide +kernel
theorem dX8_on_5 : decode cX8_on 5 = .ok (.ifCond .ne 9, 3) := by decide +kernel
theorem dX8_on_8 : decode cX8_on 8 = .ok (.aload_n 0, 1) := by decide +kernel
theorem dX8_on_9 : decode cX8_on 9 = .ok (.iconst 1, 1) := by decide +kernel
theorem dX8_on_10 : decode cX8_on 10 = .ok (.invokevirtual 113, 3) := by decide +kernel
theorem dX8_on_13 : decode cX8_on 13 = .ok (.ireturn, 1) := by decide +kernel
theorem dX8_on_14 : decode cX8_on 14 = .ok (.aload_n 0, 1) := by decide +kernel
theorem dX8_on_15 : decode cX8_on 15 = .ok (.getfield 25, 3) := by decide +kernel
theorem dX8_on_18 : decode cX8_on 18 = .ok (.iload_n 1, 1) := by decide +kernel
theorem dX8_on_19 : decode cX8_on 19 = .ok (.iaload, 1) := by decide +kernel
theorem dX8_on_20 : decode cX8_on 20 = .ok (.istore_n 3, 1) := by decide +kernel
theorem dX8_on_21 : decode cX8_on 21 = .ok (.aload_n 0, 1) := by decide +kernel
theorem dX8_on_22 : decode cX8_on 22 = .ok (.getfield 25, 3) := by decide +kernel
theorem dX8_on_25 : decode cX8_on 25 = .ok (.iload_n 1, 1) := by decide +kernel
theorem dX8_on_26 : decode cX8_on 26 = .ok (.iload_n 2, 1) := by decide +kernel
theorem dX8_on_27 : decode cX8_on 27 = .ok (.ifCond .eq 7, 3) := by decide +kernel
theorem dX8_on_30 : decode cX8_on 30 = .ok (.iconst 1, 1) := by decide +kernel
theorem dX8_on_31 : decode cX8_on 31 = .ok (.goto 4, 3) := by decide +kernel
theorem dX8_on_34 : decode cX8_on 34 = .ok (.iconst 0, 1) := by decide +kernel
theorem dX8_on_35 : decode cX8_on 35 = .ok (.iastore, 1) := by decide +kernel
theorem dX8_on_36 : decode cX8_on 36 = .ok (.aload_n 0, 1) := by decide +kernel
theorem dX8_on_37 : decode cX8_on 37 = .ok (.iload_n 3, 1) := by decide +kernel
theorem dX8_on_38 : decode cX8_on 38 = .ok (.aload_n 0, 1) := by decide +kernel
theorem dX8_on_39 : decode cX8_on 39 = .ok (.getfield 25, 3) := by decide +kernel
theorem dX8_on_42 : decode cX8_on 42 = .ok (.iload_n 1, 1) := by decide +kernel
theorem dX8_on_43 : decode cX8_on 43 = .ok (.iaload, 1) := by decide +kernel
theorem dX8_on_44 : decode cX8_on 44 = .ok (.if_icmp .ne 7, 3) := by decide +kernel
theorem dX8_on_47 : decode cX8_on 47 = .ok (.iconst 0, 1) := by decide +kernel
theorem dX8_on_48 : decode cX8_on 48 = .ok (.goto 4, 3) := by decide +kernel
theorem dX8_on_51 : decode cX8_on 51 = .ok (.iconst 1, 1) := by decide +kernel
theorem dX8_on_52 : decode cX8_on 52 = .ok (.invokevirtual 117, 3) := by decide +kernel
theorem dX8_on_55 : decode cX8_on 55 = .ok (.ireturn, 1) := by decide +kernel
theorem dX8_rank_0 : decode cX8_rank 0 = .ok (.aload_n 0, 1) := by decide +kernel
theorem dX8_rank_1 : decode cX8_rank 1 = .ok (.iload_n 1, 1) := by decide +kernel
theorem dX8_rank_2 : decode cX8_rank 2 = .ok (.invokevirtual 142, 3) := by decide +kernel
theorem dX8_rank_5 : decode cX8_rank 5 = .ok (.ifCond .eq 15, 3) := by decide +kernel
theorem dX8_rank_8 : decode cX8_rank 8 = .ok (.iload_n 2, 1) := by decide +kernel
theorem dX8_rank_9 : decode cX8_rank 9 = .ok (.i2l, 1) := by decide +kernel
theorem dX8_rank_10 : decode cX8_rank 10 = .ok (.lconst 0, 1) := by decide +kernel
theorem dX8_rank_11 : decode cX8_rank 11 = .ok (.ldc2_w 130, 3) := by decide +kernel
theorem dX8_rank_14 : decode cX8_rank 14 = .ok (.invokestatic 126, 3) := by decide +kernel
theorem dX8_rank_17 : decode cX8_rank 17 = .ok (.ifCond .ne 9, 3) := by decide +kernel
theorem dX8_rank_20 : decode cX8_rank 20 = .ok (.aload_n 0, 1) := by decide +kernel
theorem dX8_rank_21 : decode cX8_rank 21 = .ok (.iconst 1, 1) := by decide +kernel
theorem dX8_rank_22 : decode cX8_rank 22 = .ok (.invokevirtual 113, 3) := by decide +kernel
theorem dX8_rank_25 : decode cX8_rank 25 = .ok (.ireturn, 1) := by decide +kernel
theorem dX8_rank_26 : decode cX8_rank 26 = .ok (.aload_n 0, 1) := by decide +kernel
theorem dX8_rank_27 : decode cX8_rank 27 = .ok (.getfield 16, 3) := by decide +kernel
theorem dX8_rank_30 : decode cX8_rank 30 = .ok (.iload_n 1, 1) := by decide +kernel
theorem dX8_rank_31 : decode cX8_rank 31 = .ok (.iaload, 1) := by decide +kernel
theorem dX8_rank_32 : decode cX8_rank 32 = .ok (.istore_n 3, 1) := by decide +kernel
theorem dX8_rank_33 : decode cX8_rank 33 = .ok (.aload_n 0, 1) := by decide +kernel
theorem dX8_rank_34 : decode cX8_rank 34 = .ok (.getfield 16, 3) := by decide +kernel
theorem dX8_rank_37 : decode cX8_rank 37 = .ok (.iload_n 1, 1) := by decide +kernel
theorem dX8_rank_38 : decode cX8_rank 38 = .ok (.iload_n 2, 1) := by decide +kernel
theorem dX8_rank_39 : decode cX8_rank 39 = .ok (.iastore, 1) := by decide +kernel
theorem dX8_rank_40 : decode cX8_rank 40 = .ok (.aload_n 0, 1) := by decide +kernel
theorem dX8_rank_41 : decode cX8_rank 41 = .ok (.iload_n 3, 1) := by decide +kernel
theorem dX8_rank_42 : decode cX8_rank 42 = .ok (.invokevirtual 117, 3) := by decide +kernel
theorem dX8_rank_45 : decode cX8_rank 45 = .ok (.ireturn, 1) := by decide +kernel
theorem dX8_wishBehind_0 : decode cX8_wishBehind 0 = .ok (.iconst (-1), 1) := by decide +kernel
theorem dX8_wishBehind_1 : decode cX8_wishBehind 1 = .ok (.istore_n 3, 1) := by decide +kernel
theorem dX8_wishBehind_2 : decode cX8_wishBehind 2 = .ok (.iconst 0, 1) := by decide +kernel
theorem dX8_wishBehind_3 : decode cX8_wishBehind 3 = .ok (.istore 4, 2) := by decide +kernel
theorem dX8_wishBehind_5 : decode cX8_wishBehind 5 = .ok (.iload 4, 2) := by decide +kernel
theorem dX8_wishBehind_7 : decode cX8_wishBehind 7 = .ok (.aload_n 0, 1) := by decide +kernel
theorem dX8_wishBehind_8 : decode cX8_wishBehind 8 = .ok (.getfield 70, 3) := by decide +kernel
theorem dX8_wishBehind_11 : decode cX8_wishBehind 11 = .ok (.iconst 1, 1) := by decide +kernel
theorem dX8_wishBehind_12 : decode cX8_wishBehind 12 = .ok (.iaload, 1) := by decide +kernel
theorem dX8_wishBehind_13 : decode cX8_wishBehind 13 = .ok (.if_icmp .ge 110, 3) := by decide +kernel
theorem dX8_wishBehind_16 : decode cX8_wishBehind 16 = .ok (.aload_n 0, 1) := by decide +kernel
theorem dX8_wishBehind_17 : decode cX8_wishBehind 17 = .ok (.getfield 7, 3) := by decide +kernel
theorem dX8_wishBehind_20 : decode cX8_wishBehind 20 = .ok (.iload 4, 2) := by decide +kernel
theorem dX8_wishBehind_22 : decode cX8_wishBehind 22 = .ok (.iaload, 1) := by decide +kernel
theorem dX8_wishBehind_23 : decode cX8_wishBehind 23 = .ok (.iload_n 1, 1) := by decide +kernel
theorem dX8_wishBehind_24 : decode cX8_wishBehind 24 = .ok (.if_icmp .ne 93, 3) := by decide +kernel
theorem dX8_wishBehind_27 : decode cX8_wishBehind 27 = .ok (.aload_n 0, 1) := by decide +kernel
theorem dX8_wishBehind_28 : decode cX8_wishBehind 28 = .ok (.getfield 25, 3) := by decide +kernel
theorem dX8_wishBehind_31 : decode cX8_wishBehind 31 = .ok (.iload 4, 2) := by decide +kernel
theorem dX8_wishBehind_33 : decode cX8_wishBehind 33 = .ok (.iaload, 1) := by decide +kernel
theorem dX8_wishBehind_34 : decode cX8_wishBehind 34 = .ok (.ifCond .ne 6, 3) := by decide +kernel
theorem dX8_wishBehind_37 : decode cX8_wishBehind 37 = .ok (.goto 80, 3) := by decide +kernel
theorem dX8_wishBehind_40 : decode cX8_wishBehind 40 = .ok (.iload_n 2, 1) := by decide +kernel
theorem dX8_wishBehind_41 : decode cX8_wishBehind 41 = .ok (.ifCond .lt 41, 3) := by decide +kernel
theorem dX8_wishBehind_44 : decode cX8_wishBehind 44 = .ok (.aload_n 0, 1) := by decide +kernel
theorem dX8_wishBehind_45 : decode cX8_wishBehind 45 = .ok (.getfield 16, 3) := by decide +kernel
theorem dX8_wishBehind_48 : decode cX8_wishBehind 48 = .ok (.iload 4, 2) := by decide +kernel
theorem dX8_wishBehind_50 : decode cX8_wishBehind 50 = .ok (.iaload, 1) := by decide +kernel
theorem dX8_wishBehind_51 : decode cX8_wishBehind 51 = .ok (.aload_n 0, 1) := by decide +kernel
theorem dX8_wishBehind_52 : decode cX8_wishBehind 52 = .ok (.getfield 16, 3) := by decide +kernel
theorem dX8_wishBehind_55 : decode cX8_wishBehind 55 = .ok (.iload_n 2, 1) := by decide +kernel
theorem dX8_wishBehind_56 : decode cX8_wishBehind 56 = .ok (.iaload, 1) := by decide +kernel
theorem dX8_wishBehind_57 : decode cX8_wishBehind 57 = .ok (.if_icmp .gt 25, 3) := by decide +kernel
theorem dX8_wishBehind_60 : decode cX8_wishBehind 60 = .ok (.aload_n 0, 1) := by decide +kernel
theorem dX8_wishBehind_61 : decode cX8_wishBehind 61 = .ok (.getfield 16, 3) := by decide +kernel
theorem dX8_wishBehind_64 : decode cX8_wishBehind 64 = .ok (.iload 4, 2) := by decide +kernel
theorem dX8_wishBehind_66 : decode cX8_wishBehind 66 = .ok (.iaload, 1) := by decide +kernel
theorem dX8_wishBehind_67 : decode cX8_wishBehind 67 = .ok (.aload_n 0, 1) := by decide +kernel
theorem dX8_wishBehind_68 : decode cX8_wishBehind 68 = .ok (.getfield 16, 3) := by decide +kernel
theorem dX8_wishBehind_71 : decode cX8_wishBehind 71 = .ok (.iload_n 2, 1) := by decide +kernel
theorem dX8_wishBehind_72 : decode cX8_wishBehind 72 = .ok (.iaload, 1) := by decide +kernel
theorem dX8_wishBehind_73 : decode cX8_wishBehind 73 = .ok (.if_icmp .ne 13, 3) := by decide +kernel
theorem dX8_wishBehind_76 : decode cX8_wishBehind 76 = .ok (.iload 4, 2) := by decide +kernel
theorem dX8_wishBehind_78 : decode cX8_wishBehind 78 = .ok (.iload_n 2, 1) := by decide +kernel
theorem dX8_wishBehind_79 : decode cX8_wishBehind 79 = .ok (.if_icmp .le 7, 3) := by decide +kernel
theorem dX8_wishBehind_82 : decode cX8_wishBehind 82 = .ok (.iconst 1, 1) := by decide +kernel
theorem dX8_wishBehind_83 : decode cX8_wishBehind 83 = .ok (.goto 4, 3) := by decide +kernel
theorem dX8_wishBehind_86 : decode cX8_wishBehind 86 = .ok (.iconst 0, 1) := by decide +kernel
theorem dX8_wishBehind_87 : decode cX8_wishBehind 87 = .ok (.istore 5, 2) := by decide +kernel
theorem dX8_wishBehind_89 : decode cX8_wishBehind 89 = .ok (.iload 5, 2) := by decide +kernel
theorem dX8_wishBehind_91 : decode cX8_wishBehind 91 = .ok (.ifCond .eq 26, 3) := by decide +kernel
theorem dX8_wishBehind_94 : decode cX8_wishBehind 94 = .ok (.iload_n 3, 1) := by decide +kernel
theorem dX8_wishBehind_95 : decode cX8_wishBehind 95 = .ok (.ifCond .lt 19, 3) := by decide +kernel
theorem dX8_wishBehind_98 : decode cX8_wishBehind 98 = .ok (.aload_n 0, 1) := by decide +kernel
theorem dX8_wishBehind_99 : decode cX8_wishBehind 99 = .ok (.getfield 16, 3) := by decide +kernel
theorem dX8_wishBehind_102 : decode cX8_wishBehind 102 = .ok (.iload 4, 2) := by decide +kernel
theorem dX8_wishBehind_104 : decode cX8_wishBehind 104 = .ok (.iaload, 1) := by decide +kernel
theorem dX8_wishBehind_105 : decode cX8_wishBehind 105 = .ok (.aload_n 0, 1) := by decide +kernel
theorem dX8_wishBehind_106 : decode cX8_wishBehind 106 = .ok (.getfield 16, 3) := by decide +kernel
theorem dX8_wishBehind_109 : decode cX8_wishBehind 109 = .ok (.iload_n 3, 1) := by decide +kernel
theorem dX8_wishBehind_110 : decode cX8_wishBehind 110 = .ok (.iaload, 1) := by decide +kernel
theorem dX8_wishBehind_111 : decode cX8_wishBehind 111 = .ok (.if_icmp .ge 6, 3) := by decide +kernel
theorem dX8_wishBehind_114 : decode cX8_wishBehind 114 = .ok (.iload 4, 2) := by decide +kernel
theorem dX8_wishBehind_116 : decode cX8_wishBehind 116 = .ok (.istore_n 3, 1) := by decide +kernel
theorem dX8_wishBehind_117 : decode cX8_wishBehind 117 = .ok (.iinc 4 1, 3) := by decide +kernel
theorem dX8_wishBehind_120 : decode cX8_wishBehind 120 = .ok (.goto (-115), 3) := by decide +kernel
theorem dX8_wishBehind_123 : decode cX8_wishBehind 123 = .ok (.iload_n 3, 1) := by decide +kernel
theorem dX8_wishBehind_124 : decode cX8_wishBehind 124 = .ok (.ireturn, 1) := by decide +kernel
theorem dX8_has_0 : decode cX8_has 0 = .ok (.iconst 0, 1) := by decide +kernel
theorem dX8_has_1 : decode cX8_has 1 = .ok (.istore_n 3, 1) := by decide +kernel
theorem dX8_has_2 : decode cX8_has 2 = .ok (.iconst 0, 1) := by decide +kernel
theorem dX8_has_3 : decode cX8_has 3 = .ok (.istore 4, 2) := by decide +kernel
theorem dX8_has_5 : decode cX8_has 5 = .ok (.iload 4, 2) := by decide +kernel
theorem dX8_has_7 : decode cX8_has 7 = .ok (.aload_n 0, 1) := by decide +kernel
theorem dX8_has_8 : decode cX8_has 8 = .ok (.getfield 70, 3) := by decide +kernel
theorem dX8_has_11 : decode cX8_has 11 = .ok (.iconst 1, 1) := by decide +kernel
theorem dX8_has_12 : decode cX8_has 12 = .ok (.iaload, 1) := by decide +kernel
theorem dX8_has_13 : decode cX8_has 13 = .ok (.if_icmp .ge 52, 3) := by decide +kernel
theorem dX8_has_16 : decode cX8_has 16 = .ok (.iload_n 3, 1) := by decide +kernel
theorem dX8_has_17 : decode cX8_has 17 = .ok (.ifCond .ne 36, 3) := by decide +kernel
theorem dX8_has_20 : decode cX8_has 20 = .ok (.aload_n 0, 1) := by decide +kernel
theorem dX8_has_21 : decode cX8_has 21 = .ok (.getfield 7, 3) := by decide +kernel
theorem dX8_has_24 : decode cX8_has 24 = .ok (.iload 4, 2) := by decide +kernel
theorem dX8_has_26 : decode cX8_has 26 = .ok (.iaload, 1) := by decide +kernel
theorem dX8_has_27 : decode cX8_has 27 = .ok (.iload_n 1, 1) := by decide +kernel
theorem dX8_has_28 : decode cX8_has 28 = .ok (.if_icmp .ne 29, 3) := by decide +kernel
theorem dX8_has_31 : decode cX8_has 31 = .ok (.aload_n 0, 1) := by decide +kernel
theorem dX8_has_32 : decode cX8_has 32 = .ok (.getfield 13, 3) := by decide +kernel
theorem dX8_has_35 : decode cX8_has 35 = .ok (.iload 4, 2) := by decide +kernel
theorem dX8_has_37 : decode cX8_has 37 = .ok (.iaload, 1) := by decide +kernel
theorem dX8_has_38 : decode cX8_has 38 = .ok (.iload_n 2, 1) := by decide +kernel
theorem dX8_has_39 : decode cX8_has 39 = .ok (.if_icmp .ne 18, 3) := by decide +kernel
theorem dX8_has_42 : decode cX8_has 42 = .ok (.aload_n 0, 1) := by decide +kernel
theorem dX8_has_43 : decode cX8_has 43 = .ok (.getfield 25, 3) := by decide +kernel
theorem dX8_has_46 : decode cX8_has 46 = .ok (.iload 4, 2) := by decide +kernel
theorem dX8_has_48 : decode cX8_has 48 = .ok (.iaload, 1) := by decide +kernel
theorem dX8_has_49 : decode cX8_has 49 = .ok (.iconst 1, 1) := by decide +kernel
theorem dX8_has_50 : decode cX8_has 50 = .ok (.if_icmp .ne 7, 3) := by decide +kernel
theorem dX8_has_53 : decode cX8_has 53 = .ok (.iconst 1, 1) := by decide +kernel
theorem dX8_has_54 : decode cX8_has 54 = .ok (.goto 4, 3) := by decide +kernel
theorem dX8_has_57 : decode cX8_has 57 = .ok (.iconst 0, 1) := by decide +kernel
theorem dX8_has_58 : decode cX8_has 58 = .ok (.istore_n 3, 1) := by decide +kernel
theorem dX8_has_59 : decode cX8_has 59 = .ok (.iinc 4 1, 3) := by decide +kernel
theorem dX8_has_62 : decode cX8_has 62 = .ok (.goto (-57), 3) := by decide +kernel
theorem dX8_has_65 : decode cX8_has 65 = .ok (.iload_n 3, 1) := by decide +kernel
theorem dX8_has_66 : decode cX8_has 66 = .ok (.ireturn, 1) := by decide +kernel
theorem dX8_callOf_0 : decode cX8_callOf 0 = .ok (.iconst 0, 1) := by decide +kernel
theorem dX8_callOf_1 : decode cX8_callOf 1 = .ok (.istore_n 2, 1) := by decide +kernel
theorem dX8_callOf_2 : decode cX8_callOf 2 = .ok (.iload_n 2, 1) := by decide +kernel
theorem dX8_callOf_3 : decode cX8_callOf 3 = .ok (.aload_n 0, 1) := by decide +kernel
theorem dX8_callOf_4 : decode cX8_callOf 4 = .ok (.getfield 70, 3) := by decide +kernel
theorem dX8_callOf_7 : decode cX8_callOf 7 = .ok (.iconst 2, 1) := by decide +kernel
theorem dX8_callOf_8 : decode cX8_callOf 8 = .ok (.iaload, 1) := by decide +kernel
theorem dX8_callOf_9 : decode cX8_callOf 9 = .ok (.if_icmp .ge 68, 3) := by decide +kernel
theorem dX8_callOf_12 : decode cX8_callOf 12 = .ok (.aload_n 0, 1) := by decide +kernel
theorem dX8_callOf_13 : decode cX8_callOf 13 = .ok (.getfield 31, 3) := by decide +kernel
theorem dX8_callOf_16 : decode cX8_callOf 16 = .ok (.iload_n 2, 1) := by decide +kernel
theorem dX8_callOf_17 : decode cX8_callOf 17 = .ok (.iaload, 1) := by decide +kernel
theorem dX8_callOf_18 : decode cX8_callOf 18 = .ok (.iconst 3, 1) := by decide +kernel
theorem dX8_callOf_19 : decode cX8_callOf 19 = .ok (.if_icmp .ne 6, 3) := by decide +kernel
theorem dX8_callOf_22 : decode cX8_callOf 22 = .ok (.goto 49, 3) := by decide +kernel
theorem dX8_callOf_25 : decode cX8_callOf 25 = .ok (.aload_n 0, 1) := by decide +kernel
theorem dX8_callOf_26 : decode cX8_callOf 26 = .ok (.getfield 28, 3) := by decide +kernel
theorem dX8_callOf_29 : decode cX8_callOf 29 = .ok (.iload_n 2, 1) := by decide +kernel
theorem dX8_callOf_30 : decode cX8_callOf 30 = .ok (.iaload, 1) := by decide +kernel
theorem dX8_callOf_31 : decode cX8_callOf 31 = .ok (.iload_n 1, 1) := by decide +kernel
theorem dX8_callOf_32 : decode cX8_callOf 32 = .ok (.if_icmp .eq 37, 3) := by decide +kernel
theorem dX8_callOf_35 : decode cX8_callOf 35 = .ok (.aload_n 0, 1) := by decide +kernel
theorem dX8_callOf_36 : decode cX8_callOf 36 = .ok (.getfield 46, 3) := by decide +kernel
theorem dX8_callOf_39 : decode cX8_callOf 39 = .ok (.iload_n 2, 1) := by decide +kernel
theorem dX8_callOf_40 : decode cX8_callOf 40 = .ok (.iaload, 1) := by decide +kernel
theorem dX8_callOf_41 : decode cX8_callOf 41 = .ok (.iload_n 1, 1) := by decide +kernel
theorem dX8_callOf_42 : decode cX8_callOf 42 = .ok (.ishr, 1) := by decide +kernel
theorem dX8_callOf_43 : decode cX8_callOf 43 = .ok (.iconst 1, 1) := by decide +kernel
theorem dX8_callOf_44 : decode cX8_callOf 44 = .ok (.iand, 1) := by decide +kernel
theorem dX8_callOf_45 : decode cX8_callOf 45 = .ok (.iconst 1, 1) := by decide +kernel
theorem dX8_callOf_46 : decode cX8_callOf 46 = .ok (.if_icmp .eq 23, 3) := by decide +kernel
theorem dX8_callOf_49 : decode cX8_callOf 49 = .ok (.aload_n 0, 1) := by decide +kernel
theorem dX8_callOf_50 : decode cX8_callOf 50 = .ok (.getfield 31, 3) := by decide +kernel
theorem dX8_callOf_53 : decode cX8_callOf 53 = .ok (.iload_n 2, 1) := by decide +kernel
theorem dX8_callOf_54 : decode cX8_callOf 54 = .ok (.iaload, 1) := by decide +kernel
theorem dX8_callOf_55 : decode cX8_callOf 55 = .ok (.iconst 1, 1) := by decide +kernel
theorem dX8_callOf_56 : decode cX8_callOf 56 = .ok (.if_icmp .ne 15, 3) := by decide +kernel
theorem dX8_callOf_59 : decode cX8_callOf 59 = .ok (.aload_n 0, 1) := by decide +kernel
theorem dX8_callOf_60 : decode cX8_callOf 60 = .ok (.getfield 49, 3) := by decide +kernel
theorem dX8_callOf_63 : decode cX8_callOf 63 = .ok (.iload_n 2, 1) := by decide +kernel
theorem dX8_callOf_64 : decode cX8_callOf 64 = .ok (.iaload, 1) := by decide +kernel
theorem dX8_callOf_65 : decode cX8_callOf 65 = .ok (.iload_n 1, 1) := by decide +kernel
theorem dX8_callOf_66 : decode cX8_callOf 66 = .ok (.if_icmp .ne 5, 3) := by decide +kernel
theorem dX8_callOf_69 : decode cX8_callOf 69 = .ok (.iload_n 2, 1) := by decide +kernel
theorem dX8_callOf_70 : decode cX8_callOf 70 = .ok (.ireturn, 1) := by decide +kernel
theorem dX8_callOf_71 : decode cX8_callOf 71 = .ok (.iinc 2 1, 3) := by decide +kernel
theorem dX8_callOf_74 : decode cX8_callOf 74 = .ok (.goto (-72), 3) := by decide +kernel
theorem dX8_callOf_77 : decode cX8_callOf 77 = .ok (.iconst (-1), 1) := by decide +kernel
theorem dX8_callOf_78 : decode cX8_callOf 78 = .ok (.ireturn, 1) := by decide +kernel
theorem dX8_isFree_0 : decode cX8_isFree 0 = .ok (.aload_n 0, 1) := by decide +kernel
theorem dX8_isFree_1 : decode cX8_isFree 1 = .ok (.iload_n 1, 1) := by decide +kernel
theorem dX8_isFree_2 : decode cX8_isFree 2 = .ok (.invokevirtual 145, 3) := by decide +kernel
theorem dX8_isFree_5 : decode cX8_isFree 5 = .ok (.ifCond .ge 7, 3) := by decide +kernel
theorem dX8_isFree_8 : decode cX8_isFree 8 = .ok (.iconst 1, 1) := by decide +kernel
theorem dX8_isFree_9 : decode cX8_isFree 9 = .ok (.goto 4, 3) := by decide +kernel
theorem dX8_isFree_12 : decode cX8_isFree 12 = .ok (.iconst 0, 1) := by decide +kernel
theorem dX8_isFree_13 : decode cX8_isFree 13 = .ok (.ireturn, 1) := by decide +kernel
theorem dX8_knockAt_0 : decode cX8_knockAt 0 = .ok (.iconst (-1), 1) := by decide +kernel
theorem dX8_knockAt_1 : decode cX8_knockAt 1 = .ok (.istore_n 2, 1) := by decide +kernel
theorem dX8_knockAt_2 : decode cX8_knockAt 2 = .ok (.iconst 0, 1) := by decide +kernel
theorem dX8_knockAt_3 : decode cX8_knockAt 3 = .ok (.istore_n 3, 1) := by decide +kernel
theorem dX8_knockAt_4 : decode cX8_knockAt 4 = .ok (.iload_n 3, 1) := by decide +kernel
theorem dX8_knockAt_5 : decode cX8_knockAt 5 = .ok (.aload_n 0, 1) := by decide +kernel
theorem dX8_knockAt_6 : decode cX8_knockAt 6 = .ok (.getfield 70, 3) := by decide +kernel
theorem dX8_knockAt_9 : decode cX8_knockAt 9 = .ok (.iconst 2, 1) := by decide +kernel
theorem dX8_knockAt_10 : decode cX8_knockAt 10 = .ok (.iaload, 1) := by decide +kernel
theorem dX8_knockAt_11 : decode cX8_knockAt 11 = .ok (.if_icmp .ge 35, 3) := by decide +kernel
theorem dX8_knockAt_14 : decode cX8_knockAt 14 = .ok (.aload_n 0, 1) := by decide +kernel
theorem dX8_knockAt_15 : decode cX8_knockAt 15 = .ok (.getfield 31, 3) := by decide +kernel
theorem dX8_knockAt_18 : decode cX8_knockAt 18 = .ok (.iload_n 3, 1) := by decide +kernel
theorem dX8_knockAt_19 : decode cX8_knockAt 19 = .ok (.iaload, 1) := by decide +kernel
theorem dX8_knockAt_20 : decode cX8_knockAt 20 = .ok (.iconst 2, 1) := by decide +kernel
theorem dX8_knockAt_21 : decode cX8_knockAt 21 = .ok (.if_icmp .ne 17, 3) := by decide +kernel
theorem dX8_knockAt_24 : decode cX8_knockAt 24 = .ok (.aload_n 0, 1) := by decide +kernel
theorem dX8_knockAt_25 : decode cX8_knockAt 25 = .ok (.getfield 49, 3) := by decide +kernel
theorem dX8_knockAt_28 : decode cX8_knockAt 28 = .ok (.iload_n 3, 1) := by decide +kernel
theorem dX8_knockAt_29 : decode cX8_knockAt 29 = .ok (.iaload, 1) := by decide +kernel
theorem dX8_knockAt_30 : decode cX8_knockAt 30 = .ok (.iload_n 1, 1) := by decide +kernel
theorem dX8_knockAt_31 : decode cX8_knockAt 31 = .ok (.if_icmp .ne 7, 3) := by decide +kernel
theorem dX8_knockAt_34 : decode cX8_knockAt 34 = .ok (.iload_n 3, 1) := by decide +kernel
theorem dX8_knockAt_35 : decode cX8_knockAt 35 = .ok (.goto 4, 3) := by decide +kernel
theorem dX8_knockAt_38 : decode cX8_knockAt 38 = .ok (.iload_n 2, 1) := by decide +kernel
theorem dX8_knockAt_39 : decode cX8_knockAt 39 = .ok (.istore_n 2, 1) := by decide +kernel
theorem dX8_knockAt_40 : decode cX8_knockAt 40 = .ok (.iinc 3 1, 3) := by decide +kernel
theorem dX8_knockAt_43 : decode cX8_knockAt 43 = .ok (.goto (-39), 3) := by decide +kernel
theorem dX8_knockAt_46 : decode cX8_knockAt 46 = .ok (.iload_n 2, 1) := by decide +kernel
theorem dX8_knockAt_47 : decode cX8_knockAt 47 = .ok (.ireturn, 1) := by decide +kernel
theorem dX8_ends_0 : decode cX8_ends 0 = .ok (.aload_n 0, 1) := by decide +kernel
theorem dX8_ends_1 : decode cX8_ends 1 = .ok (.getfield 31, 3) := by decide +kernel
theorem dX8_ends_4 : decode cX8_ends 4 = .ok (.iload_n 1, 1) := by decide +kernel
theorem dX8_ends_5 : decode cX8_ends 5 = .ok (.iconst 3, 1) := by decide +kernel
theorem dX8_ends_6 : decode cX8_ends 6 = .ok (.iastore, 1) := by decide +kernel
theorem dX8_ends_7 : decode cX8_ends 7 = .ok (.aload_n 0, 1) := by decide +kernel
theorem dX8_ends_8 : decode cX8_ends 8 = .ok (.getfield 34, 3) := by decide +kernel
theorem dX8_ends_11 : decode cX8_ends 11 = .ok (.iload_n 1, 1) := by decide +kernel
theorem dX8_ends_12 : decode cX8_ends 12 = .ok (.iload_n 2, 1) := by decide +kernel
theorem dX8_ends_13 : decode cX8_ends 13 = .ok (.iastore, 1) := by decide +kernel
theorem dX8_ends_14 : decode cX8_ends 14 = .ok (.aload_n 0, 1) := by decide +kernel
theorem dX8_ends_15 : decode cX8_ends 15 = .ok (.getfield 46, 3) := by decide +kernel
theorem dX8_ends_18 : decode cX8_ends 18 = .ok (.iload_n 1, 1) := by decide +kernel
theorem dX8_ends_19 : decode cX8_ends 19 = .ok (.iconst 0, 1) := by decide +kernel
theorem dX8_ends_20 : decode cX8_ends 20 = .ok (.iastore, 1) := by decide +kernel
theorem dX8_ends_21 : decode cX8_ends 21 = .ok (.aload_n 0, 1) := by decide +kernel
theorem dX8_ends_22 : decode cX8_ends 22 = .ok (.getfield 49, 3) := by decide +kernel
theorem dX8_ends_25 : decode cX8_ends 25 = .ok (.iload_n 1, 1) := by decide +kernel
theorem dX8_ends_26 : decode cX8_ends 26 = .ok (.iconst (-1), 1) := by decide +kernel
theorem dX8_ends_27 : decode cX8_ends 27 = .ok (.iastore, 1) := by decide +kernel
theorem dX8_ends_28 : decode cX8_ends 28 = .ok (.return_, 1) := by decide +kernel
theorem dX8_rings_0 : decode cX8_rings 0 = .ok (.aload_n 0, 1) := by decide +kernel
theorem dX8_rings_1 : decode cX8_rings 1 = .ok (.getfield 31, 3) := by decide +kernel
theorem dX8_rings_4 : decode cX8_rings 4 = .ok (.iload_n 1, 1) := by decide +kernel
theorem dX8_rings_5 : decode cX8_rings 5 = .ok (.iconst 0, 1) := by decide +kernel
theorem dX8_rings_6 : decode cX8_rings 6 = .ok (.iastore, 1) := by decide +kernel
theorem dX8_rings_7 : decode cX8_rings 7 = .ok (.aload_n 0, 1) := by decide +kernel
theorem dX8_rings_8 : decode cX8_rings 8 = .ok (.getfield 46, 3) := by decide +kernel
theorem dX8_rings_11 : decode cX8_rings 11 = .ok (.iload_n 1, 1) := by decide +kernel
theorem dX8_rings_12 : decode cX8_rings 12 = .ok (.iload_n 2, 1) := by decide +kernel
theorem dX8_rings_13 : decode cX8_rings 13 = .ok (.iastore, 1) := by decide +kernel
theorem dX8_rings_14 : decode cX8_rings 14 = .ok (.aload_n 0, 1) := by decide +kernel
theorem dX8_rings_15 : decode cX8_rings 15 = .ok (.getfield 49, 3) := by decide +kernel
theorem dX8_rings_18 : decode cX8_rings 18 = .ok (.iload_n 1, 1) := by decide +kernel
theorem dX8_rings_19 : decode cX8_rings 19 = .ok (.iconst (-1), 1) := by decide +kernel
theorem dX8_rings_20 : decode cX8_rings 20 = .ok (.iastore, 1) := by decide +kernel
theorem dX8_rings_21 : decode cX8_rings 21 = .ok (.aload_n 0, 1) := by decide +kernel
theorem dX8_rings_22 : decode cX8_rings 22 = .ok (.getfield 52, 3) := by decide +kernel
theorem dX8_rings_25 : decode cX8_rings 25 = .ok (.iload_n 1, 1) := by decide +kernel
theorem dX8_rings_26 : decode cX8_rings 26 = .ok (.iconst 0, 1) := by decide +kernel
theorem dX8_rings_27 : decode cX8_rings 27 = .ok (.iastore, 1) := by decide +kernel
theorem dX8_rings_28 : decode cX8_rings 28 = .ok (.return_, 1) := by decide +kernel
theorem dX8_notes_0 : decode cX8_notes 0 = .ok (.aload_n 0, 1) := by decide +kernel
theorem dX8_notes_1 : decode cX8_notes 1 = .ok (.getfield 55, 3) := by decide +kernel
theorem dX8_notes_4 : decode cX8_notes 4 = .ok (.iload_n 1, 1) := by decide +kernel
theorem dX8_notes_5 : decode cX8_notes 5 = .ok (.iaload, 1) := by decide +kernel
theorem dX8_notes_6 : decode cX8_notes 6 = .ok (.bipush 10, 2) := by decide +kernel
theorem dX8_notes_8 : decode cX8_notes 8 = .ok (.if_icmp .ge 20, 3) := by decide +kernel
theorem dX8_notes_11 : decode cX8_notes 11 = .ok (.aload_n 0, 1) := by decide +kernel
theorem dX8_notes_12 : decode cX8_notes 12 = .ok (.getfield 58, 3) := by decide +kernel
theorem dX8_notes_15 : decode cX8_notes 15 = .ok (.bipush 10, 2) := by decide +kernel
theorem dX8_notes_17 : decode cX8_notes 17 = .ok (.iload_n 1, 1) := by decide +kernel
theorem dX8_notes_18 : decode cX8_notes 18 = .ok (.imul, 1) := by decide +kernel
theorem dX8_notes_19 : decode cX8_notes 19 = .ok (.aload_n 0, 1) := by decide +kernel
theorem dX8_notes_20 : decode cX8_notes 20 = .ok (.getfield 55, 3) := by decide +kernel
theorem dX8_notes_23 : decode cX8_notes 23 = .ok (.iload_n 1, 1) := by decide +kernel
theorem dX8_notes_24 : decode cX8_notes 24 = .ok (.iaload, 1) := by decide +kernel
theorem dX8_notes_25 : decode cX8_notes 25 = .ok (.iadd, 1) := by decide +kernel
theorem dX8_notes_26 : decode cX8_notes 26 = .ok (.iload_n 2, 1) := by decide +kernel
