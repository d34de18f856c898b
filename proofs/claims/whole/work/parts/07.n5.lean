set_option maxRecDepth 100000 in
theorem gX6_tell_X6_weight : GoodIn wsX6_tell (wsV RX6 114 RX6 yX6_weight wsX6_weight) := goodIn_app (goodIn_of _ (by decide +kernel)) ggX6_tell_X6_weight
theorem dX6_tell_0 : decode cX6_tell 0 = .ok (.iload_n 1, 1) := by decide +kernel
theorem dX6_tell_1 : decode cX6_tell 1 = .ok (.invokestatic 111, 3) := by decide +kernel
theorem dX6_tell_4 : decode cX6_tell 4 = .ok (.ifCond .eq 10, 3) := by decide +kernel
theorem dX6_tell_7 : decode cX6_tell 7 = .ok (.iload_n 2, 1) := by decide +kernel
theorem dX6_tell_8 : decode cX6_tell 8 = .ok (.invokestatic 111, 3) := by decide +kernel
theorem dX6_tell_11 : decode cX6_tell 11 = .ok (.ifCond .ne 5, 3) := by decide +kernel
theorem dX6_tell_14 : decode cX6_tell 14 = .ok (.iconst (-1), 1) := by decide +kernel
theorem dX6_tell_15 : decode cX6_tell 15 = .ok (.ireturn, 1) := by decide +kernel
theorem dX6_tell_16 : decode cX6_tell 16 = .ok (.iconst 0, 1) := by decide +kernel
theorem dX6_tell_17 : decode cX6_tell 17 = .ok (.istore_n 3, 1) := by decide +kernel
theorem dX6_tell_18 : decode cX6_tell 18 = .ok (.iload_n 3, 1) := by decide +kernel
theorem dX6_tell_19 : decode cX6_tell 19 = .ok (.aload_n 0, 1) := by decide +kernel
theorem dX6_tell_20 : decode cX6_tell 20 = .ok (.getfield 13, 3) := by decide +kernel
theorem dX6_tell_23 : decode cX6_tell 23 = .ok (.if_icmp .ge 78, 3) := by decide +kernel
theorem dX6_tell_26 : decode cX6_tell 26 = .ok (.iconst 0, 1) := by decide +kernel
theorem dX6_tell_27 : decode cX6_tell 27 = .ok (.istore 4, 2) := by decide +kernel
theorem dX6_tell_29 : decode cX6_tell 29 = .ok (.iconst 0, 1) := by decide +kernel
theorem dX6_tell_30 : decode cX6_tell 30 = .ok (.istore 5, 2) := by decide +kernel
theorem dX6_tell_32 : decode cX6_tell 32 = .ok (.iload 5, 2) := by decide +kernel
theorem dX6_tell_34 : decode cX6_tell 34 = .ok (.aload_n 0, 1) := by decide +kernel
theorem dX6_tell_35 : decode cX6_tell 35 = .ok (.getfield 16, 3) := by decide +kernel
theorem dX6_tell_38 : decode cX6_tell 38 = .ok (.if_icmp .ge 39, 3) := by decide +kernel
theorem dX6_tell_41 : decode cX6_tell 41 = .ok (.iload 4, 2) := by decide +kernel
theorem dX6_tell_43 : decode cX6_tell 43 = .ok (.aload_n 0, 1) := by decide +kernel
theorem dX6_tell_44 : decode cX6_tell 44 = .ok (.getfield 19, 3) := by decide +kernel
theorem dX6_tell_47 : decode cX6_tell 47 = .ok (.bipush 12, 2) := by decide +kernel
theorem dX6_tell_49 : decode cX6_tell 49 = .ok (.iload_n 3, 1) := by decide +kernel
theorem dX6_tell_50 : decode cX6_tell 50 = .ok (.imul, 1) := by decide +kernel
theorem dX6_tell_51 : decode cX6_tell 51 = .ok (.iload 5, 2) := by decide +kernel
theorem dX6_tell_53 : decode cX6_tell 53 = .ok (.iadd, 1) := by decide +kernel
theorem dX6_tell_54 : decode cX6_tell 54 = .ok (.iaload, 1) := by decide +kernel
theorem dX6_tell_55 : decode cX6_tell 55 = .ok (.aload_n 0, 1) := by decide +kernel
theorem dX6_tell_56 : decode cX6_tell 56 = .ok (.getfield 23, 3) := by decide +kernel
theorem dX6_tell_59 : decode cX6_tell 59 = .ok (.bipush 12, 2) := by decide +kernel
theorem dX6_tell_61 : decode cX6_tell 61 = .ok (.iload_n 2, 1) := by decide +kernel
theorem dX6_tell_62 : decode cX6_tell 62 = .ok (.imul, 1) := by decide +kernel
theorem dX6_tell_63 : decode cX6_tell 63 = .ok (.iload 5, 2) := by decide +kernel
theorem dX6_tell_65 : decode cX6_tell 65 = .ok (.iadd, 1) := by decide +kernel
theorem dX6_tell_66 : decode cX6_tell 66 = .ok (.iaload, 1) := by decide +kernel
theorem dX6_tell_67 : decode cX6_tell 67 = .ok (.imul, 1) := by decide +kernel
theorem dX6_tell_68 : decode cX6_tell 68 = .ok (.iadd, 1) := by decide +kernel
theorem dX6_tell_69 : decode cX6_tell 69 = .ok (.istore 4, 2) := by decide +kernel
theorem dX6_tell_71 : decode cX6_tell 71 = .ok (.iinc 5 1, 3) := by decide +kernel
theorem dX6_tell_74 : decode cX6_tell 74 = .ok (.goto (-42), 3) := by decide +kernel
theorem dX6_tell_77 : decode cX6_tell 77 = .ok (.aload_n 0, 1) := by decide +kernel
theorem dX6_tell_78 : decode cX6_tell 78 = .ok (.getfield 26, 3) := by decide +kernel
theorem dX6_tell_81 : decode cX6_tell 81 = .ok (.bipush 6, 2) := by decide +kernel
theorem dX6_tell_83 : decode cX6_tell 83 = .ok (.iload_n 1, 1) := by decide +kernel
theorem dX6_tell_84 : decode cX6_tell 84 = .ok (.imul, 1) := by decide +kernel
theorem dX6_tell_85 : decode cX6_tell 85 = .ok (.iload_n 3, 1) := by decide +kernel
theorem dX6_tell_86 : decode cX6_tell 86 = .ok (.iadd, 1) := by decide +kernel
theorem dX6_tell_87 : decode cX6_tell 87 = .ok (.iload 4, 2) := by decide +kernel
theorem dX6_tell_89 : decode cX6_tell 89 = .ok (.aload_n 0, 1) := by decide +kernel
theorem dX6_tell_90 : decode cX6_tell 90 = .ok (.getfield 7, 3) := by decide +kernel
theorem dX6_tell_93 : decode cX6_tell 93 = .ok (.irem, 1) := by decide +kernel
theorem dX6_tell_94 : decode cX6_tell 94 = .ok (.iastore, 1) := by decide +kernel
theorem dX6_tell_95 : decode cX6_tell 95 = .ok (.iinc 3 1, 3) := by decide +kernel
theorem dX6_tell_98 : decode cX6_tell 98 = .ok (.goto (-80), 3) := by decide +kernel
theorem dX6_tell_101 : decode cX6_tell 101 = .ok (.aload_n 0, 1) := by decide +kernel
theorem dX6_tell_102 : decode cX6_tell 102 = .ok (.aload_n 0, 1) := by decide +kernel
theorem dX6_tell_103 : decode cX6_tell 103 = .ok (.getfield 26, 3) := by decide +kernel
theorem dX6_tell_106 : decode cX6_tell 106 = .ok (.bipush 6, 2) := by decide +kernel
theorem dX6_tell_108 : decode cX6_tell 108 = .ok (.iload_n 1, 1) := by decide +kernel
theorem dX6_tell_109 : decode cX6_tell 109 = .ok (.imul, 1) := by decide +kernel
theorem dX6_tell_110 : decode cX6_tell 110 = .ok (.aload_n 0, 1) := by decide +kernel
theorem dX6_tell_111 : decode cX6_tell 111 = .ok (.getfield 13, 3) := by decide +kernel
theorem dX6_tell_114 : decode cX6_tell 114 = .ok (.invokevirtual 114, 3) := by decide +kernel
theorem dX6_tell_117 : decode cX6_tell 117 = .ok (.ireturn, 1) := by decide +kernel
set_option maxRecDepth 100000 in
theorem ggX6_solves_X6_bits : GoodIn wsX6_solves wsX6_bits := goodIn_r _ [6] rfl (by decide +kernel)
set_option maxRecDepth 100000 in
theorem gX6_solves_X6_bits : GoodIn wsX6_solves (va_wsS RX6 81 yX6_bits wsX6_bits) := goodIn_app (goodIn_of _ (by decide +kernel)) ggX6_solves_X6_bits
set_option maxRecDepth 100000 in
theorem ggX6_solves_X6_clears : GoodIn wsX6_solves wsX6_clears := goodIn_r _ [10, 11, 12, 2, 13, 14, 15, 3, 4, 5, 6, 16, 17, 18, 19, 20, 21, 22, 23, 24, 25, 26, 27, 28, 29, 30, 31, 32, 33, 34, 35, 36, 37, 38, 39, 40, 41, 42, 43, 44, 45, 46, 47, 48] rfl (by decide +kernel)
set_option maxRecDepth 100000 in
theorem gX6_solves_X6_clears : GoodIn wsX6_solves (wsV RX6 95 RX6 yX6_clears wsX6_clears) := goodIn_app (goodIn_of _ (by decide +kernel)) ggX6_solves_X6_clears
theorem dX6_solves_0 : decode cX6_solves 0 = .ok (.iload_n 1, 1) := by decide +kernel
theorem dX6_solves_1 : decode cX6_solves 1 = .ok (.invokestatic 81, 3) := by decide +kernel
theorem dX6_solves_4 : decode cX6_solves 4 = .ok (.istore 4, 2) := by decide +kernel
theorem dX6_solves_6 : decode cX6_solves 6 = .ok (.aload_n 0, 1) := by decide +kernel
theorem dX6_solves_7 : decode cX6_solves 7 = .ok (.iload_n 1, 1) := by decide +kernel
theorem dX6_solves_8 : decode cX6_solves 8 = .ok (.iload_n 2, 1) := by decide +kernel
theorem dX6_solves_9 : decode cX6_solves 9 = .ok (.iload_n 3, 1) := by decide +kernel
theorem dX6_solves_10 : decode cX6_solves 10 = .ok (.invokevirtual 95, 3) := by decide +kernel
theorem dX6_solves_13 : decode cX6_solves 13 = .ok (.iload 4, 2) := by decide +kernel
theorem dX6_solves_15 : decode cX6_solves 15 = .ok (.if_icmp .eq 5, 3) := by decide +kernel
theorem dX6_solves_18 : decode cX6_solves 18 = .ok (.iconst 0, 1) := by decide +kernel
theorem dX6_solves_19 : decode cX6_solves 19 = .ok (.ireturn, 1) := by decide +kernel
theorem dX6_solves_20 : decode cX6_solves 20 = .ok (.iconst 0, 1) := by decide +kernel
theorem dX6_solves_21 : decode cX6_solves 21 = .ok (.istore 5, 2) := by decide +kernel
theorem dX6_solves_23 : decode cX6_solves 23 = .ok (.iconst 1, 1) := by decide +kernel
theorem dX6_solves_24 : decode cX6_solves 24 = .ok (.istore 6, 2) := by decide +kernel
theorem dX6_solves_26 : decode cX6_solves 26 = .ok (.iconst 0, 1) := by decide +kernel
theorem dX6_solves_27 : decode cX6_solves 27 = .ok (.istore 7, 2) := by decide +kernel
theorem dX6_solves_29 : decode cX6_solves 29 = .ok (.iload 7, 2) := by decide +kernel
theorem dX6_solves_31 : decode cX6_solves 31 = .ok (.bipush 12, 2) := by decide +kernel
theorem dX6_solves_33 : decode cX6_solves 33 = .ok (.if_icmp .ge 72, 3) := by decide +kernel
theorem dX6_solves_36 : decode cX6_solves 36 = .ok (.aload_n 0, 1) := by decide +kernel
theorem dX6_solves_37 : decode cX6_solves 37 = .ok (.getfield 48, 3) := by decide +kernel
theorem dX6_solves_40 : decode cX6_solves 40 = .ok (.iload 7, 2) := by decide +kernel
theorem dX6_solves_42 : decode cX6_solves 42 = .ok (.iconst 0, 1) := by decide +kernel
theorem dX6_solves_43 : decode cX6_solves 43 = .ok (.iastore, 1) := by decide +kernel
theorem dX6_solves_44 : decode cX6_solves 44 = .ok (.iload_n 1, 1) := by decide +kernel
theorem dX6_solves_45 : decode cX6_solves 45 = .ok (.iload 7, 2) := by decide +kernel
theorem dX6_solves_47 : decode cX6_solves 47 = .ok (.ishr, 1) := by decide +kernel
theorem dX6_solves_48 : decode cX6_solves 48 = .ok (.iconst 1, 1) := by decide +kernel
theorem dX6_solves_49 : decode cX6_solves 49 = .ok (.iand, 1) := by decide +kernel
theorem dX6_solves_50 : decode cX6_solves 50 = .ok (.iconst 1, 1) := by decide +kernel
theorem dX6_solves_51 : decode cX6_solves 51 = .ok (.if_icmp .ne 48, 3) := by decide +kernel
theorem dX6_solves_54 : decode cX6_solves 54 = .ok (.aload_n 0, 1) := by decide +kernel
theorem dX6_solves_55 : decode cX6_solves 55 = .ok (.getfield 48, 3) := by decide +kernel
theorem dX6_solves_58 : decode cX6_solves 58 = .ok (.iload 7, 2) := by decide +kernel
theorem dX6_solves_60 : decode cX6_solves 60 = .ok (.aload_n 0, 1) := by decide +kernel
theorem dX6_solves_61 : decode cX6_solves 61 = .ok (.getfield 45, 3) := by decide +kernel
theorem dX6_solves_64 : decode cX6_solves 64 = .ok (.bipush 13, 2) := by decide +kernel
theorem dX6_solves_66 : decode cX6_solves 66 = .ok (.iload 5, 2) := by decide +kernel
theorem dX6_solves_68 : decode cX6_solves 68 = .ok (.imul, 1) := by decide +kernel
theorem dX6_solves_69 : decode cX6_solves 69 = .ok (.bipush 12, 2) := by decide +kernel
theorem dX6_solves_71 : decode cX6_solves 71 = .ok (.iadd, 1) := by decide +kernel
theorem dX6_solves_72 : decode cX6_solves 72 = .ok (.iaload, 1) := by decide +kernel
theorem dX6_solves_73 : decode cX6_solves 73 = .ok (.iastore, 1) := by decide +kernel
theorem dX6_solves_74 : decode cX6_solves 74 = .ok (.iload 6, 2) := by decide +kernel
theorem dX6_solves_76 : decode cX6_solves 76 = .ok (.ifCond .eq 17, 3) := by decide +kernel
theorem dX6_solves_79 : decode cX6_solves 79 = .ok (.aload_n 0, 1) := by decide +kernel
theorem dX6_solves_80 : decode cX6_solves 80 = .ok (.getfield 48, 3) := by decide +kernel
theorem dX6_solves_83 : decode cX6_solves 83 = .ok (.iload 7, 2) := by decide +kernel
theorem dX6_solves_85 : decode cX6_solves 85 = .ok (.iaload, 1) := by decide +kernel
theorem dX6_solves_86 : decode cX6_solves 86 = .ok (.ifCond .eq 7, 3) := by decide +kernel
theorem dX6_solves_89 : decode cX6_solves 89 = .ok (.iconst 1, 1) := by decide +kernel
theorem dX6_solves_90 : decode cX6_solves 90 = .ok (.goto 4, 3) := by decide +kernel
theorem dX6_solves_93 : decode cX6_solves 93 = .ok (.iconst 0, 1) := by decide +kernel
theorem dX6_solves_94 : decode cX6_solves 94 = .ok (.istore 6, 2) := by decide +kernel
theorem dX6_solves_96 : decode cX6_solves 96 = .ok (.iinc 5 1, 3) := by decide +kernel
theorem dX6_solves_99 : decode cX6_solves 99 = .ok (.iinc 7 1, 3) := by decide +kernel
theorem dX6_solves_102 : decode cX6_solves 102 = .ok (.goto (-73), 3) := by decide +kernel
theorem dX6_solves_105 : decode cX6_solves 105 = .ok (.iload 6, 2) := by decide +kernel
theorem dX6_solves_107 : decode cX6_solves 107 = .ok (.ireturn, 1) := by decide +kernel
theorem dX6_keeps_0 : decode cX6_keeps 0 = .ok (.iconst 0, 1) := by decide +kernel
theorem dX6_keeps_1 : decode cX6_keeps 1 = .ok (.istore_n 2, 1) := by decide +kernel
theorem dX6_keeps_2 : decode cX6_keeps 2 = .ok (.iload_n 2, 1) := by decide +kernel
theorem dX6_keeps_3 : decode cX6_keeps 3 = .ok (.bipush 12, 2) := by decide +kernel
theorem dX6_keeps_5 : decode cX6_keeps 5 = .ok (.if_icmp .ge 26, 3) := by decide +kernel
theorem dX6_keeps_8 : decode cX6_keeps 8 = .ok (.aload_n 0, 1) := by decide +kernel
theorem dX6_keeps_9 : decode cX6_keeps 9 = .ok (.getfield 23, 3) := by decide +kernel
theorem dX6_keeps_12 : decode cX6_keeps 12 = .ok (.bipush 12, 2) := by decide +kernel
theorem dX6_keeps_14 : decode cX6_keeps 14 = .ok (.iload_n 1, 1) := by decide +kernel
theorem dX6_keeps_15 : decode cX6_keeps 15 = .ok (.imul, 1) := by decide +kernel
theorem dX6_keeps_16 : decode cX6_keeps 16 = .ok (.iload_n 2, 1) := by decide +kernel
theorem dX6_keeps_17 : decode cX6_keeps 17 = .ok (.iadd, 1) := by decide +kernel
theorem dX6_keeps_18 : decode cX6_keeps 18 = .ok (.aload_n 0, 1) := by decide +kernel
theorem dX6_keeps_19 : decode cX6_keeps 19 = .ok (.getfield 51, 3) := by decide +kernel
theorem dX6_keeps_22 : decode cX6_keeps 22 = .ok (.iload_n 2, 1) := by decide +kernel
theorem dX6_keeps_23 : decode cX6_keeps 23 = .ok (.iaload, 1) := by decide +kernel
theorem dX6_keeps_24 : decode cX6_keeps 24 = .ok (.iastore, 1) := by decide +kernel
theorem dX6_keeps_25 : decode cX6_keeps 25 = .ok (.iinc 2 1, 3) := by decide +kernel
theorem dX6_keeps_28 : decode cX6_keeps 28 = .ok (.goto (-26), 3) := by decide +kernel
theorem dX6_keeps_31 : decode cX6_keeps 31 = .ok (.return_, 1) := by decide +kernel
theorem dX6_isBest_0 : decode cX6_isBest 0 = .ok (.iconst 0, 1) := by decide +kernel
theorem dX6_isBest_1 : decode cX6_isBest 1 = .ok (.istore_n 1, 1) := by decide +kernel
theorem dX6_isBest_2 : decode cX6_isBest 2 = .ok (.iload_n 1, 1) := by decide +kernel
theorem dX6_isBest_3 : decode cX6_isBest 3 = .ok (.bipush 12, 2) := by decide +kernel
theorem dX6_isBest_5 : decode cX6_isBest 5 = .ok (.if_icmp .ge 21, 3) := by decide +kernel
theorem dX6_isBest_8 : decode cX6_isBest 8 = .ok (.aload_n 0, 1) := by decide +kernel
theorem dX6_isBest_9 : decode cX6_isBest 9 = .ok (.getfield 51, 3) := by decide +kernel
theorem dX6_isBest_12 : decode cX6_isBest 12 = .ok (.iload_n 1, 1) := by decide +kernel
theorem dX6_isBest_13 : decode cX6_isBest 13 = .ok (.aload_n 0, 1) := by decide +kernel
theorem dX6_isBest_14 : decode cX6_isBest 14 = .ok (.getfield 48, 3) := by decide +kernel
theorem dX6_isBest_17 : decode cX6_isBest 17 = .ok (.iload_n 1, 1) := by decide +kernel
theorem dX6_isBest_18 : decode cX6_isBest 18 = .ok (.iaload, 1) := by decide +kernel
theorem dX6_isBest_19 : decode cX6_isBest 19 = .ok (.iastore, 1) := by decide +kernel
theorem dX6_isBest_20 : decode cX6_isBest 20 = .ok (.iinc 1 1, 3) := by decide +kernel
theorem dX6_isBest_23 : decode cX6_isBest 23 = .ok (.goto (-21), 3) := by decide +kernel
theorem dX6_isBest_26 : decode cX6_isBest 26 = .ok (.return_, 1) := by decide +kernel
set_option maxRecDepth 100000 in
theorem ggX6_find_X6_isSix : GoodIn wsX6_find wsX6_isSix := goodIn_r _ [6, 7, 8, 9, 5, 10] rfl (by decide +kernel)
set_option maxRecDepth 100000 in
theorem gX6_find_X6_isSix : GoodIn wsX6_find (va_wsS RX6 111 yX6_isSix wsX6_isSix) := goodIn_app (goodIn_of _ (by decide +kernel)) ggX6_find_X6_isSix
set_option maxRecDepth 100000 in
theorem ggX6_find_X6_in : GoodIn wsX6_find wsX6_in := goodIn_r _ [10] rfl (by decide +kernel)
set_option maxRecDepth 100000 in
theorem gX6_find_X6_in : GoodIn wsX6_find (va_wsS RX6 61 yX6_in wsX6_in) := goodIn_app (goodIn_of _ (by decide +kernel)) ggX6_find_X6_in
set_option maxRecDepth 100000 in
theorem ggX6_find_X6_bits : GoodIn wsX6_find wsX6_bits := goodIn_r _ [13] rfl (by decide +kernel)
set_option maxRecDepth 100000 in
theorem gX6_find_X6_bits : GoodIn wsX6_find (va_wsS RX6 81 yX6_bits wsX6_bits) := goodIn_app (goodIn_of _ (by decide +kernel)) ggX6_find_X6_bits
set_option maxRecDepth 100000 in
theorem ggX6_find_X6_solves : GoodIn wsX6_find wsX6_solves := goodIn_r _ [17, 18, 19, 11, 12, 5, 13, 20, 21, 22, 23, 24, 2, 25, 26, 27, 28, 29, 30, 31, 32, 33, 34, 35, 36, 37, 38, 39, 40, 41, 42, 43, 54, 55, 56, 57, 58, 59, 60, 61, 62, 63, 64, 65, 66, 67, 68, 69, 70] rfl (by decide +kernel)
set_option maxRecDepth 100000 in
theorem gX6_find_X6_solves : GoodIn wsX6_find (wsV RX6 122 RX6 yX6_solves wsX6_solves) := goodIn_app (goodIn_of _ (by decide +kernel)) ggX6_find_X6_solves
set_option maxRecDepth 100000 in
theorem ggX6_find_X6_isBest : GoodIn wsX6_find wsX6_isBest := goodIn_r _ [47, 48, 18, 54, 55, 56, 57, 58, 59, 60, 61, 62, 63, 64, 65, 66, 67, 68, 69, 70] rfl (by decide +kernel)
set_option maxRecDepth 100000 in
theorem gX6_find_X6_isBest : GoodIn wsX6_find (wsV RX6 126 RX6 yX6_isBest wsX6_isBest) := goodIn_app (goodIn_of _ (by decide +kernel)) ggX6_find_X6_isBest
set_option maxRecDepth 100000 in
theorem ggX6_find_X6_keeps : GoodIn wsX6_find wsX6_keeps := goodIn_r _ [52, 53, 48, 54, 55, 56, 57, 58, 59, 60, 61, 62, 63, 64, 65, 66, 67, 68, 69, 70] rfl (by decide +kernel)
set_option maxRecDepth 100000 in
theorem gX6_find_X6_keeps : GoodIn wsX6_find (wsV RX6 129 RX6 yX6_keeps wsX6_keeps) := goodIn_app (goodIn_of _ (by decide +kernel)) ggX6_find_X6_keeps
theorem dX6_find_0 : decode cX6_find 0 = .ok (.iload_n 1, 1) := by decide +kernel
theorem dX6_find_1 : decode cX6_find 1 = .ok (.invokestatic 111, 3) := by decide +kernel
theorem dX6_find_4 : decode cX6_find 4 = .ok (.ifCond .eq 22, 3) := by decide +kernel
theorem dX6_find_7 : decode cX6_find 7 = .ok (.iload_n 2, 1) := by decide +kernel
theorem dX6_find_8 : decode cX6_find 8 = .ok (.invokestatic 111, 3) := by decide +kernel
theorem dX6_find_11 : decode cX6_find 11 = .ok (.ifCond .eq 15, 3) := by decide +kernel
theorem dX6_find_14 : decode cX6_find 14 = .ok (.iload_n 3, 1) := by decide +kernel
theorem dX6_find_15 : decode cX6_find 15 = .ok (.i2l, 1) := by decide +kernel
theorem dX6_find_16 : decode cX6_find 16 = .ok (.lconst 0, 1) := by decide +kernel
theorem dX6_find_17 : decode cX6_find 17 = .ok (.ldc2_w 120, 3) := by decide +kernel
theorem dX6_find_20 : decode cX6_find 20 = .ok (.invokestatic 61, 3) := by decide +kernel
theorem dX6_find_23 : decode cX6_find 23 = .ok (.ifCond .ne 5, 3) := by decide +kernel
theorem dX6_find_26 : decode cX6_find 26 = .ok (.iconst (-1), 1) := by decide +kernel
theorem dX6_find_27 : decode cX6_find 27 = .ok (.ireturn, 1) := by decide +kernel
theorem dX6_find_28 : decode cX6_find 28 = .ok (.iconst 0, 1) := by decide +kernel
theorem dX6_find_29 : decode cX6_find 29 = .ok (.istore 4, 2) := by decide +kernel
theorem dX6_find_31 : decode cX6_find 31 = .ok (.iload 4, 2) := by decide +kernel
theorem dX6_find_33 : decode cX6_find 33 = .ok (.iload_n 3, 1) := by decide +kernel
theorem dX6_find_34 : decode cX6_find 34 = .ok (.if_icmp .gt 92, 3) := by decide +kernel
theorem dX6_find_37 : decode cX6_find 37 = .ok (.iconst 0, 1) := by decide +kernel
theorem dX6_find_38 : decode cX6_find 38 = .ok (.istore 5, 2) := by decide +kernel
theorem dX6_find_40 : decode cX6_find 40 = .ok (.iconst 0, 1) := by decide +kernel
theorem dX6_find_41 : decode cX6_find 41 = .ok (.istore 6, 2) := by decide +kernel
theorem dX6_find_43 : decode cX6_find 43 = .ok (.iload 6, 2) := by decide +kernel
theorem dX6_find_45 : decode cX6_find 45 = .ok (.iconst 1, 1) := by decide +kernel
theorem dX6_find_46 : decode cX6_find 46 = .ok (.aload_n 0, 1) := by decide +kernel
theorem dX6_find_47 : decode cX6_find 47 = .ok (.getfield 16, 3) := by decide +kernel
theorem dX6_find_50 : decode cX6_find 50 = .ok (.ishl, 1) := by decide +kernel
theorem dX6_find_51 : decode cX6_find 51 = .ok (.if_icmp .ge 42, 3) := by decide +kernel
theorem dX6_find_54 : decode cX6_find 54 = .ok (.iload 6, 2) := by decide +kernel
theorem dX6_find_56 : decode cX6_find 56 = .ok (.invokestatic 81, 3) := by decide +kernel
theorem dX6_find_59 : decode cX6_find 59 = .ok (.iload 4, 2) := by decide +kernel
theorem dX6_find_61 : decode cX6_find 61 = .ok (.if_icmp .ne 26, 3) := by decide +kernel
theorem dX6_find_64 : decode cX6_find 64 = .ok (.aload_n 0, 1) := by decide +kernel
theorem dX6_find_65 : decode cX6_find 65 = .ok (.iload 6, 2) := by decide +kernel
theorem dX6_find_67 : decode cX6_find 67 = .ok (.iconst 0, 1) := by decide +kernel
theorem dX6_find_68 : decode cX6_find 68 = .ok (.iload_n 2, 1) := by decide +kernel
theorem dX6_find_69 : decode cX6_find 69 = .ok (.invokevirtual 122, 3) := by decide +kernel
theorem dX6_find_72 : decode cX6_find 72 = .ok (.ifCond .eq 15, 3) := by decide +kernel
theorem dX6_find_75 : decode cX6_find 75 = .ok (.iload 5, 2) := by decide +kernel
theorem dX6_find_77 : decode cX6_find 77 = .ok (.ifCond .ne 7, 3) := by decide +kernel
theorem dX6_find_80 : decode cX6_find 80 = .ok (.aload_n 0, 1) := by decide +kernel
theorem dX6_find_81 : decode cX6_find 81 = .ok (.invokevirtual 126, 3) := by decide +kernel
theorem dX6_find_84 : decode cX6_find 84 = .ok (.iinc 5 1, 3) := by decide +kernel
theorem dX6_find_87 : decode cX6_find 87 = .ok (.iinc 6 1, 3) := by decide +kernel
theorem dX6_find_90 : decode cX6_find 90 = .ok (.goto (-47), 3) := by decide +kernel
theorem dX6_find_93 : decode cX6_find 93 = .ok (.iload 5, 2) := by decide +kernel
theorem dX6_find_95 : decode cX6_find 95 = .ok (.ifCond .le 25, 3) := by decide +kernel
theorem dX6_find_98 : decode cX6_find 98 = .ok (.aload_n 0, 1) := by decide +kernel
theorem dX6_find_99 : decode cX6_find 99 = .ok (.iload_n 1, 1) := by decide +kernel
theorem dX6_find_100 : decode cX6_find 100 = .ok (.invokevirtual 129, 3) := by decide +kernel
theorem dX6_find_103 : decode cX6_find 103 = .ok (.iload 5, 2) := by decide +kernel
theorem dX6_find_105 : decode cX6_find 105 = .ok (.iconst 1, 1) := by decide +kernel
theorem dX6_find_106 : decode cX6_find 106 = .ok (.if_icmp .ne 11, 3) := by decide +kernel
theorem dX6_find_109 : decode cX6_find 109 = .ok (.bipush 100, 2) := by decide +kernel
theorem dX6_find_111 : decode cX6_find 111 = .ok (.iload 4, 2) := by decide +kernel
theorem dX6_find_113 : decode cX6_find 113 = .ok (.iadd, 1) := by decide +kernel
theorem dX6_find_114 : decode cX6_find 114 = .ok (.goto 5, 3) := by decide +kernel
theorem dX6_find_117 : decode cX6_find 117 = .ok (.iload 4, 2) := by decide +kernel
theorem dX6_find_119 : decode cX6_find 119 = .ok (.ireturn, 1) := by decide +kernel
theorem dX6_find_120 : decode cX6_find 120 = .ok (.iinc 4 1, 3) := by decide +kernel
theorem dX6_find_123 : decode cX6_find 123 = .ok (.goto (-92), 3) := by decide +kernel
theorem dX6_find_126 : decode cX6_find 126 = .ok (.bipush (-2), 2) := by decide +kernel
theorem dX6_find_128 : decode cX6_find 128 = .ok (.ireturn, 1) := by decide +kernel
theorem dX6_differs_0 : decode cX6_differs 0 = .ok (.iconst 0, 1) := by decide +kernel
theorem dX6_differs_1 : decode cX6_differs 1 = .ok (.istore_n 2, 1) := by decide +kernel
theorem dX6_differs_2 : decode cX6_differs 2 = .ok (.iconst 0, 1) := by decide +kernel
theorem dX6_differs_3 : decode cX6_differs 3 = .ok (.istore_n 3, 1) := by decide +kernel
theorem dX6_differs_4 : decode cX6_differs 4 = .ok (.iload_n 3, 1) := by decide +kernel
theorem dX6_differs_5 : decode cX6_differs 5 = .ok (.aload_n 0, 1) := by decide +kernel
theorem dX6_differs_6 : decode cX6_differs 6 = .ok (.getfield 13, 3) := by decide +kernel
theorem dX6_differs_9 : decode cX6_differs 9 = .ok (.if_icmp .ge 84, 3) := by decide +kernel
theorem dX6_differs_12 : decode cX6_differs 12 = .ok (.iconst 0, 1) := by decide +kernel
theorem dX6_differs_13 : decode cX6_differs 13 = .ok (.istore 4, 2) := by decide +kernel
theorem dX6_differs_15 : decode cX6_differs 15 = .ok (.iconst 0, 1) := by decide +kernel
theorem dX6_differs_16 : decode cX6_differs 16 = .ok (.istore 5, 2) := by decide +kernel
theorem dX6_differs_18 : decode cX6_differs 18 = .ok (.iload 5, 2) := by decide +kernel
theorem dX6_differs_20 : decode cX6_differs 20 = .ok (.aload_n 0, 1) := by decide +kernel
theorem dX6_differs_21 : decode cX6_differs 21 = .ok (.getfield 16, 3) := by decide +kernel
theorem dX6_differs_24 : decode cX6_differs 24 = .ok (.if_icmp .ge 34, 3) := by decide +kernel
theorem dX6_differs_27 : decode cX6_differs 27 = .ok (.iload 4, 2) := by decide +kernel
theorem dX6_differs_29 : decode cX6_differs 29 = .ok (.aload_n 0, 1) := by decide +kernel
theorem dX6_differs_30 : decode cX6_differs 30 = .ok (.getfield 19, 3) := by decide +kernel
theorem dX6_differs_33 : decode cX6_differs 33 = .ok (.bipush 12, 2) := by decide +kernel
theorem dX6_differs_35 : decode cX6_differs 35 = .ok (.iload_n 3, 1) := by decide +kernel
theorem dX6_differs_36 : decode cX6_differs 36 = .ok (.imul, 1) := by decide +kernel
theorem dX6_differs_37 : decode cX6_differs 37 = .ok (.iload 5, 2) := by decide +kernel
theorem dX6_differs_39 : decode cX6_differs 39 = .ok (.iadd, 1) := by decide +kernel
theorem dX6_differs_40 : decode cX6_differs 40 = .ok (.iaload, 1) := by decide +kernel
theorem dX6_differs_41 : decode cX6_differs 41 = .ok (.aload_n 0, 1) := by decide +kernel
theorem dX6_differs_42 : decode cX6_differs 42 = .ok (.getfield 48, 3) := by decide +kernel
theorem dX6_differs_45 : decode cX6_differs 45 = .ok (.iload 5, 2) := by decide +kernel
theorem dX6_differs_47 : decode cX6_differs 47 = .ok (.iaload, 1) := by decide +kernel
theorem dX6_differs_48 : decode cX6_differs 48 = .ok (.imul, 1) := by decide +kernel
theorem dX6_differs_49 : decode cX6_differs 49 = .ok (.iadd, 1) := by decide +kernel
theorem dX6_differs_50 : decode cX6_differs 50 = .ok (.istore 4, 2) := by decide +kernel
theorem dX6_differs_52 : decode cX6_differs 52 = .ok (.iinc 5 1, 3) := by decide +kernel
theorem dX6_differs_55 : decode cX6_differs 55 = .ok (.goto (-37), 3) := by decide +kernel
theorem dX6_differs_58 : decode cX6_differs 58 = .ok (.iload_n 2, 1) := by decide +kernel
theorem dX6_differs_59 : decode cX6_differs 59 = .ok (.iload 4, 2) := by decide +kernel
theorem dX6_differs_61 : decode cX6_differs 61 = .ok (.aload_n 0, 1) := by decide +kernel
theorem dX6_differs_62 : decode cX6_differs 62 = .ok (.getfield 7, 3) := by decide +kernel
theorem dX6_differs_65 : decode cX6_differs 65 = .ok (.irem, 1) := by decide +kernel
theorem dX6_differs_66 : decode cX6_differs 66 = .ok (.aload_n 0, 1) := by decide +kernel
theorem dX6_differs_67 : decode cX6_differs 67 = .ok (.getfield 26, 3) := by decide +kernel
theorem dX6_differs_70 : decode cX6_differs 70 = .ok (.bipush 6, 2) := by decide +kernel
theorem dX6_differs_72 : decode cX6_differs 72 = .ok (.iload_n 1, 1) := by decide +kernel
theorem dX6_differs_73 : decode cX6_differs 73 = .ok (.imul, 1) := by decide +kernel
theorem dX6_differs_74 : decode cX6_differs 74 = .ok (.iload_n 3, 1) := by decide +kernel
theorem dX6_differs_75 : decode cX6_differs 75 = .ok (.iadd, 1) := by decide +kernel
theorem dX6_differs_76 : decode cX6_differs 76 = .ok (.iaload, 1) := by decide +kernel
theorem dX6_differs_77 : decode cX6_differs 77 = .ok (.if_icmp .ne 7, 3) := by decide +kernel
theorem dX6_differs_80 : decode cX6_differs 80 = .ok (.iconst 0, 1) := by decide +kernel
theorem dX6_differs_81 : decode cX6_differs 81 = .ok (.goto 4, 3) := by decide +kernel
theorem dX6_differs_84 : decode cX6_differs 84 = .ok (.iconst 1, 1) := by decide +kernel
theorem dX6_differs_85 : decode cX6_differs 85 = .ok (.iadd, 1) := by decide +kernel
theorem dX6_differs_86 : decode cX6_differs 86 = .ok (.istore_n 2, 1) := by decide +kernel
theorem dX6_differs_87 : decode cX6_differs 87 = .ok (.iinc 3 1, 3) := by decide +kernel
theorem dX6_differs_90 : decode cX6_differs 90 = .ok (.goto (-86), 3) := by decide +kernel
theorem dX6_differs_93 : decode cX6_differs 93 = .ok (.iload_n 2, 1) := by decide +kernel
theorem dX6_differs_94 : decode cX6_differs 94 = .ok (.ireturn, 1) := by decide +kernel
theorem dX6_isLess_0 : decode cX6_isLess 0 = .ok (.iconst 0, 1) := by decide +kernel
theorem dX6_isLess_1 : decode cX6_isLess 1 = .ok (.istore_n 1, 1) := by decide +kernel
theorem dX6_isLess_2 : decode cX6_isLess 2 = .ok (.iload_n 1, 1) := by decide +kernel
theorem dX6_isLess_3 : decode cX6_isLess 3 = .ok (.bipush 11, 2) := by decide +kernel
theorem dX6_isLess_5 : decode cX6_isLess 5 = .ok (.if_icmp .ge 24, 3) := by decide +kernel
theorem dX6_isLess_8 : decode cX6_isLess 8 = .ok (.aload_n 0, 1) := by decide +kernel
theorem dX6_isLess_9 : decode cX6_isLess 9 = .ok (.getfield 48, 3) := by decide +kernel
theorem dX6_isLess_12 : decode cX6_isLess 12 = .ok (.iload_n 1, 1) := by decide +kernel
theorem dX6_isLess_13 : decode cX6_isLess 13 = .ok (.iaload, 1) := by decide +kernel
theorem dX6_isLess_14 : decode cX6_isLess 14 = .ok (.aload_n 0, 1) := by decide +kernel
theorem dX6_isLess_15 : decode cX6_isLess 15 = .ok (.getfield 51, 3) := by decide +kernel
theorem dX6_isLess_18 : decode cX6_isLess 18 = .ok (.iload_n 1, 1) := by decide +kernel
theorem dX6_isLess_19 : decode cX6_isLess 19 = .ok (.iaload, 1) := by decide +kernel
theorem dX6_isLess_20 : decode cX6_isLess 20 = .ok (.if_icmp .ne 9, 3) := by decide +kernel
theorem dX6_isLess_23 : decode cX6_isLess 23 = .ok (.iinc 1 1, 3) := by decide +kernel
theorem dX6_isLess_26 : decode cX6_isLess 26 = .ok (.goto (-24), 3) := by decide +kernel
theorem dX6_isLess_29 : decode cX6_isLess 29 = .ok (.aload_n 0, 1) := by decide +kernel
theorem dX6_isLess_30 : decode cX6_isLess 30 = .ok (.getfield 48, 3) := by decide +kernel
theorem dX6_isLess_33 : decode cX6_isLess 33 = .ok (.iload_n 1, 1) := by decide +kernel
theorem dX6_isLess_34 : decode cX6_isLess 34 = .ok (.iaload, 1) := by decide +kernel
theorem dX6_isLess_35 : decode cX6_isLess 35 = .ok (.aload_n 0, 1) := by decide +kernel
theorem dX6_isLess_36 : decode cX6_isLess 36 = .ok (.getfield 51, 3) := by decide +kernel
theorem dX6_isLess_39 : decode cX6_isLess 39 = .ok (.iload_n 1, 1) := by decide +kernel
theorem dX6_isLess_40 : decode cX6_isLess 40 = .ok (.iaload, 1) := by decide +kernel
theorem dX6_isLess_41 : decode cX6_isLess 41 = .ok (.if_icmp .ge 7, 3) := by decide +kernel
theorem dX6_isLess_44 : decode cX6_isLess 44 = .ok (.iconst 1, 1) := by decide +kernel
theorem dX6_isLess_45 : decode cX6_isLess 45 = .ok (.goto 4, 3) := by decide +kernel
theorem dX6_isLess_48 : decode cX6_isLess 48 = .ok (.iconst 0, 1) := by decide +kernel
theorem dX6_isLess_49 : decode cX6_isLess 49 = .ok (.ireturn, 1) := by decide +kernel
set_option maxRecDepth 100000 in
theorem ggX6_miss_X6_isSix : GoodIn wsX6_miss wsX6_isSix := goodIn_r _ [7, 8, 9, 10, 6, 11] rfl (by decide +kernel)
set_option maxRecDepth 100000 in
theorem gX6_miss_X6_isSix : GoodIn wsX6_miss (va_wsS RX6 111 yX6_isSix wsX6_isSix) := goodIn_app (goodIn_of _ (by decide +kernel)) ggX6_miss_X6_isSix
set_option maxRecDepth 100000 in
theorem ggX6_miss_X6_in : GoodIn wsX6_miss wsX6_in := goodIn_r _ [11] rfl (by decide +kernel)
set_option maxRecDepth 100000 in
theorem gX6_miss_X6_in : GoodIn wsX6_miss (va_wsS RX6 61 yX6_in wsX6_in) := goodIn_app (goodIn_of _ (by decide +kernel)) ggX6_miss_X6_in
set_option maxRecDepth 100000 in
theorem ggX6_miss_X6_bits : GoodIn wsX6_miss wsX6_bits := goodIn_r _ [14] rfl (by decide +kernel)
set_option maxRecDepth 100000 in
theorem gX6_miss_X6_bits : GoodIn wsX6_miss (va_wsS RX6 81 yX6_bits wsX6_bits) := goodIn_app (goodIn_of _ (by decide +kernel)) ggX6_miss_X6_bits
set_option maxRecDepth 100000 in
theorem ggX6_miss_X6_solves : GoodIn wsX6_miss wsX6_solves := goodIn_r _ [18, 19, 20, 12, 13, 6, 14, 21, 22, 23, 24, 3, 2, 25, 26, 27, 28, 29, 30, 31, 32, 33, 34, 35, 36, 37, 38, 39, 40, 41, 42, 43, 62, 63, 64, 65, 66, 67, 68, 69, 70, 71, 72, 73, 74, 75, 76, 77, 78] rfl (by decide +kernel)
set_option maxRecDepth 100000 in
theorem gX6_miss_X6_solves : GoodIn wsX6_miss (wsV RX6 122 RX6 yX6_solves wsX6_solves) := goodIn_app (goodIn_of _ (by decide +kernel)) ggX6_miss_X6_solves
set_option maxRecDepth 100000 in
theorem ggX6_miss_X6_differs : GoodIn wsX6_miss wsX6_differs := goodIn_r _ [47, 3, 2, 25, 19, 27, 26, 62, 63, 64, 65, 66, 67, 68, 69, 70, 71, 72, 73, 74, 75, 76, 77, 78] rfl (by decide +kernel)
set_option maxRecDepth 100000 in
theorem gX6_miss_X6_differs : GoodIn wsX6_miss (wsV RX6 135 RX6 yX6_differs wsX6_differs) := goodIn_app (goodIn_of _ (by decide +kernel)) ggX6_miss_X6_differs
set_option maxRecDepth 100000 in
theorem ggX6_miss_X6_isLess : GoodIn wsX6_miss wsX6_isLess := goodIn_r _ [51, 19, 52, 62, 63, 64, 65, 66, 67, 68, 69, 70, 71, 72, 73, 74, 75, 76, 77, 78] rfl (by decide +kernel)
set_option maxRecDepth 100000 in
theorem gX6_miss_X6_isLess : GoodIn wsX6_miss (wsV RX6 138 RX6 yX6_isLess wsX6_isLess) := goodIn_app (goodIn_of _ (by decide +kernel)) ggX6_miss_X6_isLess
set_option maxRecDepth 100000 in
theorem ggX6_miss_X6_isBest : GoodIn wsX6_miss wsX6_isBest := goodIn_r _ [56, 52, 19, 62, 63, 64, 65, 66, 67, 68, 69, 70, 71, 72, 73, 74, 75, 76, 77, 78] rfl (by decide +kernel)
set_option maxRecDepth 100000 in
theorem gX6_miss_X6_isBest : GoodIn wsX6_miss (wsV RX6 126 RX6 yX6_isBest wsX6_isBest) := goodIn_app (goodIn_of _ (by decide +kernel)) ggX6_miss_X6_isBest
set_option maxRecDepth 100000 in
theorem ggX6_miss_X6_keeps : GoodIn wsX6_miss wsX6_keeps := goodIn_r _ [60, 61, 52, 62, 63, 64, 65, 66, 67, 68, 69, 70, 71, 72, 73, 74, 75, 76, 77, 78] rfl (by decide +kernel)
set_option maxRecDepth 100000 in
theorem gX6_miss_X6_keeps : GoodIn wsX6_miss (wsV RX6 129 RX6 yX6_keeps wsX6_keeps) := goodIn_app (goodIn_of _ (by decide +kernel)) ggX6_miss_X6_keeps
theorem dX6_miss_0 : decode cX6_miss 0 = .ok (.iload_n 1, 1) := by decide +kernel
theorem dX6_miss_1 : decode cX6_miss 1 = .ok (.invokestatic 111, 3) := by decide +kernel
theorem dX6_miss_4 : decode cX6_miss 4 = .ok (.ifCond .eq 35, 3) := by decide +kernel
theorem dX6_miss_7 : decode cX6_miss 7 = .ok (.iload_n 2, 1) := by decide +kernel
theorem dX6_miss_8 : decode cX6_miss 8 = .ok (.invokestatic 111, 3) := by decide +kernel
theorem dX6_miss_11 : decode cX6_miss 11 = .ok (.ifCond .eq 28, 3) := by decide +kernel
theorem dX6_miss_14 : decode cX6_miss 14 = .ok (.iload_n 3, 1) := by decide +kernel
theorem dX6_miss_15 : decode cX6_miss 15 = .ok (.i2l, 1) := by decide +kernel
theorem dX6_miss_16 : decode cX6_miss 16 = .ok (.lconst 0, 1) := by decide +kernel
theorem dX6_miss_17 : decode cX6_miss 17 = .ok (.ldc2_w 133, 3) := by decide +kernel
theorem dX6_miss_20 : decode cX6_miss 20 = .ok (.invokestatic 61, 3) := by decide +kernel
theorem dX6_miss_23 : decode cX6_miss 23 = .ok (.ifCond .eq 16, 3) := by decide +kernel
theorem dX6_miss_26 : decode cX6_miss 26 = .ok (.iload 4, 2) := by decide +kernel
theorem dX6_miss_28 : decode cX6_miss 28 = .ok (.i2l, 1) := by decide +kernel
theorem dX6_miss_29 : decode cX6_miss 29 = .ok (.lconst 0, 1) := by decide +kernel
theorem dX6_miss_30 : decode cX6_miss 30 = .ok (.ldc2_w 133, 3) := by decide +kernel
theorem dX6_miss_33 : decode cX6_miss 33 = .ok (.invokestatic 61, 3) := by decide +kernel
theorem dX6_miss_36 : decode cX6_miss 36 = .ok (.ifCond .ne 5, 3) := by decide +kernel
theorem dX6_miss_39 : decode cX6_miss 39 = .ok (.iconst (-1), 1) := by decide +kernel
theorem dX6_miss_40 : decode cX6_miss 40 = .ok (.ireturn, 1) := by decide +kernel
theorem dX6_miss_41 : decode cX6_miss 41 = .ok (.iconst 0, 1) := by decide +kernel
theorem dX6_miss_42 : decode cX6_miss 42 = .ok (.istore 5, 2) := by decide +kernel
theorem dX6_miss_44 : decode cX6_miss 44 = .ok (.iload 5, 2) := by decide +kernel
theorem dX6_miss_46 : decode cX6_miss 46 = .ok (.iload_n 3, 1) := by decide +kernel
theorem dX6_miss_47 : decode cX6_miss 47 = .ok (.if_icmp .gt 156, 3) := by decide +kernel
theorem dX6_miss_50 : decode cX6_miss 50 = .ok (.bipush 99, 2) := by decide +kernel
theorem dX6_miss_52 : decode cX6_miss 52 = .ok (.istore 6, 2) := by decide +kernel
theorem dX6_miss_54 : decode cX6_miss 54 = .ok (.iconst 0, 1) := by decide +kernel
theorem dX6_miss_55 : decode cX6_miss 55 = .ok (.istore 7, 2) := by decide +kernel
theorem dX6_miss_57 : decode cX6_miss 57 = .ok (.iconst 0, 1) := by decide +kernel
theorem dX6_miss_58 : decode cX6_miss 58 = .ok (.istore 8, 2) := by decide +kernel
theorem dX6_miss_60 : decode cX6_miss 60 = .ok (.iload 8, 2) := by decide +kernel
theorem dX6_miss_62 : decode cX6_miss 62 = .ok (.iconst 1, 1) := by decide +kernel
theorem dX6_miss_63 : decode cX6_miss 63 = .ok (.aload_n 0, 1) := by decide +kernel
theorem dX6_miss_64 : decode cX6_miss 64 = .ok (.getfield 16, 3) := by decide +kernel
theorem dX6_miss_67 : decode cX6_miss 67 = .ok (.ishl, 1) := by decide +kernel
theorem dX6_miss_68 : decode cX6_miss 68 = .ok (.if_icmp .ge 108, 3) := by decide +kernel
theorem dX6_miss_71 : decode cX6_miss 71 = .ok (.iconst 0, 1) := by decide +kernel
theorem dX6_miss_72 : decode cX6_miss 72 = .ok (.istore 9, 2) := by decide +kernel
theorem dX6_miss_74 : decode cX6_miss 74 = .ok (.iload 9, 2) := by decide +kernel
theorem dX6_miss_76 : decode cX6_miss 76 = .ok (.iconst 1, 1) := by decide +kernel
theorem dX6_miss_77 : decode cX6_miss 77 = .ok (.aload_n 0, 1) := by decide +kernel
theorem dX6_miss_78 : decode cX6_miss 78 = .ok (.getfield 13, 3) := by decide +kernel
theorem dX6_miss_81 : decode cX6_miss 81 = .ok (.ishl, 1) := by decide +kernel
theorem dX6_miss_82 : decode cX6_miss 82 = .ok (.if_icmp .ge 88, 3) := by decide +kernel
theorem dX6_miss_85 : decode cX6_miss 85 = .ok (.iload 8, 2) := by decide +kernel
theorem dX6_miss_87 : decode cX6_miss 87 = .ok (.invokestatic 81, 3) := by decide +kernel
theorem dX6_miss_90 : decode cX6_miss 90 = .ok (.iload 5, 2) := by decide +kernel
theorem dX6_miss_92 : decode cX6_miss 92 = .ok (.if_icmp .ne 78, 3) := by decide +kernel
theorem dX6_miss_95 : decode cX6_miss 95 = .ok (.iload 9, 2) := by decide +kernel
theorem dX6_miss_97 : decode cX6_miss 97 = .ok (.invokestatic 81, 3) := by decide +kernel
theorem dX6_miss_100 : decode cX6_miss 100 = .ok (.iload 4, 2) := by decide +kernel
theorem dX6_miss_102 : decode cX6_miss 102 = .ok (.if_icmp .gt 62, 3) := by decide +kernel
theorem dX6_miss_105 : decode cX6_miss 105 = .ok (.aload_n 0, 1) := by decide +kernel
theorem dX6_miss_106 : decode cX6_miss 106 = .ok (.iload 8, 2) := by decide +kernel
theorem dX6_miss_108 : decode cX6_miss 108 = .ok (.iload 9, 2) := by decide +kernel
theorem dX6_miss_110 : decode cX6_miss 110 = .ok (.iload_n 2, 1) := by decide +kernel
theorem dX6_miss_111 : decode cX6_miss 111 = .ok (.invokevirtual 122, 3) := by decide +kernel
theorem dX6_miss_114 : decode cX6_miss 114 = .ok (.ifCond .eq 50, 3) := by decide +kernel
theorem dX6_miss_117 : decode cX6_miss 117 = .ok (.aload_n 0, 1) := by decide +kernel
theorem dX6_miss_118 : decode cX6_miss 118 = .ok (.iload_n 2, 1) := by decide +kernel
theorem dX6_miss_119 : decode cX6_miss 119 = .ok (.invokevirtual 135, 3) := by decide +kernel
theorem dX6_miss_122 : decode cX6_miss 122 = .ok (.istore 10, 2) := by decide +kernel
theorem dX6_miss_124 : decode cX6_miss 124 = .ok (.iload 10, 2) := by decide +kernel
theorem dX6_miss_126 : decode cX6_miss 126 = .ok (.iload 6, 2) := by decide +kernel
theorem dX6_miss_128 : decode cX6_miss 128 = .ok (.if_icmp .lt 24, 3) := by decide +kernel
theorem dX6_miss_131 : decode cX6_miss 131 = .ok (.iload 10, 2) := by decide +kernel
theorem dX6_miss_133 : decode cX6_miss 133 = .ok (.iload 6, 2) := by decide +kernel
theorem dX6_miss_135 : decode cX6_miss 135 = .ok (.if_icmp .ne 29, 3) := by decide +kernel
theorem dX6_miss_138 : decode cX6_miss 138 = .ok (.iload 8, 2) := by decide +kernel
theorem dX6_miss_140 : decode cX6_miss 140 = .ok (.iload 7, 2) := by decide +kernel
theorem dX6_miss_142 : decode cX6_miss 142 = .ok (.if_icmp .ne 22, 3) := by decide +kernel
theorem dX6_miss_145 : decode cX6_miss 145 = .ok (.aload_n 0, 1) := by decide +kernel
theorem dX6_miss_146 : decode cX6_miss 146 = .ok (.invokevirtual 138, 3) := by decide +kernel
theorem dX6_miss_149 : decode cX6_miss 149 = .ok (.ifCond .eq 15, 3) := by decide +kernel
theorem dX6_miss_152 : decode cX6_miss 152 = .ok (.iload 10, 2) := by decide +kernel
theorem dX6_miss_154 : decode cX6_miss 154 = .ok (.istore 6, 2) := by decide +kernel
theorem dX6_miss_156 : decode cX6_miss 156 = .ok (.iload 8, 2) := by decide +kernel
theorem dX6_miss_158 : decode cX6_miss 158 = .ok (.istore 7, 2) := by decide +kernel
theorem dX6_miss_160 : decode cX6_miss 160 = .ok (.aload_n 0, 1) := by decide +kernel
theorem dX6_miss_161 : decode cX6_miss 161 = .ok (.invokevirtual 126, 3) := by decide +kernel
theorem dX6_miss_164 : decode cX6_miss 164 = .ok (.iinc 9 1, 3) := by decide +kernel
theorem dX6_miss_167 : decode cX6_miss 167 = .ok (.goto (-93), 3) := by decide +kernel
theorem dX6_miss_170 : decode cX6_miss 170 = .ok (.iinc 8 1, 3) := by decide +kernel
theorem dX6_miss_173 : decode cX6_miss 173 = .ok (.goto (-113), 3) := by decide +kernel
theorem dX6_miss_176 : decode cX6_miss 176 = .ok (.iload 6, 2) := by decide +kernel
theorem dX6_miss_178 : decode cX6_miss 178 = .ok (.bipush 99, 2) := by decide +kernel
theorem dX6_miss_180 : decode cX6_miss 180 = .ok (.if_icmp .ge 17, 3) := by decide +kernel
theorem dX6_miss_183 : decode cX6_miss 183 = .ok (.aload_n 0, 1) := by decide +kernel
theorem dX6_miss_184 : decode cX6_miss 184 = .ok (.iload_n 1, 1) := by decide +kernel
theorem dX6_miss_185 : decode cX6_miss 185 = .ok (.invokevirtual 129, 3) := by decide +kernel
theorem dX6_miss_188 : decode cX6_miss 188 = .ok (.iload 5, 2) := by decide +kernel
theorem dX6_miss_190 : decode cX6_miss 190 = .ok (.bipush 100, 2) := by decide +kernel
theorem dX6_miss_192 : decode cX6_miss 192 = .ok (.iload 6, 2) := by decide +kernel
theorem dX6_miss_194 : decode cX6_miss 194 = .ok (.imul, 1) := by decide +kernel
theorem dX6_miss_195 : decode cX6_miss 195 = .ok (.iadd, 1) := by decide +kernel
theorem dX6_miss_196 : decode cX6_miss 196 = .ok (.ireturn, 1) := by decide +kernel
theorem dX6_miss_197 : decode cX6_miss 197 = .ok (.iinc 5 1, 3) := by decide +kernel
theorem dX6_miss_200 : decode cX6_miss 200 = .ok (.goto (-156), 3) := by decide +kernel
theorem dX6_miss_203 : decode cX6_miss 203 = .ok (.bipush (-2), 2) := by decide +kernel
theorem dX6_miss_205 : decode cX6_miss 205 = .ok (.ireturn, 1) := by decide +kernel
set_option maxRecDepth 100000 in
theorem ggX6_without_X6_by : GoodIn wsX6_without wsX6_by := goodIn_r _ [8, 9, 10, 11, 12, 13, 14, 15, 16, 17, 18, 19, 20, 21, 22, 23, 24, 25, 26] rfl (by decide +kernel)
set_option maxRecDepth 100000 in
theorem gX6_without_X6_by : GoodIn wsX6_without (wsV RX6 77 RX6 yX6_by wsX6_by) := goodIn_app (goodIn_of _ (by decide +kernel)) ggX6_without_X6_by
theorem dX6_without_0 : decode cX6_without 0 = .ok (.iconst 0, 1) := by decide +kernel
theorem dX6_without_1 : decode cX6_without 1 = .ok (.istore_n 3, 1) := by decide +kernel
theorem dX6_without_2 : decode cX6_without 2 = .ok (.iconst 0, 1) := by decide +kernel
theorem dX6_without_3 : decode cX6_without 3 = .ok (.istore 4, 2) := by decide +kernel
theorem dX6_without_5 : decode cX6_without 5 = .ok (.iload 4, 2) := by decide +kernel
theorem dX6_without_7 : decode cX6_without 7 = .ok (.aload_n 0, 1) := by decide +kernel
theorem dX6_without_8 : decode cX6_without 8 = .ok (.getfield 13, 3) := by decide +kernel
theorem dX6_without_11 : decode cX6_without 11 = .ok (.if_icmp .ge 46, 3) := by decide +kernel
theorem dX6_without_14 : decode cX6_without 14 = .ok (.iload_n 3, 1) := by decide +kernel
theorem dX6_without_15 : decode cX6_without 15 = .ok (.aload_n 0, 1) := by decide +kernel
theorem dX6_without_16 : decode cX6_without 16 = .ok (.aload_n 0, 1) := by decide +kernel
theorem dX6_without_17 : decode cX6_without 17 = .ok (.getfield 54, 3) := by decide +kernel
theorem dX6_without_20 : decode cX6_without 20 = .ok (.iload 4, 2) := by decide +kernel
theorem dX6_without_22 : decode cX6_without 22 = .ok (.iaload, 1) := by decide +kernel
theorem dX6_without_23 : decode cX6_without 23 = .ok (.iload_n 2, 1) := by decide +kernel
theorem dX6_without_24 : decode cX6_without 24 = .ok (.aload_n 0, 1) := by decide +kernel
theorem dX6_without_25 : decode cX6_without 25 = .ok (.getfield 19, 3) := by decide +kernel
theorem dX6_without_28 : decode cX6_without 28 = .ok (.bipush 12, 2) := by decide +kernel
theorem dX6_without_30 : decode cX6_without 30 = .ok (.iload 4, 2) := by decide +kernel
theorem dX6_without_32 : decode cX6_without 32 = .ok (.imul, 1) := by decide +kernel
theorem dX6_without_33 : decode cX6_without 33 = .ok (.iload_n 1, 1) := by decide +kernel
theorem dX6_without_34 : decode cX6_without 34 = .ok (.iadd, 1) := by decide +kernel
theorem dX6_without_35 : decode cX6_without 35 = .ok (.iaload, 1) := by decide +kernel
theorem dX6_without_36 : decode cX6_without 36 = .ok (.imul, 1) := by decide +kernel
theorem dX6_without_37 : decode cX6_without 37 = .ok (.isub, 1) := by decide +kernel
theorem dX6_without_38 : decode cX6_without 38 = .ok (.invokevirtual 77, 3) := by decide +kernel
theorem dX6_without_41 : decode cX6_without 41 = .ok (.ifCond .ne 7, 3) := by decide +kernel
theorem dX6_without_44 : decode cX6_without 44 = .ok (.iconst 0, 1) := by decide +kernel
theorem dX6_without_45 : decode cX6_without 45 = .ok (.goto 4, 3) := by decide +kernel
theorem dX6_without_48 : decode cX6_without 48 = .ok (.iconst 1, 1) := by decide +kernel
theorem dX6_without_49 : decode cX6_without 49 = .ok (.iadd, 1) := by decide +kernel
theorem dX6_without_50 : decode cX6_without 50 = .ok (.istore_n 3, 1) := by decide +kernel
theorem dX6_without_51 : decode cX6_without 51 = .ok (.iinc 4 1, 3) := by decide +kernel
theorem dX6_without_54 : decode cX6_without 54 = .ok (.goto (-49), 3) := by decide +kernel
theorem dX6_without_57 : decode cX6_without 57 = .ok (.iload_n 3, 1) := by decide +kernel
theorem dX6_without_58 : decode cX6_without 58 = .ok (.ireturn, 1) := by decide +kernel
set_option maxRecDepth 100000 in
theorem ggX6_greedy_X6_isSix : GoodIn wsX6_greedy wsX6_isSix := goodIn_r _ [12, 13, 14, 15, 11, 16] rfl (by decide +kernel)
set_option maxRecDepth 100000 in
theorem gX6_greedy_X6_isSix : GoodIn wsX6_greedy (va_wsS RX6 111 yX6_isSix wsX6_isSix) := goodIn_app (goodIn_of _ (by decide +kernel)) ggX6_greedy_X6_isSix
set_option maxRecDepth 100000 in
theorem ggX6_greedy_X6_in : GoodIn wsX6_greedy wsX6_in := goodIn_r _ [16] rfl (by decide +kernel)
set_option maxRecDepth 100000 in
theorem gX6_greedy_X6_in : GoodIn wsX6_greedy (va_wsS RX6 61 yX6_in wsX6_in) := goodIn_app (goodIn_of _ (by decide +kernel)) ggX6_greedy_X6_in
set_option maxRecDepth 100000 in
theorem ggX6_greedy_X6_weight : GoodIn wsX6_greedy wsX6_weight := goodIn_r _ [20] rfl (by decide +kernel)
set_option maxRecDepth 100000 in
theorem gX6_greedy_X6_weight : GoodIn wsX6_greedy (wsV RX6 114 RX6 yX6_weight wsX6_weight) := goodIn_app (goodIn_of _ (by decide +kernel)) ggX6_greedy_X6_weight
set_option maxRecDepth 100000 in
theorem ggX6_greedy_X6_without : GoodIn wsX6_greedy wsX6_without := goodIn_r _ [24, 2, 3, 8, 25, 26, 27, 11, 28, 7, 57, 58, 59, 60, 61, 62, 63, 64, 65, 66, 67, 68, 69, 70, 71, 72, 73] rfl (by decide +kernel)
set_option maxRecDepth 100000 in
theorem gX6_greedy_X6_without : GoodIn wsX6_greedy (wsV RX6 144 RX6 yX6_without wsX6_without) := goodIn_app (goodIn_of _ (by decide +kernel)) ggX6_greedy_X6_without
set_option maxRecDepth 100000 in
theorem ggX6_greedy_X6_by : GoodIn wsX6_greedy wsX6_by := goodIn_r _ [28, 7, 57, 58, 59, 60, 61, 62, 63, 64, 65, 66, 67, 68, 69, 70, 71, 72, 73] rfl (by decide +kernel)
set_option maxRecDepth 100000 in
theorem gX6_greedy_X6_by : GoodIn wsX6_greedy (wsV RX6 77 RX6 yX6_by wsX6_by) := goodIn_app (goodIn_of _ (by decide +kernel)) ggX6_greedy_X6_by
set_option maxRecDepth 100000 in
theorem ggX6_greedy_X6_spark : GoodIn wsX6_greedy wsX6_spark := goodIn_r _ [32, 6, 33, 34, 11, 35, 36, 37, 38, 39, 40, 41, 42, 43, 2, 44, 8, 4, 7, 45, 46, 47, 48, 49, 50, 51, 52, 53, 54, 55, 56, 25, 26, 27, 28, 57, 58, 59, 60, 61, 62, 63, 64, 65, 66, 67, 68, 69, 70, 71, 72, 73] rfl (by decide +kernel)
set_option maxRecDepth 100000 in
theorem gX6_greedy_X6_spark : GoodIn wsX6_greedy (wsV RX6 102 RX6 yX6_spark wsX6_spark) := goodIn_app (goodIn_of _ (by decide +kernel)) ggX6_greedy_X6_spark
theorem dX6_greedy_0 : decode cX6_greedy 0 = .ok (.iload_n 1, 1) := by decide +kernel
theorem dX6_greedy_1 : decode cX6_greedy 1 = .ok (.invokestatic 111, 3) := by decide +kernel
theorem dX6_greedy_4 : decode cX6_greedy 4 = .ok (.ifCond .eq 22, 3) := by decide +kernel
theorem dX6_greedy_7 : decode cX6_greedy 7 = .ok (.iload_n 2, 1) := by decide +kernel
theorem dX6_greedy_8 : decode cX6_greedy 8 = .ok (.invokestatic 111, 3) := by decide +kernel
theorem dX6_greedy_11 : decode cX6_greedy 11 = .ok (.ifCond .eq 15, 3) := by decide +kernel
theorem dX6_greedy_14 : decode cX6_greedy 14 = .ok (.iload_n 3, 1) := by decide +kernel
theorem dX6_greedy_15 : decode cX6_greedy 15 = .ok (.i2l, 1) := by decide +kernel
theorem dX6_greedy_16 : decode cX6_greedy 16 = .ok (.lconst 0, 1) := by decide +kernel
theorem dX6_greedy_17 : decode cX6_greedy 17 = .ok (.ldc2_w 142, 3) := by decide +kernel
theorem dX6_greedy_20 : decode cX6_greedy 20 = .ok (.invokestatic 61, 3) := by decide +kernel
theorem dX6_greedy_23 : decode cX6_greedy 23 = .ok (.ifCond .ne 5, 3) := by decide +kernel
theorem dX6_greedy_26 : decode cX6_greedy 26 = .ok (.iconst (-1), 1) := by decide +kernel
theorem dX6_greedy_27 : decode cX6_greedy 27 = .ok (.ireturn, 1) := by decide +kernel
theorem dX6_greedy_28 : decode cX6_greedy 28 = .ok (.iconst 0, 1) := by decide +kernel
theorem dX6_greedy_29 : decode cX6_greedy 29 = .ok (.istore 4, 2) := by decide +kernel
theorem dX6_greedy_31 : decode cX6_greedy 31 = .ok (.iload 4, 2) := by decide +kernel
theorem dX6_greedy_33 : decode cX6_greedy 33 = .ok (.aload_n 0, 1) := by decide +kernel
theorem dX6_greedy_34 : decode cX6_greedy 34 = .ok (.getfield 13, 3) := by decide +kernel
theorem dX6_greedy_37 : decode cX6_greedy 37 = .ok (.if_icmp .ge 28, 3) := by decide +kernel
theorem dX6_greedy_40 : decode cX6_greedy 40 = .ok (.aload_n 0, 1) := by decide +kernel
theorem dX6_greedy_41 : decode cX6_greedy 41 = .ok (.getfield 54, 3) := by decide +kernel
theorem dX6_greedy_44 : decode cX6_greedy 44 = .ok (.iload 4, 2) := by decide +kernel
theorem dX6_greedy_46 : decode cX6_greedy 46 = .ok (.aload_n 0, 1) := by decide +kernel
theorem dX6_greedy_47 : decode cX6_greedy 47 = .ok (.getfield 26, 3) := by decide +kernel
theorem dX6_greedy_50 : decode cX6_greedy 50 = .ok (.bipush 6, 2) := by decide +kernel
theorem dX6_greedy_52 : decode cX6_greedy 52 = .ok (.iload_n 2, 1) := by decide +kernel
theorem dX6_greedy_53 : decode cX6_greedy 53 = .ok (.imul, 1) := by decide +kernel
theorem dX6_greedy_54 : decode cX6_greedy 54 = .ok (.iload 4, 2) := by decide +kernel
theorem dX6_greedy_56 : decode cX6_greedy 56 = .ok (.iadd, 1) := by decide +kernel
theorem dX6_greedy_57 : decode cX6_greedy 57 = .ok (.iaload, 1) := by decide +kernel
theorem dX6_greedy_58 : decode cX6_greedy 58 = .ok (.iastore, 1) := by decide +kernel
theorem dX6_greedy_59 : decode cX6_greedy 59 = .ok (.iinc 4 1, 3) := by decide +kernel
theorem dX6_greedy_62 : decode cX6_greedy 62 = .ok (.goto (-31), 3) := by decide +kernel
theorem dX6_greedy_65 : decode cX6_greedy 65 = .ok (.aload_n 0, 1) := by decide +kernel
theorem dX6_greedy_66 : decode cX6_greedy 66 = .ok (.aload_n 0, 1) := by decide +kernel
theorem dX6_greedy_67 : decode cX6_greedy 67 = .ok (.getfield 54, 3) := by decide +kernel
theorem dX6_greedy_70 : decode cX6_greedy 70 = .ok (.iconst 0, 1) := by decide +kernel
theorem dX6_greedy_71 : decode cX6_greedy 71 = .ok (.aload_n 0, 1) := by decide +kernel
theorem dX6_greedy_72 : decode cX6_greedy 72 = .ok (.getfield 13, 3) := by decide +kernel
theorem dX6_greedy_75 : decode cX6_greedy 75 = .ok (.invokevirtual 114, 3) := by decide +kernel
theorem dX6_greedy_78 : decode cX6_greedy 78 = .ok (.istore 4, 2) := by decide +kernel
theorem dX6_greedy_80 : decode cX6_greedy 80 = .ok (.iconst 0, 1) := by decide +kernel
theorem dX6_greedy_81 : decode cX6_greedy 81 = .ok (.istore 5, 2) := by decide +kernel
theorem dX6_greedy_83 : decode cX6_greedy 83 = .ok (.iconst 0, 1) := by decide +kernel
theorem dX6_greedy_84 : decode cX6_greedy 84 = .ok (.istore 6, 2) := by decide +kernel
theorem dX6_greedy_86 : decode cX6_greedy 86 = .ok (.iload 6, 2) := by decide +kernel
theorem dX6_greedy_88 : decode cX6_greedy 88 = .ok (.bipush 12, 2) := by decide +kernel
theorem dX6_greedy_90 : decode cX6_greedy 90 = .ok (.if_icmp .ge 22, 3) := by decide +kernel
theorem dX6_greedy_93 : decode cX6_greedy 93 = .ok (.aload_n 0, 1) := by decide +kernel
theorem dX6_greedy_94 : decode cX6_greedy 94 = .ok (.getfield 23, 3) := by decide +kernel
theorem dX6_greedy_97 : decode cX6_greedy 97 = .ok (.bipush 12, 2) := by decide +kernel
theorem dX6_greedy_99 : decode cX6_greedy 99 = .ok (.iload_n 1, 1) := by decide +kernel
theorem dX6_greedy_100 : decode cX6_greedy 100 = .ok (.imul, 1) := by decide +kernel
theorem dX6_greedy_101 : decode cX6_greedy 101 = .ok (.iload 6, 2) := by decide +kernel
theorem dX6_greedy_103 : decode cX6_greedy 103 = .ok (.iadd, 1) := by decide +kernel
theorem dX6_greedy_104 : decode cX6_greedy 104 = .ok (.iconst 0, 1) := by decide +kernel
theorem dX6_greedy_105 : decode cX6_greedy 105 = .ok (.iastore, 1) := by decide +kernel
theorem dX6_greedy_106 : decode cX6_greedy 106 = .ok (.iinc 6 1, 3) := by decide +kernel
theorem dX6_greedy_109 : decode cX6_greedy 109 = .ok (.goto (-23), 3) := by decide +kernel
theorem dX6_greedy_112 : decode cX6_greedy 112 = .ok (.iconst 1, 1) := by decide +kernel
theorem dX6_greedy_113 : decode cX6_greedy 113 = .ok (.istore 6, 2) := by decide +kernel
theorem dX6_greedy_115 : decode cX6_greedy 115 = .ok (.iconst 0, 1) := by decide +kernel
theorem dX6_greedy_116 : decode cX6_greedy 116 = .ok (.istore 7, 2) := by decide +kernel
theorem dX6_greedy_118 : decode cX6_greedy 118 = .ok (.iload 7, 2) := by decide +kernel
theorem dX6_greedy_120 : decode cX6_greedy 120 = .ok (.iload_n 3, 1) := by decide +kernel
theorem dX6_greedy_121 : decode cX6_greedy 121 = .ok (.if_icmp .ge 203, 3) := by decide +kernel
theorem dX6_greedy_124 : decode cX6_greedy 124 = .ok (.iload 4, 2) := by decide +kernel
theorem dX6_greedy_126 : decode cX6_greedy 126 = .ok (.ifCond .le 198, 3) := by decide +kernel
theorem dX6_greedy_129 : decode cX6_greedy 129 = .ok (.iload 6, 2) := by decide +kernel
theorem dX6_greedy_131 : decode cX6_greedy 131 = .ok (.ifCond .eq 193, 3) := by decide +kernel
theorem dX6_greedy_134 : decode cX6_greedy 134 = .ok (.iconst (-1), 1) := by decide +kernel
theorem dX6_greedy_135 : decode cX6_greedy 135 = .ok (.istore 8, 2) := by decide +kernel
theorem dX6_greedy_137 : decode cX6_greedy 137 = .ok (.iconst 0, 1) := by decide +kernel
theorem dX6_greedy_138 : decode cX6_greedy 138 = .ok (.istore 9, 2) := by decide +kernel
theorem dX6_greedy_140 : decode cX6_greedy 140 = .ok (.iload 4, 2) := by decide +kernel
theorem dX6_greedy_142 : decode cX6_greedy 142 = .ok (.istore 10, 2) := by decide +kernel
theorem dX6_greedy_144 : decode cX6_greedy 144 = .ok (.iconst 0, 1) := by decide +kernel
theorem dX6_greedy_145 : decode cX6_greedy 145 = .ok (.istore 11, 2) := by decide +kernel
theorem dX6_greedy_147 : decode cX6_greedy 147 = .ok (.iload 11, 2) := by decide +kernel
theorem dX6_greedy_149 : decode cX6_greedy 149 = .ok (.aload_n 0, 1) := by decide +kernel
theorem dX6_greedy_150 : decode cX6_greedy 150 = .ok (.getfield 16, 3) := by decide +kernel
theorem dX6_greedy_153 : decode cX6_greedy 153 = .ok (.if_icmp .ge 68, 3) := by decide +kernel
theorem dX6_greedy_156 : decode cX6_greedy 156 = .ok (.iconst 0, 1) := by decide +kernel
theorem dX6_greedy_157 : decode cX6_greedy 157 = .ok (.istore 12, 2) := by decide +kernel
theorem dX6_greedy_159 : decode cX6_greedy 159 = .ok (.iload 12, 2) := by decide +kernel
theorem dX6_greedy_161 : decode cX6_greedy 161 = .ok (.aload_n 0, 1) := by decide +kernel
theorem dX6_greedy_162 : decode cX6_greedy 162 = .ok (.getfield 7, 3) := by decide +kernel
theorem dX6_greedy_165 : decode cX6_greedy 165 = .ok (.if_icmp .ge 50, 3) := by decide +kernel
theorem dX6_greedy_168 : decode cX6_greedy 168 = .ok (.iload 5, 2) := by decide +kernel
theorem dX6_greedy_170 : decode cX6_greedy 170 = .ok (.iload 11, 2) := by decide +kernel
theorem dX6_greedy_172 : decode cX6_greedy 172 = .ok (.ishr, 1) := by decide +kernel
theorem dX6_greedy_173 : decode cX6_greedy 173 = .ok (.iconst 1, 1) := by decide +kernel
theorem dX6_greedy_174 : decode cX6_greedy 174 = .ok (.iand, 1) := by decide +kernel
theorem dX6_greedy_175 : decode cX6_greedy 175 = .ok (.ifCond .ne 40, 3) := by decide +kernel
theorem dX6_greedy_178 : decode cX6_greedy 178 = .ok (.aload_n 0, 1) := by decide +kernel
theorem dX6_greedy_179 : decode cX6_greedy 179 = .ok (.iload 11, 2) := by decide +kernel
theorem dX6_greedy_181 : decode cX6_greedy 181 = .ok (.iload 12, 2) := by decide +kernel
theorem dX6_greedy_183 : decode cX6_greedy 183 = .ok (.invokevirtual 144, 3) := by decide +kernel
theorem dX6_greedy_186 : decode cX6_greedy 186 = .ok (.iload 10, 2) := by decide +kernel
theorem dX6_greedy_188 : decode cX6_greedy 188 = .ok (.if_icmp .ge 21, 3) := by decide +kernel
theorem dX6_greedy_191 : decode cX6_greedy 191 = .ok (.aload_n 0, 1) := by decide +kernel
theorem dX6_greedy_192 : decode cX6_greedy 192 = .ok (.iload 11, 2) := by decide +kernel
theorem dX6_greedy_194 : decode cX6_greedy 194 = .ok (.iload 12, 2) := by decide +kernel
theorem dX6_greedy_196 : decode cX6_greedy 196 = .ok (.invokevirtual 144, 3) := by decide +kernel
theorem dX6_greedy_199 : decode cX6_greedy 199 = .ok (.istore 10, 2) := by decide +kernel
theorem dX6_greedy_201 : decode cX6_greedy 201 = .ok (.iload 11, 2) := by decide +kernel
theorem dX6_greedy_203 : decode cX6_greedy 203 = .ok (.istore 8, 2) := by decide +kernel
theorem dX6_greedy_205 : decode cX6_greedy 205 = .ok (.iload 12, 2) := by decide +kernel
theorem dX6_greedy_207 : decode cX6_greedy 207 = .ok (.istore 9, 2) := by decide +kernel
theorem dX6_greedy_209 : decode cX6_greedy 209 = .ok (.iinc 12 1, 3) := by decide +kernel
theorem dX6_greedy_212 : decode cX6_greedy 212 = .ok (.goto (-53), 3) := by decide +kernel
theorem dX6_greedy_215 : decode cX6_greedy 215 = .ok (.iinc 11 1, 3) := by decide +kernel
theorem dX6_greedy_218 : decode cX6_greedy 218 = .ok (.goto (-71), 3) := by decide +kernel
theorem dX6_greedy_221 : decode cX6_greedy 221 = .ok (.iload 8, 2) := by decide +kernel
theorem dX6_greedy_223 : decode cX6_greedy 223 = .ok (.ifCond .lt 7, 3) := by decide +kernel
theorem dX6_greedy_226 : decode cX6_greedy 226 = .ok (.iconst 1, 1) := by decide +kernel
theorem dX6_greedy_227 : decode cX6_greedy 227 = .ok (.goto 4, 3) := by decide +kernel
theorem dX6_greedy_230 : decode cX6_greedy 230 = .ok (.iconst 0, 1) := by decide +kernel
theorem dX6_greedy_231 : decode cX6_greedy 231 = .ok (.istore 6, 2) := by decide +kernel
theorem dX6_greedy_233 : decode cX6_greedy 233 = .ok (.iload 6, 2) := by decide +kernel
theorem dX6_greedy_235 : decode cX6_greedy 235 = .ok (.ifCond .eq 83, 3) := by decide +kernel
theorem dX6_greedy_238 : decode cX6_greedy 238 = .ok (.iconst 0, 1) := by decide +kernel
theorem dX6_greedy_239 : decode cX6_greedy 239 = .ok (.istore 11, 2) := by decide +kernel
theorem dX6_greedy_241 : decode cX6_greedy 241 = .ok (.iload 11, 2) := by decide +kernel
theorem dX6_greedy_243 : decode cX6_greedy 243 = .ok (.aload_n 0, 1) := by decide +kernel
theorem dX6_greedy_244 : decode cX6_greedy 244 = .ok (.getfield 13, 3) := by decide +kernel
theorem dX6_greedy_247 : decode cX6_greedy 247 = .ok (.if_icmp .ge 44, 3) := by decide +kernel
theorem dX6_greedy_250 : decode cX6_greedy 250 = .ok (.aload_n 0, 1) := by decide +kernel
theorem dX6_greedy_251 : decode cX6_greedy 251 = .ok (.getfield 54, 3) := by decide +kernel
theorem dX6_greedy_254 : decode cX6_greedy 254 = .ok (.iload 11, 2) := by decide +kernel
theorem dX6_greedy_256 : decode cX6_greedy 256 = .ok (.aload_n 0, 1) := by decide +kernel
theorem dX6_greedy_257 : decode cX6_greedy 257 = .ok (.aload_n 0, 1) := by decide +kernel
theorem dX6_greedy_258 : decode cX6_greedy 258 = .ok (.getfield 54, 3) := by decide +kernel
theorem dX6_greedy_261 : decode cX6_greedy 261 = .ok (.iload 11, 2) := by decide +kernel
theorem dX6_greedy_263 : decode cX6_greedy 263 = .ok (.iaload, 1) := by decide +kernel
theorem dX6_greedy_264 : decode cX6_greedy 264 = .ok (.iload 9, 2) := by decide +kernel
theorem dX6_greedy_266 : decode cX6_greedy 266 = .ok (.aload_n 0, 1) := by decide +kernel
theorem dX6_greedy_267 : decode cX6_greedy 267 = .ok (.getfield 19, 3) := by decide +kernel
theorem dX6_greedy_270 : decode cX6_greedy 270 = .ok (.bipush 12, 2) := by decide +kernel
theorem dX6_greedy_272 : decode cX6_greedy 272 = .ok (.iload 11, 2) := by decide +kernel
theorem dX6_greedy_274 : decode cX6_greedy 274 = .ok (.imul, 1) := by decide +kernel
theorem dX6_greedy_275 : decode cX6_greedy 275 = .ok (.iload 8, 2) := by decide +kernel
theorem dX6_greedy_277 : decode cX6_greedy 277 = .ok (.iadd, 1) := by decide +kernel
theorem dX6_greedy_278 : decode cX6_greedy 278 = .ok (.iaload, 1) := by decide +kernel
theorem dX6_greedy_279 : decode cX6_greedy 279 = .ok (.imul, 1) := by decide +kernel
theorem dX6_greedy_280 : decode cX6_greedy 280 = .ok (.isub, 1) := by decide +kernel
theorem dX6_greedy_281 : decode cX6_greedy 281 = .ok (.invokevirtual 77, 3) := by decide +kernel
theorem dX6_greedy_284 : decode cX6_greedy 284 = .ok (.iastore, 1) := by decide +kernel
theorem dX6_greedy_285 : decode cX6_greedy 285 = .ok (.iinc 11 1, 3) := by decide +kernel
theorem dX6_greedy_288 : decode cX6_greedy 288 = .ok (.goto (-47), 3) := by decide +kernel
theorem dX6_greedy_291 : decode cX6_greedy 291 = .ok (.aload_n 0, 1) := by decide +kernel
theorem dX6_greedy_292 : decode cX6_greedy 292 = .ok (.getfield 23, 3) := by decide +kernel
theorem dX6_greedy_295 : decode cX6_greedy 295 = .ok (.bipush 12, 2) := by decide +kernel
theorem dX6_greedy_297 : decode cX6_greedy 297 = .ok (.iload_n 1, 1) := by decide +kernel
theorem dX6_greedy_298 : decode cX6_greedy 298 = .ok (.imul, 1) := by decide +kernel
theorem dX6_greedy_299 : decode cX6_greedy 299 = .ok (.iload 8, 2) := by decide +kernel
theorem dX6_greedy_301 : decode cX6_greedy 301 = .ok (.iadd, 1) := by decide +kernel
theorem dX6_greedy_302 : decode cX6_greedy 302 = .ok (.iload 9, 2) := by decide +kernel
theorem dX6_greedy_304 : decode cX6_greedy 304 = .ok (.iastore, 1) := by decide +kernel
theorem dX6_greedy_305 : decode cX6_greedy 305 = .ok (.iload 5, 2) := by decide +kernel
theorem dX6_greedy_307 : decode cX6_greedy 307 = .ok (.iconst 1, 1) := by decide +kernel
theorem dX6_greedy_308 : decode cX6_greedy 308 = .ok (.iload 8, 2) := by decide +kernel
theorem dX6_greedy_310 : decode cX6_greedy 310 = .ok (.ishl, 1) := by decide +kernel
theorem dX6_greedy_311 : decode cX6_greedy 311 = .ok (.ior, 1) := by decide +kernel
theorem dX6_greedy_312 : decode cX6_greedy 312 = .ok (.istore 5, 2) := by decide +kernel
theorem dX6_greedy_314 : decode cX6_greedy 314 = .ok (.iload 10, 2) := by decide +kernel
theorem dX6_greedy_316 : decode cX6_greedy 316 = .ok (.istore 4, 2) := by decide +kernel
theorem dX6_greedy_318 : decode cX6_greedy 318 = .ok (.iinc 7 1, 3) := by decide +kernel
theorem dX6_greedy_321 : decode cX6_greedy 321 = .ok (.goto (-203), 3) := by decide +kernel
theorem dX6_greedy_324 : decode cX6_greedy 324 = .ok (.iload 4, 2) := by decide +kernel
theorem dX6_greedy_326 : decode cX6_greedy 326 = .ok (.ifCond .ne 32, 3) := by decide +kernel
theorem dX6_greedy_329 : decode cX6_greedy 329 = .ok (.iconst 2, 1) := by decide +kernel
theorem dX6_greedy_330 : decode cX6_greedy 330 = .ok (.aload_n 0, 1) := by decide +kernel
theorem dX6_greedy_331 : decode cX6_greedy 331 = .ok (.aload_n 0, 1) := by decide +kernel
theorem dX6_greedy_332 : decode cX6_greedy 332 = .ok (.getfield 23, 3) := by decide +kernel
theorem dX6_greedy_335 : decode cX6_greedy 335 = .ok (.bipush 12, 2) := by decide +kernel
theorem dX6_greedy_337 : decode cX6_greedy 337 = .ok (.iload_n 1, 1) := by decide +kernel
theorem dX6_greedy_338 : decode cX6_greedy 338 = .ok (.imul, 1) := by decide +kernel
theorem dX6_greedy_339 : decode cX6_greedy 339 = .ok (.aload_n 0, 1) := by decide +kernel
theorem dX6_greedy_340 : decode cX6_greedy 340 = .ok (.getfield 16, 3) := by decide +kernel
theorem dX6_greedy_343 : decode cX6_greedy 343 = .ok (.invokevirtual 114, 3) := by decide +kernel
theorem dX6_greedy_346 : decode cX6_greedy 346 = .ok (.imul, 1) := by decide +kernel
theorem dX6_greedy_347 : decode cX6_greedy 347 = .ok (.aload_n 0, 1) := by decide +kernel
theorem dX6_greedy_348 : decode cX6_greedy 348 = .ok (.invokevirtual 102, 3) := by decide +kernel
theorem dX6_greedy_351 : decode cX6_greedy 351 = .ok (.if_icmp .ge 7, 3) := by decide +kernel
theorem dX6_greedy_354 : decode cX6_greedy 354 = .ok (.iconst 1, 1) := by decide +kernel
theorem dX6_greedy_355 : decode cX6_greedy 355 = .ok (.goto 4, 3) := by decide +kernel
theorem dX6_greedy_358 : decode cX6_greedy 358 = .ok (.iconst 0, 1) := by decide +kernel
theorem dX6_greedy_359 : decode cX6_greedy 359 = .ok (.istore 7, 2) := by decide +kernel
theorem dX6_greedy_361 : decode cX6_greedy 361 = .ok (.iload 4, 2) := by decide +kernel
theorem dX6_greedy_363 : decode cX6_greedy 363 = .ok (.iload 7, 2) := by decide +kernel
theorem dX6_greedy_365 : decode cX6_greedy 365 = .ok (.ifCond .eq 8, 3) := by decide +kernel
theorem dX6_greedy_368 : decode cX6_greedy 368 = .ok (.bipush 100, 2) := by decide +kernel
theorem dX6_greedy_370 : decode cX6_greedy 370 = .ok (.goto 4, 3) := by decide +kernel
theorem dX6_greedy_373 : decode cX6_greedy 373 = .ok (.iconst 0, 1) := by decide +kernel
theorem dX6_greedy_374 : decode cX6_greedy 374 = .ok (.iadd, 1) := by decide +kernel
theorem dX6_greedy_375 : decode cX6_greedy 375 = .ok (.ireturn, 1) := by decide +kernel
set_option maxRecDepth 100000 in
theorem ggX6_sketch_X6_in : GoodIn wsX6_sketch wsX6_in := goodIn_r _ [12] rfl (by decide +kernel)
set_option maxRecDepth 100000 in
theorem gX6_sketch_X6_in : GoodIn wsX6_sketch (va_wsS RX6 61 yX6_in wsX6_in) := goodIn_app (goodIn_of _ (by decide +kernel)) ggX6_sketch_X6_in
theorem dX6_sketch_0 : decode cX6_sketch 0 = .ok (.iload_n 1, 1) := by decide +kernel
theorem dX6_sketch_1 : decode cX6_sketch 1 = .ok (.i2l, 1) := by decide +kernel
theorem dX6_sketch_2 : decode cX6_sketch 2 = .ok (.lconst 1, 1) := by decide +kernel
theorem dX6_sketch_3 : decode cX6_sketch 3 = .ok (.ldc2_w 120, 3) := by decide +kernel
theorem dX6_sketch_6 : decode cX6_sketch 6 = .ok (.invokestatic 61, 3) := by decide +kernel
theorem dX6_sketch_9 : decode cX6_sketch 9 = .ok (.ifCond .eq 17, 3) := by decide +kernel
theorem dX6_sketch_12 : decode cX6_sketch 12 = .ok (.iload_n 2, 1) := by decide +kernel
theorem dX6_sketch_13 : decode cX6_sketch 13 = .ok (.i2l, 1) := by decide +kernel
theorem dX6_sketch_14 : decode cX6_sketch 14 = .ok (.ldc2_w 57, 3) := by decide +kernel
theorem dX6_sketch_17 : decode cX6_sketch 17 = .ok (.ldc2_w 148, 3) := by decide +kernel
theorem dX6_sketch_20 : decode cX6_sketch 20 = .ok (.invokestatic 61, 3) := by decide +kernel
theorem dX6_sketch_23 : decode cX6_sketch 23 = .ok (.ifCond .ne 5, 3) := by decide +kernel
theorem dX6_sketch_26 : decode cX6_sketch 26 = .ok (.iconst (-1), 1) := by decide +kernel
theorem dX6_sketch_27 : decode cX6_sketch 27 = .ok (.ireturn, 1) := by decide +kernel
theorem dX6_sketch_28 : decode cX6_sketch 28 = .ok (.aload_n 0, 1) := by decide +kernel
theorem dX6_sketch_29 : decode cX6_sketch 29 = .ok (.iload_n 1, 1) := by decide +kernel
theorem dX6_sketch_30 : decode cX6_sketch 30 = .ok (.putfield 29, 3) := by decide +kernel
theorem dX6_sketch_33 : decode cX6_sketch 33 = .ok (.aload_n 0, 1) := by decide +kernel
theorem dX6_sketch_34 : decode cX6_sketch 34 = .ok (.iload_n 2, 1) := by decide +kernel
theorem dX6_sketch_35 : decode cX6_sketch 35 = .ok (.putfield 32, 3) := by decide +kernel
theorem dX6_sketch_38 : decode cX6_sketch 38 = .ok (.aload_n 0, 1) := by decide +kernel
theorem dX6_sketch_39 : decode cX6_sketch 39 = .ok (.iconst 0, 1) := by decide +kernel
theorem dX6_sketch_40 : decode cX6_sketch 40 = .ok (.putfield 150, 3) := by decide +kernel
theorem dX6_sketch_43 : decode cX6_sketch 43 = .ok (.aload_n 0, 1) := by decide +kernel
theorem dX6_sketch_44 : decode cX6_sketch 44 = .ok (.iconst 0, 1) := by decide +kernel
theorem dX6_sketch_45 : decode cX6_sketch 45 = .ok (.putfield 153, 3) := by decide +kernel
theorem dX6_sketch_48 : decode cX6_sketch 48 = .ok (.iconst 0, 1) := by decide +kernel
theorem dX6_sketch_49 : decode cX6_sketch 49 = .ok (.istore_n 3, 1) := by decide +kernel
theorem dX6_sketch_50 : decode cX6_sketch 50 = .ok (.iload_n 3, 1) := by decide +kernel
theorem dX6_sketch_51 : decode cX6_sketch 51 = .ok (.sipush 768, 3) := by decide +kernel
theorem dX6_sketch_54 : decode cX6_sketch 54 = .ok (.if_icmp .ge 16, 3) := by decide +kernel
theorem dX6_sketch_57 : decode cX6_sketch 57 = .ok (.aload_n 0, 1) := by decide +kernel
theorem dX6_sketch_58 : decode cX6_sketch 58 = .ok (.getfield 35, 3) := by decide +kernel
theorem dX6_sketch_61 : decode cX6_sketch 61 = .ok (.iload_n 3, 1) := by decide +kernel
theorem dX6_sketch_62 : decode cX6_sketch 62 = .ok (.lconst 0, 1) := by decide +kernel
theorem dX6_sketch_63 : decode cX6_sketch 63 = .ok (.lastore, 1) := by decide +kernel
theorem dX6_sketch_64 : decode cX6_sketch 64 = .ok (.iinc 3 1, 3) := by decide +kernel
theorem dX6_sketch_67 : decode cX6_sketch 67 = .ok (.goto (-17), 3) := by decide +kernel
theorem dX6_sketch_70 : decode cX6_sketch 70 = .ok (.iconst 0, 1) := by decide +kernel
theorem dX6_sketch_71 : decode cX6_sketch 71 = .ok (.ireturn, 1) := by decide +kernel
theorem dX6_bucketOf_0 : decode cX6_bucketOf 0 = .ok (.iload_n 2, 1) := by decide +kernel
theorem dX6_bucketOf_1 : decode cX6_bucketOf 1 = .ok (.i2l, 1) := by decide +kernel
theorem dX6_bucketOf_2 : decode cX6_bucketOf 2 = .ok (.iconst 2, 1) := by decide +kernel
theorem dX6_bucketOf_3 : decode cX6_bucketOf 3 = .ok (.iload_n 1, 1) := by decide +kernel
theorem dX6_bucketOf_4 : decode cX6_bucketOf 4 = .ok (.imul, 1) := by decide +kernel
theorem dX6_bucketOf_5 : decode cX6_bucketOf 5 = .ok (.iconst 3, 1) := by decide +kernel
theorem dX6_bucketOf_6 : decode cX6_bucketOf 6 = .ok (.iadd, 1) := by decide +kernel
theorem dX6_bucketOf_7 : decode cX6_bucketOf 7 = .ok (.i2l, 1) := by decide +kernel
theorem dX6_bucketOf_8 : decode cX6_bucketOf 8 = .ok (.lmul, 1) := by decide +kernel
theorem dX6_bucketOf_9 : decode cX6_bucketOf 9 = .ok (.iload_n 2, 1) := by decide +kernel
theorem dX6_bucketOf_10 : decode cX6_bucketOf 10 = .ok (.iconst 5, 1) := by decide +kernel
theorem dX6_bucketOf_11 : decode cX6_bucketOf 11 = .ok (.iload_n 1, 1) := by decide +kernel
theorem dX6_bucketOf_12 : decode cX6_bucketOf 12 = .ok (.imul, 1) := by decide +kernel
theorem dX6_bucketOf_13 : decode cX6_bucketOf 13 = .ok (.bipush 7, 2) := by decide +kernel
theorem dX6_bucketOf_15 : decode cX6_bucketOf 15 = .ok (.iadd, 1) := by decide +kernel
theorem dX6_bucketOf_16 : decode cX6_bucketOf 16 = .ok (.idiv, 1) := by decide +kernel
theorem dX6_bucketOf_17 : decode cX6_bucketOf 17 = .ok (.i2l, 1) := by decide +kernel
theorem dX6_bucketOf_18 : decode cX6_bucketOf 18 = .ok (.ladd, 1) := by decide +kernel
theorem dX6_bucketOf_19 : decode cX6_bucketOf 19 = .ok (.aload_n 0, 1) := by decide +kernel
theorem dX6_bucketOf_20 : decode cX6_bucketOf 20 = .ok (.getfield 32, 3) := by decide +kernel
theorem dX6_bucketOf_23 : decode cX6_bucketOf 23 = .ok (.i2l, 1) := by decide +kernel
theorem dX6_bucketOf_24 : decode cX6_bucketOf 24 = .ok (.lrem, 1) := by decide +kernel
theorem dX6_bucketOf_25 : decode cX6_bucketOf 25 = .ok (.l2i, 1) := by decide +kernel
theorem dX6_bucketOf_26 : decode cX6_bucketOf 26 = .ok (.ireturn, 1) := by decide +kernel
theorem dX6_third_0 : decode cX6_third 0 = .ok (.lload_n 0, 1) := by decide +kernel
theorem dX6_third_1 : decode cX6_third 1 = .ok (.ldc2_w 156, 3) := by decide +kernel
theorem dX6_third_4 : decode cX6_third 4 = .ok (.lrem, 1) := by decide +kernel
theorem dX6_third_5 : decode cX6_third 5 = .ok (.lstore_n 2, 1) := by decide +kernel
theorem dX6_third_6 : decode cX6_third 6 = .ok (.lload_n 2, 1) := by decide +kernel
theorem dX6_third_7 : decode cX6_third 7 = .ok (.lconst 0, 1) := by decide +kernel
theorem dX6_third_8 : decode cX6_third 8 = .ok (.lcmp, 1) := by decide +kernel
theorem dX6_third_9 : decode cX6_third 9 = .ok (.ifCond .ge 11, 3) := by decide +kernel
theorem dX6_third_12 : decode cX6_third 12 = .ok (.lload_n 2, 1) := by decide +kernel
theorem dX6_third_13 : decode cX6_third 13 = .ok (.ldc2_w 156, 3) := by decide +kernel
theorem dX6_third_16 : decode cX6_third 16 = .ok (.ladd, 1) := by decide +kernel
theorem dX6_third_17 : decode cX6_third 17 = .ok (.goto 4, 3) := by decide +kernel
theorem dX6_third_20 : decode cX6_third 20 = .ok (.lload_n 2, 1) := by decide +kernel
theorem dX6_third_21 : decode cX6_third 21 = .ok (.lreturn, 1) := by decide +kernel
set_option maxRecDepth 100000 in
theorem ggX6_adds_X6_bucketOf : GoodIn wsX6_adds wsX6_bucketOf := goodIn_r _ [7, 8, 13, 14, 15, 16, 17, 18, 19, 20, 21, 22, 23, 24, 25, 26, 27, 28, 29] rfl (by decide +kernel)
set_option maxRecDepth 100000 in
theorem gX6_adds_X6_bucketOf : GoodIn wsX6_adds (wsV RX6 158 RX6 yX6_bucketOf wsX6_bucketOf) := goodIn_app (goodIn_of _ (by decide +kernel)) ggX6_adds_X6_bucketOf
set_option maxRecDepth 100000 in
theorem ggX6_adds_X6_third : GoodIn wsX6_adds wsX6_third := goodIn_r _ [11, 12] rfl (by decide +kernel)
set_option maxRecDepth 100000 in
theorem gX6_adds_X6_third : GoodIn wsX6_adds (va_wsS RX6 161 yX6_third wsX6_third) := goodIn_app (goodIn_of _ (by decide +kernel)) ggX6_adds_X6_third
theorem dX6_adds_0 : decode cX6_adds 0 = .ok (.iconst 0, 1) := by decide +kernel
theorem dX6_adds_1 : decode cX6_adds 1 = .ok (.istore 5, 2) := by decide +kernel
theorem dX6_adds_3 : decode cX6_adds 3 = .ok (.iload 5, 2) := by decide +kernel
theorem dX6_adds_5 : decode cX6_adds 5 = .ok (.aload_n 0, 1) := by decide +kernel
theorem dX6_adds_6 : decode cX6_adds 6 = .ok (.getfield 29, 3) := by decide +kernel
theorem dX6_adds_9 : decode cX6_adds 9 = .ok (.if_icmp .ge 93, 3) := by decide +kernel
theorem dX6_adds_12 : decode cX6_adds 12 = .ok (.iload_n 1, 1) := by decide +kernel
theorem dX6_adds_13 : decode cX6_adds 13 = .ok (.bipush 96, 2) := by decide +kernel
theorem dX6_adds_15 : decode cX6_adds 15 = .ok (.iload 5, 2) := by decide +kernel
theorem dX6_adds_17 : decode cX6_adds 17 = .ok (.imul, 1) := by decide +kernel
theorem dX6_adds_18 : decode cX6_adds 18 = .ok (.iadd, 1) := by decide +kernel
theorem dX6_adds_19 : decode cX6_adds 19 = .ok (.iconst 3, 1) := by decide +kernel
theorem dX6_adds_20 : decode cX6_adds 20 = .ok (.aload_n 0, 1) := by decide +kernel
theorem dX6_adds_21 : decode cX6_adds 21 = .ok (.iload 5, 2) := by decide +kernel
theorem dX6_adds_23 : decode cX6_adds 23 = .ok (.iload_n 2, 1) := by decide +kernel
theorem dX6_adds_24 : decode cX6_adds 24 = .ok (.invokevirtual 158, 3) := by decide +kernel
theorem dX6_adds_27 : decode cX6_adds 27 = .ok (.imul, 1) := by decide +kernel
theorem dX6_adds_28 : decode cX6_adds 28 = .ok (.iadd, 1) := by decide +kernel
theorem dX6_adds_29 : decode cX6_adds 29 = .ok (.istore 6, 2) := by decide +kernel
theorem dX6_adds_31 : decode cX6_adds 31 = .ok (.aload_n 0, 1) := by decide +kernel
theorem dX6_adds_32 : decode cX6_adds 32 = .ok (.getfield 35, 3) := by decide +kernel
theorem dX6_adds_35 : decode cX6_adds 35 = .ok (.iload 6, 2) := by decide +kernel
theorem dX6_adds_37 : decode cX6_adds 37 = .ok (.dup2, 1) := by decide +kernel
theorem dX6_adds_38 : decode cX6_adds 38 = .ok (.laload, 1) := by decide +kernel
theorem dX6_adds_39 : decode cX6_adds 39 = .ok (.lload_n 3, 1) := by decide +kernel
theorem dX6_adds_40 : decode cX6_adds 40 = .ok (.ladd, 1) := by decide +kernel
theorem dX6_adds_41 : decode cX6_adds 41 = .ok (.lastore, 1) := by decide +kernel
theorem dX6_adds_42 : decode cX6_adds 42 = .ok (.aload_n 0, 1) := by decide +kernel
theorem dX6_adds_43 : decode cX6_adds 43 = .ok (.getfield 35, 3) := by decide +kernel
theorem dX6_adds_46 : decode cX6_adds 46 = .ok (.iload 6, 2) := by decide +kernel
theorem dX6_adds_48 : decode cX6_adds 48 = .ok (.iconst 1, 1) := by decide +kernel
theorem dX6_adds_49 : decode cX6_adds 49 = .ok (.iadd, 1) := by decide +kernel
theorem dX6_adds_50 : decode cX6_adds 50 = .ok (.dup2, 1) := by decide +kernel
theorem dX6_adds_51 : decode cX6_adds 51 = .ok (.laload, 1) := by decide +kernel
theorem dX6_adds_52 : decode cX6_adds 52 = .ok (.lload_n 3, 1) := by decide +kernel
theorem dX6_adds_53 : decode cX6_adds 53 = .ok (.iload_n 2, 1) := by decide +kernel
theorem dX6_adds_54 : decode cX6_adds 54 = .ok (.i2l, 1) := by decide +kernel
theorem dX6_adds_55 : decode cX6_adds 55 = .ok (.lmul, 1) := by decide +kernel
theorem dX6_adds_56 : decode cX6_adds 56 = .ok (.ladd, 1) := by decide +kernel
theorem dX6_adds_57 : decode cX6_adds 57 = .ok (.lastore, 1) := by decide +kernel
theorem dX6_adds_58 : decode cX6_adds 58 = .ok (.aload_n 0, 1) := by decide +kernel
theorem dX6_adds_59 : decode cX6_adds 59 = .ok (.getfield 35, 3) := by decide +kernel
theorem dX6_adds_62 : decode cX6_adds 62 = .ok (.iload 6, 2) := by decide +kernel
theorem dX6_adds_64 : decode cX6_adds 64 = .ok (.iconst 2, 1) := by decide +kernel
theorem dX6_adds_65 : decode cX6_adds 65 = .ok (.iadd, 1) := by decide +kernel
theorem dX6_adds_66 : decode cX6_adds 66 = .ok (.aload_n 0, 1) := by decide +kernel
theorem dX6_adds_67 : decode cX6_adds 67 = .ok (.getfield 35, 3) := by decide +kernel
theorem dX6_adds_70 : decode cX6_adds 70 = .ok (.iload 6, 2) := by decide +kernel
theorem dX6_adds_72 : decode cX6_adds 72 = .ok (.iconst 2, 1) := by decide +kernel
theorem dX6_adds_73 : decode cX6_adds 73 = .ok (.iadd, 1) := by decide +kernel
theorem dX6_adds_74 : decode cX6_adds 74 = .ok (.laload, 1) := by decide +kernel
theorem dX6_adds_75 : decode cX6_adds 75 = .ok (.lload_n 3, 1) := by decide +kernel
theorem dX6_adds_76 : decode cX6_adds 76 = .ok (.invokestatic 161, 3) := by decide +kernel
theorem dX6_adds_79 : decode cX6_adds 79 = .ok (.iload_n 2, 1) := by decide +kernel
theorem dX6_adds_80 : decode cX6_adds 80 = .ok (.i2l, 1) := by decide +kernel
theorem dX6_adds_81 : decode cX6_adds 81 = .ok (.iload_n 2, 1) := by decide +kernel
theorem dX6_adds_82 : decode cX6_adds 82 = .ok (.i2l, 1) := by decide +kernel
theorem dX6_adds_83 : decode cX6_adds 83 = .ok (.lmul, 1) := by decide +kernel
theorem dX6_adds_84 : decode cX6_adds 84 = .ok (.invokestatic 161, 3) := by decide +kernel
theorem dX6_adds_87 : decode cX6_adds 87 = .ok (.lmul, 1) := by decide +kernel
theorem dX6_adds_88 : decode cX6_adds 88 = .ok (.invokestatic 161, 3) := by decide +kernel
theorem dX6_adds_91 : decode cX6_adds 91 = .ok (.ladd, 1) := by decide +kernel
theorem dX6_adds_92 : decode cX6_adds 92 = .ok (.invokestatic 161, 3) := by decide +kernel
theorem dX6_adds_95 : decode cX6_adds 95 = .ok (.lastore, 1) := by decide +kernel
theorem dX6_adds_96 : decode cX6_adds 96 = .ok (.iinc 5 1, 3) := by decide +kernel
theorem dX6_adds_99 : decode cX6_adds 99 = .ok (.goto (-96), 3) := by decide +kernel
theorem dX6_adds_102 : decode cX6_adds 102 = .ok (.return_, 1) := by decide +kernel
set_option maxRecDepth 100000 in
theorem ggX6_add_X6_in : GoodIn wsX6_add wsX6_in := goodIn_r _ [9] rfl (by decide +kernel)
set_option maxRecDepth 100000 in
theorem gX6_add_X6_in : GoodIn wsX6_add (va_wsS RX6 61 yX6_in wsX6_in) := goodIn_app (goodIn_of _ (by decide +kernel)) ggX6_add_X6_in
set_option maxRecDepth 100000 in
theorem ggX6_add_X6_adds : GoodIn wsX6_add wsX6_adds := goodIn_r _ [13, 14, 15, 16, 17, 18, 8, 19, 20, 21, 22, 23, 24, 25, 26, 27, 28, 29, 30, 31, 32, 33, 34, 35, 36, 37, 38, 39, 40, 41] rfl (by decide +kernel)
set_option maxRecDepth 100000 in
theorem gX6_add_X6_adds : GoodIn wsX6_add (wsV RX6 172 RX6 yX6_adds wsX6_adds) := goodIn_app (goodIn_of _ (by decide +kernel)) ggX6_add_X6_adds
theorem dX6_add_0 : decode cX6_add 0 = .ok (.iload_n 1, 1) := by decide +kernel
theorem dX6_add_1 : decode cX6_add 1 = .ok (.i2l, 1) := by decide +kernel
theorem dX6_add_2 : decode cX6_add 2 = .ok (.lconst 0, 1) := by decide +kernel
theorem dX6_add_3 : decode cX6_add 3 = .ok (.ldc2_w 165, 3) := by decide +kernel
theorem dX6_add_6 : decode cX6_add 6 = .ok (.invokestatic 61, 3) := by decide +kernel
theorem dX6_add_9 : decode cX6_add 9 = .ok (.ifCond .eq 17, 3) := by decide +kernel
theorem dX6_add_12 : decode cX6_add 12 = .ok (.iload_n 2, 1) := by decide +kernel
theorem dX6_add_13 : decode cX6_add 13 = .ok (.i2l, 1) := by decide +kernel
theorem dX6_add_14 : decode cX6_add 14 = .ok (.ldc2_w 167, 3) := by decide +kernel
theorem dX6_add_17 : decode cX6_add 17 = .ok (.ldc2_w 169, 3) := by decide +kernel
theorem dX6_add_20 : decode cX6_add 20 = .ok (.invokestatic 61, 3) := by decide +kernel
theorem dX6_add_23 : decode cX6_add 23 = .ok (.ifCond .ne 5, 3) := by decide +kernel
theorem dX6_add_26 : decode cX6_add 26 = .ok (.iconst (-1), 1) := by decide +kernel
theorem dX6_add_27 : decode cX6_add 27 = .ok (.ireturn, 1) := by decide +kernel
theorem dX6_add_28 : decode cX6_add 28 = .ok (.aload_n 0, 1) := by decide +kernel
theorem dX6_add_29 : decode cX6_add 29 = .ok (.getfield 150, 3) := by decide +kernel
theorem dX6_add_32 : decode cX6_add 32 = .ok (.ldc 171, 2) := by decide +kernel
theorem dX6_add_34 : decode cX6_add 34 = .ok (.if_icmp .ne 6, 3) := by decide +kernel
theorem dX6_add_37 : decode cX6_add 37 = .ok (.bipush (-3), 2) := by decide +kernel
theorem dX6_add_39 : decode cX6_add 39 = .ok (.ireturn, 1) := by decide +kernel
theorem dX6_add_40 : decode cX6_add 40 = .ok (.aload_n 0, 1) := by decide +kernel
theorem dX6_add_41 : decode cX6_add 41 = .ok (.iconst 0, 1) := by decide +kernel
theorem dX6_add_42 : decode cX6_add 42 = .ok (.iload_n 1, 1) := by decide +kernel
theorem dX6_add_43 : decode cX6_add 43 = .ok (.iload_n 2, 1) := by decide +kernel
theorem dX6_add_44 : decode cX6_add 44 = .ok (.i2l, 1) := by decide +kernel
theorem dX6_add_45 : decode cX6_add 45 = .ok (.invokevirtual 172, 3) := by decide +kernel
theorem dX6_add_48 : decode cX6_add 48 = .ok (.aload_n 0, 1) := by decide +kernel
theorem dX6_add_49 : decode cX6_add 49 = .ok (.dup, 1) := by decide +kernel
theorem dX6_add_50 : decode cX6_add 50 = .ok (.getfield 150, 3) := by decide +kernel
theorem dX6_add_53 : decode cX6_add 53 = .ok (.iconst 1, 1) := by decide +kernel
theorem dX6_add_54 : decode cX6_add 54 = .ok (.iadd, 1) := by decide +kernel
theorem dX6_add_55 : decode cX6_add 55 = .ok (.putfield 150, 3) := by decide +kernel
theorem dX6_add_58 : decode cX6_add 58 = .ok (.aload_n 0, 1) := by decide +kernel
theorem dX6_add_59 : decode cX6_add 59 = .ok (.getfield 150, 3) := by decide +kernel
theorem dX6_add_62 : decode cX6_add 62 = .ok (.ireturn, 1) := by decide +kernel
set_option maxRecDepth 100000 in
theorem ggX6_single_X6_in : GoodIn wsX6_single wsX6_in := goodIn_r _ [6] rfl (by decide +kernel)
set_option maxRecDepth 100000 in
theorem gX6_single_X6_in : GoodIn wsX6_single (va_wsS RX6 61 yX6_in wsX6_in) := goodIn_app (goodIn_of _ (by decide +kernel)) ggX6_single_X6_in
set_option maxRecDepth 100000 in
theorem ggX6_single_X6_bucketOf : GoodIn wsX6_single wsX6_bucketOf := goodIn_r _ [10, 11, 16, 17, 18, 19, 20, 21, 22, 23, 24, 25, 26, 27, 28, 29, 30, 31, 32] rfl (by decide +kernel)
set_option maxRecDepth 100000 in
theorem gX6_single_X6_bucketOf : GoodIn wsX6_single (wsV RX6 158 RX6 yX6_bucketOf wsX6_bucketOf) := goodIn_app (goodIn_of _ (by decide +kernel)) ggX6_single_X6_bucketOf
set_option maxRecDepth 100000 in
theorem ggX6_single_X6_third : GoodIn wsX6_single wsX6_third := goodIn_r _ [14, 15] rfl (by decide +kernel)
set_option maxRecDepth 100000 in
theorem gX6_single_X6_third : GoodIn wsX6_single (va_wsS RX6 161 yX6_third wsX6_third) := goodIn_app (goodIn_of _ (by decide +kernel)) ggX6_single_X6_third
theorem dX6_single_0 : decode cX6_single 0 = .ok (.sipush 384, 3) := by decide +kernel
theorem dX6_single_3 : decode cX6_single 3 = .ok (.bipush 96, 2) := by decide +kernel
theorem dX6_single_5 : decode cX6_single 5 = .ok (.iload_n 1, 1) := by decide +kernel
theorem dX6_single_6 : decode cX6_single 6 = .ok (.imul, 1) := by decide +kernel
theorem dX6_single_7 : decode cX6_single 7 = .ok (.iadd, 1) := by decide +kernel
theorem dX6_single_8 : decode cX6_single 8 = .ok (.iconst 3, 1) := by decide +kernel
theorem dX6_single_9 : decode cX6_single 9 = .ok (.iload_n 2, 1) := by decide +kernel
theorem dX6_single_10 : decode cX6_single 10 = .ok (.imul, 1) := by decide +kernel
theorem dX6_single_11 : decode cX6_single 11 = .ok (.iadd, 1) := by decide +kernel
theorem dX6_single_12 : decode cX6_single 12 = .ok (.istore_n 3, 1) := by decide +kernel
theorem dX6_single_13 : decode cX6_single 13 = .ok (.aload_n 0, 1) := by decide +kernel
theorem dX6_single_14 : decode cX6_single 14 = .ok (.getfield 35, 3) := by decide +kernel
theorem dX6_single_17 : decode cX6_single 17 = .ok (.iload_n 3, 1) := by decide +kernel
theorem dX6_single_18 : decode cX6_single 18 = .ok (.laload, 1) := by decide +kernel
theorem dX6_single_19 : decode cX6_single 19 = .ok (.lstore 4, 2) := by decide +kernel
theorem dX6_single_21 : decode cX6_single 21 = .ok (.lload 4, 2) := by decide +kernel
theorem dX6_single_23 : decode cX6_single 23 = .ok (.lconst 0, 1) := by decide +kernel
theorem dX6_single_24 : decode cX6_single 24 = .ok (.lcmp, 1) := by decide +kernel
theorem dX6_single_25 : decode cX6_single 25 = .ok (.ifCond .eq 19, 3) := by decide +kernel
theorem dX6_single_28 : decode cX6_single 28 = .ok (.aload_n 0, 1) := by decide +kernel
theorem dX6_single_29 : decode cX6_single 29 = .ok (.getfield 35, 3) := by decide +kernel
theorem dX6_single_32 : decode cX6_single 32 = .ok (.iload_n 3, 1) := by decide +kernel
theorem dX6_single_33 : decode cX6_single 33 = .ok (.iconst 1, 1) := by decide +kernel
theorem dX6_single_34 : decode cX6_single 34 = .ok (.iadd, 1) := by decide +kernel
theorem dX6_single_35 : decode cX6_single 35 = .ok (.laload, 1) := by decide +kernel
theorem dX6_single_36 : decode cX6_single 36 = .ok (.lload 4, 2) := by decide +kernel
theorem dX6_single_38 : decode cX6_single 38 = .ok (.lrem, 1) := by decide +kernel
theorem dX6_single_39 : decode cX6_single 39 = .ok (.lconst 0, 1) := by decide +kernel
theorem dX6_single_40 : decode cX6_single 40 = .ok (.lcmp, 1) := by decide +kernel
theorem dX6_single_41 : decode cX6_single 41 = .ok (.ifCond .eq 5, 3) := by decide +kernel
theorem dX6_single_44 : decode cX6_single 44 = .ok (.iconst (-1), 1) := by decide +kernel
theorem dX6_single_45 : decode cX6_single 45 = .ok (.ireturn, 1) := by decide +kernel
theorem dX6_single_46 : decode cX6_single 46 = .ok (.aload_n 0, 1) := by decide +kernel
theorem dX6_single_47 : decode cX6_single 47 = .ok (.getfield 35, 3) := by decide +kernel
theorem dX6_single_50 : decode cX6_single 50 = .ok (.iload_n 3, 1) := by decide +kernel
theorem dX6_single_51 : decode cX6_single 51 = .ok (.iconst 1, 1) := by decide +kernel
theorem dX6_single_52 : decode cX6_single 52 = .ok (.iadd, 1) := by decide +kernel
theorem dX6_single_53 : decode cX6_single 53 = .ok (.laload, 1) := by decide +kernel
theorem dX6_single_54 : decode cX6_single 54 = .ok (.lload 4, 2) := by decide +kernel
theorem dX6_single_56 : decode cX6_single 56 = .ok (.ldiv, 1) := by decide +kernel
theorem dX6_single_57 : decode cX6_single 57 = .ok (.lstore 6, 2) := by decide +kernel
theorem dX6_single_59 : decode cX6_single 59 = .ok (.lload 6, 2) := by decide +kernel
theorem dX6_single_61 : decode cX6_single 61 = .ok (.lconst 0, 1) := by decide +kernel
theorem dX6_single_62 : decode cX6_single 62 = .ok (.ldc2_w 165, 3) := by decide +kernel
theorem dX6_single_65 : decode cX6_single 65 = .ok (.invokestatic 61, 3) := by decide +kernel
theorem dX6_single_68 : decode cX6_single 68 = .ok (.ifCond .eq 15, 3) := by decide +kernel
theorem dX6_single_71 : decode cX6_single 71 = .ok (.aload_n 0, 1) := by decide +kernel
theorem dX6_single_72 : decode cX6_single 72 = .ok (.iload_n 1, 1) := by decide +kernel
theorem dX6_single_73 : decode cX6_single 73 = .ok (.lload 6, 2) := by decide +kernel
theorem dX6_single_75 : decode cX6_single 75 = .ok (.l2i, 1) := by decide +kernel
theorem dX6_single_76 : decode cX6_single 76 = .ok (.invokevirtual 158, 3) := by decide +kernel
theorem dX6_single_79 : decode cX6_single 79 = .ok (.iload_n 2, 1) := by decide +kernel
theorem dX6_single_80 : decode cX6_single 80 = .ok (.if_icmp .eq 5, 3) := by decide +kernel
theorem dX6_single_83 : decode cX6_single 83 = .ok (.iconst (-1), 1) := by decide +kernel
theorem dX6_single_84 : decode cX6_single 84 = .ok (.ireturn, 1) := by decide +kernel
theorem dX6_single_85 : decode cX6_single 85 = .ok (.lload 4, 2) := by decide +kernel
theorem dX6_single_87 : decode cX6_single 87 = .ok (.invokestatic 161, 3) := by decide +kernel
theorem dX6_single_90 : decode cX6_single 90 = .ok (.lload 6, 2) := by decide +kernel
theorem dX6_single_92 : decode cX6_single 92 = .ok (.lload 6, 2) := by decide +kernel
theorem dX6_single_94 : decode cX6_single 94 = .ok (.lmul, 1) := by decide +kernel
theorem dX6_single_95 : decode cX6_single 95 = .ok (.invokestatic 161, 3) := by decide +kernel
theorem dX6_single_98 : decode cX6_single 98 = .ok (.lmul, 1) := by decide +kernel
theorem dX6_single_99 : decode cX6_single 99 = .ok (.invokestatic 161, 3) := by decide +kernel
theorem dX6_single_102 : decode cX6_single 102 = .ok (.aload_n 0, 1) := by decide +kernel
theorem dX6_single_103 : decode cX6_single 103 = .ok (.getfield 35, 3) := by decide +kernel
theorem dX6_single_106 : decode cX6_single 106 = .ok (.iload_n 3, 1) := by decide +kernel
theorem dX6_single_107 : decode cX6_single 107 = .ok (.iconst 2, 1) := by decide +kernel
theorem dX6_single_108 : decode cX6_single 108 = .ok (.iadd, 1) := by decide +kernel
theorem dX6_single_109 : decode cX6_single 109 = .ok (.laload, 1) := by decide +kernel
theorem dX6_single_110 : decode cX6_single 110 = .ok (.lcmp, 1) := by decide +kernel
theorem dX6_single_111 : decode cX6_single 111 = .ok (.ifCond .ne 9, 3) := by decide +kernel
theorem dX6_single_114 : decode cX6_single 114 = .ok (.lload 6, 2) := by decide +kernel
theorem dX6_single_116 : decode cX6_single 116 = .ok (.l2i, 1) := by decide +kernel
theorem dX6_single_117 : decode cX6_single 117 = .ok (.goto 4, 3) := by decide +kernel
theorem dX6_single_120 : decode cX6_single 120 = .ok (.iconst (-1), 1) := by decide +kernel
theorem dX6_single_121 : decode cX6_single 121 = .ok (.ireturn, 1) := by decide +kernel
set_option maxRecDepth 100000 in
theorem ggX6_decode_X6_single : GoodIn wsX6_decode wsX6_single := goodIn_r _ [11, 1, 12, 13, 14, 10, 15, 16, 17, 18, 19, 3, 20, 21, 22, 23, 28, 29, 30, 31, 32, 33, 34, 35, 36, 37, 38, 39, 40, 41, 42, 43, 44] rfl (by decide +kernel)
set_option maxRecDepth 100000 in
theorem gX6_decode_X6_single : GoodIn wsX6_decode (wsV RX6 176 RX6 yX6_single wsX6_single) := goodIn_app (goodIn_of _ (by decide +kernel)) ggX6_decode_X6_single
set_option maxRecDepth 100000 in
theorem ggX6_decode_X6_adds : GoodIn wsX6_decode wsX6_adds := goodIn_r _ [27, 2, 1, 16, 17, 18, 10, 19, 3, 20, 21, 22, 23, 28, 29, 30, 31, 32, 33, 34, 35, 36, 37, 38, 39, 40, 41, 42, 43, 44] rfl (by decide +kernel)
set_option maxRecDepth 100000 in
theorem gX6_decode_X6_adds : GoodIn wsX6_decode (wsV RX6 172 RX6 yX6_adds wsX6_adds) := goodIn_app (goodIn_of _ (by decide +kernel)) ggX6_decode_X6_adds
theorem dX6_decode_0 : decode cX6_decode 0 = .ok (.iconst 0, 1) := by decide +kernel
theorem dX6_decode_1 : decode cX6_decode 1 = .ok (.istore_n 1, 1) := by decide +kernel
theorem dX6_decode_2 : decode cX6_decode 2 = .ok (.iload_n 1, 1) := by decide +kernel
theorem dX6_decode_3 : decode cX6_decode 3 = .ok (.sipush 384, 3) := by decide +kernel
theorem dX6_decode_6 : decode cX6_decode 6 = .ok (.if_icmp .ge 25, 3) := by decide +kernel
theorem dX6_decode_9 : decode cX6_decode 9 = .ok (.aload_n 0, 1) := by decide +kernel
theorem dX6_decode_10 : decode cX6_decode 10 = .ok (.getfield 35, 3) := by decide +kernel
theorem dX6_decode_13 : decode cX6_decode 13 = .ok (.sipush 384, 3) := by decide +kernel
theorem dX6_decode_16 : decode cX6_decode 16 = .ok (.iload_n 1, 1) := by decide +kernel
theorem dX6_decode_17 : decode cX6_decode 17 = .ok (.iadd, 1) := by decide +kernel
theorem dX6_decode_18 : decode cX6_decode 18 = .ok (.aload_n 0, 1) := by decide +kernel
theorem dX6_decode_19 : decode cX6_decode 19 = .ok (.getfield 35, 3) := by decide +kernel
theorem dX6_decode_22 : decode cX6_decode 22 = .ok (.iload_n 1, 1) := by decide +kernel
theorem dX6_decode_23 : decode cX6_decode 23 = .ok (.laload, 1) := by decide +kernel
theorem dX6_decode_24 : decode cX6_decode 24 = .ok (.lastore, 1) := by decide +kernel
theorem dX6_decode_25 : decode cX6_decode 25 = .ok (.iinc 1 1, 3) := by decide +kernel
theorem dX6_decode_28 : decode cX6_decode 28 = .ok (.goto (-26), 3) := by decide +kernel
theorem dX6_decode_31 : decode cX6_decode 31 = .ok (.iconst 0, 1) := by decide +kernel
theorem dX6_decode_32 : decode cX6_decode 32 = .ok (.istore_n 1, 1) := by decide +kernel
theorem dX6_decode_33 : decode cX6_decode 33 = .ok (.iconst 1, 1) := by decide +kernel
theorem dX6_decode_34 : decode cX6_decode 34 = .ok (.istore_n 2, 1) := by decide +kernel
theorem dX6_decode_35 : decode cX6_decode 35 = .ok (.iload_n 2, 1) := by decide +kernel
theorem dX6_decode_36 : decode cX6_decode 36 = .ok (.ifCond .eq 142, 3) := by decide +kernel
theorem dX6_decode_39 : decode cX6_decode 39 = .ok (.iload_n 1, 1) := by decide +kernel
theorem dX6_decode_40 : decode cX6_decode 40 = .ok (.sipush 200, 3) := by decide +kernel
theorem dX6_decode_43 : decode cX6_decode 43 = .ok (.if_icmp .ge 135, 3) := by decide +kernel
theorem dX6_decode_46 : decode cX6_decode 46 = .ok (.iconst (-1), 1) := by decide +kernel
theorem dX6_decode_47 : decode cX6_decode 47 = .ok (.istore_n 3, 1) := by decide +kernel
theorem dX6_decode_48 : decode cX6_decode 48 = .ok (.lconst 0, 1) := by decide +kernel
theorem dX6_decode_49 : decode cX6_decode 49 = .ok (.lstore 4, 2) := by decide +kernel
theorem dX6_decode_51 : decode cX6_decode 51 = .ok (.iconst 0, 1) := by decide +kernel
theorem dX6_decode_52 : decode cX6_decode 52 = .ok (.istore 6, 2) := by decide +kernel
theorem dX6_decode_54 : decode cX6_decode 54 = .ok (.iload 6, 2) := by decide +kernel
theorem dX6_decode_56 : decode cX6_decode 56 = .ok (.aload_n 0, 1) := by decide +kernel
theorem dX6_decode_57 : decode cX6_decode 57 = .ok (.getfield 29, 3) := by decide +kernel
theorem dX6_decode_60 : decode cX6_decode 60 = .ok (.if_icmp .ge 65, 3) := by decide +kernel
theorem dX6_decode_63 : decode cX6_decode 63 = .ok (.iload_n 3, 1) := by decide +kernel
theorem dX6_decode_64 : decode cX6_decode 64 = .ok (.ifCond .ge 61, 3) := by decide +kernel
theorem dX6_decode_67 : decode cX6_decode 67 = .ok (.iconst 0, 1) := by decide +kernel
theorem dX6_decode_68 : decode cX6_decode 68 = .ok (.istore 7, 2) := by decide +kernel
theorem dX6_decode_70 : decode cX6_decode 70 = .ok (.iload 7, 2) := by decide +kernel
theorem dX6_decode_72 : decode cX6_decode 72 = .ok (.aload_n 0, 1) := by decide +kernel
theorem dX6_decode_73 : decode cX6_decode 73 = .ok (.getfield 32, 3) := by decide +kernel
theorem dX6_decode_76 : decode cX6_decode 76 = .ok (.if_icmp .ge 43, 3) := by decide +kernel
theorem dX6_decode_79 : decode cX6_decode 79 = .ok (.iload_n 3, 1) := by decide +kernel
theorem dX6_decode_80 : decode cX6_decode 80 = .ok (.ifCond .ge 39, 3) := by decide +kernel
theorem dX6_decode_83 : decode cX6_decode 83 = .ok (.aload_n 0, 1) := by decide +kernel
theorem dX6_decode_84 : decode cX6_decode 84 = .ok (.iload 6, 2) := by decide +kernel
theorem dX6_decode_86 : decode cX6_decode 86 = .ok (.iload 7, 2) := by decide +kernel
theorem dX6_decode_88 : decode cX6_decode 88 = .ok (.invokevirtual 176, 3) := by decide +kernel
theorem dX6_decode_91 : decode cX6_decode 91 = .ok (.istore_n 3, 1) := by decide +kernel
theorem dX6_decode_92 : decode cX6_decode 92 = .ok (.aload_n 0, 1) := by decide +kernel
theorem dX6_decode_93 : decode cX6_decode 93 = .ok (.getfield 35, 3) := by decide +kernel
theorem dX6_decode_96 : decode cX6_decode 96 = .ok (.sipush 384, 3) := by decide +kernel
theorem dX6_decode_99 : decode cX6_decode 99 = .ok (.bipush 96, 2) := by decide +kernel
theorem dX6_decode_101 : decode cX6_decode 101 = .ok (.iload 6, 2) := by decide +kernel
theorem dX6_decode_103 : decode cX6_decode 103 = .ok (.imul, 1) := by decide +kernel
theorem dX6_decode_104 : decode cX6_decode 104 = .ok (.iadd, 1) := by decide +kernel
theorem dX6_decode_105 : decode cX6_decode 105 = .ok (.iconst 3, 1) := by decide +kernel
theorem dX6_decode_106 : decode cX6_decode 106 = .ok (.iload 7, 2) := by decide +kernel
theorem dX6_decode_108 : decode cX6_decode 108 = .ok (.imul, 1) := by decide +kernel
theorem dX6_decode_109 : decode cX6_decode 109 = .ok (.iadd, 1) := by decide +kernel
theorem dX6_decode_110 : decode cX6_decode 110 = .ok (.laload, 1) := by decide +kernel
theorem dX6_decode_111 : decode cX6_decode 111 = .ok (.lstore 4, 2) := by decide +kernel
theorem dX6_decode_113 : decode cX6_decode 113 = .ok (.iinc 7 1, 3) := by decide +kernel
theorem dX6_decode_116 : decode cX6_decode 116 = .ok (.goto (-46), 3) := by decide +kernel
theorem dX6_decode_119 : decode cX6_decode 119 = .ok (.iinc 6 1, 3) := by decide +kernel
theorem dX6_decode_122 : decode cX6_decode 122 = .ok (.goto (-68), 3) := by decide +kernel
theorem dX6_decode_125 : decode cX6_decode 125 = .ok (.iload_n 3, 1) := by decide +kernel
theorem dX6_decode_126 : decode cX6_decode 126 = .ok (.ifCond .lt 7, 3) := by decide +kernel
theorem dX6_decode_129 : decode cX6_decode 129 = .ok (.iconst 1, 1) := by decide +kernel
theorem dX6_decode_130 : decode cX6_decode 130 = .ok (.goto 4, 3) := by decide +kernel
theorem dX6_decode_133 : decode cX6_decode 133 = .ok (.iconst 0, 1) := by decide +kernel
theorem dX6_decode_134 : decode cX6_decode 134 = .ok (.istore_n 2, 1) := by decide +kernel
theorem dX6_decode_135 : decode cX6_decode 135 = .ok (.iload_n 2, 1) := by decide +kernel
theorem dX6_decode_136 : decode cX6_decode 136 = .ok (.ifCond .eq 39, 3) := by decide +kernel
theorem dX6_decode_139 : decode cX6_decode 139 = .ok (.iload_n 1, 1) := by decide +kernel
theorem dX6_decode_140 : decode cX6_decode 140 = .ok (.bipush 100, 2) := by decide +kernel
theorem dX6_decode_142 : decode cX6_decode 142 = .ok (.if_icmp .ge 19, 3) := by decide +kernel
theorem dX6_decode_145 : decode cX6_decode 145 = .ok (.aload_n 0, 1) := by decide +kernel
theorem dX6_decode_146 : decode cX6_decode 146 = .ok (.getfield 39, 3) := by decide +kernel
theorem dX6_decode_149 : decode cX6_decode 149 = .ok (.iload_n 1, 1) := by decide +kernel
theorem dX6_decode_150 : decode cX6_decode 150 = .ok (.iload_n 3, 1) := by decide +kernel
theorem dX6_decode_151 : decode cX6_decode 151 = .ok (.iastore, 1) := by decide +kernel
theorem dX6_decode_152 : decode cX6_decode 152 = .ok (.aload_n 0, 1) := by decide +kernel
theorem dX6_decode_153 : decode cX6_decode 153 = .ok (.getfield 42, 3) := by decide +kernel
theorem dX6_decode_156 : decode cX6_decode 156 = .ok (.iload_n 1, 1) := by decide +kernel
theorem dX6_decode_157 : decode cX6_decode 157 = .ok (.lload 4, 2) := by decide +kernel
theorem dX6_decode_159 : decode cX6_decode 159 = .ok (.l2i, 1) := by decide +kernel
theorem dX6_decode_160 : decode cX6_decode 160 = .ok (.iastore, 1) := by decide +kernel
theorem dX6_decode_161 : decode cX6_decode 161 = .ok (.aload_n 0, 1) := by decide +kernel
theorem dX6_decode_162 : decode cX6_decode 162 = .ok (.sipush 384, 3) := by decide +kernel
theorem dX6_decode_165 : decode cX6_decode 165 = .ok (.iload_n 3, 1) := by decide +kernel
theorem dX6_decode_166 : decode cX6_decode 166 = .ok (.lload 4, 2) := by decide +kernel
theorem dX6_decode_168 : decode cX6_decode 168 = .ok (.lneg, 1) := by decide +kernel
theorem dX6_decode_169 : decode cX6_decode 169 = .ok (.invokevirtual 172, 3) := by decide +kernel
theorem dX6_decode_172 : decode cX6_decode 172 = .ok (.iinc 1 1, 3) := by decide +kernel
theorem dX6_decode_175 : decode cX6_decode 175 = .ok (.goto (-140), 3) := by decide +kernel
theorem dX6_decode_178 : decode cX6_decode 178 = .ok (.aload_n 0, 1) := by decide +kernel
theorem dX6_decode_179 : decode cX6_decode 179 = .ok (.iload_n 1, 1) := by decide +kernel
theorem dX6_decode_180 : decode cX6_decode 180 = .ok (.putfield 153, 3) := by decide +kernel
theorem dX6_decode_183 : decode cX6_decode 183 = .ok (.iconst 1, 1) := by decide +kernel
theorem dX6_decode_184 : decode cX6_decode 184 = .ok (.istore_n 3, 1) := by decide +kernel
theorem dX6_decode_185 : decode cX6_decode 185 = .ok (.sipush 384, 3) := by decide +kernel
theorem dX6_decode_188 : decode cX6_decode 188 = .ok (.istore 4, 2) := by decide +kernel
theorem dX6_decode_190 : decode cX6_decode 190 = .ok (.iload 4, 2) := by decide +kernel
theorem dX6_decode_192 : decode cX6_decode 192 = .ok (.sipush 768, 3) := by decide +kernel
theorem dX6_decode_195 : decode cX6_decode 195 = .ok (.if_icmp .ge 31, 3) := by decide +kernel
theorem dX6_decode_198 : decode cX6_decode 198 = .ok (.iload_n 3, 1) := by decide +kernel
theorem dX6_decode_199 : decode cX6_decode 199 = .ok (.ifCond .eq 19, 3) := by decide +kernel
theorem dX6_decode_202 : decode cX6_decode 202 = .ok (.aload_n 0, 1) := by decide +kernel
theorem dX6_decode_203 : decode cX6_decode 203 = .ok (.getfield 35, 3) := by decide +kernel
theorem dX6_decode_206 : decode cX6_decode 206 = .ok (.iload 4, 2) := by decide +kernel
theorem dX6_decode_208 : decode cX6_decode 208 = .ok (.laload, 1) := by decide +kernel
theorem dX6_decode_209 : decode cX6_decode 209 = .ok (.lconst 0, 1) := by decide +kernel
theorem dX6_decode_210 : decode cX6_decode 210 = .ok (.lcmp, 1) := by decide +kernel
theorem dX6_decode_211 : decode cX6_decode 211 = .ok (.ifCond .ne 7, 3) := by decide +kernel
theorem dX6_decode_214 : decode cX6_decode 214 = .ok (.iconst 1, 1) := by decide +kernel
theorem dX6_decode_215 : decode cX6_decode 215 = .ok (.goto 4, 3) := by decide +kernel
theorem dX6_decode_218 : decode cX6_decode 218 = .ok (.iconst 0, 1) := by decide +kernel
theorem dX6_decode_219 : decode cX6_decode 219 = .ok (.istore_n 3, 1) := by decide +kernel
theorem dX6_decode_220 : decode cX6_decode 220 = .ok (.iinc 4 1, 3) := by decide +kernel
theorem dX6_decode_223 : decode cX6_decode 223 = .ok (.goto (-33), 3) := by decide +kernel
theorem dX6_decode_226 : decode cX6_decode 226 = .ok (.iload_n 1, 1) := by decide +kernel
theorem dX6_decode_227 : decode cX6_decode 227 = .ok (.iload_n 3, 1) := by decide +kernel
theorem dX6_decode_228 : decode cX6_decode 228 = .ok (.ifCond .eq 9, 3) := by decide +kernel
theorem dX6_decode_231 : decode cX6_decode 231 = .ok (.sipush 10000, 3) := by decide +kernel
theorem dX6_decode_234 : decode cX6_decode 234 = .ok (.goto 4, 3) := by decide +kernel
theorem dX6_decode_237 : decode cX6_decode 237 = .ok (.iconst 0, 1) := by decide +kernel
theorem dX6_decode_238 : decode cX6_decode 238 = .ok (.iadd, 1) := by decide +kernel
theorem dX6_decode_239 : decode cX6_decode 239 = .ok (.ireturn, 1) := by decide +kernel
set_option maxRecDepth 100000 in
theorem ggX6_decoded_X6_in : GoodIn wsX6_decoded wsX6_in := goodIn_r _ [9] rfl (by decide +kernel)
set_option maxRecDepth 100000 in
theorem gX6_decoded_X6_in : GoodIn wsX6_decoded (va_wsS RX6 61 yX6_in wsX6_in) := goodIn_app (goodIn_of _ (by decide +kernel)) ggX6_decoded_X6_in
theorem dX6_decoded_0 : decode cX6_decoded 0 = .ok (.iload_n 1, 1) := by decide +kernel
theorem dX6_decoded_1 : decode cX6_decoded 1 = .ok (.ifCond .lt 13, 3) := by decide +kernel
theorem dX6_decoded_4 : decode cX6_decoded 4 = .ok (.iload_n 2, 1) := by decide +kernel
theorem dX6_decoded_5 : decode cX6_decoded 5 = .ok (.i2l, 1) := by decide +kernel
theorem dX6_decoded_6 : decode cX6_decoded 6 = .ok (.lconst 0, 1) := by decide +kernel
theorem dX6_decoded_7 : decode cX6_decoded 7 = .ok (.lconst 1, 1) := by decide +kernel
theorem dX6_decoded_8 : decode cX6_decoded 8 = .ok (.invokestatic 61, 3) := by decide +kernel
theorem dX6_decoded_11 : decode cX6_decoded 11 = .ok (.ifCond .ne 6, 3) := by decide +kernel
theorem dX6_decoded_14 : decode cX6_decoded 14 = .ok (.ldc 179, 2) := by decide +kernel
theorem dX6_decoded_16 : decode cX6_decoded 16 = .ok (.ireturn, 1) := by decide +kernel
theorem dX6_decoded_17 : decode cX6_decoded 17 = .ok (.iload_n 1, 1) := by decide +kernel
theorem dX6_decoded_18 : decode cX6_decoded 18 = .ok (.aload_n 0, 1) := by decide +kernel
theorem dX6_decoded_19 : decode cX6_decoded 19 = .ok (.getfield 153, 3) := by decide +kernel
theorem dX6_decoded_22 : decode cX6_decoded 22 = .ok (.if_icmp .ge 9, 3) := by decide +kernel
theorem dX6_decoded_25 : decode cX6_decoded 25 = .ok (.iload_n 1, 1) := by decide +kernel
theorem dX6_decoded_26 : decode cX6_decoded 26 = .ok (.bipush 100, 2) := by decide +kernel
theorem dX6_decoded_28 : decode cX6_decoded 28 = .ok (.if_icmp .lt 6, 3) := by decide +kernel
theorem dX6_decoded_31 : decode cX6_decoded 31 = .ok (.ldc 180, 2) := by decide +kernel
theorem dX6_decoded_33 : decode cX6_decoded 33 = .ok (.ireturn, 1) := by decide +kernel
theorem dX6_decoded_34 : decode cX6_decoded 34 = .ok (.iload_n 2, 1) := by decide +kernel
theorem dX6_decoded_35 : decode cX6_decoded 35 = .ok (.ifCond .ne 12, 3) := by decide +kernel
theorem dX6_decoded_38 : decode cX6_decoded 38 = .ok (.aload_n 0, 1) := by decide +kernel
theorem dX6_decoded_39 : decode cX6_decoded 39 = .ok (.getfield 39, 3) := by decide +kernel
theorem dX6_decoded_42 : decode cX6_decoded 42 = .ok (.iload_n 1, 1) := by decide +kernel
theorem dX6_decoded_43 : decode cX6_decoded 43 = .ok (.iaload, 1) := by decide +kernel
theorem dX6_decoded_44 : decode cX6_decoded 44 = .ok (.goto 9, 3) := by decide +kernel
theorem dX6_decoded_47 : decode cX6_decoded 47 = .ok (.aload_n 0, 1) := by decide +kernel
theorem dX6_decoded_48 : decode cX6_decoded 48 = .ok (.getfield 42, 3) := by decide +kernel
theorem dX6_decoded_51 : decode cX6_decoded 51 = .ok (.iload_n 1, 1) := by decide +kernel
theorem dX6_decoded_52 : decode cX6_decoded 52 = .ok (.iaload, 1) := by decide +kernel
theorem dX6_decoded_53 : decode cX6_decoded 53 = .ok (.ireturn, 1) := by decide +kernel
set_option maxRecDepth 100000 in
theorem ggX6_bucket_X6_in : GoodIn wsX6_bucket wsX6_in := goodIn_r _ [9] rfl (by decide +kernel)
set_option maxRecDepth 100000 in
theorem gX6_bucket_X6_in : GoodIn wsX6_bucket (va_wsS RX6 61 yX6_in wsX6_in) := goodIn_app (goodIn_of _ (by decide +kernel)) ggX6_bucket_X6_in
theorem dX6_bucket_0 : decode cX6_bucket 0 = .ok (.iload_n 1, 1) := by decide +kernel
theorem dX6_bucket_1 : decode cX6_bucket 1 = .ok (.i2l, 1) := by decide +kernel
theorem dX6_bucket_2 : decode cX6_bucket 2 = .ok (.lconst 0, 1) := by decide +kernel
theorem dX6_bucket_3 : decode cX6_bucket 3 = .ok (.aload_n 0, 1) := by decide +kernel
theorem dX6_bucket_4 : decode cX6_bucket 4 = .ok (.getfield 29, 3) := by decide +kernel
theorem dX6_bucket_7 : decode cX6_bucket 7 = .ok (.iconst 1, 1) := by decide +kernel
theorem dX6_bucket_8 : decode cX6_bucket 8 = .ok (.isub, 1) := by decide +kernel
theorem dX6_bucket_9 : decode cX6_bucket 9 = .ok (.i2l, 1) := by decide +kernel
theorem dX6_bucket_10 : decode cX6_bucket 10 = .ok (.invokestatic 61, 3) := by decide +kernel
theorem dX6_bucket_13 : decode cX6_bucket 13 = .ok (.ifCond .eq 49, 3) := by decide +kernel
theorem dX6_bucket_16 : decode cX6_bucket 16 = .ok (.iload_n 2, 1) := by decide +kernel
theorem dX6_bucket_17 : decode cX6_bucket 17 = .ok (.i2l, 1) := by decide +kernel
theorem dX6_bucket_18 : decode cX6_bucket 18 = .ok (.lconst 0, 1) := by decide +kernel
theorem dX6_bucket_19 : decode cX6_bucket 19 = .ok (.aload_n 0, 1) := by decide +kernel
theorem dX6_bucket_20 : decode cX6_bucket 20 = .ok (.getfield 32, 3) := by decide +kernel
theorem dX6_bucket_23 : decode cX6_bucket 23 = .ok (.iconst 1, 1) := by decide +kernel
theorem dX6_bucket_24 : decode cX6_bucket 24 = .ok (.isub, 1) := by decide +kernel
theorem dX6_bucket_25 : decode cX6_bucket 25 = .ok (.i2l, 1) := by decide +kernel
theorem dX6_bucket_26 : decode cX6_bucket 26 = .ok (.invokestatic 61, 3) := by decide +kernel
theorem dX6_bucket_29 : decode cX6_bucket 29 = .ok (.ifCond .eq 33, 3) := by decide +kernel
theorem dX6_bucket_32 : decode cX6_bucket 32 = .ok (.iload_n 3, 1) := by decide +kernel
theorem dX6_bucket_33 : decode cX6_bucket 33 = .ok (.i2l, 1) := by decide +kernel
theorem dX6_bucket_34 : decode cX6_bucket 34 = .ok (.lconst 0, 1) := by decide +kernel
theorem dX6_bucket_35 : decode cX6_bucket 35 = .ok (.ldc2_w 57, 3) := by decide +kernel
theorem dX6_bucket_38 : decode cX6_bucket 38 = .ok (.invokestatic 61, 3) := by decide +kernel
theorem dX6_bucket_41 : decode cX6_bucket 41 = .ok (.ifCond .eq 21, 3) := by decide +kernel
theorem dX6_bucket_44 : decode cX6_bucket 44 = .ok (.aload_n 0, 1) := by decide +kernel
theorem dX6_bucket_45 : decode cX6_bucket 45 = .ok (.getfield 35, 3) := by decide +kernel
theorem dX6_bucket_48 : decode cX6_bucket 48 = .ok (.bipush 96, 2) := by decide +kernel
theorem dX6_bucket_50 : decode cX6_bucket 50 = .ok (.iload_n 1, 1) := by decide +kernel
theorem dX6_bucket_51 : decode cX6_bucket 51 = .ok (.imul, 1) := by decide +kernel
theorem dX6_bucket_52 : decode cX6_bucket 52 = .ok (.iconst 3, 1) := by decide +kernel
theorem dX6_bucket_53 : decode cX6_bucket 53 = .ok (.iload_n 2, 1) := by decide +kernel
theorem dX6_bucket_54 : decode cX6_bucket 54 = .ok (.imul, 1) := by decide +kernel
theorem dX6_bucket_55 : decode cX6_bucket 55 = .ok (.iadd, 1) := by decide +kernel
theorem dX6_bucket_56 : decode cX6_bucket 56 = .ok (.iload_n 3, 1) := by decide +kernel
theorem dX6_bucket_57 : decode cX6_bucket 57 = .ok (.iadd, 1) := by decide +kernel
theorem dX6_bucket_58 : decode cX6_bucket 58 = .ok (.laload, 1) := by decide +kernel
theorem dX6_bucket_59 : decode cX6_bucket 59 = .ok (.goto 6, 3) := by decide +kernel
theorem dX6_bucket_62 : decode cX6_bucket 62 = .ok (.ldc2_w 181, 3) := by decide +kernel
theorem dX6_bucket_65 : decode cX6_bucket 65 = .ok (.lreturn, 1) := by decide +kernel
theorem dX6_count_0 : decode cX6_count 0 = .ok (.iload_n 1, 1) := by decide +kernel
theorem dX6_count_1 : decode cX6_count 1 = .ok (.tableswitch 69 0 5 #[39, 44, 49, 54, 59, 64], 39) := by decide +kernel
theorem dX6_count_40 : decode cX6_count 40 = .ok (.aload_n 0, 1) := by decide +kernel
theorem dX6_count_41 : decode cX6_count 41 = .ok (.getfield 7, 3) := by decide +kernel
theorem dX6_count_44 : decode cX6_count 44 = .ok (.ireturn, 1) := by decide +kernel
theorem dX6_count_45 : decode cX6_count 45 = .ok (.aload_n 0, 1) := by decide +kernel
theorem dX6_count_46 : decode cX6_count 46 = .ok (.getfield 13, 3) := by decide +kernel
theorem dX6_count_49 : decode cX6_count 49 = .ok (.ireturn, 1) := by decide +kernel
theorem dX6_count_50 : decode cX6_count 50 = .ok (.aload_n 0, 1) := by decide +kernel
theorem dX6_count_51 : decode cX6_count 51 = .ok (.getfield 16, 3) := by decide +kernel
theorem dX6_count_54 : decode cX6_count 54 = .ok (.ireturn, 1) := by decide +kernel
theorem dX6_count_55 : decode cX6_count 55 = .ok (.aload_n 0, 1) := by decide +kernel
theorem dX6_count_56 : decode cX6_count 56 = .ok (.getfield 29, 3) := by decide +kernel
theorem dX6_count_59 : decode cX6_count 59 = .ok (.ireturn, 1) := by decide +kernel
theorem dX6_count_60 : decode cX6_count 60 = .ok (.aload_n 0, 1) := by decide +kernel
theorem dX6_count_61 : decode cX6_count 61 = .ok (.getfield 32, 3) := by decide +kernel
theorem dX6_count_64 : decode cX6_count 64 = .ok (.ireturn, 1) := by decide +kernel
theorem dX6_count_65 : decode cX6_count 65 = .ok (.aload_n 0, 1) := by decide +kernel
theorem dX6_count_66 : decode cX6_count 66 = .ok (.getfield 150, 3) := by decide +kernel
theorem dX6_count_69 : decode cX6_count 69 = .ok (.ireturn, 1) := by decide +kernel
theorem dX6_count_70 : decode cX6_count 70 = .ok (.iconst (-1), 1) := by decide +kernel
