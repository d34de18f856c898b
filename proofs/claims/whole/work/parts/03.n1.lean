theorem dX0_init_0 : decode cX0_init 0 = .ok (.aload_n 0, 1) := by decide +kernel
theorem dX0_init_1 : decode cX0_init 1 = .ok (.invokespecial 3, 3) := by decide +kernel
theorem dX0_init_4 : decode cX0_init 4 = .ok (.aload_n 0, 1) := by decide +kernel
theorem dX0_init_5 : decode cX0_init 5 = .ok (.bipush 6, 2) := by decide +kernel
theorem dX0_init_7 : decode cX0_init 7 = .ok (.newarray .int, 2) := by decide +kernel
theorem dX0_init_9 : decode cX0_init 9 = .ok (.putfield 9, 3) := by decide +kernel
theorem dX0_init_12 : decode cX0_init 12 = .ok (.aload_n 0, 1) := by decide +kernel
theorem dX0_init_13 : decode cX0_init 13 = .ok (.aload_n 1, 1) := by decide +kernel
theorem dX0_init_14 : decode cX0_init 14 = .ok (.putfield 15, 3) := by decide +kernel
theorem dX0_init_17 : decode cX0_init 17 = .ok (.return_, 1) := by decide +kernel
set_option maxRecDepth 100000 in
theorem ggX0_walk_X5_copy : GoodIn wsX0_walk wsX5_copy := goodIn_r _ [7, 8, 9, 10, 11] rfl (by decide +kernel)
set_option maxRecDepth 100000 in
theorem gX0_walk_X5_copy_n19 : GoodIn wsX0_walk (wsX5_copy) := ggX0_walk_X5_copy
set_option maxRecDepth 100000 in
theorem ggX0_walk_X5_clear : GoodIn wsX0_walk wsX5_clear := goodIn_r _ [13] rfl (by decide +kernel)
set_option maxRecDepth 100000 in
theorem gX0_walk_X5_clear_n23 : GoodIn wsX0_walk (wsX5_clear) := ggX0_walk_X5_clear
set_option maxRecDepth 100000 in
theorem ggX0_walk_X5_weight : GoodIn wsX0_walk wsX5_weight := goodIn_r _ [15] rfl (by decide +kernel)
set_option maxRecDepth 100000 in
theorem gX0_walk_X5_weight_n27 : GoodIn wsX0_walk (wsX5_weight) := ggX0_walk_X5_weight
set_option maxRecDepth 100000 in
theorem ggX0_walk_X0_choose : GoodIn wsX0_walk wsX0_choose := goodIn_r _ [20, 2, 3, 4, 21, 1, 22, 23, 24, 25, 26, 27, 28, 29, 30, 31, 19, 32, 33, 34, 35, 36, 37, 38, 39, 40, 41, 42, 43, 44, 49, 50, 51, 52, 53, 54, 55, 56, 57, 58] rfl (by decide +kernel)
set_option maxRecDepth 100000 in
theorem gX0_walk_X0_choose : GoodIn wsX0_walk (wsV RX0 31 RX0 yX0_choose wsX0_choose) := goodIn_app (goodIn_of _ (by decide +kernel)) ggX0_walk_X0_choose
set_option maxRecDepth 100000 in
theorem ggX0_walk_X0_takeOff : GoodIn wsX0_walk wsX0_takeOff := goodIn_r _ [48, 21, 1, 2, 3, 33, 34, 35, 19, 36, 37, 38, 39, 25, 40, 28, 41, 42, 43, 44, 49, 50, 51, 52, 53, 54, 55, 56, 57, 58] rfl (by decide +kernel)
set_option maxRecDepth 100000 in
theorem gX0_walk_X0_takeOff : GoodIn wsX0_walk (wsV RX0 42 RX0 yX0_takeOff wsX0_takeOff) := goodIn_app (goodIn_of _ (by decide +kernel)) ggX0_walk_X0_takeOff
theorem dX0_walk_0 : decode cX0_walk 0 = .ok (.aload_n 1, 1) := by decide +kernel
theorem dX0_walk_1 : decode cX0_walk 1 = .ok (.aload_n 0, 1) := by decide +kernel
theorem dX0_walk_2 : decode cX0_walk 2 = .ok (.getfield 9, 3) := by decide +kernel
theorem dX0_walk_5 : decode cX0_walk 5 = .ok (.invokestatic 19, 3) := by decide +kernel
theorem dX0_walk_8 : decode cX0_walk 8 = .ok (.aload_n 3, 1) := by decide +kernel
theorem dX0_walk_9 : decode cX0_walk 9 = .ok (.invokestatic 23, 3) := by decide +kernel
theorem dX0_walk_12 : decode cX0_walk 12 = .ok (.iconst 0, 1) := by decide +kernel
theorem dX0_walk_13 : decode cX0_walk 13 = .ok (.istore 4, 2) := by decide +kernel
theorem dX0_walk_15 : decode cX0_walk 15 = .ok (.aload_n 0, 1) := by decide +kernel
theorem dX0_walk_16 : decode cX0_walk 16 = .ok (.getfield 9, 3) := by decide +kernel
theorem dX0_walk_19 : decode cX0_walk 19 = .ok (.invokestatic 27, 3) := by decide +kernel
theorem dX0_walk_22 : decode cX0_walk 22 = .ok (.istore 5, 2) := by decide +kernel
theorem dX0_walk_24 : decode cX0_walk 24 = .ok (.iconst 0, 1) := by decide +kernel
theorem dX0_walk_25 : decode cX0_walk 25 = .ok (.istore 6, 2) := by decide +kernel
theorem dX0_walk_27 : decode cX0_walk 27 = .ok (.iload 6, 2) := by decide +kernel
theorem dX0_walk_29 : decode cX0_walk 29 = .ok (.iload_n 2, 1) := by decide +kernel
theorem dX0_walk_30 : decode cX0_walk 30 = .ok (.if_icmp .ge 63, 3) := by decide +kernel
theorem dX0_walk_33 : decode cX0_walk 33 = .ok (.iload 5, 2) := by decide +kernel
theorem dX0_walk_35 : decode cX0_walk 35 = .ok (.ifCond .le 58, 3) := by decide +kernel
theorem dX0_walk_38 : decode cX0_walk 38 = .ok (.aload_n 0, 1) := by decide +kernel
theorem dX0_walk_39 : decode cX0_walk 39 = .ok (.iload 4, 2) := by decide +kernel
theorem dX0_walk_41 : decode cX0_walk 41 = .ok (.iload 5, 2) := by decide +kernel
theorem dX0_walk_43 : decode cX0_walk 43 = .ok (.invokevirtual 31, 3) := by decide +kernel
theorem dX0_walk_46 : decode cX0_walk 46 = .ok (.aload_n 0, 1) := by decide +kernel
theorem dX0_walk_47 : decode cX0_walk 47 = .ok (.getfield 35, 3) := by decide +kernel
theorem dX0_walk_50 : decode cX0_walk 50 = .ok (.ifCond .ge 6, 3) := by decide +kernel
theorem dX0_walk_53 : decode cX0_walk 53 = .ok (.iload 5, 2) := by decide +kernel
theorem dX0_walk_55 : decode cX0_walk 55 = .ok (.ireturn, 1) := by decide +kernel
theorem dX0_walk_56 : decode cX0_walk 56 = .ok (.iload 4, 2) := by decide +kernel
theorem dX0_walk_58 : decode cX0_walk 58 = .ok (.iconst 1, 1) := by decide +kernel
theorem dX0_walk_59 : decode cX0_walk 59 = .ok (.aload_n 0, 1) := by decide +kernel
theorem dX0_walk_60 : decode cX0_walk 60 = .ok (.getfield 35, 3) := by decide +kernel
theorem dX0_walk_63 : decode cX0_walk 63 = .ok (.ishl, 1) := by decide +kernel
theorem dX0_walk_64 : decode cX0_walk 64 = .ok (.ior, 1) := by decide +kernel
theorem dX0_walk_65 : decode cX0_walk 65 = .ok (.istore 4, 2) := by decide +kernel
theorem dX0_walk_67 : decode cX0_walk 67 = .ok (.aload_n 3, 1) := by decide +kernel
theorem dX0_walk_68 : decode cX0_walk 68 = .ok (.aload_n 0, 1) := by decide +kernel
theorem dX0_walk_69 : decode cX0_walk 69 = .ok (.getfield 35, 3) := by decide +kernel
theorem dX0_walk_72 : decode cX0_walk 72 = .ok (.aload_n 0, 1) := by decide +kernel
theorem dX0_walk_73 : decode cX0_walk 73 = .ok (.getfield 39, 3) := by decide +kernel
theorem dX0_walk_76 : decode cX0_walk 76 = .ok (.iastore, 1) := by decide +kernel
theorem dX0_walk_77 : decode cX0_walk 77 = .ok (.aload_n 0, 1) := by decide +kernel
theorem dX0_walk_78 : decode cX0_walk 78 = .ok (.invokevirtual 42, 3) := by decide +kernel
theorem dX0_walk_81 : decode cX0_walk 81 = .ok (.aload_n 0, 1) := by decide +kernel
theorem dX0_walk_82 : decode cX0_walk 82 = .ok (.getfield 45, 3) := by decide +kernel
theorem dX0_walk_85 : decode cX0_walk 85 = .ok (.istore 5, 2) := by decide +kernel
theorem dX0_walk_87 : decode cX0_walk 87 = .ok (.iinc 6 1, 3) := by decide +kernel
theorem dX0_walk_90 : decode cX0_walk 90 = .ok (.goto (-63), 3) := by decide +kernel
theorem dX0_walk_93 : decode cX0_walk 93 = .ok (.iload 5, 2) := by decide +kernel
theorem dX0_walk_95 : decode cX0_walk 95 = .ok (.ireturn, 1) := by decide +kernel
set_option maxRecDepth 100000 in
theorem ggX0_choose_X4_quotient : GoodIn wsX0_choose wsX4_quotient := goodIn_r _ [10, 11, 12, 35, 36, 37, 38, 39] rfl (by decide +kernel)
set_option maxRecDepth 100000 in
theorem gX0_choose_X4_quotient : GoodIn wsX0_choose (wsV RX0 60 RX4 yX4_quotient wsX4_quotient) := goodIn_app (goodIn_of _ (by decide +kernel)) ggX0_choose_X4_quotient
set_option maxRecDepth 100000 in
theorem ggX0_choose_X0_weigh : GoodIn wsX0_choose wsX0_weigh := goodIn_r _ [17, 4, 1, 2, 3, 18, 19, 20, 16, 21, 5, 22, 23, 24, 9, 25, 12, 26, 27, 28, 29, 30, 31, 32, 33, 34, 35, 36, 37, 38, 39] rfl (by decide +kernel)
set_option maxRecDepth 100000 in
theorem gX0_choose_X0_weigh : GoodIn wsX0_choose (wsV RX0 64 RX0 yX0_weigh wsX0_weigh) := goodIn_app (goodIn_of _ (by decide +kernel)) ggX0_choose_X0_weigh
theorem dX0_choose_0 : decode cX0_choose 0 = .ok (.aload_n 0, 1) := by decide +kernel
theorem dX0_choose_1 : decode cX0_choose 1 = .ok (.iconst (-1), 1) := by decide +kernel
theorem dX0_choose_2 : decode cX0_choose 2 = .ok (.putfield 35, 3) := by decide +kernel
theorem dX0_choose_5 : decode cX0_choose 5 = .ok (.aload_n 0, 1) := by decide +kernel
theorem dX0_choose_6 : decode cX0_choose 6 = .ok (.iconst 0, 1) := by decide +kernel
theorem dX0_choose_7 : decode cX0_choose 7 = .ok (.putfield 39, 3) := by decide +kernel
theorem dX0_choose_10 : decode cX0_choose 10 = .ok (.aload_n 0, 1) := by decide +kernel
theorem dX0_choose_11 : decode cX0_choose 11 = .ok (.iload_n 2, 1) := by decide +kernel
theorem dX0_choose_12 : decode cX0_choose 12 = .ok (.putfield 45, 3) := by decide +kernel
theorem dX0_choose_15 : decode cX0_choose 15 = .ok (.iconst 0, 1) := by decide +kernel
theorem dX0_choose_16 : decode cX0_choose 16 = .ok (.istore_n 3, 1) := by decide +kernel
theorem dX0_choose_17 : decode cX0_choose 17 = .ok (.iload_n 3, 1) := by decide +kernel
theorem dX0_choose_18 : decode cX0_choose 18 = .ok (.aload_n 0, 1) := by decide +kernel
theorem dX0_choose_19 : decode cX0_choose 19 = .ok (.getfield 15, 3) := by decide +kernel
theorem dX0_choose_22 : decode cX0_choose 22 = .ok (.getfield 48, 3) := by decide +kernel
theorem dX0_choose_25 : decode cX0_choose 25 = .ok (.if_icmp .ge 94, 3) := by decide +kernel
theorem dX0_choose_28 : decode cX0_choose 28 = .ok (.iconst 0, 1) := by decide +kernel
theorem dX0_choose_29 : decode cX0_choose 29 = .ok (.istore 4, 2) := by decide +kernel
theorem dX0_choose_31 : decode cX0_choose 31 = .ok (.iload 4, 2) := by decide +kernel
theorem dX0_choose_33 : decode cX0_choose 33 = .ok (.aload_n 0, 1) := by decide +kernel
theorem dX0_choose_34 : decode cX0_choose 34 = .ok (.getfield 15, 3) := by decide +kernel
theorem dX0_choose_37 : decode cX0_choose 37 = .ok (.getfield 53, 3) := by decide +kernel
theorem dX0_choose_40 : decode cX0_choose 40 = .ok (.if_icmp .ge 73, 3) := by decide +kernel
theorem dX0_choose_43 : decode cX0_choose 43 = .ok (.iload_n 1, 1) := by decide +kernel
theorem dX0_choose_44 : decode cX0_choose 44 = .ok (.iload_n 3, 1) := by decide +kernel
theorem dX0_choose_45 : decode cX0_choose 45 = .ok (.ishr, 1) := by decide +kernel
theorem dX0_choose_46 : decode cX0_choose 46 = .ok (.iconst 1, 1) := by decide +kernel
theorem dX0_choose_47 : decode cX0_choose 47 = .ok (.iand, 1) := by decide +kernel
theorem dX0_choose_48 : decode cX0_choose 48 = .ok (.ifCond .ne 65, 3) := by decide +kernel
theorem dX0_choose_51 : decode cX0_choose 51 = .ok (.aload_n 0, 1) := by decide +kernel
theorem dX0_choose_52 : decode cX0_choose 52 = .ok (.getfield 9, 3) := by decide +kernel
theorem dX0_choose_55 : decode cX0_choose 55 = .ok (.iload 4, 2) := by decide +kernel
theorem dX0_choose_57 : decode cX0_choose 57 = .ok (.iaload, 1) := by decide +kernel
theorem dX0_choose_58 : decode cX0_choose 58 = .ok (.ifCond .eq 49, 3) := by decide +kernel
theorem dX0_choose_61 : decode cX0_choose 61 = .ok (.aload_n 0, 1) := by decide +kernel
theorem dX0_choose_62 : decode cX0_choose 62 = .ok (.getfield 15, 3) := by decide +kernel
theorem dX0_choose_65 : decode cX0_choose 65 = .ok (.getfield 56, 3) := by decide +kernel
theorem dX0_choose_68 : decode cX0_choose 68 = .ok (.iload 4, 2) := by decide +kernel
theorem dX0_choose_70 : decode cX0_choose 70 = .ok (.aaload, 1) := by decide +kernel
theorem dX0_choose_71 : decode cX0_choose 71 = .ok (.iload_n 3, 1) := by decide +kernel
theorem dX0_choose_72 : decode cX0_choose 72 = .ok (.iaload, 1) := by decide +kernel
theorem dX0_choose_73 : decode cX0_choose 73 = .ok (.ifCond .eq 34, 3) := by decide +kernel
theorem dX0_choose_76 : decode cX0_choose 76 = .ok (.aload_n 0, 1) := by decide +kernel
theorem dX0_choose_77 : decode cX0_choose 77 = .ok (.iload_n 3, 1) := by decide +kernel
theorem dX0_choose_78 : decode cX0_choose 78 = .ok (.aload_n 0, 1) := by decide +kernel
theorem dX0_choose_79 : decode cX0_choose 79 = .ok (.getfield 15, 3) := by decide +kernel
theorem dX0_choose_82 : decode cX0_choose 82 = .ok (.aload_n 0, 1) := by decide +kernel
theorem dX0_choose_83 : decode cX0_choose 83 = .ok (.getfield 9, 3) := by decide +kernel
theorem dX0_choose_86 : decode cX0_choose 86 = .ok (.iload 4, 2) := by decide +kernel
theorem dX0_choose_88 : decode cX0_choose 88 = .ok (.iaload, 1) := by decide +kernel
theorem dX0_choose_89 : decode cX0_choose 89 = .ok (.aload_n 0, 1) := by decide +kernel
theorem dX0_choose_90 : decode cX0_choose 90 = .ok (.getfield 15, 3) := by decide +kernel
theorem dX0_choose_93 : decode cX0_choose 93 = .ok (.getfield 56, 3) := by decide +kernel
theorem dX0_choose_96 : decode cX0_choose 96 = .ok (.iload 4, 2) := by decide +kernel
theorem dX0_choose_98 : decode cX0_choose 98 = .ok (.aaload, 1) := by decide +kernel
theorem dX0_choose_99 : decode cX0_choose 99 = .ok (.iload_n 3, 1) := by decide +kernel
theorem dX0_choose_100 : decode cX0_choose 100 = .ok (.iaload, 1) := by decide +kernel
theorem dX0_choose_101 : decode cX0_choose 101 = .ok (.invokevirtual 60, 3) := by decide +kernel
theorem dX0_choose_104 : decode cX0_choose 104 = .ok (.invokevirtual 64, 3) := by decide +kernel
theorem dX0_choose_107 : decode cX0_choose 107 = .ok (.iinc 4 1, 3) := by decide +kernel
theorem dX0_choose_110 : decode cX0_choose 110 = .ok (.goto (-79), 3) := by decide +kernel
theorem dX0_choose_113 : decode cX0_choose 113 = .ok (.iinc 3 1, 3) := by decide +kernel
theorem dX0_choose_116 : decode cX0_choose 116 = .ok (.goto (-99), 3) := by decide +kernel
theorem dX0_choose_119 : decode cX0_choose 119 = .ok (.return_, 1) := by decide +kernel
set_option maxRecDepth 100000 in
theorem ggX0_weigh_X0_restWithout : GoodIn wsX0_weigh wsX0_restWithout := goodIn_r _ [9, 1, 10, 11, 12, 13, 14, 15, 16, 17, 18, 19, 20, 21, 22, 23, 24, 25, 26, 27, 28, 29, 30] rfl (by decide +kernel)
set_option maxRecDepth 100000 in
theorem gX0_weigh_X0_restWithout : GoodIn wsX0_weigh (wsV RX0 67 RX0 yX0_restWithout wsX0_restWithout) := goodIn_app (goodIn_of _ (by decide +kernel)) ggX0_weigh_X0_restWithout
theorem dX0_weigh_0 : decode cX0_weigh 0 = .ok (.iconst 0, 1) := by decide +kernel
theorem dX0_weigh_1 : decode cX0_weigh 1 = .ok (.istore_n 3, 1) := by decide +kernel
theorem dX0_weigh_2 : decode cX0_weigh 2 = .ok (.iconst 0, 1) := by decide +kernel
theorem dX0_weigh_3 : decode cX0_weigh 3 = .ok (.istore 4, 2) := by decide +kernel
theorem dX0_weigh_5 : decode cX0_weigh 5 = .ok (.iload 4, 2) := by decide +kernel
theorem dX0_weigh_7 : decode cX0_weigh 7 = .ok (.aload_n 0, 1) := by decide +kernel
theorem dX0_weigh_8 : decode cX0_weigh 8 = .ok (.getfield 15, 3) := by decide +kernel
theorem dX0_weigh_11 : decode cX0_weigh 11 = .ok (.getfield 53, 3) := by decide +kernel
theorem dX0_weigh_14 : decode cX0_weigh 14 = .ok (.if_icmp .ge 23, 3) := by decide +kernel
theorem dX0_weigh_17 : decode cX0_weigh 17 = .ok (.aload_n 0, 1) := by decide +kernel
theorem dX0_weigh_18 : decode cX0_weigh 18 = .ok (.iload 4, 2) := by decide +kernel
theorem dX0_weigh_20 : decode cX0_weigh 20 = .ok (.iload_n 1, 1) := by decide +kernel
theorem dX0_weigh_21 : decode cX0_weigh 21 = .ok (.iload_n 2, 1) := by decide +kernel
theorem dX0_weigh_22 : decode cX0_weigh 22 = .ok (.invokevirtual 67, 3) := by decide +kernel
theorem dX0_weigh_25 : decode cX0_weigh 25 = .ok (.ifCond .eq 6, 3) := by decide +kernel
theorem dX0_weigh_28 : decode cX0_weigh 28 = .ok (.iinc 3 1, 3) := by decide +kernel
theorem dX0_weigh_31 : decode cX0_weigh 31 = .ok (.iinc 4 1, 3) := by decide +kernel
theorem dX0_weigh_34 : decode cX0_weigh 34 = .ok (.goto (-29), 3) := by decide +kernel
theorem dX0_weigh_37 : decode cX0_weigh 37 = .ok (.iload_n 1, 1) := by decide +kernel
theorem dX0_weigh_38 : decode cX0_weigh 38 = .ok (.aload_n 0, 1) := by decide +kernel
theorem dX0_weigh_39 : decode cX0_weigh 39 = .ok (.getfield 35, 3) := by decide +kernel
theorem dX0_weigh_42 : decode cX0_weigh 42 = .ok (.if_icmp .ne 15, 3) := by decide +kernel
theorem dX0_weigh_45 : decode cX0_weigh 45 = .ok (.iload_n 2, 1) := by decide +kernel
theorem dX0_weigh_46 : decode cX0_weigh 46 = .ok (.aload_n 0, 1) := by decide +kernel
theorem dX0_weigh_47 : decode cX0_weigh 47 = .ok (.getfield 39, 3) := by decide +kernel
theorem dX0_weigh_50 : decode cX0_weigh 50 = .ok (.if_icmp .ge 7, 3) := by decide +kernel
theorem dX0_weigh_53 : decode cX0_weigh 53 = .ok (.iconst 1, 1) := by decide +kernel
theorem dX0_weigh_54 : decode cX0_weigh 54 = .ok (.goto 4, 3) := by decide +kernel
theorem dX0_weigh_57 : decode cX0_weigh 57 = .ok (.iconst 0, 1) := by decide +kernel
theorem dX0_weigh_58 : decode cX0_weigh 58 = .ok (.istore 4, 2) := by decide +kernel
theorem dX0_weigh_60 : decode cX0_weigh 60 = .ok (.iload_n 3, 1) := by decide +kernel
theorem dX0_weigh_61 : decode cX0_weigh 61 = .ok (.aload_n 0, 1) := by decide +kernel
theorem dX0_weigh_62 : decode cX0_weigh 62 = .ok (.getfield 45, 3) := by decide +kernel
theorem dX0_weigh_65 : decode cX0_weigh 65 = .ok (.if_icmp .lt 16, 3) := by decide +kernel
theorem dX0_weigh_68 : decode cX0_weigh 68 = .ok (.iload_n 3, 1) := by decide +kernel
theorem dX0_weigh_69 : decode cX0_weigh 69 = .ok (.aload_n 0, 1) := by decide +kernel
theorem dX0_weigh_70 : decode cX0_weigh 70 = .ok (.getfield 45, 3) := by decide +kernel
theorem dX0_weigh_73 : decode cX0_weigh 73 = .ok (.if_icmp .ne 23, 3) := by decide +kernel
theorem dX0_weigh_76 : decode cX0_weigh 76 = .ok (.iload 4, 2) := by decide +kernel
theorem dX0_weigh_78 : decode cX0_weigh 78 = .ok (.ifCond .eq 18, 3) := by decide +kernel
theorem dX0_weigh_81 : decode cX0_weigh 81 = .ok (.aload_n 0, 1) := by decide +kernel
theorem dX0_weigh_82 : decode cX0_weigh 82 = .ok (.iload_n 1, 1) := by decide +kernel
theorem dX0_weigh_83 : decode cX0_weigh 83 = .ok (.putfield 35, 3) := by decide +kernel
theorem dX0_weigh_86 : decode cX0_weigh 86 = .ok (.aload_n 0, 1) := by decide +kernel
theorem dX0_weigh_87 : decode cX0_weigh 87 = .ok (.iload_n 2, 1) := by decide +kernel
theorem dX0_weigh_88 : decode cX0_weigh 88 = .ok (.putfield 39, 3) := by decide +kernel
theorem dX0_weigh_91 : decode cX0_weigh 91 = .ok (.aload_n 0, 1) := by decide +kernel
theorem dX0_weigh_92 : decode cX0_weigh 92 = .ok (.iload_n 3, 1) := by decide +kernel
theorem dX0_weigh_93 : decode cX0_weigh 93 = .ok (.putfield 45, 3) := by decide +kernel
theorem dX0_weigh_96 : decode cX0_weigh 96 = .ok (.return_, 1) := by decide +kernel
set_option maxRecDepth 100000 in
theorem ggX0_restWithout_X4_remainder : GoodIn wsX0_restWithout wsX4_remainder := goodIn_r _ [7, 8, 9, 10, 11, 12, 18, 19, 20, 21, 22] rfl (by decide +kernel)
set_option maxRecDepth 100000 in
theorem gX0_restWithout_X4_remainder : GoodIn wsX0_restWithout (wsV RX0 71 RX4 yX4_remainder wsX4_remainder) := goodIn_app (goodIn_of _ (by decide +kernel)) ggX0_restWithout_X4_remainder
theorem dX0_restWithout_0 : decode cX0_restWithout 0 = .ok (.aload_n 0, 1) := by decide +kernel
theorem dX0_restWithout_1 : decode cX0_restWithout 1 = .ok (.getfield 15, 3) := by decide +kernel
theorem dX0_restWithout_4 : decode cX0_restWithout 4 = .ok (.aload_n 0, 1) := by decide +kernel
theorem dX0_restWithout_5 : decode cX0_restWithout 5 = .ok (.getfield 9, 3) := by decide +kernel
theorem dX0_restWithout_8 : decode cX0_restWithout 8 = .ok (.iload_n 1, 1) := by decide +kernel
theorem dX0_restWithout_9 : decode cX0_restWithout 9 = .ok (.iaload, 1) := by decide +kernel
theorem dX0_restWithout_10 : decode cX0_restWithout 10 = .ok (.iload_n 3, 1) := by decide +kernel
theorem dX0_restWithout_11 : decode cX0_restWithout 11 = .ok (.aload_n 0, 1) := by decide +kernel
theorem dX0_restWithout_12 : decode cX0_restWithout 12 = .ok (.getfield 15, 3) := by decide +kernel
theorem dX0_restWithout_15 : decode cX0_restWithout 15 = .ok (.getfield 56, 3) := by decide +kernel
theorem dX0_restWithout_18 : decode cX0_restWithout 18 = .ok (.iload_n 1, 1) := by decide +kernel
theorem dX0_restWithout_19 : decode cX0_restWithout 19 = .ok (.aaload, 1) := by decide +kernel
theorem dX0_restWithout_20 : decode cX0_restWithout 20 = .ok (.iload_n 2, 1) := by decide +kernel
theorem dX0_restWithout_21 : decode cX0_restWithout 21 = .ok (.iaload, 1) := by decide +kernel
theorem dX0_restWithout_22 : decode cX0_restWithout 22 = .ok (.imul, 1) := by decide +kernel
theorem dX0_restWithout_23 : decode cX0_restWithout 23 = .ok (.isub, 1) := by decide +kernel
theorem dX0_restWithout_24 : decode cX0_restWithout 24 = .ok (.invokevirtual 71, 3) := by decide +kernel
theorem dX0_restWithout_27 : decode cX0_restWithout 27 = .ok (.ireturn, 1) := by decide +kernel
set_option maxRecDepth 100000 in
theorem ggX0_takeOff_X0_restWithout : GoodIn wsX0_takeOff wsX0_restWithout := goodIn_r _ [9, 1, 2, 10, 11, 12, 13, 14, 15, 16, 17, 18, 19, 20, 21, 22, 23, 24, 25, 26, 27, 28, 29] rfl (by decide +kernel)
set_option maxRecDepth 100000 in
theorem gX0_takeOff_X0_restWithout : GoodIn wsX0_takeOff (wsV RX0 67 RX0 yX0_restWithout wsX0_restWithout) := goodIn_app (goodIn_of _ (by decide +kernel)) ggX0_takeOff_X0_restWithout
theorem dX0_takeOff_0 : decode cX0_takeOff 0 = .ok (.iconst 0, 1) := by decide +kernel
theorem dX0_takeOff_1 : decode cX0_takeOff 1 = .ok (.istore_n 1, 1) := by decide +kernel
theorem dX0_takeOff_2 : decode cX0_takeOff 2 = .ok (.iload_n 1, 1) := by decide +kernel
theorem dX0_takeOff_3 : decode cX0_takeOff 3 = .ok (.aload_n 0, 1) := by decide +kernel
theorem dX0_takeOff_4 : decode cX0_takeOff 4 = .ok (.getfield 15, 3) := by decide +kernel
theorem dX0_takeOff_7 : decode cX0_takeOff 7 = .ok (.getfield 53, 3) := by decide +kernel
theorem dX0_takeOff_10 : decode cX0_takeOff 10 = .ok (.if_icmp .ge 28, 3) := by decide +kernel
theorem dX0_takeOff_13 : decode cX0_takeOff 13 = .ok (.aload_n 0, 1) := by decide +kernel
theorem dX0_takeOff_14 : decode cX0_takeOff 14 = .ok (.getfield 9, 3) := by decide +kernel
theorem dX0_takeOff_17 : decode cX0_takeOff 17 = .ok (.iload_n 1, 1) := by decide +kernel
theorem dX0_takeOff_18 : decode cX0_takeOff 18 = .ok (.aload_n 0, 1) := by decide +kernel
theorem dX0_takeOff_19 : decode cX0_takeOff 19 = .ok (.iload_n 1, 1) := by decide +kernel
theorem dX0_takeOff_20 : decode cX0_takeOff 20 = .ok (.aload_n 0, 1) := by decide +kernel
theorem dX0_takeOff_21 : decode cX0_takeOff 21 = .ok (.getfield 35, 3) := by decide +kernel
theorem dX0_takeOff_24 : decode cX0_takeOff 24 = .ok (.aload_n 0, 1) := by decide +kernel
theorem dX0_takeOff_25 : decode cX0_takeOff 25 = .ok (.getfield 39, 3) := by decide +kernel
theorem dX0_takeOff_28 : decode cX0_takeOff 28 = .ok (.invokevirtual 67, 3) := by decide +kernel
theorem dX0_takeOff_31 : decode cX0_takeOff 31 = .ok (.iastore, 1) := by decide +kernel
theorem dX0_takeOff_32 : decode cX0_takeOff 32 = .ok (.iinc 1 1, 3) := by decide +kernel
theorem dX0_takeOff_35 : decode cX0_takeOff 35 = .ok (.goto (-33), 3) := by decide +kernel
theorem dX0_takeOff_38 : decode cX0_takeOff 38 = .ok (.return_, 1) := by decide +kernel
theorem dX1_init_0 : decode cX1_init 0 = .ok (.aload_n 0, 1) := by decide +kernel
theorem dX1_init_1 : decode cX1_init 1 = .ok (.invokespecial 3, 3) := by decide +kernel
theorem dX1_init_4 : decode cX1_init 4 = .ok (.aload_n 0, 1) := by decide +kernel
theorem dX1_init_5 : decode cX1_init 5 = .ok (.bipush 12, 2) := by decide +kernel
theorem dX1_init_7 : decode cX1_init 7 = .ok (.newarray .int, 2) := by decide +kernel
theorem dX1_init_9 : decode cX1_init 9 = .ok (.putfield 9, 3) := by decide +kernel
theorem dX1_init_12 : decode cX1_init 12 = .ok (.aload_n 0, 1) := by decide +kernel
theorem dX1_init_13 : decode cX1_init 13 = .ok (.aload_n 1, 1) := by decide +kernel
theorem dX1_init_14 : decode cX1_init 14 = .ok (.putfield 15, 3) := by decide +kernel
theorem dX1_init_17 : decode cX1_init 17 = .ok (.aload_n 0, 1) := by decide +kernel
theorem dX1_init_18 : decode cX1_init 18 = .ok (.aload_n 2, 1) := by decide +kernel
theorem dX1_init_19 : decode cX1_init 19 = .ok (.putfield 19, 3) := by decide +kernel
theorem dX1_init_22 : decode cX1_init 22 = .ok (.return_, 1) := by decide +kernel
set_option maxRecDepth 100000 in
theorem ggX1_look_J6_bitCount_0f7a4 : GoodIn wsX1_look wsJ6_bitCount_0f7a4 := goodIn_r _ [7, 8, 9, 10] rfl (by decide +kernel)
set_option maxRecDepth 100000 in
theorem gX1_look_J6_bitCount_0f7a4 : GoodIn wsX1_look (va_wsS RX1 29 yJ6_bitCount_0f7a4 wsJ6_bitCount_0f7a4) := goodIn_app (goodIn_of _ (by decide +kernel)) ggX1_look_J6_bitCount_0f7a4
set_option maxRecDepth 100000 in
theorem ggX1_look_X2_waysToTell : GoodIn wsX1_look wsX2_waysToTell := goodIn_r _ [15, 16, 17, 18, 19, 20, 21, 22, 14, 23, 24, 25, 26, 27, 28, 29, 30, 31, 32, 33, 34, 35, 36, 37, 38, 39, 40, 41, 42, 43, 44, 45, 46, 47, 48, 49, 50, 51, 52, 53, 54, 55, 56, 57, 58, 59, 60, 61, 62, 63, 64, 65, 66, 67, 68, 69, 70, 71, 72, 73, 74, 75, 94, 95, 96, 97, 98, 99, 100, 101, 102, 103, 104, 89, 90, 91, 92, 93] rfl (by decide +kernel)
set_option maxRecDepth 100000 in
theorem gX1_look_X2_waysToTell : GoodIn wsX1_look (wsV RX1 35 RX2 yX2_waysToTell wsX2_waysToTell) := goodIn_app (goodIn_of _ (by decide +kernel)) ggX1_look_X2_waysToTell
set_option maxRecDepth 100000 in
theorem ggX1_look_X1_isLess : GoodIn wsX1_look wsX1_isLess := goodIn_r _ [79] rfl (by decide +kernel)
set_option maxRecDepth 100000 in
theorem gX1_look_X1_isLess : GoodIn wsX1_look (va_wsS RX1 45 yX1_isLess wsX1_isLess) := goodIn_app (goodIn_of _ (by decide +kernel)) ggX1_look_X1_isLess
set_option maxRecDepth 100000 in
theorem ggX1_look_X5_copy : GoodIn wsX1_look wsX5_copy := goodIn_r _ [81, 82, 83, 84, 85] rfl (by decide +kernel)
set_option maxRecDepth 100000 in
theorem gX1_look_X5_copy_n49 : GoodIn wsX1_look (wsX5_copy) := ggX1_look_X5_copy
theorem dX1_look_0 : decode cX1_look 0 = .ok (.iconst (-1), 1) := by decide +kernel
theorem dX1_look_1 : decode cX1_look 1 = .ok (.istore 4, 2) := by decide +kernel
theorem dX1_look_3 : decode cX1_look 3 = .ok (.iconst 0, 1) := by decide +kernel
theorem dX1_look_4 : decode cX1_look 4 = .ok (.istore 5, 2) := by decide +kernel
theorem dX1_look_6 : decode cX1_look 6 = .ok (.iload 5, 2) := by decide +kernel
theorem dX1_look_8 : decode cX1_look 8 = .ok (.iconst 1, 1) := by decide +kernel
theorem dX1_look_9 : decode cX1_look 9 = .ok (.aload_n 0, 1) := by decide +kernel
theorem dX1_look_10 : decode cX1_look 10 = .ok (.getfield 15, 3) := by decide +kernel
theorem dX1_look_13 : decode cX1_look 13 = .ok (.getfield 23, 3) := by decide +kernel
theorem dX1_look_16 : decode cX1_look 16 = .ok (.ishl, 1) := by decide +kernel
theorem dX1_look_17 : decode cX1_look 17 = .ok (.if_icmp .ge 114, 3) := by decide +kernel
theorem dX1_look_20 : decode cX1_look 20 = .ok (.iload 5, 2) := by decide +kernel
theorem dX1_look_22 : decode cX1_look 22 = .ok (.invokestatic 29, 3) := by decide +kernel
theorem dX1_look_25 : decode cX1_look 25 = .ok (.iload_n 3, 1) := by decide +kernel
theorem dX1_look_26 : decode cX1_look 26 = .ok (.if_icmp .ne 99, 3) := by decide +kernel
theorem dX1_look_29 : decode cX1_look 29 = .ok (.aload_n 0, 1) := by decide +kernel
theorem dX1_look_30 : decode cX1_look 30 = .ok (.getfield 19, 3) := by decide +kernel
theorem dX1_look_33 : decode cX1_look 33 = .ok (.aload_n 1, 1) := by decide +kernel
theorem dX1_look_34 : decode cX1_look 34 = .ok (.iload 5, 2) := by decide +kernel
theorem dX1_look_36 : decode cX1_look 36 = .ok (.iload_n 2, 1) := by decide +kernel
theorem dX1_look_37 : decode cX1_look 37 = .ok (.iconst 1, 1) := by decide +kernel
theorem dX1_look_38 : decode cX1_look 38 = .ok (.invokevirtual 35, 3) := by decide +kernel
theorem dX1_look_41 : decode cX1_look 41 = .ok (.ifCond .le 84, 3) := by decide +kernel
theorem dX1_look_44 : decode cX1_look 44 = .ok (.iload 4, 2) := by decide +kernel
theorem dX1_look_46 : decode cX1_look 46 = .ok (.ifCond .lt 15, 3) := by decide +kernel
theorem dX1_look_49 : decode cX1_look 49 = .ok (.aload_n 0, 1) := by decide +kernel
theorem dX1_look_50 : decode cX1_look 50 = .ok (.getfield 19, 3) := by decide +kernel
theorem dX1_look_53 : decode cX1_look 53 = .ok (.getfield 41, 3) := by decide +kernel
theorem dX1_look_56 : decode cX1_look 56 = .ok (.iload 4, 2) := by decide +kernel
theorem dX1_look_58 : decode cX1_look 58 = .ok (.if_icmp .ge 7, 3) := by decide +kernel
theorem dX1_look_61 : decode cX1_look 61 = .ok (.iconst 1, 1) := by decide +kernel
theorem dX1_look_62 : decode cX1_look 62 = .ok (.goto 4, 3) := by decide +kernel
theorem dX1_look_65 : decode cX1_look 65 = .ok (.iconst 0, 1) := by decide +kernel
theorem dX1_look_66 : decode cX1_look 66 = .ok (.istore 6, 2) := by decide +kernel
theorem dX1_look_68 : decode cX1_look 68 = .ok (.iload 6, 2) := by decide +kernel
theorem dX1_look_70 : decode cX1_look 70 = .ok (.ifCond .ne 32, 3) := by decide +kernel
theorem dX1_look_73 : decode cX1_look 73 = .ok (.aload_n 0, 1) := by decide +kernel
theorem dX1_look_74 : decode cX1_look 74 = .ok (.getfield 19, 3) := by decide +kernel
theorem dX1_look_77 : decode cX1_look 77 = .ok (.getfield 41, 3) := by decide +kernel
theorem dX1_look_80 : decode cX1_look 80 = .ok (.iload 4, 2) := by decide +kernel
theorem dX1_look_82 : decode cX1_look 82 = .ok (.if_icmp .ne 43, 3) := by decide +kernel
theorem dX1_look_85 : decode cX1_look 85 = .ok (.aload_n 0, 1) := by decide +kernel
theorem dX1_look_86 : decode cX1_look 86 = .ok (.getfield 19, 3) := by decide +kernel
theorem dX1_look_89 : decode cX1_look 89 = .ok (.getfield 44, 3) := by decide +kernel
theorem dX1_look_92 : decode cX1_look 92 = .ok (.aload_n 0, 1) := by decide +kernel
theorem dX1_look_93 : decode cX1_look 93 = .ok (.getfield 9, 3) := by decide +kernel
theorem dX1_look_96 : decode cX1_look 96 = .ok (.invokestatic 45, 3) := by decide +kernel
theorem dX1_look_99 : decode cX1_look 99 = .ok (.ifCond .eq 26, 3) := by decide +kernel
theorem dX1_look_102 : decode cX1_look 102 = .ok (.aload_n 0, 1) := by decide +kernel
theorem dX1_look_103 : decode cX1_look 103 = .ok (.getfield 19, 3) := by decide +kernel
theorem dX1_look_106 : decode cX1_look 106 = .ok (.getfield 41, 3) := by decide +kernel
theorem dX1_look_109 : decode cX1_look 109 = .ok (.istore 4, 2) := by decide +kernel
theorem dX1_look_111 : decode cX1_look 111 = .ok (.aload_n 0, 1) := by decide +kernel
theorem dX1_look_112 : decode cX1_look 112 = .ok (.getfield 19, 3) := by decide +kernel
theorem dX1_look_115 : decode cX1_look 115 = .ok (.getfield 44, 3) := by decide +kernel
theorem dX1_look_118 : decode cX1_look 118 = .ok (.aload_n 0, 1) := by decide +kernel
theorem dX1_look_119 : decode cX1_look 119 = .ok (.getfield 9, 3) := by decide +kernel
theorem dX1_look_122 : decode cX1_look 122 = .ok (.invokestatic 49, 3) := by decide +kernel
theorem dX1_look_125 : decode cX1_look 125 = .ok (.iinc 5 1, 3) := by decide +kernel
theorem dX1_look_128 : decode cX1_look 128 = .ok (.goto (-122), 3) := by decide +kernel
theorem dX1_look_131 : decode cX1_look 131 = .ok (.iload 4, 2) := by decide +kernel
theorem dX1_look_133 : decode cX1_look 133 = .ok (.ifCond .lt 7, 3) := by decide +kernel
theorem dX1_look_136 : decode cX1_look 136 = .ok (.iconst 1, 1) := by decide +kernel
theorem dX1_look_137 : decode cX1_look 137 = .ok (.goto 4, 3) := by decide +kernel
theorem dX1_look_140 : decode cX1_look 140 = .ok (.iconst 0, 1) := by decide +kernel
theorem dX1_look_141 : decode cX1_look 141 = .ok (.ireturn, 1) := by decide +kernel
theorem dX1_isLess_0 : decode cX1_isLess 0 = .ok (.iconst 0, 1) := by decide +kernel
theorem dX1_isLess_1 : decode cX1_isLess 1 = .ok (.istore_n 2, 1) := by decide +kernel
theorem dX1_isLess_2 : decode cX1_isLess 2 = .ok (.iload_n 2, 1) := by decide +kernel
theorem dX1_isLess_3 : decode cX1_isLess 3 = .ok (.bipush 12, 2) := by decide +kernel
theorem dX1_isLess_5 : decode cX1_isLess 5 = .ok (.if_icmp .ge 33, 3) := by decide +kernel
theorem dX1_isLess_8 : decode cX1_isLess 8 = .ok (.aload_n 0, 1) := by decide +kernel
theorem dX1_isLess_9 : decode cX1_isLess 9 = .ok (.iload_n 2, 1) := by decide +kernel
theorem dX1_isLess_10 : decode cX1_isLess 10 = .ok (.iaload, 1) := by decide +kernel
theorem dX1_isLess_11 : decode cX1_isLess 11 = .ok (.aload_n 1, 1) := by decide +kernel
theorem dX1_isLess_12 : decode cX1_isLess 12 = .ok (.iload_n 2, 1) := by decide +kernel
theorem dX1_isLess_13 : decode cX1_isLess 13 = .ok (.iaload, 1) := by decide +kernel
theorem dX1_isLess_14 : decode cX1_isLess 14 = .ok (.if_icmp .eq 18, 3) := by decide +kernel
theorem dX1_isLess_17 : decode cX1_isLess 17 = .ok (.aload_n 0, 1) := by decide +kernel
theorem dX1_isLess_18 : decode cX1_isLess 18 = .ok (.iload_n 2, 1) := by decide +kernel
theorem dX1_isLess_19 : decode cX1_isLess 19 = .ok (.iaload, 1) := by decide +kernel
theorem dX1_isLess_20 : decode cX1_isLess 20 = .ok (.aload_n 1, 1) := by decide +kernel
theorem dX1_isLess_21 : decode cX1_isLess 21 = .ok (.iload_n 2, 1) := by decide +kernel
theorem dX1_isLess_22 : decode cX1_isLess 22 = .ok (.iaload, 1) := by decide +kernel
theorem dX1_isLess_23 : decode cX1_isLess 23 = .ok (.if_icmp .ge 7, 3) := by decide +kernel
theorem dX1_isLess_26 : decode cX1_isLess 26 = .ok (.iconst 1, 1) := by decide +kernel
theorem dX1_isLess_27 : decode cX1_isLess 27 = .ok (.goto 4, 3) := by decide +kernel
theorem dX1_isLess_30 : decode cX1_isLess 30 = .ok (.iconst 0, 1) := by decide +kernel
theorem dX1_isLess_31 : decode cX1_isLess 31 = .ok (.ireturn, 1) := by decide +kernel
theorem dX1_isLess_32 : decode cX1_isLess 32 = .ok (.iinc 2 1, 3) := by decide +kernel
theorem dX1_isLess_35 : decode cX1_isLess 35 = .ok (.goto (-33), 3) := by decide +kernel
theorem dX1_isLess_38 : decode cX1_isLess 38 = .ok (.iconst 0, 1) := by decide +kernel
theorem dX1_isLess_39 : decode cX1_isLess 39 = .ok (.ireturn, 1) := by decide +kernel
theorem dX2_init_0 : decode cX2_init 0 = .ok (.aload_n 0, 1) := by decide +kernel
theorem dX2_init_1 : decode cX2_init 1 = .ok (.invokespecial 3, 3) := by decide +kernel
theorem dX2_init_4 : decode cX2_init 4 = .ok (.aload_n 0, 1) := by decide +kernel
theorem dX2_init_5 : decode cX2_init 5 = .ok (.bipush 7, 2) := by decide +kernel
theorem dX2_init_7 : decode cX2_init 7 = .ok (.bipush 78, 2) := by decide +kernel
theorem dX2_init_9 : decode cX2_init 9 = .ok (.multianewarray 9 2, 4) := by decide +kernel
theorem dX2_init_13 : decode cX2_init 13 = .ok (.putfield 11, 3) := by decide +kernel
theorem dX2_init_16 : decode cX2_init 16 = .ok (.aload_n 0, 1) := by decide +kernel
theorem dX2_init_17 : decode cX2_init 17 = .ok (.bipush 7, 2) := by decide +kernel
theorem dX2_init_19 : decode cX2_init 19 = .ok (.newarray .int, 2) := by decide +kernel
theorem dX2_init_21 : decode cX2_init 21 = .ok (.putfield 16, 3) := by decide +kernel
theorem dX2_init_24 : decode cX2_init 24 = .ok (.aload_n 0, 1) := by decide +kernel
theorem dX2_init_25 : decode cX2_init 25 = .ok (.bipush 7, 2) := by decide +kernel
theorem dX2_init_27 : decode cX2_init 27 = .ok (.newarray .int, 2) := by decide +kernel
theorem dX2_init_29 : decode cX2_init 29 = .ok (.putfield 20, 3) := by decide +kernel
theorem dX2_init_32 : decode cX2_init 32 = .ok (.aload_n 0, 1) := by decide +kernel
theorem dX2_init_33 : decode cX2_init 33 = .ok (.bipush 12, 2) := by decide +kernel
theorem dX2_init_35 : decode cX2_init 35 = .ok (.newarray .int, 2) := by decide +kernel
theorem dX2_init_37 : decode cX2_init 37 = .ok (.putfield 23, 3) := by decide +kernel
theorem dX2_init_40 : decode cX2_init 40 = .ok (.aload_n 0, 1) := by decide +kernel
theorem dX2_init_41 : decode cX2_init 41 = .ok (.aload_n 1, 1) := by decide +kernel
theorem dX2_init_42 : decode cX2_init 42 = .ok (.putfield 26, 3) := by decide +kernel
theorem dX2_init_45 : decode cX2_init 45 = .ok (.return_, 1) := by decide +kernel
set_option maxRecDepth 100000 in
theorem ggX2_rank_X2_loadColumns : GoodIn wsX2_rank wsX2_loadColumns := goodIn_r _ [6, 7, 1, 8, 27, 28, 29, 30, 31, 32, 33, 34, 35, 36, 37, 38, 39, 40, 41, 42] rfl (by decide +kernel)
set_option maxRecDepth 100000 in
theorem gX2_rank_X2_loadColumns : GoodIn wsX2_rank (wsV RX2 30 RX2 yX2_loadColumns wsX2_loadColumns) := goodIn_app (goodIn_of _ (by decide +kernel)) ggX2_rank_X2_loadColumns
set_option maxRecDepth 100000 in
theorem ggX2_rank_X2_isNought : GoodIn wsX2_rank wsX2_isNought := goodIn_r _ [12, 7, 13, 14, 15, 5, 16, 8, 27, 28, 29, 30, 31, 32, 33, 34, 35, 36, 37] rfl (by decide +kernel)
set_option maxRecDepth 100000 in
theorem gX2_rank_X2_isNought : GoodIn wsX2_rank (wsV RX2 40 RX2 yX2_isNought wsX2_isNought) := goodIn_app (goodIn_of _ (by decide +kernel)) ggX2_rank_X2_isNought
set_option maxRecDepth 100000 in
theorem ggX2_rank_X2_takeOut : GoodIn wsX2_rank wsX2_takeOut := goodIn_r _ [20, 21, 22, 13, 14, 15, 5, 16, 7, 8, 23, 24, 25, 26, 1, 27, 28, 29, 30, 31, 32, 33, 34, 35, 36, 37, 38, 39, 40, 41, 42] rfl (by decide +kernel)
set_option maxRecDepth 100000 in
theorem gX2_rank_X2_takeOut : GoodIn wsX2_rank (wsV RX2 44 RX2 yX2_takeOut wsX2_takeOut) := goodIn_app (goodIn_of _ (by decide +kernel)) ggX2_rank_X2_takeOut
theorem dX2_rank_0 : decode cX2_rank 0 = .ok (.aload_n 0, 1) := by decide +kernel
theorem dX2_rank_1 : decode cX2_rank 1 = .ok (.iconst 0, 1) := by decide +kernel
theorem dX2_rank_2 : decode cX2_rank 2 = .ok (.invokevirtual 30, 3) := by decide +kernel
theorem dX2_rank_5 : decode cX2_rank 5 = .ok (.iconst 0, 1) := by decide +kernel
theorem dX2_rank_6 : decode cX2_rank 6 = .ok (.istore_n 1, 1) := by decide +kernel
theorem dX2_rank_7 : decode cX2_rank 7 = .ok (.aload_n 0, 1) := by decide +kernel
theorem dX2_rank_8 : decode cX2_rank 8 = .ok (.getfield 26, 3) := by decide +kernel
theorem dX2_rank_11 : decode cX2_rank 11 = .ok (.getfield 34, 3) := by decide +kernel
theorem dX2_rank_14 : decode cX2_rank 14 = .ok (.iconst 1, 1) := by decide +kernel
theorem dX2_rank_15 : decode cX2_rank 15 = .ok (.isub, 1) := by decide +kernel
theorem dX2_rank_16 : decode cX2_rank 16 = .ok (.istore_n 2, 1) := by decide +kernel
theorem dX2_rank_17 : decode cX2_rank 17 = .ok (.iload_n 2, 1) := by decide +kernel
theorem dX2_rank_18 : decode cX2_rank 18 = .ok (.ifCond .lt 34, 3) := by decide +kernel
theorem dX2_rank_21 : decode cX2_rank 21 = .ok (.iload_n 1, 1) := by decide +kernel
theorem dX2_rank_22 : decode cX2_rank 22 = .ok (.bipush 6, 2) := by decide +kernel
theorem dX2_rank_24 : decode cX2_rank 24 = .ok (.if_icmp .ge 28, 3) := by decide +kernel
theorem dX2_rank_27 : decode cX2_rank 27 = .ok (.aload_n 0, 1) := by decide +kernel
theorem dX2_rank_28 : decode cX2_rank 28 = .ok (.iload_n 1, 1) := by decide +kernel
theorem dX2_rank_29 : decode cX2_rank 29 = .ok (.iload_n 2, 1) := by decide +kernel
theorem dX2_rank_30 : decode cX2_rank 30 = .ok (.invokevirtual 40, 3) := by decide +kernel
theorem dX2_rank_33 : decode cX2_rank 33 = .ok (.ifCond .ne 13, 3) := by decide +kernel
theorem dX2_rank_36 : decode cX2_rank 36 = .ok (.aload_n 0, 1) := by decide +kernel
theorem dX2_rank_37 : decode cX2_rank 37 = .ok (.iload_n 1, 1) := by decide +kernel
theorem dX2_rank_38 : decode cX2_rank 38 = .ok (.iload_n 2, 1) := by decide +kernel
theorem dX2_rank_39 : decode cX2_rank 39 = .ok (.iload_n 2, 1) := by decide +kernel
theorem dX2_rank_40 : decode cX2_rank 40 = .ok (.invokevirtual 44, 3) := by decide +kernel
theorem dX2_rank_43 : decode cX2_rank 43 = .ok (.iinc 1 1, 3) := by decide +kernel
theorem dX2_rank_46 : decode cX2_rank 46 = .ok (.iinc 2 (-1), 3) := by decide +kernel
theorem dX2_rank_49 : decode cX2_rank 49 = .ok (.goto (-32), 3) := by decide +kernel
theorem dX2_rank_52 : decode cX2_rank 52 = .ok (.iload_n 1, 1) := by decide +kernel
theorem dX2_rank_53 : decode cX2_rank 53 = .ok (.ireturn, 1) := by decide +kernel
set_option maxRecDepth 100000 in
theorem ggX2_spark_X2_loadColumns : GoodIn wsX2_spark wsX2_loadColumns := goodIn_r _ [11, 12, 1, 13, 40, 41, 42, 43, 44, 45, 46, 47, 48, 49, 50, 51, 52, 53, 54, 55] rfl (by decide +kernel)
set_option maxRecDepth 100000 in
theorem gX2_spark_X2_loadColumns : GoodIn wsX2_spark (wsV RX2 30 RX2 yX2_loadColumns wsX2_loadColumns) := goodIn_app (goodIn_of _ (by decide +kernel)) ggX2_spark_X2_loadColumns
set_option maxRecDepth 100000 in
theorem ggX2_spark_X2_seekBound : GoodIn wsX2_spark wsX2_seekBound := goodIn_r _ [17, 6, 18, 19, 20, 10, 21, 12, 22, 23, 24, 25, 13, 26, 27, 28, 29, 30, 31, 32, 33, 34, 35, 36, 37, 38, 39, 1, 14, 15, 16, 40, 41, 42, 43, 44, 45, 46, 47, 48, 49, 50, 51, 52, 53, 54, 55] rfl (by decide +kernel)
set_option maxRecDepth 100000 in
theorem gX2_spark_X2_seekBound : GoodIn wsX2_spark (wsV RX2 60 RX2 yX2_seekBound wsX2_seekBound) := goodIn_app (goodIn_of _ (by decide +kernel)) ggX2_spark_X2_seekBound
theorem dX2_spark_0 : decode cX2_spark 0 = .ok (.aload_n 0, 1) := by decide +kernel
theorem dX2_spark_1 : decode cX2_spark 1 = .ok (.iconst 0, 1) := by decide +kernel
theorem dX2_spark_2 : decode cX2_spark 2 = .ok (.invokevirtual 30, 3) := by decide +kernel
theorem dX2_spark_5 : decode cX2_spark 5 = .ok (.aload_n 0, 1) := by decide +kernel
theorem dX2_spark_6 : decode cX2_spark 6 = .ok (.aload_n 0, 1) := by decide +kernel
theorem dX2_spark_7 : decode cX2_spark 7 = .ok (.getfield 26, 3) := by decide +kernel
theorem dX2_spark_10 : decode cX2_spark 10 = .ok (.getfield 34, 3) := by decide +kernel
theorem dX2_spark_13 : decode cX2_spark 13 = .ok (.aload_n 0, 1) := by decide +kernel
theorem dX2_spark_14 : decode cX2_spark 14 = .ok (.getfield 26, 3) := by decide +kernel
theorem dX2_spark_17 : decode cX2_spark 17 = .ok (.getfield 48, 3) := by decide +kernel
theorem dX2_spark_20 : decode cX2_spark 20 = .ok (.invokestatic 51, 3) := by decide +kernel
theorem dX2_spark_23 : decode cX2_spark 23 = .ok (.iconst 1, 1) := by decide +kernel
theorem dX2_spark_24 : decode cX2_spark 24 = .ok (.iadd, 1) := by decide +kernel
theorem dX2_spark_25 : decode cX2_spark 25 = .ok (.putfield 57, 3) := by decide +kernel
theorem dX2_spark_28 : decode cX2_spark 28 = .ok (.aload_n 0, 1) := by decide +kernel
theorem dX2_spark_29 : decode cX2_spark 29 = .ok (.iconst 0, 1) := by decide +kernel
theorem dX2_spark_30 : decode cX2_spark 30 = .ok (.aload_n 0, 1) := by decide +kernel
theorem dX2_spark_31 : decode cX2_spark 31 = .ok (.getfield 26, 3) := by decide +kernel
theorem dX2_spark_34 : decode cX2_spark 34 = .ok (.getfield 34, 3) := by decide +kernel
theorem dX2_spark_37 : decode cX2_spark 37 = .ok (.invokevirtual 60, 3) := by decide +kernel
theorem dX2_spark_40 : decode cX2_spark 40 = .ok (.aload_n 0, 1) := by decide +kernel
theorem dX2_spark_41 : decode cX2_spark 41 = .ok (.getfield 57, 3) := by decide +kernel
theorem dX2_spark_44 : decode cX2_spark 44 = .ok (.ireturn, 1) := by decide +kernel
set_option maxRecDepth 100000 in
theorem ggX2_seekBound_X2_isNought : GoodIn wsX2_seekBound wsX2_isNought := goodIn_r _ [6, 7, 8, 9, 10, 5, 11, 12, 31, 32, 33, 34, 35, 36, 37, 38, 39, 40, 41] rfl (by decide +kernel)
set_option maxRecDepth 100000 in
theorem gX2_seekBound_X2_isNought : GoodIn wsX2_seekBound (wsV RX2 40 RX2 yX2_isNought wsX2_isNought) := goodIn_app (goodIn_of _ (by decide +kernel)) ggX2_seekBound_X2_isNought
set_option maxRecDepth 100000 in
theorem ggX2_seekBound_X2_seekBoundTo : GoodIn wsX2_seekBound wsX2_seekBoundTo := goodIn_r _ [16, 17, 18, 19, 5, 20, 21, 22, 8, 9, 10, 11, 7, 12, 23, 24, 25, 26, 27, 28, 29, 30, 0, 1, 2, 3, 4, 6, 13, 14, 15, 31, 32, 33, 34, 35, 36, 37, 38, 39, 40, 41, 42, 43, 44, 45, 46] rfl (by decide +kernel)
set_option maxRecDepth 100000 in
theorem gX2_seekBound_X2_seekBoundTo : GoodIn wsX2_seekBound (wsV RX2 64 RX2 yX2_seekBoundTo wsX2_seekBoundTo) := goodIn_app (goodIn_of _ (by decide +kernel)) ggX2_seekBound_X2_seekBoundTo
theorem dX2_seekBound_0 : decode cX2_seekBound 0 = .ok (.iload_n 1, 1) := by decide +kernel
theorem dX2_seekBound_1 : decode cX2_seekBound 1 = .ok (.iconst 1, 1) := by decide +kernel
theorem dX2_seekBound_2 : decode cX2_seekBound 2 = .ok (.iadd, 1) := by decide +kernel
theorem dX2_seekBound_3 : decode cX2_seekBound 3 = .ok (.aload_n 0, 1) := by decide +kernel
theorem dX2_seekBound_4 : decode cX2_seekBound 4 = .ok (.getfield 57, 3) := by decide +kernel
theorem dX2_seekBound_7 : decode cX2_seekBound 7 = .ok (.if_icmp .ge 9, 3) := by decide +kernel
theorem dX2_seekBound_10 : decode cX2_seekBound 10 = .ok (.iload_n 1, 1) := by decide +kernel
theorem dX2_seekBound_11 : decode cX2_seekBound 11 = .ok (.bipush 6, 2) := by decide +kernel
theorem dX2_seekBound_13 : decode cX2_seekBound 13 = .ok (.if_icmp .lt 4, 3) := by decide +kernel
theorem dX2_seekBound_16 : decode cX2_seekBound 16 = .ok (.return_, 1) := by decide +kernel
theorem dX2_seekBound_17 : decode cX2_seekBound 17 = .ok (.iconst 0, 1) := by decide +kernel
theorem dX2_seekBound_18 : decode cX2_seekBound 18 = .ok (.istore_n 3, 1) := by decide +kernel
theorem dX2_seekBound_19 : decode cX2_seekBound 19 = .ok (.iload_n 3, 1) := by decide +kernel
theorem dX2_seekBound_20 : decode cX2_seekBound 20 = .ok (.iload_n 2, 1) := by decide +kernel
theorem dX2_seekBound_21 : decode cX2_seekBound 21 = .ok (.if_icmp .ge 26, 3) := by decide +kernel
theorem dX2_seekBound_24 : decode cX2_seekBound 24 = .ok (.aload_n 0, 1) := by decide +kernel
theorem dX2_seekBound_25 : decode cX2_seekBound 25 = .ok (.iload_n 1, 1) := by decide +kernel
theorem dX2_seekBound_26 : decode cX2_seekBound 26 = .ok (.iload_n 3, 1) := by decide +kernel
theorem dX2_seekBound_27 : decode cX2_seekBound 27 = .ok (.invokevirtual 40, 3) := by decide +kernel
theorem dX2_seekBound_30 : decode cX2_seekBound 30 = .ok (.ifCond .eq 11, 3) := by decide +kernel
theorem dX2_seekBound_33 : decode cX2_seekBound 33 = .ok (.aload_n 0, 1) := by decide +kernel
theorem dX2_seekBound_34 : decode cX2_seekBound 34 = .ok (.iload_n 1, 1) := by decide +kernel
theorem dX2_seekBound_35 : decode cX2_seekBound 35 = .ok (.iconst 1, 1) := by decide +kernel
theorem dX2_seekBound_36 : decode cX2_seekBound 36 = .ok (.iadd, 1) := by decide +kernel
theorem dX2_seekBound_37 : decode cX2_seekBound 37 = .ok (.putfield 57, 3) := by decide +kernel
theorem dX2_seekBound_40 : decode cX2_seekBound 40 = .ok (.return_, 1) := by decide +kernel
theorem dX2_seekBound_41 : decode cX2_seekBound 41 = .ok (.iinc 3 1, 3) := by decide +kernel
theorem dX2_seekBound_44 : decode cX2_seekBound 44 = .ok (.goto (-25), 3) := by decide +kernel
theorem dX2_seekBound_47 : decode cX2_seekBound 47 = .ok (.iconst 1, 1) := by decide +kernel
theorem dX2_seekBound_48 : decode cX2_seekBound 48 = .ok (.istore_n 3, 1) := by decide +kernel
theorem dX2_seekBound_49 : decode cX2_seekBound 49 = .ok (.iload_n 3, 1) := by decide +kernel
theorem dX2_seekBound_50 : decode cX2_seekBound 50 = .ok (.iload_n 2, 1) := by decide +kernel
theorem dX2_seekBound_51 : decode cX2_seekBound 51 = .ok (.if_icmp .ge 25, 3) := by decide +kernel
theorem dX2_seekBound_54 : decode cX2_seekBound 54 = .ok (.iload_n 1, 1) := by decide +kernel
theorem dX2_seekBound_55 : decode cX2_seekBound 55 = .ok (.iconst 2, 1) := by decide +kernel
theorem dX2_seekBound_56 : decode cX2_seekBound 56 = .ok (.iadd, 1) := by decide +kernel
theorem dX2_seekBound_57 : decode cX2_seekBound 57 = .ok (.aload_n 0, 1) := by decide +kernel
theorem dX2_seekBound_58 : decode cX2_seekBound 58 = .ok (.getfield 57, 3) := by decide +kernel
theorem dX2_seekBound_61 : decode cX2_seekBound 61 = .ok (.if_icmp .ge 15, 3) := by decide +kernel
theorem dX2_seekBound_64 : decode cX2_seekBound 64 = .ok (.aload_n 0, 1) := by decide +kernel
theorem dX2_seekBound_65 : decode cX2_seekBound 65 = .ok (.iload_n 1, 1) := by decide +kernel
theorem dX2_seekBound_66 : decode cX2_seekBound 66 = .ok (.iload_n 3, 1) := by decide +kernel
theorem dX2_seekBound_67 : decode cX2_seekBound 67 = .ok (.invokevirtual 64, 3) := by decide +kernel
theorem dX2_seekBound_70 : decode cX2_seekBound 70 = .ok (.iinc 3 1, 3) := by decide +kernel
theorem dX2_seekBound_73 : decode cX2_seekBound 73 = .ok (.goto (-24), 3) := by decide +kernel
theorem dX2_seekBound_76 : decode cX2_seekBound 76 = .ok (.return_, 1) := by decide +kernel
set_option maxRecDepth 100000 in
theorem ggX2_seekBoundTo_X2_takeOut : GoodIn wsX2_seekBoundTo wsX2_takeOut := goodIn_r _ [5, 6, 7, 8, 9, 10, 4, 11, 12, 13, 14, 15, 16, 17, 18, 31, 32, 33, 34, 35, 36, 37, 38, 39, 40, 41, 42, 43, 44, 45, 46] rfl (by decide +kernel)
set_option maxRecDepth 100000 in
theorem gX2_seekBoundTo_X2_takeOut : GoodIn wsX2_seekBoundTo (wsV RX2 44 RX2 yX2_takeOut wsX2_takeOut) := goodIn_app (goodIn_of _ (by decide +kernel)) ggX2_seekBoundTo_X2_takeOut
set_option maxRecDepth 100000 in
theorem ggX2_seekBoundTo_X2_seekBound : GoodIn wsX2_seekBoundTo wsX2_seekBound := goodIn_r _ [22, 23, 24, 25, 26, 4, 27, 12, 8, 9, 10, 11, 13, 28, 29, 30, 0, 1, 2, 3, 5, 6, 7, 14, 15, 16, 17, 18, 19, 20, 21, 31, 32, 33, 34, 35, 36, 37, 38, 39, 40, 41, 42, 43, 44, 45, 46] rfl (by decide +kernel)
set_option maxRecDepth 100000 in
theorem gX2_seekBoundTo_X2_seekBound : GoodIn wsX2_seekBoundTo (wsV RX2 60 RX2 yX2_seekBound wsX2_seekBound) := goodIn_app (goodIn_of _ (by decide +kernel)) ggX2_seekBoundTo_X2_seekBound
theorem dX2_seekBoundTo_0 : decode cX2_seekBoundTo 0 = .ok (.aload_n 0, 1) := by decide +kernel
theorem dX2_seekBoundTo_1 : decode cX2_seekBoundTo 1 = .ok (.iload_n 1, 1) := by decide +kernel
theorem dX2_seekBoundTo_2 : decode cX2_seekBoundTo 2 = .ok (.iload_n 2, 1) := by decide +kernel
theorem dX2_seekBoundTo_3 : decode cX2_seekBoundTo 3 = .ok (.iload_n 2, 1) := by decide +kernel
theorem dX2_seekBoundTo_4 : decode cX2_seekBoundTo 4 = .ok (.invokevirtual 44, 3) := by decide +kernel
theorem dX2_seekBoundTo_7 : decode cX2_seekBoundTo 7 = .ok (.aload_n 0, 1) := by decide +kernel
theorem dX2_seekBoundTo_8 : decode cX2_seekBoundTo 8 = .ok (.iload_n 1, 1) := by decide +kernel
theorem dX2_seekBoundTo_9 : decode cX2_seekBoundTo 9 = .ok (.iconst 1, 1) := by decide +kernel
theorem dX2_seekBoundTo_10 : decode cX2_seekBoundTo 10 = .ok (.iadd, 1) := by decide +kernel
theorem dX2_seekBoundTo_11 : decode cX2_seekBoundTo 11 = .ok (.iload_n 2, 1) := by decide +kernel
theorem dX2_seekBoundTo_12 : decode cX2_seekBoundTo 12 = .ok (.invokevirtual 60, 3) := by decide +kernel
theorem dX2_seekBoundTo_15 : decode cX2_seekBoundTo 15 = .ok (.return_, 1) := by decide +kernel
set_option maxRecDepth 100000 in
theorem ggX2_waysToTell_X2_loadColumns : GoodIn wsX2_waysToTell wsX2_loadColumns := goodIn_r _ [9, 10, 4, 11, 62, 63, 64, 65, 66, 67, 68, 69, 70, 71, 72, 73, 74, 75, 76, 77] rfl (by decide +kernel)
set_option maxRecDepth 100000 in
theorem gX2_waysToTell_X2_loadColumns : GoodIn wsX2_waysToTell (wsV RX2 30 RX2 yX2_loadColumns wsX2_loadColumns) := goodIn_app (goodIn_of _ (by decide +kernel)) ggX2_waysToTell_X2_loadColumns
set_option maxRecDepth 100000 in
theorem ggX2_waysToTell_X2_loadSums : GoodIn wsX2_waysToTell wsX2_loadSums := goodIn_r _ [15, 4, 11, 62, 63, 64, 65, 66, 67, 68, 69, 70, 71, 72, 73, 74, 75, 76, 77] rfl (by decide +kernel)
set_option maxRecDepth 100000 in
theorem gX2_waysToTell_X2_loadSums : GoodIn wsX2_waysToTell (wsV RX2 67 RX2 yX2_loadSums wsX2_loadSums) := goodIn_app (goodIn_of _ (by decide +kernel)) ggX2_waysToTell_X2_loadSums
set_option maxRecDepth 100000 in
theorem ggX2_waysToTell_X2_seekTelling : GoodIn wsX2_waysToTell wsX2_seekTelling := goodIn_r _ [19, 1, 3, 2, 20, 21, 22, 8, 23, 10, 24, 25, 26, 27, 11, 28, 29, 30, 31, 32, 33, 34, 35, 36, 37, 38, 39, 40, 41, 42, 4, 43, 44, 45, 46, 47, 48, 49, 50, 51, 52, 53, 54, 55, 56, 57, 58, 59, 60, 61, 16, 17, 18, 62, 63, 64, 65, 66, 67, 68, 69, 70, 71, 72, 73, 74, 75, 76, 77] rfl (by decide +kernel)
set_option maxRecDepth 100000 in
theorem gX2_waysToTell_X2_seekTelling : GoodIn wsX2_waysToTell (wsV RX2 80 RX2 yX2_seekTelling wsX2_seekTelling) := goodIn_app (goodIn_of _ (by decide +kernel)) ggX2_waysToTell_X2_seekTelling
theorem dX2_waysToTell_0 : decode cX2_waysToTell 0 = .ok (.aload_n 0, 1) := by decide +kernel
theorem dX2_waysToTell_1 : decode cX2_waysToTell 1 = .ok (.iload_n 2, 1) := by decide +kernel
theorem dX2_waysToTell_2 : decode cX2_waysToTell 2 = .ok (.invokevirtual 30, 3) := by decide +kernel
theorem dX2_waysToTell_5 : decode cX2_waysToTell 5 = .ok (.aload_n 0, 1) := by decide +kernel
theorem dX2_waysToTell_6 : decode cX2_waysToTell 6 = .ok (.aload_n 1, 1) := by decide +kernel
theorem dX2_waysToTell_7 : decode cX2_waysToTell 7 = .ok (.iload_n 2, 1) := by decide +kernel
theorem dX2_waysToTell_8 : decode cX2_waysToTell 8 = .ok (.invokevirtual 67, 3) := by decide +kernel
theorem dX2_waysToTell_11 : decode cX2_waysToTell 11 = .ok (.aload_n 0, 1) := by decide +kernel
theorem dX2_waysToTell_12 : decode cX2_waysToTell 12 = .ok (.iload_n 3, 1) := by decide +kernel
theorem dX2_waysToTell_13 : decode cX2_waysToTell 13 = .ok (.putfield 71, 3) := by decide +kernel
theorem dX2_waysToTell_16 : decode cX2_waysToTell 16 = .ok (.aload_n 0, 1) := by decide +kernel
theorem dX2_waysToTell_17 : decode cX2_waysToTell 17 = .ok (.iload 4, 2) := by decide +kernel
theorem dX2_waysToTell_19 : decode cX2_waysToTell 19 = .ok (.putfield 74, 3) := by decide +kernel
theorem dX2_waysToTell_22 : decode cX2_waysToTell 22 = .ok (.aload_n 0, 1) := by decide +kernel
theorem dX2_waysToTell_23 : decode cX2_waysToTell 23 = .ok (.iconst 0, 1) := by decide +kernel
theorem dX2_waysToTell_24 : decode cX2_waysToTell 24 = .ok (.putfield 77, 3) := by decide +kernel
theorem dX2_waysToTell_27 : decode cX2_waysToTell 27 = .ok (.aload_n 0, 1) := by decide +kernel
theorem dX2_waysToTell_28 : decode cX2_waysToTell 28 = .ok (.iconst 0, 1) := by decide +kernel
theorem dX2_waysToTell_29 : decode cX2_waysToTell 29 = .ok (.aload_n 0, 1) := by decide +kernel
theorem dX2_waysToTell_30 : decode cX2_waysToTell 30 = .ok (.getfield 26, 3) := by decide +kernel
theorem dX2_waysToTell_33 : decode cX2_waysToTell 33 = .ok (.getfield 34, 3) := by decide +kernel
theorem dX2_waysToTell_36 : decode cX2_waysToTell 36 = .ok (.iconst 0, 1) := by decide +kernel
theorem dX2_waysToTell_37 : decode cX2_waysToTell 37 = .ok (.invokevirtual 80, 3) := by decide +kernel
theorem dX2_waysToTell_40 : decode cX2_waysToTell 40 = .ok (.aload_n 0, 1) := by decide +kernel
theorem dX2_waysToTell_41 : decode cX2_waysToTell 41 = .ok (.getfield 77, 3) := by decide +kernel
theorem dX2_waysToTell_44 : decode cX2_waysToTell 44 = .ok (.ireturn, 1) := by decide +kernel
set_option maxRecDepth 100000 in
theorem ggX2_seekTelling_X2_isNought : GoodIn wsX2_seekTelling wsX2_isNought := goodIn_r _ [8, 9, 10, 11, 12, 7, 13, 14, 53, 54, 55, 56, 57, 58, 59, 60, 61, 62, 63] rfl (by decide +kernel)
set_option maxRecDepth 100000 in
theorem gX2_seekTelling_X2_isNought : GoodIn wsX2_seekTelling (wsV RX2 40 RX2 yX2_isNought wsX2_isNought) := goodIn_app (goodIn_of _ (by decide +kernel)) ggX2_seekTelling_X2_isNought
set_option maxRecDepth 100000 in
theorem ggX2_seekTelling_X2_noteTelling : GoodIn wsX2_seekTelling wsX2_noteTelling := goodIn_r _ [18, 2, 19, 20, 1, 21, 22, 23, 24, 25, 26, 27, 7, 28, 29, 14, 30, 31, 32, 33, 34, 35, 36, 37, 53, 54, 55, 56, 57, 58, 59, 60, 61, 62, 63, 64, 65, 66, 67, 68] rfl (by decide +kernel)
set_option maxRecDepth 100000 in
theorem gX2_seekTelling_X2_noteTelling : GoodIn wsX2_seekTelling (wsV RX2 83 RX2 yX2_noteTelling wsX2_noteTelling) := goodIn_app (goodIn_of _ (by decide +kernel)) ggX2_seekTelling_X2_noteTelling
set_option maxRecDepth 100000 in
theorem ggX2_seekTelling_X2_seekTellingWith : GoodIn wsX2_seekTelling wsX2_seekTellingWith := goodIn_r _ [41, 1, 42, 43, 44, 7, 45, 21, 29, 10, 11, 12, 13, 9, 14, 46, 47, 48, 49, 30, 50, 51, 52, 0, 2, 3, 4, 5, 6, 8, 15, 16, 17, 18, 19, 20, 22, 23, 24, 25, 26, 27, 28, 31, 32, 33, 34, 35, 36, 37, 38, 39, 40, 53, 54, 55, 56, 57, 58, 59, 60, 61, 62, 63, 64, 65, 66, 67, 68] rfl (by decide +kernel)
set_option maxRecDepth 100000 in
theorem gX2_seekTelling_X2_seekTellingWith : GoodIn wsX2_seekTelling (wsV RX2 86 RX2 yX2_seekTellingWith wsX2_seekTellingWith) := goodIn_app (goodIn_of _ (by decide +kernel)) ggX2_seekTelling_X2_seekTellingWith
theorem dX2_seekTelling_0 : decode cX2_seekTelling 0 = .ok (.iload_n 1, 1) := by decide +kernel
theorem dX2_seekTelling_1 : decode cX2_seekTelling 1 = .ok (.aload_n 0, 1) := by decide +kernel
theorem dX2_seekTelling_2 : decode cX2_seekTelling 2 = .ok (.getfield 71, 3) := by decide +kernel
theorem dX2_seekTelling_5 : decode cX2_seekTelling 5 = .ok (.if_icmp .lt 19, 3) := by decide +kernel
theorem dX2_seekTelling_8 : decode cX2_seekTelling 8 = .ok (.aload_n 0, 1) := by decide +kernel
theorem dX2_seekTelling_9 : decode cX2_seekTelling 9 = .ok (.iload_n 1, 1) := by decide +kernel
theorem dX2_seekTelling_10 : decode cX2_seekTelling 10 = .ok (.bipush 12, 2) := by decide +kernel
theorem dX2_seekTelling_12 : decode cX2_seekTelling 12 = .ok (.invokevirtual 40, 3) := by decide +kernel
theorem dX2_seekTelling_15 : decode cX2_seekTelling 15 = .ok (.ifCond .eq 8, 3) := by decide +kernel
theorem dX2_seekTelling_18 : decode cX2_seekTelling 18 = .ok (.aload_n 0, 1) := by decide +kernel
theorem dX2_seekTelling_19 : decode cX2_seekTelling 19 = .ok (.iload_n 3, 1) := by decide +kernel
theorem dX2_seekTelling_20 : decode cX2_seekTelling 20 = .ok (.invokevirtual 83, 3) := by decide +kernel
theorem dX2_seekTelling_23 : decode cX2_seekTelling 23 = .ok (.return_, 1) := by decide +kernel
theorem dX2_seekTelling_24 : decode cX2_seekTelling 24 = .ok (.iload_n 1, 1) := by decide +kernel
theorem dX2_seekTelling_25 : decode cX2_seekTelling 25 = .ok (.bipush 6, 2) := by decide +kernel
theorem dX2_seekTelling_27 : decode cX2_seekTelling 27 = .ok (.if_icmp .lt 4, 3) := by decide +kernel
theorem dX2_seekTelling_30 : decode cX2_seekTelling 30 = .ok (.return_, 1) := by decide +kernel
theorem dX2_seekTelling_31 : decode cX2_seekTelling 31 = .ok (.aload_n 0, 1) := by decide +kernel
theorem dX2_seekTelling_32 : decode cX2_seekTelling 32 = .ok (.getfield 71, 3) := by decide +kernel
theorem dX2_seekTelling_35 : decode cX2_seekTelling 35 = .ok (.iload_n 1, 1) := by decide +kernel
theorem dX2_seekTelling_36 : decode cX2_seekTelling 36 = .ok (.isub, 1) := by decide +kernel
theorem dX2_seekTelling_37 : decode cX2_seekTelling 37 = .ok (.iconst 1, 1) := by decide +kernel
theorem dX2_seekTelling_38 : decode cX2_seekTelling 38 = .ok (.isub, 1) := by decide +kernel
theorem dX2_seekTelling_39 : decode cX2_seekTelling 39 = .ok (.istore 4, 2) := by decide +kernel
theorem dX2_seekTelling_41 : decode cX2_seekTelling 41 = .ok (.iload 4, 2) := by decide +kernel
theorem dX2_seekTelling_43 : decode cX2_seekTelling 43 = .ok (.istore 5, 2) := by decide +kernel
theorem dX2_seekTelling_45 : decode cX2_seekTelling 45 = .ok (.iload 5, 2) := by decide +kernel
theorem dX2_seekTelling_47 : decode cX2_seekTelling 47 = .ok (.iload_n 2, 1) := by decide +kernel
theorem dX2_seekTelling_48 : decode cX2_seekTelling 48 = .ok (.if_icmp .ge 38, 3) := by decide +kernel
theorem dX2_seekTelling_51 : decode cX2_seekTelling 51 = .ok (.aload_n 0, 1) := by decide +kernel
theorem dX2_seekTelling_52 : decode cX2_seekTelling 52 = .ok (.getfield 77, 3) := by decide +kernel
theorem dX2_seekTelling_55 : decode cX2_seekTelling 55 = .ok (.aload_n 0, 1) := by decide +kernel
theorem dX2_seekTelling_56 : decode cX2_seekTelling 56 = .ok (.getfield 74, 3) := by decide +kernel
theorem dX2_seekTelling_59 : decode cX2_seekTelling 59 = .ok (.if_icmp .ge 27, 3) := by decide +kernel
theorem dX2_seekTelling_62 : decode cX2_seekTelling 62 = .ok (.aload_n 0, 1) := by decide +kernel
theorem dX2_seekTelling_63 : decode cX2_seekTelling 63 = .ok (.iload_n 1, 1) := by decide +kernel
theorem dX2_seekTelling_64 : decode cX2_seekTelling 64 = .ok (.iload 5, 2) := by decide +kernel
theorem dX2_seekTelling_66 : decode cX2_seekTelling 66 = .ok (.invokevirtual 40, 3) := by decide +kernel
theorem dX2_seekTelling_69 : decode cX2_seekTelling 69 = .ok (.ifCond .ne 11, 3) := by decide +kernel
theorem dX2_seekTelling_72 : decode cX2_seekTelling 72 = .ok (.aload_n 0, 1) := by decide +kernel
theorem dX2_seekTelling_73 : decode cX2_seekTelling 73 = .ok (.iload_n 1, 1) := by decide +kernel
theorem dX2_seekTelling_74 : decode cX2_seekTelling 74 = .ok (.iload 5, 2) := by decide +kernel
theorem dX2_seekTelling_76 : decode cX2_seekTelling 76 = .ok (.iload_n 3, 1) := by decide +kernel
theorem dX2_seekTelling_77 : decode cX2_seekTelling 77 = .ok (.invokevirtual 86, 3) := by decide +kernel
theorem dX2_seekTelling_80 : decode cX2_seekTelling 80 = .ok (.iinc 5 1, 3) := by decide +kernel
theorem dX2_seekTelling_83 : decode cX2_seekTelling 83 = .ok (.goto (-38), 3) := by decide +kernel
theorem dX2_seekTelling_86 : decode cX2_seekTelling 86 = .ok (.return_, 1) := by decide +kernel
set_option maxRecDepth 100000 in
theorem ggX2_seekTellingWith_X2_takeOut : GoodIn wsX2_seekTellingWith wsX2_takeOut := goodIn_r _ [6, 7, 8, 9, 10, 11, 5, 12, 13, 14, 15, 16, 17, 18, 19, 53, 54, 55, 56, 57, 58, 59, 60, 61, 62, 63, 64, 65, 66, 67, 68] rfl (by decide +kernel)
set_option maxRecDepth 100000 in
theorem gX2_seekTellingWith_X2_takeOut : GoodIn wsX2_seekTellingWith (wsV RX2 44 RX2 yX2_takeOut wsX2_takeOut) := goodIn_app (goodIn_of _ (by decide +kernel)) ggX2_seekTellingWith_X2_takeOut
set_option maxRecDepth 100000 in
theorem ggX2_seekTellingWith_X2_takeOutOf : GoodIn wsX2_seekTellingWith wsX2_takeOutOf := goodIn_r _ [18, 14, 8, 19, 13, 53, 54, 55, 56, 57, 58, 59, 60, 61, 62, 63, 64, 65, 66, 67, 68] rfl (by decide +kernel)
set_option maxRecDepth 100000 in
theorem gX2_seekTellingWith_X2_takeOutOf : GoodIn wsX2_seekTellingWith (wsV RX2 89 RX2 yX2_takeOutOf wsX2_takeOutOf) := goodIn_app (goodIn_of _ (by decide +kernel)) ggX2_seekTellingWith_X2_takeOutOf
set_option maxRecDepth 100000 in
theorem ggX2_seekTellingWith_X2_seekTelling : GoodIn wsX2_seekTellingWith wsX2_seekTelling := goodIn_r _ [23, 1, 24, 25, 26, 27, 28, 5, 29, 13, 9, 10, 11, 12, 14, 30, 31, 32, 33, 34, 35, 7, 36, 37, 38, 39, 40, 41, 42, 8, 19, 43, 44, 45, 46, 47, 48, 49, 50, 51, 52, 0, 2, 3, 4, 6, 15, 16, 17, 18, 20, 21, 22, 53, 54, 55, 56, 57, 58, 59, 60, 61, 62, 63, 64, 65, 66, 67, 68] rfl (by decide +kernel)
set_option maxRecDepth 100000 in
theorem gX2_seekTellingWith_X2_seekTelling : GoodIn wsX2_seekTellingWith (wsV RX2 80 RX2 yX2_seekTelling wsX2_seekTelling) := goodIn_app (goodIn_of _ (by decide +kernel)) ggX2_seekTellingWith_X2_seekTelling
theorem dX2_seekTellingWith_0 : decode cX2_seekTellingWith 0 = .ok (.iload_n 1, 1) := by decide +kernel
theorem dX2_seekTellingWith_1 : decode cX2_seekTellingWith 1 = .ok (.iconst 1, 1) := by decide +kernel
theorem dX2_seekTellingWith_2 : decode cX2_seekTellingWith 2 = .ok (.iadd, 1) := by decide +kernel
theorem dX2_seekTellingWith_3 : decode cX2_seekTellingWith 3 = .ok (.aload_n 0, 1) := by decide +kernel
theorem dX2_seekTellingWith_4 : decode cX2_seekTellingWith 4 = .ok (.getfield 71, 3) := by decide +kernel
theorem dX2_seekTellingWith_7 : decode cX2_seekTellingWith 7 = .ok (.if_icmp .lt 7, 3) := by decide +kernel
theorem dX2_seekTellingWith_10 : decode cX2_seekTellingWith 10 = .ok (.iconst 1, 1) := by decide +kernel
theorem dX2_seekTellingWith_11 : decode cX2_seekTellingWith 11 = .ok (.goto 4, 3) := by decide +kernel
theorem dX2_seekTellingWith_14 : decode cX2_seekTellingWith 14 = .ok (.iconst 0, 1) := by decide +kernel
theorem dX2_seekTellingWith_15 : decode cX2_seekTellingWith 15 = .ok (.istore 4, 2) := by decide +kernel
theorem dX2_seekTellingWith_17 : decode cX2_seekTellingWith 17 = .ok (.aload_n 0, 1) := by decide +kernel
theorem dX2_seekTellingWith_18 : decode cX2_seekTellingWith 18 = .ok (.iload_n 1, 1) := by decide +kernel
theorem dX2_seekTellingWith_19 : decode cX2_seekTellingWith 19 = .ok (.iload_n 2, 1) := by decide +kernel
theorem dX2_seekTellingWith_20 : decode cX2_seekTellingWith 20 = .ok (.iload 4, 2) := by decide +kernel
theorem dX2_seekTellingWith_22 : decode cX2_seekTellingWith 22 = .ok (.ifCond .eq 7, 3) := by decide +kernel
theorem dX2_seekTellingWith_25 : decode cX2_seekTellingWith 25 = .ok (.iconst 0, 1) := by decide +kernel
theorem dX2_seekTellingWith_26 : decode cX2_seekTellingWith 26 = .ok (.goto 4, 3) := by decide +kernel
theorem dX2_seekTellingWith_29 : decode cX2_seekTellingWith 29 = .ok (.iload_n 2, 1) := by decide +kernel
theorem dX2_seekTellingWith_30 : decode cX2_seekTellingWith 30 = .ok (.invokevirtual 44, 3) := by decide +kernel
theorem dX2_seekTellingWith_33 : decode cX2_seekTellingWith 33 = .ok (.aload_n 0, 1) := by decide +kernel
theorem dX2_seekTellingWith_34 : decode cX2_seekTellingWith 34 = .ok (.bipush 12, 2) := by decide +kernel
theorem dX2_seekTellingWith_36 : decode cX2_seekTellingWith 36 = .ok (.iload_n 1, 1) := by decide +kernel
theorem dX2_seekTellingWith_37 : decode cX2_seekTellingWith 37 = .ok (.iload_n 2, 1) := by decide +kernel
theorem dX2_seekTellingWith_38 : decode cX2_seekTellingWith 38 = .ok (.invokevirtual 89, 3) := by decide +kernel
theorem dX2_seekTellingWith_41 : decode cX2_seekTellingWith 41 = .ok (.aload_n 0, 1) := by decide +kernel
theorem dX2_seekTellingWith_42 : decode cX2_seekTellingWith 42 = .ok (.iload_n 1, 1) := by decide +kernel
theorem dX2_seekTellingWith_43 : decode cX2_seekTellingWith 43 = .ok (.iconst 1, 1) := by decide +kernel
theorem dX2_seekTellingWith_44 : decode cX2_seekTellingWith 44 = .ok (.iadd, 1) := by decide +kernel
theorem dX2_seekTellingWith_45 : decode cX2_seekTellingWith 45 = .ok (.iload_n 2, 1) := by decide +kernel
theorem dX2_seekTellingWith_46 : decode cX2_seekTellingWith 46 = .ok (.iload_n 3, 1) := by decide +kernel
theorem dX2_seekTellingWith_47 : decode cX2_seekTellingWith 47 = .ok (.iconst 1, 1) := by decide +kernel
theorem dX2_seekTellingWith_48 : decode cX2_seekTellingWith 48 = .ok (.iload_n 2, 1) := by decide +kernel
theorem dX2_seekTellingWith_49 : decode cX2_seekTellingWith 49 = .ok (.ishl, 1) := by decide +kernel
theorem dX2_seekTellingWith_50 : decode cX2_seekTellingWith 50 = .ok (.ior, 1) := by decide +kernel
theorem dX2_seekTellingWith_51 : decode cX2_seekTellingWith 51 = .ok (.invokevirtual 80, 3) := by decide +kernel
theorem dX2_seekTellingWith_54 : decode cX2_seekTellingWith 54 = .ok (.return_, 1) := by decide +kernel
set_option maxRecDepth 100000 in
theorem ggX2_noteTelling_X5_clear : GoodIn wsX2_noteTelling wsX5_clear := goodIn_r _ [8] rfl (by decide +kernel)
set_option maxRecDepth 100000 in
theorem gX2_noteTelling_X5_clear_n95 : GoodIn wsX2_noteTelling (wsX5_clear) := ggX2_noteTelling_X5_clear
set_option maxRecDepth 100000 in
theorem ggX2_noteTelling_X2_factorAt : GoodIn wsX2_noteTelling wsX2_factorAt := goodIn_r _ [13, 14, 15, 4, 3, 5, 16, 17, 18, 19, 20, 21, 22, 23, 24, 25, 26, 27, 28, 29, 30, 31, 32, 33, 34, 35, 36, 37, 38, 39] rfl (by decide +kernel)
set_option maxRecDepth 100000 in
theorem gX2_noteTelling_X2_factorAt : GoodIn wsX2_noteTelling (wsV RX2 99 RX2 yX2_factorAt wsX2_factorAt) := goodIn_app (goodIn_of _ (by decide +kernel)) ggX2_noteTelling_X2_factorAt
theorem dX2_noteTelling_0 : decode cX2_noteTelling 0 = .ok (.aload_n 0, 1) := by decide +kernel
theorem dX2_noteTelling_1 : decode cX2_noteTelling 1 = .ok (.dup, 1) := by decide +kernel
theorem dX2_noteTelling_2 : decode cX2_noteTelling 2 = .ok (.getfield 77, 3) := by decide +kernel
theorem dX2_noteTelling_5 : decode cX2_noteTelling 5 = .ok (.iconst 1, 1) := by decide +kernel
theorem dX2_noteTelling_6 : decode cX2_noteTelling 6 = .ok (.iadd, 1) := by decide +kernel
theorem dX2_noteTelling_7 : decode cX2_noteTelling 7 = .ok (.putfield 77, 3) := by decide +kernel
theorem dX2_noteTelling_10 : decode cX2_noteTelling 10 = .ok (.aload_n 0, 1) := by decide +kernel
theorem dX2_noteTelling_11 : decode cX2_noteTelling 11 = .ok (.getfield 77, 3) := by decide +kernel
theorem dX2_noteTelling_14 : decode cX2_noteTelling 14 = .ok (.iconst 1, 1) := by decide +kernel
theorem dX2_noteTelling_15 : decode cX2_noteTelling 15 = .ok (.if_icmp .le 4, 3) := by decide +kernel
theorem dX2_noteTelling_18 : decode cX2_noteTelling 18 = .ok (.return_, 1) := by decide +kernel
theorem dX2_noteTelling_19 : decode cX2_noteTelling 19 = .ok (.aload_n 0, 1) := by decide +kernel
theorem dX2_noteTelling_20 : decode cX2_noteTelling 20 = .ok (.iload_n 1, 1) := by decide +kernel
theorem dX2_noteTelling_21 : decode cX2_noteTelling 21 = .ok (.putfield 92, 3) := by decide +kernel
theorem dX2_noteTelling_24 : decode cX2_noteTelling 24 = .ok (.aload_n 0, 1) := by decide +kernel
theorem dX2_noteTelling_25 : decode cX2_noteTelling 25 = .ok (.getfield 23, 3) := by decide +kernel
theorem dX2_noteTelling_28 : decode cX2_noteTelling 28 = .ok (.invokestatic 95, 3) := by decide +kernel
theorem dX2_noteTelling_31 : decode cX2_noteTelling 31 = .ok (.aload_n 0, 1) := by decide +kernel
theorem dX2_noteTelling_32 : decode cX2_noteTelling 32 = .ok (.getfield 71, 3) := by decide +kernel
theorem dX2_noteTelling_35 : decode cX2_noteTelling 35 = .ok (.iconst 1, 1) := by decide +kernel
theorem dX2_noteTelling_36 : decode cX2_noteTelling 36 = .ok (.isub, 1) := by decide +kernel
theorem dX2_noteTelling_37 : decode cX2_noteTelling 37 = .ok (.istore_n 2, 1) := by decide +kernel
theorem dX2_noteTelling_38 : decode cX2_noteTelling 38 = .ok (.iload_n 2, 1) := by decide +kernel
theorem dX2_noteTelling_39 : decode cX2_noteTelling 39 = .ok (.ifCond .lt 25, 3) := by decide +kernel
theorem dX2_noteTelling_42 : decode cX2_noteTelling 42 = .ok (.aload_n 0, 1) := by decide +kernel
theorem dX2_noteTelling_43 : decode cX2_noteTelling 43 = .ok (.getfield 23, 3) := by decide +kernel
theorem dX2_noteTelling_46 : decode cX2_noteTelling 46 = .ok (.aload_n 0, 1) := by decide +kernel
theorem dX2_noteTelling_47 : decode cX2_noteTelling 47 = .ok (.getfield 16, 3) := by decide +kernel
theorem dX2_noteTelling_50 : decode cX2_noteTelling 50 = .ok (.iload_n 2, 1) := by decide +kernel
theorem dX2_noteTelling_51 : decode cX2_noteTelling 51 = .ok (.iaload, 1) := by decide +kernel
theorem dX2_noteTelling_52 : decode cX2_noteTelling 52 = .ok (.aload_n 0, 1) := by decide +kernel
theorem dX2_noteTelling_53 : decode cX2_noteTelling 53 = .ok (.iload_n 2, 1) := by decide +kernel
theorem dX2_noteTelling_54 : decode cX2_noteTelling 54 = .ok (.invokevirtual 99, 3) := by decide +kernel
theorem dX2_noteTelling_57 : decode cX2_noteTelling 57 = .ok (.iastore, 1) := by decide +kernel
theorem dX2_noteTelling_58 : decode cX2_noteTelling 58 = .ok (.iinc 2 (-1), 3) := by decide +kernel
theorem dX2_noteTelling_61 : decode cX2_noteTelling 61 = .ok (.goto (-23), 3) := by decide +kernel
theorem dX2_noteTelling_64 : decode cX2_noteTelling 64 = .ok (.return_, 1) := by decide +kernel
set_option maxRecDepth 100000 in
theorem ggX2_factorAt_X4_quotient : GoodIn wsX2_factorAt wsX4_quotient := goodIn_r _ [11, 12, 13, 25, 26, 27, 28, 29] rfl (by decide +kernel)
set_option maxRecDepth 100000 in
theorem gX2_factorAt_X4_quotient : GoodIn wsX2_factorAt (wsV RX2 106 RX4 yX4_quotient wsX4_quotient) := goodIn_app (goodIn_of _ (by decide +kernel)) ggX2_factorAt_X4_quotient
theorem dX2_factorAt_0 : decode cX2_factorAt 0 = .ok (.aload_n 0, 1) := by decide +kernel
theorem dX2_factorAt_1 : decode cX2_factorAt 1 = .ok (.getfield 20, 3) := by decide +kernel
theorem dX2_factorAt_4 : decode cX2_factorAt 4 = .ok (.iload_n 1, 1) := by decide +kernel
theorem dX2_factorAt_5 : decode cX2_factorAt 5 = .ok (.iaload, 1) := by decide +kernel
theorem dX2_factorAt_6 : decode cX2_factorAt 6 = .ok (.istore_n 2, 1) := by decide +kernel
theorem dX2_factorAt_7 : decode cX2_factorAt 7 = .ok (.aload_n 0, 1) := by decide +kernel
theorem dX2_factorAt_8 : decode cX2_factorAt 8 = .ok (.getfield 11, 3) := by decide +kernel
theorem dX2_factorAt_11 : decode cX2_factorAt 11 = .ok (.iload_n 1, 1) := by decide +kernel
theorem dX2_factorAt_12 : decode cX2_factorAt 12 = .ok (.aaload, 1) := by decide +kernel
theorem dX2_factorAt_13 : decode cX2_factorAt 13 = .ok (.bipush 72, 2) := by decide +kernel
theorem dX2_factorAt_15 : decode cX2_factorAt 15 = .ok (.iload_n 2, 1) := by decide +kernel
theorem dX2_factorAt_16 : decode cX2_factorAt 16 = .ok (.iadd, 1) := by decide +kernel
theorem dX2_factorAt_17 : decode cX2_factorAt 17 = .ok (.iaload, 1) := by decide +kernel
theorem dX2_factorAt_18 : decode cX2_factorAt 18 = .ok (.istore_n 3, 1) := by decide +kernel
theorem dX2_factorAt_19 : decode cX2_factorAt 19 = .ok (.iload_n 1, 1) := by decide +kernel
theorem dX2_factorAt_20 : decode cX2_factorAt 20 = .ok (.iconst 1, 1) := by decide +kernel
theorem dX2_factorAt_21 : decode cX2_factorAt 21 = .ok (.iadd, 1) := by decide +kernel
theorem dX2_factorAt_22 : decode cX2_factorAt 22 = .ok (.istore 4, 2) := by decide +kernel
theorem dX2_factorAt_24 : decode cX2_factorAt 24 = .ok (.iload 4, 2) := by decide +kernel
theorem dX2_factorAt_26 : decode cX2_factorAt 26 = .ok (.aload_n 0, 1) := by decide +kernel
theorem dX2_factorAt_27 : decode cX2_factorAt 27 = .ok (.getfield 71, 3) := by decide +kernel
theorem dX2_factorAt_30 : decode cX2_factorAt 30 = .ok (.if_icmp .ge 52, 3) := by decide +kernel
theorem dX2_factorAt_33 : decode cX2_factorAt 33 = .ok (.iload_n 3, 1) := by decide +kernel
theorem dX2_factorAt_34 : decode cX2_factorAt 34 = .ok (.aload_n 0, 1) := by decide +kernel
theorem dX2_factorAt_35 : decode cX2_factorAt 35 = .ok (.getfield 23, 3) := by decide +kernel
theorem dX2_factorAt_38 : decode cX2_factorAt 38 = .ok (.aload_n 0, 1) := by decide +kernel
theorem dX2_factorAt_39 : decode cX2_factorAt 39 = .ok (.getfield 16, 3) := by decide +kernel
theorem dX2_factorAt_42 : decode cX2_factorAt 42 = .ok (.iload 4, 2) := by decide +kernel
theorem dX2_factorAt_44 : decode cX2_factorAt 44 = .ok (.iaload, 1) := by decide +kernel
theorem dX2_factorAt_45 : decode cX2_factorAt 45 = .ok (.iaload, 1) := by decide +kernel
theorem dX2_factorAt_46 : decode cX2_factorAt 46 = .ok (.aload_n 0, 1) := by decide +kernel
theorem dX2_factorAt_47 : decode cX2_factorAt 47 = .ok (.getfield 26, 3) := by decide +kernel
theorem dX2_factorAt_50 : decode cX2_factorAt 50 = .ok (.getfield 103, 3) := by decide +kernel
theorem dX2_factorAt_53 : decode cX2_factorAt 53 = .ok (.aload_n 0, 1) := by decide +kernel
theorem dX2_factorAt_54 : decode cX2_factorAt 54 = .ok (.getfield 11, 3) := by decide +kernel
theorem dX2_factorAt_57 : decode cX2_factorAt 57 = .ok (.iload_n 1, 1) := by decide +kernel
theorem dX2_factorAt_58 : decode cX2_factorAt 58 = .ok (.aaload, 1) := by decide +kernel
theorem dX2_factorAt_59 : decode cX2_factorAt 59 = .ok (.aload_n 0, 1) := by decide +kernel
theorem dX2_factorAt_60 : decode cX2_factorAt 60 = .ok (.getfield 16, 3) := by decide +kernel
theorem dX2_factorAt_63 : decode cX2_factorAt 63 = .ok (.iload 4, 2) := by decide +kernel
theorem dX2_factorAt_65 : decode cX2_factorAt 65 = .ok (.iaload, 1) := by decide +kernel
theorem dX2_factorAt_66 : decode cX2_factorAt 66 = .ok (.bipush 6, 2) := by decide +kernel
theorem dX2_factorAt_68 : decode cX2_factorAt 68 = .ok (.imul, 1) := by decide +kernel
theorem dX2_factorAt_69 : decode cX2_factorAt 69 = .ok (.iload_n 2, 1) := by decide +kernel
theorem dX2_factorAt_70 : decode cX2_factorAt 70 = .ok (.iadd, 1) := by decide +kernel
theorem dX2_factorAt_71 : decode cX2_factorAt 71 = .ok (.iaload, 1) := by decide +kernel
theorem dX2_factorAt_72 : decode cX2_factorAt 72 = .ok (.isub, 1) := by decide +kernel
theorem dX2_factorAt_73 : decode cX2_factorAt 73 = .ok (.imul, 1) := by decide +kernel
theorem dX2_factorAt_74 : decode cX2_factorAt 74 = .ok (.iadd, 1) := by decide +kernel
theorem dX2_factorAt_75 : decode cX2_factorAt 75 = .ok (.istore_n 3, 1) := by decide +kernel
theorem dX2_factorAt_76 : decode cX2_factorAt 76 = .ok (.iinc 4 1, 3) := by decide +kernel
theorem dX2_factorAt_79 : decode cX2_factorAt 79 = .ok (.goto (-55), 3) := by decide +kernel
theorem dX2_factorAt_82 : decode cX2_factorAt 82 = .ok (.aload_n 0, 1) := by decide +kernel
theorem dX2_factorAt_83 : decode cX2_factorAt 83 = .ok (.getfield 26, 3) := by decide +kernel
theorem dX2_factorAt_86 : decode cX2_factorAt 86 = .ok (.iload_n 3, 1) := by decide +kernel
theorem dX2_factorAt_87 : decode cX2_factorAt 87 = .ok (.aload_n 0, 1) := by decide +kernel
theorem dX2_factorAt_88 : decode cX2_factorAt 88 = .ok (.getfield 26, 3) := by decide +kernel
theorem dX2_factorAt_91 : decode cX2_factorAt 91 = .ok (.getfield 103, 3) := by decide +kernel
theorem dX2_factorAt_94 : decode cX2_factorAt 94 = .ok (.irem, 1) := by decide +kernel
theorem dX2_factorAt_95 : decode cX2_factorAt 95 = .ok (.aload_n 0, 1) := by decide +kernel
theorem dX2_factorAt_96 : decode cX2_factorAt 96 = .ok (.getfield 11, 3) := by decide +kernel
theorem dX2_factorAt_99 : decode cX2_factorAt 99 = .ok (.iload_n 1, 1) := by decide +kernel
theorem dX2_factorAt_100 : decode cX2_factorAt 100 = .ok (.aaload, 1) := by decide +kernel
theorem dX2_factorAt_101 : decode cX2_factorAt 101 = .ok (.aload_n 0, 1) := by decide +kernel
theorem dX2_factorAt_102 : decode cX2_factorAt 102 = .ok (.getfield 16, 3) := by decide +kernel
theorem dX2_factorAt_105 : decode cX2_factorAt 105 = .ok (.iload_n 1, 1) := by decide +kernel
theorem dX2_factorAt_106 : decode cX2_factorAt 106 = .ok (.iaload, 1) := by decide +kernel
theorem dX2_factorAt_107 : decode cX2_factorAt 107 = .ok (.bipush 6, 2) := by decide +kernel
theorem dX2_factorAt_109 : decode cX2_factorAt 109 = .ok (.imul, 1) := by decide +kernel
theorem dX2_factorAt_110 : decode cX2_factorAt 110 = .ok (.iload_n 2, 1) := by decide +kernel
theorem dX2_factorAt_111 : decode cX2_factorAt 111 = .ok (.iadd, 1) := by decide +kernel
theorem dX2_factorAt_112 : decode cX2_factorAt 112 = .ok (.iaload, 1) := by decide +kernel
theorem dX2_factorAt_113 : decode cX2_factorAt 113 = .ok (.invokevirtual 106, 3) := by decide +kernel
theorem dX2_factorAt_116 : decode cX2_factorAt 116 = .ok (.ireturn, 1) := by decide +kernel
theorem dX2_loadColumns_0 : decode cX2_loadColumns 0 = .ok (.aload_n 0, 1) := by decide +kernel
theorem dX2_loadColumns_1 : decode cX2_loadColumns 1 = .ok (.iconst 0, 1) := by decide +kernel
theorem dX2_loadColumns_2 : decode cX2_loadColumns 2 = .ok (.putfield 109, 3) := by decide +kernel
theorem dX2_loadColumns_5 : decode cX2_loadColumns 5 = .ok (.iconst 0, 1) := by decide +kernel
theorem dX2_loadColumns_6 : decode cX2_loadColumns 6 = .ok (.istore_n 2, 1) := by decide +kernel
theorem dX2_loadColumns_7 : decode cX2_loadColumns 7 = .ok (.iload_n 2, 1) := by decide +kernel
theorem dX2_loadColumns_8 : decode cX2_loadColumns 8 = .ok (.aload_n 0, 1) := by decide +kernel
theorem dX2_loadColumns_9 : decode cX2_loadColumns 9 = .ok (.getfield 26, 3) := by decide +kernel
theorem dX2_loadColumns_12 : decode cX2_loadColumns 12 = .ok (.getfield 48, 3) := by decide +kernel
theorem dX2_loadColumns_15 : decode cX2_loadColumns 15 = .ok (.if_icmp .ge 73, 3) := by decide +kernel
theorem dX2_loadColumns_18 : decode cX2_loadColumns 18 = .ok (.iload_n 1, 1) := by decide +kernel
theorem dX2_loadColumns_19 : decode cX2_loadColumns 19 = .ok (.iload_n 2, 1) := by decide +kernel
theorem dX2_loadColumns_20 : decode cX2_loadColumns 20 = .ok (.ishr, 1) := by decide +kernel
theorem dX2_loadColumns_21 : decode cX2_loadColumns 21 = .ok (.iconst 1, 1) := by decide +kernel
theorem dX2_loadColumns_22 : decode cX2_loadColumns 22 = .ok (.iand, 1) := by decide +kernel
theorem dX2_loadColumns_23 : decode cX2_loadColumns 23 = .ok (.ifCond .ne 59, 3) := by decide +kernel
theorem dX2_loadColumns_26 : decode cX2_loadColumns 26 = .ok (.iconst 0, 1) := by decide +kernel
theorem dX2_loadColumns_27 : decode cX2_loadColumns 27 = .ok (.istore_n 3, 1) := by decide +kernel
theorem dX2_loadColumns_28 : decode cX2_loadColumns 28 = .ok (.iload_n 3, 1) := by decide +kernel
theorem dX2_loadColumns_29 : decode cX2_loadColumns 29 = .ok (.aload_n 0, 1) := by decide +kernel
theorem dX2_loadColumns_30 : decode cX2_loadColumns 30 = .ok (.getfield 26, 3) := by decide +kernel
theorem dX2_loadColumns_33 : decode cX2_loadColumns 33 = .ok (.getfield 34, 3) := by decide +kernel
theorem dX2_loadColumns_36 : decode cX2_loadColumns 36 = .ok (.if_icmp .ge 36, 3) := by decide +kernel
theorem dX2_loadColumns_39 : decode cX2_loadColumns 39 = .ok (.aload_n 0, 1) := by decide +kernel
theorem dX2_loadColumns_40 : decode cX2_loadColumns 40 = .ok (.getfield 11, 3) := by decide +kernel
theorem dX2_loadColumns_43 : decode cX2_loadColumns 43 = .ok (.iconst 0, 1) := by decide +kernel
theorem dX2_loadColumns_44 : decode cX2_loadColumns 44 = .ok (.aaload, 1) := by decide +kernel
theorem dX2_loadColumns_45 : decode cX2_loadColumns 45 = .ok (.iload_n 3, 1) := by decide +kernel
theorem dX2_loadColumns_46 : decode cX2_loadColumns 46 = .ok (.bipush 6, 2) := by decide +kernel
theorem dX2_loadColumns_48 : decode cX2_loadColumns 48 = .ok (.imul, 1) := by decide +kernel
theorem dX2_loadColumns_49 : decode cX2_loadColumns 49 = .ok (.aload_n 0, 1) := by decide +kernel
theorem dX2_loadColumns_50 : decode cX2_loadColumns 50 = .ok (.getfield 109, 3) := by decide +kernel
theorem dX2_loadColumns_53 : decode cX2_loadColumns 53 = .ok (.iadd, 1) := by decide +kernel
theorem dX2_loadColumns_54 : decode cX2_loadColumns 54 = .ok (.aload_n 0, 1) := by decide +kernel
theorem dX2_loadColumns_55 : decode cX2_loadColumns 55 = .ok (.getfield 26, 3) := by decide +kernel
theorem dX2_loadColumns_58 : decode cX2_loadColumns 58 = .ok (.getfield 110, 3) := by decide +kernel
theorem dX2_loadColumns_61 : decode cX2_loadColumns 61 = .ok (.iload_n 2, 1) := by decide +kernel
theorem dX2_loadColumns_62 : decode cX2_loadColumns 62 = .ok (.aaload, 1) := by decide +kernel
theorem dX2_loadColumns_63 : decode cX2_loadColumns 63 = .ok (.iload_n 3, 1) := by decide +kernel
theorem dX2_loadColumns_64 : decode cX2_loadColumns 64 = .ok (.iaload, 1) := by decide +kernel
theorem dX2_loadColumns_65 : decode cX2_loadColumns 65 = .ok (.iastore, 1) := by decide +kernel
theorem dX2_loadColumns_66 : decode cX2_loadColumns 66 = .ok (.iinc 3 1, 3) := by decide +kernel
theorem dX2_loadColumns_69 : decode cX2_loadColumns 69 = .ok (.goto (-41), 3) := by decide +kernel
theorem dX2_loadColumns_72 : decode cX2_loadColumns 72 = .ok (.aload_n 0, 1) := by decide +kernel
theorem dX2_loadColumns_73 : decode cX2_loadColumns 73 = .ok (.dup, 1) := by decide +kernel
theorem dX2_loadColumns_74 : decode cX2_loadColumns 74 = .ok (.getfield 109, 3) := by decide +kernel
theorem dX2_loadColumns_77 : decode cX2_loadColumns 77 = .ok (.iconst 1, 1) := by decide +kernel
theorem dX2_loadColumns_78 : decode cX2_loadColumns 78 = .ok (.iadd, 1) := by decide +kernel
theorem dX2_loadColumns_79 : decode cX2_loadColumns 79 = .ok (.putfield 109, 3) := by decide +kernel
theorem dX2_loadColumns_82 : decode cX2_loadColumns 82 = .ok (.iinc 2 1, 3) := by decide +kernel
theorem dX2_loadColumns_85 : decode cX2_loadColumns 85 = .ok (.goto (-78), 3) := by decide +kernel
theorem dX2_loadColumns_88 : decode cX2_loadColumns 88 = .ok (.return_, 1) := by decide +kernel
theorem dX2_loadSums_0 : decode cX2_loadSums 0 = .ok (.bipush 72, 2) := by decide +kernel
theorem dX2_loadSums_2 : decode cX2_loadSums 2 = .ok (.istore_n 3, 1) := by decide +kernel
theorem dX2_loadSums_3 : decode cX2_loadSums 3 = .ok (.iconst 0, 1) := by decide +kernel
theorem dX2_loadSums_4 : decode cX2_loadSums 4 = .ok (.istore 4, 2) := by decide +kernel
theorem dX2_loadSums_6 : decode cX2_loadSums 6 = .ok (.iload 4, 2) := by decide +kernel
theorem dX2_loadSums_8 : decode cX2_loadSums 8 = .ok (.aload_n 0, 1) := by decide +kernel
theorem dX2_loadSums_9 : decode cX2_loadSums 9 = .ok (.getfield 26, 3) := by decide +kernel
theorem dX2_loadSums_12 : decode cX2_loadSums 12 = .ok (.getfield 48, 3) := by decide +kernel
theorem dX2_loadSums_15 : decode cX2_loadSums 15 = .ok (.if_icmp .ge 33, 3) := by decide +kernel
theorem dX2_loadSums_18 : decode cX2_loadSums 18 = .ok (.iload_n 2, 1) := by decide +kernel
theorem dX2_loadSums_19 : decode cX2_loadSums 19 = .ok (.iload 4, 2) := by decide +kernel
theorem dX2_loadSums_21 : decode cX2_loadSums 21 = .ok (.ishr, 1) := by decide +kernel
theorem dX2_loadSums_22 : decode cX2_loadSums 22 = .ok (.iconst 1, 1) := by decide +kernel
theorem dX2_loadSums_23 : decode cX2_loadSums 23 = .ok (.iand, 1) := by decide +kernel
theorem dX2_loadSums_24 : decode cX2_loadSums 24 = .ok (.ifCond .ne 18, 3) := by decide +kernel
theorem dX2_loadSums_27 : decode cX2_loadSums 27 = .ok (.aload_n 0, 1) := by decide +kernel
theorem dX2_loadSums_28 : decode cX2_loadSums 28 = .ok (.getfield 11, 3) := by decide +kernel
theorem dX2_loadSums_31 : decode cX2_loadSums 31 = .ok (.iconst 0, 1) := by decide +kernel
theorem dX2_loadSums_32 : decode cX2_loadSums 32 = .ok (.aaload, 1) := by decide +kernel
theorem dX2_loadSums_33 : decode cX2_loadSums 33 = .ok (.iload_n 3, 1) := by decide +kernel
theorem dX2_loadSums_34 : decode cX2_loadSums 34 = .ok (.aload_n 1, 1) := by decide +kernel
theorem dX2_loadSums_35 : decode cX2_loadSums 35 = .ok (.iload 4, 2) := by decide +kernel
theorem dX2_loadSums_37 : decode cX2_loadSums 37 = .ok (.iaload, 1) := by decide +kernel
theorem dX2_loadSums_38 : decode cX2_loadSums 38 = .ok (.iastore, 1) := by decide +kernel
theorem dX2_loadSums_39 : decode cX2_loadSums 39 = .ok (.iinc 3 1, 3) := by decide +kernel
theorem dX2_loadSums_42 : decode cX2_loadSums 42 = .ok (.iinc 4 1, 3) := by decide +kernel
theorem dX2_loadSums_45 : decode cX2_loadSums 45 = .ok (.goto (-39), 3) := by decide +kernel
theorem dX2_loadSums_48 : decode cX2_loadSums 48 = .ok (.return_, 1) := by decide +kernel
set_option maxRecDepth 100000 in
theorem ggX2_isNought_X2_firstPlace : GoodIn wsX2_isNought wsX2_firstPlace := goodIn_r _ [6, 1, 7, 8, 9, 10, 11, 12, 13, 14, 15, 16, 17, 18] rfl (by decide +kernel)
set_option maxRecDepth 100000 in
theorem gX2_isNought_X2_firstPlace : GoodIn wsX2_isNought (wsV RX2 113 RX2 yX2_firstPlace wsX2_firstPlace) := goodIn_app (goodIn_of _ (by decide +kernel)) ggX2_isNought_X2_firstPlace
theorem dX2_isNought_0 : decode cX2_isNought 0 = .ok (.aload_n 0, 1) := by decide +kernel
theorem dX2_isNought_1 : decode cX2_isNought 1 = .ok (.iload_n 1, 1) := by decide +kernel
theorem dX2_isNought_2 : decode cX2_isNought 2 = .ok (.iload_n 2, 1) := by decide +kernel
theorem dX2_isNought_3 : decode cX2_isNought 3 = .ok (.invokevirtual 113, 3) := by decide +kernel
theorem dX2_isNought_6 : decode cX2_isNought 6 = .ok (.aload_n 0, 1) := by decide +kernel
theorem dX2_isNought_7 : decode cX2_isNought 7 = .ok (.getfield 109, 3) := by decide +kernel
theorem dX2_isNought_10 : decode cX2_isNought 10 = .ok (.if_icmp .ne 7, 3) := by decide +kernel
theorem dX2_isNought_13 : decode cX2_isNought 13 = .ok (.iconst 1, 1) := by decide +kernel
theorem dX2_isNought_14 : decode cX2_isNought 14 = .ok (.goto 4, 3) := by decide +kernel
theorem dX2_isNought_17 : decode cX2_isNought 17 = .ok (.iconst 0, 1) := by decide +kernel
theorem dX2_isNought_18 : decode cX2_isNought 18 = .ok (.ireturn, 1) := by decide +kernel
theorem dX2_firstPlace_0 : decode cX2_firstPlace 0 = .ok (.iconst 0, 1) := by decide +kernel
theorem dX2_firstPlace_1 : decode cX2_firstPlace 1 = .ok (.istore_n 3, 1) := by decide +kernel
theorem dX2_firstPlace_2 : decode cX2_firstPlace 2 = .ok (.iload_n 3, 1) := by decide +kernel
theorem dX2_firstPlace_3 : decode cX2_firstPlace 3 = .ok (.aload_n 0, 1) := by decide +kernel
theorem dX2_firstPlace_4 : decode cX2_firstPlace 4 = .ok (.getfield 109, 3) := by decide +kernel
theorem dX2_firstPlace_7 : decode cX2_firstPlace 7 = .ok (.if_icmp .ge 25, 3) := by decide +kernel
theorem dX2_firstPlace_10 : decode cX2_firstPlace 10 = .ok (.aload_n 0, 1) := by decide +kernel
theorem dX2_firstPlace_11 : decode cX2_firstPlace 11 = .ok (.getfield 11, 3) := by decide +kernel
theorem dX2_firstPlace_14 : decode cX2_firstPlace 14 = .ok (.iload_n 1, 1) := by decide +kernel
theorem dX2_firstPlace_15 : decode cX2_firstPlace 15 = .ok (.aaload, 1) := by decide +kernel
theorem dX2_firstPlace_16 : decode cX2_firstPlace 16 = .ok (.iload_n 2, 1) := by decide +kernel
theorem dX2_firstPlace_17 : decode cX2_firstPlace 17 = .ok (.bipush 6, 2) := by decide +kernel
theorem dX2_firstPlace_19 : decode cX2_firstPlace 19 = .ok (.imul, 1) := by decide +kernel
theorem dX2_firstPlace_20 : decode cX2_firstPlace 20 = .ok (.iload_n 3, 1) := by decide +kernel
theorem dX2_firstPlace_21 : decode cX2_firstPlace 21 = .ok (.iadd, 1) := by decide +kernel
theorem dX2_firstPlace_22 : decode cX2_firstPlace 22 = .ok (.iaload, 1) := by decide +kernel
theorem dX2_firstPlace_23 : decode cX2_firstPlace 23 = .ok (.ifCond .ne 9, 3) := by decide +kernel
theorem dX2_firstPlace_26 : decode cX2_firstPlace 26 = .ok (.iinc 3 1, 3) := by decide +kernel
theorem dX2_firstPlace_29 : decode cX2_firstPlace 29 = .ok (.goto (-27), 3) := by decide +kernel
theorem dX2_firstPlace_32 : decode cX2_firstPlace 32 = .ok (.iload_n 3, 1) := by decide +kernel
theorem dX2_firstPlace_33 : decode cX2_firstPlace 33 = .ok (.ireturn, 1) := by decide +kernel
set_option maxRecDepth 100000 in
theorem ggX2_takeOut_X2_firstPlace : GoodIn wsX2_takeOut wsX2_firstPlace := goodIn_r _ [7, 8, 9, 15, 16, 17, 18, 19, 20, 21, 22, 23, 24, 25] rfl (by decide +kernel)
set_option maxRecDepth 100000 in
theorem gX2_takeOut_X2_firstPlace : GoodIn wsX2_takeOut (wsV RX2 113 RX2 yX2_firstPlace wsX2_firstPlace) := goodIn_app (goodIn_of _ (by decide +kernel)) ggX2_takeOut_X2_firstPlace
set_option maxRecDepth 100000 in
theorem ggX2_takeOut_X2_takeOutOf : GoodIn wsX2_takeOut wsX2_takeOutOf := goodIn_r _ [13, 9, 2, 14, 8, 15, 16, 17, 18, 19, 20, 21, 22, 23, 24, 25, 26, 27, 28, 29, 30] rfl (by decide +kernel)
set_option maxRecDepth 100000 in
theorem gX2_takeOut_X2_takeOutOf : GoodIn wsX2_takeOut (wsV RX2 89 RX2 yX2_takeOutOf wsX2_takeOutOf) := goodIn_app (goodIn_of _ (by decide +kernel)) ggX2_takeOut_X2_takeOutOf
theorem dX2_takeOut_0 : decode cX2_takeOut 0 = .ok (.aload_n 0, 1) := by decide +kernel
theorem dX2_takeOut_1 : decode cX2_takeOut 1 = .ok (.getfield 16, 3) := by decide +kernel
theorem dX2_takeOut_4 : decode cX2_takeOut 4 = .ok (.iload_n 1, 1) := by decide +kernel
theorem dX2_takeOut_5 : decode cX2_takeOut 5 = .ok (.iload_n 2, 1) := by decide +kernel
theorem dX2_takeOut_6 : decode cX2_takeOut 6 = .ok (.iastore, 1) := by decide +kernel
theorem dX2_takeOut_7 : decode cX2_takeOut 7 = .ok (.aload_n 0, 1) := by decide +kernel
theorem dX2_takeOut_8 : decode cX2_takeOut 8 = .ok (.getfield 20, 3) := by decide +kernel
theorem dX2_takeOut_11 : decode cX2_takeOut 11 = .ok (.iload_n 1, 1) := by decide +kernel
theorem dX2_takeOut_12 : decode cX2_takeOut 12 = .ok (.aload_n 0, 1) := by decide +kernel
theorem dX2_takeOut_13 : decode cX2_takeOut 13 = .ok (.iload_n 1, 1) := by decide +kernel
theorem dX2_takeOut_14 : decode cX2_takeOut 14 = .ok (.iload_n 2, 1) := by decide +kernel
theorem dX2_takeOut_15 : decode cX2_takeOut 15 = .ok (.invokevirtual 113, 3) := by decide +kernel
theorem dX2_takeOut_18 : decode cX2_takeOut 18 = .ok (.iastore, 1) := by decide +kernel
theorem dX2_takeOut_19 : decode cX2_takeOut 19 = .ok (.iconst 0, 1) := by decide +kernel
theorem dX2_takeOut_20 : decode cX2_takeOut 20 = .ok (.istore 4, 2) := by decide +kernel
theorem dX2_takeOut_22 : decode cX2_takeOut 22 = .ok (.iload 4, 2) := by decide +kernel
theorem dX2_takeOut_24 : decode cX2_takeOut 24 = .ok (.iload_n 3, 1) := by decide +kernel
theorem dX2_takeOut_25 : decode cX2_takeOut 25 = .ok (.if_icmp .ge 17, 3) := by decide +kernel
theorem dX2_takeOut_28 : decode cX2_takeOut 28 = .ok (.aload_n 0, 1) := by decide +kernel
theorem dX2_takeOut_29 : decode cX2_takeOut 29 = .ok (.iload 4, 2) := by decide +kernel
theorem dX2_takeOut_31 : decode cX2_takeOut 31 = .ok (.iload_n 1, 1) := by decide +kernel
theorem dX2_takeOut_32 : decode cX2_takeOut 32 = .ok (.iload_n 2, 1) := by decide +kernel
theorem dX2_takeOut_33 : decode cX2_takeOut 33 = .ok (.invokevirtual 89, 3) := by decide +kernel
theorem dX2_takeOut_36 : decode cX2_takeOut 36 = .ok (.iinc 4 1, 3) := by decide +kernel
theorem dX2_takeOut_39 : decode cX2_takeOut 39 = .ok (.goto (-17), 3) := by decide +kernel
theorem dX2_takeOut_42 : decode cX2_takeOut 42 = .ok (.return_, 1) := by decide +kernel
theorem dX2_takeOutOf_0 : decode cX2_takeOutOf 0 = .ok (.aload_n 0, 1) := by decide +kernel
theorem dX2_takeOutOf_1 : decode cX2_takeOutOf 1 = .ok (.getfield 11, 3) := by decide +kernel
theorem dX2_takeOutOf_4 : decode cX2_takeOutOf 4 = .ok (.iload_n 2, 1) := by decide +kernel
theorem dX2_takeOutOf_5 : decode cX2_takeOutOf 5 = .ok (.aaload, 1) := by decide +kernel
theorem dX2_takeOutOf_6 : decode cX2_takeOutOf 6 = .ok (.astore 4, 2) := by decide +kernel
theorem dX2_takeOutOf_8 : decode cX2_takeOutOf 8 = .ok (.aload_n 0, 1) := by decide +kernel
theorem dX2_takeOutOf_9 : decode cX2_takeOutOf 9 = .ok (.getfield 11, 3) := by decide +kernel
theorem dX2_takeOutOf_12 : decode cX2_takeOutOf 12 = .ok (.iload_n 2, 1) := by decide +kernel
theorem dX2_takeOutOf_13 : decode cX2_takeOutOf 13 = .ok (.iconst 1, 1) := by decide +kernel
theorem dX2_takeOutOf_14 : decode cX2_takeOutOf 14 = .ok (.iadd, 1) := by decide +kernel
theorem dX2_takeOutOf_15 : decode cX2_takeOutOf 15 = .ok (.aaload, 1) := by decide +kernel
theorem dX2_takeOutOf_16 : decode cX2_takeOutOf 16 = .ok (.astore 5, 2) := by decide +kernel
theorem dX2_takeOutOf_18 : decode cX2_takeOutOf 18 = .ok (.iload_n 1, 1) := by decide +kernel
theorem dX2_takeOutOf_19 : decode cX2_takeOutOf 19 = .ok (.bipush 6, 2) := by decide +kernel
theorem dX2_takeOutOf_21 : decode cX2_takeOutOf 21 = .ok (.imul, 1) := by decide +kernel
theorem dX2_takeOutOf_22 : decode cX2_takeOutOf 22 = .ok (.istore 6, 2) := by decide +kernel
theorem dX2_takeOutOf_24 : decode cX2_takeOutOf 24 = .ok (.iload_n 3, 1) := by decide +kernel
theorem dX2_takeOutOf_25 : decode cX2_takeOutOf 25 = .ok (.bipush 6, 2) := by decide +kernel
theorem dX2_takeOutOf_27 : decode cX2_takeOutOf 27 = .ok (.imul, 1) := by decide +kernel
theorem dX2_takeOutOf_28 : decode cX2_takeOutOf 28 = .ok (.istore 7, 2) := by decide +kernel
theorem dX2_takeOutOf_30 : decode cX2_takeOutOf 30 = .ok (.aload 4, 2) := by decide +kernel
theorem dX2_takeOutOf_32 : decode cX2_takeOutOf 32 = .ok (.iload 7, 2) := by decide +kernel
theorem dX2_takeOutOf_34 : decode cX2_takeOutOf 34 = .ok (.aload_n 0, 1) := by decide +kernel
theorem dX2_takeOutOf_35 : decode cX2_takeOutOf 35 = .ok (.getfield 20, 3) := by decide +kernel
theorem dX2_takeOutOf_38 : decode cX2_takeOutOf 38 = .ok (.iload_n 2, 1) := by decide +kernel
theorem dX2_takeOutOf_39 : decode cX2_takeOutOf 39 = .ok (.iaload, 1) := by decide +kernel
theorem dX2_takeOutOf_40 : decode cX2_takeOutOf 40 = .ok (.iadd, 1) := by decide +kernel
theorem dX2_takeOutOf_41 : decode cX2_takeOutOf 41 = .ok (.iaload, 1) := by decide +kernel
theorem dX2_takeOutOf_42 : decode cX2_takeOutOf 42 = .ok (.istore 8, 2) := by decide +kernel
theorem dX2_takeOutOf_44 : decode cX2_takeOutOf 44 = .ok (.aload_n 0, 1) := by decide +kernel
theorem dX2_takeOutOf_45 : decode cX2_takeOutOf 45 = .ok (.getfield 26, 3) := by decide +kernel
theorem dX2_takeOutOf_48 : decode cX2_takeOutOf 48 = .ok (.getfield 103, 3) := by decide +kernel
theorem dX2_takeOutOf_51 : decode cX2_takeOutOf 51 = .ok (.aload 4, 2) := by decide +kernel
theorem dX2_takeOutOf_53 : decode cX2_takeOutOf 53 = .ok (.iload 6, 2) := by decide +kernel
theorem dX2_takeOutOf_55 : decode cX2_takeOutOf 55 = .ok (.aload_n 0, 1) := by decide +kernel
theorem dX2_takeOutOf_56 : decode cX2_takeOutOf 56 = .ok (.getfield 20, 3) := by decide +kernel
theorem dX2_takeOutOf_59 : decode cX2_takeOutOf 59 = .ok (.iload_n 2, 1) := by decide +kernel
theorem dX2_takeOutOf_60 : decode cX2_takeOutOf 60 = .ok (.iaload, 1) := by decide +kernel
theorem dX2_takeOutOf_61 : decode cX2_takeOutOf 61 = .ok (.iadd, 1) := by decide +kernel
theorem dX2_takeOutOf_62 : decode cX2_takeOutOf 62 = .ok (.iaload, 1) := by decide +kernel
theorem dX2_takeOutOf_63 : decode cX2_takeOutOf 63 = .ok (.isub, 1) := by decide +kernel
theorem dX2_takeOutOf_64 : decode cX2_takeOutOf 64 = .ok (.istore 9, 2) := by decide +kernel
theorem dX2_takeOutOf_66 : decode cX2_takeOutOf 66 = .ok (.iconst 0, 1) := by decide +kernel
theorem dX2_takeOutOf_67 : decode cX2_takeOutOf 67 = .ok (.istore 10, 2) := by decide +kernel
theorem dX2_takeOutOf_69 : decode cX2_takeOutOf 69 = .ok (.iload 10, 2) := by decide +kernel
theorem dX2_takeOutOf_71 : decode cX2_takeOutOf 71 = .ok (.aload_n 0, 1) := by decide +kernel
theorem dX2_takeOutOf_72 : decode cX2_takeOutOf 72 = .ok (.getfield 109, 3) := by decide +kernel
theorem dX2_takeOutOf_75 : decode cX2_takeOutOf 75 = .ok (.if_icmp .ge 48, 3) := by decide +kernel
theorem dX2_takeOutOf_78 : decode cX2_takeOutOf 78 = .ok (.aload 5, 2) := by decide +kernel
theorem dX2_takeOutOf_80 : decode cX2_takeOutOf 80 = .ok (.iload 6, 2) := by decide +kernel
theorem dX2_takeOutOf_82 : decode cX2_takeOutOf 82 = .ok (.iload 10, 2) := by decide +kernel
theorem dX2_takeOutOf_84 : decode cX2_takeOutOf 84 = .ok (.iadd, 1) := by decide +kernel
theorem dX2_takeOutOf_85 : decode cX2_takeOutOf 85 = .ok (.aload 4, 2) := by decide +kernel
theorem dX2_takeOutOf_87 : decode cX2_takeOutOf 87 = .ok (.iload 6, 2) := by decide +kernel
theorem dX2_takeOutOf_89 : decode cX2_takeOutOf 89 = .ok (.iload 10, 2) := by decide +kernel
theorem dX2_takeOutOf_91 : decode cX2_takeOutOf 91 = .ok (.iadd, 1) := by decide +kernel
theorem dX2_takeOutOf_92 : decode cX2_takeOutOf 92 = .ok (.iaload, 1) := by decide +kernel
theorem dX2_takeOutOf_93 : decode cX2_takeOutOf 93 = .ok (.iload 8, 2) := by decide +kernel
theorem dX2_takeOutOf_95 : decode cX2_takeOutOf 95 = .ok (.imul, 1) := by decide +kernel
theorem dX2_takeOutOf_96 : decode cX2_takeOutOf 96 = .ok (.aload 4, 2) := by decide +kernel
theorem dX2_takeOutOf_98 : decode cX2_takeOutOf 98 = .ok (.iload 7, 2) := by decide +kernel
theorem dX2_takeOutOf_100 : decode cX2_takeOutOf 100 = .ok (.iload 10, 2) := by decide +kernel
theorem dX2_takeOutOf_102 : decode cX2_takeOutOf 102 = .ok (.iadd, 1) := by decide +kernel
theorem dX2_takeOutOf_103 : decode cX2_takeOutOf 103 = .ok (.iaload, 1) := by decide +kernel
theorem dX2_takeOutOf_104 : decode cX2_takeOutOf 104 = .ok (.iload 9, 2) := by decide +kernel
theorem dX2_takeOutOf_106 : decode cX2_takeOutOf 106 = .ok (.imul, 1) := by decide +kernel
theorem dX2_takeOutOf_107 : decode cX2_takeOutOf 107 = .ok (.iadd, 1) := by decide +kernel
theorem dX2_takeOutOf_108 : decode cX2_takeOutOf 108 = .ok (.aload_n 0, 1) := by decide +kernel
theorem dX2_takeOutOf_109 : decode cX2_takeOutOf 109 = .ok (.getfield 26, 3) := by decide +kernel
theorem dX2_takeOutOf_112 : decode cX2_takeOutOf 112 = .ok (.getfield 103, 3) := by decide +kernel
theorem dX2_takeOutOf_115 : decode cX2_takeOutOf 115 = .ok (.irem, 1) := by decide +kernel
theorem dX2_takeOutOf_116 : decode cX2_takeOutOf 116 = .ok (.iastore, 1) := by decide +kernel
theorem dX2_takeOutOf_117 : decode cX2_takeOutOf 117 = .ok (.iinc 10 1, 3) := by decide +kernel
theorem dX2_takeOutOf_120 : decode cX2_takeOutOf 120 = .ok (.goto (-51), 3) := by decide +kernel
