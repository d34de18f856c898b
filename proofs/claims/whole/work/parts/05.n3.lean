set_option maxRecDepth 100000 in
theorem ggX5_init_X1_init : GoodIn wsX5_init wsX1_init := goodIn_r _ [57, 58, 2, 3, 25, 59, 60, 61, 108, 109, 110] rfl (by decide +kernel)
set_option maxRecDepth 100000 in
theorem gX5_init_X1_init : GoodIn wsX5_init (wsX1_init) := ggX5_init_X1_init
set_option maxRecDepth 100000 in
theorem ggX5_init_X0_init : GoodIn wsX5_init wsX0_init := goodIn_r _ [64, 65, 2, 3, 25, 66, 67, 111, 112, 113, 114, 115] rfl (by decide +kernel)
set_option maxRecDepth 100000 in
theorem gX5_init_X0_init : GoodIn wsX5_init (wsX0_init) := ggX5_init_X0_init
set_option maxRecDepth 100000 in
theorem ggX5_init_X3_init : GoodIn wsX5_init wsX3_init := goodIn_r _ [70, 71, 2, 3, 72, 73, 74, 25, 75, 76, 77, 78, 79, 22, 80, 81, 82, 83, 84, 116, 117, 118, 119, 120, 121, 122, 123] rfl (by decide +kernel)
set_option maxRecDepth 100000 in
theorem gX5_init_X3_init : GoodIn wsX5_init (wsX3_init) := ggX5_init_X3_init
theorem dX5_init_0 : decode cX5_init 0 = .ok (.aload_n 0, 1) := by decide +kernel
theorem dX5_init_1 : decode cX5_init 1 = .ok (.invokespecial 1, 3) := by decide +kernel
theorem dX5_init_4 : decode cX5_init 4 = .ok (.aload_n 0, 1) := by decide +kernel
theorem dX5_init_5 : decode cX5_init 5 = .ok (.new 7, 3) := by decide +kernel
theorem dX5_init_8 : decode cX5_init 8 = .ok (.dup, 1) := by decide +kernel
theorem dX5_init_9 : decode cX5_init 9 = .ok (.invokespecial 9, 3) := by decide +kernel
theorem dX5_init_12 : decode cX5_init 12 = .ok (.putfield 10, 3) := by decide +kernel
theorem dX5_init_15 : decode cX5_init 15 = .ok (.aload_n 0, 1) := by decide +kernel
theorem dX5_init_16 : decode cX5_init 16 = .ok (.new 16, 3) := by decide +kernel
theorem dX5_init_19 : decode cX5_init 19 = .ok (.dup, 1) := by decide +kernel
theorem dX5_init_20 : decode cX5_init 20 = .ok (.aload_n 0, 1) := by decide +kernel
theorem dX5_init_21 : decode cX5_init 21 = .ok (.getfield 10, 3) := by decide +kernel
theorem dX5_init_24 : decode cX5_init 24 = .ok (.invokespecial 18, 3) := by decide +kernel
theorem dX5_init_27 : decode cX5_init 27 = .ok (.putfield 21, 3) := by decide +kernel
theorem dX5_init_30 : decode cX5_init 30 = .ok (.aload_n 0, 1) := by decide +kernel
theorem dX5_init_31 : decode cX5_init 31 = .ok (.new 25, 3) := by decide +kernel
theorem dX5_init_34 : decode cX5_init 34 = .ok (.dup, 1) := by decide +kernel
theorem dX5_init_35 : decode cX5_init 35 = .ok (.aload_n 0, 1) := by decide +kernel
theorem dX5_init_36 : decode cX5_init 36 = .ok (.getfield 10, 3) := by decide +kernel
theorem dX5_init_39 : decode cX5_init 39 = .ok (.aload_n 0, 1) := by decide +kernel
theorem dX5_init_40 : decode cX5_init 40 = .ok (.getfield 21, 3) := by decide +kernel
theorem dX5_init_43 : decode cX5_init 43 = .ok (.invokespecial 27, 3) := by decide +kernel
theorem dX5_init_46 : decode cX5_init 46 = .ok (.putfield 30, 3) := by decide +kernel
theorem dX5_init_49 : decode cX5_init 49 = .ok (.aload_n 0, 1) := by decide +kernel
theorem dX5_init_50 : decode cX5_init 50 = .ok (.new 34, 3) := by decide +kernel
theorem dX5_init_53 : decode cX5_init 53 = .ok (.dup, 1) := by decide +kernel
theorem dX5_init_54 : decode cX5_init 54 = .ok (.aload_n 0, 1) := by decide +kernel
theorem dX5_init_55 : decode cX5_init 55 = .ok (.getfield 10, 3) := by decide +kernel
theorem dX5_init_58 : decode cX5_init 58 = .ok (.invokespecial 36, 3) := by decide +kernel
theorem dX5_init_61 : decode cX5_init 61 = .ok (.putfield 37, 3) := by decide +kernel
theorem dX5_init_64 : decode cX5_init 64 = .ok (.aload_n 0, 1) := by decide +kernel
theorem dX5_init_65 : decode cX5_init 65 = .ok (.new 41, 3) := by decide +kernel
theorem dX5_init_68 : decode cX5_init 68 = .ok (.dup, 1) := by decide +kernel
theorem dX5_init_69 : decode cX5_init 69 = .ok (.invokespecial 43, 3) := by decide +kernel
theorem dX5_init_72 : decode cX5_init 72 = .ok (.putfield 44, 3) := by decide +kernel
theorem dX5_init_75 : decode cX5_init 75 = .ok (.aload_n 0, 1) := by decide +kernel
theorem dX5_init_76 : decode cX5_init 76 = .ok (.bipush 6, 2) := by decide +kernel
theorem dX5_init_78 : decode cX5_init 78 = .ok (.bipush 12, 2) := by decide +kernel
theorem dX5_init_80 : decode cX5_init 80 = .ok (.multianewarray 48 2, 4) := by decide +kernel
theorem dX5_init_84 : decode cX5_init 84 = .ok (.putfield 50, 3) := by decide +kernel
theorem dX5_init_87 : decode cX5_init 87 = .ok (.aload_n 0, 1) := by decide +kernel
theorem dX5_init_88 : decode cX5_init 88 = .ok (.bipush 6, 2) := by decide +kernel
theorem dX5_init_90 : decode cX5_init 90 = .ok (.bipush 6, 2) := by decide +kernel
theorem dX5_init_92 : decode cX5_init 92 = .ok (.multianewarray 48 2, 4) := by decide +kernel
theorem dX5_init_96 : decode cX5_init 96 = .ok (.putfield 53, 3) := by decide +kernel
theorem dX5_init_99 : decode cX5_init 99 = .ok (.return_, 1) := by decide +kernel
set_option maxRecDepth 100000 in
theorem ggX5_begin_X5_isPrime : GoodIn wsX5_begin wsX5_isPrime := goodIn_r _ [7] rfl (by decide +kernel)
set_option maxRecDepth 100000 in
theorem gX5_begin_X5_isPrime : GoodIn wsX5_begin (va_wsS RX5 56 yX5_isPrime wsX5_isPrime) := goodIn_app (goodIn_of _ (by decide +kernel)) ggX5_begin_X5_isPrime
set_option maxRecDepth 100000 in
theorem ggX5_begin_X4_shape : GoodIn wsX5_begin wsX4_shape := goodIn_r _ [12, 13, 14, 15, 16, 17, 18, 6, 19, 28, 29, 30, 31, 32] rfl (by decide +kernel)
set_option maxRecDepth 100000 in
theorem gX5_begin_X4_shape : GoodIn wsX5_begin (wsV RX5 60 RX4 yX4_shape wsX4_shape) := goodIn_app (goodIn_of _ (by decide +kernel)) ggX5_begin_X4_shape
set_option maxRecDepth 100000 in
theorem ggX5_begin_X5_clear : GoodIn wsX5_begin wsX5_clear := goodIn_r _ [19] rfl (by decide +kernel)
set_option maxRecDepth 100000 in
theorem gX5_begin_X5_clear : GoodIn wsX5_begin (va_wsS RX5 64 yX5_clear wsX5_clear) := goodIn_app (goodIn_of _ (by decide +kernel)) ggX5_begin_X5_clear
theorem dX5_begin_0 : decode cX5_begin 0 = .ok (.iload_n 1, 1) := by decide +kernel
theorem dX5_begin_1 : decode cX5_begin 1 = .ok (.invokestatic 56, 3) := by decide +kernel
theorem dX5_begin_4 : decode cX5_begin 4 = .ok (.ifCond .eq 25, 3) := by decide +kernel
theorem dX5_begin_7 : decode cX5_begin 7 = .ok (.iload_n 2, 1) := by decide +kernel
theorem dX5_begin_8 : decode cX5_begin 8 = .ok (.iconst 1, 1) := by decide +kernel
theorem dX5_begin_9 : decode cX5_begin 9 = .ok (.if_icmp .lt 20, 3) := by decide +kernel
theorem dX5_begin_12 : decode cX5_begin 12 = .ok (.iload_n 2, 1) := by decide +kernel
theorem dX5_begin_13 : decode cX5_begin 13 = .ok (.bipush 6, 2) := by decide +kernel
theorem dX5_begin_15 : decode cX5_begin 15 = .ok (.if_icmp .gt 14, 3) := by decide +kernel
theorem dX5_begin_18 : decode cX5_begin 18 = .ok (.iload_n 3, 1) := by decide +kernel
theorem dX5_begin_19 : decode cX5_begin 19 = .ok (.iconst 1, 1) := by decide +kernel
theorem dX5_begin_20 : decode cX5_begin 20 = .ok (.if_icmp .lt 9, 3) := by decide +kernel
theorem dX5_begin_23 : decode cX5_begin 23 = .ok (.iload_n 3, 1) := by decide +kernel
theorem dX5_begin_24 : decode cX5_begin 24 = .ok (.bipush 12, 2) := by decide +kernel
theorem dX5_begin_26 : decode cX5_begin 26 = .ok (.if_icmp .le 5, 3) := by decide +kernel
theorem dX5_begin_29 : decode cX5_begin 29 = .ok (.iconst (-1), 1) := by decide +kernel
theorem dX5_begin_30 : decode cX5_begin 30 = .ok (.ireturn, 1) := by decide +kernel
theorem dX5_begin_31 : decode cX5_begin 31 = .ok (.aload_n 0, 1) := by decide +kernel
theorem dX5_begin_32 : decode cX5_begin 32 = .ok (.getfield 10, 3) := by decide +kernel
theorem dX5_begin_35 : decode cX5_begin 35 = .ok (.iload_n 1, 1) := by decide +kernel
theorem dX5_begin_36 : decode cX5_begin 36 = .ok (.iload_n 2, 1) := by decide +kernel
theorem dX5_begin_37 : decode cX5_begin 37 = .ok (.iload_n 3, 1) := by decide +kernel
theorem dX5_begin_38 : decode cX5_begin 38 = .ok (.invokevirtual 60, 3) := by decide +kernel
theorem dX5_begin_41 : decode cX5_begin 41 = .ok (.iconst 0, 1) := by decide +kernel
theorem dX5_begin_42 : decode cX5_begin 42 = .ok (.istore 4, 2) := by decide +kernel
theorem dX5_begin_44 : decode cX5_begin 44 = .ok (.iload 4, 2) := by decide +kernel
theorem dX5_begin_46 : decode cX5_begin 46 = .ok (.bipush 6, 2) := by decide +kernel
theorem dX5_begin_48 : decode cX5_begin 48 = .ok (.if_icmp .ge 29, 3) := by decide +kernel
theorem dX5_begin_51 : decode cX5_begin 51 = .ok (.aload_n 0, 1) := by decide +kernel
theorem dX5_begin_52 : decode cX5_begin 52 = .ok (.getfield 50, 3) := by decide +kernel
theorem dX5_begin_55 : decode cX5_begin 55 = .ok (.iload 4, 2) := by decide +kernel
theorem dX5_begin_57 : decode cX5_begin 57 = .ok (.aaload, 1) := by decide +kernel
theorem dX5_begin_58 : decode cX5_begin 58 = .ok (.invokestatic 64, 3) := by decide +kernel
theorem dX5_begin_61 : decode cX5_begin 61 = .ok (.aload_n 0, 1) := by decide +kernel
theorem dX5_begin_62 : decode cX5_begin 62 = .ok (.getfield 53, 3) := by decide +kernel
theorem dX5_begin_65 : decode cX5_begin 65 = .ok (.iload 4, 2) := by decide +kernel
theorem dX5_begin_67 : decode cX5_begin 67 = .ok (.aaload, 1) := by decide +kernel
theorem dX5_begin_68 : decode cX5_begin 68 = .ok (.invokestatic 64, 3) := by decide +kernel
theorem dX5_begin_71 : decode cX5_begin 71 = .ok (.iinc 4 1, 3) := by decide +kernel
theorem dX5_begin_74 : decode cX5_begin 74 = .ok (.goto (-30), 3) := by decide +kernel
theorem dX5_begin_77 : decode cX5_begin 77 = .ok (.iconst 0, 1) := by decide +kernel
theorem dX5_begin_78 : decode cX5_begin 78 = .ok (.ireturn, 1) := by decide +kernel
set_option maxRecDepth 100000 in
theorem ggX5_set_X4_has : GoodIn wsX5_set wsX4_has := goodIn_r _ [6, 7, 8, 25, 26, 27, 28, 29] rfl (by decide +kernel)
set_option maxRecDepth 100000 in
theorem gX5_set_X4_has : GoodIn wsX5_set (wsV RX5 68 RX4 yX4_has wsX4_has) := goodIn_app (goodIn_of _ (by decide +kernel)) ggX5_set_X4_has
set_option maxRecDepth 100000 in
theorem ggX5_set_X4_remainder : GoodIn wsX5_set wsX4_remainder := goodIn_r _ [12, 13, 14, 15, 16, 17, 25, 26, 27, 28, 29] rfl (by decide +kernel)
set_option maxRecDepth 100000 in
theorem gX5_set_X4_remainder : GoodIn wsX5_set (wsV RX5 75 RX4 yX4_remainder wsX4_remainder) := goodIn_app (goodIn_of _ (by decide +kernel)) ggX5_set_X4_remainder
theorem dX5_set_0 : decode cX5_set 0 = .ok (.aload_n 0, 1) := by decide +kernel
theorem dX5_set_1 : decode cX5_set 1 = .ok (.getfield 10, 3) := by decide +kernel
theorem dX5_set_4 : decode cX5_set 4 = .ok (.iload_n 1, 1) := by decide +kernel
theorem dX5_set_5 : decode cX5_set 5 = .ok (.iload_n 2, 1) := by decide +kernel
theorem dX5_set_6 : decode cX5_set 6 = .ok (.invokevirtual 68, 3) := by decide +kernel
theorem dX5_set_9 : decode cX5_set 9 = .ok (.ifCond .ne 5, 3) := by decide +kernel
theorem dX5_set_12 : decode cX5_set 12 = .ok (.iconst (-1), 1) := by decide +kernel
theorem dX5_set_13 : decode cX5_set 13 = .ok (.ireturn, 1) := by decide +kernel
theorem dX5_set_14 : decode cX5_set 14 = .ok (.aload_n 0, 1) := by decide +kernel
theorem dX5_set_15 : decode cX5_set 15 = .ok (.getfield 10, 3) := by decide +kernel
theorem dX5_set_18 : decode cX5_set 18 = .ok (.getfield 72, 3) := by decide +kernel
theorem dX5_set_21 : decode cX5_set 21 = .ok (.iload_n 1, 1) := by decide +kernel
theorem dX5_set_22 : decode cX5_set 22 = .ok (.aaload, 1) := by decide +kernel
theorem dX5_set_23 : decode cX5_set 23 = .ok (.iload_n 2, 1) := by decide +kernel
theorem dX5_set_24 : decode cX5_set 24 = .ok (.iaload, 1) := by decide +kernel
theorem dX5_set_25 : decode cX5_set 25 = .ok (.istore 4, 2) := by decide +kernel
theorem dX5_set_27 : decode cX5_set 27 = .ok (.aload_n 0, 1) := by decide +kernel
theorem dX5_set_28 : decode cX5_set 28 = .ok (.getfield 10, 3) := by decide +kernel
theorem dX5_set_31 : decode cX5_set 31 = .ok (.getfield 72, 3) := by decide +kernel
theorem dX5_set_34 : decode cX5_set 34 = .ok (.iload_n 1, 1) := by decide +kernel
theorem dX5_set_35 : decode cX5_set 35 = .ok (.aaload, 1) := by decide +kernel
theorem dX5_set_36 : decode cX5_set 36 = .ok (.iload_n 2, 1) := by decide +kernel
theorem dX5_set_37 : decode cX5_set 37 = .ok (.aload_n 0, 1) := by decide +kernel
theorem dX5_set_38 : decode cX5_set 38 = .ok (.getfield 10, 3) := by decide +kernel
theorem dX5_set_41 : decode cX5_set 41 = .ok (.iload_n 3, 1) := by decide +kernel
theorem dX5_set_42 : decode cX5_set 42 = .ok (.invokevirtual 75, 3) := by decide +kernel
theorem dX5_set_45 : decode cX5_set 45 = .ok (.iastore, 1) := by decide +kernel
theorem dX5_set_46 : decode cX5_set 46 = .ok (.iload 4, 2) := by decide +kernel
theorem dX5_set_48 : decode cX5_set 48 = .ok (.ireturn, 1) := by decide +kernel
set_option maxRecDepth 100000 in
theorem ggX5_powers_X4_fillWithPowers : GoodIn wsX5_powers wsX4_fillWithPowers := goodIn_r _ [6, 7, 8, 9, 10, 18, 19, 20, 21, 22] rfl (by decide +kernel)
set_option maxRecDepth 100000 in
theorem gX5_powers_X4_fillWithPowers : GoodIn wsX5_powers (wsV RX5 83 RX4 yX4_fillWithPowers wsX4_fillWithPowers) := goodIn_app (goodIn_of _ (by decide +kernel)) ggX5_powers_X4_fillWithPowers
theorem dX5_powers_0 : decode cX5_powers 0 = .ok (.iload_n 1, 1) := by decide +kernel
theorem dX5_powers_1 : decode cX5_powers 1 = .ok (.ifCond .lt 14, 3) := by decide +kernel
theorem dX5_powers_4 : decode cX5_powers 4 = .ok (.iload_n 1, 1) := by decide +kernel
theorem dX5_powers_5 : decode cX5_powers 5 = .ok (.aload_n 0, 1) := by decide +kernel
theorem dX5_powers_6 : decode cX5_powers 6 = .ok (.getfield 10, 3) := by decide +kernel
theorem dX5_powers_9 : decode cX5_powers 9 = .ok (.getfield 79, 3) := by decide +kernel
theorem dX5_powers_12 : decode cX5_powers 12 = .ok (.if_icmp .lt 5, 3) := by decide +kernel
theorem dX5_powers_15 : decode cX5_powers 15 = .ok (.iconst (-1), 1) := by decide +kernel
theorem dX5_powers_16 : decode cX5_powers 16 = .ok (.ireturn, 1) := by decide +kernel
theorem dX5_powers_17 : decode cX5_powers 17 = .ok (.aload_n 0, 1) := by decide +kernel
theorem dX5_powers_18 : decode cX5_powers 18 = .ok (.getfield 10, 3) := by decide +kernel
theorem dX5_powers_21 : decode cX5_powers 21 = .ok (.iload_n 1, 1) := by decide +kernel
theorem dX5_powers_22 : decode cX5_powers 22 = .ok (.invokevirtual 83, 3) := by decide +kernel
theorem dX5_powers_25 : decode cX5_powers 25 = .ok (.iconst 0, 1) := by decide +kernel
theorem dX5_powers_26 : decode cX5_powers 26 = .ok (.ireturn, 1) := by decide +kernel
set_option maxRecDepth 100000 in
theorem ggX5_at_X4_has : GoodIn wsX5_at wsX4_has := goodIn_r _ [6, 7, 8, 16, 17, 18, 19, 20] rfl (by decide +kernel)
set_option maxRecDepth 100000 in
theorem gX5_at_X4_has : GoodIn wsX5_at (wsV RX5 68 RX4 yX4_has wsX4_has) := goodIn_app (goodIn_of _ (by decide +kernel)) ggX5_at_X4_has
theorem dX5_at_0 : decode cX5_at 0 = .ok (.aload_n 0, 1) := by decide +kernel
theorem dX5_at_1 : decode cX5_at 1 = .ok (.getfield 10, 3) := by decide +kernel
theorem dX5_at_4 : decode cX5_at 4 = .ok (.iload_n 1, 1) := by decide +kernel
theorem dX5_at_5 : decode cX5_at 5 = .ok (.iload_n 2, 1) := by decide +kernel
theorem dX5_at_6 : decode cX5_at 6 = .ok (.invokevirtual 68, 3) := by decide +kernel
theorem dX5_at_9 : decode cX5_at 9 = .ok (.ifCond .eq 17, 3) := by decide +kernel
theorem dX5_at_12 : decode cX5_at 12 = .ok (.aload_n 0, 1) := by decide +kernel
theorem dX5_at_13 : decode cX5_at 13 = .ok (.getfield 10, 3) := by decide +kernel
theorem dX5_at_16 : decode cX5_at 16 = .ok (.getfield 72, 3) := by decide +kernel
theorem dX5_at_19 : decode cX5_at 19 = .ok (.iload_n 1, 1) := by decide +kernel
theorem dX5_at_20 : decode cX5_at 20 = .ok (.aaload, 1) := by decide +kernel
theorem dX5_at_21 : decode cX5_at 21 = .ok (.iload_n 2, 1) := by decide +kernel
theorem dX5_at_22 : decode cX5_at 22 = .ok (.iaload, 1) := by decide +kernel
theorem dX5_at_23 : decode cX5_at 23 = .ok (.goto 4, 3) := by decide +kernel
theorem dX5_at_26 : decode cX5_at 26 = .ok (.iconst (-1), 1) := by decide +kernel
theorem dX5_at_27 : decode cX5_at 27 = .ok (.ireturn, 1) := by decide +kernel
set_option maxRecDepth 100000 in
theorem ggX5_judge_X2_rank : GoodIn wsX5_judge wsX2_rank := goodIn_r _ [7, 8, 9, 10, 11, 6, 12, 13, 14, 15, 16, 17, 18, 19, 20, 21, 22, 23, 24, 25, 26, 27, 28, 29, 30, 31, 32, 82, 83, 84, 85, 86, 87, 88, 89, 90, 91, 92, 93, 94, 95, 96, 97] rfl (by decide +kernel)
set_option maxRecDepth 100000 in
theorem gX5_judge_X2_rank : GoodIn wsX5_judge (wsV RX5 87 RX2 yX2_rank wsX2_rank) := goodIn_app (goodIn_of _ (by decide +kernel)) ggX5_judge_X2_rank
set_option maxRecDepth 100000 in
theorem ggX5_judge_X2_spark : GoodIn wsX5_judge wsX2_spark := goodIn_r _ [36, 8, 37, 38, 39, 40, 41, 9, 10, 11, 6, 12, 13, 14, 42, 43, 44, 45, 15, 16, 17, 18, 19, 20, 21, 22, 46, 47, 48, 49, 23, 24, 25, 26, 27, 28, 29, 30, 31, 32, 82, 83, 84, 85, 86, 87, 88, 89, 90, 91, 92, 93, 94, 95, 96, 97] rfl (by decide +kernel)
set_option maxRecDepth 100000 in
theorem gX5_judge_X2_spark : GoodIn wsX5_judge (wsV RX5 91 RX2 yX2_spark wsX2_spark) := goodIn_app (goodIn_of _ (by decide +kernel)) ggX5_judge_X2_spark
set_option maxRecDepth 100000 in
theorem ggX5_judge_X4_mostLike : GoodIn wsX5_judge wsX4_mostLike := goodIn_r _ [54, 55, 56, 57, 39, 58, 59, 60, 61, 53, 62, 63, 64, 65, 66, 67, 68, 69, 70, 71, 72, 73, 74, 93, 94, 95, 96, 97] rfl (by decide +kernel)
set_option maxRecDepth 100000 in
theorem gX5_judge_X4_mostLike : GoodIn wsX5_judge (wsV RX5 94 RX4 yX4_mostLike wsX4_mostLike) := goodIn_app (goodIn_of _ (by decide +kernel)) ggX5_judge_X4_mostLike
theorem dX5_judge_0 : decode cX5_judge 0 = .ok (.iload_n 1, 1) := by decide +kernel
theorem dX5_judge_1 : decode cX5_judge 1 = .ok (.tableswitch 67 0 3 #[31, 39, 47, 59], 31) := by decide +kernel
theorem dX5_judge_32 : decode cX5_judge 32 = .ok (.aload_n 0, 1) := by decide +kernel
theorem dX5_judge_33 : decode cX5_judge 33 = .ok (.getfield 21, 3) := by decide +kernel
theorem dX5_judge_36 : decode cX5_judge 36 = .ok (.invokevirtual 87, 3) := by decide +kernel
theorem dX5_judge_39 : decode cX5_judge 39 = .ok (.ireturn, 1) := by decide +kernel
theorem dX5_judge_40 : decode cX5_judge 40 = .ok (.aload_n 0, 1) := by decide +kernel
theorem dX5_judge_41 : decode cX5_judge 41 = .ok (.getfield 21, 3) := by decide +kernel
theorem dX5_judge_44 : decode cX5_judge 44 = .ok (.invokevirtual 91, 3) := by decide +kernel
theorem dX5_judge_47 : decode cX5_judge 47 = .ok (.ireturn, 1) := by decide +kernel
theorem dX5_judge_48 : decode cX5_judge 48 = .ok (.aload_n 0, 1) := by decide +kernel
theorem dX5_judge_49 : decode cX5_judge 49 = .ok (.getfield 21, 3) := by decide +kernel
theorem dX5_judge_52 : decode cX5_judge 52 = .ok (.invokevirtual 91, 3) := by decide +kernel
theorem dX5_judge_55 : decode cX5_judge 55 = .ok (.iconst 1, 1) := by decide +kernel
theorem dX5_judge_56 : decode cX5_judge 56 = .ok (.isub, 1) := by decide +kernel
theorem dX5_judge_57 : decode cX5_judge 57 = .ok (.iconst 2, 1) := by decide +kernel
theorem dX5_judge_58 : decode cX5_judge 58 = .ok (.idiv, 1) := by decide +kernel
theorem dX5_judge_59 : decode cX5_judge 59 = .ok (.ireturn, 1) := by decide +kernel
theorem dX5_judge_60 : decode cX5_judge 60 = .ok (.aload_n 0, 1) := by decide +kernel
theorem dX5_judge_61 : decode cX5_judge 61 = .ok (.getfield 10, 3) := by decide +kernel
theorem dX5_judge_64 : decode cX5_judge 64 = .ok (.invokevirtual 94, 3) := by decide +kernel
theorem dX5_judge_67 : decode cX5_judge 67 = .ok (.ireturn, 1) := by decide +kernel
theorem dX5_judge_68 : decode cX5_judge 68 = .ok (.iconst (-1), 1) := by decide +kernel
theorem dX5_judge_69 : decode cX5_judge 69 = .ok (.ireturn, 1) := by decide +kernel
set_option maxRecDepth 100000 in
theorem ggX5_put_X5_isKept : GoodIn wsX5_put wsX5_isKept := goodIn_r _ [6] rfl (by decide +kernel)
set_option maxRecDepth 100000 in
theorem gX5_put_X5_isKept : GoodIn wsX5_put (va_wsS RX5 97 yX5_isKept wsX5_isKept) := goodIn_app (goodIn_of _ (by decide +kernel)) ggX5_put_X5_isKept
set_option maxRecDepth 100000 in
theorem ggX5_put_X4_remainder : GoodIn wsX5_put wsX4_remainder := goodIn_r _ [11, 12, 13, 14, 15, 16, 27, 28, 29, 30, 31] rfl (by decide +kernel)
set_option maxRecDepth 100000 in
theorem gX5_put_X4_remainder : GoodIn wsX5_put (wsV RX5 75 RX4 yX4_remainder wsX4_remainder) := goodIn_app (goodIn_of _ (by decide +kernel)) ggX5_put_X4_remainder
set_option maxRecDepth 100000 in
theorem ggX5_put_X5_weight : GoodIn wsX5_put wsX5_weight := goodIn_r _ [19] rfl (by decide +kernel)
set_option maxRecDepth 100000 in
theorem gX5_put_X5_weight : GoodIn wsX5_put (va_wsS RX5 103 yX5_weight wsX5_weight) := goodIn_app (goodIn_of _ (by decide +kernel)) ggX5_put_X5_weight
theorem dX5_put_0 : decode cX5_put 0 = .ok (.iload_n 1, 1) := by decide +kernel
theorem dX5_put_1 : decode cX5_put 1 = .ok (.invokestatic 97, 3) := by decide +kernel
theorem dX5_put_4 : decode cX5_put 4 = .ok (.ifCond .eq 18, 3) := by decide +kernel
theorem dX5_put_7 : decode cX5_put 7 = .ok (.iload_n 2, 1) := by decide +kernel
theorem dX5_put_8 : decode cX5_put 8 = .ok (.ifCond .lt 14, 3) := by decide +kernel
theorem dX5_put_11 : decode cX5_put 11 = .ok (.iload_n 2, 1) := by decide +kernel
theorem dX5_put_12 : decode cX5_put 12 = .ok (.aload_n 0, 1) := by decide +kernel
theorem dX5_put_13 : decode cX5_put 13 = .ok (.getfield 10, 3) := by decide +kernel
theorem dX5_put_16 : decode cX5_put 16 = .ok (.getfield 100, 3) := by decide +kernel
theorem dX5_put_19 : decode cX5_put 19 = .ok (.if_icmp .lt 5, 3) := by decide +kernel
theorem dX5_put_22 : decode cX5_put 22 = .ok (.iconst (-1), 1) := by decide +kernel
theorem dX5_put_23 : decode cX5_put 23 = .ok (.ireturn, 1) := by decide +kernel
theorem dX5_put_24 : decode cX5_put 24 = .ok (.aload_n 0, 1) := by decide +kernel
theorem dX5_put_25 : decode cX5_put 25 = .ok (.getfield 50, 3) := by decide +kernel
theorem dX5_put_28 : decode cX5_put 28 = .ok (.iload_n 1, 1) := by decide +kernel
theorem dX5_put_29 : decode cX5_put 29 = .ok (.aaload, 1) := by decide +kernel
theorem dX5_put_30 : decode cX5_put 30 = .ok (.iload_n 2, 1) := by decide +kernel
theorem dX5_put_31 : decode cX5_put 31 = .ok (.aload_n 0, 1) := by decide +kernel
theorem dX5_put_32 : decode cX5_put 32 = .ok (.getfield 10, 3) := by decide +kernel
theorem dX5_put_35 : decode cX5_put 35 = .ok (.iload_n 3, 1) := by decide +kernel
theorem dX5_put_36 : decode cX5_put 36 = .ok (.invokevirtual 75, 3) := by decide +kernel
theorem dX5_put_39 : decode cX5_put 39 = .ok (.iastore, 1) := by decide +kernel
theorem dX5_put_40 : decode cX5_put 40 = .ok (.aload_n 0, 1) := by decide +kernel
theorem dX5_put_41 : decode cX5_put 41 = .ok (.getfield 50, 3) := by decide +kernel
theorem dX5_put_44 : decode cX5_put 44 = .ok (.iload_n 1, 1) := by decide +kernel
theorem dX5_put_45 : decode cX5_put 45 = .ok (.aaload, 1) := by decide +kernel
theorem dX5_put_46 : decode cX5_put 46 = .ok (.invokestatic 103, 3) := by decide +kernel
theorem dX5_put_49 : decode cX5_put 49 = .ok (.ireturn, 1) := by decide +kernel
set_option maxRecDepth 100000 in
theorem ggX5_row_X5_isKept : GoodIn wsX5_row wsX5_isKept := goodIn_r _ [6] rfl (by decide +kernel)
set_option maxRecDepth 100000 in
theorem gX5_row_X5_isKept : GoodIn wsX5_row (va_wsS RX5 97 yX5_isKept wsX5_isKept) := goodIn_app (goodIn_of _ (by decide +kernel)) ggX5_row_X5_isKept
set_option maxRecDepth 100000 in
theorem ggX5_row_X5_weight : GoodIn wsX5_row wsX5_weight := goodIn_r _ [9] rfl (by decide +kernel)
set_option maxRecDepth 100000 in
theorem gX5_row_X5_weight : GoodIn wsX5_row (va_wsS RX5 103 yX5_weight wsX5_weight) := goodIn_app (goodIn_of _ (by decide +kernel)) ggX5_row_X5_weight
theorem dX5_row_0 : decode cX5_row 0 = .ok (.iload_n 1, 1) := by decide +kernel
theorem dX5_row_1 : decode cX5_row 1 = .ok (.invokestatic 97, 3) := by decide +kernel
theorem dX5_row_4 : decode cX5_row 4 = .ok (.ifCond .eq 19, 3) := by decide +kernel
theorem dX5_row_7 : decode cX5_row 7 = .ok (.iload_n 2, 1) := by decide +kernel
theorem dX5_row_8 : decode cX5_row 8 = .ok (.iconst (-1), 1) := by decide +kernel
theorem dX5_row_9 : decode cX5_row 9 = .ok (.if_icmp .lt 14, 3) := by decide +kernel
theorem dX5_row_12 : decode cX5_row 12 = .ok (.iload_n 2, 1) := by decide +kernel
theorem dX5_row_13 : decode cX5_row 13 = .ok (.aload_n 0, 1) := by decide +kernel
theorem dX5_row_14 : decode cX5_row 14 = .ok (.getfield 10, 3) := by decide +kernel
theorem dX5_row_17 : decode cX5_row 17 = .ok (.getfield 100, 3) := by decide +kernel
theorem dX5_row_20 : decode cX5_row 20 = .ok (.if_icmp .lt 5, 3) := by decide +kernel
theorem dX5_row_23 : decode cX5_row 23 = .ok (.iconst (-1), 1) := by decide +kernel
theorem dX5_row_24 : decode cX5_row 24 = .ok (.ireturn, 1) := by decide +kernel
theorem dX5_row_25 : decode cX5_row 25 = .ok (.iload_n 2, 1) := by decide +kernel
theorem dX5_row_26 : decode cX5_row 26 = .ok (.iconst (-1), 1) := by decide +kernel
theorem dX5_row_27 : decode cX5_row 27 = .ok (.if_icmp .ne 15, 3) := by decide +kernel
theorem dX5_row_30 : decode cX5_row 30 = .ok (.aload_n 0, 1) := by decide +kernel
theorem dX5_row_31 : decode cX5_row 31 = .ok (.getfield 50, 3) := by decide +kernel
theorem dX5_row_34 : decode cX5_row 34 = .ok (.iload_n 1, 1) := by decide +kernel
theorem dX5_row_35 : decode cX5_row 35 = .ok (.aaload, 1) := by decide +kernel
theorem dX5_row_36 : decode cX5_row 36 = .ok (.invokestatic 103, 3) := by decide +kernel
theorem dX5_row_39 : decode cX5_row 39 = .ok (.goto 11, 3) := by decide +kernel
theorem dX5_row_42 : decode cX5_row 42 = .ok (.aload_n 0, 1) := by decide +kernel
theorem dX5_row_43 : decode cX5_row 43 = .ok (.getfield 50, 3) := by decide +kernel
theorem dX5_row_46 : decode cX5_row 46 = .ok (.iload_n 1, 1) := by decide +kernel
theorem dX5_row_47 : decode cX5_row 47 = .ok (.aaload, 1) := by decide +kernel
theorem dX5_row_48 : decode cX5_row 48 = .ok (.iload_n 2, 1) := by decide +kernel
theorem dX5_row_49 : decode cX5_row 49 = .ok (.iaload, 1) := by decide +kernel
theorem dX5_row_50 : decode cX5_row 50 = .ok (.ireturn, 1) := by decide +kernel
set_option maxRecDepth 100000 in
theorem ggX5_sum_X5_isKept : GoodIn wsX5_sum wsX5_isKept := goodIn_r _ [6] rfl (by decide +kernel)
set_option maxRecDepth 100000 in
theorem gX5_sum_X5_isKept : GoodIn wsX5_sum (va_wsS RX5 97 yX5_isKept wsX5_isKept) := goodIn_app (goodIn_of _ (by decide +kernel)) ggX5_sum_X5_isKept
set_option maxRecDepth 100000 in
theorem ggX5_sum_X4_remainder : GoodIn wsX5_sum wsX4_remainder := goodIn_r _ [11, 12, 13, 14, 15, 16, 27, 28, 29, 30, 31] rfl (by decide +kernel)
set_option maxRecDepth 100000 in
theorem gX5_sum_X4_remainder : GoodIn wsX5_sum (wsV RX5 75 RX4 yX4_remainder wsX4_remainder) := goodIn_app (goodIn_of _ (by decide +kernel)) ggX5_sum_X4_remainder
set_option maxRecDepth 100000 in
theorem ggX5_sum_X5_weight : GoodIn wsX5_sum wsX5_weight := goodIn_r _ [19] rfl (by decide +kernel)
set_option maxRecDepth 100000 in
theorem gX5_sum_X5_weight : GoodIn wsX5_sum (va_wsS RX5 103 yX5_weight wsX5_weight) := goodIn_app (goodIn_of _ (by decide +kernel)) ggX5_sum_X5_weight
theorem dX5_sum_0 : decode cX5_sum 0 = .ok (.iload_n 1, 1) := by decide +kernel
theorem dX5_sum_1 : decode cX5_sum 1 = .ok (.invokestatic 97, 3) := by decide +kernel
theorem dX5_sum_4 : decode cX5_sum 4 = .ok (.ifCond .eq 18, 3) := by decide +kernel
theorem dX5_sum_7 : decode cX5_sum 7 = .ok (.iload_n 2, 1) := by decide +kernel
theorem dX5_sum_8 : decode cX5_sum 8 = .ok (.ifCond .lt 14, 3) := by decide +kernel
theorem dX5_sum_11 : decode cX5_sum 11 = .ok (.iload_n 2, 1) := by decide +kernel
theorem dX5_sum_12 : decode cX5_sum 12 = .ok (.aload_n 0, 1) := by decide +kernel
theorem dX5_sum_13 : decode cX5_sum 13 = .ok (.getfield 10, 3) := by decide +kernel
theorem dX5_sum_16 : decode cX5_sum 16 = .ok (.getfield 107, 3) := by decide +kernel
theorem dX5_sum_19 : decode cX5_sum 19 = .ok (.if_icmp .lt 5, 3) := by decide +kernel
theorem dX5_sum_22 : decode cX5_sum 22 = .ok (.iconst (-1), 1) := by decide +kernel
theorem dX5_sum_23 : decode cX5_sum 23 = .ok (.ireturn, 1) := by decide +kernel
theorem dX5_sum_24 : decode cX5_sum 24 = .ok (.aload_n 0, 1) := by decide +kernel
theorem dX5_sum_25 : decode cX5_sum 25 = .ok (.getfield 53, 3) := by decide +kernel
theorem dX5_sum_28 : decode cX5_sum 28 = .ok (.iload_n 1, 1) := by decide +kernel
theorem dX5_sum_29 : decode cX5_sum 29 = .ok (.aaload, 1) := by decide +kernel
theorem dX5_sum_30 : decode cX5_sum 30 = .ok (.iload_n 2, 1) := by decide +kernel
theorem dX5_sum_31 : decode cX5_sum 31 = .ok (.aload_n 0, 1) := by decide +kernel
theorem dX5_sum_32 : decode cX5_sum 32 = .ok (.getfield 10, 3) := by decide +kernel
theorem dX5_sum_35 : decode cX5_sum 35 = .ok (.iload_n 3, 1) := by decide +kernel
theorem dX5_sum_36 : decode cX5_sum 36 = .ok (.invokevirtual 75, 3) := by decide +kernel
theorem dX5_sum_39 : decode cX5_sum 39 = .ok (.iastore, 1) := by decide +kernel
theorem dX5_sum_40 : decode cX5_sum 40 = .ok (.aload_n 0, 1) := by decide +kernel
theorem dX5_sum_41 : decode cX5_sum 41 = .ok (.getfield 53, 3) := by decide +kernel
theorem dX5_sum_44 : decode cX5_sum 44 = .ok (.iload_n 1, 1) := by decide +kernel
theorem dX5_sum_45 : decode cX5_sum 45 = .ok (.aaload, 1) := by decide +kernel
theorem dX5_sum_46 : decode cX5_sum 46 = .ok (.invokestatic 103, 3) := by decide +kernel
theorem dX5_sum_49 : decode cX5_sum 49 = .ok (.ireturn, 1) := by decide +kernel
set_option maxRecDepth 100000 in
theorem ggX5_told_X5_isKept : GoodIn wsX5_told wsX5_isKept := goodIn_r _ [6] rfl (by decide +kernel)
set_option maxRecDepth 100000 in
theorem gX5_told_X5_isKept : GoodIn wsX5_told (va_wsS RX5 97 yX5_isKept wsX5_isKept) := goodIn_app (goodIn_of _ (by decide +kernel)) ggX5_told_X5_isKept
set_option maxRecDepth 100000 in
theorem ggX5_told_X5_weight : GoodIn wsX5_told wsX5_weight := goodIn_r _ [9] rfl (by decide +kernel)
set_option maxRecDepth 100000 in
theorem gX5_told_X5_weight : GoodIn wsX5_told (va_wsS RX5 103 yX5_weight wsX5_weight) := goodIn_app (goodIn_of _ (by decide +kernel)) ggX5_told_X5_weight
theorem dX5_told_0 : decode cX5_told 0 = .ok (.iload_n 1, 1) := by decide +kernel
theorem dX5_told_1 : decode cX5_told 1 = .ok (.invokestatic 97, 3) := by decide +kernel
theorem dX5_told_4 : decode cX5_told 4 = .ok (.ifCond .eq 19, 3) := by decide +kernel
theorem dX5_told_7 : decode cX5_told 7 = .ok (.iload_n 2, 1) := by decide +kernel
theorem dX5_told_8 : decode cX5_told 8 = .ok (.iconst (-1), 1) := by decide +kernel
theorem dX5_told_9 : decode cX5_told 9 = .ok (.if_icmp .lt 14, 3) := by decide +kernel
theorem dX5_told_12 : decode cX5_told 12 = .ok (.iload_n 2, 1) := by decide +kernel
theorem dX5_told_13 : decode cX5_told 13 = .ok (.aload_n 0, 1) := by decide +kernel
theorem dX5_told_14 : decode cX5_told 14 = .ok (.getfield 10, 3) := by decide +kernel
theorem dX5_told_17 : decode cX5_told 17 = .ok (.getfield 107, 3) := by decide +kernel
theorem dX5_told_20 : decode cX5_told 20 = .ok (.if_icmp .lt 5, 3) := by decide +kernel
theorem dX5_told_23 : decode cX5_told 23 = .ok (.iconst (-1), 1) := by decide +kernel
theorem dX5_told_24 : decode cX5_told 24 = .ok (.ireturn, 1) := by decide +kernel
theorem dX5_told_25 : decode cX5_told 25 = .ok (.iload_n 2, 1) := by decide +kernel
theorem dX5_told_26 : decode cX5_told 26 = .ok (.iconst (-1), 1) := by decide +kernel
theorem dX5_told_27 : decode cX5_told 27 = .ok (.if_icmp .ne 15, 3) := by decide +kernel
theorem dX5_told_30 : decode cX5_told 30 = .ok (.aload_n 0, 1) := by decide +kernel
theorem dX5_told_31 : decode cX5_told 31 = .ok (.getfield 53, 3) := by decide +kernel
theorem dX5_told_34 : decode cX5_told 34 = .ok (.iload_n 1, 1) := by decide +kernel
theorem dX5_told_35 : decode cX5_told 35 = .ok (.aaload, 1) := by decide +kernel
theorem dX5_told_36 : decode cX5_told 36 = .ok (.invokestatic 103, 3) := by decide +kernel
theorem dX5_told_39 : decode cX5_told 39 = .ok (.goto 11, 3) := by decide +kernel
theorem dX5_told_42 : decode cX5_told 42 = .ok (.aload_n 0, 1) := by decide +kernel
theorem dX5_told_43 : decode cX5_told 43 = .ok (.getfield 53, 3) := by decide +kernel
theorem dX5_told_46 : decode cX5_told 46 = .ok (.iload_n 1, 1) := by decide +kernel
theorem dX5_told_47 : decode cX5_told 47 = .ok (.aaload, 1) := by decide +kernel
theorem dX5_told_48 : decode cX5_told 48 = .ok (.iload_n 2, 1) := by decide +kernel
theorem dX5_told_49 : decode cX5_told 49 = .ok (.iaload, 1) := by decide +kernel
theorem dX5_told_50 : decode cX5_told 50 = .ok (.ireturn, 1) := by decide +kernel
set_option maxRecDepth 100000 in
theorem ggX5_tell_X5_isKept : GoodIn wsX5_tell wsX5_isKept := goodIn_r _ [7] rfl (by decide +kernel)
set_option maxRecDepth 100000 in
theorem gX5_tell_X5_isKept : GoodIn wsX5_tell (va_wsS RX5 97 yX5_isKept wsX5_isKept) := goodIn_app (goodIn_of _ (by decide +kernel)) ggX5_tell_X5_isKept
set_option maxRecDepth 100000 in
theorem ggX5_tell_X4_sumsOf : GoodIn wsX5_tell wsX4_sumsOf := goodIn_r _ [12, 13, 14, 15, 16, 27, 28, 29, 30, 31] rfl (by decide +kernel)
set_option maxRecDepth 100000 in
theorem gX5_tell_X4_sumsOf : GoodIn wsX5_tell (wsV RX5 110 RX4 yX4_sumsOf wsX4_sumsOf) := goodIn_app (goodIn_of _ (by decide +kernel)) ggX5_tell_X4_sumsOf
set_option maxRecDepth 100000 in
theorem ggX5_tell_X5_weight : GoodIn wsX5_tell wsX5_weight := goodIn_r _ [19] rfl (by decide +kernel)
set_option maxRecDepth 100000 in
theorem gX5_tell_X5_weight : GoodIn wsX5_tell (va_wsS RX5 103 yX5_weight wsX5_weight) := goodIn_app (goodIn_of _ (by decide +kernel)) ggX5_tell_X5_weight
theorem dX5_tell_0 : decode cX5_tell 0 = .ok (.iload_n 1, 1) := by decide +kernel
theorem dX5_tell_1 : decode cX5_tell 1 = .ok (.invokestatic 97, 3) := by decide +kernel
theorem dX5_tell_4 : decode cX5_tell 4 = .ok (.ifCond .eq 10, 3) := by decide +kernel
theorem dX5_tell_7 : decode cX5_tell 7 = .ok (.iload_n 2, 1) := by decide +kernel
theorem dX5_tell_8 : decode cX5_tell 8 = .ok (.invokestatic 97, 3) := by decide +kernel
theorem dX5_tell_11 : decode cX5_tell 11 = .ok (.ifCond .ne 5, 3) := by decide +kernel
theorem dX5_tell_14 : decode cX5_tell 14 = .ok (.iconst (-1), 1) := by decide +kernel
theorem dX5_tell_15 : decode cX5_tell 15 = .ok (.ireturn, 1) := by decide +kernel
theorem dX5_tell_16 : decode cX5_tell 16 = .ok (.aload_n 0, 1) := by decide +kernel
theorem dX5_tell_17 : decode cX5_tell 17 = .ok (.getfield 10, 3) := by decide +kernel
theorem dX5_tell_20 : decode cX5_tell 20 = .ok (.aload_n 0, 1) := by decide +kernel
theorem dX5_tell_21 : decode cX5_tell 21 = .ok (.getfield 50, 3) := by decide +kernel
theorem dX5_tell_24 : decode cX5_tell 24 = .ok (.iload_n 2, 1) := by decide +kernel
theorem dX5_tell_25 : decode cX5_tell 25 = .ok (.aaload, 1) := by decide +kernel
theorem dX5_tell_26 : decode cX5_tell 26 = .ok (.aload_n 0, 1) := by decide +kernel
theorem dX5_tell_27 : decode cX5_tell 27 = .ok (.getfield 53, 3) := by decide +kernel
theorem dX5_tell_30 : decode cX5_tell 30 = .ok (.iload_n 1, 1) := by decide +kernel
theorem dX5_tell_31 : decode cX5_tell 31 = .ok (.aaload, 1) := by decide +kernel
theorem dX5_tell_32 : decode cX5_tell 32 = .ok (.invokevirtual 110, 3) := by decide +kernel
theorem dX5_tell_35 : decode cX5_tell 35 = .ok (.aload_n 0, 1) := by decide +kernel
theorem dX5_tell_36 : decode cX5_tell 36 = .ok (.getfield 53, 3) := by decide +kernel
theorem dX5_tell_39 : decode cX5_tell 39 = .ok (.iload_n 1, 1) := by decide +kernel
theorem dX5_tell_40 : decode cX5_tell 40 = .ok (.aaload, 1) := by decide +kernel
theorem dX5_tell_41 : decode cX5_tell 41 = .ok (.invokestatic 103, 3) := by decide +kernel
theorem dX5_tell_44 : decode cX5_tell 44 = .ok (.ireturn, 1) := by decide +kernel
set_option maxRecDepth 100000 in
theorem ggX5_find_X5_isKept : GoodIn wsX5_find wsX5_isKept := goodIn_r _ [7] rfl (by decide +kernel)
set_option maxRecDepth 100000 in
theorem gX5_find_X5_isKept : GoodIn wsX5_find (va_wsS RX5 97 yX5_isKept wsX5_isKept) := goodIn_app (goodIn_of _ (by decide +kernel)) ggX5_find_X5_isKept
set_option maxRecDepth 100000 in
theorem ggX5_find_X2_waysToTell : GoodIn wsX5_find wsX2_waysToTell := goodIn_r _ [12, 13, 14, 15, 16, 17, 18, 19, 11, 20, 21, 22, 23, 24, 25, 26, 27, 28, 29, 30, 31, 32, 33, 34, 35, 36, 37, 38, 39, 40, 41, 42, 43, 44, 45, 46, 6, 47, 48, 49, 50, 51, 52, 53, 54, 55, 56, 57, 58, 59, 60, 61, 62, 63, 64, 65, 66, 67, 68, 69, 70, 71, 86, 87, 88, 89, 90, 91, 92, 93, 94, 95, 96, 97, 98, 99, 100, 101] rfl (by decide +kernel)
set_option maxRecDepth 100000 in
theorem gX5_find_X2_waysToTell : GoodIn wsX5_find (wsV RX5 114 RX2 yX2_waysToTell wsX2_waysToTell) := goodIn_app (goodIn_of _ (by decide +kernel)) ggX5_find_X2_waysToTell
set_option maxRecDepth 100000 in
theorem ggX5_find_X5_copy : GoodIn wsX5_find wsX5_copy := goodIn_r _ [74, 75, 76, 77, 78] rfl (by decide +kernel)
set_option maxRecDepth 100000 in
theorem gX5_find_X5_copy : GoodIn wsX5_find (va_wsS RX5 122 yX5_copy wsX5_copy) := goodIn_app (goodIn_of _ (by decide +kernel)) ggX5_find_X5_copy
theorem dX5_find_0 : decode cX5_find 0 = .ok (.iload_n 1, 1) := by decide +kernel
theorem dX5_find_1 : decode cX5_find 1 = .ok (.invokestatic 97, 3) := by decide +kernel
theorem dX5_find_4 : decode cX5_find 4 = .ok (.ifCond .eq 19, 3) := by decide +kernel
theorem dX5_find_7 : decode cX5_find 7 = .ok (.iload_n 2, 1) := by decide +kernel
theorem dX5_find_8 : decode cX5_find 8 = .ok (.invokestatic 97, 3) := by decide +kernel
theorem dX5_find_11 : decode cX5_find 11 = .ok (.ifCond .eq 12, 3) := by decide +kernel
theorem dX5_find_14 : decode cX5_find 14 = .ok (.iload_n 3, 1) := by decide +kernel
theorem dX5_find_15 : decode cX5_find 15 = .ok (.ifCond .lt 8, 3) := by decide +kernel
theorem dX5_find_18 : decode cX5_find 18 = .ok (.iload_n 3, 1) := by decide +kernel
theorem dX5_find_19 : decode cX5_find 19 = .ok (.iconst 4, 1) := by decide +kernel
theorem dX5_find_20 : decode cX5_find 20 = .ok (.if_icmp .le 5, 3) := by decide +kernel
theorem dX5_find_23 : decode cX5_find 23 = .ok (.iconst (-1), 1) := by decide +kernel
theorem dX5_find_24 : decode cX5_find 24 = .ok (.ireturn, 1) := by decide +kernel
theorem dX5_find_25 : decode cX5_find 25 = .ok (.iconst 0, 1) := by decide +kernel
theorem dX5_find_26 : decode cX5_find 26 = .ok (.istore 4, 2) := by decide +kernel
theorem dX5_find_28 : decode cX5_find 28 = .ok (.iload 4, 2) := by decide +kernel
theorem dX5_find_30 : decode cX5_find 30 = .ok (.iload_n 3, 1) := by decide +kernel
theorem dX5_find_31 : decode cX5_find 31 = .ok (.if_icmp .gt 66, 3) := by decide +kernel
theorem dX5_find_34 : decode cX5_find 34 = .ok (.aload_n 0, 1) := by decide +kernel
theorem dX5_find_35 : decode cX5_find 35 = .ok (.getfield 21, 3) := by decide +kernel
theorem dX5_find_38 : decode cX5_find 38 = .ok (.aload_n 0, 1) := by decide +kernel
theorem dX5_find_39 : decode cX5_find 39 = .ok (.getfield 53, 3) := by decide +kernel
theorem dX5_find_42 : decode cX5_find 42 = .ok (.iload_n 2, 1) := by decide +kernel
theorem dX5_find_43 : decode cX5_find 43 = .ok (.aaload, 1) := by decide +kernel
theorem dX5_find_44 : decode cX5_find 44 = .ok (.iconst 0, 1) := by decide +kernel
theorem dX5_find_45 : decode cX5_find 45 = .ok (.iload 4, 2) := by decide +kernel
theorem dX5_find_47 : decode cX5_find 47 = .ok (.iconst 2, 1) := by decide +kernel
theorem dX5_find_48 : decode cX5_find 48 = .ok (.invokevirtual 114, 3) := by decide +kernel
theorem dX5_find_51 : decode cX5_find 51 = .ok (.istore 5, 2) := by decide +kernel
theorem dX5_find_53 : decode cX5_find 53 = .ok (.iload 5, 2) := by decide +kernel
theorem dX5_find_55 : decode cX5_find 55 = .ok (.ifCond .le 36, 3) := by decide +kernel
theorem dX5_find_58 : decode cX5_find 58 = .ok (.aload_n 0, 1) := by decide +kernel
theorem dX5_find_59 : decode cX5_find 59 = .ok (.getfield 21, 3) := by decide +kernel
theorem dX5_find_62 : decode cX5_find 62 = .ok (.getfield 118, 3) := by decide +kernel
theorem dX5_find_65 : decode cX5_find 65 = .ok (.aload_n 0, 1) := by decide +kernel
theorem dX5_find_66 : decode cX5_find 66 = .ok (.getfield 50, 3) := by decide +kernel
theorem dX5_find_69 : decode cX5_find 69 = .ok (.iload_n 1, 1) := by decide +kernel
theorem dX5_find_70 : decode cX5_find 70 = .ok (.aaload, 1) := by decide +kernel
theorem dX5_find_71 : decode cX5_find 71 = .ok (.invokestatic 122, 3) := by decide +kernel
theorem dX5_find_74 : decode cX5_find 74 = .ok (.iload 5, 2) := by decide +kernel
theorem dX5_find_76 : decode cX5_find 76 = .ok (.iconst 1, 1) := by decide +kernel
theorem dX5_find_77 : decode cX5_find 77 = .ok (.if_icmp .ne 11, 3) := by decide +kernel
theorem dX5_find_80 : decode cX5_find 80 = .ok (.iload 4, 2) := by decide +kernel
theorem dX5_find_82 : decode cX5_find 82 = .ok (.bipush 100, 2) := by decide +kernel
theorem dX5_find_84 : decode cX5_find 84 = .ok (.iadd, 1) := by decide +kernel
theorem dX5_find_85 : decode cX5_find 85 = .ok (.goto 5, 3) := by decide +kernel
theorem dX5_find_88 : decode cX5_find 88 = .ok (.iload 4, 2) := by decide +kernel
theorem dX5_find_90 : decode cX5_find 90 = .ok (.ireturn, 1) := by decide +kernel
theorem dX5_find_91 : decode cX5_find 91 = .ok (.iinc 4 1, 3) := by decide +kernel
theorem dX5_find_94 : decode cX5_find 94 = .ok (.goto (-66), 3) := by decide +kernel
theorem dX5_find_97 : decode cX5_find 97 = .ok (.bipush (-2), 2) := by decide +kernel
theorem dX5_find_99 : decode cX5_find 99 = .ok (.ireturn, 1) := by decide +kernel
set_option maxRecDepth 100000 in
theorem ggX5_miss_X5_isKept : GoodIn wsX5_miss wsX5_isKept := goodIn_r _ [7] rfl (by decide +kernel)
set_option maxRecDepth 100000 in
theorem gX5_miss_X5_isKept : GoodIn wsX5_miss (va_wsS RX5 97 yX5_isKept wsX5_isKept) := goodIn_app (goodIn_of _ (by decide +kernel)) ggX5_miss_X5_isKept
set_option maxRecDepth 100000 in
theorem ggX5_miss_X1_look : GoodIn wsX5_miss wsX1_look := goodIn_r _ [12, 13, 14, 15, 16, 17, 18, 19, 20, 21, 22, 23, 24, 25, 26, 27, 28, 29, 30, 31, 32, 33, 34, 35, 36, 37, 38, 39, 40, 41, 42, 43, 44, 45, 46, 47, 48, 49, 50, 51, 52, 53, 54, 55, 56, 57, 58, 59, 60, 61, 6, 62, 63, 64, 65, 66, 67, 68, 69, 70, 71, 72, 73, 74, 75, 76, 77, 78, 79, 80, 81, 82, 83, 84, 85, 86, 87, 88, 11, 89, 90, 91, 92, 93, 94, 95, 104, 105, 106, 107, 108, 109, 110, 111, 112, 113, 114, 115, 116, 117, 118, 119, 120, 121, 122] rfl (by decide +kernel)
set_option maxRecDepth 100000 in
theorem gX5_miss_X1_look : GoodIn wsX5_miss (wsV RX5 125 RX1 yX1_look wsX1_look) := goodIn_app (goodIn_of _ (by decide +kernel)) ggX5_miss_X1_look
set_option maxRecDepth 100000 in
theorem ggX5_miss_X5_copy : GoodIn wsX5_miss wsX5_copy := goodIn_r _ [91, 92, 93, 94, 95] rfl (by decide +kernel)
set_option maxRecDepth 100000 in
theorem gX5_miss_X5_copy : GoodIn wsX5_miss (va_wsS RX5 122 yX5_copy wsX5_copy) := goodIn_app (goodIn_of _ (by decide +kernel)) ggX5_miss_X5_copy
theorem dX5_miss_0 : decode cX5_miss 0 = .ok (.iload_n 1, 1) := by decide +kernel
theorem dX5_miss_1 : decode cX5_miss 1 = .ok (.invokestatic 97, 3) := by decide +kernel
theorem dX5_miss_4 : decode cX5_miss 4 = .ok (.ifCond .eq 30, 3) := by decide +kernel
theorem dX5_miss_7 : decode cX5_miss 7 = .ok (.iload_n 2, 1) := by decide +kernel
theorem dX5_miss_8 : decode cX5_miss 8 = .ok (.invokestatic 97, 3) := by decide +kernel
theorem dX5_miss_11 : decode cX5_miss 11 = .ok (.ifCond .eq 23, 3) := by decide +kernel
theorem dX5_miss_14 : decode cX5_miss 14 = .ok (.iload_n 3, 1) := by decide +kernel
theorem dX5_miss_15 : decode cX5_miss 15 = .ok (.ifCond .lt 19, 3) := by decide +kernel
theorem dX5_miss_18 : decode cX5_miss 18 = .ok (.iload_n 3, 1) := by decide +kernel
theorem dX5_miss_19 : decode cX5_miss 19 = .ok (.iconst 3, 1) := by decide +kernel
theorem dX5_miss_20 : decode cX5_miss 20 = .ok (.if_icmp .gt 14, 3) := by decide +kernel
theorem dX5_miss_23 : decode cX5_miss 23 = .ok (.iload 4, 2) := by decide +kernel
theorem dX5_miss_25 : decode cX5_miss 25 = .ok (.ifCond .lt 9, 3) := by decide +kernel
theorem dX5_miss_28 : decode cX5_miss 28 = .ok (.iload 4, 2) := by decide +kernel
theorem dX5_miss_30 : decode cX5_miss 30 = .ok (.iconst 3, 1) := by decide +kernel
theorem dX5_miss_31 : decode cX5_miss 31 = .ok (.if_icmp .le 5, 3) := by decide +kernel
theorem dX5_miss_34 : decode cX5_miss 34 = .ok (.iconst (-1), 1) := by decide +kernel
theorem dX5_miss_35 : decode cX5_miss 35 = .ok (.ireturn, 1) := by decide +kernel
theorem dX5_miss_36 : decode cX5_miss 36 = .ok (.iconst 0, 1) := by decide +kernel
theorem dX5_miss_37 : decode cX5_miss 37 = .ok (.istore 5, 2) := by decide +kernel
theorem dX5_miss_39 : decode cX5_miss 39 = .ok (.iload 5, 2) := by decide +kernel
theorem dX5_miss_41 : decode cX5_miss 41 = .ok (.iload_n 3, 1) := by decide +kernel
theorem dX5_miss_42 : decode cX5_miss 42 = .ok (.if_icmp .gt 70, 3) := by decide +kernel
theorem dX5_miss_45 : decode cX5_miss 45 = .ok (.iconst 0, 1) := by decide +kernel
theorem dX5_miss_46 : decode cX5_miss 46 = .ok (.istore 6, 2) := by decide +kernel
theorem dX5_miss_48 : decode cX5_miss 48 = .ok (.iload 6, 2) := by decide +kernel
theorem dX5_miss_50 : decode cX5_miss 50 = .ok (.iload 4, 2) := by decide +kernel
theorem dX5_miss_52 : decode cX5_miss 52 = .ok (.if_icmp .gt 54, 3) := by decide +kernel
theorem dX5_miss_55 : decode cX5_miss 55 = .ok (.aload_n 0, 1) := by decide +kernel
theorem dX5_miss_56 : decode cX5_miss 56 = .ok (.getfield 30, 3) := by decide +kernel
theorem dX5_miss_59 : decode cX5_miss 59 = .ok (.aload_n 0, 1) := by decide +kernel
theorem dX5_miss_60 : decode cX5_miss 60 = .ok (.getfield 53, 3) := by decide +kernel
theorem dX5_miss_63 : decode cX5_miss 63 = .ok (.iload_n 2, 1) := by decide +kernel
theorem dX5_miss_64 : decode cX5_miss 64 = .ok (.aaload, 1) := by decide +kernel
theorem dX5_miss_65 : decode cX5_miss 65 = .ok (.iload 5, 2) := by decide +kernel
theorem dX5_miss_67 : decode cX5_miss 67 = .ok (.iload 6, 2) := by decide +kernel
theorem dX5_miss_69 : decode cX5_miss 69 = .ok (.invokevirtual 125, 3) := by decide +kernel
theorem dX5_miss_72 : decode cX5_miss 72 = .ok (.ifCond .eq 28, 3) := by decide +kernel
theorem dX5_miss_75 : decode cX5_miss 75 = .ok (.aload_n 0, 1) := by decide +kernel
theorem dX5_miss_76 : decode cX5_miss 76 = .ok (.getfield 30, 3) := by decide +kernel
theorem dX5_miss_79 : decode cX5_miss 79 = .ok (.getfield 129, 3) := by decide +kernel
theorem dX5_miss_82 : decode cX5_miss 82 = .ok (.aload_n 0, 1) := by decide +kernel
theorem dX5_miss_83 : decode cX5_miss 83 = .ok (.getfield 50, 3) := by decide +kernel
theorem dX5_miss_86 : decode cX5_miss 86 = .ok (.iload_n 1, 1) := by decide +kernel
theorem dX5_miss_87 : decode cX5_miss 87 = .ok (.aaload, 1) := by decide +kernel
theorem dX5_miss_88 : decode cX5_miss 88 = .ok (.invokestatic 122, 3) := by decide +kernel
theorem dX5_miss_91 : decode cX5_miss 91 = .ok (.iload 5, 2) := by decide +kernel
theorem dX5_miss_93 : decode cX5_miss 93 = .ok (.bipush 100, 2) := by decide +kernel
theorem dX5_miss_95 : decode cX5_miss 95 = .ok (.iload 6, 2) := by decide +kernel
theorem dX5_miss_97 : decode cX5_miss 97 = .ok (.imul, 1) := by decide +kernel
theorem dX5_miss_98 : decode cX5_miss 98 = .ok (.iadd, 1) := by decide +kernel
theorem dX5_miss_99 : decode cX5_miss 99 = .ok (.ireturn, 1) := by decide +kernel
theorem dX5_miss_100 : decode cX5_miss 100 = .ok (.iinc 6 1, 3) := by decide +kernel
theorem dX5_miss_103 : decode cX5_miss 103 = .ok (.goto (-55), 3) := by decide +kernel
theorem dX5_miss_106 : decode cX5_miss 106 = .ok (.iinc 5 1, 3) := by decide +kernel
theorem dX5_miss_109 : decode cX5_miss 109 = .ok (.goto (-70), 3) := by decide +kernel
theorem dX5_miss_112 : decode cX5_miss 112 = .ok (.bipush (-2), 2) := by decide +kernel
theorem dX5_miss_114 : decode cX5_miss 114 = .ok (.ireturn, 1) := by decide +kernel
set_option maxRecDepth 100000 in
theorem ggX5_greedy_X5_isKept : GoodIn wsX5_greedy wsX5_isKept := goodIn_r _ [8] rfl (by decide +kernel)
set_option maxRecDepth 100000 in
theorem gX5_greedy_X5_isKept : GoodIn wsX5_greedy (va_wsS RX5 97 yX5_isKept wsX5_isKept) := goodIn_app (goodIn_of _ (by decide +kernel)) ggX5_greedy_X5_isKept
set_option maxRecDepth 100000 in
theorem ggX5_greedy_X0_walk : GoodIn wsX5_greedy wsX0_walk := goodIn_r _ [13, 14, 15, 16, 17, 18, 7, 19, 20, 21, 22, 23, 24, 25, 26, 27, 28, 29, 30, 12, 31, 32, 33, 34, 35, 36, 37, 38, 39, 40, 41, 42, 43, 44, 45, 46, 47, 48, 49, 50, 51, 52, 53, 54, 55, 56, 57, 58, 59, 108, 109, 110, 111, 112, 113, 114, 115, 116, 117] rfl (by decide +kernel)
set_option maxRecDepth 100000 in
theorem gX5_greedy_X0_walk : GoodIn wsX5_greedy (wsV RX5 130 RX0 yX0_walk wsX0_walk) := goodIn_app (goodIn_of _ (by decide +kernel)) ggX5_greedy_X0_walk
set_option maxRecDepth 100000 in
theorem ggX5_greedy_X5_weight : GoodIn wsX5_greedy wsX5_weight := goodIn_r _ [27] rfl (by decide +kernel)
set_option maxRecDepth 100000 in
theorem gX5_greedy_X5_weight : GoodIn wsX5_greedy (va_wsS RX5 103 yX5_weight wsX5_weight) := goodIn_app (goodIn_of _ (by decide +kernel)) ggX5_greedy_X5_weight
set_option maxRecDepth 100000 in
theorem ggX5_greedy_X2_spark : GoodIn wsX5_greedy wsX2_spark := goodIn_r _ [65, 66, 67, 21, 22, 23, 68, 69, 70, 71, 64, 72, 73, 74, 75, 76, 77, 78, 79, 80, 81, 82, 83, 84, 85, 86, 87, 88, 89, 90, 91, 92, 93, 94, 95, 96, 97, 98, 99, 100, 118, 119, 120, 121, 122, 123, 124, 125, 126, 127, 128, 113, 114, 115, 116, 117] rfl (by decide +kernel)
set_option maxRecDepth 100000 in
theorem gX5_greedy_X2_spark : GoodIn wsX5_greedy (wsV RX5 91 RX2 yX2_spark wsX2_spark) := goodIn_app (goodIn_of _ (by decide +kernel)) ggX5_greedy_X2_spark
theorem dX5_greedy_0 : decode cX5_greedy 0 = .ok (.iload_n 1, 1) := by decide +kernel
theorem dX5_greedy_1 : decode cX5_greedy 1 = .ok (.invokestatic 97, 3) := by decide +kernel
theorem dX5_greedy_4 : decode cX5_greedy 4 = .ok (.ifCond .eq 20, 3) := by decide +kernel
theorem dX5_greedy_7 : decode cX5_greedy 7 = .ok (.iload_n 2, 1) := by decide +kernel
theorem dX5_greedy_8 : decode cX5_greedy 8 = .ok (.invokestatic 97, 3) := by decide +kernel
theorem dX5_greedy_11 : decode cX5_greedy 11 = .ok (.ifCond .eq 13, 3) := by decide +kernel
theorem dX5_greedy_14 : decode cX5_greedy 14 = .ok (.iload_n 3, 1) := by decide +kernel
theorem dX5_greedy_15 : decode cX5_greedy 15 = .ok (.ifCond .lt 9, 3) := by decide +kernel
theorem dX5_greedy_18 : decode cX5_greedy 18 = .ok (.iload_n 3, 1) := by decide +kernel
theorem dX5_greedy_19 : decode cX5_greedy 19 = .ok (.bipush 8, 2) := by decide +kernel
theorem dX5_greedy_21 : decode cX5_greedy 21 = .ok (.if_icmp .le 5, 3) := by decide +kernel
theorem dX5_greedy_24 : decode cX5_greedy 24 = .ok (.iconst (-1), 1) := by decide +kernel
theorem dX5_greedy_25 : decode cX5_greedy 25 = .ok (.ireturn, 1) := by decide +kernel
theorem dX5_greedy_26 : decode cX5_greedy 26 = .ok (.aload_n 0, 1) := by decide +kernel
theorem dX5_greedy_27 : decode cX5_greedy 27 = .ok (.getfield 37, 3) := by decide +kernel
theorem dX5_greedy_30 : decode cX5_greedy 30 = .ok (.aload_n 0, 1) := by decide +kernel
theorem dX5_greedy_31 : decode cX5_greedy 31 = .ok (.getfield 53, 3) := by decide +kernel
theorem dX5_greedy_34 : decode cX5_greedy 34 = .ok (.iload_n 2, 1) := by decide +kernel
theorem dX5_greedy_35 : decode cX5_greedy 35 = .ok (.aaload, 1) := by decide +kernel
theorem dX5_greedy_36 : decode cX5_greedy 36 = .ok (.iload_n 3, 1) := by decide +kernel
theorem dX5_greedy_37 : decode cX5_greedy 37 = .ok (.aload_n 0, 1) := by decide +kernel
theorem dX5_greedy_38 : decode cX5_greedy 38 = .ok (.getfield 50, 3) := by decide +kernel
theorem dX5_greedy_41 : decode cX5_greedy 41 = .ok (.iload_n 1, 1) := by decide +kernel
theorem dX5_greedy_42 : decode cX5_greedy 42 = .ok (.aaload, 1) := by decide +kernel
theorem dX5_greedy_43 : decode cX5_greedy 43 = .ok (.invokevirtual 130, 3) := by decide +kernel
theorem dX5_greedy_46 : decode cX5_greedy 46 = .ok (.istore 4, 2) := by decide +kernel
theorem dX5_greedy_48 : decode cX5_greedy 48 = .ok (.iload 4, 2) := by decide +kernel
theorem dX5_greedy_50 : decode cX5_greedy 50 = .ok (.ifCond .ne 28, 3) := by decide +kernel
theorem dX5_greedy_53 : decode cX5_greedy 53 = .ok (.iconst 2, 1) := by decide +kernel
theorem dX5_greedy_54 : decode cX5_greedy 54 = .ok (.aload_n 0, 1) := by decide +kernel
theorem dX5_greedy_55 : decode cX5_greedy 55 = .ok (.getfield 50, 3) := by decide +kernel
theorem dX5_greedy_58 : decode cX5_greedy 58 = .ok (.iload_n 1, 1) := by decide +kernel
theorem dX5_greedy_59 : decode cX5_greedy 59 = .ok (.aaload, 1) := by decide +kernel
theorem dX5_greedy_60 : decode cX5_greedy 60 = .ok (.invokestatic 103, 3) := by decide +kernel
theorem dX5_greedy_63 : decode cX5_greedy 63 = .ok (.imul, 1) := by decide +kernel
theorem dX5_greedy_64 : decode cX5_greedy 64 = .ok (.aload_n 0, 1) := by decide +kernel
theorem dX5_greedy_65 : decode cX5_greedy 65 = .ok (.getfield 21, 3) := by decide +kernel
theorem dX5_greedy_68 : decode cX5_greedy 68 = .ok (.invokevirtual 91, 3) := by decide +kernel
theorem dX5_greedy_71 : decode cX5_greedy 71 = .ok (.if_icmp .ge 7, 3) := by decide +kernel
theorem dX5_greedy_74 : decode cX5_greedy 74 = .ok (.iconst 1, 1) := by decide +kernel
theorem dX5_greedy_75 : decode cX5_greedy 75 = .ok (.goto 4, 3) := by decide +kernel
theorem dX5_greedy_78 : decode cX5_greedy 78 = .ok (.iconst 0, 1) := by decide +kernel
theorem dX5_greedy_79 : decode cX5_greedy 79 = .ok (.istore 5, 2) := by decide +kernel
theorem dX5_greedy_81 : decode cX5_greedy 81 = .ok (.iload 5, 2) := by decide +kernel
theorem dX5_greedy_83 : decode cX5_greedy 83 = .ok (.ifCond .eq 11, 3) := by decide +kernel
theorem dX5_greedy_86 : decode cX5_greedy 86 = .ok (.iload 4, 2) := by decide +kernel
theorem dX5_greedy_88 : decode cX5_greedy 88 = .ok (.bipush 100, 2) := by decide +kernel
theorem dX5_greedy_90 : decode cX5_greedy 90 = .ok (.iadd, 1) := by decide +kernel
theorem dX5_greedy_91 : decode cX5_greedy 91 = .ok (.goto 5, 3) := by decide +kernel
theorem dX5_greedy_94 : decode cX5_greedy 94 = .ok (.iload 4, 2) := by decide +kernel
theorem dX5_greedy_96 : decode cX5_greedy 96 = .ok (.ireturn, 1) := by decide +kernel
set_option maxRecDepth 100000 in
theorem ggX5_sketch_X3_shape : GoodIn wsX5_sketch wsX3_shape := goodIn_r _ [6, 7, 8, 9, 10, 11, 19, 20, 21, 22, 23, 24, 25, 26] rfl (by decide +kernel)
set_option maxRecDepth 100000 in
theorem gX5_sketch_X3_shape : GoodIn wsX5_sketch (wsV RX5 134 RX3 yX3_shape wsX3_shape) := goodIn_app (goodIn_of _ (by decide +kernel)) ggX5_sketch_X3_shape
theorem dX5_sketch_0 : decode cX5_sketch 0 = .ok (.iload_n 1, 1) := by decide +kernel
theorem dX5_sketch_1 : decode cX5_sketch 1 = .ok (.iconst 1, 1) := by decide +kernel
theorem dX5_sketch_2 : decode cX5_sketch 2 = .ok (.if_icmp .lt 19, 3) := by decide +kernel
theorem dX5_sketch_5 : decode cX5_sketch 5 = .ok (.iload_n 1, 1) := by decide +kernel
theorem dX5_sketch_6 : decode cX5_sketch 6 = .ok (.iconst 4, 1) := by decide +kernel
theorem dX5_sketch_7 : decode cX5_sketch 7 = .ok (.if_icmp .gt 14, 3) := by decide +kernel
theorem dX5_sketch_10 : decode cX5_sketch 10 = .ok (.iload_n 2, 1) := by decide +kernel
theorem dX5_sketch_11 : decode cX5_sketch 11 = .ok (.iconst 2, 1) := by decide +kernel
theorem dX5_sketch_12 : decode cX5_sketch 12 = .ok (.if_icmp .lt 9, 3) := by decide +kernel
theorem dX5_sketch_15 : decode cX5_sketch 15 = .ok (.iload_n 2, 1) := by decide +kernel
theorem dX5_sketch_16 : decode cX5_sketch 16 = .ok (.bipush 32, 2) := by decide +kernel
theorem dX5_sketch_18 : decode cX5_sketch 18 = .ok (.if_icmp .le 5, 3) := by decide +kernel
theorem dX5_sketch_21 : decode cX5_sketch 21 = .ok (.iconst (-1), 1) := by decide +kernel
theorem dX5_sketch_22 : decode cX5_sketch 22 = .ok (.ireturn, 1) := by decide +kernel
theorem dX5_sketch_23 : decode cX5_sketch 23 = .ok (.aload_n 0, 1) := by decide +kernel
theorem dX5_sketch_24 : decode cX5_sketch 24 = .ok (.getfield 44, 3) := by decide +kernel
theorem dX5_sketch_27 : decode cX5_sketch 27 = .ok (.iload_n 1, 1) := by decide +kernel
theorem dX5_sketch_28 : decode cX5_sketch 28 = .ok (.iload_n 2, 1) := by decide +kernel
theorem dX5_sketch_29 : decode cX5_sketch 29 = .ok (.invokevirtual 134, 3) := by decide +kernel
theorem dX5_sketch_32 : decode cX5_sketch 32 = .ok (.iconst 0, 1) := by decide +kernel
theorem dX5_sketch_33 : decode cX5_sketch 33 = .ok (.ireturn, 1) := by decide +kernel
set_option maxRecDepth 100000 in
theorem ggX5_add_X3_putNumber : GoodIn wsX5_add wsX3_putNumber := goodIn_r _ [8, 9, 10, 11, 12, 13, 7, 14, 15, 16, 17, 18, 19, 20, 21, 22, 23, 24, 25, 26, 27, 28, 29, 30, 31, 39, 40, 41, 42, 43, 44, 45, 46] rfl (by decide +kernel)
set_option maxRecDepth 100000 in
theorem gX5_add_X3_putNumber : GoodIn wsX5_add (wsV RX5 142 RX3 yX3_putNumber wsX3_putNumber) := goodIn_app (goodIn_of _ (by decide +kernel)) ggX5_add_X3_putNumber
theorem dX5_add_0 : decode cX5_add 0 = .ok (.iload_n 1, 1) := by decide +kernel
theorem dX5_add_1 : decode cX5_add 1 = .ok (.ifCond .lt 23, 3) := by decide +kernel
theorem dX5_add_4 : decode cX5_add 4 = .ok (.iload_n 1, 1) := by decide +kernel
theorem dX5_add_5 : decode cX5_add 5 = .ok (.ldc 137, 2) := by decide +kernel
theorem dX5_add_7 : decode cX5_add 7 = .ok (.if_icmp .gt 17, 3) := by decide +kernel
theorem dX5_add_10 : decode cX5_add 10 = .ok (.iload_n 2, 1) := by decide +kernel
theorem dX5_add_11 : decode cX5_add 11 = .ok (.sipush (-1000), 3) := by decide +kernel
theorem dX5_add_14 : decode cX5_add 14 = .ok (.if_icmp .lt 10, 3) := by decide +kernel
theorem dX5_add_17 : decode cX5_add 17 = .ok (.iload_n 2, 1) := by decide +kernel
theorem dX5_add_18 : decode cX5_add 18 = .ok (.sipush 1000, 3) := by decide +kernel
theorem dX5_add_21 : decode cX5_add 21 = .ok (.if_icmp .le 5, 3) := by decide +kernel
theorem dX5_add_24 : decode cX5_add 24 = .ok (.iconst (-1), 1) := by decide +kernel
theorem dX5_add_25 : decode cX5_add 25 = .ok (.ireturn, 1) := by decide +kernel
theorem dX5_add_26 : decode cX5_add 26 = .ok (.aload_n 0, 1) := by decide +kernel
theorem dX5_add_27 : decode cX5_add 27 = .ok (.getfield 44, 3) := by decide +kernel
theorem dX5_add_30 : decode cX5_add 30 = .ok (.getfield 138, 3) := by decide +kernel
theorem dX5_add_33 : decode cX5_add 33 = .ok (.ldc 141, 2) := by decide +kernel
theorem dX5_add_35 : decode cX5_add 35 = .ok (.if_icmp .lt 6, 3) := by decide +kernel
theorem dX5_add_38 : decode cX5_add 38 = .ok (.bipush (-3), 2) := by decide +kernel
theorem dX5_add_40 : decode cX5_add 40 = .ok (.ireturn, 1) := by decide +kernel
theorem dX5_add_41 : decode cX5_add 41 = .ok (.aload_n 0, 1) := by decide +kernel
theorem dX5_add_42 : decode cX5_add 42 = .ok (.getfield 44, 3) := by decide +kernel
theorem dX5_add_45 : decode cX5_add 45 = .ok (.iload_n 1, 1) := by decide +kernel
theorem dX5_add_46 : decode cX5_add 46 = .ok (.iload_n 2, 1) := by decide +kernel
theorem dX5_add_47 : decode cX5_add 47 = .ok (.invokevirtual 142, 3) := by decide +kernel
theorem dX5_add_50 : decode cX5_add 50 = .ok (.aload_n 0, 1) := by decide +kernel
theorem dX5_add_51 : decode cX5_add 51 = .ok (.getfield 44, 3) := by decide +kernel
theorem dX5_add_54 : decode cX5_add 54 = .ok (.getfield 138, 3) := by decide +kernel
theorem dX5_add_57 : decode cX5_add 57 = .ok (.ireturn, 1) := by decide +kernel
set_option maxRecDepth 100000 in
theorem ggX5_decode_X3_tellAll : GoodIn wsX5_decode wsX3_tellAll := goodIn_r _ [6, 7, 8, 9, 10, 11, 12, 13, 14, 15, 16, 5, 17, 18, 19, 20, 21, 22, 23, 24, 25, 26, 27, 28, 29, 30, 31, 32, 33, 34, 35, 36, 37, 38, 39, 40, 41, 42, 43, 44, 45, 46, 47, 48, 49, 50, 51, 52, 53, 61, 62, 63, 64, 65, 66, 67, 68] rfl (by decide +kernel)
set_option maxRecDepth 100000 in
theorem gX5_decode_X3_tellAll : GoodIn wsX5_decode (wsV RX5 145 RX3 yX3_tellAll wsX3_tellAll) := goodIn_app (goodIn_of _ (by decide +kernel)) ggX5_decode_X3_tellAll
theorem dX5_decode_0 : decode cX5_decode 0 = .ok (.aload_n 0, 1) := by decide +kernel
theorem dX5_decode_1 : decode cX5_decode 1 = .ok (.getfield 44, 3) := by decide +kernel
theorem dX5_decode_4 : decode cX5_decode 4 = .ok (.invokevirtual 145, 3) := by decide +kernel
theorem dX5_decode_7 : decode cX5_decode 7 = .ok (.istore_n 1, 1) := by decide +kernel
theorem dX5_decode_8 : decode cX5_decode 8 = .ok (.iload_n 1, 1) := by decide +kernel
theorem dX5_decode_9 : decode cX5_decode 9 = .ok (.ifCond .eq 17, 3) := by decide +kernel
theorem dX5_decode_12 : decode cX5_decode 12 = .ok (.aload_n 0, 1) := by decide +kernel
theorem dX5_decode_13 : decode cX5_decode 13 = .ok (.getfield 44, 3) := by decide +kernel
theorem dX5_decode_16 : decode cX5_decode 16 = .ok (.getfield 149, 3) := by decide +kernel
theorem dX5_decode_19 : decode cX5_decode 19 = .ok (.sipush 10000, 3) := by decide +kernel
theorem dX5_decode_22 : decode cX5_decode 22 = .ok (.iadd, 1) := by decide +kernel
theorem dX5_decode_23 : decode cX5_decode 23 = .ok (.goto 10, 3) := by decide +kernel
theorem dX5_decode_26 : decode cX5_decode 26 = .ok (.aload_n 0, 1) := by decide +kernel
theorem dX5_decode_27 : decode cX5_decode 27 = .ok (.getfield 44, 3) := by decide +kernel
theorem dX5_decode_30 : decode cX5_decode 30 = .ok (.getfield 149, 3) := by decide +kernel
theorem dX5_decode_33 : decode cX5_decode 33 = .ok (.ireturn, 1) := by decide +kernel
theorem dX5_decoded_0 : decode cX5_decoded 0 = .ok (.iload_n 1, 1) := by decide +kernel
theorem dX5_decoded_1 : decode cX5_decoded 1 = .ok (.ifCond .lt 12, 3) := by decide +kernel
theorem dX5_decoded_4 : decode cX5_decoded 4 = .ok (.iload_n 2, 1) := by decide +kernel
theorem dX5_decoded_5 : decode cX5_decoded 5 = .ok (.ifCond .lt 8, 3) := by decide +kernel
theorem dX5_decoded_8 : decode cX5_decoded 8 = .ok (.iload_n 2, 1) := by decide +kernel
theorem dX5_decoded_9 : decode cX5_decoded 9 = .ok (.iconst 1, 1) := by decide +kernel
theorem dX5_decoded_10 : decode cX5_decoded 10 = .ok (.if_icmp .le 6, 3) := by decide +kernel
theorem dX5_decoded_13 : decode cX5_decoded 13 = .ok (.ldc 152, 2) := by decide +kernel
theorem dX5_decoded_15 : decode cX5_decoded 15 = .ok (.ireturn, 1) := by decide +kernel
theorem dX5_decoded_16 : decode cX5_decoded 16 = .ok (.iload_n 1, 1) := by decide +kernel
theorem dX5_decoded_17 : decode cX5_decoded 17 = .ok (.aload_n 0, 1) := by decide +kernel
theorem dX5_decoded_18 : decode cX5_decoded 18 = .ok (.getfield 44, 3) := by decide +kernel
theorem dX5_decoded_21 : decode cX5_decoded 21 = .ok (.getfield 149, 3) := by decide +kernel
theorem dX5_decoded_24 : decode cX5_decoded 24 = .ok (.if_icmp .ge 9, 3) := by decide +kernel
theorem dX5_decoded_27 : decode cX5_decoded 27 = .ok (.iload_n 1, 1) := by decide +kernel
theorem dX5_decoded_28 : decode cX5_decoded 28 = .ok (.bipush 100, 2) := by decide +kernel
theorem dX5_decoded_30 : decode cX5_decoded 30 = .ok (.if_icmp .lt 6, 3) := by decide +kernel
theorem dX5_decoded_33 : decode cX5_decoded 33 = .ok (.ldc 153, 2) := by decide +kernel
theorem dX5_decoded_35 : decode cX5_decoded 35 = .ok (.ireturn, 1) := by decide +kernel
theorem dX5_decoded_36 : decode cX5_decoded 36 = .ok (.iload_n 2, 1) := by decide +kernel
theorem dX5_decoded_37 : decode cX5_decoded 37 = .ok (.ifCond .ne 15, 3) := by decide +kernel
theorem dX5_decoded_40 : decode cX5_decoded 40 = .ok (.aload_n 0, 1) := by decide +kernel
theorem dX5_decoded_41 : decode cX5_decoded 41 = .ok (.getfield 44, 3) := by decide +kernel
theorem dX5_decoded_44 : decode cX5_decoded 44 = .ok (.getfield 154, 3) := by decide +kernel
theorem dX5_decoded_47 : decode cX5_decoded 47 = .ok (.iload_n 1, 1) := by decide +kernel
theorem dX5_decoded_48 : decode cX5_decoded 48 = .ok (.iaload, 1) := by decide +kernel
theorem dX5_decoded_49 : decode cX5_decoded 49 = .ok (.goto 12, 3) := by decide +kernel
theorem dX5_decoded_52 : decode cX5_decoded 52 = .ok (.aload_n 0, 1) := by decide +kernel
theorem dX5_decoded_53 : decode cX5_decoded 53 = .ok (.getfield 44, 3) := by decide +kernel
theorem dX5_decoded_56 : decode cX5_decoded 56 = .ok (.getfield 157, 3) := by decide +kernel
theorem dX5_decoded_59 : decode cX5_decoded 59 = .ok (.iload_n 1, 1) := by decide +kernel
theorem dX5_decoded_60 : decode cX5_decoded 60 = .ok (.iaload, 1) := by decide +kernel
theorem dX5_decoded_61 : decode cX5_decoded 61 = .ok (.ireturn, 1) := by decide +kernel
set_option maxRecDepth 100000 in
theorem ggX5_bucket_X3_start : GoodIn wsX5_bucket wsX3_start := goodIn_r _ [6] rfl (by decide +kernel)
set_option maxRecDepth 100000 in
theorem gX5_bucket_X3_start : GoodIn wsX5_bucket (va_wsS RX5 172 yX3_start wsX3_start) := goodIn_app (goodIn_of _ (by decide +kernel)) ggX5_bucket_X3_start
theorem dX5_bucket_0 : decode cX5_bucket 0 = .ok (.iload_n 1, 1) := by decide +kernel
theorem dX5_bucket_1 : decode cX5_bucket 1 = .ok (.ifCond .lt 38, 3) := by decide +kernel
theorem dX5_bucket_4 : decode cX5_bucket 4 = .ok (.iload_n 1, 1) := by decide +kernel
theorem dX5_bucket_5 : decode cX5_bucket 5 = .ok (.aload_n 0, 1) := by decide +kernel
theorem dX5_bucket_6 : decode cX5_bucket 6 = .ok (.getfield 44, 3) := by decide +kernel
theorem dX5_bucket_9 : decode cX5_bucket 9 = .ok (.getfield 160, 3) := by decide +kernel
theorem dX5_bucket_12 : decode cX5_bucket 12 = .ok (.if_icmp .ge 27, 3) := by decide +kernel
theorem dX5_bucket_15 : decode cX5_bucket 15 = .ok (.iload_n 2, 1) := by decide +kernel
theorem dX5_bucket_16 : decode cX5_bucket 16 = .ok (.ifCond .lt 23, 3) := by decide +kernel
theorem dX5_bucket_19 : decode cX5_bucket 19 = .ok (.iload_n 2, 1) := by decide +kernel
theorem dX5_bucket_20 : decode cX5_bucket 20 = .ok (.aload_n 0, 1) := by decide +kernel
theorem dX5_bucket_21 : decode cX5_bucket 21 = .ok (.getfield 44, 3) := by decide +kernel
theorem dX5_bucket_24 : decode cX5_bucket 24 = .ok (.getfield 163, 3) := by decide +kernel
theorem dX5_bucket_27 : decode cX5_bucket 27 = .ok (.if_icmp .ge 12, 3) := by decide +kernel
theorem dX5_bucket_30 : decode cX5_bucket 30 = .ok (.iload_n 3, 1) := by decide +kernel
theorem dX5_bucket_31 : decode cX5_bucket 31 = .ok (.ifCond .lt 8, 3) := by decide +kernel
theorem dX5_bucket_34 : decode cX5_bucket 34 = .ok (.iload_n 3, 1) := by decide +kernel
theorem dX5_bucket_35 : decode cX5_bucket 35 = .ok (.iconst 3, 1) := by decide +kernel
theorem dX5_bucket_36 : decode cX5_bucket 36 = .ok (.if_icmp .lt 7, 3) := by decide +kernel
theorem dX5_bucket_39 : decode cX5_bucket 39 = .ok (.ldc2_w 166, 3) := by decide +kernel
theorem dX5_bucket_42 : decode cX5_bucket 42 = .ok (.lreturn, 1) := by decide +kernel
theorem dX5_bucket_43 : decode cX5_bucket 43 = .ok (.aload_n 0, 1) := by decide +kernel
theorem dX5_bucket_44 : decode cX5_bucket 44 = .ok (.getfield 44, 3) := by decide +kernel
theorem dX5_bucket_47 : decode cX5_bucket 47 = .ok (.getfield 168, 3) := by decide +kernel
theorem dX5_bucket_50 : decode cX5_bucket 50 = .ok (.iload_n 1, 1) := by decide +kernel
theorem dX5_bucket_51 : decode cX5_bucket 51 = .ok (.iload_n 2, 1) := by decide +kernel
theorem dX5_bucket_52 : decode cX5_bucket 52 = .ok (.invokestatic 172, 3) := by decide +kernel
theorem dX5_bucket_55 : decode cX5_bucket 55 = .ok (.iload_n 3, 1) := by decide +kernel
theorem dX5_bucket_56 : decode cX5_bucket 56 = .ok (.iadd, 1) := by decide +kernel
theorem dX5_bucket_57 : decode cX5_bucket 57 = .ok (.laload, 1) := by decide +kernel
theorem dX5_bucket_58 : decode cX5_bucket 58 = .ok (.lreturn, 1) := by decide +kernel
theorem dX5_count_0 : decode cX5_count 0 = .ok (.iload_n 1, 1) := by decide +kernel
theorem dX5_count_1 : decode cX5_count 1 = .ok (.tableswitch 87 0 5 #[39, 47, 55, 63, 71, 79], 39) := by decide +kernel
theorem dX5_count_40 : decode cX5_count 40 = .ok (.aload_n 0, 1) := by decide +kernel
theorem dX5_count_41 : decode cX5_count 41 = .ok (.getfield 10, 3) := by decide +kernel
theorem dX5_count_44 : decode cX5_count 44 = .ok (.getfield 79, 3) := by decide +kernel
theorem dX5_count_47 : decode cX5_count 47 = .ok (.ireturn, 1) := by decide +kernel
theorem dX5_count_48 : decode cX5_count 48 = .ok (.aload_n 0, 1) := by decide +kernel
theorem dX5_count_49 : decode cX5_count 49 = .ok (.getfield 10, 3) := by decide +kernel
theorem dX5_count_52 : decode cX5_count 52 = .ok (.getfield 107, 3) := by decide +kernel
theorem dX5_count_55 : decode cX5_count 55 = .ok (.ireturn, 1) := by decide +kernel
theorem dX5_count_56 : decode cX5_count 56 = .ok (.aload_n 0, 1) := by decide +kernel
theorem dX5_count_57 : decode cX5_count 57 = .ok (.getfield 10, 3) := by decide +kernel
theorem dX5_count_60 : decode cX5_count 60 = .ok (.getfield 100, 3) := by decide +kernel
theorem dX5_count_63 : decode cX5_count 63 = .ok (.ireturn, 1) := by decide +kernel
theorem dX5_count_64 : decode cX5_count 64 = .ok (.aload_n 0, 1) := by decide +kernel
theorem dX5_count_65 : decode cX5_count 65 = .ok (.getfield 44, 3) := by decide +kernel
theorem dX5_count_68 : decode cX5_count 68 = .ok (.getfield 160, 3) := by decide +kernel
theorem dX5_count_71 : decode cX5_count 71 = .ok (.ireturn, 1) := by decide +kernel
theorem dX5_count_72 : decode cX5_count 72 = .ok (.aload_n 0, 1) := by decide +kernel
theorem dX5_count_73 : decode cX5_count 73 = .ok (.getfield 44, 3) := by decide +kernel
theorem dX5_count_76 : decode cX5_count 76 = .ok (.getfield 163, 3) := by decide +kernel
theorem dX5_count_79 : decode cX5_count 79 = .ok (.ireturn, 1) := by decide +kernel
theorem dX5_count_80 : decode cX5_count 80 = .ok (.aload_n 0, 1) := by decide +kernel
theorem dX5_count_81 : decode cX5_count 81 = .ok (.getfield 44, 3) := by decide +kernel
theorem dX5_count_84 : decode cX5_count 84 = .ok (.getfield 138, 3) := by decide +kernel
theorem dX5_count_87 : decode cX5_count 87 = .ok (.ireturn, 1) := by decide +kernel
theorem dX5_count_88 : decode cX5_count 88 = .ok (.iconst (-1), 1) := by decide +kernel
theorem dX5_count_89 : decode cX5_count 89 = .ok (.ireturn, 1) := by decide +kernel
theorem dX5_isKept_0 : decode cX5_isKept 0 = .ok (.iload_n 0, 1) := by decide +kernel
theorem dX5_isKept_1 : decode cX5_isKept 1 = .ok (.ifCond .lt 13, 3) := by decide +kernel
theorem dX5_isKept_4 : decode cX5_isKept 4 = .ok (.iload_n 0, 1) := by decide +kernel
theorem dX5_isKept_5 : decode cX5_isKept 5 = .ok (.bipush 6, 2) := by decide +kernel
theorem dX5_isKept_7 : decode cX5_isKept 7 = .ok (.if_icmp .ge 7, 3) := by decide +kernel
theorem dX5_isKept_10 : decode cX5_isKept 10 = .ok (.iconst 1, 1) := by decide +kernel
theorem dX5_isKept_11 : decode cX5_isKept 11 = .ok (.goto 4, 3) := by decide +kernel
theorem dX5_isKept_14 : decode cX5_isKept 14 = .ok (.iconst 0, 1) := by decide +kernel
theorem dX5_isKept_15 : decode cX5_isKept 15 = .ok (.ireturn, 1) := by decide +kernel
theorem dX5_isPrime_0 : decode cX5_isPrime 0 = .ok (.iload_n 0, 1) := by decide +kernel
theorem dX5_isPrime_1 : decode cX5_isPrime 1 = .ok (.iconst 2, 1) := by decide +kernel
theorem dX5_isPrime_2 : decode cX5_isPrime 2 = .ok (.if_icmp .lt 9, 3) := by decide +kernel
theorem dX5_isPrime_5 : decode cX5_isPrime 5 = .ok (.iload_n 0, 1) := by decide +kernel
theorem dX5_isPrime_6 : decode cX5_isPrime 6 = .ok (.bipush 97, 2) := by decide +kernel
theorem dX5_isPrime_8 : decode cX5_isPrime 8 = .ok (.if_icmp .le 5, 3) := by decide +kernel
theorem dX5_isPrime_11 : decode cX5_isPrime 11 = .ok (.iconst 0, 1) := by decide +kernel
theorem dX5_isPrime_12 : decode cX5_isPrime 12 = .ok (.ireturn, 1) := by decide +kernel
theorem dX5_isPrime_13 : decode cX5_isPrime 13 = .ok (.iconst 2, 1) := by decide +kernel
theorem dX5_isPrime_14 : decode cX5_isPrime 14 = .ok (.istore_n 1, 1) := by decide +kernel
theorem dX5_isPrime_15 : decode cX5_isPrime 15 = .ok (.iload_n 1, 1) := by decide +kernel
theorem dX5_isPrime_16 : decode cX5_isPrime 16 = .ok (.iload_n 0, 1) := by decide +kernel
theorem dX5_isPrime_17 : decode cX5_isPrime 17 = .ok (.if_icmp .ge 17, 3) := by decide +kernel
theorem dX5_isPrime_20 : decode cX5_isPrime 20 = .ok (.iload_n 0, 1) := by decide +kernel
theorem dX5_isPrime_21 : decode cX5_isPrime 21 = .ok (.iload_n 1, 1) := by decide +kernel
theorem dX5_isPrime_22 : decode cX5_isPrime 22 = .ok (.irem, 1) := by decide +kernel
theorem dX5_isPrime_23 : decode cX5_isPrime 23 = .ok (.ifCond .ne 5, 3) := by decide +kernel
theorem dX5_isPrime_26 : decode cX5_isPrime 26 = .ok (.iconst 0, 1) := by decide +kernel
theorem dX5_isPrime_27 : decode cX5_isPrime 27 = .ok (.ireturn, 1) := by decide +kernel
theorem dX5_isPrime_28 : decode cX5_isPrime 28 = .ok (.iinc 1 1, 3) := by decide +kernel
theorem dX5_isPrime_31 : decode cX5_isPrime 31 = .ok (.goto (-16), 3) := by decide +kernel
theorem dX5_isPrime_34 : decode cX5_isPrime 34 = .ok (.iconst 1, 1) := by decide +kernel
theorem dX5_isPrime_35 : decode cX5_isPrime 35 = .ok (.ireturn, 1) := by decide +kernel
theorem dX5_weight_0 : decode cX5_weight 0 = .ok (.iconst 0, 1) := by decide +kernel
theorem dX5_weight_1 : decode cX5_weight 1 = .ok (.istore_n 1, 1) := by decide +kernel
theorem dX5_weight_2 : decode cX5_weight 2 = .ok (.iconst 0, 1) := by decide +kernel
theorem dX5_weight_3 : decode cX5_weight 3 = .ok (.istore_n 2, 1) := by decide +kernel
theorem dX5_weight_4 : decode cX5_weight 4 = .ok (.iload_n 2, 1) := by decide +kernel
theorem dX5_weight_5 : decode cX5_weight 5 = .ok (.aload_n 0, 1) := by decide +kernel
theorem dX5_weight_6 : decode cX5_weight 6 = .ok (.arraylength, 1) := by decide +kernel
theorem dX5_weight_7 : decode cX5_weight 7 = .ok (.if_icmp .ge 18, 3) := by decide +kernel
theorem dX5_weight_10 : decode cX5_weight 10 = .ok (.aload_n 0, 1) := by decide +kernel
theorem dX5_weight_11 : decode cX5_weight 11 = .ok (.iload_n 2, 1) := by decide +kernel
theorem dX5_weight_12 : decode cX5_weight 12 = .ok (.iaload, 1) := by decide +kernel
theorem dX5_weight_13 : decode cX5_weight 13 = .ok (.ifCond .eq 6, 3) := by decide +kernel
theorem dX5_weight_16 : decode cX5_weight 16 = .ok (.iinc 1 1, 3) := by decide +kernel
theorem dX5_weight_19 : decode cX5_weight 19 = .ok (.iinc 2 1, 3) := by decide +kernel
theorem dX5_weight_22 : decode cX5_weight 22 = .ok (.goto (-18), 3) := by decide +kernel
theorem dX5_weight_25 : decode cX5_weight 25 = .ok (.iload_n 1, 1) := by decide +kernel
theorem dX5_weight_26 : decode cX5_weight 26 = .ok (.ireturn, 1) := by decide +kernel
theorem dX5_clear_0 : decode cX5_clear 0 = .ok (.iconst 0, 1) := by decide +kernel
theorem dX5_clear_1 : decode cX5_clear 1 = .ok (.istore_n 1, 1) := by decide +kernel
theorem dX5_clear_2 : decode cX5_clear 2 = .ok (.iload_n 1, 1) := by decide +kernel
theorem dX5_clear_3 : decode cX5_clear 3 = .ok (.aload_n 0, 1) := by decide +kernel
theorem dX5_clear_4 : decode cX5_clear 4 = .ok (.arraylength, 1) := by decide +kernel
theorem dX5_clear_5 : decode cX5_clear 5 = .ok (.if_icmp .ge 13, 3) := by decide +kernel
theorem dX5_clear_8 : decode cX5_clear 8 = .ok (.aload_n 0, 1) := by decide +kernel
theorem dX5_clear_9 : decode cX5_clear 9 = .ok (.iload_n 1, 1) := by decide +kernel
theorem dX5_clear_10 : decode cX5_clear 10 = .ok (.iconst 0, 1) := by decide +kernel
theorem dX5_clear_11 : decode cX5_clear 11 = .ok (.iastore, 1) := by decide +kernel
theorem dX5_clear_12 : decode cX5_clear 12 = .ok (.iinc 1 1, 3) := by decide +kernel
theorem dX5_clear_15 : decode cX5_clear 15 = .ok (.goto (-13), 3) := by decide +kernel
theorem dX5_clear_18 : decode cX5_clear 18 = .ok (.return_, 1) := by decide +kernel
theorem dX5_copy_0 : decode cX5_copy 0 = .ok (.aload_n 0, 1) := by decide +kernel
theorem dX5_copy_1 : decode cX5_copy 1 = .ok (.arraylength, 1) := by decide +kernel
theorem dX5_copy_2 : decode cX5_copy 2 = .ok (.aload_n 1, 1) := by decide +kernel
theorem dX5_copy_3 : decode cX5_copy 3 = .ok (.arraylength, 1) := by decide +kernel
theorem dX5_copy_4 : decode cX5_copy 4 = .ok (.invokestatic 176, 3) := by decide +kernel
theorem dX5_copy_7 : decode cX5_copy 7 = .ok (.istore_n 2, 1) := by decide +kernel
theorem dX5_copy_8 : decode cX5_copy 8 = .ok (.iconst 0, 1) := by decide +kernel
theorem dX5_copy_9 : decode cX5_copy 9 = .ok (.istore_n 3, 1) := by decide +kernel
theorem dX5_copy_10 : decode cX5_copy 10 = .ok (.iload_n 3, 1) := by decide +kernel
theorem dX5_copy_11 : decode cX5_copy 11 = .ok (.iload_n 2, 1) := by decide +kernel
theorem dX5_copy_12 : decode cX5_copy 12 = .ok (.if_icmp .ge 15, 3) := by decide +kernel
theorem dX5_copy_15 : decode cX5_copy 15 = .ok (.aload_n 1, 1) := by decide +kernel
