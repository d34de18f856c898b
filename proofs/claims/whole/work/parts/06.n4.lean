theorem dX5_copy_16 : decode cX5_copy 16 = .ok (.iload_n 3, 1) := by decide +kernel
theorem dX5_copy_17 : decode cX5_copy 17 = .ok (.aload_n 0, 1) := by decide +kernel
theorem dX5_copy_18 : decode cX5_copy 18 = .ok (.iload_n 3, 1) := by decide +kernel
theorem dX5_copy_19 : decode cX5_copy 19 = .ok (.iaload, 1) := by decide +kernel
theorem dX5_copy_20 : decode cX5_copy 20 = .ok (.iastore, 1) := by decide +kernel
theorem dX5_copy_21 : decode cX5_copy 21 = .ok (.iinc 3 1, 3) := by decide +kernel
theorem dX5_copy_24 : decode cX5_copy 24 = .ok (.goto (-14), 3) := by decide +kernel
theorem dX5_copy_27 : decode cX5_copy 27 = .ok (.return_, 1) := by decide +kernel
theorem dX6_init_0 : decode cX6_init 0 = .ok (.aload_n 0, 1) := by decide +kernel
theorem dX6_init_1 : decode cX6_init 1 = .ok (.invokespecial 1, 3) := by decide +kernel
theorem dX6_init_4 : decode cX6_init 4 = .ok (.aload_n 0, 1) := by decide +kernel
theorem dX6_init_5 : decode cX6_init 5 = .ok (.bipush 11, 2) := by decide +kernel
theorem dX6_init_7 : decode cX6_init 7 = .ok (.putfield 7, 3) := by decide +kernel
theorem dX6_init_10 : decode cX6_init 10 = .ok (.aload_n 0, 1) := by decide +kernel
theorem dX6_init_11 : decode cX6_init 11 = .ok (.iconst 1, 1) := by decide +kernel
theorem dX6_init_12 : decode cX6_init 12 = .ok (.putfield 13, 3) := by decide +kernel
theorem dX6_init_15 : decode cX6_init 15 = .ok (.aload_n 0, 1) := by decide +kernel
theorem dX6_init_16 : decode cX6_init 16 = .ok (.iconst 1, 1) := by decide +kernel
theorem dX6_init_17 : decode cX6_init 17 = .ok (.putfield 16, 3) := by decide +kernel
theorem dX6_init_20 : decode cX6_init 20 = .ok (.aload_n 0, 1) := by decide +kernel
theorem dX6_init_21 : decode cX6_init 21 = .ok (.bipush 72, 2) := by decide +kernel
theorem dX6_init_23 : decode cX6_init 23 = .ok (.newarray .int, 2) := by decide +kernel
theorem dX6_init_25 : decode cX6_init 25 = .ok (.putfield 19, 3) := by decide +kernel
theorem dX6_init_28 : decode cX6_init 28 = .ok (.aload_n 0, 1) := by decide +kernel
theorem dX6_init_29 : decode cX6_init 29 = .ok (.bipush 72, 2) := by decide +kernel
theorem dX6_init_31 : decode cX6_init 31 = .ok (.newarray .int, 2) := by decide +kernel
theorem dX6_init_33 : decode cX6_init 33 = .ok (.putfield 23, 3) := by decide +kernel
theorem dX6_init_36 : decode cX6_init 36 = .ok (.aload_n 0, 1) := by decide +kernel
theorem dX6_init_37 : decode cX6_init 37 = .ok (.bipush 36, 2) := by decide +kernel
theorem dX6_init_39 : decode cX6_init 39 = .ok (.newarray .int, 2) := by decide +kernel
theorem dX6_init_41 : decode cX6_init 41 = .ok (.putfield 26, 3) := by decide +kernel
theorem dX6_init_44 : decode cX6_init 44 = .ok (.aload_n 0, 1) := by decide +kernel
theorem dX6_init_45 : decode cX6_init 45 = .ok (.iconst 1, 1) := by decide +kernel
theorem dX6_init_46 : decode cX6_init 46 = .ok (.putfield 29, 3) := by decide +kernel
theorem dX6_init_49 : decode cX6_init 49 = .ok (.aload_n 0, 1) := by decide +kernel
theorem dX6_init_50 : decode cX6_init 50 = .ok (.iconst 2, 1) := by decide +kernel
theorem dX6_init_51 : decode cX6_init 51 = .ok (.putfield 32, 3) := by decide +kernel
theorem dX6_init_54 : decode cX6_init 54 = .ok (.aload_n 0, 1) := by decide +kernel
theorem dX6_init_55 : decode cX6_init 55 = .ok (.sipush 768, 3) := by decide +kernel
theorem dX6_init_58 : decode cX6_init 58 = .ok (.newarray .long, 2) := by decide +kernel
theorem dX6_init_60 : decode cX6_init 60 = .ok (.putfield 35, 3) := by decide +kernel
theorem dX6_init_63 : decode cX6_init 63 = .ok (.aload_n 0, 1) := by decide +kernel
theorem dX6_init_64 : decode cX6_init 64 = .ok (.bipush 100, 2) := by decide +kernel
theorem dX6_init_66 : decode cX6_init 66 = .ok (.newarray .int, 2) := by decide +kernel
theorem dX6_init_68 : decode cX6_init 68 = .ok (.putfield 39, 3) := by decide +kernel
theorem dX6_init_71 : decode cX6_init 71 = .ok (.aload_n 0, 1) := by decide +kernel
theorem dX6_init_72 : decode cX6_init 72 = .ok (.bipush 100, 2) := by decide +kernel
theorem dX6_init_74 : decode cX6_init 74 = .ok (.newarray .int, 2) := by decide +kernel
theorem dX6_init_76 : decode cX6_init 76 = .ok (.putfield 42, 3) := by decide +kernel
theorem dX6_init_79 : decode cX6_init 79 = .ok (.aload_n 0, 1) := by decide +kernel
theorem dX6_init_80 : decode cX6_init 80 = .ok (.bipush 78, 2) := by decide +kernel
theorem dX6_init_82 : decode cX6_init 82 = .ok (.newarray .int, 2) := by decide +kernel
theorem dX6_init_84 : decode cX6_init 84 = .ok (.putfield 45, 3) := by decide +kernel
theorem dX6_init_87 : decode cX6_init 87 = .ok (.aload_n 0, 1) := by decide +kernel
theorem dX6_init_88 : decode cX6_init 88 = .ok (.bipush 12, 2) := by decide +kernel
theorem dX6_init_90 : decode cX6_init 90 = .ok (.newarray .int, 2) := by decide +kernel
theorem dX6_init_92 : decode cX6_init 92 = .ok (.putfield 48, 3) := by decide +kernel
theorem dX6_init_95 : decode cX6_init 95 = .ok (.aload_n 0, 1) := by decide +kernel
theorem dX6_init_96 : decode cX6_init 96 = .ok (.bipush 12, 2) := by decide +kernel
theorem dX6_init_98 : decode cX6_init 98 = .ok (.newarray .int, 2) := by decide +kernel
theorem dX6_init_100 : decode cX6_init 100 = .ok (.putfield 51, 3) := by decide +kernel
theorem dX6_init_103 : decode cX6_init 103 = .ok (.aload_n 0, 1) := by decide +kernel
theorem dX6_init_104 : decode cX6_init 104 = .ok (.bipush 6, 2) := by decide +kernel
theorem dX6_init_106 : decode cX6_init 106 = .ok (.newarray .int, 2) := by decide +kernel
theorem dX6_init_108 : decode cX6_init 108 = .ok (.putfield 54, 3) := by decide +kernel
theorem dX6_init_111 : decode cX6_init 111 = .ok (.return_, 1) := by decide +kernel
theorem dX6_in_0 : decode cX6_in 0 = .ok (.lload_n 0, 1) := by decide +kernel
theorem dX6_in_1 : decode cX6_in 1 = .ok (.lload_n 2, 1) := by decide +kernel
theorem dX6_in_2 : decode cX6_in 2 = .ok (.lcmp, 1) := by decide +kernel
theorem dX6_in_3 : decode cX6_in 3 = .ok (.ifCond .lt 14, 3) := by decide +kernel
theorem dX6_in_6 : decode cX6_in 6 = .ok (.lload_n 0, 1) := by decide +kernel
theorem dX6_in_7 : decode cX6_in 7 = .ok (.lload 4, 2) := by decide +kernel
theorem dX6_in_9 : decode cX6_in 9 = .ok (.lcmp, 1) := by decide +kernel
theorem dX6_in_10 : decode cX6_in 10 = .ok (.ifCond .gt 7, 3) := by decide +kernel
theorem dX6_in_13 : decode cX6_in 13 = .ok (.iconst 1, 1) := by decide +kernel
theorem dX6_in_14 : decode cX6_in 14 = .ok (.goto 4, 3) := by decide +kernel
theorem dX6_in_17 : decode cX6_in 17 = .ok (.iconst 0, 1) := by decide +kernel
theorem dX6_in_18 : decode cX6_in 18 = .ok (.ireturn, 1) := by decide +kernel
set_option maxRecDepth 100000 in
theorem ggX6_isPrime_X6_in : GoodIn wsX6_isPrime wsX6_in := goodIn_r _ [6] rfl (by decide +kernel)
set_option maxRecDepth 100000 in
theorem gX6_isPrime_X6_in : GoodIn wsX6_isPrime (va_wsS RX6 61 yX6_in wsX6_in) := goodIn_app (goodIn_of _ (by decide +kernel)) ggX6_isPrime_X6_in
theorem dX6_isPrime_0 : decode cX6_isPrime 0 = .ok (.iload_n 0, 1) := by decide +kernel
theorem dX6_isPrime_1 : decode cX6_isPrime 1 = .ok (.i2l, 1) := by decide +kernel
theorem dX6_isPrime_2 : decode cX6_isPrime 2 = .ok (.ldc2_w 57, 3) := by decide +kernel
theorem dX6_isPrime_5 : decode cX6_isPrime 5 = .ok (.ldc2_w 59, 3) := by decide +kernel
theorem dX6_isPrime_8 : decode cX6_isPrime 8 = .ok (.invokestatic 61, 3) := by decide +kernel
theorem dX6_isPrime_11 : decode cX6_isPrime 11 = .ok (.istore_n 1, 1) := by decide +kernel
theorem dX6_isPrime_12 : decode cX6_isPrime 12 = .ok (.iconst 2, 1) := by decide +kernel
theorem dX6_isPrime_13 : decode cX6_isPrime 13 = .ok (.istore_n 2, 1) := by decide +kernel
theorem dX6_isPrime_14 : decode cX6_isPrime 14 = .ok (.iload_n 1, 1) := by decide +kernel
theorem dX6_isPrime_15 : decode cX6_isPrime 15 = .ok (.ifCond .eq 28, 3) := by decide +kernel
theorem dX6_isPrime_18 : decode cX6_isPrime 18 = .ok (.iload_n 2, 1) := by decide +kernel
theorem dX6_isPrime_19 : decode cX6_isPrime 19 = .ok (.iload_n 2, 1) := by decide +kernel
theorem dX6_isPrime_20 : decode cX6_isPrime 20 = .ok (.imul, 1) := by decide +kernel
theorem dX6_isPrime_21 : decode cX6_isPrime 21 = .ok (.iload_n 0, 1) := by decide +kernel
theorem dX6_isPrime_22 : decode cX6_isPrime 22 = .ok (.if_icmp .gt 21, 3) := by decide +kernel
theorem dX6_isPrime_25 : decode cX6_isPrime 25 = .ok (.iload_n 0, 1) := by decide +kernel
theorem dX6_isPrime_26 : decode cX6_isPrime 26 = .ok (.iload_n 2, 1) := by decide +kernel
theorem dX6_isPrime_27 : decode cX6_isPrime 27 = .ok (.irem, 1) := by decide +kernel
theorem dX6_isPrime_28 : decode cX6_isPrime 28 = .ok (.ifCond .eq 7, 3) := by decide +kernel
theorem dX6_isPrime_31 : decode cX6_isPrime 31 = .ok (.iconst 1, 1) := by decide +kernel
theorem dX6_isPrime_32 : decode cX6_isPrime 32 = .ok (.goto 4, 3) := by decide +kernel
theorem dX6_isPrime_35 : decode cX6_isPrime 35 = .ok (.iconst 0, 1) := by decide +kernel
theorem dX6_isPrime_36 : decode cX6_isPrime 36 = .ok (.istore_n 1, 1) := by decide +kernel
theorem dX6_isPrime_37 : decode cX6_isPrime 37 = .ok (.iinc 2 1, 3) := by decide +kernel
theorem dX6_isPrime_40 : decode cX6_isPrime 40 = .ok (.goto (-26), 3) := by decide +kernel
theorem dX6_isPrime_43 : decode cX6_isPrime 43 = .ok (.iload_n 1, 1) := by decide +kernel
theorem dX6_isPrime_44 : decode cX6_isPrime 44 = .ok (.ireturn, 1) := by decide +kernel
theorem dX6_by_0 : decode cX6_by 0 = .ok (.iload_n 1, 1) := by decide +kernel
theorem dX6_by_1 : decode cX6_by 1 = .ok (.aload_n 0, 1) := by decide +kernel
theorem dX6_by_2 : decode cX6_by 2 = .ok (.getfield 7, 3) := by decide +kernel
theorem dX6_by_5 : decode cX6_by 5 = .ok (.irem, 1) := by decide +kernel
theorem dX6_by_6 : decode cX6_by 6 = .ok (.istore_n 2, 1) := by decide +kernel
theorem dX6_by_7 : decode cX6_by 7 = .ok (.iload_n 2, 1) := by decide +kernel
theorem dX6_by_8 : decode cX6_by 8 = .ok (.ifCond .ge 12, 3) := by decide +kernel
theorem dX6_by_11 : decode cX6_by 11 = .ok (.iload_n 2, 1) := by decide +kernel
theorem dX6_by_12 : decode cX6_by 12 = .ok (.aload_n 0, 1) := by decide +kernel
theorem dX6_by_13 : decode cX6_by 13 = .ok (.getfield 7, 3) := by decide +kernel
theorem dX6_by_16 : decode cX6_by 16 = .ok (.iadd, 1) := by decide +kernel
theorem dX6_by_17 : decode cX6_by 17 = .ok (.goto 4, 3) := by decide +kernel
theorem dX6_by_20 : decode cX6_by 20 = .ok (.iload_n 2, 1) := by decide +kernel
theorem dX6_by_21 : decode cX6_by 21 = .ok (.ireturn, 1) := by decide +kernel
set_option maxRecDepth 100000 in
theorem ggX6_begin_X6_isPrime : GoodIn wsX6_begin wsX6_isPrime := goodIn_r _ [12, 13, 14, 15, 16, 11, 17] rfl (by decide +kernel)
set_option maxRecDepth 100000 in
theorem gX6_begin_X6_isPrime : GoodIn wsX6_begin (va_wsS RX6 65 yX6_isPrime wsX6_isPrime) := goodIn_app (goodIn_of _ (by decide +kernel)) ggX6_begin_X6_isPrime
set_option maxRecDepth 100000 in
theorem ggX6_begin_X6_in : GoodIn wsX6_begin wsX6_in := goodIn_r _ [17] rfl (by decide +kernel)
set_option maxRecDepth 100000 in
theorem gX6_begin_X6_in : GoodIn wsX6_begin (va_wsS RX6 61 yX6_in wsX6_in) := goodIn_app (goodIn_of _ (by decide +kernel)) ggX6_begin_X6_in
theorem dX6_begin_0 : decode cX6_begin 0 = .ok (.iload_n 1, 1) := by decide +kernel
theorem dX6_begin_1 : decode cX6_begin 1 = .ok (.invokestatic 65, 3) := by decide +kernel
theorem dX6_begin_4 : decode cX6_begin 4 = .ok (.ifCond .eq 27, 3) := by decide +kernel
theorem dX6_begin_7 : decode cX6_begin 7 = .ok (.iload_n 2, 1) := by decide +kernel
theorem dX6_begin_8 : decode cX6_begin 8 = .ok (.i2l, 1) := by decide +kernel
theorem dX6_begin_9 : decode cX6_begin 9 = .ok (.lconst 1, 1) := by decide +kernel
theorem dX6_begin_10 : decode cX6_begin 10 = .ok (.ldc2_w 69, 3) := by decide +kernel
theorem dX6_begin_13 : decode cX6_begin 13 = .ok (.invokestatic 61, 3) := by decide +kernel
theorem dX6_begin_16 : decode cX6_begin 16 = .ok (.ifCond .eq 15, 3) := by decide +kernel
theorem dX6_begin_19 : decode cX6_begin 19 = .ok (.iload_n 3, 1) := by decide +kernel
theorem dX6_begin_20 : decode cX6_begin 20 = .ok (.i2l, 1) := by decide +kernel
theorem dX6_begin_21 : decode cX6_begin 21 = .ok (.lconst 1, 1) := by decide +kernel
theorem dX6_begin_22 : decode cX6_begin 22 = .ok (.ldc2_w 71, 3) := by decide +kernel
theorem dX6_begin_25 : decode cX6_begin 25 = .ok (.invokestatic 61, 3) := by decide +kernel
theorem dX6_begin_28 : decode cX6_begin 28 = .ok (.ifCond .ne 5, 3) := by decide +kernel
theorem dX6_begin_31 : decode cX6_begin 31 = .ok (.iconst (-1), 1) := by decide +kernel
theorem dX6_begin_32 : decode cX6_begin 32 = .ok (.ireturn, 1) := by decide +kernel
theorem dX6_begin_33 : decode cX6_begin 33 = .ok (.aload_n 0, 1) := by decide +kernel
theorem dX6_begin_34 : decode cX6_begin 34 = .ok (.iload_n 1, 1) := by decide +kernel
theorem dX6_begin_35 : decode cX6_begin 35 = .ok (.putfield 7, 3) := by decide +kernel
theorem dX6_begin_38 : decode cX6_begin 38 = .ok (.aload_n 0, 1) := by decide +kernel
theorem dX6_begin_39 : decode cX6_begin 39 = .ok (.iload_n 2, 1) := by decide +kernel
theorem dX6_begin_40 : decode cX6_begin 40 = .ok (.putfield 13, 3) := by decide +kernel
theorem dX6_begin_43 : decode cX6_begin 43 = .ok (.aload_n 0, 1) := by decide +kernel
theorem dX6_begin_44 : decode cX6_begin 44 = .ok (.iload_n 3, 1) := by decide +kernel
theorem dX6_begin_45 : decode cX6_begin 45 = .ok (.putfield 16, 3) := by decide +kernel
theorem dX6_begin_48 : decode cX6_begin 48 = .ok (.iconst 0, 1) := by decide +kernel
theorem dX6_begin_49 : decode cX6_begin 49 = .ok (.istore 4, 2) := by decide +kernel
theorem dX6_begin_51 : decode cX6_begin 51 = .ok (.iload 4, 2) := by decide +kernel
theorem dX6_begin_53 : decode cX6_begin 53 = .ok (.bipush 72, 2) := by decide +kernel
theorem dX6_begin_55 : decode cX6_begin 55 = .ok (.if_icmp .ge 25, 3) := by decide +kernel
theorem dX6_begin_58 : decode cX6_begin 58 = .ok (.aload_n 0, 1) := by decide +kernel
theorem dX6_begin_59 : decode cX6_begin 59 = .ok (.getfield 19, 3) := by decide +kernel
theorem dX6_begin_62 : decode cX6_begin 62 = .ok (.iload 4, 2) := by decide +kernel
theorem dX6_begin_64 : decode cX6_begin 64 = .ok (.iconst 0, 1) := by decide +kernel
theorem dX6_begin_65 : decode cX6_begin 65 = .ok (.iastore, 1) := by decide +kernel
theorem dX6_begin_66 : decode cX6_begin 66 = .ok (.aload_n 0, 1) := by decide +kernel
theorem dX6_begin_67 : decode cX6_begin 67 = .ok (.getfield 23, 3) := by decide +kernel
theorem dX6_begin_70 : decode cX6_begin 70 = .ok (.iload 4, 2) := by decide +kernel
theorem dX6_begin_72 : decode cX6_begin 72 = .ok (.iconst 0, 1) := by decide +kernel
theorem dX6_begin_73 : decode cX6_begin 73 = .ok (.iastore, 1) := by decide +kernel
theorem dX6_begin_74 : decode cX6_begin 74 = .ok (.iinc 4 1, 3) := by decide +kernel
theorem dX6_begin_77 : decode cX6_begin 77 = .ok (.goto (-26), 3) := by decide +kernel
theorem dX6_begin_80 : decode cX6_begin 80 = .ok (.iconst 0, 1) := by decide +kernel
theorem dX6_begin_81 : decode cX6_begin 81 = .ok (.istore 4, 2) := by decide +kernel
theorem dX6_begin_83 : decode cX6_begin 83 = .ok (.iload 4, 2) := by decide +kernel
theorem dX6_begin_85 : decode cX6_begin 85 = .ok (.bipush 36, 2) := by decide +kernel
theorem dX6_begin_87 : decode cX6_begin 87 = .ok (.if_icmp .ge 17, 3) := by decide +kernel
theorem dX6_begin_90 : decode cX6_begin 90 = .ok (.aload_n 0, 1) := by decide +kernel
theorem dX6_begin_91 : decode cX6_begin 91 = .ok (.getfield 26, 3) := by decide +kernel
theorem dX6_begin_94 : decode cX6_begin 94 = .ok (.iload 4, 2) := by decide +kernel
theorem dX6_begin_96 : decode cX6_begin 96 = .ok (.iconst 0, 1) := by decide +kernel
theorem dX6_begin_97 : decode cX6_begin 97 = .ok (.iastore, 1) := by decide +kernel
theorem dX6_begin_98 : decode cX6_begin 98 = .ok (.iinc 4 1, 3) := by decide +kernel
theorem dX6_begin_101 : decode cX6_begin 101 = .ok (.goto (-18), 3) := by decide +kernel
theorem dX6_begin_104 : decode cX6_begin 104 = .ok (.iconst 0, 1) := by decide +kernel
theorem dX6_begin_105 : decode cX6_begin 105 = .ok (.ireturn, 1) := by decide +kernel
set_option maxRecDepth 100000 in
theorem ggX6_isPlace_X6_in : GoodIn wsX6_isPlace wsX6_in := goodIn_r _ [6] rfl (by decide +kernel)
set_option maxRecDepth 100000 in
theorem gX6_isPlace_X6_in : GoodIn wsX6_isPlace (va_wsS RX6 61 yX6_in wsX6_in) := goodIn_app (goodIn_of _ (by decide +kernel)) ggX6_isPlace_X6_in
theorem dX6_isPlace_0 : decode cX6_isPlace 0 = .ok (.iload_n 1, 1) := by decide +kernel
theorem dX6_isPlace_1 : decode cX6_isPlace 1 = .ok (.i2l, 1) := by decide +kernel
theorem dX6_isPlace_2 : decode cX6_isPlace 2 = .ok (.lconst 0, 1) := by decide +kernel
theorem dX6_isPlace_3 : decode cX6_isPlace 3 = .ok (.aload_n 0, 1) := by decide +kernel
theorem dX6_isPlace_4 : decode cX6_isPlace 4 = .ok (.getfield 13, 3) := by decide +kernel
theorem dX6_isPlace_7 : decode cX6_isPlace 7 = .ok (.iconst 1, 1) := by decide +kernel
theorem dX6_isPlace_8 : decode cX6_isPlace 8 = .ok (.isub, 1) := by decide +kernel
theorem dX6_isPlace_9 : decode cX6_isPlace 9 = .ok (.i2l, 1) := by decide +kernel
theorem dX6_isPlace_10 : decode cX6_isPlace 10 = .ok (.invokestatic 61, 3) := by decide +kernel
theorem dX6_isPlace_13 : decode cX6_isPlace 13 = .ok (.ifCond .eq 23, 3) := by decide +kernel
theorem dX6_isPlace_16 : decode cX6_isPlace 16 = .ok (.iload_n 2, 1) := by decide +kernel
theorem dX6_isPlace_17 : decode cX6_isPlace 17 = .ok (.i2l, 1) := by decide +kernel
theorem dX6_isPlace_18 : decode cX6_isPlace 18 = .ok (.lconst 0, 1) := by decide +kernel
theorem dX6_isPlace_19 : decode cX6_isPlace 19 = .ok (.aload_n 0, 1) := by decide +kernel
theorem dX6_isPlace_20 : decode cX6_isPlace 20 = .ok (.getfield 16, 3) := by decide +kernel
theorem dX6_isPlace_23 : decode cX6_isPlace 23 = .ok (.iconst 1, 1) := by decide +kernel
theorem dX6_isPlace_24 : decode cX6_isPlace 24 = .ok (.isub, 1) := by decide +kernel
theorem dX6_isPlace_25 : decode cX6_isPlace 25 = .ok (.i2l, 1) := by decide +kernel
theorem dX6_isPlace_26 : decode cX6_isPlace 26 = .ok (.invokestatic 61, 3) := by decide +kernel
theorem dX6_isPlace_29 : decode cX6_isPlace 29 = .ok (.ifCond .eq 7, 3) := by decide +kernel
theorem dX6_isPlace_32 : decode cX6_isPlace 32 = .ok (.iconst 1, 1) := by decide +kernel
theorem dX6_isPlace_33 : decode cX6_isPlace 33 = .ok (.goto 4, 3) := by decide +kernel
theorem dX6_isPlace_36 : decode cX6_isPlace 36 = .ok (.iconst 0, 1) := by decide +kernel
theorem dX6_isPlace_37 : decode cX6_isPlace 37 = .ok (.ireturn, 1) := by decide +kernel
set_option maxRecDepth 100000 in
theorem ggX6_set_X6_isPlace : GoodIn wsX6_set wsX6_isPlace := goodIn_r _ [6, 7, 8, 9, 10, 5, 11, 17, 18, 19, 20, 21, 22, 23, 24, 25, 26, 27, 28, 29, 30, 31, 32, 33] rfl (by decide +kernel)
set_option maxRecDepth 100000 in
theorem gX6_set_X6_isPlace : GoodIn wsX6_set (wsV RX6 73 RX6 yX6_isPlace wsX6_isPlace) := goodIn_app (goodIn_of _ (by decide +kernel)) ggX6_set_X6_isPlace
set_option maxRecDepth 100000 in
theorem ggX6_set_X6_by : GoodIn wsX6_set wsX6_by := goodIn_r _ [15, 16, 17, 18, 19, 20, 21, 22, 23, 24, 25, 26, 27, 28, 29, 30, 31, 32, 33] rfl (by decide +kernel)
set_option maxRecDepth 100000 in
theorem gX6_set_X6_by : GoodIn wsX6_set (wsV RX6 77 RX6 yX6_by wsX6_by) := goodIn_app (goodIn_of _ (by decide +kernel)) ggX6_set_X6_by
theorem dX6_set_0 : decode cX6_set 0 = .ok (.aload_n 0, 1) := by decide +kernel
theorem dX6_set_1 : decode cX6_set 1 = .ok (.iload_n 1, 1) := by decide +kernel
theorem dX6_set_2 : decode cX6_set 2 = .ok (.iload_n 2, 1) := by decide +kernel
theorem dX6_set_3 : decode cX6_set 3 = .ok (.invokevirtual 73, 3) := by decide +kernel
theorem dX6_set_6 : decode cX6_set 6 = .ok (.ifCond .ne 5, 3) := by decide +kernel
theorem dX6_set_9 : decode cX6_set 9 = .ok (.iconst (-1), 1) := by decide +kernel
theorem dX6_set_10 : decode cX6_set 10 = .ok (.ireturn, 1) := by decide +kernel
theorem dX6_set_11 : decode cX6_set 11 = .ok (.aload_n 0, 1) := by decide +kernel
theorem dX6_set_12 : decode cX6_set 12 = .ok (.getfield 19, 3) := by decide +kernel
theorem dX6_set_15 : decode cX6_set 15 = .ok (.bipush 12, 2) := by decide +kernel
theorem dX6_set_17 : decode cX6_set 17 = .ok (.iload_n 1, 1) := by decide +kernel
theorem dX6_set_18 : decode cX6_set 18 = .ok (.imul, 1) := by decide +kernel
theorem dX6_set_19 : decode cX6_set 19 = .ok (.iload_n 2, 1) := by decide +kernel
theorem dX6_set_20 : decode cX6_set 20 = .ok (.iadd, 1) := by decide +kernel
theorem dX6_set_21 : decode cX6_set 21 = .ok (.iaload, 1) := by decide +kernel
theorem dX6_set_22 : decode cX6_set 22 = .ok (.istore 4, 2) := by decide +kernel
theorem dX6_set_24 : decode cX6_set 24 = .ok (.aload_n 0, 1) := by decide +kernel
theorem dX6_set_25 : decode cX6_set 25 = .ok (.getfield 19, 3) := by decide +kernel
theorem dX6_set_28 : decode cX6_set 28 = .ok (.bipush 12, 2) := by decide +kernel
theorem dX6_set_30 : decode cX6_set 30 = .ok (.iload_n 1, 1) := by decide +kernel
theorem dX6_set_31 : decode cX6_set 31 = .ok (.imul, 1) := by decide +kernel
theorem dX6_set_32 : decode cX6_set 32 = .ok (.iload_n 2, 1) := by decide +kernel
theorem dX6_set_33 : decode cX6_set 33 = .ok (.iadd, 1) := by decide +kernel
theorem dX6_set_34 : decode cX6_set 34 = .ok (.aload_n 0, 1) := by decide +kernel
theorem dX6_set_35 : decode cX6_set 35 = .ok (.iload_n 3, 1) := by decide +kernel
theorem dX6_set_36 : decode cX6_set 36 = .ok (.invokevirtual 77, 3) := by decide +kernel
theorem dX6_set_39 : decode cX6_set 39 = .ok (.iastore, 1) := by decide +kernel
theorem dX6_set_40 : decode cX6_set 40 = .ok (.iload 4, 2) := by decide +kernel
theorem dX6_set_42 : decode cX6_set 42 = .ok (.ireturn, 1) := by decide +kernel
set_option maxRecDepth 100000 in
theorem ggX6_powers_X6_in : GoodIn wsX6_powers wsX6_in := goodIn_r _ [8] rfl (by decide +kernel)
set_option maxRecDepth 100000 in
theorem gX6_powers_X6_in : GoodIn wsX6_powers (va_wsS RX6 61 yX6_in wsX6_in) := goodIn_app (goodIn_of _ (by decide +kernel)) ggX6_powers_X6_in
theorem dX6_powers_0 : decode cX6_powers 0 = .ok (.iload_n 1, 1) := by decide +kernel
theorem dX6_powers_1 : decode cX6_powers 1 = .ok (.i2l, 1) := by decide +kernel
theorem dX6_powers_2 : decode cX6_powers 2 = .ok (.lconst 0, 1) := by decide +kernel
theorem dX6_powers_3 : decode cX6_powers 3 = .ok (.aload_n 0, 1) := by decide +kernel
theorem dX6_powers_4 : decode cX6_powers 4 = .ok (.getfield 7, 3) := by decide +kernel
theorem dX6_powers_7 : decode cX6_powers 7 = .ok (.iconst 1, 1) := by decide +kernel
theorem dX6_powers_8 : decode cX6_powers 8 = .ok (.isub, 1) := by decide +kernel
theorem dX6_powers_9 : decode cX6_powers 9 = .ok (.i2l, 1) := by decide +kernel
theorem dX6_powers_10 : decode cX6_powers 10 = .ok (.invokestatic 61, 3) := by decide +kernel
theorem dX6_powers_13 : decode cX6_powers 13 = .ok (.ifCond .ne 5, 3) := by decide +kernel
theorem dX6_powers_16 : decode cX6_powers 16 = .ok (.iconst (-1), 1) := by decide +kernel
theorem dX6_powers_17 : decode cX6_powers 17 = .ok (.ireturn, 1) := by decide +kernel
theorem dX6_powers_18 : decode cX6_powers 18 = .ok (.iconst 0, 1) := by decide +kernel
theorem dX6_powers_19 : decode cX6_powers 19 = .ok (.istore_n 2, 1) := by decide +kernel
theorem dX6_powers_20 : decode cX6_powers 20 = .ok (.iload_n 2, 1) := by decide +kernel
theorem dX6_powers_21 : decode cX6_powers 21 = .ok (.aload_n 0, 1) := by decide +kernel
theorem dX6_powers_22 : decode cX6_powers 22 = .ok (.getfield 16, 3) := by decide +kernel
theorem dX6_powers_25 : decode cX6_powers 25 = .ok (.if_icmp .ge 58, 3) := by decide +kernel
theorem dX6_powers_28 : decode cX6_powers 28 = .ok (.iload_n 1, 1) := by decide +kernel
theorem dX6_powers_29 : decode cX6_powers 29 = .ok (.istore_n 3, 1) := by decide +kernel
theorem dX6_powers_30 : decode cX6_powers 30 = .ok (.iconst 0, 1) := by decide +kernel
theorem dX6_powers_31 : decode cX6_powers 31 = .ok (.istore 4, 2) := by decide +kernel
theorem dX6_powers_33 : decode cX6_powers 33 = .ok (.iload 4, 2) := by decide +kernel
theorem dX6_powers_35 : decode cX6_powers 35 = .ok (.aload_n 0, 1) := by decide +kernel
theorem dX6_powers_36 : decode cX6_powers 36 = .ok (.getfield 13, 3) := by decide +kernel
theorem dX6_powers_39 : decode cX6_powers 39 = .ok (.if_icmp .ge 38, 3) := by decide +kernel
theorem dX6_powers_42 : decode cX6_powers 42 = .ok (.aload_n 0, 1) := by decide +kernel
theorem dX6_powers_43 : decode cX6_powers 43 = .ok (.getfield 19, 3) := by decide +kernel
theorem dX6_powers_46 : decode cX6_powers 46 = .ok (.bipush 12, 2) := by decide +kernel
theorem dX6_powers_48 : decode cX6_powers 48 = .ok (.iload 4, 2) := by decide +kernel
theorem dX6_powers_50 : decode cX6_powers 50 = .ok (.imul, 1) := by decide +kernel
theorem dX6_powers_51 : decode cX6_powers 51 = .ok (.iload_n 2, 1) := by decide +kernel
theorem dX6_powers_52 : decode cX6_powers 52 = .ok (.iadd, 1) := by decide +kernel
theorem dX6_powers_53 : decode cX6_powers 53 = .ok (.iload_n 3, 1) := by decide +kernel
theorem dX6_powers_54 : decode cX6_powers 54 = .ok (.iastore, 1) := by decide +kernel
theorem dX6_powers_55 : decode cX6_powers 55 = .ok (.iload_n 3, 1) := by decide +kernel
theorem dX6_powers_56 : decode cX6_powers 56 = .ok (.iload_n 2, 1) := by decide +kernel
theorem dX6_powers_57 : decode cX6_powers 57 = .ok (.iconst 1, 1) := by decide +kernel
theorem dX6_powers_58 : decode cX6_powers 58 = .ok (.iadd, 1) := by decide +kernel
theorem dX6_powers_59 : decode cX6_powers 59 = .ok (.aload_n 0, 1) := by decide +kernel
theorem dX6_powers_60 : decode cX6_powers 60 = .ok (.getfield 7, 3) := by decide +kernel
theorem dX6_powers_63 : decode cX6_powers 63 = .ok (.irem, 1) := by decide +kernel
theorem dX6_powers_64 : decode cX6_powers 64 = .ok (.imul, 1) := by decide +kernel
theorem dX6_powers_65 : decode cX6_powers 65 = .ok (.aload_n 0, 1) := by decide +kernel
theorem dX6_powers_66 : decode cX6_powers 66 = .ok (.getfield 7, 3) := by decide +kernel
theorem dX6_powers_69 : decode cX6_powers 69 = .ok (.irem, 1) := by decide +kernel
theorem dX6_powers_70 : decode cX6_powers 70 = .ok (.istore_n 3, 1) := by decide +kernel
theorem dX6_powers_71 : decode cX6_powers 71 = .ok (.iinc 4 1, 3) := by decide +kernel
theorem dX6_powers_74 : decode cX6_powers 74 = .ok (.goto (-41), 3) := by decide +kernel
theorem dX6_powers_77 : decode cX6_powers 77 = .ok (.iinc 2 1, 3) := by decide +kernel
theorem dX6_powers_80 : decode cX6_powers 80 = .ok (.goto (-60), 3) := by decide +kernel
theorem dX6_powers_83 : decode cX6_powers 83 = .ok (.iconst 0, 1) := by decide +kernel
theorem dX6_powers_84 : decode cX6_powers 84 = .ok (.ireturn, 1) := by decide +kernel
set_option maxRecDepth 100000 in
theorem ggX6_at_X6_isPlace : GoodIn wsX6_at wsX6_isPlace := goodIn_r _ [6, 7, 8, 9, 10, 5, 11, 12, 13, 14, 15, 16, 17, 18, 19, 20, 21, 22, 23, 24, 25, 26, 27, 28] rfl (by decide +kernel)
set_option maxRecDepth 100000 in
theorem gX6_at_X6_isPlace : GoodIn wsX6_at (wsV RX6 73 RX6 yX6_isPlace wsX6_isPlace) := goodIn_app (goodIn_of _ (by decide +kernel)) ggX6_at_X6_isPlace
theorem dX6_at_0 : decode cX6_at 0 = .ok (.aload_n 0, 1) := by decide +kernel
theorem dX6_at_1 : decode cX6_at 1 = .ok (.iload_n 1, 1) := by decide +kernel
theorem dX6_at_2 : decode cX6_at 2 = .ok (.iload_n 2, 1) := by decide +kernel
theorem dX6_at_3 : decode cX6_at 3 = .ok (.invokevirtual 73, 3) := by decide +kernel
theorem dX6_at_6 : decode cX6_at 6 = .ok (.ifCond .eq 17, 3) := by decide +kernel
theorem dX6_at_9 : decode cX6_at 9 = .ok (.aload_n 0, 1) := by decide +kernel
theorem dX6_at_10 : decode cX6_at 10 = .ok (.getfield 19, 3) := by decide +kernel
theorem dX6_at_13 : decode cX6_at 13 = .ok (.bipush 12, 2) := by decide +kernel
theorem dX6_at_15 : decode cX6_at 15 = .ok (.iload_n 1, 1) := by decide +kernel
theorem dX6_at_16 : decode cX6_at 16 = .ok (.imul, 1) := by decide +kernel
theorem dX6_at_17 : decode cX6_at 17 = .ok (.iload_n 2, 1) := by decide +kernel
theorem dX6_at_18 : decode cX6_at 18 = .ok (.iadd, 1) := by decide +kernel
theorem dX6_at_19 : decode cX6_at 19 = .ok (.iaload, 1) := by decide +kernel
theorem dX6_at_20 : decode cX6_at 20 = .ok (.goto 4, 3) := by decide +kernel
theorem dX6_at_23 : decode cX6_at 23 = .ok (.iconst (-1), 1) := by decide +kernel
theorem dX6_at_24 : decode cX6_at 24 = .ok (.ireturn, 1) := by decide +kernel
theorem dX6_turned_0 : decode cX6_turned 0 = .ok (.iconst 1, 1) := by decide +kernel
theorem dX6_turned_1 : decode cX6_turned 1 = .ok (.istore_n 2, 1) := by decide +kernel
theorem dX6_turned_2 : decode cX6_turned 2 = .ok (.iload_n 2, 1) := by decide +kernel
theorem dX6_turned_3 : decode cX6_turned 3 = .ok (.iload_n 1, 1) := by decide +kernel
theorem dX6_turned_4 : decode cX6_turned 4 = .ok (.imul, 1) := by decide +kernel
theorem dX6_turned_5 : decode cX6_turned 5 = .ok (.aload_n 0, 1) := by decide +kernel
theorem dX6_turned_6 : decode cX6_turned 6 = .ok (.getfield 7, 3) := by decide +kernel
theorem dX6_turned_9 : decode cX6_turned 9 = .ok (.irem, 1) := by decide +kernel
theorem dX6_turned_10 : decode cX6_turned 10 = .ok (.iconst 1, 1) := by decide +kernel
theorem dX6_turned_11 : decode cX6_turned 11 = .ok (.if_icmp .eq 9, 3) := by decide +kernel
theorem dX6_turned_14 : decode cX6_turned 14 = .ok (.iinc 2 1, 3) := by decide +kernel
theorem dX6_turned_17 : decode cX6_turned 17 = .ok (.goto (-15), 3) := by decide +kernel
theorem dX6_turned_20 : decode cX6_turned 20 = .ok (.iload_n 2, 1) := by decide +kernel
theorem dX6_turned_21 : decode cX6_turned 21 = .ok (.ireturn, 1) := by decide +kernel
set_option maxRecDepth 100000 in
theorem ggX6_clears_X6_bits : GoodIn wsX6_clears wsX6_bits := goodIn_r _ [10] rfl (by decide +kernel)
set_option maxRecDepth 100000 in
theorem gX6_clears_X6_bits : GoodIn wsX6_clears (va_wsS RX6 81 yX6_bits wsX6_bits) := goodIn_app (goodIn_of _ (by decide +kernel)) ggX6_clears_X6_bits
set_option maxRecDepth 100000 in
theorem ggX6_clears_X6_swaps : GoodIn wsX6_clears wsX6_swaps := goodIn_r _ [14, 3, 27, 28, 29, 30, 31, 32, 33, 34, 35, 36, 37, 38, 39, 40, 41, 42, 43] rfl (by decide +kernel)
set_option maxRecDepth 100000 in
theorem gX6_clears_X6_swaps : GoodIn wsX6_clears (wsV RX6 84 RX6 yX6_swaps wsX6_swaps) := goodIn_app (goodIn_of _ (by decide +kernel)) ggX6_clears_X6_swaps
set_option maxRecDepth 100000 in
theorem ggX6_clears_X6_turned : GoodIn wsX6_clears wsX6_turned := goodIn_r _ [18, 6, 27, 28, 29, 30, 31, 32, 33, 34, 35, 36, 37, 38, 39, 40, 41, 42, 43] rfl (by decide +kernel)
set_option maxRecDepth 100000 in
theorem gX6_clears_X6_turned : GoodIn wsX6_clears (wsV RX6 88 RX6 yX6_turned wsX6_turned) := goodIn_app (goodIn_of _ (by decide +kernel)) ggX6_clears_X6_turned
set_option maxRecDepth 100000 in
theorem ggX6_clears_X6_takes : GoodIn wsX6_clears wsX6_takes := goodIn_r _ [22, 3, 23, 24, 25, 9, 26, 6, 27, 28, 29, 30, 31, 32, 33, 34, 35, 36, 37, 38, 39, 40, 41, 42, 43] rfl (by decide +kernel)
set_option maxRecDepth 100000 in
theorem gX6_clears_X6_takes : GoodIn wsX6_clears (wsV RX6 91 RX6 yX6_takes wsX6_takes) := goodIn_app (goodIn_of _ (by decide +kernel)) ggX6_clears_X6_takes
theorem dX6_clears_0 : decode cX6_clears 0 = .ok (.iconst 0, 1) := by decide +kernel
theorem dX6_clears_1 : decode cX6_clears 1 = .ok (.istore 4, 2) := by decide +kernel
theorem dX6_clears_3 : decode cX6_clears 3 = .ok (.iconst 0, 1) := by decide +kernel
theorem dX6_clears_4 : decode cX6_clears 4 = .ok (.istore 5, 2) := by decide +kernel
theorem dX6_clears_6 : decode cX6_clears 6 = .ok (.iconst 0, 1) := by decide +kernel
theorem dX6_clears_7 : decode cX6_clears 7 = .ok (.istore 6, 2) := by decide +kernel
theorem dX6_clears_9 : decode cX6_clears 9 = .ok (.iload 6, 2) := by decide +kernel
theorem dX6_clears_11 : decode cX6_clears 11 = .ok (.aload_n 0, 1) := by decide +kernel
theorem dX6_clears_12 : decode cX6_clears 12 = .ok (.getfield 13, 3) := by decide +kernel
theorem dX6_clears_15 : decode cX6_clears 15 = .ok (.if_icmp .ge 114, 3) := by decide +kernel
theorem dX6_clears_18 : decode cX6_clears 18 = .ok (.iload_n 2, 1) := by decide +kernel
theorem dX6_clears_19 : decode cX6_clears 19 = .ok (.iload 6, 2) := by decide +kernel
theorem dX6_clears_21 : decode cX6_clears 21 = .ok (.ishr, 1) := by decide +kernel
theorem dX6_clears_22 : decode cX6_clears 22 = .ok (.iconst 1, 1) := by decide +kernel
theorem dX6_clears_23 : decode cX6_clears 23 = .ok (.iand, 1) := by decide +kernel
theorem dX6_clears_24 : decode cX6_clears 24 = .ok (.ifCond .ne 99, 3) := by decide +kernel
theorem dX6_clears_27 : decode cX6_clears 27 = .ok (.iconst 0, 1) := by decide +kernel
theorem dX6_clears_28 : decode cX6_clears 28 = .ok (.istore 5, 2) := by decide +kernel
theorem dX6_clears_30 : decode cX6_clears 30 = .ok (.iconst 0, 1) := by decide +kernel
theorem dX6_clears_31 : decode cX6_clears 31 = .ok (.istore 7, 2) := by decide +kernel
theorem dX6_clears_33 : decode cX6_clears 33 = .ok (.iload 7, 2) := by decide +kernel
theorem dX6_clears_35 : decode cX6_clears 35 = .ok (.aload_n 0, 1) := by decide +kernel
theorem dX6_clears_36 : decode cX6_clears 36 = .ok (.getfield 16, 3) := by decide +kernel
theorem dX6_clears_39 : decode cX6_clears 39 = .ok (.if_icmp .ge 48, 3) := by decide +kernel
theorem dX6_clears_42 : decode cX6_clears 42 = .ok (.iload_n 1, 1) := by decide +kernel
theorem dX6_clears_43 : decode cX6_clears 43 = .ok (.iload 7, 2) := by decide +kernel
theorem dX6_clears_45 : decode cX6_clears 45 = .ok (.ishr, 1) := by decide +kernel
theorem dX6_clears_46 : decode cX6_clears 46 = .ok (.iconst 1, 1) := by decide +kernel
theorem dX6_clears_47 : decode cX6_clears 47 = .ok (.iand, 1) := by decide +kernel
theorem dX6_clears_48 : decode cX6_clears 48 = .ok (.iconst 1, 1) := by decide +kernel
theorem dX6_clears_49 : decode cX6_clears 49 = .ok (.if_icmp .ne 32, 3) := by decide +kernel
theorem dX6_clears_52 : decode cX6_clears 52 = .ok (.aload_n 0, 1) := by decide +kernel
theorem dX6_clears_53 : decode cX6_clears 53 = .ok (.getfield 45, 3) := by decide +kernel
theorem dX6_clears_56 : decode cX6_clears 56 = .ok (.bipush 13, 2) := by decide +kernel
theorem dX6_clears_58 : decode cX6_clears 58 = .ok (.iload 4, 2) := by decide +kernel
theorem dX6_clears_60 : decode cX6_clears 60 = .ok (.imul, 1) := by decide +kernel
theorem dX6_clears_61 : decode cX6_clears 61 = .ok (.iload 5, 2) := by decide +kernel
theorem dX6_clears_63 : decode cX6_clears 63 = .ok (.iadd, 1) := by decide +kernel
theorem dX6_clears_64 : decode cX6_clears 64 = .ok (.aload_n 0, 1) := by decide +kernel
theorem dX6_clears_65 : decode cX6_clears 65 = .ok (.getfield 19, 3) := by decide +kernel
theorem dX6_clears_68 : decode cX6_clears 68 = .ok (.bipush 12, 2) := by decide +kernel
theorem dX6_clears_70 : decode cX6_clears 70 = .ok (.iload 6, 2) := by decide +kernel
theorem dX6_clears_72 : decode cX6_clears 72 = .ok (.imul, 1) := by decide +kernel
theorem dX6_clears_73 : decode cX6_clears 73 = .ok (.iload 7, 2) := by decide +kernel
theorem dX6_clears_75 : decode cX6_clears 75 = .ok (.iadd, 1) := by decide +kernel
theorem dX6_clears_76 : decode cX6_clears 76 = .ok (.iaload, 1) := by decide +kernel
theorem dX6_clears_77 : decode cX6_clears 77 = .ok (.iastore, 1) := by decide +kernel
theorem dX6_clears_78 : decode cX6_clears 78 = .ok (.iinc 5 1, 3) := by decide +kernel
theorem dX6_clears_81 : decode cX6_clears 81 = .ok (.iinc 7 1, 3) := by decide +kernel
theorem dX6_clears_84 : decode cX6_clears 84 = .ok (.goto (-51), 3) := by decide +kernel
theorem dX6_clears_87 : decode cX6_clears 87 = .ok (.aload_n 0, 1) := by decide +kernel
theorem dX6_clears_88 : decode cX6_clears 88 = .ok (.getfield 45, 3) := by decide +kernel
theorem dX6_clears_91 : decode cX6_clears 91 = .ok (.bipush 13, 2) := by decide +kernel
theorem dX6_clears_93 : decode cX6_clears 93 = .ok (.iload 4, 2) := by decide +kernel
theorem dX6_clears_95 : decode cX6_clears 95 = .ok (.imul, 1) := by decide +kernel
theorem dX6_clears_96 : decode cX6_clears 96 = .ok (.bipush 12, 2) := by decide +kernel
theorem dX6_clears_98 : decode cX6_clears 98 = .ok (.iadd, 1) := by decide +kernel
theorem dX6_clears_99 : decode cX6_clears 99 = .ok (.iload_n 3, 1) := by decide +kernel
theorem dX6_clears_100 : decode cX6_clears 100 = .ok (.ifCond .ge 7, 3) := by decide +kernel
theorem dX6_clears_103 : decode cX6_clears 103 = .ok (.iconst 0, 1) := by decide +kernel
theorem dX6_clears_104 : decode cX6_clears 104 = .ok (.goto 15, 3) := by decide +kernel
theorem dX6_clears_107 : decode cX6_clears 107 = .ok (.aload_n 0, 1) := by decide +kernel
theorem dX6_clears_108 : decode cX6_clears 108 = .ok (.getfield 26, 3) := by decide +kernel
theorem dX6_clears_111 : decode cX6_clears 111 = .ok (.bipush 6, 2) := by decide +kernel
theorem dX6_clears_113 : decode cX6_clears 113 = .ok (.iload_n 3, 1) := by decide +kernel
theorem dX6_clears_114 : decode cX6_clears 114 = .ok (.imul, 1) := by decide +kernel
theorem dX6_clears_115 : decode cX6_clears 115 = .ok (.iload 6, 2) := by decide +kernel
theorem dX6_clears_117 : decode cX6_clears 117 = .ok (.iadd, 1) := by decide +kernel
theorem dX6_clears_118 : decode cX6_clears 118 = .ok (.iaload, 1) := by decide +kernel
theorem dX6_clears_119 : decode cX6_clears 119 = .ok (.iastore, 1) := by decide +kernel
theorem dX6_clears_120 : decode cX6_clears 120 = .ok (.iinc 4 1, 3) := by decide +kernel
theorem dX6_clears_123 : decode cX6_clears 123 = .ok (.iinc 6 1, 3) := by decide +kernel
theorem dX6_clears_126 : decode cX6_clears 126 = .ok (.goto (-117), 3) := by decide +kernel
theorem dX6_clears_129 : decode cX6_clears 129 = .ok (.iload_n 1, 1) := by decide +kernel
theorem dX6_clears_130 : decode cX6_clears 130 = .ok (.invokestatic 81, 3) := by decide +kernel
theorem dX6_clears_133 : decode cX6_clears 133 = .ok (.istore 5, 2) := by decide +kernel
theorem dX6_clears_135 : decode cX6_clears 135 = .ok (.iconst 0, 1) := by decide +kernel
theorem dX6_clears_136 : decode cX6_clears 136 = .ok (.istore 6, 2) := by decide +kernel
theorem dX6_clears_138 : decode cX6_clears 138 = .ok (.iconst 0, 1) := by decide +kernel
theorem dX6_clears_139 : decode cX6_clears 139 = .ok (.istore 7, 2) := by decide +kernel
theorem dX6_clears_141 : decode cX6_clears 141 = .ok (.iload 7, 2) := by decide +kernel
theorem dX6_clears_143 : decode cX6_clears 143 = .ok (.iload 5, 2) := by decide +kernel
theorem dX6_clears_145 : decode cX6_clears 145 = .ok (.if_icmp .ge 146, 3) := by decide +kernel
theorem dX6_clears_148 : decode cX6_clears 148 = .ok (.iload 6, 2) := by decide +kernel
theorem dX6_clears_150 : decode cX6_clears 150 = .ok (.iload 4, 2) := by decide +kernel
theorem dX6_clears_152 : decode cX6_clears 152 = .ok (.if_icmp .ge 139, 3) := by decide +kernel
theorem dX6_clears_155 : decode cX6_clears 155 = .ok (.iload 6, 2) := by decide +kernel
theorem dX6_clears_157 : decode cX6_clears 157 = .ok (.istore 8, 2) := by decide +kernel
theorem dX6_clears_159 : decode cX6_clears 159 = .ok (.iload 8, 2) := by decide +kernel
theorem dX6_clears_161 : decode cX6_clears 161 = .ok (.iload 4, 2) := by decide +kernel
theorem dX6_clears_163 : decode cX6_clears 163 = .ok (.if_icmp .ge 25, 3) := by decide +kernel
theorem dX6_clears_166 : decode cX6_clears 166 = .ok (.aload_n 0, 1) := by decide +kernel
theorem dX6_clears_167 : decode cX6_clears 167 = .ok (.getfield 45, 3) := by decide +kernel
theorem dX6_clears_170 : decode cX6_clears 170 = .ok (.bipush 13, 2) := by decide +kernel
theorem dX6_clears_172 : decode cX6_clears 172 = .ok (.iload 8, 2) := by decide +kernel
theorem dX6_clears_174 : decode cX6_clears 174 = .ok (.imul, 1) := by decide +kernel
theorem dX6_clears_175 : decode cX6_clears 175 = .ok (.iload 7, 2) := by decide +kernel
theorem dX6_clears_177 : decode cX6_clears 177 = .ok (.iadd, 1) := by decide +kernel
theorem dX6_clears_178 : decode cX6_clears 178 = .ok (.iaload, 1) := by decide +kernel
theorem dX6_clears_179 : decode cX6_clears 179 = .ok (.ifCond .ne 9, 3) := by decide +kernel
theorem dX6_clears_182 : decode cX6_clears 182 = .ok (.iinc 8 1, 3) := by decide +kernel
theorem dX6_clears_185 : decode cX6_clears 185 = .ok (.goto (-26), 3) := by decide +kernel
theorem dX6_clears_188 : decode cX6_clears 188 = .ok (.iload 8, 2) := by decide +kernel
theorem dX6_clears_190 : decode cX6_clears 190 = .ok (.iload 4, 2) := by decide +kernel
theorem dX6_clears_192 : decode cX6_clears 192 = .ok (.if_icmp .ge 93, 3) := by decide +kernel
theorem dX6_clears_195 : decode cX6_clears 195 = .ok (.aload_n 0, 1) := by decide +kernel
theorem dX6_clears_196 : decode cX6_clears 196 = .ok (.iload 8, 2) := by decide +kernel
theorem dX6_clears_198 : decode cX6_clears 198 = .ok (.iload 6, 2) := by decide +kernel
theorem dX6_clears_200 : decode cX6_clears 200 = .ok (.invokevirtual 84, 3) := by decide +kernel
theorem dX6_clears_203 : decode cX6_clears 203 = .ok (.aload_n 0, 1) := by decide +kernel
theorem dX6_clears_204 : decode cX6_clears 204 = .ok (.aload_n 0, 1) := by decide +kernel
theorem dX6_clears_205 : decode cX6_clears 205 = .ok (.getfield 45, 3) := by decide +kernel
theorem dX6_clears_208 : decode cX6_clears 208 = .ok (.bipush 13, 2) := by decide +kernel
theorem dX6_clears_210 : decode cX6_clears 210 = .ok (.iload 6, 2) := by decide +kernel
theorem dX6_clears_212 : decode cX6_clears 212 = .ok (.imul, 1) := by decide +kernel
theorem dX6_clears_213 : decode cX6_clears 213 = .ok (.iload 7, 2) := by decide +kernel
theorem dX6_clears_215 : decode cX6_clears 215 = .ok (.iadd, 1) := by decide +kernel
theorem dX6_clears_216 : decode cX6_clears 216 = .ok (.iaload, 1) := by decide +kernel
theorem dX6_clears_217 : decode cX6_clears 217 = .ok (.invokevirtual 88, 3) := by decide +kernel
theorem dX6_clears_220 : decode cX6_clears 220 = .ok (.istore 9, 2) := by decide +kernel
theorem dX6_clears_222 : decode cX6_clears 222 = .ok (.iconst 0, 1) := by decide +kernel
theorem dX6_clears_223 : decode cX6_clears 223 = .ok (.istore 10, 2) := by decide +kernel
theorem dX6_clears_225 : decode cX6_clears 225 = .ok (.iload 10, 2) := by decide +kernel
theorem dX6_clears_227 : decode cX6_clears 227 = .ok (.bipush 13, 2) := by decide +kernel
theorem dX6_clears_229 : decode cX6_clears 229 = .ok (.if_icmp .ge 43, 3) := by decide +kernel
theorem dX6_clears_232 : decode cX6_clears 232 = .ok (.aload_n 0, 1) := by decide +kernel
theorem dX6_clears_233 : decode cX6_clears 233 = .ok (.getfield 45, 3) := by decide +kernel
theorem dX6_clears_236 : decode cX6_clears 236 = .ok (.bipush 13, 2) := by decide +kernel
theorem dX6_clears_238 : decode cX6_clears 238 = .ok (.iload 6, 2) := by decide +kernel
theorem dX6_clears_240 : decode cX6_clears 240 = .ok (.imul, 1) := by decide +kernel
theorem dX6_clears_241 : decode cX6_clears 241 = .ok (.iload 10, 2) := by decide +kernel
theorem dX6_clears_243 : decode cX6_clears 243 = .ok (.iadd, 1) := by decide +kernel
theorem dX6_clears_244 : decode cX6_clears 244 = .ok (.aload_n 0, 1) := by decide +kernel
theorem dX6_clears_245 : decode cX6_clears 245 = .ok (.getfield 45, 3) := by decide +kernel
theorem dX6_clears_248 : decode cX6_clears 248 = .ok (.bipush 13, 2) := by decide +kernel
theorem dX6_clears_250 : decode cX6_clears 250 = .ok (.iload 6, 2) := by decide +kernel
theorem dX6_clears_252 : decode cX6_clears 252 = .ok (.imul, 1) := by decide +kernel
theorem dX6_clears_253 : decode cX6_clears 253 = .ok (.iload 10, 2) := by decide +kernel
theorem dX6_clears_255 : decode cX6_clears 255 = .ok (.iadd, 1) := by decide +kernel
theorem dX6_clears_256 : decode cX6_clears 256 = .ok (.iaload, 1) := by decide +kernel
theorem dX6_clears_257 : decode cX6_clears 257 = .ok (.iload 9, 2) := by decide +kernel
theorem dX6_clears_259 : decode cX6_clears 259 = .ok (.imul, 1) := by decide +kernel
theorem dX6_clears_260 : decode cX6_clears 260 = .ok (.aload_n 0, 1) := by decide +kernel
theorem dX6_clears_261 : decode cX6_clears 261 = .ok (.getfield 7, 3) := by decide +kernel
theorem dX6_clears_264 : decode cX6_clears 264 = .ok (.irem, 1) := by decide +kernel
theorem dX6_clears_265 : decode cX6_clears 265 = .ok (.iastore, 1) := by decide +kernel
theorem dX6_clears_266 : decode cX6_clears 266 = .ok (.iinc 10 1, 3) := by decide +kernel
theorem dX6_clears_269 : decode cX6_clears 269 = .ok (.goto (-44), 3) := by decide +kernel
theorem dX6_clears_272 : decode cX6_clears 272 = .ok (.aload_n 0, 1) := by decide +kernel
theorem dX6_clears_273 : decode cX6_clears 273 = .ok (.iload 6, 2) := by decide +kernel
theorem dX6_clears_275 : decode cX6_clears 275 = .ok (.iload 7, 2) := by decide +kernel
theorem dX6_clears_277 : decode cX6_clears 277 = .ok (.iload 4, 2) := by decide +kernel
theorem dX6_clears_279 : decode cX6_clears 279 = .ok (.invokevirtual 91, 3) := by decide +kernel
theorem dX6_clears_282 : decode cX6_clears 282 = .ok (.iinc 6 1, 3) := by decide +kernel
theorem dX6_clears_285 : decode cX6_clears 285 = .ok (.iinc 7 1, 3) := by decide +kernel
theorem dX6_clears_288 : decode cX6_clears 288 = .ok (.goto (-147), 3) := by decide +kernel
theorem dX6_clears_291 : decode cX6_clears 291 = .ok (.iload 6, 2) := by decide +kernel
theorem dX6_clears_293 : decode cX6_clears 293 = .ok (.istore 7, 2) := by decide +kernel
theorem dX6_clears_295 : decode cX6_clears 295 = .ok (.iload 7, 2) := by decide +kernel
theorem dX6_clears_297 : decode cX6_clears 297 = .ok (.iload 4, 2) := by decide +kernel
theorem dX6_clears_299 : decode cX6_clears 299 = .ok (.if_icmp .ge 27, 3) := by decide +kernel
theorem dX6_clears_302 : decode cX6_clears 302 = .ok (.aload_n 0, 1) := by decide +kernel
theorem dX6_clears_303 : decode cX6_clears 303 = .ok (.getfield 45, 3) := by decide +kernel
theorem dX6_clears_306 : decode cX6_clears 306 = .ok (.bipush 13, 2) := by decide +kernel
theorem dX6_clears_308 : decode cX6_clears 308 = .ok (.iload 7, 2) := by decide +kernel
theorem dX6_clears_310 : decode cX6_clears 310 = .ok (.imul, 1) := by decide +kernel
theorem dX6_clears_311 : decode cX6_clears 311 = .ok (.bipush 12, 2) := by decide +kernel
theorem dX6_clears_313 : decode cX6_clears 313 = .ok (.iadd, 1) := by decide +kernel
theorem dX6_clears_314 : decode cX6_clears 314 = .ok (.iaload, 1) := by decide +kernel
theorem dX6_clears_315 : decode cX6_clears 315 = .ok (.ifCond .eq 5, 3) := by decide +kernel
theorem dX6_clears_318 : decode cX6_clears 318 = .ok (.iconst (-1), 1) := by decide +kernel
theorem dX6_clears_319 : decode cX6_clears 319 = .ok (.ireturn, 1) := by decide +kernel
theorem dX6_clears_320 : decode cX6_clears 320 = .ok (.iinc 7 1, 3) := by decide +kernel
theorem dX6_clears_323 : decode cX6_clears 323 = .ok (.goto (-28), 3) := by decide +kernel
theorem dX6_clears_326 : decode cX6_clears 326 = .ok (.iload 6, 2) := by decide +kernel
theorem dX6_clears_328 : decode cX6_clears 328 = .ok (.ireturn, 1) := by decide +kernel
theorem dX6_swaps_0 : decode cX6_swaps 0 = .ok (.iconst 0, 1) := by decide +kernel
theorem dX6_swaps_1 : decode cX6_swaps 1 = .ok (.istore_n 3, 1) := by decide +kernel
theorem dX6_swaps_2 : decode cX6_swaps 2 = .ok (.iload_n 3, 1) := by decide +kernel
theorem dX6_swaps_3 : decode cX6_swaps 3 = .ok (.bipush 13, 2) := by decide +kernel
theorem dX6_swaps_5 : decode cX6_swaps 5 = .ok (.if_icmp .ge 57, 3) := by decide +kernel
theorem dX6_swaps_8 : decode cX6_swaps 8 = .ok (.aload_n 0, 1) := by decide +kernel
theorem dX6_swaps_9 : decode cX6_swaps 9 = .ok (.getfield 45, 3) := by decide +kernel
theorem dX6_swaps_12 : decode cX6_swaps 12 = .ok (.bipush 13, 2) := by decide +kernel
theorem dX6_swaps_14 : decode cX6_swaps 14 = .ok (.iload_n 1, 1) := by decide +kernel
theorem dX6_swaps_15 : decode cX6_swaps 15 = .ok (.imul, 1) := by decide +kernel
theorem dX6_swaps_16 : decode cX6_swaps 16 = .ok (.iload_n 3, 1) := by decide +kernel
theorem dX6_swaps_17 : decode cX6_swaps 17 = .ok (.iadd, 1) := by decide +kernel
theorem dX6_swaps_18 : decode cX6_swaps 18 = .ok (.iaload, 1) := by decide +kernel
theorem dX6_swaps_19 : decode cX6_swaps 19 = .ok (.istore 4, 2) := by decide +kernel
theorem dX6_swaps_21 : decode cX6_swaps 21 = .ok (.aload_n 0, 1) := by decide +kernel
theorem dX6_swaps_22 : decode cX6_swaps 22 = .ok (.getfield 45, 3) := by decide +kernel
theorem dX6_swaps_25 : decode cX6_swaps 25 = .ok (.bipush 13, 2) := by decide +kernel
theorem dX6_swaps_27 : decode cX6_swaps 27 = .ok (.iload_n 1, 1) := by decide +kernel
theorem dX6_swaps_28 : decode cX6_swaps 28 = .ok (.imul, 1) := by decide +kernel
theorem dX6_swaps_29 : decode cX6_swaps 29 = .ok (.iload_n 3, 1) := by decide +kernel
theorem dX6_swaps_30 : decode cX6_swaps 30 = .ok (.iadd, 1) := by decide +kernel
theorem dX6_swaps_31 : decode cX6_swaps 31 = .ok (.aload_n 0, 1) := by decide +kernel
theorem dX6_swaps_32 : decode cX6_swaps 32 = .ok (.getfield 45, 3) := by decide +kernel
theorem dX6_swaps_35 : decode cX6_swaps 35 = .ok (.bipush 13, 2) := by decide +kernel
theorem dX6_swaps_37 : decode cX6_swaps 37 = .ok (.iload_n 2, 1) := by decide +kernel
theorem dX6_swaps_38 : decode cX6_swaps 38 = .ok (.imul, 1) := by decide +kernel
theorem dX6_swaps_39 : decode cX6_swaps 39 = .ok (.iload_n 3, 1) := by decide +kernel
theorem dX6_swaps_40 : decode cX6_swaps 40 = .ok (.iadd, 1) := by decide +kernel
theorem dX6_swaps_41 : decode cX6_swaps 41 = .ok (.iaload, 1) := by decide +kernel
theorem dX6_swaps_42 : decode cX6_swaps 42 = .ok (.iastore, 1) := by decide +kernel
theorem dX6_swaps_43 : decode cX6_swaps 43 = .ok (.aload_n 0, 1) := by decide +kernel
theorem dX6_swaps_44 : decode cX6_swaps 44 = .ok (.getfield 45, 3) := by decide +kernel
theorem dX6_swaps_47 : decode cX6_swaps 47 = .ok (.bipush 13, 2) := by decide +kernel
theorem dX6_swaps_49 : decode cX6_swaps 49 = .ok (.iload_n 2, 1) := by decide +kernel
theorem dX6_swaps_50 : decode cX6_swaps 50 = .ok (.imul, 1) := by decide +kernel
theorem dX6_swaps_51 : decode cX6_swaps 51 = .ok (.iload_n 3, 1) := by decide +kernel
theorem dX6_swaps_52 : decode cX6_swaps 52 = .ok (.iadd, 1) := by decide +kernel
theorem dX6_swaps_53 : decode cX6_swaps 53 = .ok (.iload 4, 2) := by decide +kernel
theorem dX6_swaps_55 : decode cX6_swaps 55 = .ok (.iastore, 1) := by decide +kernel
theorem dX6_swaps_56 : decode cX6_swaps 56 = .ok (.iinc 3 1, 3) := by decide +kernel
theorem dX6_swaps_59 : decode cX6_swaps 59 = .ok (.goto (-57), 3) := by decide +kernel
theorem dX6_swaps_62 : decode cX6_swaps 62 = .ok (.return_, 1) := by decide +kernel
set_option maxRecDepth 100000 in
theorem ggX6_takes_X6_by : GoodIn wsX6_takes wsX6_by := goodIn_r _ [6, 7, 8, 9, 10, 11, 12, 13, 14, 15, 16, 17, 18, 19, 20, 21, 22, 23, 24] rfl (by decide +kernel)
set_option maxRecDepth 100000 in
theorem gX6_takes_X6_by : GoodIn wsX6_takes (wsV RX6 77 RX6 yX6_by wsX6_by) := goodIn_app (goodIn_of _ (by decide +kernel)) ggX6_takes_X6_by
theorem dX6_takes_0 : decode cX6_takes 0 = .ok (.iconst 0, 1) := by decide +kernel
theorem dX6_takes_1 : decode cX6_takes 1 = .ok (.istore 4, 2) := by decide +kernel
theorem dX6_takes_3 : decode cX6_takes 3 = .ok (.iload 4, 2) := by decide +kernel
theorem dX6_takes_5 : decode cX6_takes 5 = .ok (.iload_n 3, 1) := by decide +kernel
theorem dX6_takes_6 : decode cX6_takes 6 = .ok (.if_icmp .ge 95, 3) := by decide +kernel
theorem dX6_takes_9 : decode cX6_takes 9 = .ok (.iload 4, 2) := by decide +kernel
theorem dX6_takes_11 : decode cX6_takes 11 = .ok (.iload_n 1, 1) := by decide +kernel
theorem dX6_takes_12 : decode cX6_takes 12 = .ok (.if_icmp .ne 7, 3) := by decide +kernel
theorem dX6_takes_15 : decode cX6_takes 15 = .ok (.iconst 0, 1) := by decide +kernel
theorem dX6_takes_16 : decode cX6_takes 16 = .ok (.goto 15, 3) := by decide +kernel
theorem dX6_takes_19 : decode cX6_takes 19 = .ok (.aload_n 0, 1) := by decide +kernel
theorem dX6_takes_20 : decode cX6_takes 20 = .ok (.getfield 45, 3) := by decide +kernel
theorem dX6_takes_23 : decode cX6_takes 23 = .ok (.bipush 13, 2) := by decide +kernel
theorem dX6_takes_25 : decode cX6_takes 25 = .ok (.iload 4, 2) := by decide +kernel
theorem dX6_takes_27 : decode cX6_takes 27 = .ok (.imul, 1) := by decide +kernel
theorem dX6_takes_28 : decode cX6_takes 28 = .ok (.iload_n 2, 1) := by decide +kernel
theorem dX6_takes_29 : decode cX6_takes 29 = .ok (.iadd, 1) := by decide +kernel
theorem dX6_takes_30 : decode cX6_takes 30 = .ok (.iaload, 1) := by decide +kernel
theorem dX6_takes_31 : decode cX6_takes 31 = .ok (.istore 5, 2) := by decide +kernel
theorem dX6_takes_33 : decode cX6_takes 33 = .ok (.iconst 0, 1) := by decide +kernel
theorem dX6_takes_34 : decode cX6_takes 34 = .ok (.istore 6, 2) := by decide +kernel
theorem dX6_takes_36 : decode cX6_takes 36 = .ok (.iload 6, 2) := by decide +kernel
theorem dX6_takes_38 : decode cX6_takes 38 = .ok (.bipush 13, 2) := by decide +kernel
theorem dX6_takes_40 : decode cX6_takes 40 = .ok (.if_icmp .ge 55, 3) := by decide +kernel
theorem dX6_takes_43 : decode cX6_takes 43 = .ok (.aload_n 0, 1) := by decide +kernel
theorem dX6_takes_44 : decode cX6_takes 44 = .ok (.getfield 45, 3) := by decide +kernel
theorem dX6_takes_47 : decode cX6_takes 47 = .ok (.bipush 13, 2) := by decide +kernel
theorem dX6_takes_49 : decode cX6_takes 49 = .ok (.iload 4, 2) := by decide +kernel
theorem dX6_takes_51 : decode cX6_takes 51 = .ok (.imul, 1) := by decide +kernel
theorem dX6_takes_52 : decode cX6_takes 52 = .ok (.iload 6, 2) := by decide +kernel
theorem dX6_takes_54 : decode cX6_takes 54 = .ok (.iadd, 1) := by decide +kernel
theorem dX6_takes_55 : decode cX6_takes 55 = .ok (.aload_n 0, 1) := by decide +kernel
theorem dX6_takes_56 : decode cX6_takes 56 = .ok (.aload_n 0, 1) := by decide +kernel
theorem dX6_takes_57 : decode cX6_takes 57 = .ok (.getfield 45, 3) := by decide +kernel
theorem dX6_takes_60 : decode cX6_takes 60 = .ok (.bipush 13, 2) := by decide +kernel
theorem dX6_takes_62 : decode cX6_takes 62 = .ok (.iload 4, 2) := by decide +kernel
theorem dX6_takes_64 : decode cX6_takes 64 = .ok (.imul, 1) := by decide +kernel
theorem dX6_takes_65 : decode cX6_takes 65 = .ok (.iload 6, 2) := by decide +kernel
theorem dX6_takes_67 : decode cX6_takes 67 = .ok (.iadd, 1) := by decide +kernel
theorem dX6_takes_68 : decode cX6_takes 68 = .ok (.iaload, 1) := by decide +kernel
theorem dX6_takes_69 : decode cX6_takes 69 = .ok (.iload 5, 2) := by decide +kernel
theorem dX6_takes_71 : decode cX6_takes 71 = .ok (.aload_n 0, 1) := by decide +kernel
theorem dX6_takes_72 : decode cX6_takes 72 = .ok (.getfield 45, 3) := by decide +kernel
theorem dX6_takes_75 : decode cX6_takes 75 = .ok (.bipush 13, 2) := by decide +kernel
theorem dX6_takes_77 : decode cX6_takes 77 = .ok (.iload_n 1, 1) := by decide +kernel
theorem dX6_takes_78 : decode cX6_takes 78 = .ok (.imul, 1) := by decide +kernel
theorem dX6_takes_79 : decode cX6_takes 79 = .ok (.iload 6, 2) := by decide +kernel
theorem dX6_takes_81 : decode cX6_takes 81 = .ok (.iadd, 1) := by decide +kernel
theorem dX6_takes_82 : decode cX6_takes 82 = .ok (.iaload, 1) := by decide +kernel
theorem dX6_takes_83 : decode cX6_takes 83 = .ok (.imul, 1) := by decide +kernel
theorem dX6_takes_84 : decode cX6_takes 84 = .ok (.isub, 1) := by decide +kernel
theorem dX6_takes_85 : decode cX6_takes 85 = .ok (.invokevirtual 77, 3) := by decide +kernel
theorem dX6_takes_88 : decode cX6_takes 88 = .ok (.iastore, 1) := by decide +kernel
theorem dX6_takes_89 : decode cX6_takes 89 = .ok (.iinc 6 1, 3) := by decide +kernel
theorem dX6_takes_92 : decode cX6_takes 92 = .ok (.goto (-56), 3) := by decide +kernel
theorem dX6_takes_95 : decode cX6_takes 95 = .ok (.iinc 4 1, 3) := by decide +kernel
theorem dX6_takes_98 : decode cX6_takes 98 = .ok (.goto (-95), 3) := by decide +kernel
theorem dX6_takes_101 : decode cX6_takes 101 = .ok (.return_, 1) := by decide +kernel
theorem dX6_bits_0 : decode cX6_bits 0 = .ok (.iconst 0, 1) := by decide +kernel
theorem dX6_bits_1 : decode cX6_bits 1 = .ok (.istore_n 1, 1) := by decide +kernel
theorem dX6_bits_2 : decode cX6_bits 2 = .ok (.iconst 0, 1) := by decide +kernel
theorem dX6_bits_3 : decode cX6_bits 3 = .ok (.istore_n 2, 1) := by decide +kernel
theorem dX6_bits_4 : decode cX6_bits 4 = .ok (.iload_n 2, 1) := by decide +kernel
theorem dX6_bits_5 : decode cX6_bits 5 = .ok (.bipush 12, 2) := by decide +kernel
theorem dX6_bits_7 : decode cX6_bits 7 = .ok (.if_icmp .ge 17, 3) := by decide +kernel
theorem dX6_bits_10 : decode cX6_bits 10 = .ok (.iload_n 1, 1) := by decide +kernel
theorem dX6_bits_11 : decode cX6_bits 11 = .ok (.iload_n 0, 1) := by decide +kernel
theorem dX6_bits_12 : decode cX6_bits 12 = .ok (.iload_n 2, 1) := by decide +kernel
theorem dX6_bits_13 : decode cX6_bits 13 = .ok (.ishr, 1) := by decide +kernel
theorem dX6_bits_14 : decode cX6_bits 14 = .ok (.iconst 1, 1) := by decide +kernel
theorem dX6_bits_15 : decode cX6_bits 15 = .ok (.iand, 1) := by decide +kernel
theorem dX6_bits_16 : decode cX6_bits 16 = .ok (.iadd, 1) := by decide +kernel
theorem dX6_bits_17 : decode cX6_bits 17 = .ok (.istore_n 1, 1) := by decide +kernel
theorem dX6_bits_18 : decode cX6_bits 18 = .ok (.iinc 2 1, 3) := by decide +kernel
theorem dX6_bits_21 : decode cX6_bits 21 = .ok (.goto (-17), 3) := by decide +kernel
theorem dX6_bits_24 : decode cX6_bits 24 = .ok (.iload_n 1, 1) := by decide +kernel
theorem dX6_bits_25 : decode cX6_bits 25 = .ok (.ireturn, 1) := by decide +kernel
set_option maxRecDepth 100000 in
theorem ggX6_rankOf_X6_clears : GoodIn wsX6_rankOf wsX6_clears := goodIn_r _ [5, 6, 7, 8, 9, 10, 11, 12, 13, 4, 14, 15, 16, 17, 18, 19, 20, 21, 22, 23, 24, 25, 26, 27, 28, 29, 30, 31, 32, 33, 34, 35, 36, 37, 38, 39, 40, 41, 42, 43, 44, 45, 46, 47] rfl (by decide +kernel)
set_option maxRecDepth 100000 in
theorem gX6_rankOf_X6_clears : GoodIn wsX6_rankOf (wsV RX6 95 RX6 yX6_clears wsX6_clears) := goodIn_app (goodIn_of _ (by decide +kernel)) ggX6_rankOf_X6_clears
theorem dX6_rankOf_0 : decode cX6_rankOf 0 = .ok (.aload_n 0, 1) := by decide +kernel
theorem dX6_rankOf_1 : decode cX6_rankOf 1 = .ok (.iload_n 1, 1) := by decide +kernel
theorem dX6_rankOf_2 : decode cX6_rankOf 2 = .ok (.iconst 0, 1) := by decide +kernel
theorem dX6_rankOf_3 : decode cX6_rankOf 3 = .ok (.iconst (-1), 1) := by decide +kernel
theorem dX6_rankOf_4 : decode cX6_rankOf 4 = .ok (.invokevirtual 95, 3) := by decide +kernel
theorem dX6_rankOf_7 : decode cX6_rankOf 7 = .ok (.ireturn, 1) := by decide +kernel
set_option maxRecDepth 100000 in
theorem ggX6_spark_X6_bits : GoodIn wsX6_spark wsX6_bits := goodIn_r _ [5] rfl (by decide +kernel)
set_option maxRecDepth 100000 in
theorem gX6_spark_X6_bits : GoodIn wsX6_spark (va_wsS RX6 81 yX6_bits wsX6_bits) := goodIn_app (goodIn_of _ (by decide +kernel)) ggX6_spark_X6_bits
set_option maxRecDepth 100000 in
theorem ggX6_spark_X6_rankOf : GoodIn wsX6_spark wsX6_rankOf := goodIn_r _ [9, 10, 11, 12, 4, 13, 14, 1, 15, 16, 17, 18, 2, 3, 5, 19, 20, 21, 22, 23, 24, 25, 26, 27, 28, 29, 30, 31, 32, 33, 34, 35, 36, 37, 38, 39, 40, 41, 42, 43, 44, 45, 46, 47, 48, 49, 50, 51] rfl (by decide +kernel)
set_option maxRecDepth 100000 in
theorem gX6_spark_X6_rankOf : GoodIn wsX6_spark (wsV RX6 99 RX6 yX6_rankOf wsX6_rankOf) := goodIn_app (goodIn_of _ (by decide +kernel)) ggX6_spark_X6_rankOf
theorem dX6_spark_0 : decode cX6_spark 0 = .ok (.aload_n 0, 1) := by decide +kernel
theorem dX6_spark_1 : decode cX6_spark 1 = .ok (.getfield 16, 3) := by decide +kernel
theorem dX6_spark_4 : decode cX6_spark 4 = .ok (.iconst 1, 1) := by decide +kernel
theorem dX6_spark_5 : decode cX6_spark 5 = .ok (.iadd, 1) := by decide +kernel
theorem dX6_spark_6 : decode cX6_spark 6 = .ok (.istore_n 1, 1) := by decide +kernel
theorem dX6_spark_7 : decode cX6_spark 7 = .ok (.iconst 1, 1) := by decide +kernel
theorem dX6_spark_8 : decode cX6_spark 8 = .ok (.istore_n 2, 1) := by decide +kernel
theorem dX6_spark_9 : decode cX6_spark 9 = .ok (.iload_n 2, 1) := by decide +kernel
theorem dX6_spark_10 : decode cX6_spark 10 = .ok (.iconst 1, 1) := by decide +kernel
theorem dX6_spark_11 : decode cX6_spark 11 = .ok (.aload_n 0, 1) := by decide +kernel
theorem dX6_spark_12 : decode cX6_spark 12 = .ok (.getfield 16, 3) := by decide +kernel
theorem dX6_spark_15 : decode cX6_spark 15 = .ok (.ishl, 1) := by decide +kernel
theorem dX6_spark_16 : decode cX6_spark 16 = .ok (.if_icmp .ge 38, 3) := by decide +kernel
theorem dX6_spark_19 : decode cX6_spark 19 = .ok (.iload_n 2, 1) := by decide +kernel
theorem dX6_spark_20 : decode cX6_spark 20 = .ok (.invokestatic 81, 3) := by decide +kernel
theorem dX6_spark_23 : decode cX6_spark 23 = .ok (.iload_n 1, 1) := by decide +kernel
theorem dX6_spark_24 : decode cX6_spark 24 = .ok (.if_icmp .ge 22, 3) := by decide +kernel
theorem dX6_spark_27 : decode cX6_spark 27 = .ok (.aload_n 0, 1) := by decide +kernel
theorem dX6_spark_28 : decode cX6_spark 28 = .ok (.iload_n 2, 1) := by decide +kernel
theorem dX6_spark_29 : decode cX6_spark 29 = .ok (.invokevirtual 99, 3) := by decide +kernel
theorem dX6_spark_32 : decode cX6_spark 32 = .ok (.iload_n 2, 1) := by decide +kernel
theorem dX6_spark_33 : decode cX6_spark 33 = .ok (.invokestatic 81, 3) := by decide +kernel
theorem dX6_spark_36 : decode cX6_spark 36 = .ok (.if_icmp .ge 10, 3) := by decide +kernel
theorem dX6_spark_39 : decode cX6_spark 39 = .ok (.iload_n 2, 1) := by decide +kernel
theorem dX6_spark_40 : decode cX6_spark 40 = .ok (.invokestatic 81, 3) := by decide +kernel
theorem dX6_spark_43 : decode cX6_spark 43 = .ok (.goto 4, 3) := by decide +kernel
theorem dX6_spark_46 : decode cX6_spark 46 = .ok (.iload_n 1, 1) := by decide +kernel
theorem dX6_spark_47 : decode cX6_spark 47 = .ok (.istore_n 1, 1) := by decide +kernel
theorem dX6_spark_48 : decode cX6_spark 48 = .ok (.iinc 2 1, 3) := by decide +kernel
theorem dX6_spark_51 : decode cX6_spark 51 = .ok (.goto (-42), 3) := by decide +kernel
theorem dX6_spark_54 : decode cX6_spark 54 = .ok (.iload_n 1, 1) := by decide +kernel
theorem dX6_spark_55 : decode cX6_spark 55 = .ok (.ireturn, 1) := by decide +kernel
theorem dX6_alike_0 : decode cX6_alike 0 = .ok (.iconst 0, 1) := by decide +kernel
theorem dX6_alike_1 : decode cX6_alike 1 = .ok (.istore_n 1, 1) := by decide +kernel
theorem dX6_alike_2 : decode cX6_alike 2 = .ok (.iconst 0, 1) := by decide +kernel
theorem dX6_alike_3 : decode cX6_alike 3 = .ok (.istore_n 2, 1) := by decide +kernel
theorem dX6_alike_4 : decode cX6_alike 4 = .ok (.iload_n 2, 1) := by decide +kernel
theorem dX6_alike_5 : decode cX6_alike 5 = .ok (.aload_n 0, 1) := by decide +kernel
theorem dX6_alike_6 : decode cX6_alike 6 = .ok (.getfield 16, 3) := by decide +kernel
theorem dX6_alike_9 : decode cX6_alike 9 = .ok (.if_icmp .ge 124, 3) := by decide +kernel
theorem dX6_alike_12 : decode cX6_alike 12 = .ok (.iload_n 2, 1) := by decide +kernel
theorem dX6_alike_13 : decode cX6_alike 13 = .ok (.iconst 1, 1) := by decide +kernel
theorem dX6_alike_14 : decode cX6_alike 14 = .ok (.iadd, 1) := by decide +kernel
theorem dX6_alike_15 : decode cX6_alike 15 = .ok (.istore_n 3, 1) := by decide +kernel
theorem dX6_alike_16 : decode cX6_alike 16 = .ok (.iload_n 3, 1) := by decide +kernel
theorem dX6_alike_17 : decode cX6_alike 17 = .ok (.aload_n 0, 1) := by decide +kernel
theorem dX6_alike_18 : decode cX6_alike 18 = .ok (.getfield 16, 3) := by decide +kernel
theorem dX6_alike_21 : decode cX6_alike 21 = .ok (.if_icmp .ge 106, 3) := by decide +kernel
theorem dX6_alike_24 : decode cX6_alike 24 = .ok (.iconst 1, 1) := by decide +kernel
theorem dX6_alike_25 : decode cX6_alike 25 = .ok (.istore 4, 2) := by decide +kernel
theorem dX6_alike_27 : decode cX6_alike 27 = .ok (.iload 4, 2) := by decide +kernel
theorem dX6_alike_29 : decode cX6_alike 29 = .ok (.aload_n 0, 1) := by decide +kernel
theorem dX6_alike_30 : decode cX6_alike 30 = .ok (.getfield 7, 3) := by decide +kernel
theorem dX6_alike_33 : decode cX6_alike 33 = .ok (.if_icmp .ge 88, 3) := by decide +kernel
theorem dX6_alike_36 : decode cX6_alike 36 = .ok (.iconst 0, 1) := by decide +kernel
theorem dX6_alike_37 : decode cX6_alike 37 = .ok (.istore 5, 2) := by decide +kernel
theorem dX6_alike_39 : decode cX6_alike 39 = .ok (.iconst 0, 1) := by decide +kernel
theorem dX6_alike_40 : decode cX6_alike 40 = .ok (.istore 6, 2) := by decide +kernel
theorem dX6_alike_42 : decode cX6_alike 42 = .ok (.iload 6, 2) := by decide +kernel
theorem dX6_alike_44 : decode cX6_alike 44 = .ok (.aload_n 0, 1) := by decide +kernel
theorem dX6_alike_45 : decode cX6_alike 45 = .ok (.getfield 13, 3) := by decide +kernel
theorem dX6_alike_48 : decode cX6_alike 48 = .ok (.if_icmp .ge 54, 3) := by decide +kernel
theorem dX6_alike_51 : decode cX6_alike 51 = .ok (.iload 5, 2) := by decide +kernel
theorem dX6_alike_53 : decode cX6_alike 53 = .ok (.aload_n 0, 1) := by decide +kernel
theorem dX6_alike_54 : decode cX6_alike 54 = .ok (.getfield 19, 3) := by decide +kernel
theorem dX6_alike_57 : decode cX6_alike 57 = .ok (.bipush 12, 2) := by decide +kernel
theorem dX6_alike_59 : decode cX6_alike 59 = .ok (.iload 6, 2) := by decide +kernel
theorem dX6_alike_61 : decode cX6_alike 61 = .ok (.imul, 1) := by decide +kernel
theorem dX6_alike_62 : decode cX6_alike 62 = .ok (.iload_n 2, 1) := by decide +kernel
theorem dX6_alike_63 : decode cX6_alike 63 = .ok (.iadd, 1) := by decide +kernel
theorem dX6_alike_64 : decode cX6_alike 64 = .ok (.iaload, 1) := by decide +kernel
theorem dX6_alike_65 : decode cX6_alike 65 = .ok (.iload 4, 2) := by decide +kernel
theorem dX6_alike_67 : decode cX6_alike 67 = .ok (.imul, 1) := by decide +kernel
theorem dX6_alike_68 : decode cX6_alike 68 = .ok (.aload_n 0, 1) := by decide +kernel
theorem dX6_alike_69 : decode cX6_alike 69 = .ok (.getfield 7, 3) := by decide +kernel
theorem dX6_alike_72 : decode cX6_alike 72 = .ok (.irem, 1) := by decide +kernel
theorem dX6_alike_73 : decode cX6_alike 73 = .ok (.aload_n 0, 1) := by decide +kernel
theorem dX6_alike_74 : decode cX6_alike 74 = .ok (.getfield 19, 3) := by decide +kernel
theorem dX6_alike_77 : decode cX6_alike 77 = .ok (.bipush 12, 2) := by decide +kernel
theorem dX6_alike_79 : decode cX6_alike 79 = .ok (.iload 6, 2) := by decide +kernel
theorem dX6_alike_81 : decode cX6_alike 81 = .ok (.imul, 1) := by decide +kernel
theorem dX6_alike_82 : decode cX6_alike 82 = .ok (.iload_n 3, 1) := by decide +kernel
theorem dX6_alike_83 : decode cX6_alike 83 = .ok (.iadd, 1) := by decide +kernel
theorem dX6_alike_84 : decode cX6_alike 84 = .ok (.iaload, 1) := by decide +kernel
theorem dX6_alike_85 : decode cX6_alike 85 = .ok (.if_icmp .ne 7, 3) := by decide +kernel
theorem dX6_alike_88 : decode cX6_alike 88 = .ok (.iconst 1, 1) := by decide +kernel
theorem dX6_alike_89 : decode cX6_alike 89 = .ok (.goto 4, 3) := by decide +kernel
theorem dX6_alike_92 : decode cX6_alike 92 = .ok (.iconst 0, 1) := by decide +kernel
theorem dX6_alike_93 : decode cX6_alike 93 = .ok (.iadd, 1) := by decide +kernel
theorem dX6_alike_94 : decode cX6_alike 94 = .ok (.istore 5, 2) := by decide +kernel
theorem dX6_alike_96 : decode cX6_alike 96 = .ok (.iinc 6 1, 3) := by decide +kernel
theorem dX6_alike_99 : decode cX6_alike 99 = .ok (.goto (-57), 3) := by decide +kernel
theorem dX6_alike_102 : decode cX6_alike 102 = .ok (.iload 5, 2) := by decide +kernel
theorem dX6_alike_104 : decode cX6_alike 104 = .ok (.iload_n 1, 1) := by decide +kernel
theorem dX6_alike_105 : decode cX6_alike 105 = .ok (.if_icmp .le 8, 3) := by decide +kernel
theorem dX6_alike_108 : decode cX6_alike 108 = .ok (.iload 5, 2) := by decide +kernel
theorem dX6_alike_110 : decode cX6_alike 110 = .ok (.goto 4, 3) := by decide +kernel
theorem dX6_alike_113 : decode cX6_alike 113 = .ok (.iload_n 1, 1) := by decide +kernel
theorem dX6_alike_114 : decode cX6_alike 114 = .ok (.istore_n 1, 1) := by decide +kernel
theorem dX6_alike_115 : decode cX6_alike 115 = .ok (.iinc 4 1, 3) := by decide +kernel
theorem dX6_alike_118 : decode cX6_alike 118 = .ok (.goto (-91), 3) := by decide +kernel
theorem dX6_alike_121 : decode cX6_alike 121 = .ok (.iinc 3 1, 3) := by decide +kernel
theorem dX6_alike_124 : decode cX6_alike 124 = .ok (.goto (-108), 3) := by decide +kernel
theorem dX6_alike_127 : decode cX6_alike 127 = .ok (.iinc 2 1, 3) := by decide +kernel
theorem dX6_alike_130 : decode cX6_alike 130 = .ok (.goto (-126), 3) := by decide +kernel
theorem dX6_alike_133 : decode cX6_alike 133 = .ok (.iload_n 1, 1) := by decide +kernel
theorem dX6_alike_134 : decode cX6_alike 134 = .ok (.ireturn, 1) := by decide +kernel
set_option maxRecDepth 100000 in
theorem ggX6_judge_X6_rankOf : GoodIn wsX6_judge wsX6_rankOf := goodIn_r _ [6, 7, 8, 9, 5, 10, 11, 1, 12, 13, 14, 15, 16, 17, 18, 19, 20, 21, 22, 23, 24, 25, 26, 27, 28, 29, 30, 31, 32, 33, 34, 43, 44, 45, 46, 47, 48, 49, 50, 51, 52, 53, 54, 55, 56, 57, 58, 59] rfl (by decide +kernel)
set_option maxRecDepth 100000 in
theorem gX6_judge_X6_rankOf : GoodIn wsX6_judge (wsV RX6 99 RX6 yX6_rankOf wsX6_rankOf) := goodIn_app (goodIn_of _ (by decide +kernel)) ggX6_judge_X6_rankOf
set_option maxRecDepth 100000 in
theorem ggX6_judge_X6_spark : GoodIn wsX6_judge wsX6_spark := goodIn_r _ [38, 1, 16, 17, 5, 18, 2, 3, 4, 6, 7, 8, 9, 10, 11, 12, 13, 14, 15, 19, 20, 21, 22, 23, 24, 25, 26, 27, 28, 29, 30, 31, 32, 33, 34, 43, 44, 45, 46, 47, 48, 49, 50, 51, 52, 53, 54, 55, 56, 57, 58, 59] rfl (by decide +kernel)
set_option maxRecDepth 100000 in
theorem gX6_judge_X6_spark : GoodIn wsX6_judge (wsV RX6 102 RX6 yX6_spark wsX6_spark) := goodIn_app (goodIn_of _ (by decide +kernel)) ggX6_judge_X6_spark
set_option maxRecDepth 100000 in
theorem ggX6_judge_X6_alike : GoodIn wsX6_judge wsX6_alike := goodIn_r _ [42, 1, 15, 11, 13, 43, 44, 45, 46, 47, 48, 49, 50, 51, 52, 53, 54, 55, 56, 57, 58, 59] rfl (by decide +kernel)
set_option maxRecDepth 100000 in
theorem gX6_judge_X6_alike : GoodIn wsX6_judge (wsV RX6 106 RX6 yX6_alike wsX6_alike) := goodIn_app (goodIn_of _ (by decide +kernel)) ggX6_judge_X6_alike
theorem dX6_judge_0 : decode cX6_judge 0 = .ok (.iload_n 1, 1) := by decide +kernel
theorem dX6_judge_1 : decode cX6_judge 1 = .ok (.tableswitch 63 0 3 #[31, 44, 49, 58], 31) := by decide +kernel
theorem dX6_judge_32 : decode cX6_judge 32 = .ok (.aload_n 0, 1) := by decide +kernel
theorem dX6_judge_33 : decode cX6_judge 33 = .ok (.iconst 1, 1) := by decide +kernel
theorem dX6_judge_34 : decode cX6_judge 34 = .ok (.aload_n 0, 1) := by decide +kernel
theorem dX6_judge_35 : decode cX6_judge 35 = .ok (.getfield 16, 3) := by decide +kernel
theorem dX6_judge_38 : decode cX6_judge 38 = .ok (.ishl, 1) := by decide +kernel
theorem dX6_judge_39 : decode cX6_judge 39 = .ok (.iconst 1, 1) := by decide +kernel
theorem dX6_judge_40 : decode cX6_judge 40 = .ok (.isub, 1) := by decide +kernel
theorem dX6_judge_41 : decode cX6_judge 41 = .ok (.invokevirtual 99, 3) := by decide +kernel
theorem dX6_judge_44 : decode cX6_judge 44 = .ok (.ireturn, 1) := by decide +kernel
theorem dX6_judge_45 : decode cX6_judge 45 = .ok (.aload_n 0, 1) := by decide +kernel
theorem dX6_judge_46 : decode cX6_judge 46 = .ok (.invokevirtual 102, 3) := by decide +kernel
theorem dX6_judge_49 : decode cX6_judge 49 = .ok (.ireturn, 1) := by decide +kernel
theorem dX6_judge_50 : decode cX6_judge 50 = .ok (.aload_n 0, 1) := by decide +kernel
theorem dX6_judge_51 : decode cX6_judge 51 = .ok (.invokevirtual 102, 3) := by decide +kernel
theorem dX6_judge_54 : decode cX6_judge 54 = .ok (.iconst 1, 1) := by decide +kernel
theorem dX6_judge_55 : decode cX6_judge 55 = .ok (.isub, 1) := by decide +kernel
theorem dX6_judge_56 : decode cX6_judge 56 = .ok (.iconst 2, 1) := by decide +kernel
theorem dX6_judge_57 : decode cX6_judge 57 = .ok (.idiv, 1) := by decide +kernel
theorem dX6_judge_58 : decode cX6_judge 58 = .ok (.ireturn, 1) := by decide +kernel
theorem dX6_judge_59 : decode cX6_judge 59 = .ok (.aload_n 0, 1) := by decide +kernel
theorem dX6_judge_60 : decode cX6_judge 60 = .ok (.invokevirtual 106, 3) := by decide +kernel
theorem dX6_judge_63 : decode cX6_judge 63 = .ok (.ireturn, 1) := by decide +kernel
theorem dX6_judge_64 : decode cX6_judge 64 = .ok (.iconst (-1), 1) := by decide +kernel
theorem dX6_judge_65 : decode cX6_judge 65 = .ok (.ireturn, 1) := by decide +kernel
set_option maxRecDepth 100000 in
theorem ggX6_isSix_X6_in : GoodIn wsX6_isSix wsX6_in := goodIn_r _ [5] rfl (by decide +kernel)
set_option maxRecDepth 100000 in
theorem gX6_isSix_X6_in : GoodIn wsX6_isSix (va_wsS RX6 61 yX6_in wsX6_in) := goodIn_app (goodIn_of _ (by decide +kernel)) ggX6_isSix_X6_in
theorem dX6_isSix_0 : decode cX6_isSix 0 = .ok (.iload_n 0, 1) := by decide +kernel
theorem dX6_isSix_1 : decode cX6_isSix 1 = .ok (.i2l, 1) := by decide +kernel
theorem dX6_isSix_2 : decode cX6_isSix 2 = .ok (.lconst 0, 1) := by decide +kernel
theorem dX6_isSix_3 : decode cX6_isSix 3 = .ok (.ldc2_w 109, 3) := by decide +kernel
theorem dX6_isSix_6 : decode cX6_isSix 6 = .ok (.invokestatic 61, 3) := by decide +kernel
theorem dX6_isSix_9 : decode cX6_isSix 9 = .ok (.ireturn, 1) := by decide +kernel
theorem dX6_weight_0 : decode cX6_weight 0 = .ok (.iconst 0, 1) := by decide +kernel
theorem dX6_weight_1 : decode cX6_weight 1 = .ok (.istore 4, 2) := by decide +kernel
theorem dX6_weight_3 : decode cX6_weight 3 = .ok (.iconst 0, 1) := by decide +kernel
theorem dX6_weight_4 : decode cX6_weight 4 = .ok (.istore 5, 2) := by decide +kernel
theorem dX6_weight_6 : decode cX6_weight 6 = .ok (.iload 5, 2) := by decide +kernel
theorem dX6_weight_8 : decode cX6_weight 8 = .ok (.iload_n 3, 1) := by decide +kernel
theorem dX6_weight_9 : decode cX6_weight 9 = .ok (.if_icmp .ge 28, 3) := by decide +kernel
theorem dX6_weight_12 : decode cX6_weight 12 = .ok (.iload 4, 2) := by decide +kernel
theorem dX6_weight_14 : decode cX6_weight 14 = .ok (.aload_n 1, 1) := by decide +kernel
theorem dX6_weight_15 : decode cX6_weight 15 = .ok (.iload_n 2, 1) := by decide +kernel
theorem dX6_weight_16 : decode cX6_weight 16 = .ok (.iload 5, 2) := by decide +kernel
theorem dX6_weight_18 : decode cX6_weight 18 = .ok (.iadd, 1) := by decide +kernel
theorem dX6_weight_19 : decode cX6_weight 19 = .ok (.iaload, 1) := by decide +kernel
theorem dX6_weight_20 : decode cX6_weight 20 = .ok (.ifCond .ne 7, 3) := by decide +kernel
theorem dX6_weight_23 : decode cX6_weight 23 = .ok (.iconst 0, 1) := by decide +kernel
theorem dX6_weight_24 : decode cX6_weight 24 = .ok (.goto 4, 3) := by decide +kernel
theorem dX6_weight_27 : decode cX6_weight 27 = .ok (.iconst 1, 1) := by decide +kernel
theorem dX6_weight_28 : decode cX6_weight 28 = .ok (.iadd, 1) := by decide +kernel
theorem dX6_weight_29 : decode cX6_weight 29 = .ok (.istore 4, 2) := by decide +kernel
theorem dX6_weight_31 : decode cX6_weight 31 = .ok (.iinc 5 1, 3) := by decide +kernel
theorem dX6_weight_34 : decode cX6_weight 34 = .ok (.goto (-28), 3) := by decide +kernel
theorem dX6_weight_37 : decode cX6_weight 37 = .ok (.iload 4, 2) := by decide +kernel
theorem dX6_weight_39 : decode cX6_weight 39 = .ok (.ireturn, 1) := by decide +kernel
set_option maxRecDepth 100000 in
theorem ggX6_put_X6_isSix : GoodIn wsX6_put wsX6_isSix := goodIn_r _ [6, 7, 8, 9, 5, 10] rfl (by decide +kernel)
set_option maxRecDepth 100000 in
theorem gX6_put_X6_isSix : GoodIn wsX6_put (va_wsS RX6 111 yX6_isSix wsX6_isSix) := goodIn_app (goodIn_of _ (by decide +kernel)) ggX6_put_X6_isSix
set_option maxRecDepth 100000 in
theorem ggX6_put_X6_in : GoodIn wsX6_put wsX6_in := goodIn_r _ [10] rfl (by decide +kernel)
set_option maxRecDepth 100000 in
theorem gX6_put_X6_in : GoodIn wsX6_put (va_wsS RX6 61 yX6_in wsX6_in) := goodIn_app (goodIn_of _ (by decide +kernel)) ggX6_put_X6_in
set_option maxRecDepth 100000 in
theorem ggX6_put_X6_by : GoodIn wsX6_put wsX6_by := goodIn_r _ [14, 15, 20, 21, 22, 23, 24, 25, 26, 27, 28, 29, 30, 31, 32, 33, 34, 35, 36] rfl (by decide +kernel)
set_option maxRecDepth 100000 in
theorem gX6_put_X6_by : GoodIn wsX6_put (wsV RX6 77 RX6 yX6_by wsX6_by) := goodIn_app (goodIn_of _ (by decide +kernel)) ggX6_put_X6_by
set_option maxRecDepth 100000 in
theorem ggX6_put_X6_weight : GoodIn wsX6_put wsX6_weight := goodIn_r _ [19] rfl (by decide +kernel)
set_option maxRecDepth 100000 in
theorem gX6_put_X6_weight : GoodIn wsX6_put (wsV RX6 114 RX6 yX6_weight wsX6_weight) := goodIn_app (goodIn_of _ (by decide +kernel)) ggX6_put_X6_weight
theorem dX6_put_0 : decode cX6_put 0 = .ok (.iload_n 1, 1) := by decide +kernel
theorem dX6_put_1 : decode cX6_put 1 = .ok (.invokestatic 111, 3) := by decide +kernel
theorem dX6_put_4 : decode cX6_put 4 = .ok (.ifCond .eq 19, 3) := by decide +kernel
theorem dX6_put_7 : decode cX6_put 7 = .ok (.iload_n 2, 1) := by decide +kernel
theorem dX6_put_8 : decode cX6_put 8 = .ok (.i2l, 1) := by decide +kernel
theorem dX6_put_9 : decode cX6_put 9 = .ok (.lconst 0, 1) := by decide +kernel
theorem dX6_put_10 : decode cX6_put 10 = .ok (.aload_n 0, 1) := by decide +kernel
theorem dX6_put_11 : decode cX6_put 11 = .ok (.getfield 16, 3) := by decide +kernel
theorem dX6_put_14 : decode cX6_put 14 = .ok (.iconst 1, 1) := by decide +kernel
theorem dX6_put_15 : decode cX6_put 15 = .ok (.isub, 1) := by decide +kernel
theorem dX6_put_16 : decode cX6_put 16 = .ok (.i2l, 1) := by decide +kernel
theorem dX6_put_17 : decode cX6_put 17 = .ok (.invokestatic 61, 3) := by decide +kernel
theorem dX6_put_20 : decode cX6_put 20 = .ok (.ifCond .ne 5, 3) := by decide +kernel
theorem dX6_put_23 : decode cX6_put 23 = .ok (.iconst (-1), 1) := by decide +kernel
theorem dX6_put_24 : decode cX6_put 24 = .ok (.ireturn, 1) := by decide +kernel
theorem dX6_put_25 : decode cX6_put 25 = .ok (.aload_n 0, 1) := by decide +kernel
theorem dX6_put_26 : decode cX6_put 26 = .ok (.getfield 23, 3) := by decide +kernel
theorem dX6_put_29 : decode cX6_put 29 = .ok (.bipush 12, 2) := by decide +kernel
theorem dX6_put_31 : decode cX6_put 31 = .ok (.iload_n 1, 1) := by decide +kernel
theorem dX6_put_32 : decode cX6_put 32 = .ok (.imul, 1) := by decide +kernel
theorem dX6_put_33 : decode cX6_put 33 = .ok (.iload_n 2, 1) := by decide +kernel
theorem dX6_put_34 : decode cX6_put 34 = .ok (.iadd, 1) := by decide +kernel
theorem dX6_put_35 : decode cX6_put 35 = .ok (.aload_n 0, 1) := by decide +kernel
theorem dX6_put_36 : decode cX6_put 36 = .ok (.iload_n 3, 1) := by decide +kernel
theorem dX6_put_37 : decode cX6_put 37 = .ok (.invokevirtual 77, 3) := by decide +kernel
theorem dX6_put_40 : decode cX6_put 40 = .ok (.iastore, 1) := by decide +kernel
theorem dX6_put_41 : decode cX6_put 41 = .ok (.aload_n 0, 1) := by decide +kernel
theorem dX6_put_42 : decode cX6_put 42 = .ok (.aload_n 0, 1) := by decide +kernel
theorem dX6_put_43 : decode cX6_put 43 = .ok (.getfield 23, 3) := by decide +kernel
theorem dX6_put_46 : decode cX6_put 46 = .ok (.bipush 12, 2) := by decide +kernel
theorem dX6_put_48 : decode cX6_put 48 = .ok (.iload_n 1, 1) := by decide +kernel
theorem dX6_put_49 : decode cX6_put 49 = .ok (.imul, 1) := by decide +kernel
theorem dX6_put_50 : decode cX6_put 50 = .ok (.aload_n 0, 1) := by decide +kernel
theorem dX6_put_51 : decode cX6_put 51 = .ok (.getfield 16, 3) := by decide +kernel
theorem dX6_put_54 : decode cX6_put 54 = .ok (.invokevirtual 114, 3) := by decide +kernel
theorem dX6_put_57 : decode cX6_put 57 = .ok (.ireturn, 1) := by decide +kernel
set_option maxRecDepth 100000 in
theorem ggX6_row_X6_isSix : GoodIn wsX6_row wsX6_isSix := goodIn_r _ [7, 8, 9, 10, 6, 11] rfl (by decide +kernel)
set_option maxRecDepth 100000 in
theorem gX6_row_X6_isSix : GoodIn wsX6_row (va_wsS RX6 111 yX6_isSix wsX6_isSix) := goodIn_app (goodIn_of _ (by decide +kernel)) ggX6_row_X6_isSix
set_option maxRecDepth 100000 in
theorem ggX6_row_X6_in : GoodIn wsX6_row wsX6_in := goodIn_r _ [11] rfl (by decide +kernel)
set_option maxRecDepth 100000 in
theorem gX6_row_X6_in : GoodIn wsX6_row (va_wsS RX6 61 yX6_in wsX6_in) := goodIn_app (goodIn_of _ (by decide +kernel)) ggX6_row_X6_in
set_option maxRecDepth 100000 in
theorem ggX6_row_X6_weight : GoodIn wsX6_row wsX6_weight := goodIn_r _ [15] rfl (by decide +kernel)
set_option maxRecDepth 100000 in
theorem gX6_row_X6_weight : GoodIn wsX6_row (wsV RX6 114 RX6 yX6_weight wsX6_weight) := goodIn_app (goodIn_of _ (by decide +kernel)) ggX6_row_X6_weight
theorem dX6_row_0 : decode cX6_row 0 = .ok (.iload_n 1, 1) := by decide +kernel
theorem dX6_row_1 : decode cX6_row 1 = .ok (.invokestatic 111, 3) := by decide +kernel
theorem dX6_row_4 : decode cX6_row 4 = .ok (.ifCond .eq 21, 3) := by decide +kernel
theorem dX6_row_7 : decode cX6_row 7 = .ok (.iload_n 2, 1) := by decide +kernel
theorem dX6_row_8 : decode cX6_row 8 = .ok (.i2l, 1) := by decide +kernel
theorem dX6_row_9 : decode cX6_row 9 = .ok (.ldc2_w 118, 3) := by decide +kernel
theorem dX6_row_12 : decode cX6_row 12 = .ok (.aload_n 0, 1) := by decide +kernel
theorem dX6_row_13 : decode cX6_row 13 = .ok (.getfield 16, 3) := by decide +kernel
theorem dX6_row_16 : decode cX6_row 16 = .ok (.iconst 1, 1) := by decide +kernel
theorem dX6_row_17 : decode cX6_row 17 = .ok (.isub, 1) := by decide +kernel
theorem dX6_row_18 : decode cX6_row 18 = .ok (.i2l, 1) := by decide +kernel
theorem dX6_row_19 : decode cX6_row 19 = .ok (.invokestatic 61, 3) := by decide +kernel
theorem dX6_row_22 : decode cX6_row 22 = .ok (.ifCond .ne 5, 3) := by decide +kernel
theorem dX6_row_25 : decode cX6_row 25 = .ok (.iconst (-1), 1) := by decide +kernel
theorem dX6_row_26 : decode cX6_row 26 = .ok (.ireturn, 1) := by decide +kernel
theorem dX6_row_27 : decode cX6_row 27 = .ok (.iload_n 2, 1) := by decide +kernel
theorem dX6_row_28 : decode cX6_row 28 = .ok (.ifCond .ge 22, 3) := by decide +kernel
theorem dX6_row_31 : decode cX6_row 31 = .ok (.aload_n 0, 1) := by decide +kernel
theorem dX6_row_32 : decode cX6_row 32 = .ok (.aload_n 0, 1) := by decide +kernel
theorem dX6_row_33 : decode cX6_row 33 = .ok (.getfield 23, 3) := by decide +kernel
theorem dX6_row_36 : decode cX6_row 36 = .ok (.bipush 12, 2) := by decide +kernel
theorem dX6_row_38 : decode cX6_row 38 = .ok (.iload_n 1, 1) := by decide +kernel
theorem dX6_row_39 : decode cX6_row 39 = .ok (.imul, 1) := by decide +kernel
theorem dX6_row_40 : decode cX6_row 40 = .ok (.aload_n 0, 1) := by decide +kernel
theorem dX6_row_41 : decode cX6_row 41 = .ok (.getfield 16, 3) := by decide +kernel
theorem dX6_row_44 : decode cX6_row 44 = .ok (.invokevirtual 114, 3) := by decide +kernel
theorem dX6_row_47 : decode cX6_row 47 = .ok (.goto 14, 3) := by decide +kernel
theorem dX6_row_50 : decode cX6_row 50 = .ok (.aload_n 0, 1) := by decide +kernel
theorem dX6_row_51 : decode cX6_row 51 = .ok (.getfield 23, 3) := by decide +kernel
theorem dX6_row_54 : decode cX6_row 54 = .ok (.bipush 12, 2) := by decide +kernel
theorem dX6_row_56 : decode cX6_row 56 = .ok (.iload_n 1, 1) := by decide +kernel
theorem dX6_row_57 : decode cX6_row 57 = .ok (.imul, 1) := by decide +kernel
theorem dX6_row_58 : decode cX6_row 58 = .ok (.iload_n 2, 1) := by decide +kernel
theorem dX6_row_59 : decode cX6_row 59 = .ok (.iadd, 1) := by decide +kernel
theorem dX6_row_60 : decode cX6_row 60 = .ok (.iaload, 1) := by decide +kernel
theorem dX6_row_61 : decode cX6_row 61 = .ok (.ireturn, 1) := by decide +kernel
set_option maxRecDepth 100000 in
theorem ggX6_sum_X6_isSix : GoodIn wsX6_sum wsX6_isSix := goodIn_r _ [6, 7, 8, 9, 5, 10] rfl (by decide +kernel)
set_option maxRecDepth 100000 in
theorem gX6_sum_X6_isSix : GoodIn wsX6_sum (va_wsS RX6 111 yX6_isSix wsX6_isSix) := goodIn_app (goodIn_of _ (by decide +kernel)) ggX6_sum_X6_isSix
set_option maxRecDepth 100000 in
theorem ggX6_sum_X6_in : GoodIn wsX6_sum wsX6_in := goodIn_r _ [10] rfl (by decide +kernel)
set_option maxRecDepth 100000 in
theorem gX6_sum_X6_in : GoodIn wsX6_sum (va_wsS RX6 61 yX6_in wsX6_in) := goodIn_app (goodIn_of _ (by decide +kernel)) ggX6_sum_X6_in
set_option maxRecDepth 100000 in
theorem ggX6_sum_X6_by : GoodIn wsX6_sum wsX6_by := goodIn_r _ [14, 15, 20, 21, 22, 23, 24, 25, 26, 27, 28, 29, 30, 31, 32, 33, 34, 35, 36] rfl (by decide +kernel)
set_option maxRecDepth 100000 in
theorem gX6_sum_X6_by : GoodIn wsX6_sum (wsV RX6 77 RX6 yX6_by wsX6_by) := goodIn_app (goodIn_of _ (by decide +kernel)) ggX6_sum_X6_by
set_option maxRecDepth 100000 in
theorem ggX6_sum_X6_weight : GoodIn wsX6_sum wsX6_weight := goodIn_r _ [19] rfl (by decide +kernel)
set_option maxRecDepth 100000 in
theorem gX6_sum_X6_weight : GoodIn wsX6_sum (wsV RX6 114 RX6 yX6_weight wsX6_weight) := goodIn_app (goodIn_of _ (by decide +kernel)) ggX6_sum_X6_weight
theorem dX6_sum_0 : decode cX6_sum 0 = .ok (.iload_n 1, 1) := by decide +kernel
theorem dX6_sum_1 : decode cX6_sum 1 = .ok (.invokestatic 111, 3) := by decide +kernel
theorem dX6_sum_4 : decode cX6_sum 4 = .ok (.ifCond .eq 19, 3) := by decide +kernel
theorem dX6_sum_7 : decode cX6_sum 7 = .ok (.iload_n 2, 1) := by decide +kernel
theorem dX6_sum_8 : decode cX6_sum 8 = .ok (.i2l, 1) := by decide +kernel
theorem dX6_sum_9 : decode cX6_sum 9 = .ok (.lconst 0, 1) := by decide +kernel
theorem dX6_sum_10 : decode cX6_sum 10 = .ok (.aload_n 0, 1) := by decide +kernel
theorem dX6_sum_11 : decode cX6_sum 11 = .ok (.getfield 13, 3) := by decide +kernel
theorem dX6_sum_14 : decode cX6_sum 14 = .ok (.iconst 1, 1) := by decide +kernel
theorem dX6_sum_15 : decode cX6_sum 15 = .ok (.isub, 1) := by decide +kernel
theorem dX6_sum_16 : decode cX6_sum 16 = .ok (.i2l, 1) := by decide +kernel
theorem dX6_sum_17 : decode cX6_sum 17 = .ok (.invokestatic 61, 3) := by decide +kernel
theorem dX6_sum_20 : decode cX6_sum 20 = .ok (.ifCond .ne 5, 3) := by decide +kernel
theorem dX6_sum_23 : decode cX6_sum 23 = .ok (.iconst (-1), 1) := by decide +kernel
theorem dX6_sum_24 : decode cX6_sum 24 = .ok (.ireturn, 1) := by decide +kernel
theorem dX6_sum_25 : decode cX6_sum 25 = .ok (.aload_n 0, 1) := by decide +kernel
theorem dX6_sum_26 : decode cX6_sum 26 = .ok (.getfield 26, 3) := by decide +kernel
theorem dX6_sum_29 : decode cX6_sum 29 = .ok (.bipush 6, 2) := by decide +kernel
theorem dX6_sum_31 : decode cX6_sum 31 = .ok (.iload_n 1, 1) := by decide +kernel
theorem dX6_sum_32 : decode cX6_sum 32 = .ok (.imul, 1) := by decide +kernel
theorem dX6_sum_33 : decode cX6_sum 33 = .ok (.iload_n 2, 1) := by decide +kernel
theorem dX6_sum_34 : decode cX6_sum 34 = .ok (.iadd, 1) := by decide +kernel
theorem dX6_sum_35 : decode cX6_sum 35 = .ok (.aload_n 0, 1) := by decide +kernel
theorem dX6_sum_36 : decode cX6_sum 36 = .ok (.iload_n 3, 1) := by decide +kernel
theorem dX6_sum_37 : decode cX6_sum 37 = .ok (.invokevirtual 77, 3) := by decide +kernel
theorem dX6_sum_40 : decode cX6_sum 40 = .ok (.iastore, 1) := by decide +kernel
theorem dX6_sum_41 : decode cX6_sum 41 = .ok (.aload_n 0, 1) := by decide +kernel
theorem dX6_sum_42 : decode cX6_sum 42 = .ok (.aload_n 0, 1) := by decide +kernel
theorem dX6_sum_43 : decode cX6_sum 43 = .ok (.getfield 26, 3) := by decide +kernel
theorem dX6_sum_46 : decode cX6_sum 46 = .ok (.bipush 6, 2) := by decide +kernel
theorem dX6_sum_48 : decode cX6_sum 48 = .ok (.iload_n 1, 1) := by decide +kernel
theorem dX6_sum_49 : decode cX6_sum 49 = .ok (.imul, 1) := by decide +kernel
theorem dX6_sum_50 : decode cX6_sum 50 = .ok (.aload_n 0, 1) := by decide +kernel
theorem dX6_sum_51 : decode cX6_sum 51 = .ok (.getfield 13, 3) := by decide +kernel
theorem dX6_sum_54 : decode cX6_sum 54 = .ok (.invokevirtual 114, 3) := by decide +kernel
theorem dX6_sum_57 : decode cX6_sum 57 = .ok (.ireturn, 1) := by decide +kernel
set_option maxRecDepth 100000 in
theorem ggX6_told_X6_isSix : GoodIn wsX6_told wsX6_isSix := goodIn_r _ [7, 8, 9, 10, 6, 11] rfl (by decide +kernel)
set_option maxRecDepth 100000 in
theorem gX6_told_X6_isSix : GoodIn wsX6_told (va_wsS RX6 111 yX6_isSix wsX6_isSix) := goodIn_app (goodIn_of _ (by decide +kernel)) ggX6_told_X6_isSix
set_option maxRecDepth 100000 in
theorem ggX6_told_X6_in : GoodIn wsX6_told wsX6_in := goodIn_r _ [11] rfl (by decide +kernel)
set_option maxRecDepth 100000 in
theorem gX6_told_X6_in : GoodIn wsX6_told (va_wsS RX6 61 yX6_in wsX6_in) := goodIn_app (goodIn_of _ (by decide +kernel)) ggX6_told_X6_in
set_option maxRecDepth 100000 in
theorem ggX6_told_X6_weight : GoodIn wsX6_told wsX6_weight := goodIn_r _ [15] rfl (by decide +kernel)
set_option maxRecDepth 100000 in
theorem gX6_told_X6_weight : GoodIn wsX6_told (wsV RX6 114 RX6 yX6_weight wsX6_weight) := goodIn_app (goodIn_of _ (by decide +kernel)) ggX6_told_X6_weight
theorem dX6_told_0 : decode cX6_told 0 = .ok (.iload_n 1, 1) := by decide +kernel
theorem dX6_told_1 : decode cX6_told 1 = .ok (.invokestatic 111, 3) := by decide +kernel
theorem dX6_told_4 : decode cX6_told 4 = .ok (.ifCond .eq 21, 3) := by decide +kernel
theorem dX6_told_7 : decode cX6_told 7 = .ok (.iload_n 2, 1) := by decide +kernel
theorem dX6_told_8 : decode cX6_told 8 = .ok (.i2l, 1) := by decide +kernel
theorem dX6_told_9 : decode cX6_told 9 = .ok (.ldc2_w 118, 3) := by decide +kernel
theorem dX6_told_12 : decode cX6_told 12 = .ok (.aload_n 0, 1) := by decide +kernel
theorem dX6_told_13 : decode cX6_told 13 = .ok (.getfield 13, 3) := by decide +kernel
theorem dX6_told_16 : decode cX6_told 16 = .ok (.iconst 1, 1) := by decide +kernel
theorem dX6_told_17 : decode cX6_told 17 = .ok (.isub, 1) := by decide +kernel
theorem dX6_told_18 : decode cX6_told 18 = .ok (.i2l, 1) := by decide +kernel
theorem dX6_told_19 : decode cX6_told 19 = .ok (.invokestatic 61, 3) := by decide +kernel
theorem dX6_told_22 : decode cX6_told 22 = .ok (.ifCond .ne 5, 3) := by decide +kernel
theorem dX6_told_25 : decode cX6_told 25 = .ok (.iconst (-1), 1) := by decide +kernel
theorem dX6_told_26 : decode cX6_told 26 = .ok (.ireturn, 1) := by decide +kernel
theorem dX6_told_27 : decode cX6_told 27 = .ok (.iload_n 2, 1) := by decide +kernel
theorem dX6_told_28 : decode cX6_told 28 = .ok (.ifCond .ge 22, 3) := by decide +kernel
theorem dX6_told_31 : decode cX6_told 31 = .ok (.aload_n 0, 1) := by decide +kernel
theorem dX6_told_32 : decode cX6_told 32 = .ok (.aload_n 0, 1) := by decide +kernel
theorem dX6_told_33 : decode cX6_told 33 = .ok (.getfield 26, 3) := by decide +kernel
theorem dX6_told_36 : decode cX6_told 36 = .ok (.bipush 6, 2) := by decide +kernel
theorem dX6_told_38 : decode cX6_told 38 = .ok (.iload_n 1, 1) := by decide +kernel
theorem dX6_told_39 : decode cX6_told 39 = .ok (.imul, 1) := by decide +kernel
theorem dX6_told_40 : decode cX6_told 40 = .ok (.aload_n 0, 1) := by decide +kernel
theorem dX6_told_41 : decode cX6_told 41 = .ok (.getfield 13, 3) := by decide +kernel
theorem dX6_told_44 : decode cX6_told 44 = .ok (.invokevirtual 114, 3) := by decide +kernel
theorem dX6_told_47 : decode cX6_told 47 = .ok (.goto 14, 3) := by decide +kernel
theorem dX6_told_50 : decode cX6_told 50 = .ok (.aload_n 0, 1) := by decide +kernel
theorem dX6_told_51 : decode cX6_told 51 = .ok (.getfield 26, 3) := by decide +kernel
theorem dX6_told_54 : decode cX6_told 54 = .ok (.bipush 6, 2) := by decide +kernel
theorem dX6_told_56 : decode cX6_told 56 = .ok (.iload_n 1, 1) := by decide +kernel
theorem dX6_told_57 : decode cX6_told 57 = .ok (.imul, 1) := by decide +kernel
theorem dX6_told_58 : decode cX6_told 58 = .ok (.iload_n 2, 1) := by decide +kernel
theorem dX6_told_59 : decode cX6_told 59 = .ok (.iadd, 1) := by decide +kernel
theorem dX6_told_60 : decode cX6_told 60 = .ok (.iaload, 1) := by decide +kernel
theorem dX6_told_61 : decode cX6_told 61 = .ok (.ireturn, 1) := by decide +kernel
set_option maxRecDepth 100000 in
theorem ggX6_tell_X6_isSix : GoodIn wsX6_tell wsX6_isSix := goodIn_r _ [10, 11, 12, 13, 9, 14] rfl (by decide +kernel)
set_option maxRecDepth 100000 in
theorem gX6_tell_X6_isSix : GoodIn wsX6_tell (va_wsS RX6 111 yX6_isSix wsX6_isSix) := goodIn_app (goodIn_of _ (by decide +kernel)) ggX6_tell_X6_isSix
set_option maxRecDepth 100000 in
theorem ggX6_tell_X6_weight : GoodIn wsX6_tell wsX6_weight := goodIn_r _ [18] rfl (by decide +kernel)
