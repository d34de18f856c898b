theorem dX5_isPrime_11 : decode cX5_isPrime 11 = .ok (.iconst 0, 1) := by decide +kernel
theorem dX5_isPrime_12 : decode cX5_isPrime 12 = .ok (.ireturn, 1) := by decide +kernel
theorem dX5_isPrime_13 : decode cX5_isPrime 13 = .ok (.iconst 2, 1) := by decide +kernel
theorem dX5_isPrime_14 : decode cX5_isPrime 14 = .ok (.istore_n 1, 1) := by decide +kernel
theorem dX5_isPrime_15 : decode cX5_isPrime 15 = .ok (.iload_n 1, 1) := by decide +kernel
theorem dX5_isPrime_16 : decode cX5_isPrime 16 = .ok (.iload_n 0, 1) := by decide +kernel
theorem dX5_isPrime_17 : decode cX5_isPrime 17 = .ok (.if_icmp .ge 17, 3) := by decide +kernel
theorem dX5_isPrime_20 : decode cX5_isPrime 20 = .ok (.iload_n 0, 1) := by decide +kernel
theorem dX5_isPrime_21 : decode cX5_isPrime 21 = .ok (.iload_n 1, 1) := by decide +kernel
theorem dX5_isPrime_22 : decode cX5_isPrime 22 = .ok (.irem, 1) := by decide +kernel
theorem dX5_isPrime_23 : decode cX5_isPrime 23 = .ok (.ifCond .ne 5, 3) := by decide +kernel
theorem dX5_isPrime_26 : decode cX5_isPrime 26 = .ok (.iconst 0, 1) := by decide +kernel
theorem dX5_isPrime_27 : decode cX5_isPrime 27 = .ok (.ireturn, 1) := by decide +kernel
theorem dX5_isPrime_28 : decode cX5_isPrime 28 = .ok (.iinc 1 1, 3) := by decide +kernel
theorem dX5_isPrime_31 : decode cX5_isPrime 31 = .ok (.goto (-16), 3) := by decide +kernel
theorem dX5_isPrime_34 : decode cX5_isPrime 34 = .ok (.iconst 1, 1) := by decide +kernel
theorem dX5_isPrime_35 : decode cX5_isPrime 35 = .ok (.ireturn, 1) := by decide +kernel
theorem dX5_weight_0 : decode cX5_weight 0 = .ok (.iconst 0, 1) := by decide +kernel
theorem dX5_weight_1 : decode cX5_weight 1 = .ok (.istore_n 1, 1) := by decide +kernel
theorem dX5_weight_2 : decode cX5_weight 2 = .ok (.iconst 0, 1) := by decide +kernel
theorem dX5_weight_3 : decode cX5_weight 3 = .ok (.istore_n 2, 1) := by decide +kernel
theorem dX5_weight_4 : decode cX5_weight 4 = .ok (.iload_n 2, 1) := by decide +kernel
theorem dX5_weight_5 : decode cX5_weight 5 = .ok (.aload_n 0, 1) := by decide +kernel
theorem dX5_weight_6 : decode cX5_weight 6 = .ok (.arraylength, 1) := by decide +kernel
theorem dX5_weight_7 : decode cX5_weight 7 = .ok (.if_icmp .ge 18, 3) := by decide +kernel
theorem dX5_weight_10 : decode cX5_weight 10 = .ok (.aload_n 0, 1) := by decide +kernel
theorem dX5_weight_11 : decode cX5_weight 11 = .ok (.iload_n 2, 1) := by decide +kernel
theorem dX5_weight_12 : decode cX5_weight 12 = .ok (.iaload, 1) := by decide +kernel
theorem dX5_weight_13 : decode cX5_weight 13 = .ok (.ifCond .eq 6, 3) := by decide +kernel
theorem dX5_weight_16 : decode cX5_weight 16 = .ok (.iinc 1 1, 3) := by decide +kernel
theorem dX5_weight_19 : decode cX5_weight 19 = .ok (.iinc 2 1, 3) := by decide +kernel
theorem dX5_weight_22 : decode cX5_weight 22 = .ok (.goto (-18), 3) := by decide +kernel
theorem dX5_weight_25 : decode cX5_weight 25 = .ok (.iload_n 1, 1) := by decide +kernel
theorem dX5_weight_26 : decode cX5_weight 26 = .ok (.ireturn, 1) := by decide +kernel
theorem dX5_clear_0 : decode cX5_clear 0 = .ok (.iconst 0, 1) := by decide +kernel
theorem dX5_clear_1 : decode cX5_clear 1 = .ok (.istore_n 1, 1) := by decide +kernel
theorem dX5_clear_2 : decode cX5_clear 2 = .ok (.iload_n 1, 1) := by decide +kernel
theorem dX5_clear_3 : decode cX5_clear 3 = .ok (.aload_n 0, 1) := by decide +kernel
theorem dX5_clear_4 : decode cX5_clear 4 = .ok (.arraylength, 1) := by decide +kernel
theorem dX5_clear_5 : decode cX5_clear 5 = .ok (.if_icmp .ge 13, 3) := by decide +kernel
theorem dX5_clear_8 : decode cX5_clear 8 = .ok (.aload_n 0, 1) := by decide +kernel
theorem dX5_clear_9 : decode cX5_clear 9 = .ok (.iload_n 1, 1) := by decide +kernel
theorem dX5_clear_10 : decode cX5_clear 10 = .ok (.iconst 0, 1) := by decide +kernel
theorem dX5_clear_11 : decode cX5_clear 11 = .ok (.iastore, 1) := by decide +kernel
theorem dX5_clear_12 : decode cX5_clear 12 = .ok (.iinc 1 1, 3) := by decide +kernel
theorem dX5_clear_15 : decode cX5_clear 15 = .ok (.goto (-13), 3) := by decide +kernel
theorem dX5_clear_18 : decode cX5_clear 18 = .ok (.return_, 1) := by decide +kernel
theorem dX5_copy_0 : decode cX5_copy 0 = .ok (.aload_n 0, 1) := by decide +kernel
theorem dX5_copy_1 : decode cX5_copy 1 = .ok (.arraylength, 1) := by decide +kernel
theorem dX5_copy_2 : decode cX5_copy 2 = .ok (.aload_n 1, 1) := by decide +kernel
theorem dX5_copy_3 : decode cX5_copy 3 = .ok (.arraylength, 1) := by decide +kernel
theorem dX5_copy_4 : decode cX5_copy 4 = .ok (.invokestatic 176, 3) := by decide +kernel
theorem dX5_copy_7 : decode cX5_copy 7 = .ok (.istore_n 2, 1) := by decide +kernel
theorem dX5_copy_8 : decode cX5_copy 8 = .ok (.iconst 0, 1) := by decide +kernel
theorem dX5_copy_9 : decode cX5_copy 9 = .ok (.istore_n 3, 1) := by decide +kernel
theorem dX5_copy_10 : decode cX5_copy 10 = .ok (.iload_n 3, 1) := by decide +kernel
theorem dX5_copy_11 : decode cX5_copy 11 = .ok (.iload_n 2, 1) := by decide +kernel
theorem dX5_copy_12 : decode cX5_copy 12 = .ok (.if_icmp .ge 15, 3) := by decide +kernel
theorem dX5_copy_15 : decode cX5_copy 15 = .ok (.aload_n 1, 1) := by decide +kernel
theorem dX5_copy_16 : decode cX5_copy 16 = .ok (.iload_n 3, 1) := by decide +kernel
theorem dX5_copy_17 : decode cX5_copy 17 = .ok (.aload_n 0, 1) := by decide +kernel
theorem dX5_copy_18 : decode cX5_copy 18 = .ok (.iload_n 3, 1) := by decide +kernel
theorem dX5_copy_19 : decode cX5_copy 19 = .ok (.iaload, 1) := by decide +kernel
theorem dX5_copy_20 : decode cX5_copy 20 = .ok (.iastore, 1) := by decide +kernel
theorem dX5_copy_21 : decode cX5_copy 21 = .ok (.iinc 3 1, 3) := by decide +kernel
theorem dX5_copy_24 : decode cX5_copy 24 = .ok (.goto (-14), 3) := by decide +kernel
theorem dX5_copy_27 : decode cX5_copy 27 = .ok (.return_, 1) := by decide +kernel
theorem dX6_init_0 : decode cX6_init 0 = .ok (.aload_n 0, 1) := by decide +kernel
theorem dX6_init_1 : decode cX6_init 1 = .ok (.invokespecial 1, 3) := by decide +kernel
theorem dX6_init_4 : decode cX6_init 4 = .ok (.aload_n 0, 1) := by decide +kernel
theorem dX6_init_5 : decode cX6_init 5 = .ok (.bipush 11, 2) := by decide +kernel
theorem dX6_init_7 : decode cX6_init 7 = .ok (.putfield 7, 3) := by decide +kernel
theorem dX6_init_10 : decode cX6_init 10 = .ok (.aload_n 0, 1) := by decide +kernel
theorem dX6_init_11 : decode cX6_init 11 = .ok (.iconst 1, 1) := by decide +kernel
theorem dX6_init_12 : decode cX6_init 12 = .ok (.putfield 13, 3) := by decide +kernel
theorem dX6_init_15 : decode cX6_init 15 = .ok (.aload_n 0, 1) := by decide +kernel
theorem dX6_init_16 : decode cX6_init 16 = .ok (.iconst 1, 1) := by decide +kernel
theorem dX6_init_17 : decode cX6_init 17 = .ok (.putfield 16, 3) := by decide +kernel
theorem dX6_init_20 : decode cX6_init 20 = .ok (.aload_n 0, 1) := by decide +kernel
theorem dX6_init_21 : decode cX6_init 21 = .ok (.bipush 72, 2) := by decide +kernel
theorem dX6_init_23 : decode cX6_init 23 = .ok (.newarray .int, 2) := by decide +kernel
theorem dX6_init_25 : decode cX6_init 25 = .ok (.putfield 19, 3) := by decide +kernel
theorem dX6_init_28 : decode cX6_init 28 = .ok (.aload_n 0, 1) := by decide +kernel
theorem dX6_init_29 : decode cX6_init 29 = .ok (.bipush 72, 2) := by decide +kernel
theorem dX6_init_31 : decode cX6_init 31 = .ok (.newarray .int, 2) := by decide +kernel
theorem dX6_init_33 : decode cX6_init 33 = .ok (.putfield 23, 3) := by decide +kernel
theorem dX6_init_36 : decode cX6_init 36 = .ok (.aload_n 0, 1) := by decide +kernel
theorem dX6_init_37 : decode cX6_init 37 = .ok (.bipush 36, 2) := by decide +kernel
theorem dX6_init_39 : decode cX6_init 39 = .ok (.newarray .int, 2) := by decide +kernel
theorem dX6_init_41 : decode cX6_init 41 = .ok (.putfield 26, 3) := by decide +kernel
theorem dX6_init_44 : decode cX6_init 44 = .ok (.aload_n 0, 1) := by decide +kernel
theorem dX6_init_45 : decode cX6_init 45 = .ok (.iconst 1, 1) := by decide +kernel
theorem dX6_init_46 : decode cX6_init 46 = .ok (.putfield 29, 3) := by decide +kernel
theorem dX6_init_49 : decode cX6_init 49 = .ok (.aload_n 0, 1) := by decide +kernel
theorem dX6_init_50 : decode cX6_init 50 = .ok (.iconst 2, 1) := by decide +kernel
theorem dX6_init_51 : decode cX6_init 51 = .ok (.putfield 32, 3) := by decide +kernel
theorem dX6_init_54 : decode cX6_init 54 = .ok (.aload_n 0, 1) := by decide +kernel
theorem dX6_init_55 : decode cX6_init 55 = .ok (.sipush 768, 3) := by decide +kernel
theorem dX6_init_58 : decode cX6_init 58 = .ok (.newarray .long, 2) := by decide +kernel
theorem dX6_init_60 : decode cX6_init 60 = .ok (.putfield 35, 3) := by decide +kernel
theorem dX6_init_63 : decode cX6_init 63 = .ok (.aload_n 0, 1) := by decide +kernel
theorem dX6_init_64 : decode cX6_init 64 = .ok (.bipush 100, 2) := by decide +kernel
theorem dX6_init_66 : decode cX6_init 66 = .ok (.newarray .int, 2) := by decide +kernel
theorem dX6_init_68 : decode cX6_init 68 = .ok (.putfield 39, 3) := by decide +kernel
theorem dX6_init_71 : decode cX6_init 71 = .ok (.aload_n 0, 1) := by decide +kernel
theorem dX6_init_72 : decode cX6_init 72 = .ok (.bipush 100, 2) := by decide +kernel
theorem dX6_init_74 : decode cX6_init 74 = .ok (.newarray .int, 2) := by decide +kernel
theorem dX6_init_76 : decode cX6_init 76 = .ok (.putfield 42, 3) := by decide +kernel
theorem dX6_init_79 : decode cX6_init 79 = .ok (.aload_n 0, 1) := by decide +kernel
theorem dX6_init_80 : decode cX6_init 80 = .ok (.bipush 78, 2) := by decide +kernel
theorem dX6_init_82 : decode cX6_init 82 = .ok (.newarray .int, 2) := by decide +kernel
theorem dX6_init_84 : decode cX6_init 84 = .ok (.putfield 45, 3) := by decide +kernel
theorem dX6_init_87 : decode cX6_init 87 = .ok (.aload_n 0, 1) := by decide +kernel
theorem dX6_init_88 : decode cX6_init 88 = .ok (.bipush 12, 2) := by decide +kernel
theorem dX6_init_90 : decode cX6_init 90 = .ok (.newarray .int, 2) := by decide +kernel
theorem dX6_init_92 : decode cX6_init 92 = .ok (.putfield 48, 3) := by decide +kernel
theorem dX6_init_95 : decode cX6_init 95 = .ok (.aload_n 0, 1) := by decide +kernel
theorem dX6_init_96 : decode cX6_init 96 = .ok (.bipush 12, 2) := by decide +kernel
theorem dX6_init_98 : decode cX6_init 98 = .ok (.newarray .int, 2) := by decide +kernel
theorem dX6_init_100 : decode cX6_init 100 = .ok (.putfield 51, 3) := by decide +kernel
theorem dX6_init_103 : decode cX6_init 103 = .ok (.aload_n 0, 1) := by decide +kernel
theorem dX6_init_104 : decode cX6_init 104 = .ok (.bipush 6, 2) := by decide +kernel
theorem dX6_init_106 : decode cX6_init 106 = .ok (.newarray .int, 2) := by decide +kernel
theorem dX6_init_108 : decode cX6_init 108 = .ok (.putfield 54, 3) := by decide +kernel
theorem dX6_init_111 : decode cX6_init 111 = .ok (.return_, 1) := by decide +kernel
theorem dX6_in_0 : decode cX6_in 0 = .ok (.lload_n 0, 1) := by decide +kernel
theorem dX6_in_1 : decode cX6_in 1 = .ok (.lload_n 2, 1) := by decide +kernel
theorem dX6_in_2 : decode cX6_in 2 = .ok (.lcmp, 1) := by decide +kernel
theorem dX6_in_3 : decode cX6_in 3 = .ok (.ifCond .lt 14, 3) := by decide +kernel
theorem dX6_in_6 : decode cX6_in 6 = .ok (.lload_n 0, 1) := by decide +kernel
theorem dX6_in_7 : decode cX6_in 7 = .ok (.lload 4, 2) := by decide +kernel
theorem dX6_in_9 : decode cX6_in 9 = .ok (.lcmp, 1) := by decide +kernel
theorem dX6_in_10 : decode cX6_in 10 = .ok (.ifCond .gt 7, 3) := by decide +kernel
theorem dX6_in_13 : decode cX6_in 13 = .ok (.iconst 1, 1) := by decide +kernel
theorem dX6_in_14 : decode cX6_in 14 = .ok (.goto 4, 3) := by decide +kernel
theorem dX6_in_17 : decode cX6_in 17 = .ok (.iconst 0, 1) := by decide +kernel
theorem dX6_in_18 : decode cX6_in 18 = .ok (.ireturn, 1) := by decide +kernel
theorem dX6_isPrime_0 : decode cX6_isPrime 0 = .ok (.iload_n 0, 1) := by decide +kernel
theorem dX6_isPrime_1 : decode cX6_isPrime 1 = .ok (.i2l, 1) := by decide +kernel
theorem dX6_isPrime_2 : decode cX6_isPrime 2 = .ok (.ldc2_w 57, 3) := by decide +kernel
theorem dX6_isPrime_5 : decode cX6_isPrime 5 = .ok (.ldc2_w 59, 3) := by decide +kernel
theorem dX6_isPrime_8 : decode cX6_isPrime 8 = .ok (.invokestatic 61, 3) := by decide +kernel
theorem dX6_isPrime_11 : decode cX6_isPrime 11 = .ok (.istore_n 1, 1) := by decide +kernel
theorem dX6_isPrime_12 : decode cX6_isPrime 12 = .ok (.iconst 2, 1) := by decide +kernel
theorem dX6_isPrime_13 : decode cX6_isPrime 13 = .ok (.istore_n 2, 1) := by decide +kernel
theorem dX6_isPrime_14 : decode cX6_isPrime 14 = .ok (.iload_n 1, 1) := by decide +kernel
theorem dX6_isPrime_15 : decode cX6_isPrime 15 = .ok (.ifCond .eq 28, 3) := by decide +kernel
theorem dX6_isPrime_18 : decode cX6_isPrime 18 = .ok (.iload_n 2, 1) := by decide +kernel
theorem dX6_isPrime_19 : decode cX6_isPrime 19 = .ok (.iload_n 2, 1) := by decide +kernel
theorem dX6_isPrime_20 : decode cX6_isPrime 20 = .ok (.imul, 1) := by decide +kernel
theorem dX6_isPrime_21 : decode cX6_isPrime 21 = .ok (.iload_n 0, 1) := by decide +kernel
theorem dX6_isPrime_22 : decode cX6_isPrime 22 = .ok (.if_icmp .gt 21, 3) := by decide +kernel
theorem dX6_isPrime_25 : decode cX6_isPrime 25 = .ok (.iload_n 0, 1) := by decide +kernel
theorem dX6_isPrime_26 : decode cX6_isPrime 26 = .ok (.iload_n 2, 1) := by decide +kernel
theorem dX6_isPrime_27 : decode cX6_isPrime 27 = .ok (.irem, 1) := by decide +kernel
theorem dX6_isPrime_28 : decode cX6_isPrime 28 = .ok (.ifCond .eq 7, 3) := by decide +kernel
theorem dX6_isPrime_31 : decode cX6_isPrime 31 = .ok (.iconst 1, 1) := by decide +kernel
theorem dX6_isPrime_32 : decode cX6_isPrime 32 = .ok (.goto 4, 3) := by decide +kernel
theorem dX6_isPrime_35 : decode cX6_isPrime 35 = .ok (.iconst 0, 1) := by decide +kernel
theorem dX6_isPrime_36 : decode cX6_isPrime 36 = .ok (.istore_n 1, 1) := by decide +kernel
theorem dX6_isPrime_37 : decode cX6_isPrime 37 = .ok (.iinc 2 1, 3) := by decide +kernel
theorem dX6_isPrime_40 : decode cX6_isPrime 40 = .ok (.goto (-26), 3) := by decide +kernel
theorem dX6_isPrime_43 : decode cX6_isPrime 43 = .ok (.iload_n 1, 1) := by decide +kernel
theorem dX6_isPrime_44 : decode cX6_isPrime 44 = .ok (.ireturn, 1) := by decide +kernel
theorem dX6_by_0 : decode cX6_by 0 = .ok (.iload_n 1, 1) := by decide +kernel
theorem dX6_by_1 : decode cX6_by 1 = .ok (.aload_n 0, 1) := by decide +kernel
theorem dX6_by_2 : decode cX6_by 2 = .ok (.getfield 7, 3) := by decide +kernel
theorem dX6_by_5 : decode cX6_by 5 = .ok (.irem, 1) := by decide +kernel
theorem dX6_by_6 : decode cX6_by 6 = .ok (.istore_n 2, 1) := by decide +kernel
theorem dX6_by_7 : decode cX6_by 7 = .ok (.iload_n 2, 1) := by decide +kernel
theorem dX6_by_8 : decode cX6_by 8 = .ok (.ifCond .ge 12, 3) := by decide +kernel
theorem dX6_by_11 : decode cX6_by 11 = .ok (.iload_n 2, 1) := by decide +kernel
theorem dX6_by_12 : decode cX6_by 12 = .ok (.aload_n 0, 1) := by decide +kernel
theorem dX6_by_13 : decode cX6_by 13 = .ok (.getfield 7, 3) := by decide +kernel
theorem dX6_by_16 : decode cX6_by 16 = .ok (.iadd, 1) := by decide +kernel
theorem dX6_by_17 : decode cX6_by 17 = .ok (.goto 4, 3) := by decide +kernel
theorem dX6_by_20 : decode cX6_by 20 = .ok (.iload_n 2, 1) := by decide +kernel
theorem dX6_by_21 : decode cX6_by 21 = .ok (.ireturn, 1) := by decide +kernel
theorem dX6_begin_0 : decode cX6_begin 0 = .ok (.iload_n 1, 1) := by decide +kernel
theorem dX6_begin_1 : decode cX6_begin 1 = .ok (.invokestatic 65, 3) := by decide +kernel
theorem dX6_begin_4 : decode cX6_begin 4 = .ok (.ifCond .eq 27, 3) := by decide +kernel
theorem dX6_begin_7 : decode cX6_begin 7 = .ok (.iload_n 2, 1) := by decide +kernel
theorem dX6_begin_8 : decode cX6_begin 8 = .ok (.i2l, 1) := by decide +kernel
theorem dX6_begin_9 : decode cX6_begin 9 = .ok (.lconst 1, 1) := by decide +kernel
theorem dX6_begin_10 : decode cX6_begin 10 = .ok (.ldc2_w 69, 3) := by decide +kernel
theorem dX6_begin_13 : decode cX6_begin 13 = .ok (.invokestatic 61, 3) := by decide +kernel
theorem dX6_begin_16 : decode cX6_begin 16 = .ok (.ifCond .eq 15, 3) := by decide +kernel
theorem dX6_begin_19 : decode cX6_begin 19 = .ok (.iload_n 3, 1) := by decide +kernel
theorem dX6_begin_20 : decode cX6_begin 20 = .ok (.i2l, 1) := by decide +kernel
theorem dX6_begin_21 : decode cX6_begin 21 = .ok (.lconst 1, 1) := by decide +kernel
theorem dX6_begin_22 : decode cX6_begin 22 = .ok (.ldc2_w 71, 3) := by decide +kernel
theorem dX6_begin_25 : decode cX6_begin 25 = .ok (.invokestatic 61, 3) := by decide +kernel
theorem dX6_begin_28 : decode cX6_begin 28 = .ok (.ifCond .ne 5, 3) := by decide +kernel
theorem dX6_begin_31 : decode cX6_begin 31 = .ok (.iconst (-1), 1) := by decide +kernel
theorem dX6_begin_32 : decode cX6_begin 32 = .ok (.ireturn, 1) := by decide +kernel
theorem dX6_begin_33 : decode cX6_begin 33 = .ok (.aload_n 0, 1) := by decide +kernel
theorem dX6_begin_34 : decode cX6_begin 34 = .ok (.iload_n 1, 1) := by decide +kernel
theorem dX6_begin_35 : decode cX6_begin 35 = .ok (.putfield 7, 3) := by decide +kernel
theorem dX6_begin_38 : decode cX6_begin 38 = .ok (.aload_n 0, 1) := by decide +kernel
theorem dX6_begin_39 : decode cX6_begin 39 = .ok (.iload_n 2, 1) := by decide +kernel
theorem dX6_begin_40 : decode cX6_begin 40 = .ok (.putfield 13, 3) := by decide +kernel
theorem dX6_begin_43 : decode cX6_begin 43 = .ok (.aload_n 0, 1) := by decide +kernel
theorem dX6_begin_44 : decode cX6_begin 44 = .ok (.iload_n 3, 1) := by decide +kernel
theorem dX6_begin_45 : decode cX6_begin 45 = .ok (.putfield 16, 3) := by decide +kernel
theorem dX6_begin_48 : decode cX6_begin 48 = .ok (.iconst 0, 1) := by decide +kernel
theorem dX6_begin_49 : decode cX6_begin 49 = .ok (.istore 4, 2) := by decide +kernel
theorem dX6_begin_51 : decode cX6_begin 51 = .ok (.iload 4, 2) := by decide +kernel
theorem dX6_begin_53 : decode cX6_begin 53 = .ok (.bipush 72, 2) := by decide +kernel
theorem dX6_begin_55 : decode cX6_begin 55 = .ok (.if_icmp .ge 25, 3) := by decide +kernel
theorem dX6_begin_58 : decode cX6_begin 58 = .ok (.aload_n 0, 1) := by decide +kernel
theorem dX6_begin_59 : decode cX6_begin 59 = .ok (.getfield 19, 3) := by decide +kernel
theorem dX6_begin_62 : decode cX6_begin 62 = .ok (.iload 4, 2) := by decide +kernel
theorem dX6_begin_64 : decode cX6_begin 64 = .ok (.iconst 0, 1) := by decide +kernel
theorem dX6_begin_65 : decode cX6_begin 65 = .ok (.iastore, 1) := by decide +kernel
theorem dX6_begin_66 : decode cX6_begin 66 = .ok (.aload_n 0, 1) := by decide +kernel
theorem dX6_begin_67 : decode cX6_begin 67 = .ok (.getfield 23, 3) := by decide +kernel
theorem dX6_begin_70 : decode cX6_begin 70 = .ok (.iload 4, 2) := by decide +kernel
theorem dX6_begin_72 : decode cX6_begin 72 = .ok (.iconst 0, 1) := by decide +kernel
theorem dX6_begin_73 : decode cX6_begin 73 = .ok (.iastore, 1) := by decide +kernel
theorem dX6_begin_74 : decode cX6_begin 74 = .ok (.iinc 4 1, 3) := by decide +kernel
theorem dX6_begin_77 : decode cX6_begin 77 = .ok (.goto (-26), 3) := by decide +kernel
theorem dX6_begin_80 : decode cX6_begin 80 = .ok (.iconst 0, 1) := by decide +kernel
theorem dX6_begin_81 : decode cX6_begin 81 = .ok (.istore 4, 2) := by decide +kernel
theorem dX6_begin_83 : decode cX6_begin 83 = .ok (.iload 4, 2) := by decide +kernel
theorem dX6_begin_85 : decode cX6_begin 85 = .ok (.bipush 36, 2) := by decide +kernel
theorem dX6_begin_87 : decode cX6_begin 87 = .ok (.if_icmp .ge 17, 3) := by decide +kernel
theorem dX6_begin_90 : decode cX6_begin 90 = .ok (.aload_n 0, 1) := by decide +kernel
theorem dX6_begin_91 : decode cX6_begin 91 = .ok (.getfield 26, 3) := by decide +kernel
theorem dX6_begin_94 : decode cX6_begin 94 = .ok (.iload 4, 2) := by decide +kernel
theorem dX6_begin_96 : decode cX6_begin 96 = .ok (.iconst 0, 1) := by decide +kernel
theorem dX6_begin_97 : decode cX6_begin 97 = .ok (.iastore, 1) := by decide +kernel
theorem dX6_begin_98 : decode cX6_begin 98 = .ok (.iinc 4 1, 3) := by decide +kernel
theorem dX6_begin_101 : decode cX6_begin 101 = .ok (.goto (-18), 3) := by decide +kernel
theorem dX6_begin_104 : decode cX6_begin 104 = .ok (.iconst 0, 1) := by decide +kernel
theorem dX6_begin_105 : decode cX6_begin 105 = .ok (.ireturn, 1) := by decide +kernel
theorem dX6_isPlace_0 : decode cX6_isPlace 0 = .ok (.iload_n 1, 1) := by decide +kernel
theorem dX6_isPlace_1 : decode cX6_isPlace 1 = .ok (.i2l, 1) := by decide +kernel
theorem dX6_isPlace_2 : decode cX6_isPlace 2 = .ok (.lconst 0, 1) := by decide +kernel
theorem dX6_isPlace_3 : decode cX6_isPlace 3 = .ok (.aload_n 0, 1) := by decide +kernel
theorem dX6_isPlace_4 : decode cX6_isPlace 4 = .ok (.getfield 13, 3) := by decide +kernel
theorem dX6_isPlace_7 : decode cX6_isPlace 7 = .ok (.iconst 1, 1) := by decide +kernel
theorem dX6_isPlace_8 : decode cX6_isPlace 8 = .ok (.isub, 1) := by decide +kernel
theorem dX6_isPlace_9 : decode cX6_isPlace 9 = .ok (.i2l, 1) := by decide +kernel
theorem dX6_isPlace_10 : decode cX6_isPlace 10 = .ok (.invokestatic 61, 3) := by decide +kernel
theorem dX6_isPlace_13 : decode cX6_isPlace 13 = .ok (.ifCond .eq 23, 3) := by decide +kernel
theorem dX6_isPlace_16 : decode cX6_isPlace 16 = .ok (.iload_n 2, 1) := by decide +kernel
theorem dX6_isPlace_17 : decode cX6_isPlace 17 = .ok (.i2l, 1) := by decide +kernel
theorem dX6_isPlace_18 : decode cX6_isPlace 18 = .ok (.lconst 0, 1) := by decide +kernel
theorem dX6_isPlace_19 : decode cX6_isPlace 19 = .ok (.aload_n 0, 1) := by decide +kernel
theorem dX6_isPlace_20 : decode cX6_isPlace 20 = .ok (.getfield 16, 3) := by decide +kernel
theorem dX6_isPlace_23 : decode cX6_isPlace 23 = .ok (.iconst 1, 1) := by decide +kernel
theorem dX6_isPlace_24 : decode cX6_isPlace 24 = .ok (.isub, 1) := by decide +kernel
theorem dX6_isPlace_25 : decode cX6_isPlace 25 = .ok (.i2l, 1) := by decide +kernel
theorem dX6_isPlace_26 : decode cX6_isPlace 26 = .ok (.invokestatic 61, 3) := by decide +kernel
theorem dX6_isPlace_29 : decode cX6_isPlace 29 = .ok (.ifCond .eq 7, 3) := by decide +kernel
theorem dX6_isPlace_32 : decode cX6_isPlace 32 = .ok (.iconst 1, 1) := by decide +kernel
theorem dX6_isPlace_33 : decode cX6_isPlace 33 = .ok (.goto 4, 3) := by decide +kernel
theorem dX6_isPlace_36 : decode cX6_isPlace 36 = .ok (.iconst 0, 1) := by decide +kernel
theorem dX6_isPlace_37 : decode cX6_isPlace 37 = .ok (.ireturn, 1) := by decide +kernel
theorem dX6_set_0 : decode cX6_set 0 = .ok (.aload_n 0, 1) := by decide +kernel
theorem dX6_set_1 : decode cX6_set 1 = .ok (.iload_n 1, 1) := by decide +kernel
theorem dX6_set_2 : decode cX6_set 2 = .ok (.iload_n 2, 1) := by decide +kernel
theorem dX6_set_3 : decode cX6_set 3 = .ok (.invokevirtual 73, 3) := by decide +kernel
theorem dX6_set_6 : decode cX6_set 6 = .ok (.ifCond .ne 5, 3) := by decide +kernel
theorem dX6_set_9 : decode cX6_set 9 = .ok (.iconst (-1), 1) := by decide +kernel
theorem dX6_set_10 : decode cX6_set 10 = .ok (.ireturn, 1) := by decide +kernel
theorem dX6_set_11 : decode cX6_set 11 = .ok (.aload_n 0, 1) := by decide +kernel
theorem dX6_set_12 : decode cX6_set 12 = .ok (.getfield 19, 3) := by decide +kernel
theorem dX6_set_15 : decode cX6_set 15 = .ok (.bipush 12, 2) := by decide +kernel
theorem dX6_set_17 : decode cX6_set 17 = .ok (.iload_n 1, 1) := by decide +kernel
theorem dX6_set_18 : decode cX6_set 18 = .ok (.imul, 1) := by decide +kernel
theorem dX6_set_19 : decode cX6_set 19 = .ok (.iload_n 2, 1) := by decide +kernel
theorem dX6_set_20 : decode cX6_set 20 = .ok (.iadd, 1) := by decide +kernel
theorem dX6_set_21 : decode cX6_set 21 = .ok (.iaload, 1) := by decide +kernel
theorem dX6_set_22 : decode cX6_set 22 = .ok (.istore 4, 2) := by decide +kernel
theorem dX6_set_24 : decode cX6_set 24 = .ok (.aload_n 0, 1) := by decide +kernel
theorem dX6_set_25 : decode cX6_set 25 = .ok (.getfield 19, 3) := by decide +kernel
theorem dX6_set_28 : decode cX6_set 28 = .ok (.bipush 12, 2) := by decide +kernel
theorem dX6_set_30 : decode cX6_set 30 = .ok (.iload_n 1, 1) := by decide +kernel
theorem dX6_set_31 : decode cX6_set 31 = .ok (.imul, 1) := by decide +kernel
theorem dX6_set_32 : decode cX6_set 32 = .ok (.iload_n 2, 1) := by decide +kernel
theorem dX6_set_33 : decode cX6_set 33 = .ok (.iadd, 1) := by decide +kernel
theorem dX6_set_34 : decode cX6_set 34 = .ok (.aload_n 0, 1) := by decide +kernel
theorem dX6_set_35 : decode cX6_set 35 = .ok (.iload_n 3, 1) := by decide +kernel
theorem dX6_set_36 : decode cX6_set 36 = .ok (.invokevirtual 77, 3) := by decide +kernel
theorem dX6_set_39 : decode cX6_set 39 = .ok (.iastore, 1) := by decide +kernel
theorem dX6_set_40 : decode cX6_set 40 = .ok (.iload 4, 2) := by decide +kernel
theorem dX6_set_42 : decode cX6_set 42 = .ok (.ireturn, 1) := by decide +kernel
theorem dX6_powers_0 : decode cX6_powers 0 = .ok (.iload_n 1, 1) := by decide +kernel
theorem dX6_powers_1 : decode cX6_powers 1 = .ok (.i2l, 1) := by decide +kernel
theorem dX6_powers_2 : decode cX6_powers 2 = .ok (.lconst 0, 1) := by decide +kernel
theorem dX6_powers_3 : decode cX6_powers 3 = .ok (.aload_n 0, 1) := by decide +kernel
theorem dX6_powers_4 : decode cX6_powers 4 = .ok (.getfield 7, 3) := by decide +kernel
theorem dX6_powers_7 : decode cX6_powers 7 = .ok (.iconst 1, 1) := by decide +kernel
theorem dX6_powers_8 : decode cX6_powers 8 = .ok (.isub, 1) := by decide +kernel
theorem dX6_powers_9 : decode cX6_powers 9 = .ok (.i2l, 1) := by decide +kernel
theorem dX6_powers_10 : decode cX6_powers 10 = .ok (.invokestatic 61, 3) := by decide +kernel
theorem dX6_powers_13 : decode cX6_powers 13 = .ok (.ifCond .ne 5, 3) := by decide +kernel
theorem dX6_powers_16 : decode cX6_powers 16 = .ok (.iconst (-1), 1) := by decide +kernel
theorem dX6_powers_17 : decode cX6_powers 17 = .ok (.ireturn, 1) := by decide +kernel
theorem dX6_powers_18 : decode cX6_powers 18 = .ok (.iconst 0, 1) := by decide +kernel
theorem dX6_powers_19 : decode cX6_powers 19 = .ok (.istore_n 2, 1) := by decide +kernel
theorem dX6_powers_20 : decode cX6_powers 20 = .ok (.iload_n 2, 1) := by decide +kernel
theorem dX6_powers_21 : decode cX6_powers 21 = .ok (.aload_n 0, 1) := by decide +kernel
theorem dX6_powers_22 : decode cX6_powers 22 = .ok (.getfield 16, 3) := by decide +kernel
theorem dX6_powers_25 : decode cX6_powers 25 = .ok (.if_icmp .ge 58, 3) := by decide +kernel
theorem dX6_powers_28 : decode cX6_powers 28 = .ok (.iload_n 1, 1) := by decide +kernel
theorem dX6_powers_29 : decode cX6_powers 29 = .ok (.istore_n 3, 1) := by decide +kernel
theorem dX6_powers_30 : decode cX6_powers 30 = .ok (.iconst 0, 1) := by decide +kernel
theorem dX6_powers_31 : decode cX6_powers 31 = .ok (.istore 4, 2) := by decide +kernel
theorem dX6_powers_33 : decode cX6_powers 33 = .ok (.iload 4, 2) := by decide +kernel
theorem dX6_powers_35 : decode cX6_powers 35 = .ok (.aload_n 0, 1) := by decide +kernel
theorem dX6_powers_36 : decode cX6_powers 36 = .ok (.getfield 13, 3) := by decide +kernel
theorem dX6_powers_39 : decode cX6_powers 39 = .ok (.if_icmp .ge 38, 3) := by decide +kernel
theorem dX6_powers_42 : decode cX6_powers 42 = .ok (.aload_n 0, 1) := by decide +kernel
theorem dX6_powers_43 : decode cX6_powers 43 = .ok (.getfield 19, 3) := by decide +kernel
theorem dX6_powers_46 : decode cX6_powers 46 = .ok (.bipush 12, 2) := by decide +kernel
theorem dX6_powers_48 : decode cX6_powers 48 = .ok (.iload 4, 2) := by decide +kernel
theorem dX6_powers_50 : decode cX6_powers 50 = .ok (.imul, 1) := by decide +kernel
theorem dX6_powers_51 : decode cX6_powers 51 = .ok (.iload_n 2, 1) := by decide +kernel
theorem dX6_powers_52 : decode cX6_powers 52 = .ok (.iadd, 1) := by decide +kernel
theorem dX6_powers_53 : decode cX6_powers 53 = .ok (.iload_n 3, 1) := by decide +kernel
theorem dX6_powers_54 : decode cX6_powers 54 = .ok (.iastore, 1) := by decide +kernel
theorem dX6_powers_55 : decode cX6_powers 55 = .ok (.iload_n 3, 1) := by decide +kernel
theorem dX6_powers_56 : decode cX6_powers 56 = .ok (.iload_n 2, 1) := by decide +kernel
theorem dX6_powers_57 : decode cX6_powers 57 = .ok (.iconst 1, 1) := by decide +kernel
theorem dX6_powers_58 : decode cX6_powers 58 = .ok (.iadd, 1) := by decide +kernel
theorem dX6_powers_59 : decode cX6_powers 59 = .ok (.aload_n 0, 1) := by decide +kernel
theorem dX6_powers_60 : decode cX6_powers 60 = .ok (.getfield 7, 3) := by decide +kernel
theorem dX6_powers_63 : decode cX6_powers 63 = .ok (.irem, 1) := by decide +kernel
theorem dX6_powers_64 : decode cX6_powers 64 = .ok (.imul, 1) := by decide +kernel
theorem dX6_powers_65 : decode cX6_powers 65 = .ok (.aload_n 0, 1) := by decide +kernel
theorem dX6_powers_66 : decode cX6_powers 66 = .ok (.getfield 7, 3) := by decide +kernel
theorem dX6_powers_69 : decode cX6_powers 69 = .ok (.irem, 1) := by decide +kernel
theorem dX6_powers_70 : decode cX6_powers 70 = .ok (.istore_n 3, 1) := by decide +kernel
theorem dX6_powers_71 : decode cX6_powers 71 = .ok (.iinc 4 1, 3) := by decide +kernel
theorem dX6_powers_74 : decode cX6_powers 74 = .ok (.goto (-41), 3) := by decide +kernel
theorem dX6_powers_77 : decode cX6_powers 77 = .ok (.iinc 2 1, 3) := by decide +kernel
theorem dX6_powers_80 : decode cX6_powers 80 = .ok (.goto (-60), 3) := by decide +kernel
theorem dX6_powers_83 : decode cX6_powers 83 = .ok (.iconst 0, 1) := by decide +kernel
theorem dX6_powers_84 : decode cX6_powers 84 = .ok (.ireturn, 1) := by decide +kernel
theorem dX6_at_0 : decode cX6_at 0 = .ok (.aload_n 0, 1) := by decide +kernel
theorem dX6_at_1 : decode cX6_at 1 = .ok (.iload_n 1, 1) := by decide +kernel
theorem dX6_at_2 : decode cX6_at 2 = .ok (.iload_n 2, 1) := by decide +kernel
theorem dX6_at_3 : decode cX6_at 3 = .ok (.invokevirtual 73, 3) := by decide +kernel
theorem dX6_at_6 : decode cX6_at 6 = .ok (.ifCond .eq 17, 3) := by decide +kernel
theorem dX6_at_9 : decode cX6_at 9 = .ok (.aload_n 0, 1) := by decide +kernel
theorem dX6_at_10 : decode cX6_at 10 = .ok (.getfield 19, 3) := by decide +kernel
theorem dX6_at_13 : decode cX6_at 13 = .ok (.bipush 12, 2) := by decide +kernel
theorem dX6_at_15 : decode cX6_at 15 = .ok (.iload_n 1, 1) := by decide +kernel
theorem dX6_at_16 : decode cX6_at 16 = .ok (.imul, 1) := by decide +kernel
theorem dX6_at_17 : decode cX6_at 17 = .ok (.iload_n 2, 1) := by decide +kernel
theorem dX6_at_18 : decode cX6_at 18 = .ok (.iadd, 1) := by decide +kernel
theorem dX6_at_19 : decode cX6_at 19 = .ok (.iaload, 1) := by decide +kernel
theorem dX6_at_20 : decode cX6_at 20 = .ok (.goto 4, 3) := by decide +kernel
theorem dX6_at_23 : decode cX6_at 23 = .ok (.iconst (-1), 1) := by decide +kernel
theorem dX6_at_24 : decode cX6_at 24 = .ok (.ireturn, 1) := by decide +kernel
theorem dX6_turned_0 : decode cX6_turned 0 = .ok (.iconst 1, 1) := by decide +kernel
theorem dX6_turned_1 : decode cX6_turned 1 = .ok (.istore_n 2, 1) := by decide +kernel
theorem dX6_turned_2 : decode cX6_turned 2 = .ok (.iload_n 2, 1) := by decide +kernel
theorem dX6_turned_3 : decode cX6_turned 3 = .ok (.iload_n 1, 1) := by decide +kernel
theorem dX6_turned_4 : decode cX6_turned 4 = .ok (.imul, 1) := by decide +kernel
theorem dX6_turned_5 : decode cX6_turned 5 = .ok (.aload_n 0, 1) := by decide +kernel
theorem dX6_turned_6 : decode cX6_turned 6 = .ok (.getfield 7, 3) := by decide +kernel
theorem dX6_turned_9 : decode cX6_turned 9 = .ok (.irem, 1) := by decide +kernel
theorem dX6_turned_10 : decode cX6_turned 10 = .ok (.iconst 1, 1) := by decide +kernel
theorem dX6_turned_11 : decode cX6_turned 11 = .ok (.if_icmp .eq 9, 3) := by decide +kernel
theorem dX6_turned_14 : decode cX6_turned 14 = .ok (.iinc 2 1, 3) := by decide +kernel
theorem dX6_turned_17 : decode cX6_turned 17 = .ok (.goto (-15), 3) := by decide +kernel
theorem dX6_turned_20 : decode cX6_turned 20 = .ok (.iload_n 2, 1) := by decide +kernel
theorem dX6_turned_21 : decode cX6_turned 21 = .ok (.ireturn, 1) := by decide +kernel
theorem dX6_clears_0 : decode cX6_clears 0 = .ok (.iconst 0, 1) := by decide +kernel
theorem dX6_clears_1 : decode cX6_clears 1 = .ok (.istore 4, 2) := by decide +kernel
theorem dX6_clears_3 : decode cX6_clears 3 = .ok (.iconst 0, 1) := by decide +kernel
theorem dX6_clears_4 : decode cX6_clears 4 = .ok (.istore 5, 2) := by decide +kernel
theorem dX6_clears_6 : decode cX6_clears 6 = .ok (.iconst 0, 1) := by decide +kernel
theorem dX6_clears_7 : decode cX6_clears 7 = .ok (.istore 6, 2) := by decide +kernel
theorem dX6_clears_9 : decode cX6_clears 9 = .ok (.iload 6, 2) := by decide +kernel
theorem dX6_clears_11 : decode cX6_clears 11 = .ok (.aload_n 0, 1) := by decide +kernel
theorem dX6_clears_12 : decode cX6_clears 12 = .ok (.getfield 13, 3) := by decide +kernel
theorem dX6_clears_15 : decode cX6_clears 15 = .ok (.if_icmp .ge 114, 3) := by decide +kernel
theorem dX6_clears_18 : decode cX6_clears 18 = .ok (.iload_n 2, 1) := by decide +kernel
theorem dX6_clears_19 : decode cX6_clears 19 = .ok (.iload 6, 2) := by decide +kernel
theorem dX6_clears_21 : decode cX6_clears 21 = .ok (.ishr, 1) := by decide +kernel
theorem dX6_clears_22 : decode cX6_clears 22 = .ok (.iconst 1, 1) := by decide +kernel
theorem dX6_clears_23 : decode cX6_clears 23 = .ok (.iand, 1) := by decide +kernel
theorem dX6_clears_24 : decode cX6_clears 24 = .ok (.ifCond .ne 99, 3) := by decide +kernel
theorem dX6_clears_27 : decode cX6_clears 27 = .ok (.iconst 0, 1) := by decide +kernel
theorem dX6_clears_28 : decode cX6_clears 28 = .ok (.istore 5, 2) := by decide +kernel
theorem dX6_clears_30 : decode cX6_clears 30 = .ok (.iconst 0, 1) := by decide +kernel
theorem dX6_clears_31 : decode cX6_clears 31 = .ok (.istore 7, 2) := by decide +kernel
theorem dX6_clears_33 : decode cX6_clears 33 = .ok (.iload 7, 2) := by decide +kernel
theorem dX6_clears_35 : decode cX6_clears 35 = .ok (.aload_n 0, 1) := by decide +kernel
theorem dX6_clears_36 : decode cX6_clears 36 = .ok (.getfield 16, 3) := by decide +kernel
theorem dX6_clears_39 : decode cX6_clears 39 = .ok (.if_icmp .ge 48, 3) := by decide +kernel
theorem dX6_clears_42 : decode cX6_clears 42 = .ok (.iload_n 1, 1) := by decide +kernel
theorem dX6_clears_43 : decode cX6_clears 43 = .ok (.iload 7, 2) := by decide +kernel
theorem dX6_clears_45 : decode cX6_clears 45 = .ok (.ishr, 1) := by decide +kernel
theorem dX6_clears_46 : decode cX6_clears 46 = .ok (.iconst 1, 1) := by decide +kernel
theorem dX6_clears_47 : decode cX6_clears 47 = .ok (.iand, 1) := by decide +kernel
theorem dX6_clears_48 : decode cX6_clears 48 = .ok (.iconst 1, 1) := by decide +kernel
theorem dX6_clears_49 : decode cX6_clears 49 = .ok (.if_icmp .ne 32, 3) := by decide +kernel
theorem dX6_clears_52 : decode cX6_clears 52 = .ok (.aload_n 0, 1) := by decide +kernel
theorem dX6_clears_53 : decode cX6_clears 53 = .ok (.getfield 45, 3) := by decide +kernel
theorem dX6_clears_56 : decode cX6_clears 56 = .ok (.bipush 13, 2) := by decide +kernel
theorem dX6_clears_58 : decode cX6_clears 58 = .ok (.iload 4, 2) := by decide +kernel
theorem dX6_clears_60 : decode cX6_clears 60 = .ok (.imul, 1) := by decide +kernel
theorem dX6_clears_61 : decode cX6_clears 61 = .ok (.iload 5, 2) := by decide +kernel
theorem dX6_clears_63 : decode cX6_clears 63 = .ok (.iadd, 1) := by decide +kernel
theorem dX6_clears_64 : decode cX6_clears 64 = .ok (.aload_n 0, 1) := by decide +kernel
theorem dX6_clears_65 : decode cX6_clears 65 = .ok (.getfield 19, 3) := by decide +kernel
theorem dX6_clears_68 : decode cX6_clears 68 = .ok (.bipush 12, 2) := by decide +kernel
theorem dX6_clears_70 : decode cX6_clears 70 = .ok (.iload 6, 2) := by decide +kernel
theorem dX6_clears_72 : decode cX6_clears 72 = .ok (.imul, 1) := by decide +kernel
theorem dX6_clears_73 : decode cX6_clears 73 = .ok (.iload 7, 2) := by decide +kernel
theorem dX6_clears_75 : decode cX6_clears 75 = .ok (.iadd, 1) := by decide +kernel
theorem dX6_clears_76 : decode cX6_clears 76 = .ok (.iaload, 1) := by decide +kernel
theorem dX6_clears_77 : decode cX6_clears 77 = .ok (.iastore, 1) := by decide +kernel
theorem dX6_clears_78 : decode cX6_clears 78 = .ok (.iinc 5 1, 3) := by decide +kernel
theorem dX6_clears_81 : decode cX6_clears 81 = .ok (.iinc 7 1, 3) := by decide +kernel
theorem dX6_clears_84 : decode cX6_clears 84 = .ok (.goto (-51), 3) := by decide +kernel
theorem dX6_clears_87 : decode cX6_clears 87 = .ok (.aload_n 0, 1) := by decide +kernel
theorem dX6_clears_88 : decode cX6_clears 88 = .ok (.getfield 45, 3) := by decide +kernel
theorem dX6_clears_91 : decode cX6_clears 91 = .ok (.bipush 13, 2) := by decide +kernel
theorem dX6_clears_93 : decode cX6_clears 93 = .ok (.iload 4, 2) := by decide +kernel
theorem dX6_clears_95 : decode cX6_clears 95 = .ok (.imul, 1) := by decide +kernel
theorem dX6_clears_96 : decode cX6_clears 96 = .ok (.bipush 12, 2) := by decide +kernel
theorem dX6_clears_98 : decode cX6_clears 98 = .ok (.iadd, 1) := by decide +kernel
theorem dX6_clears_99 : decode cX6_clears 99 = .ok (.iload_n 3, 1) := by decide +kernel
theorem dX6_clears_100 : decode cX6_clears 100 = .ok (.ifCond .ge 7, 3) := by decide +kernel
theorem dX6_clears_103 : decode cX6_clears 103 = .ok (.iconst 0, 1) := by decide +kernel
theorem dX6_clears_104 : decode cX6_clears 104 = .ok (.goto 15, 3) := by decide +kernel
theorem dX6_clears_107 : decode cX6_clears 107 = .ok (.aload_n 0, 1) := by decide +kernel
theorem dX6_clears_108 : decode cX6_clears 108 = .ok (.getfield 26, 3) := by decide +kernel
theorem dX6_clears_111 : decode cX6_clears 111 = .ok (.bipush 6, 2) := by decide +kernel
theorem dX6_clears_113 : decode cX6_clears 113 = .ok (.iload_n 3, 1) := by decide +kernel
theorem dX6_clears_114 : decode cX6_clears 114 = .ok (.imul, 1) := by decide +kernel
theorem dX6_clears_115 : decode cX6_clears 115 = .ok (.iload 6, 2) := by decide +kernel
theorem dX6_clears_117 : decode cX6_clears 117 = .ok (.iadd, 1) := by decide +kernel
theorem dX6_clears_118 : decode cX6_clears 118 = .ok (.iaload, 1) := by decide +kernel
theorem dX6_clears_119 : decode cX6_clears 119 = .ok (.iastore, 1) := by decide +kernel
theorem dX6_clears_120 : decode cX6_clears 120 = .ok (.iinc 4 1, 3) := by decide +kernel
theorem dX6_clears_123 : decode cX6_clears 123 = .ok (.iinc 6 1, 3) := by decide +kernel
theorem dX6_clears_126 : decode cX6_clears 126 = .ok (.goto (-117), 3) := by decide +kernel
theorem dX6_clears_129 : decode cX6_clears 129 = .ok (.iload_n 1, 1) := by decide +kernel
theorem dX6_clears_130 : decode cX6_clears 130 = .ok (.invokestatic 81, 3) := by decide +kernel
theorem dX6_clears_133 : decode cX6_clears 133 = .ok (.istore 5, 2) := by decide +kernel
theorem dX6_clears_135 : decode cX6_clears 135 = .ok (.iconst 0, 1) := by decide +kernel
theorem dX6_clears_136 : decode cX6_clears 136 = .ok (.istore 6, 2) := by decide +kernel
theorem dX6_clears_138 : decode cX6_clears 138 = .ok (.iconst 0, 1) := by decide +kernel
theorem dX6_clears_139 : decode cX6_clears 139 = .ok (.istore 7, 2) := by decide +kernel
theorem dX6_clears_141 : decode cX6_clears 141 = .ok (.iload 7, 2) := by decide +kernel
theorem dX6_clears_143 : decode cX6_clears 143 = .ok (.iload 5, 2) := by decide +kernel
theorem dX6_clears_145 : decode cX6_clears 145 = .ok (.if_icmp .ge 146, 3) := by decide +kernel
theorem dX6_clears_148 : decode cX6_clears 148 = .ok (.iload 6, 2) := by decide +kernel
theorem dX6_clears_150 : decode cX6_clears 150 = .ok (.iload 4, 2) := by decide +kernel
theorem dX6_clears_152 : decode cX6_clears 152 = .ok (.if_icmp .ge 139, 3) := by decide +kernel
theorem dX6_clears_155 : decode cX6_clears 155 = .ok (.iload 6, 2) := by decide +kernel
theorem dX6_clears_157 : decode cX6_clears 157 = .ok (.istore 8, 2) := by decide +kernel
theorem dX6_clears_159 : decode cX6_clears 159 = .ok (.iload 8, 2) := by decide +kernel
theorem dX6_clears_161 : decode cX6_clears 161 = .ok (.iload 4, 2) := by decide +kernel
theorem dX6_clears_163 : decode cX6_clears 163 = .ok (.if_icmp .ge 25, 3) := by decide +kernel
theorem dX6_clears_166 : decode cX6_clears 166 = .ok (.aload_n 0, 1) := by decide +kernel
theorem dX6_clears_167 : decode cX6_clears 167 = .ok (.getfield 45, 3) := by decide +kernel
theorem dX6_clears_170 : decode cX6_clears 170 = .ok (.bipush 13, 2) := by decide +kernel
theorem dX6_clears_172 : decode cX6_clears 172 = .ok (.iload 8, 2) := by decide +kernel
theorem dX6_clears_174 : decode cX6_clears 174 = .ok (.imul, 1) := by decide +kernel
theorem dX6_clears_175 : decode cX6_clears 175 = .ok (.iload 7, 2) := by decide +kernel
theorem dX6_clears_177 : decode cX6_clears 177 = .ok (.iadd, 1) := by decide +kernel
theorem dX6_clears_178 : decode cX6_clears 178 = .ok (.iaload, 1) := by decide +kernel
theorem dX6_clears_179 : decode cX6_clears 179 = .ok (.ifCond .ne 9, 3) := by decide +kernel
theorem dX6_clears_182 : decode cX6_clears 182 = .ok (.iinc 8 1, 3) := by decide +kernel
theorem dX6_clears_185 : decode cX6_clears 185 = .ok (.goto (-26), 3) := by decide +kernel
theorem dX6_clears_188 : decode cX6_clears 188 = .ok (.iload 8, 2) := by decide +kernel
theorem dX6_clears_190 : decode cX6_clears 190 = .ok (.iload 4, 2) := by decide +kernel
theorem dX6_clears_192 : decode cX6_clears 192 = .ok (.if_icmp .ge 93, 3) := by decide +kernel
theorem dX6_clears_195 : decode cX6_clears 195 = .ok (.aload_n 0, 1) := by decide +kernel
theorem dX6_clears_196 : decode cX6_clears 196 = .ok (.iload 8, 2) := by decide +kernel
theorem dX6_clears_198 : decode cX6_clears 198 = .ok (.iload 6, 2) := by decide +kernel
theorem dX6_clears_200 : decode cX6_clears 200 = .ok (.invokevirtual 84, 3) := by decide +kernel
theorem dX6_clears_203 : decode cX6_clears 203 = .ok (.aload_n 0, 1) := by decide +kernel
theorem dX6_clears_204 : decode cX6_clears 204 = .ok (.aload_n 0, 1) := by decide +kernel
theorem dX6_clears_205 : decode cX6_clears 205 = .ok (.getfield 45, 3) := by decide +kernel
theorem dX6_clears_208 : decode cX6_clears 208 = .ok (.bipush 13, 2) := by decide +kernel
theorem dX6_clears_210 : decode cX6_clears 210 = .ok (.iload 6, 2) := by decide +kernel
theorem dX6_clears_212 : decode cX6_clears 212 = .ok (.imul, 1) := by decide +kernel
theorem dX6_clears_213 : decode cX6_clears 213 = .ok (.iload 7, 2) := by decide +kernel
theorem dX6_clears_215 : decode cX6_clears 215 = .ok (.iadd, 1) := by decide +kernel
theorem dX6_clears_216 : decode cX6_clears 216 = .ok (.iaload, 1) := by decide +kernel
theorem dX6_clears_217 : decode cX6_clears 217 = .ok (.invokevirtual 88, 3) := by decide +kernel
theorem dX6_clears_220 : decode cX6_clears 220 = .ok (.istore 9, 2) := by decide +kernel
theorem dX6_clears_222 : decode cX6_clears 222 = .ok (.iconst 0, 1) := by decide +kernel
theorem dX6_clears_223 : decode cX6_clears 223 = .ok (.istore 10, 2) := by decide +kernel
theorem dX6_clears_225 : decode cX6_clears 225 = .ok (.iload 10, 2) := by decide +kernel
theorem dX6_clears_227 : decode cX6_clears 227 = .ok (.bipush 13, 2) := by decide +kernel
theorem dX6_clears_229 : decode cX6_clears 229 = .ok (.if_icmp .ge 43, 3) := by decide +kernel
theorem dX6_clears_232 : decode cX6_clears 232 = .ok (.aload_n 0, 1) := by decide +kernel
theorem dX6_clears_233 : decode cX6_clears 233 = .ok (.getfield 45, 3) := by decide +kernel
theorem dX6_clears_236 : decode cX6_clears 236 = .ok (.bipush 13, 2) := by decide +kernel
theorem dX6_clears_238 : decode cX6_clears 238 = .ok (.iload 6, 2) := by decide +kernel
theorem dX6_clears_240 : decode cX6_clears 240 = .ok (.imul, 1) := by decide +kernel
theorem dX6_clears_241 : decode cX6_clears 241 = .ok (.iload 10, 2) := by decide +kernel
theorem dX6_clears_243 : decode cX6_clears 243 = .ok (.iadd, 1) := by decide +kernel
theorem dX6_clears_244 : decode cX6_clears 244 = .ok (.aload_n 0, 1) := by decide +kernel
theorem dX6_clears_245 : decode cX6_clears 245 = .ok (.getfield 45, 3) := by decide +kernel
theorem dX6_clears_248 : decode cX6_clears 248 = .ok (.bipush 13, 2) := by decide +kernel
theorem dX6_clears_250 : decode cX6_clears 250 = .ok (.iload 6, 2) := by decide +kernel
theorem dX6_clears_252 : decode cX6_clears 252 = .ok (.imul, 1) := by decide +kernel
theorem dX6_clears_253 : decode cX6_clears 253 = .ok (.iload 10, 2) := by decide +kernel
theorem dX6_clears_255 : decode cX6_clears 255 = .ok (.iadd, 1) := by decide +kernel
theorem dX6_clears_256 : decode cX6_clears 256 = .ok (.iaload, 1) := by decide +kernel
theorem dX6_clears_257 : decode cX6_clears 257 = .ok (.iload 9, 2) := by decide +kernel
theorem dX6_clears_259 : decode cX6_clears 259 = .ok (.imul, 1) := by decide +kernel
theorem dX6_clears_260 : decode cX6_clears 260 = .ok (.aload_n 0, 1) := by decide +kernel
theorem dX6_clears_261 : decode cX6_clears 261 = .ok (.getfield 7, 3) := by decide +kernel
theorem dX6_clears_264 : decode cX6_clears 264 = .ok (.irem, 1) := by decide +kernel
theorem dX6_clears_265 : decode cX6_clears 265 = .ok (.iastore, 1) := by decide +kernel
theorem dX6_clears_266 : decode cX6_clears 266 = .ok (.iinc 10 1, 3) := by decide +kernel
theorem dX6_clears_269 : decode cX6_clears 269 = .ok (.goto (-44), 3) := by decide +kernel
theorem dX6_clears_272 : decode cX6_clears 272 = .ok (.aload_n 0, 1) := by decide +kernel
theorem dX6_clears_273 : decode cX6_clears 273 = .ok (.iload 6, 2) := by decide +kernel
theorem dX6_clears_275 : decode cX6_clears 275 = .ok (.iload 7, 2) := by decide +kernel
theorem dX6_clears_277 : decode cX6_clears 277 = .ok (.iload 4, 2) := by decide +kernel
theorem dX6_clears_279 : decode cX6_clears 279 = .ok (.invokevirtual 91, 3) := by decide +kernel
theorem dX6_clears_282 : decode cX6_clears 282 = .ok (.iinc 6 1, 3) := by decide +kernel
theorem dX6_clears_285 : decode cX6_clears 285 = .ok (.iinc 7 1, 3) := by decide +kernel
theorem dX6_clears_288 : decode cX6_clears 288 = .ok (.goto (-147), 3) := by decide +kernel
theorem dX6_clears_291 : decode cX6_clears 291 = .ok (.iload 6, 2) := by decide +kernel
theorem dX6_clears_293 : decode cX6_clears 293 = .ok (.istore 7, 2) := by decide +kernel
theorem dX6_clears_295 : decode cX6_clears 295 = .ok (.iload 7, 2) := by decide +kernel
theorem dX6_clears_297 : decode cX6_clears 297 = .ok (.iload 4, 2) := by decide +kernel
theorem dX6_clears_299 : decode cX6_clears 299 = .ok (.if_icmp .ge 27, 3) := by decide +kernel
theorem dX6_clears_302 : decode cX6_clears 302 = .ok (.aload_n 0, 1) := by decide +kernel
theorem dX6_clears_303 : decode cX6_clears 303 = .ok (.getfield 45, 3) := by decide +kernel
theorem dX6_clears_306 : decode cX6_clears 306 = .ok (.bipush 13, 2) := by decide +kernel
theorem dX6_clears_308 : decode cX6_clears 308 = .ok (.iload 7, 2) := by decide +kernel
theorem dX6_clears_310 : decode cX6_clears 310 = .ok (.imul, 1) := by decide +kernel
theorem dX6_clears_311 : decode cX6_clears 311 = .ok (.bipush 12, 2) := by decide +kernel
theorem dX6_clears_313 : decode cX6_clears 313 = .ok (.iadd, 1) := by decide +kernel
theorem dX6_clears_314 : decode cX6_clears 314 = .ok (.iaload, 1) := by decide +kernel
theorem dX6_clears_315 : decode cX6_clears 315 = .ok (.ifCond .eq 5, 3) := by decide +kernel
theorem dX6_clears_318 : decode cX6_clears 318 = .ok (.iconst (-1), 1) := by decide +kernel
theorem dX6_clears_319 : decode cX6_clears 319 = .ok (.ireturn, 1) := by decide +kernel
theorem dX6_clears_320 : decode cX6_clears 320 = .ok (.iinc 7 1, 3) := by decide +kernel
theorem dX6_clears_323 : decode cX6_clears 323 = .ok (.goto (-28), 3) := by decide +kernel
theorem dX6_clears_326 : decode cX6_clears 326 = .ok (.iload 6, 2) := by decide +kernel
theorem dX6_clears_328 : decode cX6_clears 328 = .ok (.ireturn, 1) := by decide +kernel
theorem dX6_swaps_0 : decode cX6_swaps 0 = .ok (.iconst 0, 1) := by decide +kernel
theorem dX6_swaps_1 : decode cX6_swaps 1 = .ok (.istore_n 3, 1) := by decide +kernel
theorem dX6_swaps_2 : decode cX6_swaps 2 = .ok (.iload_n 3, 1) := by decide +kernel
theorem dX6_swaps_3 : decode cX6_swaps 3 = .ok (.bipush 13, 2) := by decide +kernel
theorem dX6_swaps_5 : decode cX6_swaps 5 = .ok (.if_icmp .ge 57, 3) := by decide +kernel
theorem dX6_swaps_8 : decode cX6_swaps 8 = .ok (.aload_n 0, 1) := by decide +kernel
theorem dX6_swaps_9 : decode cX6_swaps 9 = .ok (.getfield 45, 3) := by decide +kernel
theorem dX6_swaps_12 : decode cX6_swaps 12 = .ok (.bipush 13, 2) := by decide +kernel
theorem dX6_swaps_14 : decode cX6_swaps 14 = .ok (.iload_n 1, 1) := by decide +kernel
theorem dX6_swaps_15 : decode cX6_swaps 15 = .ok (.imul, 1) := by decide +kernel
theorem dX6_swaps_16 : decode cX6_swaps 16 = .ok (.iload_n 3, 1) := by decide +kernel
theorem dX6_swaps_17 : decode cX6_swaps 17 = .ok (.iadd, 1) := by decide +kernel
theorem dX6_swaps_18 : decode cX6_swaps 18 = .ok (.iaload, 1) := by decide +kernel
theorem dX6_swaps_19 : decode cX6_swaps 19 = .ok (.istore 4, 2) := by decide +kernel
theorem dX6_swaps_21 : decode cX6_swaps 21 = .ok (.aload_n 0, 1) := by decide +kernel
theorem dX6_swaps_22 : decode cX6_swaps 22 = .ok (.getfield 45, 3) := by decide +kernel
theorem dX6_swaps_25 : decode cX6_swaps 25 = .ok (.bipush 13, 2) := by decide +kernel
theorem dX6_swaps_27 : decode cX6_swaps 27 = .ok (.iload_n 1, 1) := by decide +kernel
theorem dX6_swaps_28 : decode cX6_swaps 28 = .ok (.imul, 1) := by decide +kernel
theorem dX6_swaps_29 : decode cX6_swaps 29 = .ok (.iload_n 3, 1) := by decide +kernel
theorem dX6_swaps_30 : decode cX6_swaps 30 = .ok (.iadd, 1) := by decide +kernel
theorem dX6_swaps_31 : decode cX6_swaps 31 = .ok (.aload_n 0, 1) := by decide +kernel
theorem dX6_swaps_32 : decode cX6_swaps 32 = .ok (.getfield 45, 3) := by decide +kernel
theorem dX6_swaps_35 : decode cX6_swaps 35 = .ok (.bipush 13, 2) := by decide +kernel
theorem dX6_swaps_37 : decode cX6_swaps 37 = .ok (.iload_n 2, 1) := by decide +kernel
theorem dX6_swaps_38 : decode cX6_swaps 38 = .ok (.imul, 1) := by decide +kernel
theorem dX6_swaps_39 : decode cX6_swaps 39 = .ok (.iload_n 3, 1) := by decide +kernel
theorem dX6_swaps_40 : decode cX6_swaps 40 = .ok (.iadd, 1) := by decide +kernel
theorem dX6_swaps_41 : decode cX6_swaps 41 = .ok (.iaload, 1) := by decide +kernel
theorem dX6_swaps_42 : decode cX6_swaps 42 = .ok (.iastore, 1) := by decide +kernel
theorem dX6_swaps_43 : decode cX6_swaps 43 = .ok (.aload_n 0, 1) := by decide +kernel
theorem dX6_swaps_44 : decode cX6_swaps 44 = .ok (.getfield 45, 3) := by decide +kernel
theorem dX6_swaps_47 : decode cX6_swaps 47 = .ok (.bipush 13, 2) := by decide +kernel
theorem dX6_swaps_49 : decode cX6_swaps 49 = .ok (.iload_n 2, 1) := by decide +kernel
theorem dX6_swaps_50 : decode cX6_swaps 50 = .ok (.imul, 1) := by decide +kernel
theorem dX6_swaps_51 : decode cX6_swaps 51 = .ok (.iload_n 3, 1) := by decide +kernel
theorem dX6_swaps_52 : decode cX6_swaps 52 = .ok (.iadd, 1) := by decide +kernel
theorem dX6_swaps_53 : decode cX6_swaps 53 = .ok (.iload 4, 2) := by decide +kernel
theorem dX6_swaps_55 : decode cX6_swaps 55 = .ok (.iastore, 1) := by decide +kernel
theorem dX6_swaps_56 : decode cX6_swaps 56 = .ok (.iinc 3 1, 3) := by decide +kernel
theorem dX6_swaps_59 : decode cX6_swaps 59 = .ok (.goto (-57), 3) := by decide +kernel
theorem dX6_swaps_62 : decode cX6_swaps 62 = .ok (.return_, 1) := by decide +kernel
theorem dX6_takes_0 : decode cX6_takes 0 = .ok (.iconst 0, 1) := by decide +kernel
theorem dX6_takes_1 : decode cX6_takes 1 = .ok (.istore 4, 2) := by decide +kernel
theorem dX6_takes_3 : decode cX6_takes 3 = .ok (.iload 4, 2) := by decide +kernel
theorem dX6_takes_5 : decode cX6_takes 5 = .ok (.iload_n 3, 1) := by decide +kernel
theorem dX6_takes_6 : decode cX6_takes 6 = .ok (.if_icmp .ge 95, 3) := by decide +kernel
theorem dX6_takes_9 : decode cX6_takes 9 = .ok (.iload 4, 2) := by decide +kernel
theorem dX6_takes_11 : decode cX6_takes 11 = .ok (.iload_n 1, 1) := by decide +kernel
theorem dX6_takes_12 : decode cX6_takes 12 = .ok (.if_icmp .ne 7, 3) := by decide +kernel
theorem dX6_takes_15 : decode cX6_takes 15 = .ok (.iconst 0, 1) := by decide +kernel
theorem dX6_takes_16 : decode cX6_takes 16 = .ok (.goto 15, 3) := by decide +kernel
theorem dX6_takes_19 : decode cX6_takes 19 = .ok (.aload_n 0, 1) := by decide +kernel
theorem dX6_takes_20 : decode cX6_takes 20 = .ok (.getfield 45, 3) := by decide +kernel
theorem dX6_takes_23 : decode cX6_takes 23 = .ok (.bipush 13, 2) := by decide +kernel
theorem dX6_takes_25 : decode cX6_takes 25 = .ok (.iload 4, 2) := by decide +kernel
theorem dX6_takes_27 : decode cX6_takes 27 = .ok (.imul, 1) := by decide +kernel
theorem dX6_takes_28 : decode cX6_takes 28 = .ok (.iload_n 2, 1) := by decide +kernel
theorem dX6_takes_29 : decode cX6_takes 29 = .ok (.iadd, 1) := by decide +kernel
theorem dX6_takes_30 : decode cX6_takes 30 = .ok (.iaload, 1) := by decide +kernel
theorem dX6_takes_31 : decode cX6_takes 31 = .ok (.istore 5, 2) := by decide +kernel
theorem dX6_takes_33 : decode cX6_takes 33 = .ok (.iconst 0, 1) := by decide +kernel
theorem dX6_takes_34 : decode cX6_takes 34 = .ok (.istore 6, 2) := by decide +kernel
theorem dX6_takes_36 : decode cX6_takes 36 = .ok (.iload 6, 2) := by decide +kernel
theorem dX6_takes_38 : decode cX6_takes 38 = .ok (.bipush 13, 2) := by decide +kernel
theorem dX6_takes_40 : decode cX6_takes 40 = .ok (.if_icmp .ge 55, 3) := by decide +kernel
theorem dX6_takes_43 : decode cX6_takes 43 = .ok (.aload_n 0, 1) := by decide +kernel
theorem dX6_takes_44 : decode cX6_takes 44 = .ok (.getfield 45, 3) := by decide +kernel
theorem dX6_takes_47 : decode cX6_takes 47 = .ok (.bipush 13, 2) := by decide +kernel
theorem dX6_takes_49 : decode cX6_takes 49 = .ok (.iload 4, 2) := by decide +kernel
theorem dX6_takes_51 : decode cX6_takes 51 = .ok (.imul, 1) := by decide +kernel
theorem dX6_takes_52 : decode cX6_takes 52 = .ok (.iload 6, 2) := by decide +kernel
theorem dX6_takes_54 : decode cX6_takes 54 = .ok (.iadd, 1) := by decide +kernel
theorem dX6_takes_55 : decode cX6_takes 55 = .ok (.aload_n 0, 1) := by decide +kernel
theorem dX6_takes_56 : decode cX6_takes 56 = .ok (.aload_n 0, 1) := by decide +kernel
theorem dX6_takes_57 : decode cX6_takes 57 = .ok (.getfield 45, 3) := by decide +kernel
theorem dX6_takes_60 : decode cX6_takes 60 = .ok (.bipush 13, 2) := by decide +kernel
theorem dX6_takes_62 : decode cX6_takes 62 = .ok (.iload 4, 2) := by decide +kernel
theorem dX6_takes_64 : decode cX6_takes 64 = .ok (.imul, 1) := by decide +kernel
theorem dX6_takes_65 : decode cX6_takes 65 = .ok (.iload 6, 2) := by decide +kernel
theorem dX6_takes_67 : decode cX6_takes 67 = .ok (.iadd, 1) := by decide +kernel
theorem dX6_takes_68 : decode cX6_takes 68 = .ok (.iaload, 1) := by decide +kernel
theorem dX6_takes_69 : decode cX6_takes 69 = .ok (.iload 5, 2) := by decide +kernel
theorem dX6_takes_71 : decode cX6_takes 71 = .ok (.aload_n 0, 1) := by decide +kernel
theorem dX6_takes_72 : decode cX6_takes 72 = .ok (.getfield 45, 3) := by decide +kernel
theorem dX6_takes_75 : decode cX6_takes 75 = .ok (.bipush 13, 2) := by decide +kernel
theorem dX6_takes_77 : decode cX6_takes 77 = .ok (.iload_n 1, 1) := by decide +kernel
theorem dX6_takes_78 : decode cX6_takes 78 = .ok (.imul, 1) := by decide +kernel
theorem dX6_takes_79 : decode cX6_takes 79 = .ok (.iload 6, 2) := by decide +kernel
theorem dX6_takes_81 : decode cX6_takes 81 = .ok (.iadd, 1) := by decide +kernel
theorem dX6_takes_82 : decode cX6_takes 82 = .ok (.iaload, 1) := by decide +kernel
theorem dX6_takes_83 : decode cX6_takes 83 = .ok (.imul, 1) := by decide +kernel
theorem dX6_takes_84 : decode cX6_takes 84 = .ok (.isub, 1) := by decide +kernel
theorem dX6_takes_85 : decode cX6_takes 85 = .ok (.invokevirtual 77, 3) := by decide +kernel
theorem dX6_takes_88 : decode cX6_takes 88 = .ok (.iastore, 1) := by decide +kernel
theorem dX6_takes_89 : decode cX6_takes 89 = .ok (.iinc 6 1, 3) := by decide +kernel
theorem dX6_takes_92 : decode cX6_takes 92 = .ok (.goto (-56), 3) := by decide +kernel
theorem dX6_takes_95 : decode cX6_takes 95 = .ok (.iinc 4 1, 3) := by decide +kernel
theorem dX6_takes_98 : decode cX6_takes 98 = .ok (.goto (-95), 3) := by decide +kernel
theorem dX6_takes_101 : decode cX6_takes 101 = .ok (.return_, 1) := by decide +kernel
theorem dX6_bits_0 : decode cX6_bits 0 = .ok (.iconst 0, 1) := by decide +kernel
theorem dX6_bits_1 : decode cX6_bits 1 = .ok (.istore_n 1, 1) := by decide +kernel
theorem dX6_bits_2 : decode cX6_bits 2 = .ok (.iconst 0, 1) := by decide +kernel
theorem dX6_bits_3 : decode cX6_bits 3 = .ok (.istore_n 2, 1) := by decide +kernel
theorem dX6_bits_4 : decode cX6_bits 4 = .ok (.iload_n 2, 1) := by decide +kernel
theorem dX6_bits_5 : decode cX6_bits 5 = .ok (.bipush 12, 2) := by decide +kernel
theorem dX6_bits_7 : decode cX6_bits 7 = .ok (.if_icmp .ge 17, 3) := by decide +kernel
theorem dX6_bits_10 : decode cX6_bits 10 = .ok (.iload_n 1, 1) := by decide +kernel
theorem dX6_bits_11 : decode cX6_bits 11 = .ok (.iload_n 0, 1) := by decide +kernel
theorem dX6_bits_12 : decode cX6_bits 12 = .ok (.iload_n 2, 1) := by decide +kernel
theorem dX6_bits_13 : decode cX6_bits 13 = .ok (.ishr, 1) := by decide +kernel
theorem dX6_bits_14 : decode cX6_bits 14 = .ok (.iconst 1, 1) := by decide +kernel
theorem dX6_bits_15 : decode cX6_bits 15 = .ok (.iand, 1) := by decide +kernel
theorem dX6_bits_16 : decode cX6_bits 16 = .ok (.iadd, 1) := by decide +kernel
theorem dX6_bits_17 : decode cX6_bits 17 = .ok (.istore_n 1, 1) := by decide +kernel
theorem dX6_bits_18 : decode cX6_bits 18 = .ok (.iinc 2 1, 3) := by decide +kernel
theorem dX6_bits_21 : decode cX6_bits 21 = .ok (.goto (-17), 3) := by decide +kernel
theorem dX6_bits_24 : decode cX6_bits 24 = .ok (.iload_n 1, 1) := by decide +kernel
theorem dX6_bits_25 : decode cX6_bits 25 = .ok (.ireturn, 1) := by decide +kernel
theorem dX6_rankOf_0 : decode cX6_rankOf 0 = .ok (.aload_n 0, 1) := by decide +kernel
theorem dX6_rankOf_1 : decode cX6_rankOf 1 = .ok (.iload_n 1, 1) := by decide +kernel
theorem dX6_rankOf_2 : decode cX6_rankOf 2 = .ok (.iconst 0, 1) := by decide +kernel
theorem dX6_rankOf_3 : decode cX6_rankOf 3 = .ok (.iconst (-1), 1) := by decide +kernel
theorem dX6_rankOf_4 : decode cX6_rankOf 4 = .ok (.invokevirtual 95, 3) := by decide +kernel
theorem dX6_rankOf_7 : decode cX6_rankOf 7 = .ok (.ireturn, 1) := by decide +kernel
theorem dX6_spark_0 : decode cX6_spark 0 = .ok (.aload_n 0, 1) := by decide +kernel
theorem dX6_spark_1 : decode cX6_spark 1 = .ok (.getfield 16, 3) := by decide +kernel
theorem dX6_spark_4 : decode cX6_spark 4 = .ok (.iconst 1, 1) := by decide +kernel
theorem dX6_spark_5 : decode cX6_spark 5 = .ok (.iadd, 1) := by decide +kernel
theorem dX6_spark_6 : decode cX6_spark 6 = .ok (.istore_n 1, 1) := by decide +kernel
theorem dX6_spark_7 : decode cX6_spark 7 = .ok (.iconst 1, 1) := by decide +kernel
theorem dX6_spark_8 : decode cX6_spark 8 = .ok (.istore_n 2, 1) := by decide +kernel
theorem dX6_spark_9 : decode cX6_spark 9 = .ok (.iload_n 2, 1) := by decide +kernel
theorem dX6_spark_10 : decode cX6_spark 10 = .ok (.iconst 1, 1) := by decide +kernel
theorem dX6_spark_11 : decode cX6_spark 11 = .ok (.aload_n 0, 1) := by decide +kernel
theorem dX6_spark_12 : decode cX6_spark 12 = .ok (.getfield 16, 3) := by decide +kernel
theorem dX6_spark_15 : decode cX6_spark 15 = .ok (.ishl, 1) := by decide +kernel
theorem dX6_spark_16 : decode cX6_spark 16 = .ok (.if_icmp .ge 38, 3) := by decide +kernel
theorem dX6_spark_19 : decode cX6_spark 19 = .ok (.iload_n 2, 1) := by decide +kernel
theorem dX6_spark_20 : decode cX6_spark 20 = .ok (.invokestatic 81, 3) := by decide +kernel
theorem dX6_spark_23 : decode cX6_spark 23 = .ok (.iload_n 1, 1) := by decide +kernel
theorem dX6_spark_24 : decode cX6_spark 24 = .ok (.if_icmp .ge 22, 3) := by decide +kernel
theorem dX6_spark_27 : decode cX6_spark 27 = .ok (.aload_n 0, 1) := by decide +kernel
theorem dX6_spark_28 : decode cX6_spark 28 = .ok (.iload_n 2, 1) := by decide +kernel
theorem dX6_spark_29 : decode cX6_spark 29 = .ok (.invokevirtual 99, 3) := by decide +kernel
theorem dX6_spark_32 : decode cX6_spark 32 = .ok (.iload_n 2, 1) := by decide +kernel
theorem dX6_spark_33 : decode cX6_spark 33 = .ok (.invokestatic 81, 3) := by decide +kernel
theorem dX6_spark_36 : decode cX6_spark 36 = .ok (.if_icmp .ge 10, 3) := by decide +kernel
theorem dX6_spark_39 : decode cX6_spark 39 = .ok (.iload_n 2, 1) := by decide +kernel
theorem dX6_spark_40 : decode cX6_spark 40 = .ok (.invokestatic 81, 3) := by decide +kernel
theorem dX6_spark_43 : decode cX6_spark 43 = .ok (.goto 4, 3) := by decide +kernel
theorem dX6_spark_46 : decode cX6_spark 46 = .ok (.iload_n 1, 1) := by decide +kernel
theorem dX6_spark_47 : decode cX6_spark 47 = .ok (.istore_n 1, 1) := by decide +kernel
theorem dX6_spark_48 : decode cX6_spark 48 = .ok (.iinc 2 1, 3) := by decide +kernel
theorem dX6_spark_51 : decode cX6_spark 51 = .ok (.goto (-42), 3) := by decide +kernel
theorem dX6_spark_54 : decode cX6_spark 54 = .ok (.iload_n 1, 1) := by decide +kernel
theorem dX6_spark_55 : decode cX6_spark 55 = .ok (.ireturn, 1) := by decide +kernel
theorem dX6_alike_0 : decode cX6_alike 0 = .ok (.iconst 0, 1) := by decide +kernel
theorem dX6_alike_1 : decode cX6_alike 1 = .ok (.istore_n 1, 1) := by decide +kernel
theorem dX6_alike_2 : decode cX6_alike 2 = .ok (.iconst 0, 1) := by decide +kernel
theorem dX6_alike_3 : decode cX6_alike 3 = .ok (.istore_n 2, 1) := by decide +kernel
theorem dX6_alike_4 : decode cX6_alike 4 = .ok (.iload_n 2, 1) := by decide +kernel
theorem dX6_alike_5 : decode cX6_alike 5 = .ok (.aload_n 0, 1) := by decide +kernel
theorem dX6_alike_6 : decode cX6_alike 6 = .ok (.getfield 16, 3) := by decide +kernel
theorem dX6_alike_9 : decode cX6_alike 9 = .ok (.if_icmp .ge 124, 3) := by decide +kernel
theorem dX6_alike_12 : decode cX6_alike 12 = .ok (.iload_n 2, 1) := by decide +kernel
theorem dX6_alike_13 : decode cX6_alike 13 = .ok (.iconst 1, 1) := by decide +kernel
theorem dX6_alike_14 : decode cX6_alike 14 = .ok (.iadd, 1) := by decide +kernel
theorem dX6_alike_15 : decode cX6_alike 15 = .ok (.istore_n 3, 1) := by decide +kernel
theorem dX6_alike_16 : decode cX6_alike 16 = .ok (.iload_n 3, 1) := by decide +kernel
theorem dX6_alike_17 : decode cX6_alike 17 = .ok (.aload_n 0, 1) := by decide +kernel
theorem dX6_alike_18 : decode cX6_alike 18 = .ok (.getfield 16, 3) := by decide +kernel
theorem dX6_alike_21 : decode cX6_alike 21 = .ok (.if_icmp .ge 106, 3) := by decide +kernel
theorem dX6_alike_24 : decode cX6_alike 24 = .ok (.iconst 1, 1) := by decide +kernel
theorem dX6_alike_25 : decode cX6_alike 25 = .ok (.istore 4, 2) := by decide +kernel
theorem dX6_alike_27 : decode cX6_alike 27 = .ok (.iload 4, 2) := by decide +kernel
theorem dX6_alike_29 : decode cX6_alike 29 = .ok (.aload_n 0, 1) := by decide +kernel
theorem dX6_alike_30 : decode cX6_alike 30 = .ok (.getfield 7, 3) := by decide +kernel
theorem dX6_alike_33 : decode cX6_alike 33 = .ok (.if_icmp .ge 88, 3) := by decide +kernel
theorem dX6_alike_36 : decode cX6_alike 36 = .ok (.iconst 0, 1) := by decide +kernel
theorem dX6_alike_37 : decode cX6_alike 37 = .ok (.istore 5, 2) := by decide +kernel
theorem dX6_alike_39 : decode cX6_alike 39 = .ok (.iconst 0, 1) := by decide +kernel
theorem dX6_alike_40 : decode cX6_alike 40 = .ok (.istore 6, 2) := by decide +kernel
theorem dX6_alike_42 : decode cX6_alike 42 = .ok (.iload 6, 2) := by decide +kernel
theorem dX6_alike_44 : decode cX6_alike 44 = .ok (.aload_n 0, 1) := by decide +kernel
theorem dX6_alike_45 : decode cX6_alike 45 = .ok (.getfield 13, 3) := by decide +kernel
theorem dX6_alike_48 : decode cX6_alike 48 = .ok (.if_icmp .ge 54, 3) := by decide +kernel
theorem dX6_alike_51 : decode cX6_alike 51 = .ok (.iload 5, 2) := by decide +kernel
theorem dX6_alike_53 : decode cX6_alike 53 = .ok (.aload_n 0, 1) := by decide +kernel
theorem dX6_alike_54 : decode cX6_alike 54 = .ok (.getfield 19, 3) := by decide +kernel
theorem dX6_alike_57 : decode cX6_alike 57 = .ok (.bipush 12, 2) := by decide +kernel
theorem dX6_alike_59 : decode cX6_alike 59 = .ok (.iload 6, 2) := by decide +kernel
theorem dX6_alike_61 : decode cX6_alike 61 = .ok (.imul, 1) := by decide +kernel
theorem dX6_alike_62 : decode cX6_alike 62 = .ok (.iload_n 2, 1) := by decide +kernel
theorem dX6_alike_63 : decode cX6_alike 63 = .ok (.iadd, 1) := by decide +kernel
theorem dX6_alike_64 : decode cX6_alike 64 = .ok (.iaload, 1) := by decide +kernel
theorem dX6_alike_65 : decode cX6_alike 65 = .ok (.iload 4, 2) := by decide +kernel
theorem dX6_alike_67 : decode cX6_alike 67 = .ok (.imul, 1) := by decide +kernel
theorem dX6_alike_68 : decode cX6_alike 68 = .ok (.aload_n 0, 1) := by decide +kernel
theorem dX6_alike_69 : decode cX6_alike 69 = .ok (.getfield 7, 3) := by decide +kernel
theorem dX6_alike_72 : decode cX6_alike 72 = .ok (.irem, 1) := by decide +kernel
theorem dX6_alike_73 : decode cX6_alike 73 = .ok (.aload_n 0, 1) := by decide +kernel
theorem dX6_alike_74 : decode cX6_alike 74 = .ok (.getfield 19, 3) := by decide +kernel
theorem dX6_alike_77 : decode cX6_alike 77 = .ok (.bipush 12, 2) := by decide +kernel
theorem dX6_alike_79 : decode cX6_alike 79 = .ok (.iload 6, 2) := by decide +kernel
theorem dX6_alike_81 : decode cX6_alike 81 = .ok (.imul, 1) := by decide +kernel
theorem dX6_alike_82 : decode cX6_alike 82 = .ok (.iload_n 3, 1) := by decide +kernel
theorem dX6_alike_83 : decode cX6_alike 83 = .ok (.iadd, 1) := by decide +kernel
theorem dX6_alike_84 : decode cX6_alike 84 = .ok (.iaload, 1) := by decide +kernel
theorem dX6_alike_85 : decode cX6_alike 85 = .ok (.if_icmp .ne 7, 3) := by decide +kernel
theorem dX6_alike_88 : decode cX6_alike 88 = .ok (.iconst 1, 1) := by decide +kernel
theorem dX6_alike_89 : decode cX6_alike 89 = .ok (.goto 4, 3) := by decide +kernel
theorem dX6_alike_92 : decode cX6_alike 92 = .ok (.iconst 0, 1) := by decide +kernel
theorem dX6_alike_93 : decode cX6_alike 93 = .ok (.iadd, 1) := by decide +kernel
theorem dX6_alike_94 : decode cX6_alike 94 = .ok (.istore 5, 2) := by decide +kernel
theorem dX6_alike_96 : decode cX6_alike 96 = .ok (.iinc 6 1, 3) := by decide +kernel
theorem dX6_alike_99 : decode cX6_alike 99 = .ok (.goto (-57), 3) := by decide +kernel
theorem dX6_alike_102 : decode cX6_alike 102 = .ok (.iload 5, 2) := by decide +kernel
theorem dX6_alike_104 : decode cX6_alike 104 = .ok (.iload_n 1, 1) := by decide +kernel
theorem dX6_alike_105 : decode cX6_alike 105 = .ok (.if_icmp .le 8, 3) := by decide +kernel
theorem dX6_alike_108 : decode cX6_alike 108 = .ok (.iload 5, 2) := by decide +kernel
theorem dX6_alike_110 : decode cX6_alike 110 = .ok (.goto 4, 3) := by decide +kernel
theorem dX6_alike_113 : decode cX6_alike 113 = .ok (.iload_n 1, 1) := by decide +kernel
theorem dX6_alike_114 : decode cX6_alike 114 = .ok (.istore_n 1, 1) := by decide +kernel
theorem dX6_alike_115 : decode cX6_alike 115 = .ok (.iinc 4 1, 3) := by decide +kernel
theorem dX6_alike_118 : decode cX6_alike 118 = .ok (.goto (-91), 3) := by decide +kernel
theorem dX6_alike_121 : decode cX6_alike 121 = .ok (.iinc 3 1, 3) := by decide +kernel
theorem dX6_alike_124 : decode cX6_alike 124 = .ok (.goto (-108), 3) := by decide +kernel
theorem dX6_alike_127 : decode cX6_alike 127 = .ok (.iinc 2 1, 3) := by decide +kernel
theorem dX6_alike_130 : decode cX6_alike 130 = .ok (.goto (-126), 3) := by decide +kernel
theorem dX6_alike_133 : decode cX6_alike 133 = .ok (.iload_n 1, 1) := by decide +kernel
theorem dX6_alike_134 : decode cX6_alike 134 = .ok (.ireturn, 1) := by decide +kernel
theorem dX6_judge_0 : decode cX6_judge 0 = .ok (.iload_n 1, 1) := by decide +kernel
theorem dX6_judge_1 : decode cX6_judge 1 = .ok (.tableswitch 63 0 3 #[31, 44, 49, 58], 31) := by decide +kernel
theorem dX6_judge_32 : decode cX6_judge 32 = .ok (.aload_n 0, 1) := by decide +kernel
theorem dX6_judge_33 : decode cX6_judge 33 = .ok (.iconst 1, 1) := by decide +kernel
theorem dX6_judge_34 : decode cX6_judge 34 = .ok (.aload_n 0, 1) := by decide +kernel
theorem dX6_judge_35 : decode cX6_judge 35 = .ok (.getfield 16, 3) := by decide +kernel
theorem dX6_judge_38 : decode cX6_judge 38 = .ok (.ishl, 1) := by decide +kernel
theorem dX6_judge_39 : decode cX6_judge 39 = .ok (.iconst 1, 1) := by decide +kernel
theorem dX6_judge_40 : decode cX6_judge 40 = .ok (.isub, 1) := by decide +kernel
theorem dX6_judge_41 : decode cX6_judge 41 = .ok (.invokevirtual 99, 3) := by decide +kernel
theorem dX6_judge_44 : decode cX6_judge 44 = .ok (.ireturn, 1) := by decide +kernel
theorem dX6_judge_45 : decode cX6_judge 45 = .ok (.aload_n 0, 1) := by decide +kernel
theorem dX6_judge_46 : decode cX6_judge 46 = .ok (.invokevirtual 102, 3) := by decide +kernel
theorem dX6_judge_49 : decode cX6_judge 49 = .ok (.ireturn, 1) := by decide +kernel
theorem dX6_judge_50 : decode cX6_judge 50 = .ok (.aload_n 0, 1) := by decide +kernel
theorem dX6_judge_51 : decode cX6_judge 51 = .ok (.invokevirtual 102, 3) := by decide +kernel
theorem dX6_judge_54 : decode cX6_judge 54 = .ok (.iconst 1, 1) := by decide +kernel
theorem dX6_judge_55 : decode cX6_judge 55 = .ok (.isub, 1) := by decide +kernel
theorem dX6_judge_56 : decode cX6_judge 56 = .ok (.iconst 2, 1) := by decide +kernel
theorem dX6_judge_57 : decode cX6_judge 57 = .ok (.idiv, 1) := by decide +kernel
theorem dX6_judge_58 : decode cX6_judge 58 = .ok (.ireturn, 1) := by decide +kernel
theorem dX6_judge_59 : decode cX6_judge 59 = .ok (.aload_n 0, 1) := by decide +kernel
theorem dX6_judge_60 : decode cX6_judge 60 = .ok (.invokevirtual 106, 3) := by decide +kernel
theorem dX6_judge_63 : decode cX6_judge 63 = .ok (.ireturn, 1) := by decide +kernel
theorem dX6_judge_64 : decode cX6_judge 64 = .ok (.iconst (-1), 1) := by decide +kernel
theorem dX6_judge_65 : decode cX6_judge 65 = .ok (.ireturn, 1) := by decide +kernel
theorem dX6_isSix_0 : decode cX6_isSix 0 = .ok (.iload_n 0, 1) := by decide +kernel
theorem dX6_isSix_1 : decode cX6_isSix 1 = .ok (.i2l, 1) := by decide +kernel
theorem dX6_isSix_2 : decode cX6_isSix 2 = .ok (.lconst 0, 1) := by decide +kernel
theorem dX6_isSix_3 : decode cX6_isSix 3 = .ok (.ldc2_w 109, 3) := by decide +kernel
theorem dX6_isSix_6 : decode cX6_isSix 6 = .ok (.invokestatic 61, 3) := by decide +kernel
theorem dX6_isSix_9 : decode cX6_isSix 9 = .ok (.ireturn, 1) := by decide +kernel
theorem dX6_weight_0 : decode cX6_weight 0 = .ok (.iconst 0, 1) := by decide +kernel
theorem dX6_weight_1 : decode cX6_weight 1 = .ok (.istore 4, 2) := by decide +kernel
theorem dX6_weight_3 : decode cX6_weight 3 = .ok (.iconst 0, 1) := by decide +kernel
theorem dX6_weight_4 : decode cX6_weight 4 = .ok (.istore 5, 2) := by decide +kernel
theorem dX6_weight_6 : decode cX6_weight 6 = .ok (.iload 5, 2) := by decide +kernel
theorem dX6_weight_8 : decode cX6_weight 8 = .ok (.iload_n 3, 1) := by decide +kernel
theorem dX6_weight_9 : decode cX6_weight 9 = .ok (.if_icmp .ge 28, 3) := by decide +kernel
theorem dX6_weight_12 : decode cX6_weight 12 = .ok (.iload 4, 2) := by decide +kernel
theorem dX6_weight_14 : decode cX6_weight 14 = .ok (.aload_n 1, 1) := by decide +kernel
theorem dX6_weight_15 : decode cX6_weight 15 = .ok (.iload_n 2, 1) := by decide +kernel
theorem dX6_weight_16 : decode cX6_weight 16 = .ok (.iload 5, 2) := by decide +kernel
theorem dX6_weight_18 : decode cX6_weight 18 = .ok (.iadd, 1) := by decide +kernel
theorem dX6_weight_19 : decode cX6_weight 19 = .ok (.iaload, 1) := by decide +kernel
theorem dX6_weight_20 : decode cX6_weight 20 = .ok (.ifCond .ne 7, 3) := by decide +kernel
theorem dX6_weight_23 : decode cX6_weight 23 = .ok (.iconst 0, 1) := by decide +kernel
theorem dX6_weight_24 : decode cX6_weight 24 = .ok (.goto 4, 3) := by decide +kernel
theorem dX6_weight_27 : decode cX6_weight 27 = .ok (.iconst 1, 1) := by decide +kernel
theorem dX6_weight_28 : decode cX6_weight 28 = .ok (.iadd, 1) := by decide +kernel
theorem dX6_weight_29 : decode cX6_weight 29 = .ok (.istore 4, 2) := by decide +kernel
theorem dX6_weight_31 : decode cX6_weight 31 = .ok (.iinc 5 1, 3) := by decide +kernel
theorem dX6_weight_34 : decode cX6_weight 34 = .ok (.goto (-28), 3) := by decide +kernel
theorem dX6_weight_37 : decode cX6_weight 37 = .ok (.iload 4, 2) := by decide +kernel
theorem dX6_weight_39 : decode cX6_weight 39 = .ok (.ireturn, 1) := by decide +kernel
theorem dX6_put_0 : decode cX6_put 0 = .ok (.iload_n 1, 1) := by decide +kernel
theorem dX6_put_1 : decode cX6_put 1 = .ok (.invokestatic 111, 3) := by decide +kernel
theorem dX6_put_4 : decode cX6_put 4 = .ok (.ifCond .eq 19, 3) := by decide +kernel
theorem dX6_put_7 : decode cX6_put 7 = .ok (.iload_n 2, 1) := by decide +kernel
theorem dX6_put_8 : decode cX6_put 8 = .ok (.i2l, 1) := by decide +kernel
theorem dX6_put_9 : decode cX6_put 9 = .ok (.lconst 0, 1) := by decide +kernel
theorem dX6_put_10 : decode cX6_put 10 = .ok (.aload_n 0, 1) := by decide +kernel
theorem dX6_put_11 : decode cX6_put 11 = .ok (.getfield 16, 3) := by decide +kernel
theorem dX6_put_14 : decode cX6_put 14 = .ok (.iconst 1, 1) := by decide +kernel
theorem dX6_put_15 : decode cX6_put 15 = .ok (.isub, 1) := by decide +kernel
theorem dX6_put_16 : decode cX6_put 16 = .ok (.i2l, 1) := by decide +kernel
theorem dX6_put_17 : decode cX6_put 17 = .ok (.invokestatic 61, 3) := by decide +kernel
theorem dX6_put_20 : decode cX6_put 20 = .ok (.ifCond .ne 5, 3) := by decide +kernel
theorem dX6_put_23 : decode cX6_put 23 = .ok (.iconst (-1), 1) := by decide +kernel
theorem dX6_put_24 : decode cX6_put 24 = .ok (.ireturn, 1) := by decide +kernel
theorem dX6_put_25 : decode cX6_put 25 = .ok (.aload_n 0, 1) := by decide +kernel
theorem dX6_put_26 : decode cX6_put 26 = .ok (.getfield 23, 3) := by decide +kernel
theorem dX6_put_29 : decode cX6_put 29 = .ok (.bipush 12, 2) := by decide +kernel
theorem dX6_put_31 : decode cX6_put 31 = .ok (.iload_n 1, 1) := by decide +kernel
theorem dX6_put_32 : decode cX6_put 32 = .ok (.imul, 1) := by decide +kernel
theorem dX6_put_33 : decode cX6_put 33 = .ok (.iload_n 2, 1) := by decide +kernel
theorem dX6_put_34 : decode cX6_put 34 = .ok (.iadd, 1) := by decide +kernel
theorem dX6_put_35 : decode cX6_put 35 = .ok (.aload_n 0, 1) := by decide +kernel
theorem dX6_put_36 : decode cX6_put 36 = .ok (.iload_n 3, 1) := by decide +kernel
theorem dX6_put_37 : decode cX6_put 37 = .ok (.invokevirtual 77, 3) := by decide +kernel
theorem dX6_put_40 : decode cX6_put 40 = .ok (.iastore, 1) := by decide +kernel
theorem dX6_put_41 : decode cX6_put 41 = .ok (.aload_n 0, 1) := by decide +kernel
theorem dX6_put_42 : decode cX6_put 42 = .ok (.aload_n 0, 1) := by decide +kernel
theorem dX6_put_43 : decode cX6_put 43 = .ok (.getfield 23, 3) := by decide +kernel
theorem dX6_put_46 : decode cX6_put 46 = .ok (.bipush 12, 2) := by decide +kernel
theorem dX6_put_48 : decode cX6_put 48 = .ok (.iload_n 1, 1) := by decide +kernel
theorem dX6_put_49 : decode cX6_put 49 = .ok (.imul, 1) := by decide +kernel
theorem dX6_put_50 : decode cX6_put 50 = .ok (.aload_n 0, 1) := by decide +kernel
theorem dX6_put_51 : decode cX6_put 51 = .ok (.getfield 16, 3) := by decide +kernel
theorem dX6_put_54 : decode cX6_put 54 = .ok (.invokevirtual 114, 3) := by decide +kernel
theorem dX6_put_57 : decode cX6_put 57 = .ok (.ireturn, 1) := by decide +kernel
theorem dX6_row_0 : decode cX6_row 0 = .ok (.iload_n 1, 1) := by decide +kernel
theorem dX6_row_1 : decode cX6_row 1 = .ok (.invokestatic 111, 3) := by decide +kernel
theorem dX6_row_4 : decode cX6_row 4 = .ok (.ifCond .eq 21, 3) := by decide +kernel
theorem dX6_row_7 : decode cX6_row 7 = .ok (.iload_n 2, 1) := by decide +kernel
theorem dX6_row_8 : decode cX6_row 8 = .ok (.i2l, 1) := by decide +kernel
theorem dX6_row_9 : decode cX6_row 9 = .ok (.ldc2_w 118, 3) := by decide +kernel
theorem dX6_row_12 : decode cX6_row 12 = .ok (.aload_n 0, 1) := by decide +kernel
theorem dX6_row_13 : decode cX6_row 13 = .ok (.getfield 16, 3) := by decide +kernel
theorem dX6_row_16 : decode cX6_row 16 = .ok (.iconst 1, 1) := by decide +kernel
theorem dX6_row_17 : decode cX6_row 17 = .ok (.isub, 1) := by decide +kernel
theorem dX6_row_18 : decode cX6_row 18 = .ok (.i2l, 1) := by decide +kernel
theorem dX6_row_19 : decode cX6_row 19 = .ok (.invokestatic 61, 3) := by decide +kernel
theorem dX6_row_22 : decode cX6_row 22 = .ok (.ifCond .ne 5, 3) := by decide +kernel
theorem dX6_row_25 : decode cX6_row 25 = .ok (.iconst (-1), 1) := by decide +kernel
theorem dX6_row_26 : decode cX6_row 26 = .ok (.ireturn, 1) := by decide +kernel
theorem dX6_row_27 : decode cX6_row 27 = .ok (.iload_n 2, 1) := by decide +kernel
theorem dX6_row_28 : decode cX6_row 28 = .ok (.ifCond .ge 22, 3) := by decide +kernel
theorem dX6_row_31 : decode cX6_row 31 = .ok (.aload_n 0, 1) := by decide +kernel
theorem dX6_row_32 : decode cX6_row 32 = .ok (.aload_n 0, 1) := by decide +kernel
theorem dX6_row_33 : decode cX6_row 33 = .ok (.getfield 23, 3) := by decide +kernel
theorem dX6_row_36 : decode cX6_row 36 = .ok (.bipush 12, 2) := by decide +kernel
theorem dX6_row_38 : decode cX6_row 38 = .ok (.iload_n 1, 1) := by decide +kernel
theorem dX6_row_39 : decode cX6_row 39 = .ok (.imul, 1) := by decide +kernel
theorem dX6_row_40 : decode cX6_row 40 = .ok (.aload_n 0, 1) := by decide +kernel
theorem dX6_row_41 : decode cX6_row 41 = .ok (.getfield 16, 3) := by decide +kernel
theorem dX6_row_44 : decode cX6_row 44 = .ok (.invokevirtual 114, 3) := by decide +kernel
theorem dX6_row_47 : decode cX6_row 47 = .ok (.goto 14, 3) := by decide +kernel
theorem dX6_row_50 : decode cX6_row 50 = .ok (.aload_n 0, 1) := by decide +kernel
theorem dX6_row_51 : decode cX6_row 51 = .ok (.getfield 23, 3) := by decide +kernel
theorem dX6_row_54 : decode cX6_row 54 = .ok (.bipush 12, 2) := by decide +kernel
theorem dX6_row_56 : decode cX6_row 56 = .ok (.iload_n 1, 1) := by decide +kernel
theorem dX6_row_57 : decode cX6_row 57 = .ok (.imul, 1) := by decide +kernel
theorem dX6_row_58 : decode cX6_row 58 = .ok (.iload_n 2, 1) := by decide +kernel
theorem dX6_row_59 : decode cX6_row 59 = .ok (.iadd, 1) := by decide +kernel
theorem dX6_row_60 : decode cX6_row 60 = .ok (.iaload, 1) := by decide +kernel
theorem dX6_row_61 : decode cX6_row 61 = .ok (.ireturn, 1) := by decide +kernel
theorem dX6_sum_0 : decode cX6_sum 0 = .ok (.iload_n 1, 1) := by decide +kernel
theorem dX6_sum_1 : decode cX6_sum 1 = .ok (.invokestatic 111, 3) := by decide +kernel
theorem dX6_sum_4 : decode cX6_sum 4 = .ok (.ifCond .eq 19, 3) := by decide +kernel
theorem dX6_sum_7 : decode cX6_sum 7 = .ok (.iload_n 2, 1) := by decide +kernel
theorem dX6_sum_8 : decode cX6_sum 8 = .ok (.i2l, 1) := by decide +kernel
theorem dX6_sum_9 : decode cX6_sum 9 = .ok (.lconst 0, 1) := by decide +kernel
theorem dX6_sum_10 : decode cX6_sum 10 = .ok (.aload_n 0, 1) := by decide +kernel
theorem dX6_sum_11 : decode cX6_sum 11 = .ok (.getfield 13, 3) := by decide +kernel
theorem dX6_sum_14 : decode cX6_sum 14 = .ok (.iconst 1, 1) := by decide +kernel
theorem dX6_sum_15 : decode cX6_sum 15 = .ok (.isub, 1) := by decide +kernel
theorem dX6_sum_16 : decode cX6_sum 16 = .ok (.i2l, 1) := by decide +kernel
theorem dX6_sum_17 : decode cX6_sum 17 = .ok (.invokestatic 61, 3) := by decide +kernel
theorem dX6_sum_20 : decode cX6_sum 20 = .ok (.ifCond .ne 5, 3) := by decide +kernel
theorem dX6_sum_23 : decode cX6_sum 23 = .ok (.iconst (-1), 1) := by decide +kernel
theorem dX6_sum_24 : decode cX6_sum 24 = .ok (.ireturn, 1) := by decide +kernel
theorem dX6_sum_25 : decode cX6_sum 25 = .ok (.aload_n 0, 1) := by decide +kernel
theorem dX6_sum_26 : decode cX6_sum 26 = .ok (.getfield 26, 3) := by decide +kernel
theorem dX6_sum_29 : decode cX6_sum 29 = .ok (.bipush 6, 2) := by decide +kernel
theorem dX6_sum_31 : decode cX6_sum 31 = .ok (.iload_n 1, 1) := by decide +kernel
theorem dX6_sum_32 : decode cX6_sum 32 = .ok (.imul, 1) := by decide +kernel
theorem dX6_sum_33 : decode cX6_sum 33 = .ok (.iload_n 2, 1) := by decide +kernel
theorem dX6_sum_34 : decode cX6_sum 34 = .ok (.iadd, 1) := by decide +kernel
theorem dX6_sum_35 : decode cX6_sum 35 = .ok (.aload_n 0, 1) := by decide +kernel
theorem dX6_sum_36 : decode cX6_sum 36 = .ok (.iload_n 3, 1) := by decide +kernel
theorem dX6_sum_37 : decode cX6_sum 37 = .ok (.invokevirtual 77, 3) := by decide +kernel
theorem dX6_sum_40 : decode cX6_sum 40 = .ok (.iastore, 1) := by decide +kernel
theorem dX6_sum_41 : decode cX6_sum 41 = .ok (.aload_n 0, 1) := by decide +kernel
theorem dX6_sum_42 : decode cX6_sum 42 = .ok (.aload_n 0, 1) := by decide +kernel
theorem dX6_sum_43 : decode cX6_sum 43 = .ok (.getfield 26, 3) := by decide +kernel
theorem dX6_sum_46 : decode cX6_sum 46 = .ok (.bipush 6, 2) := by decide +kernel
theorem dX6_sum_48 : decode cX6_sum 48 = .ok (.iload_n 1, 1) := by decide +kernel
theorem dX6_sum_49 : decode cX6_sum 49 = .ok (.imul, 1) := by decide +kernel
theorem dX6_sum_50 : decode cX6_sum 50 = .ok (.aload_n 0, 1) := by decide +kernel
theorem dX6_sum_51 : decode cX6_sum 51 = .ok (.getfield 13, 3) := by decide +kernel
theorem dX6_sum_54 : decode cX6_sum 54 = .ok (.invokevirtual 114, 3) := by decide +kernel
theorem dX6_sum_57 : decode cX6_sum 57 = .ok (.ireturn, 1) := by decide +kernel
theorem dX6_told_0 : decode cX6_told 0 = .ok (.iload_n 1, 1) := by decide +kernel
theorem dX6_told_1 : decode cX6_told 1 = .ok (.invokestatic 111, 3) := by decide +kernel
theorem dX6_told_4 : decode cX6_told 4 = .ok (.ifCond .eq 21, 3) := by decide +kernel
theorem dX6_told_7 : decode cX6_told 7 = .ok (.iload_n 2, 1) := by decide +kernel
theorem dX6_told_8 : decode cX6_told 8 = .ok (.i2l, 1) := by decide +kernel
theorem dX6_told_9 : decode cX6_told 9 = .ok (.ldc2_w 118, 3) := by decide +kernel
theorem dX6_told_12 : decode cX6_told 12 = .ok (.aload_n 0, 1) := by decide +kernel
theorem dX6_told_13 : decode cX6_told 13 = .ok (.getfield 13, 3) := by decide +kernel
theorem dX6_told_16 : decode cX6_told 16 = .ok (.iconst 1, 1) := by decide +kernel
theorem dX6_told_17 : decode cX6_told 17 = .ok (.isub, 1) := by decide +kernel
theorem dX6_told_18 : decode cX6_told 18 = .ok (.i2l, 1) := by decide +kernel
theorem dX6_told_19 : decode cX6_told 19 = .ok (.invokestatic 61, 3) := by decide +kernel
theorem dX6_told_22 : decode cX6_told 22 = .ok (.ifCond .ne 5, 3) := by decide +kernel
theorem dX6_told_25 : decode cX6_told 25 = .ok (.iconst (-1), 1) := by decide +kernel
theorem dX6_told_26 : decode cX6_told 26 = .ok (.ireturn, 1) := by decide +kernel
theorem dX6_told_27 : decode cX6_told 27 = .ok (.iload_n 2, 1) := by decide +kernel
theorem dX6_told_28 : decode cX6_told 28 = .ok (.ifCond .ge 22, 3) := by decide +kernel
theorem dX6_told_31 : decode cX6_told 31 = .ok (.aload_n 0, 1) := by decide +kernel
theorem dX6_told_32 : decode cX6_told 32 = .ok (.aload_n 0, 1) := by decide +kernel
theorem dX6_told_33 : decode cX6_told 33 = .ok (.getfield 26, 3) := by decide +kernel
theorem dX6_told_36 : decode cX6_told 36 = .ok (.bipush 6, 2) := by decide +kernel
theorem dX6_told_38 : decode cX6_told 38 = .ok (.iload_n 1, 1) := by decide +kernel
theorem dX6_told_39 : decode cX6_told 39 = .ok (.imul, 1) := by decide +kernel
theorem dX6_told_40 : decode cX6_told 40 = .ok (.aload_n 0, 1) := by decide +kernel
theorem dX6_told_41 : decode cX6_told 41 = .ok (.getfield 13, 3) := by decide +kernel
theorem dX6_told_44 : decode cX6_told 44 = .ok (.invokevirtual 114, 3) := by decide +kernel
theorem dX6_told_47 : decode cX6_told 47 = .ok (.goto 14, 3) := by decide +kernel
theorem dX6_told_50 : decode cX6_told 50 = .ok (.aload_n 0, 1) := by decide +kernel
theorem dX6_told_51 : decode cX6_told 51 = .ok (.getfield 26, 3) := by decide +kernel
theorem dX6_told_54 : decode cX6_told 54 = .ok (.bipush 6, 2) := by decide +kernel
theorem dX6_told_56 : decode cX6_told 56 = .ok (.iload_n 1, 1) := by decide +kernel
theorem dX6_told_57 : decode cX6_told 57 = .ok (.imul, 1) := by decide +kernel
theorem dX6_told_58 : decode cX6_told 58 = .ok (.iload_n 2, 1) := by decide +kernel
theorem dX6_told_59 : decode cX6_told 59 = .ok (.iadd, 1) := by decide +kernel
theorem dX6_told_60 : decode cX6_told 60 = .ok (.iaload, 1) := by decide +kernel
theorem dX6_told_61 : decode cX6_told 61 = .ok (.ireturn, 1) := by decide +kernel
theorem dX6_tell_0 : decode cX6_tell 0 = .ok (.iload_n 1, 1) := by decide +kernel
theorem dX6_tell_1 : decode cX6_tell 1 = .ok (.invokestatic 111, 3) := by decide +kernel
theorem dX6_tell_4 : decode cX6_tell 4 = .ok (.ifCond .eq 10, 3) := by decide +kernel
theorem dX6_tell_7 : decode cX6_tell 7 = .ok (.iload_n 2, 1) := by decide +kernel
theorem dX6_tell_8 : decode cX6_tell 8 = .ok (.invokestatic 111, 3) := by decide +kernel
theorem dX6_tell_11 : decode cX6_tell 11 = .ok (.ifCond .ne 5, 3) := by decide +kernel
theorem dX6_tell_14 : decode cX6_tell 14 = .ok (.iconst (-1), 1) := by decide +kernel
theorem dX6_tell_15 : decode cX6_tell 15 = .ok (.ireturn, 1) := by decide +kernel
theorem dX6_tell_16 : decode cX6_tell 16 = .ok (.iconst 0, 1) := by decide +kernel
theorem dX6_tell_17 : decode cX6_tell 17 = .ok (.istore_n 3, 1) := by decide +kernel
theorem dX6_tell_18 : decode cX6_tell 18 = .ok (.iload_n 3, 1) := by decide +kernel
theorem dX6_tell_19 : decode cX6_tell 19 = .ok (.aload_n 0, 1) := by decide +kernel
theorem dX6_tell_20 : decode cX6_tell 20 = .ok (.getfield 13, 3) := by decide +kernel
theorem dX6_tell_23 : decode cX6_tell 23 = .ok (.if_icmp .ge 78, 3) := by decide +kernel
theorem dX6_tell_26 : decode cX6_tell 26 = .ok (.iconst 0, 1) := by decide +kernel
theorem dX6_tell_27 : decode cX6_tell 27 = .ok (.istore 4, 2) := by decide +kernel
theorem dX6_tell_29 : decode cX6_tell 29 = .ok (.iconst 0, 1) := by decide +kernel
theorem dX6_tell_30 : decode cX6_tell 30 = .ok (.istore 5, 2) := by decide +kernel
theorem dX6_tell_32 : decode cX6_tell 32 = .ok (.iload 5, 2) := by decide +kernel
theorem dX6_tell_34 : decode cX6_tell 34 = .ok (.aload_n 0, 1) := by decide +kernel
theorem dX6_tell_35 : decode cX6_tell 35 = .ok (.getfield 16, 3) := by decide +kernel
theorem dX6_tell_38 : decode cX6_tell 38 = .ok (.if_icmp .ge 39, 3) := by decide +kernel
theorem dX6_tell_41 : decode cX6_tell 41 = .ok (.iload 4, 2) := by decide +kernel
theorem dX6_tell_43 : decode cX6_tell 43 = .ok (.aload_n 0, 1) := by decide +kernel
theorem dX6_tell_44 : decode cX6_tell 44 = .ok (.getfield 19, 3) := by decide +kernel
theorem dX6_tell_47 : decode cX6_tell 47 = .ok (.bipush 12, 2) := by decide +kernel
theorem dX6_tell_49 : decode cX6_tell 49 = .ok (.iload_n 3, 1) := by decide +kernel
theorem dX6_tell_50 : decode cX6_tell 50 = .ok (.imul, 1) := by decide +kernel
theorem dX6_tell_51 : decode cX6_tell 51 = .ok (.iload 5, 2) := by decide +kernel
theorem dX6_tell_53 : decode cX6_tell 53 = .ok (.iadd, 1) := by decide +kernel
theorem dX6_tell_54 : decode cX6_tell 54 = .ok (.iaload, 1) := by decide +kernel
theorem dX6_tell_55 : decode cX6_tell 55 = .ok (.aload_n 0, 1) := by decide +kernel
theorem dX6_tell_56 : decode cX6_tell 56 = .ok (.getfield 23, 3) := by decide +kernel
theorem dX6_tell_59 : decode cX6_tell 59 = .ok (.bipush 12, 2) := by decide +kernel
theorem dX6_tell_61 : decode cX6_tell 61 = .ok (.iload_n 2, 1) := by decide +kernel
theorem dX6_tell_62 : decode cX6_tell 62 = .ok (.imul, 1) := by decide +kernel
theorem dX6_tell_63 : decode cX6_tell 63 = .ok (.iload 5, 2) := by decide +kernel
theorem dX6_tell_65 : decode cX6_tell 65 = .ok (.iadd, 1) := by decide +kernel
theorem dX6_tell_66 : decode cX6_tell 66 = .ok (.iaload, 1) := by decide +kernel
theorem dX6_tell_67 : decode cX6_tell 67 = .ok (.imul, 1) := by decide +kernel
theorem dX6_tell_68 : decode cX6_tell 68 = .ok (.iadd, 1) := by decide +kernel
theorem dX6_tell_69 : decode cX6_tell 69 = .ok (.istore 4, 2) := by decide +kernel
theorem dX6_tell_71 : decode cX6_tell 71 = .ok (.iinc 5 1, 3) := by decide +kernel
theorem dX6_tell_74 : decode cX6_tell 74 = .ok (.goto (-42), 3) := by decide +kernel
theorem dX6_tell_77 : decode cX6_tell 77 = .ok (.aload_n 0, 1) := by decide +kernel
theorem dX6_tell_78 : decode cX6_tell 78 = .ok (.getfield 26, 3) := by decide +kernel
theorem dX6_tell_81 : decode cX6_tell 81 = .ok (.bipush 6, 2) := by decide +kernel
theorem dX6_tell_83 : decode cX6_tell 83 = .ok (.iload_n 1, 1) := by decide +kernel
theorem dX6_tell_84 : decode cX6_tell 84 = .ok (.imul, 1) := by decide +kernel
theorem dX6_tell_85 : decode cX6_tell 85 = .ok (.iload_n 3, 1) := by decide +kernel
theorem dX6_tell_86 : decode cX6_tell 86 = .ok (.iadd, 1) := by decide +kernel
theorem dX6_tell_87 : decode cX6_tell 87 = .ok (.iload 4, 2) := by decide +kernel
theorem dX6_tell_89 : decode cX6_tell 89 = .ok (.aload_n 0, 1) := by decide +kernel
theorem dX6_tell_90 : decode cX6_tell 90 = .ok (.getfield 7, 3) := by decide +kernel
theorem dX6_tell_93 : decode cX6_tell 93 = .ok (.irem, 1) := by decide +kernel
theorem dX6_tell_94 : decode cX6_tell 94 = .ok (.iastore, 1) := by decide +kernel
theorem dX6_tell_95 : decode cX6_tell 95 = .ok (.iinc 3 1, 3) := by decide +kernel
theorem dX6_tell_98 : decode cX6_tell 98 = .ok (.goto (-80), 3) := by decide +kernel
theorem dX6_tell_101 : decode cX6_tell 101 = .ok (.aload_n 0, 1) := by decide +kernel
theorem dX6_tell_102 : decode cX6_tell 102 = .ok (.aload_n 0, 1) := by decide +kernel
theorem dX6_tell_103 : decode cX6_tell 103 = .ok (.getfield 26, 3) := by decide +kernel
theorem dX6_tell_106 : decode cX6_tell 106 = .ok (.bipush 6, 2) := by decide +kernel
theorem dX6_tell_108 : decode cX6_tell 108 = .ok (.iload_n 1, 1) := by decide +kernel
theorem dX6_tell_109 : decode cX6_tell 109 = .ok (.imul, 1) := by decide +kernel
theorem dX6_tell_110 : decode cX6_tell 110 = .ok (.aload_n 0, 1) := by decide +kernel
theorem dX6_tell_111 : decode cX6_tell 111 = .ok (.getfield 13, 3) := by decide +kernel
theorem dX6_tell_114 : decode cX6_tell 114 = .ok (.invokevirtual 114, 3) := by decide +kernel
theorem dX6_tell_117 : decode cX6_tell 117 = .ok (.ireturn, 1) := by decide +kernel
theorem dX6_solves_0 : decode cX6_solves 0 = .ok (.iload_n 1, 1) := by decide +kernel
theorem dX6_solves_1 : decode cX6_solves 1 = .ok (.invokestatic 81, 3) := by decide +kernel
theorem dX6_solves_4 : decode cX6_solves 4 = .ok (.istore 4, 2) := by decide +kernel
theorem dX6_solves_6 : decode cX6_solves 6 = .ok (.aload_n 0, 1) := by decide +kernel
theorem dX6_solves_7 : decode cX6_solves 7 = .ok (.iload_n 1, 1) := by decide +kernel
theorem dX6_solves_8 : decode cX6_solves 8 = .ok (.iload_n 2, 1) := by decide +kernel
theorem dX6_solves_9 : decode cX6_solves 9 = .ok (.iload_n 3, 1) := by decide +kernel
theorem dX6_solves_10 : decode cX6_solves 10 = .ok (.invokevirtual 95, 3) := by decide +kernel
theorem dX6_solves_13 : decode cX6_solves 13 = .ok (.iload 4, 2) := by decide +kernel
theorem dX6_solves_15 : decode cX6_solves 15 = .ok (.if_icmp .eq 5, 3) := by decide +kernel
theorem dX6_solves_18 : decode cX6_solves 18 = .ok (.iconst 0, 1) := by decide +kernel
theorem dX6_solves_19 : decode cX6_solves 19 = .ok (.ireturn, 1) := by decide +kernel
theorem dX6_solves_20 : decode cX6_solves 20 = .ok (.iconst 0, 1) := by decide +kernel
theorem dX6_solves_21 : decode cX6_solves 21 = .ok (.istore 5, 2) := by decide +kernel
theorem dX6_solves_23 : decode cX6_solves 23 = .ok (.iconst 1, 1) := by decide +kernel
theorem dX6_solves_24 : decode cX6_solves 24 = .ok (.istore 6, 2) := by decide +kernel
theorem dX6_solves_26 : decode cX6_solves 26 = .ok (.iconst 0, 1) := by decide +kernel
theorem dX6_solves_27 : decode cX6_solves 27 = .ok (.istore 7, 2) := by decide +kernel
theorem dX6_solves_29 : decode cX6_solves 29 = .ok (.iload 7, 2) := by decide +kernel
theorem dX6_solves_31 : decode cX6_solves 31 = .ok (.bipush 12, 2) := by decide +kernel
theorem dX6_solves_33 : decode cX6_solves 33 = .ok (.if_icmp .ge 72, 3) := by decide +kernel
theorem dX6_solves_36 : decode cX6_solves 36 = .ok (.aload_n 0, 1) := by decide +kernel
theorem dX6_solves_37 : decode cX6_solves 37 = .ok (.getfield 48, 3) := by decide +kernel
theorem dX6_solves_40 : decode cX6_solves 40 = .ok (.iload 7, 2) := by decide +kernel
theorem dX6_solves_42 : decode cX6_solves 42 = .ok (.iconst 0, 1) := by decide +kernel
theorem dX6_solves_43 : decode cX6_solves 43 = .ok (.iastore, 1) := by decide +kernel
theorem dX6_solves_44 : decode cX6_solves 44 = .ok (.iload_n 1, 1) := by decide +kernel
theorem dX6_solves_45 : decode cX6_solves 45 = .ok (.iload 7, 2) := by decide +kernel
theorem dX6_solves_47 : decode cX6_solves 47 = .ok (.ishr, 1) := by decide +kernel
theorem dX6_solves_48 : decode cX6_solves 48 = .ok (.iconst 1, 1) := by decide +kernel
theorem dX6_solves_49 : decode cX6_solves 49 = .ok (.iand, 1) := by decide +kernel
theorem dX6_solves_50 : decode cX6_solves 50 = .ok (.iconst 1, 1) := by decide +kernel
theorem dX6_solves_51 : decode cX6_solves 51 = .ok (.if_icmp .ne 48, 3) := by decide +kernel
theorem dX6_solves_54 : decode cX6_solves 54 = .ok (.aload_n 0, 1) := by decide +kernel
theorem dX6_solves_55 : decode cX6_solves 55 = .ok (.getfield 48, 3) := by decide +kernel
theorem dX6_solves_58 : decode cX6_solves 58 = .ok (.iload 7, 2) := by decide +kernel
theorem dX6_solves_60 : decode cX6_solves 60 = .ok (.aload_n 0, 1) := by decide +kernel
theorem dX6_solves_61 : decode cX6_solves 61 = .ok (.getfield 45, 3) := by decide +kernel
theorem dX6_solves_64 : decode cX6_solves 64 = .ok (.bipush 13, 2) := by decide +kernel
theorem dX6_solves_66 : decode cX6_solves 66 = .ok (.iload 5, 2) := by decide +kernel
theorem dX6_solves_68 : decode cX6_solves 68 = .ok (.imul, 1) := by decide +kernel
theorem dX6_solves_69 : decode cX6_solves 69 = .ok (.bipush 12, 2) := by decide +kernel
theorem dX6_solves_71 : decode cX6_solves 71 = .ok (.iadd, 1) := by decide +kernel
theorem dX6_solves_72 : decode cX6_solves 72 = .ok (.iaload, 1) := by decide +kernel
theorem dX6_solves_73 : decode cX6_solves 73 = .ok (.iastore, 1) := by decide +kernel
theorem dX6_solves_74 : decode cX6_solves 74 = .ok (.iload 6, 2) := by decide +kernel
theorem dX6_solves_76 : decode cX6_solves 76 = .ok (.ifCond .eq 17, 3) := by decide +kernel
theorem dX6_solves_79 : decode cX6_solves 79 = .ok (.aload_n 0, 1) := by decide +kernel
theorem dX6_solves_80 : decode cX6_solves 80 = .ok (.getfield 48, 3) := by decide +kernel
theorem dX6_solves_83 : decode cX6_solves 83 = .ok (.iload 7, 2) := by decide +kernel
theorem dX6_solves_85 : decode cX6_solves 85 = .ok (.iaload, 1) := by decide +kernel
theorem dX6_solves_86 : decode cX6_solves 86 = .ok (.ifCond .eq 7, 3) := by decide +kernel
theorem dX6_solves_89 : decode cX6_solves 89 = .ok (.iconst 1, 1) := by decide +kernel
theorem dX6_solves_90 : decode cX6_solves 90 = .ok (.goto 4, 3) := by decide +kernel
theorem dX6_solves_93 : decode cX6_solves 93 = .ok (.iconst 0, 1) := by decide +kernel
theorem dX6_solves_94 : decode cX6_solves 94 = .ok (.istore 6, 2) := by decide +kernel
theorem dX6_solves_96 : decode cX6_solves 96 = .ok (.iinc 5 1, 3) := by decide +kernel
theorem dX6_solves_99 : decode cX6_solves 99 = .ok (.iinc 7 1, 3) := by decide +kernel
theorem dX6_solves_102 : decode cX6_solves 102 = .ok (.goto (-73), 3) := by decide +kernel
theorem dX6_solves_105 : decode cX6_solves 105 = .ok (.iload 6, 2) := by decide +kernel
theorem dX6_solves_107 : decode cX6_solves 107 = .ok (.ireturn, 1) := by decide +kernel
theorem dX6_keeps_0 : decode cX6_keeps 0 = .ok (.iconst 0, 1) := by decide +kernel
theorem dX6_keeps_1 : decode cX6_keeps 1 = .ok (.istore_n 2, 1) := by decide +kernel
theorem dX6_keeps_2 : decode cX6_keeps 2 = .ok (.iload_n 2, 1) := by decide +kernel
theorem dX6_keeps_3 : decode cX6_keeps 3 = .ok (.bipush 12, 2) := by decide +kernel
theorem dX6_keeps_5 : decode cX6_keeps 5 = .ok (.if_icmp .ge 26, 3) := by decide +kernel
theorem dX6_keeps_8 : decode cX6_keeps 8 = .ok (.aload_n 0, 1) := by decide +kernel
theorem dX6_keeps_9 : decode cX6_keeps 9 = .ok (.getfield 23, 3) := by decide +kernel
theorem dX6_keeps_12 : decode cX6_keeps 12 = .ok (.bipush 12, 2) := by decide +kernel
theorem dX6_keeps_14 : decode cX6_keeps 14 = .ok (.iload_n 1, 1) := by decide +kernel
theorem dX6_keeps_15 : decode cX6_keeps 15 = .ok (.imul, 1) := by decide +kernel
theorem dX6_keeps_16 : decode cX6_keeps 16 = .ok (.iload_n 2, 1) := by decide +kernel
theorem dX6_keeps_17 : decode cX6_keeps 17 = .ok (.iadd, 1) := by decide +kernel
theorem dX6_keeps_18 : decode cX6_keeps 18 = .ok (.aload_n 0, 1) := by decide +kernel
theorem dX6_keeps_19 : decode cX6_keeps 19 = .ok (.getfield 51, 3) := by decide +kernel
theorem dX6_keeps_22 : decode cX6_keeps 22 = .ok (.iload_n 2, 1) := by decide +kernel
theorem dX6_keeps_23 : decode cX6_keeps 23 = .ok (.iaload, 1) := by decide +kernel
theorem dX6_keeps_24 : decode cX6_keeps 24 = .ok (.iastore, 1) := by decide +kernel
theorem dX6_keeps_25 : decode cX6_keeps 25 = .ok (.iinc 2 1, 3) := by decide +kernel
theorem dX6_keeps_28 : decode cX6_keeps 28 = .ok (.goto (-26), 3) := by decide +kernel
theorem dX6_keeps_31 : decode cX6_keeps 31 = .ok (.return_, 1) := by decide +kernel
theorem dX6_isBest_0 : decode cX6_isBest 0 = .ok (.iconst 0, 1) := by decide +kernel
theorem dX6_isBest_1 : decode cX6_isBest 1 = .ok (.istore_n 1, 1) := by decide +kernel
theorem dX6_isBest_2 : decode cX6_isBest 2 = .ok (.iload_n 1, 1) := by decide +kernel
theorem dX6_isBest_3 : decode cX6_isBest 3 = .ok (.bipush 12, 2) := by decide +kernel
theorem dX6_isBest_5 : decode cX6_isBest 5 = .ok (.if_icmp .ge 21, 3) := by decide +kernel
theorem dX6_isBest_8 : decode cX6_isBest 8 = .ok (.aload_n 0, 1) := by decide +kernel
theorem dX6_isBest_9 : decode cX6_isBest 9 = .ok (.getfield 51, 3) := by decide +kernel
theorem dX6_isBest_12 : decode cX6_isBest 12 = .ok (.iload_n 1, 1) := by decide +kernel
theorem dX6_isBest_13 : decode cX6_isBest 13 = .ok (.aload_n 0, 1) := by decide +kernel
theorem dX6_isBest_14 : decode cX6_isBest 14 = .ok (.getfield 48, 3) := by decide +kernel
theorem dX6_isBest_17 : decode cX6_isBest 17 = .ok (.iload_n 1, 1) := by decide +kernel
theorem dX6_isBest_18 : decode cX6_isBest 18 = .ok (.iaload, 1) := by decide +kernel
theorem dX6_isBest_19 : decode cX6_isBest 19 = .ok (.iastore, 1) := by decide +kernel
theorem dX6_isBest_20 : decode cX6_isBest 20 = .ok (.iinc 1 1, 3) := by decide +kernel
theorem dX6_isBest_23 : decode cX6_isBest 23 = .ok (.goto (-21), 3) := by decide +kernel
theorem dX6_isBest_26 : decode cX6_isBest 26 = .ok (.return_, 1) := by decide +kernel
theorem dX6_find_0 : decode cX6_find 0 = .ok (.iload_n 1, 1) := by decide +kernel
theorem dX6_find_1 : decode cX6_find 1 = .ok (.invokestatic 111, 3) := by decide +kernel
theorem dX6_find_4 : decode cX6_find 4 = .ok (.ifCond .eq 22, 3) := by decide +kernel
theorem dX6_find_7 : decode cX6_find 7 = .ok (.iload_n 2, 1) := by decide +kernel
theorem dX6_find_8 : decode cX6_find 8 = .ok (.invokestatic 111, 3) := by decide +kernel
theorem dX6_find_11 : decode cX6_find 11 = .ok (.ifCond .eq 15, 3) := by decide +kernel
theorem dX6_find_14 : decode cX6_find 14 = .ok (.iload_n 3, 1) := by decide +kernel
theorem dX6_find_15 : decode cX6_find 15 = .ok (.i2l, 1) := by decide +kernel
theorem dX6_find_16 : decode cX6_find 16 = .ok (.lconst 0, 1) := by decide +kernel
theorem dX6_find_17 : decode cX6_find 17 = .ok (.ldc2_w 120, 3) := by decide +kernel
theorem dX6_find_20 : decode cX6_find 20 = .ok (.invokestatic 61, 3) := by decide +kernel
theorem dX6_find_23 : decode cX6_find 23 = .ok (.ifCond .ne 5, 3) := by decide +kernel
theorem dX6_find_26 : decode cX6_find 26 = .ok (.iconst (-1), 1) := by decide +kernel
theorem dX6_find_27 : decode cX6_find 27 = .ok (.ireturn, 1) := by decide +kernel
theorem dX6_find_28 : decode cX6_find 28 = .ok (.iconst 0, 1) := by decide +kernel
theorem dX6_find_29 : decode cX6_find 29 = .ok (.istore 4, 2) := by decide +kernel
theorem dX6_find_31 : decode cX6_find 31 = .ok (.iload 4, 2) := by decide +kernel
theorem dX6_find_33 : decode cX6_find 33 = .ok (.iload_n 3, 1) := by decide +kernel
theorem dX6_find_34 : decode cX6_find 34 = .ok (.if_icmp .gt 92, 3) := by decide +kernel
theorem dX6_find_37 : decode cX6_find 37 = .ok (.iconst 0, 1) := by decide +kernel
theorem dX6_find_38 : decode cX6_find 38 = .ok (.istore 5, 2) := by decide +kernel
theorem dX6_find_40 : decode cX6_find 40 = .ok (.iconst 0, 1) := by decide +kernel
theorem dX6_find_41 : decode cX6_find 41 = .ok (.istore 6, 2) := by decide +kernel
theorem dX6_find_43 : decode cX6_find 43 = .ok (.iload 6, 2) := by decide +kernel
theorem dX6_find_45 : decode cX6_find 45 = .ok (.iconst 1, 1) := by decide +kernel
theorem dX6_find_46 : decode cX6_find 46 = .ok (.aload_n 0, 1) := by decide +kernel
theorem dX6_find_47 : decode cX6_find 47 = .ok (.getfield 16, 3) := by decide +kernel
theorem dX6_find_50 : decode cX6_find 50 = .ok (.ishl, 1) := by decide +kernel
theorem dX6_find_51 : decode cX6_find 51 = .ok (.if_icmp .ge 42, 3) := by decide +kernel
theorem dX6_find_54 : decode cX6_find 54 = .ok (.iload 6, 2) := by decide +kernel
theorem dX6_find_56 : decode cX6_find 56 = .ok (.invokestatic 81, 3) := by decide +kernel
theorem dX6_find_59 : decode cX6_find 59 = .ok (.iload 4, 2) := by decide +kernel
theorem dX6_find_61 : decode cX6_find 61 = .ok (.if_icmp .ne 26, 3) := by decide +kernel
theorem dX6_find_64 : decode cX6_find 64 = .ok (.aload_n 0, 1) := by decide +kernel
theorem dX6_find_65 : decode cX6_find 65 = .ok (.iload 6, 2) := by decide +kernel
theorem dX6_find_67 : decode cX6_find 67 = .ok (.iconst 0, 1) := by decide +kernel
theorem dX6_find_68 : decode cX6_find 68 = .ok (.iload_n 2, 1) := by decide +kernel
theorem dX6_find_69 : decode cX6_find 69 = .ok (.invokevirtual 122, 3) := by decide +kernel
theorem dX6_find_72 : decode cX6_find 72 = .ok (.ifCond .eq 15, 3) := by decide +kernel
theorem dX6_find_75 : decode cX6_find 75 = .ok (.iload 5, 2) := by decide +kernel
theorem dX6_find_77 : decode cX6_find 77 = .ok (.ifCond .ne 7, 3) := by decide +kernel
theorem dX6_find_80 : decode cX6_find 80 = .ok (.aload_n 0, 1) := by decide +kernel
theorem dX6_find_81 : decode cX6_find 81 = .ok (.invokevirtual 126, 3) := by decide +kernel
theorem dX6_find_84 : decode cX6_find 84 = .ok (.iinc 5 1, 3) := by decide +kernel
theorem dX6_find_87 : decode cX6_find 87 = .ok (.iinc 6 1, 3) := by decide +kernel
theorem dX6_find_90 : decode cX6_find 90 = .ok (.goto (-47), 3) := by decide +kernel
theorem dX6_find_93 : decode cX6_find 93 = .ok (.iload 5, 2) := by decide +kernel
theorem dX6_find_95 : decode cX6_find 95 = .ok (.ifCond .le 25, 3) := by decide +kernel
theorem dX6_find_98 : decode cX6_find 98 = .ok (.aload_n 0, 1) := by decide +kernel
theorem dX6_find_99 : decode cX6_find 99 = .ok (.iload_n 1, 1) := by decide +kernel
theorem dX6_find_100 : decode cX6_find 100 = .ok (.invokevirtual 129, 3) := by decide +kernel
theorem dX6_find_103 : decode cX6_find 103 = .ok (.iload 5, 2) := by decide +kernel
theorem dX6_find_105 : decode cX6_find 105 = .ok (.iconst 1, 1) := by decide +kernel
theorem dX6_find_106 : decode cX6_find 106 = .ok (.if_icmp .ne 11, 3) := by decide +kernel
theorem dX6_find_109 : decode cX6_find 109 = .ok (.bipush 100, 2) := by decide +kernel
theorem dX6_find_111 : decode cX6_find 111 = .ok (.iload 4, 2) := by decide +kernel
theorem dX6_find_113 : decode cX6_find 113 = .ok (.iadd, 1) := by decide +kernel
theorem dX6_find_114 : decode cX6_find 114 = .ok (.goto 5, 3) := by decide +kernel
theorem dX6_find_117 : decode cX6_find 117 = .ok (.iload 4, 2) := by decide +kernel
theorem dX6_find_119 : decode cX6_find 119 = .ok (.ireturn, 1) := by decide +kernel
theorem dX6_find_120 : decode cX6_find 120 = .ok (.iinc 4 1, 3) := by decide +kernel
theorem dX6_find_123 : decode cX6_find 123 = .ok (.goto (-92), 3) := by decide +kernel
theorem dX6_find_126 : decode cX6_find 126 = .ok (.bipush (-2), 2) := by decide +kernel
theorem dX6_find_128 : decode cX6_find 128 = .ok (.ireturn, 1) := by decide +kernel
theorem dX6_differs_0 : decode cX6_differs 0 = .ok (.iconst 0, 1) := by decide +kernel
theorem dX6_differs_1 : decode cX6_differs 1 = .ok (.istore_n 2, 1) := by decide +kernel
theorem dX6_differs_2 : decode cX6_differs 2 = .ok (.iconst 0, 1) := by decide +kernel
theorem dX6_differs_3 : decode cX6_differs 3 = .ok (.istore_n 3, 1) := by decide +kernel
theorem dX6_differs_4 : decode cX6_differs 4 = .ok (.iload_n 3, 1) := by decide +kernel
theorem dX6_differs_5 : decode cX6_differs 5 = .ok (.aload_n 0, 1) := by decide +kernel
theorem dX6_differs_6 : decode cX6_differs 6 = .ok (.getfield 13, 3) := by decide +kernel
theorem dX6_differs_9 : decode cX6_differs 9 = .ok (.if_icmp .ge 84, 3) := by decide +kernel
theorem dX6_differs_12 : decode cX6_differs 12 = .ok (.iconst 0, 1) := by decide +kernel
theorem dX6_differs_13 : decode cX6_differs 13 = .ok (.istore 4, 2) := by decide +kernel
theorem dX6_differs_15 : decode cX6_differs 15 = .ok (.iconst 0, 1) := by decide +kernel
theorem dX6_differs_16 : decode cX6_differs 16 = .ok (.istore 5, 2) := by decide +kernel
theorem dX6_differs_18 : decode cX6_differs 18 = .ok (.iload 5, 2) := by decide +kernel
theorem dX6_differs_20 : decode cX6_differs 20 = .ok (.aload_n 0, 1) := by decide +kernel
theorem dX6_differs_21 : decode cX6_differs 21 = .ok (.getfield 16, 3) := by decide +kernel
theorem dX6_differs_24 : decode cX6_differs 24 = .ok (.if_icmp .ge 34, 3) := by decide +kernel
theorem dX6_differs_27 : decode cX6_differs 27 = .ok (.iload 4, 2) := by decide +kernel
theorem dX6_differs_29 : decode cX6_differs 29 = .ok (.aload_n 0, 1) := by decide +kernel
theorem dX6_differs_30 : decode cX6_differs 30 = .ok (.getfield 19, 3) := by decide +kernel
theorem dX6_differs_33 : decode cX6_differs 33 = .ok (.bipush 12, 2) := by decide +kernel
theorem dX6_differs_35 : decode cX6_differs 35 = .ok (.iload_n 3, 1) := by decide +kernel
theorem dX6_differs_36 : decode cX6_differs 36 = .ok (.imul, 1) := by decide +kernel
theorem dX6_differs_37 : decode cX6_differs 37 = .ok (.iload 5, 2) := by decide +kernel
theorem dX6_differs_39 : decode cX6_differs 39 = .ok (.iadd, 1) := by decide +kernel
theorem dX6_differs_40 : decode cX6_differs 40 = .ok (.iaload, 1) := by decide +kernel
theorem dX6_differs_41 : decode cX6_differs 41 = .ok (.aload_n 0, 1) := by decide +kernel
theorem dX6_differs_42 : decode cX6_differs 42 = .ok (.getfield 48, 3) := by decide +kernel
theorem dX6_differs_45 : decode cX6_differs 45 = .ok (.iload 5, 2) := by decide +kernel
theorem dX6_differs_47 : decode cX6_differs 47 = .ok (.iaload, 1) := by decide +kernel
theorem dX6_differs_48 : decode cX6_differs 48 = .ok (.imul, 1) := by decide +kernel
theorem dX6_differs_49 : decode cX6_differs 49 = .ok (.iadd, 1) := by decide +kernel
theorem dX6_differs_50 : decode cX6_differs 50 = .ok (.istore 4, 2) := by decide +kernel
theorem dX6_differs_52 : decode cX6_differs 52 = .ok (.iinc 5 1, 3) := by decide +kernel
theorem dX6_differs_55 : decode cX6_differs 55 = .ok (.goto (-37), 3) := by decide +kernel
theorem dX6_differs_58 : decode cX6_differs 58 = .ok (.iload_n 2, 1) := by decide +kernel
theorem dX6_differs_59 : decode cX6_differs 59 = .ok (.iload 4, 2) := by decide +kernel
theorem dX6_differs_61 : decode cX6_differs 61 = .ok (.aload_n 0, 1) := by decide +kernel
theorem dX6_differs_62 : decode cX6_differs 62 = .ok (.getfield 7, 3) := by decide +kernel
theorem dX6_differs_65 : decode cX6_differs 65 = .ok (.irem, 1) := by decide +kernel
theorem dX6_differs_66 : decode cX6_differs 66 = .ok (.aload_n 0, 1) := by decide +kernel
theorem dX6_differs_67 : decode cX6_differs 67 = .ok (.getfield 26, 3) := by decide +kernel
theorem dX6_differs_70 : decode cX6_differs 70 = .ok (.bipush 6, 2) := by decide +kernel
theorem dX6_differs_72 : decode cX6_differs 72 = .ok (.iload_n 1, 1) := by decide +kernel
theorem dX6_differs_73 : decode cX6_differs 73 = .ok (.imul, 1) := by decide +kernel
theorem dX6_differs_74 : decode cX6_differs 74 = .ok (.iload_n 3, 1) := by decide +kernel
theorem dX6_differs_75 : decode cX6_differs 75 = .ok (.iadd, 1) := by decide +kernel
theorem dX6_differs_76 : decode cX6_differs 76 = .ok (.iaload, 1) := by decide +kernel
theorem dX6_differs_77 : decode cX6_differs 77 = .ok (.if_icmp .ne 7, 3) := by decide +kernel
theorem dX6_differs_80 : decode cX6_differs 80 = .ok (.iconst 0, 1) := by decide +kernel
theorem dX6_differs_81 : decode cX6_differs 81 = .ok (.goto 4, 3) := by decide +kernel
theorem dX6_differs_84 : decode cX6_differs 84 = .ok (.iconst 1, 1) := by decide +kernel
theorem dX6_differs_85 : decode cX6_differs 85 = .ok (.iadd, 1) := by decide +kernel
theorem dX6_differs_86 : decode cX6_differs 86 = .ok (.istore_n 2, 1) := by decide +kernel
theorem dX6_differs_87 : decode cX6_differs 87 = .ok (.iinc 3 1, 3) := by decide +kernel
theorem dX6_differs_90 : decode cX6_differs 90 = .ok (.goto (-86), 3) := by decide +kernel
theorem dX6_differs_93 : decode cX6_differs 93 = .ok (.iload_n 2, 1) := by decide +kernel
theorem dX6_differs_94 : decode cX6_differs 94 = .ok (.ireturn, 1) := by decide +kernel
theorem dX6_isLess_0 : decode cX6_isLess 0 = .ok (.iconst 0, 1) := by decide +kernel
theorem dX6_isLess_1 : decode cX6_isLess 1 = .ok (.istore_n 1, 1) := by decide +kernel
theorem dX6_isLess_2 : decode cX6_isLess 2 = .ok (.iload_n 1, 1) := by decide +kernel
theorem dX6_isLess_3 : decode cX6_isLess 3 = .ok (.bipush 11, 2) := by decide +kernel
theorem dX6_isLess_5 : decode cX6_isLess 5 = .ok (.if_icmp .ge 24, 3) := by decide +kernel
theorem dX6_isLess_8 : decode cX6_isLess 8 = .ok (.aload_n 0, 1) := by decide +kernel
theorem dX6_isLess_9 : decode cX6_isLess 9 = .ok (.getfield 48, 3) := by decide +kernel
theorem dX6_isLess_12 : decode cX6_isLess 12 = .ok (.iload_n 1, 1) := by decide +kernel
theorem dX6_isLess_13 : decode cX6_isLess 13 = .ok (.iaload, 1) := by decide +kernel
theorem dX6_isLess_14 : decode cX6_isLess 14 = .ok (.aload_n 0, 1) := by decide +kernel
theorem dX6_isLess_15 : decode cX6_isLess 15 = .ok (.getfield 51, 3) := by decide +kernel
theorem dX6_isLess_18 : decode cX6_isLess 18 = .ok (.iload_n 1, 1) := by decide +kernel
theorem dX6_isLess_19 : decode cX6_isLess 19 = .ok (.iaload, 1) := by decide +kernel
theorem dX6_isLess_20 : decode cX6_isLess 20 = .ok (.if_icmp .ne 9, 3) := by decide +kernel
theorem dX6_isLess_23 : decode cX6_isLess 23 = .ok (.iinc 1 1, 3) := by decide +kernel
theorem dX6_isLess_26 : decode cX6_isLess 26 = .ok (.goto (-24), 3) := by decide +kernel
theorem dX6_isLess_29 : decode cX6_isLess 29 = .ok (.aload_n 0, 1) := by decide +kernel
theorem dX6_isLess_30 : decode cX6_isLess 30 = .ok (.getfield 48, 3) := by decide +kernel
theorem dX6_isLess_33 : decode cX6_isLess 33 = .ok (.iload_n 1, 1) := by decide +kernel
theorem dX6_isLess_34 : decode cX6_isLess 34 = .ok (.iaload, 1) := by decide +kernel
theorem dX6_isLess_35 : decode cX6_isLess 35 = .ok (.aload_n 0, 1) := by decide +kernel
theorem dX6_isLess_36 : decode cX6_isLess 36 = .ok (.getfield 51, 3) := by decide +kernel
theorem dX6_isLess_39 : decode cX6_isLess 39 = .ok (.iload_n 1, 1) := by decide +kernel
theorem dX6_isLess_40 : decode cX6_isLess 40 = .ok (.iaload, 1) := by decide +kernel
theorem dX6_isLess_41 : decode cX6_isLess 41 = .ok (.if_icmp .ge 7, 3) := by decide +kernel
theorem dX6_isLess_44 : decode cX6_isLess 44 = .ok (.iconst 1, 1) := by decide +kernel
theorem dX6_isLess_45 : decode cX6_isLess 45 = .ok (.goto 4, 3) := by decide +kernel
theorem dX6_isLess_48 : decode cX6_isLess 48 = .ok (.iconst 0, 1) := by decide +kernel
theorem dX6_isLess_49 : decode cX6_isLess 49 = .ok (.ireturn, 1) := by decide +kernel
theorem dX6_miss_0 : decode cX6_miss 0 = .ok (.iload_n 1, 1) := by decide +kernel
theorem dX6_miss_1 : decode cX6_miss 1 = .ok (.invokestatic 111, 3) := by decide +kernel
theorem dX6_miss_4 : decode cX6_miss 4 = .ok (.ifCond .eq 35, 3) := by decide +kernel
theorem dX6_miss_7 : decode cX6_miss 7 = .ok (.iload_n 2, 1) := by decide +kernel
theorem dX6_miss_8 : decode cX6_miss 8 = .ok (.invokestatic 111, 3) := by decide +kernel
theorem dX6_miss_11 : decode cX6_miss 11 = .ok (.ifCond .eq 28, 3) := by decide +kernel
theorem dX6_miss_14 : decode cX6_miss 14 = .ok (.iload_n 3, 1) := by decide +kernel
theorem dX6_miss_15 : decode cX6_miss 15 = .ok (.i2l, 1) := by decide +kernel
theorem dX6_miss_16 : decode cX6_miss 16 = .ok (.lconst 0, 1) := by decide +kernel
theorem dX6_miss_17 : decode cX6_miss 17 = .ok (.ldc2_w 133, 3) := by decide +kernel
theorem dX6_miss_20 : decode cX6_miss 20 = .ok (.invokestatic 61, 3) := by decide +kernel
theorem dX6_miss_23 : decode cX6_miss 23 = .ok (.ifCond .eq 16, 3) := by decide +kernel
theorem dX6_miss_26 : decode cX6_miss 26 = .ok (.iload 4, 2) := by decide +kernel
theorem dX6_miss_28 : decode cX6_miss 28 = .ok (.i2l, 1) := by decide +kernel
theorem dX6_miss_29 : decode cX6_miss 29 = .ok (.lconst 0, 1) := by decide +kernel
theorem dX6_miss_30 : decode cX6_miss 30 = .ok (.ldc2_w 133, 3) := by decide +kernel
theorem dX6_miss_33 : decode cX6_miss 33 = .ok (.invokestatic 61, 3) := by decide +kernel
theorem dX6_miss_36 : decode cX6_miss 36 = .ok (.ifCond .ne 5, 3) := by decide +kernel
theorem dX6_miss_39 : decode cX6_miss 39 = .ok (.iconst (-1), 1) := by decide +kernel
theorem dX6_miss_40 : decode cX6_miss 40 = .ok (.ireturn, 1) := by decide +kernel
theorem dX6_miss_41 : decode cX6_miss 41 = .ok (.iconst 0, 1) := by decide +kernel
theorem dX6_miss_42 : decode cX6_miss 42 = .ok (.istore 5, 2) := by decide +kernel
theorem dX6_miss_44 : decode cX6_miss 44 = .ok (.iload 5, 2) := by decide +kernel
theorem dX6_miss_46 : decode cX6_miss 46 = .ok (.iload_n 3, 1) := by decide +kernel
theorem dX6_miss_47 : decode cX6_miss 47 = .ok (.if_icmp .gt 156, 3) := by decide +kernel
theorem dX6_miss_50 : decode cX6_miss 50 = .ok (.bipush 99, 2) := by decide +kernel
theorem dX6_miss_52 : decode cX6_miss 52 = .ok (.istore 6, 2) := by decide +kernel
theorem dX6_miss_54 : decode cX6_miss 54 = .ok (.iconst 0, 1) := by decide +kernel
theorem dX6_miss_55 : decode cX6_miss 55 = .ok (.istore 7, 2) := by decide +kernel
theorem dX6_miss_57 : decode cX6_miss 57 = .ok (.iconst 0, 1) := by decide +kernel
theorem dX6_miss_58 : decode cX6_miss 58 = .ok (.istore 8, 2) := by decide +kernel
theorem dX6_miss_60 : decode cX6_miss 60 = .ok (.iload 8, 2) := by decide +kernel
theorem dX6_miss_62 : decode cX6_miss 62 = .ok (.iconst 1, 1) := by decide +kernel
theorem dX6_miss_63 : decode cX6_miss 63 = .ok (.aload_n 0, 1) := by decide +kernel
theorem dX6_miss_64 : decode cX6_miss 64 = .ok (.getfield 16, 3) := by decide +kernel
theorem dX6_miss_67 : decode cX6_miss 67 = .ok (.ishl, 1) := by decide +kernel
theorem dX6_miss_68 : decode cX6_miss 68 = .ok (.if_icmp .ge 108, 3) := by decide +kernel
theorem dX6_miss_71 : decode cX6_miss 71 = .ok (.iconst 0, 1) := by decide +kernel
theorem dX6_miss_72 : decode cX6_miss 72 = .ok (.istore 9, 2) := by decide +kernel
theorem dX6_miss_74 : decode cX6_miss 74 = .ok (.iload 9, 2) := by decide +kernel
theorem dX6_miss_76 : decode cX6_miss 76 = .ok (.iconst 1, 1) := by decide +kernel
theorem dX6_miss_77 : decode cX6_miss 77 = .ok (.aload_n 0, 1) := by decide +kernel
theorem dX6_miss_78 : decode cX6_miss 78 = .ok (.getfield 13, 3) := by decide +kernel
theorem dX6_miss_81 : decode cX6_miss 81 = .ok (.ishl, 1) := by decide +kernel
theorem dX6_miss_82 : decode cX6_miss 82 = .ok (.if_icmp .ge 88, 3) := by decide +kernel
theorem dX6_miss_85 : decode cX6_miss 85 = .ok (.iload 8, 2) := by decide +kernel
theorem dX6_miss_87 : decode cX6_miss 87 = .ok (.invokestatic 81, 3) := by decide +kernel
theorem dX6_miss_90 : decode cX6_miss 90 = .ok (.iload 5, 2) := by decide +kernel
theorem dX6_miss_92 : decode cX6_miss 92 = .ok (.if_icmp .ne 78, 3) := by decide +kernel
theorem dX6_miss_95 : decode cX6_miss 95 = .ok (.iload 9, 2) := by decide +kernel
theorem dX6_miss_97 : decode cX6_miss 97 = .ok (.invokestatic 81, 3) := by decide +kernel
theorem dX6_miss_100 : decode cX6_miss 100 = .ok (.iload 4, 2) := by decide +kernel
theorem dX6_miss_102 : decode cX6_miss 102 = .ok (.if_icmp .gt 62, 3) := by decide +kernel
theorem dX6_miss_105 : decode cX6_miss 105 = .ok (.aload_n 0, 1) := by decide +kernel
theorem dX6_miss_106 : decode cX6_miss 106 = .ok (.iload 8, 2) := by decide +kernel
theorem dX6_miss_108 : decode cX6_miss 108 = .ok (.iload 9, 2) := by decide +kernel
theorem dX6_miss_110 : decode cX6_miss 110 = .ok (.iload_n 2, 1) := by decide +kernel
theorem dX6_miss_111 : decode cX6_miss 111 = .ok (.invokevirtual 122, 3) := by decide +kernel
theorem dX6_miss_114 : decode cX6_miss 114 = .ok (.ifCond .eq 50, 3) := by decide +kernel
theorem dX6_miss_117 : decode cX6_miss 117 = .ok (.aload_n 0, 1) := by decide +kernel
theorem dX6_miss_118 : decode cX6_miss 118 = .ok (.iload_n 2, 1) := by decide +kernel
theorem dX6_miss_119 : decode cX6_miss 119 = .ok (.invokevirtual 135, 3) := by decide +kernel
theorem dX6_miss_122 : decode cX6_miss 122 = .ok (.istore 10, 2) := by decide +kernel
theorem dX6_miss_124 : decode cX6_miss 124 = .ok (.iload 10, 2) := by decide +kernel
theorem dX6_miss_126 : decode cX6_miss 126 = .ok (.iload 6, 2) := by decide +kernel
theorem dX6_miss_128 : decode cX6_miss 128 = .ok (.if_icmp .lt 24, 3) := by decide +kernel
theorem dX6_miss_131 : decode cX6_miss 131 = .ok (.iload 10, 2) := by decide +kernel
theorem dX6_miss_133 : decode cX6_miss 133 = .ok (.iload 6, 2) := by decide +kernel
theorem dX6_miss_135 : decode cX6_miss 135 = .ok (.if_icmp .ne 29, 3) := by decide +kernel
theorem dX6_miss_138 : decode cX6_miss 138 = .ok (.iload 8, 2) := by decide +kernel
theorem dX6_miss_140 : decode cX6_miss 140 = .ok (.iload 7, 2) := by decide +kernel
theorem dX6_miss_142 : decode cX6_miss 142 = .ok (.if_icmp .ne 22, 3) := by decide +kernel
theorem dX6_miss_145 : decode cX6_miss 145 = .ok (.aload_n 0, 1) := by decide +kernel
theorem dX6_miss_146 : decode cX6_miss 146 = .ok (.invokevirtual 138, 3) := by decide +kernel
theorem dX6_miss_149 : decode cX6_miss 149 = .ok (.ifCond .eq 15, 3) := by decide +kernel
theorem dX6_miss_152 : decode cX6_miss 152 = .ok (.iload 10, 2) := by decide +kernel
theorem dX6_miss_154 : decode cX6_miss 154 = .ok (.istore 6, 2) := by decide +kernel
theorem dX6_miss_156 : decode cX6_miss 156 = .ok (.iload 8, 2) := by decide +kernel
theorem dX6_miss_158 : decode cX6_miss 158 = .ok (.istore 7, 2) := by decide +kernel
theorem dX6_miss_160 : decode cX6_miss 160 = .ok (.aload_n 0, 1) := by decide +kernel
theorem dX6_miss_161 : decode cX6_miss 161 = .ok (.invokevirtual 126, 3) := by decide +kernel
theorem dX6_miss_164 : decode cX6_miss 164 = .ok (.iinc 9 1, 3) := by decide +kernel
theorem dX6_miss_167 : decode cX6_miss 167 = .ok (.goto (-93), 3) := by decide +kernel
theorem dX6_miss_170 : decode cX6_miss 170 = .ok (.iinc 8 1, 3) := by decide +kernel
theorem dX6_miss_173 : decode cX6_miss 173 = .ok (.goto (-113), 3) := by decide +kernel
theorem dX6_miss_176 : decode cX6_miss 176 = .ok (.iload 6, 2) := by decide +kernel
theorem dX6_miss_178 : decode cX6_miss 178 = .ok (.bipush 99, 2) := by decide +kernel
theorem dX6_miss_180 : decode cX6_miss 180 = .ok (.if_icmp .ge 17, 3) := by decide +kernel
theorem dX6_miss_183 : decode cX6_miss 183 = .ok (.aload_n 0, 1) := by decide +kernel
theorem dX6_miss_184 : decode cX6_miss 184 = .ok (.iload_n 1, 1) := by decide +kernel
theorem dX6_miss_185 : decode cX6_miss 185 = .ok (.invokevirtual 129, 3) := by decide +kernel
theorem dX6_miss_188 : decode cX6_miss 188 = .ok (.iload 5, 2) := by decide +kernel
theorem dX6_miss_190 : decode cX6_miss 190 = .ok (.bipush 100, 2) := by decide +kernel
theorem dX6_miss_192 : decode cX6_miss 192 = .ok (.iload 6, 2) := by decide +kernel
theorem dX6_miss_194 : decode cX6_miss 194 = .ok (.imul, 1) := by decide +kernel
theorem dX6_miss_195 : decode cX6_miss 195 = .ok (.iadd, 1) := by decide +kernel
theorem dX6_miss_196 : decode cX6_miss 196 = .ok (.ireturn, 1) := by decide +kernel
theorem dX6_miss_197 : decode cX6_miss 197 = .ok (.iinc 5 1, 3) := by decide +kernel
theorem dX6_miss_200 : decode cX6_miss 200 = .ok (.goto (-156), 3) := by decide +kernel
theorem dX6_miss_203 : decode cX6_miss 203 = .ok (.bipush (-2), 2) := by decide +kernel
theorem dX6_miss_205 : decode cX6_miss 205 = .ok (.ireturn, 1) := by decide +kernel
theorem dX6_without_0 : decode cX6_without 0 = .ok (.iconst 0, 1) := by decide +kernel
theorem dX6_without_1 : decode cX6_without 1 = .ok (.istore_n 3, 1) := by decide +kernel
theorem dX6_without_2 : decode cX6_without 2 = .ok (.iconst 0, 1) := by decide +kernel
theorem dX6_without_3 : decode cX6_without 3 = .ok (.istore 4, 2) := by decide +kernel
theorem dX6_without_5 : decode cX6_without 5 = .ok (.iload 4, 2) := by decide +kernel
theorem dX6_without_7 : decode cX6_without 7 = .ok (.aload_n 0, 1) := by decide +kernel
theorem dX6_without_8 : decode cX6_without 8 = .ok (.getfield 13, 3) := by decide +kernel
theorem dX6_without_11 : decode cX6_without 11 = .ok (.if_icmp .ge 46, 3) := by decide +kernel
theorem dX6_without_14 : decode cX6_without 14 = .ok (.iload_n 3, 1) := by decide +kernel
theorem dX6_without_15 : decode cX6_without 15 = .ok (.aload_n 0, 1) := by decide +kernel
theorem dX6_without_16 : decode cX6_without 16 = .ok (.aload_n 0, 1) := by decide +kernel
theorem dX6_without_17 : decode cX6_without 17 = .ok (.getfield 54, 3) := by decide +kernel
theorem dX6_without_20 : decode cX6_without 20 = .ok (.iload 4, 2) := by decide +kernel
theorem dX6_without_22 : decode cX6_without 22 = .ok (.iaload, 1) := by decide +kernel
theorem dX6_without_23 : decode cX6_without 23 = .ok (.iload_n 2, 1) := by decide +kernel
theorem dX6_without_24 : decode cX6_without 24 = .ok (.aload_n 0, 1) := by decide +kernel
theorem dX6_without_25 : decode cX6_without 25 = .ok (.getfield 19, 3) := by decide +kernel
theorem dX6_without_28 : decode cX6_without 28 = .ok (.bipush 12, 2) := by decide +kernel
theorem dX6_without_30 : decode cX6_without 30 = .ok (.iload 4, 2) := by decide +kernel
theorem dX6_without_32 : decode cX6_without 32 = .ok (.imul, 1) := by decide +kernel
theorem dX6_without_33 : decode cX6_without 33 = .ok (.iload_n 1, 1) := by decide +kernel
theorem dX6_without_34 : decode cX6_without 34 = .ok (.iadd, 1) := by decide +kernel
theorem dX6_without_35 : decode cX6_without 35 = .ok (.iaload, 1) := by decide +kernel
theorem dX6_without_36 : decode cX6_without 36 = .ok (.imul, 1) := by decide +kernel
theorem dX6_without_37 : decode cX6_without 37 = .ok (.isub, 1) := by decide +kernel
theorem dX6_without_38 : decode cX6_without 38 = .ok (.invokevirtual 77, 3) := by decide +kernel
theorem dX6_without_41 : decode cX6_without 41 = .ok (.ifCond .ne 7, 3) := by decide +kernel
theorem dX6_without_44 : decode cX6_without 44 = .ok (.iconst 0, 1) := by decide +kernel
theorem dX6_without_45 : decode cX6_without 45 = .ok (.goto 4, 3) := by decide +kernel
theorem dX6_without_48 : decode cX6_without 48 = .ok (.iconst 1, 1) := by decide +kernel
theorem dX6_without_49 : decode cX6_without 49 = .ok (.iadd, 1) := by decide +kernel
theorem dX6_without_50 : decode cX6_without 50 = .ok (.istore_n 3, 1) := by decide +kernel
theorem dX6_without_51 : decode cX6_without 51 = .ok (.iinc 4 1, 3) := by decide +kernel
theorem dX6_without_54 : decode cX6_without 54 = .ok (.goto (-49), 3) := by decide +kernel
theorem dX6_without_57 : decode cX6_without 57 = .ok (.iload_n 3, 1) := by decide +kernel
theorem dX6_without_58 : decode cX6_without 58 = .ok (.ireturn, 1) := by decide +kernel
theorem dX6_greedy_0 : decode cX6_greedy 0 = .ok (.iload_n 1, 1) := by decide +kernel
theorem dX6_greedy_1 : decode cX6_greedy 1 = .ok (.invokestatic 111, 3) := by decide +kernel
theorem dX6_greedy_4 : decode cX6_greedy 4 = .ok (.ifCond .eq 22, 3) := by decide +kernel
theorem dX6_greedy_7 : decode cX6_greedy 7 = .ok (.iload_n 2, 1) := by decide +kernel
theorem dX6_greedy_8 : decode cX6_greedy 8 = .ok (.invokestatic 111, 3) := by decide +kernel
theorem dX6_greedy_11 : decode cX6_greedy 11 = .ok (.ifCond .eq 15, 3) := by decide +kernel
theorem dX6_greedy_14 : decode cX6_greedy 14 = .ok (.iload_n 3, 1) := by decide +kernel
theorem dX6_greedy_15 : decode cX6_greedy 15 = .ok (.i2l, 1) := by decide +kernel
theorem dX6_greedy_16 : decode cX6_greedy 16 = .ok (.lconst 0, 1) := by decide +kernel
theorem dX6_greedy_17 : decode cX6_greedy 17 = .ok (.ldc2_w 142, 3) := by decide +kernel
theorem dX6_greedy_20 : decode cX6_greedy 20 = .ok (.invokestatic 61, 3) := by decide +kernel
theorem dX6_greedy_23 : decode cX6_greedy 23 = .ok (.ifCond .ne 5, 3) := by decide +kernel
theorem dX6_greedy_26 : decode cX6_greedy 26 = .ok (.iconst (-1), 1) := by decide +kernel
theorem dX6_greedy_27 : decode cX6_greedy 27 = .ok (.ireturn, 1) := by decide +kernel
theorem dX6_greedy_28 : decode cX6_greedy 28 = .ok (.iconst 0, 1) := by decide +kernel
theorem dX6_greedy_29 : decode cX6_greedy 29 = .ok (.istore 4, 2) := by decide +kernel
theorem dX6_greedy_31 : decode cX6_greedy 31 = .ok (.iload 4, 2) := by decide +kernel
theorem dX6_greedy_33 : decode cX6_greedy 33 = .ok (.aload_n 0, 1) := by decide +kernel
theorem dX6_greedy_34 : decode cX6_greedy 34 = .ok (.getfield 13, 3) := by decide +kernel
theorem dX6_greedy_37 : decode cX6_greedy 37 = .ok (.if_icmp .ge 28, 3) := by decide +kernel
theorem dX6_greedy_40 : decode cX6_greedy 40 = .ok (.aload_n 0, 1) := by decide +kernel
theorem dX6_greedy_41 : decode cX6_greedy 41 = .ok (.getfield 54, 3) := by decide +kernel
theorem dX6_greedy_44 : decode cX6_greedy 44 = .ok (.iload 4, 2) := by decide +kernel
theorem dX6_greedy_46 : decode cX6_greedy 46 = .ok (.aload_n 0, 1) := by decide +kernel
theorem dX6_greedy_47 : decode cX6_greedy 47 = .ok (.getfield 26, 3) := by decide +kernel
theorem dX6_greedy_50 : decode cX6_greedy 50 = .ok (.bipush 6, 2) := by decide +kernel
theorem dX6_greedy_52 : decode cX6_greedy 52 = .ok (.iload_n 2, 1) := by decide +kernel
theorem dX6_greedy_53 : decode cX6_greedy 53 = .ok (.imul, 1) := by decide +kernel
theorem dX6_greedy_54 : decode cX6_greedy 54 = .ok (.iload 4, 2) := by decide +kernel
theorem dX6_greedy_56 : decode cX6_greedy 56 = .ok (.iadd, 1) := by decide +kernel
theorem dX6_greedy_57 : decode cX6_greedy 57 = .ok (.iaload, 1) := by decide +kernel
theorem dX6_greedy_58 : decode cX6_greedy 58 = .ok (.iastore, 1) := by decide +kernel
theorem dX6_greedy_59 : decode cX6_greedy 59 = .ok (.iinc 4 1, 3) := by decide +kernel
theorem dX6_greedy_62 : decode cX6_greedy 62 = .ok (.goto (-31), 3) := by decide +kernel
theorem dX6_greedy_65 : decode cX6_greedy 65 = .ok (.aload_n 0, 1) := by decide +kernel
theorem dX6_greedy_66 : decode cX6_greedy 66 = .ok (.aload_n 0, 1) := by decide +kernel
theorem dX6_greedy_67 : decode cX6_greedy 67 = .ok (.getfield 54, 3) := by decide +kernel
theorem dX6_greedy_70 : decode cX6_greedy 70 = .ok (.iconst 0, 1) := by decide +kernel
theorem dX6_greedy_71 : decode cX6_greedy 71 = .ok (.aload_n 0, 1) := by decide +kernel
theorem dX6_greedy_72 : decode cX6_greedy 72 = .ok (.getfield 13, 3) := by decide +kernel
theorem dX6_greedy_75 : decode cX6_greedy 75 = .ok (.invokevirtual 114, 3) := by decide +kernel
theorem dX6_greedy_78 : decode cX6_greedy 78 = .ok (.istore 4, 2) := by decide +kernel
theorem dX6_greedy_80 : decode cX6_greedy 80 = .ok (.iconst 0, 1) := by decide +kernel
theorem dX6_greedy_81 : decode cX6_greedy 81 = .ok (.istore 5, 2) := by decide +kernel
theorem dX6_greedy_83 : decode cX6_greedy 83 = .ok (.iconst 0, 1) := by decide +kernel
theorem dX6_greedy_84 : decode cX6_greedy 84 = .ok (.istore 6, 2) := by decide +kernel
theorem dX6_greedy_86 : decode cX6_greedy 86 = .ok (.iload 6, 2) := by decide +kernel
theorem dX6_greedy_88 : decode cX6_greedy 88 = .ok (.bipush 12, 2) := by decide +kernel
theorem dX6_greedy_90 : decode cX6_greedy 90 = .ok (.if_icmp .ge 22, 3) := by decide +kernel
theorem dX6_greedy_93 : decode cX6_greedy 93 = .ok (.aload_n 0, 1) := by decide +kernel
theorem dX6_greedy_94 : decode cX6_greedy 94 = .ok (.getfield 23, 3) := by decide +kernel
theorem dX6_greedy_97 : decode cX6_greedy 97 = .ok (.bipush 12, 2) := by decide +kernel
theorem dX6_greedy_99 : decode cX6_greedy 99 = .ok (.iload_n 1, 1) := by decide +kernel
theorem dX6_greedy_100 : decode cX6_greedy 100 = .ok (.imul, 1) := by decide +kernel
theorem dX6_greedy_101 : decode cX6_greedy 101 = .ok (.iload 6, 2) := by decide +kernel
theorem dX6_greedy_103 : decode cX6_greedy 103 = .ok (.iadd, 1) := by decide +kernel
theorem dX6_greedy_104 : decode cX6_greedy 104 = .ok (.iconst 0, 1) := by decide +kernel
theorem dX6_greedy_105 : decode cX6_greedy 105 = .ok (.iastore, 1) := by decide +kernel
theorem dX6_greedy_106 : decode cX6_greedy 106 = .ok (.iinc 6 1, 3) := by decide +kernel
theorem dX6_greedy_109 : decode cX6_greedy 109 = .ok (.goto (-23), 3) := by decide +kernel
theorem dX6_greedy_112 : decode cX6_greedy 112 = .ok (.iconst 1, 1) := by decide +kernel
theorem dX6_greedy_113 : decode cX6_greedy 113 = .ok (.istore 6, 2) := by decide +kernel
theorem dX6_greedy_115 : decode cX6_greedy 115 = .ok (.iconst 0, 1) := by decide +kernel
theorem dX6_greedy_116 : decode cX6_greedy 116 = .ok (.istore 7, 2) := by decide +kernel
theorem dX6_greedy_118 : decode cX6_greedy 118 = .ok (.iload 7, 2) := by decide +kernel
theorem dX6_greedy_120 : decode cX6_greedy 120 = .ok (.iload_n 3, 1) := by decide +kernel
theorem dX6_greedy_121 : decode cX6_greedy 121 = .ok (.if_icmp .ge 203, 3) := by decide +kernel
theorem dX6_greedy_124 : decode cX6_greedy 124 = .ok (.iload 4, 2) := by decide +kernel
theorem dX6_greedy_126 : decode cX6_greedy 126 = .ok (.ifCond .le 198, 3) := by decide +kernel
theorem dX6_greedy_129 : decode cX6_greedy 129 = .ok (.iload 6, 2) := by decide +kernel
theorem dX6_greedy_131 : decode cX6_greedy 131 = .ok (.ifCond .eq 193, 3) := by decide +kernel
theorem dX6_greedy_134 : decode cX6_greedy 134 = .ok (.iconst (-1), 1) := by decide +kernel
theorem dX6_greedy_135 : decode cX6_greedy 135 = .ok (.istore 8, 2) := by decide +kernel
theorem dX6_greedy_137 : decode cX6_greedy 137 = .ok (.iconst 0, 1) := by decide +kernel
theorem dX6_greedy_138 : decode cX6_greedy 138 = .ok (.istore 9, 2) := by decide +kernel
theorem dX6_greedy_140 : decode cX6_greedy 140 = .ok (.iload 4, 2) := by decide +kernel
theorem dX6_greedy_142 : decode cX6_greedy 142 = .ok (.istore 10, 2) := by decide +kernel
theorem dX6_greedy_144 : decode cX6_greedy 144 = .ok (.iconst 0, 1) := by decide +kernel
theorem dX6_greedy_145 : decode cX6_greedy 145 = .ok (.istore 11, 2) := by decide +kernel
theorem dX6_greedy_147 : decode cX6_greedy 147 = .ok (.iload 11, 2) := by decide +kernel
theorem dX6_greedy_149 : decode cX6_greedy 149 = .ok (.aload_n 0, 1) := by decide +kernel
theorem dX6_greedy_150 : decode cX6_greedy 150 = .ok (.getfield 16, 3) := by decide +kernel
theorem dX6_greedy_153 : decode cX6_greedy 153 = .ok (.if_icmp .ge 68, 3) := by decide +kernel
theorem dX6_greedy_156 : decode cX6_greedy 156 = .ok (.iconst 0, 1) := by decide +kernel
theorem dX6_greedy_157 : decode cX6_greedy 157 = .ok (.istore 12, 2) := by decide +kernel
theorem dX6_greedy_159 : decode cX6_greedy 159 = .ok (.iload 12, 2) := by decide +kernel
theorem dX6_greedy_161 : decode cX6_greedy 161 = .ok (.aload_n 0, 1) := by decide +kernel
theorem dX6_greedy_162 : decode cX6_greedy 162 = .ok (.getfield 7, 3) := by decide +kernel
theorem dX6_greedy_165 : decode cX6_greedy 165 = .ok (.if_icmp .ge 50, 3) := by decide +kernel
theorem dX6_greedy_168 : decode cX6_greedy 168 = .ok (.iload 5, 2) := by decide +kernel
theorem dX6_greedy_170 : decode cX6_greedy 170 = .ok (.iload 11, 2) := by decide +kernel
theorem dX6_greedy_172 : decode cX6_greedy 172 = .ok (.ishr, 1) := by decide +kernel
theorem dX6_greedy_173 : decode cX6_greedy 173 = .ok (.iconst 1, 1) := by decide +kernel
theorem dX6_greedy_174 : decode cX6_greedy 174 = .ok (.iand, 1) := by decide +kernel
theorem dX6_greedy_175 : decode cX6_greedy 175 = .ok (.ifCond .ne 40, 3) := by decide +kernel
theorem dX6_greedy_178 : decode cX6_greedy 178 = .ok (.aload_n 0, 1) := by decide +kernel
theorem dX6_greedy_179 : decode cX6_greedy 179 = .ok (.iload 11, 2) := by decide +kernel
theorem dX6_greedy_181 : decode cX6_greedy 181 = .ok (.iload 12, 2) := by decide +kernel
theorem dX6_greedy_183 : decode cX6_greedy 183 = .ok (.invokevirtual 144, 3) := by decide +kernel
theorem dX6_greedy_186 : decode cX6_greedy 186 = .ok (.iload 10, 2) := by decide +kernel
theorem dX6_greedy_188 : decode cX6_greedy 188 = .ok (.if_icmp .ge 21, 3) := by decide +kernel
theorem dX6_greedy_191 : decode cX6_greedy 191 = .ok (.aload_n 0, 1) := by decide +kernel
theorem dX6_greedy_192 : decode cX6_greedy 192 = .ok (.iload 11, 2) := by decide +kernel
theorem dX6_greedy_194 : decode cX6_greedy 194 = .ok (.iload 12, 2) := by decide +kernel
theorem dX6_greedy_196 : decode cX6_greedy 196 = .ok (.invokevirtual 144, 3) := by decide +kernel
theorem dX6_greedy_199 : decode cX6_greedy 199 = .ok (.istore 10, 2) := by decide +kernel
theorem dX6_greedy_201 : decode cX6_greedy 201 = .ok (.iload 11, 2) := by decide +kernel
theorem dX6_greedy_203 : decode cX6_greedy 203 = .ok (.istore 8, 2) := by decide +kernel
theorem dX6_greedy_205 : decode cX6_greedy 205 = .ok (.iload 12, 2) := by decide +kernel
theorem dX6_greedy_207 : decode cX6_greedy 207 = .ok (.istore 9, 2) := by decide +kernel
theorem dX6_greedy_209 : decode cX6_greedy 209 = .ok (.iinc 12 1, 3) := by decide +kernel
theorem dX6_greedy_212 : decode cX6_greedy 212 = .ok (.goto (-53), 3) := by decide +kernel
theorem dX6_greedy_215 : decode cX6_greedy 215 = .ok (.iinc 11 1, 3) := by decide +kernel
theorem dX6_greedy_218 : decode cX6_greedy 218 = .ok (.goto (-71), 3) := by decide +kernel
theorem dX6_greedy_221 : decode cX6_greedy 221 = .ok (.iload 8, 2) := by decide +kernel
theorem dX6_greedy_223 : decode cX6_greedy 223 = .ok (.ifCond .lt 7, 3) := by decide +kernel
theorem dX6_greedy_226 : decode cX6_greedy 226 = .ok (.iconst 1, 1) := by decide +kernel
theorem dX6_greedy_227 : decode cX6_greedy 227 = .ok (.goto 4, 3) := by decide +kernel
theorem dX6_greedy_230 : decode cX6_greedy 230 = .ok (.iconst 0, 1) := by decide +kernel
theorem dX6_greedy_231 : decode cX6_greedy 231 = .ok (.istore 6, 2) := by decide +kernel
theorem dX6_greedy_233 : decode cX6_greedy 233 = .ok (.iload 6, 2) := by decide +kernel
theorem dX6_greedy_235 : decode cX6_greedy 235 = .ok (.ifCond .eq 83, 3) := by decide +kernel
theorem dX6_greedy_238 : decode cX6_greedy 238 = .ok (.iconst 0, 1) := by decide +kernel
theorem dX6_greedy_239 : decode cX6_greedy 239 = .ok (.istore 11, 2) := by decide +kernel
theorem dX6_greedy_241 : decode cX6_greedy 241 = .ok (.iload 11, 2) := by decide +kernel
theorem dX6_greedy_243 : decode cX6_greedy 243 = .ok (.aload_n 0, 1) := by decide +kernel
theorem dX6_greedy_244 : decode cX6_greedy 244 = .ok (.getfield 13, 3) := by decide +kernel
theorem dX6_greedy_247 : decode cX6_greedy 247 = .ok (.if_icmp .ge 44, 3) := by decide +kernel
theorem dX6_greedy_250 : decode cX6_greedy 250 = .ok (.aload_n 0, 1) := by decide +kernel
theorem dX6_greedy_251 : decode cX6_greedy 251 = .ok (.getfield 54, 3) := by decide +kernel
theorem dX6_greedy_254 : decode cX6_greedy 254 = .ok (.iload 11, 2) := by decide +kernel
theorem dX6_greedy_256 : decode cX6_greedy 256 = .ok (.aload_n 0, 1) := by decide +kernel
theorem dX6_greedy_257 : decode cX6_greedy 257 = .ok (.aload_n 0, 1) := by decide +kernel
theorem dX6_greedy_258 : decode cX6_greedy 258 = .ok (.getfield 54, 3) := by decide +kernel
theorem dX6_greedy_261 : decode cX6_greedy 261 = .ok (.iload 11, 2) := by decide +kernel
theorem dX6_greedy_263 : decode cX6_greedy 263 = .ok (.iaload, 1) := by decide +kernel
theorem dX6_greedy_264 : decode cX6_greedy 264 = .ok (.iload 9, 2) := by decide +kernel
theorem dX6_greedy_266 : decode cX6_greedy 266 = .ok (.aload_n 0, 1) := by decide +kernel
theorem dX6_greedy_267 : decode cX6_greedy 267 = .ok (.getfield 19, 3) := by decide +kernel
theorem dX6_greedy_270 : decode cX6_greedy 270 = .ok (.bipush 12, 2) := by decide +kernel
theorem dX6_greedy_272 : decode cX6_greedy 272 = .ok (.iload 11, 2) := by decide +kernel
theorem dX6_greedy_274 : decode cX6_greedy 274 = .ok (.imul, 1) := by decide +kernel
theorem dX6_greedy_275 : decode cX6_greedy 275 = .ok (.iload 8, 2) := by decide +kernel
theorem dX6_greedy_277 : decode cX6_greedy 277 = .ok (.iadd, 1) := by decide +kernel
theorem dX6_greedy_278 : decode cX6_greedy 278 = .ok (.iaload, 1) := by decide +kernel
theorem dX6_greedy_279 : decode cX6_greedy 279 = .ok (.imul, 1) := by decide +kernel
theorem dX6_greedy_280 : decode cX6_greedy 280 = .ok (.isub, 1) := by decide +kernel
theorem dX6_greedy_281 : decode cX6_greedy 281 = .ok (.invokevirtual 77, 3) := by decide +kernel
theorem dX6_greedy_284 : decode cX6_greedy 284 = .ok (.iastore, 1) := by decide +kernel
theorem dX6_greedy_285 : decode cX6_greedy 285 = .ok (.iinc 11 1, 3) := by decide +kernel
theorem dX6_greedy_288 : decode cX6_greedy 288 = .ok (.goto (-47), 3) := by decide +kernel
theorem dX6_greedy_291 : decode cX6_greedy 291 = .ok (.aload_n 0, 1) := by decide +kernel
theorem dX6_greedy_292 : decode cX6_greedy 292 = .ok (.getfield 23, 3) := by decide +kernel
theorem dX6_greedy_295 : decode cX6_greedy 295 = .ok (.bipush 12, 2) := by decide +kernel
theorem dX6_greedy_297 : decode cX6_greedy 297 = .ok (.iload_n 1, 1) := by decide +kernel
theorem dX6_greedy_298 : decode cX6_greedy 298 = .ok (.imul, 1) := by decide +kernel
theorem dX6_greedy_299 : decode cX6_greedy 299 = .ok (.iload 8, 2) := by decide +kernel
theorem dX6_greedy_301 : decode cX6_greedy 301 = .ok (.iadd, 1) := by decide +kernel
theorem dX6_greedy_302 : decode cX6_greedy 302 = .ok (.iload 9, 2) := by decide +kernel
theorem dX6_greedy_304 : decode cX6_greedy 304 = .ok (.iastore, 1) := by decide +kernel
theorem dX6_greedy_305 : decode cX6_greedy 305 = .ok (.iload 5, 2) := by decide +kernel
theorem dX6_greedy_307 : decode cX6_greedy 307 = .ok (.iconst 1, 1) := by decide +kernel
theorem dX6_greedy_308 : decode cX6_greedy 308 = .ok (.iload 8, 2) := by decide +kernel
theorem dX6_greedy_310 : decode cX6_greedy 310 = .ok (.ishl, 1) := by decide +kernel
theorem dX6_greedy_311 : decode cX6_greedy 311 = .ok (.ior, 1) := by decide +kernel
theorem dX6_greedy_312 : decode cX6_greedy 312 = .ok (.istore 5, 2) := by decide +kernel
theorem dX6_greedy_314 : decode cX6_greedy 314 = .ok (.iload 10, 2) := by decide +kernel
theorem dX6_greedy_316 : decode cX6_greedy 316 = .ok (.istore 4, 2) := by decide +kernel
theorem dX6_greedy_318 : decode cX6_greedy 318 = .ok (.iinc 7 1, 3) := by decide +kernel
theorem dX6_greedy_321 : decode cX6_greedy 321 = .ok (.goto (-203), 3) := by decide +kernel
theorem dX6_greedy_324 : decode cX6_greedy 324 = .ok (.iload 4, 2) := by decide +kernel
theorem dX6_greedy_326 : decode cX6_greedy 326 = .ok (.ifCond .ne 32, 3) := by decide +kernel
theorem dX6_greedy_329 : decode cX6_greedy 329 = .ok (.iconst 2, 1) := by decide +kernel
theorem dX6_greedy_330 : decode cX6_greedy 330 = .ok (.aload_n 0, 1) := by decide +kernel
theorem dX6_greedy_331 : decode cX6_greedy 331 = .ok (.aload_n 0, 1) := by decide +kernel
theorem dX6_greedy_332 : decode cX6_greedy 332 = .ok (.getfield 23, 3) := by decide +kernel
theorem dX6_greedy_335 : decode cX6_greedy 335 = .ok (.bipush 12, 2) := by decide +kernel
theorem dX6_greedy_337 : decode cX6_greedy 337 = .ok (.iload_n 1, 1) := by decide +kernel
theorem dX6_greedy_338 : decode cX6_greedy 338 = .ok (.imul, 1) := by decide +kernel
theorem dX6_greedy_339 : decode cX6_greedy 339 = .ok (.aload_n 0, 1) := by decide +kernel
theorem dX6_greedy_340 : decode cX6_greedy 340 = .ok (.getfield 16, 3) := by decide +kernel
theorem dX6_greedy_343 : decode cX6_greedy 343 = .ok (.invokevirtual 114, 3) := by decide +kernel
theorem dX6_greedy_346 : decode cX6_greedy 346 = .ok (.imul, 1) := by decide +kernel
theorem dX6_greedy_347 : decode cX6_greedy 347 = .ok (.aload_n 0, 1) := by decide +kernel
theorem dX6_greedy_348 : decode cX6_greedy 348 = .ok (.invokevirtual 102, 3) := by decide +kernel
theorem dX6_greedy_351 : decode cX6_greedy 351 = .ok (.if_icmp .ge 7, 3) := by decide +kernel
theorem dX6_greedy_354 : decode cX6_greedy 354 = .ok (.iconst 1, 1) := by decide +kernel
theorem dX6_greedy_355 : decode cX6_greedy 355 = .ok (.goto 4, 3) := by decide +kernel
theorem dX6_greedy_358 : decode cX6_greedy 358 = .ok (.iconst 0, 1) := by decide +kernel
theorem dX6_greedy_359 : decode cX6_greedy 359 = .ok (.istore 7, 2) := by decide +kernel
theorem dX6_greedy_361 : decode cX6_greedy 361 = .ok (.iload 4, 2) := by decide +kernel
theorem dX6_greedy_363 : decode cX6_greedy 363 = .ok (.iload 7, 2) := by decide +kernel
theorem dX6_greedy_365 : decode cX6_greedy 365 = .ok (.ifCond .eq 8, 3) := by decide +kernel
theorem dX6_greedy_368 : decode cX6_greedy 368 = .ok (.bipush 100, 2) := by decide +kernel
theorem dX6_greedy_370 : decode cX6_greedy 370 = .ok (.goto 4, 3) := by decide +kernel
theorem dX6_greedy_373 : decode cX6_greedy 373 = .ok (.iconst 0, 1) := by decide +kernel
theorem dX6_greedy_374 : decode cX6_greedy 374 = .ok (.iadd, 1) := by decide +kernel
theorem dX6_greedy_375 : decode cX6_greedy 375 = .ok (.ireturn, 1) := by decide +kernel
theorem dX6_sketch_0 : decode cX6_sketch 0 = .ok (.iload_n 1, 1) := by decide +kernel
theorem dX6_sketch_1 : decode cX6_sketch 1 = .ok (.i2l, 1) := by decide +kernel
theorem dX6_sketch_2 : decode cX6_sketch 2 = .ok (.lconst 1, 1) := by decide +kernel
theorem dX6_sketch_3 : decode cX6_sketch 3 = .ok (.ldc2_w 120, 3) := by decide +kernel
theorem dX6_sketch_6 : decode cX6_sketch 6 = .ok (.invokestatic 61, 3) := by decide +kernel
theorem dX6_sketch_9 : decode cX6_sketch 9 = .ok (.ifCond .eq 17, 3) := by decide +kernel
theorem dX6_sketch_12 : decode cX6_sketch 12 = .ok (.iload_n 2, 1) := by decide +kernel
theorem dX6_sketch_13 : decode cX6_sketch 13 = .ok (.i2l, 1) := by decide +kernel
theorem dX6_sketch_14 : decode cX6_sketch 14 = .ok (.ldc2_w 57, 3) := by decide +kernel
theorem dX6_sketch_17 : decode cX6_sketch 17 = .ok (.ldc2_w 148, 3) := by decide +kernel
theorem dX6_sketch_20 : decode cX6_sketch 20 = .ok (.invokestatic 61, 3) := by decide +kernel
theorem dX6_sketch_23 : decode cX6_sketch 23 = .ok (.ifCond .ne 5, 3) := by decide +kernel
theorem dX6_sketch_26 : decode cX6_sketch 26 = .ok (.iconst (-1), 1) := by decide +kernel
theorem dX6_sketch_27 : decode cX6_sketch 27 = .ok (.ireturn, 1) := by decide +kernel
theorem dX6_sketch_28 : decode cX6_sketch 28 = .ok (.aload_n 0, 1) := by decide +kernel
theorem dX6_sketch_29 : decode cX6_sketch 29 = .ok (.iload_n 1, 1) := by decide +kernel
theorem dX6_sketch_30 : decode cX6_sketch 30 = .ok (.putfield 29, 3) := by decide +kernel
theorem dX6_sketch_33 : decode cX6_sketch 33 = .ok (.aload_n 0, 1) := by decide +kernel
theorem dX6_sketch_34 : decode cX6_sketch 34 = .ok (.iload_n 2, 1) := by decide +kernel
theorem dX6_sketch_35 : decode cX6_sketch 35 = .ok (.putfield 32, 3) := by decide +kernel
theorem dX6_sketch_38 : decode cX6_sketch 38 = .ok (.aload_n 0, 1) := by decide +kernel
theorem dX6_sketch_39 : decode cX6_sketch 39 = .ok (.iconst 0, 1) := by decide +kernel
theorem dX6_sketch_40 : decode cX6_sketch 40 = .ok (.putfield 150, 3) := by decide +kernel
theorem dX6_sketch_43 : decode cX6_sketch 43 = .ok (.aload_n 0, 1) := by decide +kernel
theorem dX6_sketch_44 : decode cX6_sketch 44 = .ok (.iconst 0, 1) := by decide +kernel
theorem dX6_sketch_45 : decode cX6_sketch 45 = .ok (.putfield 153, 3) := by decide +kernel
theorem dX6_sketch_48 : decode cX6_sketch 48 = .ok (.iconst 0, 1) := by decide +kernel
theorem dX6_sketch_49 : decode cX6_sketch 49 = .ok (.istore_n 3, 1) := by decide +kernel
theorem dX6_sketch_50 : decode cX6_sketch 50 = .ok (.iload_n 3, 1) := by decide +kernel
theorem dX6_sketch_51 : decode cX6_sketch 51 = .ok (.sipush 768, 3) := by decide +kernel
theorem dX6_sketch_54 : decode cX6_sketch 54 = .ok (.if_icmp .ge 16, 3) := by decide +kernel
theorem dX6_sketch_57 : decode cX6_sketch 57 = .ok (.aload_n 0, 1) := by decide +kernel
theorem dX6_sketch_58 : decode cX6_sketch 58 = .ok (.getfield 35, 3) := by decide +kernel
theorem dX6_sketch_61 : decode cX6_sketch 61 = .ok (.iload_n 3, 1) := by decide +kernel
theorem dX6_sketch_62 : decode cX6_sketch 62 = .ok (.lconst 0, 1) := by decide +kernel
theorem dX6_sketch_63 : decode cX6_sketch 63 = .ok (.lastore, 1) := by decide +kernel
theorem dX6_sketch_64 : decode cX6_sketch 64 = .ok (.iinc 3 1, 3) := by decide +kernel
theorem dX6_sketch_67 : decode cX6_sketch 67 = .ok (.goto (-17), 3) := by decide +kernel
theorem dX6_sketch_70 : decode cX6_sketch 70 = .ok (.iconst 0, 1) := by decide +kernel
theorem dX6_sketch_71 : decode cX6_sketch 71 = .ok (.ireturn, 1) := by decide +kernel
theorem dX6_bucketOf_0 : decode cX6_bucketOf 0 = .ok (.iload_n 2, 1) := by decide +kernel
theorem dX6_bucketOf_1 : decode cX6_bucketOf 1 = .ok (.i2l, 1) := by decide +kernel
theorem dX6_bucketOf_2 : decode cX6_bucketOf 2 = .ok (.iconst 2, 1) := by decide +kernel
theorem dX6_bucketOf_3 : decode cX6_bucketOf 3 = .ok (.iload_n 1, 1) := by decide +kernel
theorem dX6_bucketOf_4 : decode cX6_bucketOf 4 = .ok (.imul, 1) := by decide +kernel
theorem dX6_bucketOf_5 : decode cX6_bucketOf 5 = .ok (.iconst 3, 1) := by decide +kernel
theorem dX6_bucketOf_6 : decode cX6_bucketOf 6 = .ok (.iadd, 1) := by decide +kernel
theorem dX6_bucketOf_7 : decode cX6_bucketOf 7 = .ok (.i2l, 1) := by decide +kernel
theorem dX6_bucketOf_8 : decode cX6_bucketOf 8 = .ok (.lmul, 1) := by decide +kernel
theorem dX6_bucketOf_9 : decode cX6_bucketOf 9 = .ok (.iload_n 2, 1) := by decide +kernel
theorem dX6_bucketOf_10 : decode cX6_bucketOf 10 = .ok (.iconst 5, 1) := by decide +kernel
theorem dX6_bucketOf_11 : decode cX6_bucketOf 11 = .ok (.iload_n 1, 1) := by decide +kernel
theorem dX6_bucketOf_12 : decode cX6_bucketOf 12 = .ok (.imul, 1) := by decide +kernel
theorem dX6_bucketOf_13 : decode cX6_bucketOf 13 = .ok (.bipush 7, 2) := by decide +kernel
theorem dX6_bucketOf_15 : decode cX6_bucketOf 15 = .ok (.iadd, 1) := by decide +kernel
theorem dX6_bucketOf_16 : decode cX6_bucketOf 16 = .ok (.idiv, 1) := by decide +kernel
theorem dX6_bucketOf_17 : decode cX6_bucketOf 17 = .ok (.i2l, 1) := by decide +kernel
theorem dX6_bucketOf_18 : decode cX6_bucketOf 18 = .ok (.ladd, 1) := by decide +kernel
theorem dX6_bucketOf_19 : decode cX6_bucketOf 19 = .ok (.aload_n 0, 1) := by decide +kernel
theorem dX6_bucketOf_20 : decode cX6_bucketOf 20 = .ok (.getfield 32, 3) := by decide +kernel
theorem dX6_bucketOf_23 : decode cX6_bucketOf 23 = .ok (.i2l, 1) := by decide +kernel
theorem dX6_bucketOf_24 : decode cX6_bucketOf 24 = .ok (.lrem, 1) := by decide +kernel
theorem dX6_bucketOf_25 : decode cX6_bucketOf 25 = .ok (.l2i, 1) := by decide +kernel
theorem dX6_bucketOf_26 : decode cX6_bucketOf 26 = .ok (.ireturn, 1) := by decide +kernel
theorem dX6_third_0 : decode cX6_third 0 = .ok (.lload_n 0, 1) := by decide +kernel
theorem dX6_third_1 : decode cX6_third 1 = .ok (.ldc2_w 156, 3) := by decide +kernel
theorem dX6_third_4 : decode cX6_third 4 = .ok (.lrem, 1) := by decide +kernel
theorem dX6_third_5 : decode cX6_third 5 = .ok (.lstore_n 2, 1) := by decide +kernel
theorem dX6_third_6 : decode cX6_third 6 = .ok (.lload_n 2, 1) := by decide +kernel
theorem dX6_third_7 : decode cX6_third 7 = .ok (.lconst 0, 1) := by decide +kernel
theorem dX6_third_8 : decode cX6_third 8 = .ok (.lcmp, 1) := by decide +kernel
theorem dX6_third_9 : decode cX6_third 9 = .ok (.ifCond .ge 11, 3) := by decide +kernel
theorem dX6_third_12 : decode cX6_third 12 = .ok (.lload_n 2, 1) := by decide +kernel
theorem dX6_third_13 : decode cX6_third 13 = .ok (.ldc2_w 156, 3) := by decide +kernel
theorem dX6_third_16 : decode cX6_third 16 = .ok (.ladd, 1) := by decide +kernel
theorem dX6_third_17 : decode cX6_third 17 = .ok (.goto 4, 3) := by decide +kernel
theorem dX6_third_20 : decode cX6_third 20 = .ok (.lload_n 2, 1) := by decide +kernel
theorem dX6_third_21 : decode cX6_third 21 = .ok (.lreturn, 1) := by decide +kernel
theorem dX6_adds_0 : decode cX6_adds 0 = .ok (.iconst 0, 1) := by decide +kernel
theorem dX6_adds_1 : decode cX6_adds 1 = .ok (.istore 5, 2) := by decide +kernel
theorem dX6_adds_3 : decode cX6_adds 3 = .ok (.iload 5, 2) := by decide +kernel
theorem dX6_adds_5 : decode cX6_adds 5 = .ok (.aload_n 0, 1) := by decide +kernel
theorem dX6_adds_6 : decode cX6_adds 6 = .ok (.getfield 29, 3) := by decide +kernel
theorem dX6_adds_9 : decode cX6_adds 9 = .ok (.if_icmp .ge 93, 3) := by decide +kernel
theorem dX6_adds_12 : decode cX6_adds 12 = .ok (.iload_n 1, 1) := by decide +kernel
theorem dX6_adds_13 : decode cX6_adds 13 = .ok (.bipush 96, 2) := by decide +kernel
theorem dX6_adds_15 : decode cX6_adds 15 = .ok (.iload 5, 2) := by decide +kernel
theorem dX6_adds_17 : decode cX6_adds 17 = .ok (.imul, 1) := by decide +kernel
theorem dX6_adds_18 : decode cX6_adds 18 = .ok (.iadd, 1) := by decide +kernel
theorem dX6_adds_19 : decode cX6_adds 19 = .ok (.iconst 3, 1) := by decide +kernel
theorem dX6_adds_20 : decode cX6_adds 20 = .ok (.aload_n 0, 1) := by decide +kernel
theorem dX6_adds_21 : decode cX6_adds 21 = .ok (.iload 5, 2) := by decide +kernel
theorem dX6_adds_23 : decode cX6_adds 23 = .ok (.iload_n 2, 1) := by decide +kernel
theorem dX6_adds_24 : decode cX6_adds 24 = .ok (.invokevirtual 158, 3) := by decide +kernel
theorem dX6_adds_27 : decode cX6_adds 27 = .ok (.imul, 1) := by decide +kernel
theorem dX6_adds_28 : decode cX6_adds 28 = .ok (.iadd, 1) := by decide +kernel
theorem dX6_adds_29 : decode cX6_adds 29 = .ok (.istore 6, 2) := by decide +kernel
theorem dX6_adds_31 : decode cX6_adds 31 = .ok (.aload_n 0, 1) := by decide +kernel
theorem dX6_adds_32 : decode cX6_adds 32 = .ok (.getfield 35, 3) := by decide +kernel
theorem dX6_adds_35 : decode cX6_adds 35 = .ok (.iload 6, 2) := by decide +kernel
theorem dX6_adds_37 : decode cX6_adds 37 = .ok (.dup2, 1) := by decide +kernel
theorem dX6_adds_38 : decode cX6_adds 38 = .ok (.laload, 1) := by decide +kernel
theorem dX6_adds_39 : decode cX6_adds 39 = .ok (.lload_n 3, 1) := by decide +kernel
theorem dX6_adds_40 : decode cX6_adds 40 = .ok (.ladd, 1) := by decide +kernel
theorem dX6_adds_41 : decode cX6_adds 41 = .ok (.lastore, 1) := by decide +kernel
theorem dX6_adds_42 : decode cX6_adds 42 = .ok (.aload_n 0, 1) := by decide +kernel
theorem dX6_adds_43 : decode cX6_adds 43 = .ok (.getfield 35, 3) := by decide +kernel
theorem dX6_adds_46 : decode cX6_adds 46 = .ok (.iload 6, 2) := by decide +kernel
theorem dX6_adds_48 : decode cX6_adds 48 = .ok (.iconst 1, 1) := by decide +kernel
theorem dX6_adds_49 : decode cX6_adds 49 = .ok (.iadd, 1) := by decide +kernel
theorem dX6_adds_50 : decode cX6_adds 50 = .ok (.dup2, 1) := by decide +kernel
theorem dX6_adds_51 : decode cX6_adds 51 = .ok (.laload, 1) := by decide +kernel
theorem dX6_adds_52 : decode cX6_adds 52 = .ok (.lload_n 3, 1) := by decide +kernel
theorem dX6_adds_53 : decode cX6_adds 53 = .ok (.iload_n 2, 1) := by decide +kernel
theorem dX6_adds_54 : decode cX6_adds 54 = .ok (.i2l, 1) := by decide +kernel
theorem dX6_adds_55 : decode cX6_adds 55 = .ok (.lmul, 1) := by decide +kernel
theorem dX6_adds_56 : decode cX6_adds 56 = .ok (.ladd, 1) := by decide +kernel
theorem dX6_adds_57 : decode cX6_adds 57 = .ok (.lastore, 1) := by decide +kernel
theorem dX6_adds_58 : decode cX6_adds 58 = .ok (.aload_n 0, 1) := by decide +kernel
theorem dX6_adds_59 : decode cX6_adds 59 = .ok (.getfield 35, 3) := by decide +kernel
theorem dX6_adds_62 : decode cX6_adds 62 = .ok (.iload 6, 2) := by decide +kernel
theorem dX6_adds_64 : decode cX6_adds 64 = .ok (.iconst 2, 1) := by decide +kernel
theorem dX6_adds_65 : decode cX6_adds 65 = .ok (.iadd, 1) := by decide +kernel
theorem dX6_adds_66 : decode cX6_adds 66 = .ok (.aload_n 0, 1) := by decide +kernel
theorem dX6_adds_67 : decode cX6_adds 67 = .ok (.getfield 35, 3) := by decide +kernel
theorem dX6_adds_70 : decode cX6_adds 70 = .ok (.iload 6, 2) := by decide +kernel
theorem dX6_adds_72 : decode cX6_adds 72 = .ok (.iconst 2, 1) := by decide +kernel
theorem dX6_adds_73 : decode cX6_adds 73 = .ok (.iadd, 1) := by decide +kernel
theorem dX6_adds_74 : decode cX6_adds 74 = .ok (.laload, 1) := by decide +kernel
theorem dX6_adds_75 : decode cX6_adds 75 = .ok (.lload_n 3, 1) := by decide +kernel
theorem dX6_adds_76 : decode cX6_adds 76 = .ok (.invokestatic 161, 3) := by decide +kernel
theorem dX6_adds_79 : decode cX6_adds 79 = .ok (.iload_n 2, 1) := by decide +kernel
theorem dX6_adds_80 : decode cX6_adds 80 = .ok (.i2l, 1) := by decide +kernel
theorem dX6_adds_81 : decode cX6_adds 81 = .ok (.iload_n 2, 1) := by decide +kernel
theorem dX6_adds_82 : decode cX6_adds 82 = .ok (.i2l, 1) := by decide +kernel
theorem dX6_adds_83 : decode cX6_adds 83 = .ok (.lmul, 1) := by decide +kernel
theorem dX6_adds_84 : decode cX6_adds 84 = .ok (.invokestatic 161, 3) := by decide +kernel
theorem dX6_adds_87 : decode cX6_adds 87 = .ok (.lmul, 1) := by decide +kernel
theorem dX6_adds_88 : decode cX6_adds 88 = .ok (.invokestatic 161, 3) := by decide +kernel
theorem dX6_adds_91 : decode cX6_adds 91 = .ok (.ladd, 1) := by decide +kernel
theorem dX6_adds_92 : decode cX6_adds 92 = .ok (.invokestatic 161, 3) := by decide +kernel
theorem dX6_adds_95 : decode cX6_adds 95 = .ok (.lastore, 1) := by decide +kernel
theorem dX6_adds_96 : decode cX6_adds 96 = .ok (.iinc 5 1, 3) := by decide +kernel
theorem dX6_adds_99 : decode cX6_adds 99 = .ok (.goto (-96), 3) := by decide +kernel
theorem dX6_adds_102 : decode cX6_adds 102 = .ok (.return_, 1) := by decide +kernel
theorem dX6_add_0 : decode cX6_add 0 = .ok (.iload_n 1, 1) := by decide +kernel
theorem dX6_add_1 : decode cX6_add 1 = .ok (.i2l, 1) := by decide +kernel
theorem dX6_add_2 : decode cX6_add 2 = .ok (.lconst 0, 1) := by decide +kernel
theorem dX6_add_3 : decode cX6_add 3 = .ok (.ldc2_w 165, 3) := by decide +kernel
theorem dX6_add_6 : decode cX6_add 6 = .ok (.invokestatic 61, 3) := by decide +kernel
theorem dX6_add_9 : decode cX6_add 9 = .ok (.ifCond .eq 17, 3) := by decide +kernel
theorem dX6_add_12 : decode cX6_add 12 = .ok (.iload_n 2, 1) := by decide +kernel
theorem dX6_add_13 : decode cX6_add 13 = .ok (.i2l, 1) := by decide +kernel
theorem dX6_add_14 : decode cX6_add 14 = .ok (.ldc2_w 167, 3) := by decide +kernel
theorem dX6_add_17 : decode cX6_add 17 = .ok (.ldc2_w 169, 3) := by decide +kernel
theorem dX6_add_20 : decode cX6_add 20 = .ok (.invokestatic 61, 3) := by decide +kernel
theorem dX6_add_23 : decode cX6_add 23 = .ok (.ifCond .ne 5, 3) := by decide +kernel
theorem dX6_add_26 : decode cX6_add 26 = .ok (.iconst (-1), 1) := by decide +kernel
theorem dX6_add_27 : decode cX6_add 27 = .ok (.ireturn, 1) := by decide +kernel
theorem dX6_add_28 : decode cX6_add 28 = .ok (.aload_n 0, 1) := by decide +kernel
theorem dX6_add_29 : decode cX6_add 29 = .ok (.getfield 150, 3) := by decide +kernel
theorem dX6_add_32 : decode cX6_add 32 = .ok (.ldc 171, 2) := by decide +kernel
theorem dX6_add_34 : decode cX6_add 34 = .ok (.if_icmp .ne 6, 3) := by decide +kernel
theorem dX6_add_37 : decode cX6_add 37 = .ok (.bipush (-3), 2) := by decide +kernel
theorem dX6_add_39 : decode cX6_add 39 = .ok (.ireturn, 1) := by decide +kernel
theorem dX6_add_40 : decode cX6_add 40 = .ok (.aload_n 0, 1) := by decide +kernel
theorem dX6_add_41 : decode cX6_add 41 = .ok (.iconst 0, 1) := by decide +kernel
theorem dX6_add_42 : decode cX6_add 42 = .ok (.iload_n 1, 1) := by decide +kernel
theorem dX6_add_43 : decode cX6_add 43 = .ok (.iload_n 2, 1) := by decide +kernel
theorem dX6_add_44 : decode cX6_add 44 = .ok (.i2l, 1) := by decide +kernel
theorem dX6_add_45 : decode cX6_add 45 = .ok (.invokevirtual 172, 3) := by decide +kernel
theorem dX6_add_48 : decode cX6_add 48 = .ok (.aload_n 0, 1) := by decide +kernel
theorem dX6_add_49 : decode cX6_add 49 = .ok (.dup, 1) := by decide +kernel
theorem dX6_add_50 : decode cX6_add 50 = .ok (.getfield 150, 3) := by decide +kernel
theorem dX6_add_53 : decode cX6_add 53 = .ok (.iconst 1, 1) := by decide +kernel
theorem dX6_add_54 : decode cX6_add 54 = .ok (.iadd, 1) := by decide +kernel
theorem dX6_add_55 : decode cX6_add 55 = .ok (.putfield 150, 3) := by decide +kernel
theorem dX6_add_58 : decode cX6_add 58 = .ok (.aload_n 0, 1) := by decide +kernel
theorem dX6_add_59 : decode cX6_add 59 = .ok (.getfield 150, 3) := by decide +kernel
theorem dX6_add_62 : decode cX6_add 62 = .ok (.ireturn, 1) := by decide +kernel
theorem dX6_single_0 : decode cX6_single 0 = .ok (.sipush 384, 3) := by decide +kernel
theorem dX6_single_3 : decode cX6_single 3 = .ok (.bipush 96, 2) := by decide +kernel
theorem dX6_single_5 : decode cX6_single 5 = .ok (.iload_n 1, 1) := by decide +kernel
theorem dX6_single_6 : decode cX6_single 6 = .ok (.imul, 1) := by decide +kernel
theorem dX6_single_7 : decode cX6_single 7 = .ok (.iadd, 1) := by decide +kernel
theorem dX6_single_8 : decode cX6_single 8 = .ok (.iconst 3, 1) := by decide +kernel
theorem dX6_single_9 : decode cX6_single 9 = .ok (.iload_n 2, 1) := by decide +kernel
theorem dX6_single_10 : decode cX6_single 10 = .ok (.imul, 1) := by decide +kernel
theorem dX6_single_11 : decode cX6_single 11 = .ok (.iadd, 1) := by decide +kernel
theorem dX6_single_12 : decode cX6_single 12 = .ok (.istore_n 3, 1) := by decide +kernel
theorem dX6_single_13 : decode cX6_single 13 = .ok (.aload_n 0, 1) := by decide +kernel
theorem dX6_single_14 : decode cX6_single 14 = .ok (.getfield 35, 3) := by decide +kernel
theorem dX6_single_17 : decode cX6_single 17 = .ok (.iload_n 3, 1) := by decide +kernel
theorem dX6_single_18 : decode cX6_single 18 = .ok (.laload, 1) := by decide +kernel
theorem dX6_single_19 : decode cX6_single 19 = .ok (.lstore 4, 2) := by decide +kernel
theorem dX6_single_21 : decode cX6_single 21 = .ok (.lload 4, 2) := by decide +kernel
theorem dX6_single_23 : decode cX6_single 23 = .ok (.lconst 0, 1) := by decide +kernel
theorem dX6_single_24 : decode cX6_single 24 = .ok (.lcmp, 1) := by decide +kernel
theorem dX6_single_25 : decode cX6_single 25 = .ok (.ifCond .eq 19, 3) := by decide +kernel
theorem dX6_single_28 : decode cX6_single 28 = .ok (.aload_n 0, 1) := by decide +kernel
theorem dX6_single_29 : decode cX6_single 29 = .ok (.getfield 35, 3) := by decide +kernel
theorem dX6_single_32 : decode cX6_single 32 = .ok (.iload_n 3, 1) := by decide +kernel
theorem dX6_single_33 : decode cX6_single 33 = .ok (.iconst 1, 1) := by decide +kernel
theorem dX6_single_34 : decode cX6_single 34 = .ok (.iadd, 1) := by decide +kernel
theorem dX6_single_35 : decode cX6_single 35 = .ok (.laload, 1) := by decide +kernel
theorem dX6_single_36 : decode cX6_single 36 = .ok (.lload 4, 2) := by decide +kernel
theorem dX6_single_38 : decode cX6_single 38 = .ok (.lrem, 1) := by decide +kernel
theorem dX6_single_39 : decode cX6_single 39 = .ok (.lconst 0, 1) := by decide +kernel
theorem dX6_single_40 : decode cX6_single 40 = .ok (.lcmp, 1) := by decide +kernel
theorem dX6_single_41 : decode cX6_single 41 = .ok (.ifCond .eq 5, 3) := by decide +kernel
theorem dX6_single_44 : decode cX6_single 44 = .ok (.iconst (-1), 1) := by decide +kernel
theorem dX6_single_45 : decode cX6_single 45 = .ok (.ireturn, 1) := by decide +kernel
theorem dX6_single_46 : decode cX6_single 46 = .ok (.aload_n 0, 1) := by decide +kernel
theorem dX6_single_47 : decode cX6_single 47 = .ok (.getfield 35, 3) := by decide +kernel
theorem dX6_single_50 : decode cX6_single 50 = .ok (.iload_n 3, 1) := by decide +kernel
theorem dX6_single_51 : decode cX6_single 51 = .ok (.iconst 1, 1) := by decide +kernel
theorem dX6_single_52 : decode cX6_single 52 = .ok (.iadd, 1) := by decide +kernel
theorem dX6_single_53 : decode cX6_single 53 = .ok (.laload, 1) := by decide +kernel
theorem dX6_single_54 : decode cX6_single 54 = .ok (.lload 4, 2) := by decide +kernel
theorem dX6_single_56 : decode cX6_single 56 = .ok (.ldiv, 1) := by decide +kernel
theorem dX6_single_57 : decode cX6_single 57 = .ok (.lstore 6, 2) := by decide +kernel
theorem dX6_single_59 : decode cX6_single 59 = .ok (.lload 6, 2) := by decide +kernel
theorem dX6_single_61 : decode cX6_single 61 = .ok (.lconst 0, 1) := by decide +kernel
theorem dX6_single_62 : decode cX6_single 62 = .ok (.ldc2_w 165, 3) := by decide +kernel
theorem dX6_single_65 : decode cX6_single 65 = .ok (.invokestatic 61, 3) := by decide +kernel
theorem dX6_single_68 : decode cX6_single 68 = .ok (.ifCond .eq 15, 3) := by decide +kernel
theorem dX6_single_71 : decode cX6_single 71 = .ok (.aload_n 0, 1) := by decide +kernel
theorem dX6_single_72 : decode cX6_single 72 = .ok (.iload_n 1, 1) := by decide +kernel
theorem dX6_single_73 : decode cX6_single 73 = .ok (.lload 6, 2) := by decide +kernel
theorem dX6_single_75 : decode cX6_single 75 = .ok (.l2i, 1) := by decide +kernel
theorem dX6_single_76 : decode cX6_single 76 = .ok (.invokevirtual 158, 3) := by decide +kernel
theorem dX6_single_79 : decode cX6_single 79 = .ok (.iload_n 2, 1) := by decide +kernel
theorem dX6_single_80 : decode cX6_single 80 = .ok (.if_icmp .eq 5, 3) := by decide +kernel
theorem dX6_single_83 : decode cX6_single 83 = .ok (.iconst (-1), 1) := by decide +kernel
theorem dX6_single_84 : decode cX6_single 84 = .ok (.ireturn, 1) := by decide +kernel
theorem dX6_single_85 : decode cX6_single 85 = .ok (.lload 4, 2) := by decide +kernel
theorem dX6_single_87 : decode cX6_single 87 = .ok (.invokestatic 161, 3) := by decide +kernel
theorem dX6_single_90 : decode cX6_single 90 = .ok (.lload 6, 2) := by decide +kernel
theorem dX6_single_92 : decode cX6_single 92 = .ok (.lload 6, 2) := by decide +kernel
theorem dX6_single_94 : decode cX6_single 94 = .ok (.lmul, 1) := by decide +kernel
theorem dX6_single_95 : decode cX6_single 95 = .ok (.invokestatic 161, 3) := by decide +kernel
theorem dX6_single_98 : decode cX6_single 98 = .ok (.lmul, 1) := by decide +kernel
theorem dX6_single_99 : decode cX6_single 99 = .ok (.invokestatic 161, 3) := by decide +kernel
theorem dX6_single_102 : decode cX6_single 102 = .ok (.aload_n 0, 1) := by decide +kernel
theorem dX6_single_103 : decode cX6_single 103 = .ok (.getfield 35, 3) := by decide +kernel
theorem dX6_single_106 : decode cX6_single 106 = .ok (.iload_n 3, 1) := by decide +kernel
theorem dX6_single_107 : decode cX6_single 107 = .ok (.iconst 2, 1) := by decide +kernel
theorem dX6_single_108 : decode cX6_single 108 = .ok (.iadd, 1) := by decide +kernel
theorem dX6_single_109 : decode cX6_single 109 = .ok (.laload, 1) := by decide +kernel
theorem dX6_single_110 : decode cX6_single 110 = .ok (.lcmp, 1) := by decide +kernel
theorem dX6_single_111 : decode cX6_single 111 = .ok (.ifCond .ne 9, 3) := by decide +kernel
theorem dX6_single_114 : decode cX6_single 114 = .ok (.lload 6, 2) := by decide +kernel
theorem dX6_single_116 : decode cX6_single 116 = .ok (.l2i, 1) := by decide +kernel
theorem dX6_single_117 : decode cX6_single 117 = .ok (.goto 4, 3) := by decide +kernel
theorem dX6_single_120 : decode cX6_single 120 = .ok (.iconst (-1), 1) := by decide +kernel
theorem dX6_single_121 : decode cX6_single 121 = .ok (.ireturn, 1) := by decide +kernel
theorem dX6_decode_0 : decode cX6_decode 0 = .ok (.iconst 0, 1) := by decide +kernel
theorem dX6_decode_1 : decode cX6_decode 1 = .ok (.istore_n 1, 1) := by decide +kernel
theorem dX6_decode_2 : decode cX6_decode 2 = .ok (.iload_n 1, 1) := by decide +kernel
theorem dX6_decode_3 : decode cX6_decode 3 = .ok (.sipush 384, 3) := by decide +kernel
theorem dX6_decode_6 : decode cX6_decode 6 = .ok (.if_icmp .ge 25, 3) := by decide +kernel
theorem dX6_decode_9 : decode cX6_decode 9 = .ok (.aload_n 0, 1) := by decide +kernel
theorem dX6_decode_10 : decode cX6_decode 10 = .ok (.getfield 35, 3) := by decide +kernel
theorem dX6_decode_13 : decode cX6_decode 13 = .ok (.sipush 384, 3) := by decide +kernel
theorem dX6_decode_16 : decode cX6_decode 16 = .ok (.iload_n 1, 1) := by decide +kernel
theorem dX6_decode_17 : decode cX6_decode 17 = .ok (.iadd, 1) := by decide +kernel
theorem dX6_decode_18 : decode cX6_decode 18 = .ok (.aload_n 0, 1) := by decide +kernel
theorem dX6_decode_19 : decode cX6_decode 19 = .ok (.getfield 35, 3) := by decide +kernel
theorem dX6_decode_22 : decode cX6_decode 22 = .ok (.iload_n 1, 1) := by decide +kernel
theorem dX6_decode_23 : decode cX6_decode 23 = .ok (.laload, 1) := by decide +kernel
theorem dX6_decode_24 : decode cX6_decode 24 = .ok (.lastore, 1) := by decide +kernel
theorem dX6_decode_25 : decode cX6_decode 25 = .ok (.iinc 1 1, 3) := by decide +kernel
theorem dX6_decode_28 : decode cX6_decode 28 = .ok (.goto (-26), 3) := by decide +kernel
theorem dX6_decode_31 : decode cX6_decode 31 = .ok (.iconst 0, 1) := by decide +kernel
theorem dX6_decode_32 : decode cX6_decode 32 = .ok (.istore_n 1, 1) := by decide +kernel
theorem dX6_decode_33 : decode cX6_decode 33 = .ok (.iconst 1, 1) := by decide +kernel
theorem dX6_decode_34 : decode cX6_decode 34 = .ok (.istore_n 2, 1) := by decide +kernel
theorem dX6_decode_35 : decode cX6_decode 35 = .ok (.iload_n 2, 1) := by decide +kernel
theorem dX6_decode_36 : decode cX6_decode 36 = .ok (.ifCond .eq 142, 3) := by decide +kernel
theorem dX6_decode_39 : decode cX6_decode 39 = .ok (.iload_n 1, 1) := by decide +kernel
theorem dX6_decode_40 : decode cX6_decode 40 = .ok (.sipush 200, 3) := by decide +kernel
theorem dX6_decode_43 : decode cX6_decode 43 = .ok (.if_icmp .ge 135, 3) := by decide +kernel
theorem dX6_decode_46 : decode cX6_decode 46 = .ok (.iconst (-1), 1) := by decide +kernel
theorem dX6_decode_47 : decode cX6_decode 47 = .ok (.istore_n 3, 1) := by decide +kernel
theorem dX6_decode_48 : decode cX6_decode 48 = .ok (.lconst 0, 1) := by decide +kernel
theorem dX6_decode_49 : decode cX6_decode 49 = .ok (.lstore 4, 2) := by decide +kernel
theorem dX6_decode_51 : decode cX6_decode 51 = .ok (.iconst 0, 1) := by decide +kernel
theorem dX6_decode_52 : decode cX6_decode 52 = .ok (.istore 6, 2) := by decide +kernel
theorem dX6_decode_54 : decode cX6_decode 54 = .ok (.iload 6, 2) := by decide +kernel
theorem dX6_decode_56 : decode cX6_decode 56 = .ok (.aload_n 0, 1) := by decide +kernel
theorem dX6_decode_57 : decode cX6_decode 57 = .ok (.getfield 29, 3) := by decide +kernel
theorem dX6_decode_60 : decode cX6_decode 60 = .ok (.if_icmp .ge 65, 3) := by decide +kernel
theorem dX6_decode_63 : decode cX6_decode 63 = .ok (.iload_n 3, 1) := by decide +kernel
theorem dX6_decode_64 : decode cX6_decode 64 = .ok (.ifCond .ge 61, 3) := by decide +kernel
theorem dX6_decode_67 : decode cX6_decode 67 = .ok (.iconst 0, 1) := by decide +kernel
theorem dX6_decode_68 : decode cX6_decode 68 = .ok (.istore 7, 2) := by decide +kernel
theorem dX6_decode_70 : decode cX6_decode 70 = .ok (.iload 7, 2) := by decide +kernel
theorem dX6_decode_72 : decode cX6_decode 72 = .ok (.aload_n 0, 1) := by decide +kernel
theorem dX6_decode_73 : decode cX6_decode 73 = .ok (.getfield 32, 3) := by decide +kernel
theorem dX6_decode_76 : decode cX6_decode 76 = .ok (.if_icmp .ge 43, 3) := by decide +kernel
theorem dX6_decode_79 : decode cX6_decode 79 = .ok (.iload_n 3, 1) := by decide +kernel
theorem dX6_decode_80 : decode cX6_decode 80 = .ok (.ifCond .ge 39, 3) := by decide +kernel
theorem dX6_decode_83 : decode cX6_decode 83 = .ok (.aload_n 0, 1) := by decide +kernel
theorem dX6_decode_84 : decode cX6_decode 84 = .ok (.iload 6, 2) := by decide +kernel
theorem dX6_decode_86 : decode cX6_decode 86 = .ok (.iload 7, 2) := by decide +kernel
theorem dX6_decode_88 : decode cX6_decode 88 = .ok (.invokevirtual 176, 3) := by decide +kernel
theorem dX6_decode_91 : decode cX6_decode 91 = .ok (.istore_n 3, 1) := by decide +kernel
theorem dX6_decode_92 : decode cX6_decode 92 = .ok (.aload_n 0, 1) := by decide +kernel
theorem dX6_decode_93 : decode cX6_decode 93 = .ok (.getfield 35, 3) := by decide +kernel
theorem dX6_decode_96 : decode cX6_decode 96 = .ok (.sipush 384, 3) := by decide +kernel
theorem dX6_decode_99 : decode cX6_decode 99 = .ok (.bipush 96, 2) := by decide +kernel
theorem dX6_decode_101 : decode cX6_decode 101 = .ok (.iload 6, 2) := by decide +kernel
theorem dX6_decode_103 : decode cX6_decode 103 = .ok (.imul, 1) := by decide +kernel
theorem dX6_decode_104 : decode cX6_decode 104 = .ok (.iadd, 1) := by decide +kernel
theorem dX6_decode_105 : decode cX6_decode 105 = .ok (.iconst 3, 1) := by decide +kernel
theorem dX6_decode_106 : decode cX6_decode 106 = .ok (.iload 7, 2) := by decide +kernel
theorem dX6_decode_108 : decode cX6_decode 108 = .ok (.imul, 1) := by decide +kernel
theorem dX6_decode_109 : decode cX6_decode 109 = .ok (.iadd, 1) := by decide +kernel
theorem dX6_decode_110 : decode cX6_decode 110 = .ok (.laload, 1) := by decide +kernel
theorem dX6_decode_111 : decode cX6_decode 111 = .ok (.lstore 4, 2) := by decide +kernel
theorem dX6_decode_113 : decode cX6_decode 113 = .ok (.iinc 7 1, 3) := by decide +kernel
theorem dX6_decode_116 : decode cX6_decode 116 = .ok (.goto (-46), 3) := by decide +kernel
theorem dX6_decode_119 : decode cX6_decode 119 = .ok (.iinc 6 1, 3) := by decide +kernel
theorem dX6_decode_122 : decode cX6_decode 122 = .ok (.goto (-68), 3) := by decide +kernel
theorem dX6_decode_125 : decode cX6_decode 125 = .ok (.iload_n 3, 1) := by decide +kernel
theorem dX6_decode_126 : decode cX6_decode 126 = .ok (.ifCond .lt 7, 3) := by decide +kernel
theorem dX6_decode_129 : decode cX6_decode 129 = .ok (.iconst 1, 1) := by decide +kernel
theorem dX6_decode_130 : decode cX6_decode 130 = .ok (.goto 4, 3) := by decide +kernel
theorem dX6_decode_133 : decode cX6_decode 133 = .ok (.iconst 0, 1) := by decide +kernel
theorem dX6_decode_134 : decode cX6_decode 134 = .ok (.istore_n 2, 1) := by decide +kernel
theorem dX6_decode_135 : decode cX6_decode 135 = .ok (.iload_n 2, 1) := by decide +kernel
theorem dX6_decode_136 : decode cX6_decode 136 = .ok (.ifCond .eq 39, 3) := by decide +kernel
theorem dX6_decode_139 : decode cX6_decode 139 = .ok (.iload_n 1, 1) := by decide +kernel
theorem dX6_decode_140 : decode cX6_decode 140 = .ok (.bipush 100, 2) := by decide +kernel
theorem dX6_decode_142 : decode cX6_decode 142 = .ok (.if_icmp .ge 19, 3) := by decide +kernel
theorem dX6_decode_145 : decode cX6_decode 145 = .ok (.aload_n 0, 1) := by decide +kernel
theorem dX6_decode_146 : decode cX6_decode 146 = .ok (.getfield 39, 3) := by decide +kernel
theorem dX6_decode_149 : decode cX6_decode 149 = .ok (.iload_n 1, 1) := by decide +kernel
theorem dX6_decode_150 : decode cX6_decode 150 = .ok (.iload_n 3, 1) := by decide +kernel
theorem dX6_decode_151 : decode cX6_decode 151 = .ok (.iastore, 1) := by decide +kernel
theorem dX6_decode_152 : decode cX6_decode 152 = .ok (.aload_n 0, 1) := by decide +kernel
theorem dX6_decode_153 : decode cX6_decode 153 = .ok (.getfield 42, 3) := by decide +kernel
theorem dX6_decode_156 : decode cX6_decode 156 = .ok (.iload_n 1, 1) := by decide +kernel
theorem dX6_decode_157 : decode cX6_decode 157 = .ok (.lload 4, 2) := by decide +kernel
theorem dX6_decode_159 : decode cX6_decode 159 = .ok (.l2i, 1) := by decide +kernel
theorem dX6_decode_160 : decode cX6_decode 160 = .ok (.iastore, 1) := by decide +kernel
theorem dX6_decode_161 : decode cX6_decode 161 = .ok (.aload_n 0, 1) := by decide +kernel
theorem dX6_decode_162 : decode cX6_decode 162 = .ok (.sipush 384, 3) := by decide +kernel
theorem dX6_decode_165 : decode cX6_decode 165 = .ok (.iload_n 3, 1) := by decide +kernel
theorem dX6_decode_166 : decode cX6_decode 166 = .ok (.lload 4, 2) := by decide +kernel
theorem dX6_decode_168 : decode cX6_decode 168 = .ok (.lneg, 1) := by decide +kernel
theorem dX6_decode_169 : decode cX6_decode 169 = .ok (.invokevirtual 172, 3) := by decide +kernel
theorem dX6_decode_172 : decode cX6_decode 172 = .ok (.iinc 1 1, 3) := by decide +kernel
theorem dX6_decode_175 : decode cX6_decode 175 = .ok (.goto (-140), 3) := by decide +kernel
theorem dX6_decode_178 : decode cX6_decode 178 = .ok (.aload_n 0, 1) := by decide +kernel
theorem dX6_decode_179 : decode cX6_decode 179 = .ok (.iload_n 1, 1) := by decide +kernel
theorem dX6_decode_180 : decode cX6_decode 180 = .ok (.putfield 153, 3) := by decide +kernel
theorem dX6_decode_183 : decode cX6_decode 183 = .ok (.iconst 1, 1) := by decide +kernel
theorem dX6_decode_184 : decode cX6_decode 184 = .ok (.istore_n 3, 1) := by decide +kernel
theorem dX6_decode_185 : decode cX6_decode 185 = .ok (.sipush 384, 3) := by decide +kernel
theorem dX6_decode_188 : decode cX6_decode 188 = .ok (.istore 4, 2) := by decide +kernel
theorem dX6_decode_190 : decode cX6_decode 190 = .ok (.iload 4, 2) := by decide +kernel
theorem dX6_decode_192 : decode cX6_decode 192 = .ok (.sipush 768, 3) := by decide +kernel
theorem dX6_decode_195 : decode cX6_decode 195 = .ok (.if_icmp .ge 31, 3) := by decide +kernel
theorem dX6_decode_198 : decode cX6_decode 198 = .ok (.iload_n 3, 1) := by decide +kernel
theorem dX6_decode_199 : decode cX6_decode 199 = .ok (.ifCond .eq 19, 3) := by decide +kernel
theorem dX6_decode_202 : decode cX6_decode 202 = .ok (.aload_n 0, 1) := by decide +kernel
theorem dX6_decode_203 : decode cX6_decode 203 = .ok (.getfield 35, 3) := by decide +kernel
theorem dX6_decode_206 : decode cX6_decode 206 = .ok (.iload 4, 2) := by decide +kernel
theorem dX6_decode_208 : decode cX6_decode 208 = .ok (.laload, 1) := by decide +kernel
theorem dX6_decode_209 : decode cX6_decode 209 = .ok (.lconst 0, 1) := by decide +kernel
theorem dX6_decode_210 : decode cX6_decode 210 = .ok (.lcmp, 1) := by decide +kernel
theorem dX6_decode_211 : decode cX6_decode 211 = .ok (.ifCond .ne 7, 3) := by decide +kernel
theorem dX6_decode_214 : decode cX6_decode 214 = .ok (.iconst 1, 1) := by decide +kernel
theorem dX6_decode_215 : decode cX6_decode 215 = .ok (.goto 4, 3) := by decide +kernel
theorem dX6_decode_218 : decode cX6_decode 218 = .ok (.iconst 0, 1) := by decide +kernel
theorem dX6_decode_219 : decode cX6_decode 219 = .ok (.istore_n 3, 1) := by decide +kernel
theorem dX6_decode_220 : decode cX6_decode 220 = .ok (.iinc 4 1, 3) := by decide +kernel
theorem dX6_decode_223 : decode cX6_decode 223 = .ok (.goto (-33), 3) := by decide +kernel
theorem dX6_decode_226 : decode cX6_decode 226 = .ok (.iload_n 1, 1) := by decide +kernel
theorem dX6_decode_227 : decode cX6_decode 227 = .ok (.iload_n 3, 1) := by decide +kernel
theorem dX6_decode_228 : decode cX6_decode 228 = .ok (.ifCond .eq 9, 3) := by decide +kernel
theorem dX6_decode_231 : decode cX6_decode 231 = .ok (.sipush 10000, 3) := by decide +kernel
theorem dX6_decode_234 : decode cX6_decode 234 = .ok (.goto 4, 3) := by decide +kernel
theorem dX6_decode_237 : decode cX6_decode 237 = .ok (.iconst 0, 1) := by decide +kernel
theorem dX6_decode_238 : decode cX6_decode 238 = .ok (.iadd, 1) := by decide +kernel
theorem dX6_decode_239 : decode cX6_decode 239 = .ok (.ireturn, 1) := by decide +kernel
theorem dX6_decoded_0 : decode cX6_decoded 0 = .ok (.iload_n 1, 1) := by decide +kernel
theorem dX6_decoded_1 : decode cX6_decoded 1 = .ok (.ifCond .lt 13, 3) := by decide +kernel
theorem dX6_decoded_4 : decode cX6_decoded 4 = .ok (.iload_n 2, 1) := by decide +kernel
theorem dX6_decoded_5 : decode cX6_decoded 5 = .ok (.i2l, 1) := by decide +kernel
theorem dX6_decoded_6 : decode cX6_decoded 6 = .ok (.lconst 0, 1) := by decide +kernel
theorem dX6_decoded_7 : decode cX6_decoded 7 = .ok (.lconst 1, 1) := by decide +kernel
theorem dX6_decoded_8 : decode cX6_decoded 8 = .ok (.invokestatic 61, 3) := by decide +kernel
theorem dX6_decoded_11 : decode cX6_decoded 11 = .ok (.ifCond .ne 6, 3) := by decide +kernel
theorem dX6_decoded_14 : decode cX6_decoded 14 = .ok (.ldc 179, 2) := by decide +kernel
theorem dX6_decoded_16 : decode cX6_decoded 16 = .ok (.ireturn, 1) := by decide +kernel
theorem dX6_decoded_17 : decode cX6_decoded 17 = .ok (.iload_n 1, 1) := by decide +kernel
theorem dX6_decoded_18 : decode cX6_decoded 18 = .ok (.aload_n 0, 1) := by decide +kernel
theorem dX6_decoded_19 : decode cX6_decoded 19 = .ok (.getfield 153, 3) := by decide +kernel
theorem dX6_decoded_22 : decode cX6_decoded 22 = .ok (.if_icmp .ge 9, 3) := by decide +kernel
theorem dX6_decoded_25 : decode cX6_decoded 25 = .ok (.iload_n 1, 1) := by decide +kernel
theorem dX6_decoded_26 : decode cX6_decoded 26 = .ok (.bipush 100, 2) := by decide +kernel
theorem dX6_decoded_28 : decode cX6_decoded 28 = .ok (.if_icmp .lt 6, 3) := by decide +kernel
theorem dX6_decoded_31 : decode cX6_decoded 31 = .ok (.ldc 180, 2) := by decide +kernel
theorem dX6_decoded_33 : decode cX6_decoded 33 = .ok (.ireturn, 1) := by decide +kernel
theorem dX6_decoded_34 : decode cX6_decoded 34 = .ok (.iload_n 2, 1) := by decide +kernel
theorem dX6_decoded_35 : decode cX6_decoded 35 = .ok (.ifCond .ne 12, 3) := by decide +kernel
theorem dX6_decoded_38 : decode cX6_decoded 38 = .ok (.aload_n 0, 1) := by decide +kernel
theorem dX6_decoded_39 : decode cX6_decoded 39 = .ok (.getfield 39, 3) := by decide +kernel
theorem dX6_decoded_42 : decode cX6_decoded 42 = .ok (.iload_n 1, 1) := by decide +kernel
theorem dX6_decoded_43 : decode cX6_decoded 43 = .ok (.iaload, 1) := by decide +kernel
theorem dX6_decoded_44 : decode cX6_decoded 44 = .ok (.goto 9, 3) := by decide +kernel
theorem dX6_decoded_47 : decode cX6_decoded 47 = .ok (.aload_n 0, 1) := by decide +kernel
theorem dX6_decoded_48 : decode cX6_decoded 48 = .ok (.getfield 42, 3) := by decide +kernel
theorem dX6_decoded_51 : decode cX6_decoded 51 = .ok (.iload_n 1, 1) := by decide +kernel
theorem dX6_decoded_52 : decode cX6_decoded 52 = .ok (.iaload, 1) := by decide +kernel
theorem dX6_decoded_53 : decode cX6_decoded 53 = .ok (.ireturn, 1) := by decide +kernel
theorem dX6_bucket_0 : decode cX6_bucket 0 = .ok (.iload_n 1, 1) := by decide +kernel
theorem dX6_bucket_1 : decode cX6_bucket 1 = .ok (.i2l, 1) := by decide +kernel
theorem dX6_bucket_2 : decode cX6_bucket 2 = .ok (.lconst 0, 1) := by decide +kernel
theorem dX6_bucket_3 : decode cX6_bucket 3 = .ok (.aload_n 0, 1) := by decide +kernel
theorem dX6_bucket_4 : decode cX6_bucket 4 = .ok (.getfield 29, 3) := by decide +kernel
theorem dX6_bucket_7 : decode cX6_bucket 7 = .ok (.iconst 1, 1) := by decide +kernel
theorem dX6_bucket_8 : decode cX6_bucket 8 = .ok (.isub, 1) := by decide +kernel
theorem dX6_bucket_9 : decode cX6_bucket 9 = .ok (.i2l, 1) := by decide +kernel
theorem dX6_bucket_10 : decode cX6_bucket 10 = .ok (.invokestatic 61, 3) := by decide +kernel
theorem dX6_bucket_13 : decode cX6_bucket 13 = .ok (.ifCond .eq 49, 3) := by decide +kernel
theorem dX6_bucket_16 : decode cX6_bucket 16 = .ok (.iload_n 2, 1) := by decide +kernel
theorem dX6_bucket_17 : decode cX6_bucket 17 = .ok (.i2l, 1) := by decide +kernel
theorem dX6_bucket_18 : decode cX6_bucket 18 = .ok (.lconst 0, 1) := by decide +kernel
theorem dX6_bucket_19 : decode cX6_bucket 19 = .ok (.aload_n 0, 1) := by decide +kernel
theorem dX6_bucket_20 : decode cX6_bucket 20 = .ok (.getfield 32, 3) := by decide +kernel
theorem dX6_bucket_23 : decode cX6_bucket 23 = .ok (.iconst 1, 1) := by decide +kernel
theorem dX6_bucket_24 : decode cX6_bucket 24 = .ok (.isub, 1) := by decide +kernel
theorem dX6_bucket_25 : decode cX6_bucket 25 = .ok (.i2l, 1) := by decide +kernel
theorem dX6_bucket_26 : decode cX6_bucket 26 = .ok (.invokestatic 61, 3) := by decide +kernel
theorem dX6_bucket_29 : decode cX6_bucket 29 = .ok (.ifCond .eq 33, 3) := by decide +kernel
theorem dX6_bucket_32 : decode cX6_bucket 32 = .ok (.iload_n 3, 1) := by decide +kernel
theorem dX6_bucket_33 : decode cX6_bucket 33 = .ok (.i2l, 1) := by decide +kernel
theorem dX6_bucket_34 : decode cX6_bucket 34 = .ok (.lconst 0, 1) := by decide +kernel
theorem dX6_bucket_35 : decode cX6_bucket 35 = .ok (.ldc2_w 57, 3) := by decide +kernel
theorem dX6_bucket_38 : decode cX6_bucket 38 = .ok (.invokestatic 61, 3) := by decide +kernel
theorem dX6_bucket_41 : decode cX6_bucket 41 = .ok (.ifCond .eq 21, 3) := by decide +kernel
theorem dX6_bucket_44 : decode cX6_bucket 44 = .ok (.aload_n 0, 1) := by decide +kernel
theorem dX6_bucket_45 : decode cX6_bucket 45 = .ok (.getfield 35, 3) := by decide +kernel
theorem dX6_bucket_48 : decode cX6_bucket 48 = .ok (.bipush 96, 2) := by decide +kernel
theorem dX6_bucket_50 : decode cX6_bucket 50 = .ok (.iload_n 1, 1) := by decide +kernel
theorem dX6_bucket_51 : decode cX6_bucket 51 = .ok (.imul, 1) := by decide +kernel
theorem dX6_bucket_52 : decode cX6_bucket 52 = .ok (.iconst 3, 1) := by decide +kernel
theorem dX6_bucket_53 : decode cX6_bucket 53 = .ok (.iload_n 2, 1) := by decide +kernel
theorem dX6_bucket_54 : decode cX6_bucket 54 = .ok (.imul, 1) := by decide +kernel
theorem dX6_bucket_55 : decode cX6_bucket 55 = .ok (.iadd, 1) := by decide +kernel
theorem dX6_bucket_56 : decode cX6_bucket 56 = .ok (.iload_n 3, 1) := by decide +kernel
theorem dX6_bucket_57 : decode cX6_bucket 57 = .ok (.iadd, 1) := by decide +kernel
theorem dX6_bucket_58 : decode cX6_bucket 58 = .ok (.laload, 1) := by decide +kernel
theorem dX6_bucket_59 : decode cX6_bucket 59 = .ok (.goto 6, 3) := by decide +kernel
theorem dX6_bucket_62 : decode cX6_bucket 62 = .ok (.ldc2_w 181, 3) := by decide +kernel
theorem dX6_bucket_65 : decode cX6_bucket 65 = .ok (.lreturn, 1) := by decide +kernel
theorem dX6_count_0 : decode cX6_count 0 = .ok (.iload_n 1, 1) := by decide +kernel
theorem dX6_count_1 : decode cX6_count 1 = .ok (.tableswitch 69 0 5 #[39, 44, 49, 54, 59, 64], 39) := by decide +kernel
theorem dX6_count_40 : decode cX6_count 40 = .ok (.aload_n 0, 1) := by decide +kernel
theorem dX6_count_41 : decode cX6_count 41 = .ok (.getfield 7, 3) := by decide +kernel
theorem dX6_count_44 : decode cX6_count 44 = .ok (.ireturn, 1) := by decide +kernel
theorem dX6_count_45 : decode cX6_count 45 = .ok (.aload_n 0, 1) := by decide +kernel
theorem dX6_count_46 : decode cX6_count 46 = .ok (.getfield 13, 3) := by decide +kernel
theorem dX6_count_49 : decode cX6_count 49 = .ok (.ireturn, 1) := by decide +kernel
theorem dX6_count_50 : decode cX6_count 50 = .ok (.aload_n 0, 1) := by decide +kernel
theorem dX6_count_51 : decode cX6_count 51 = .ok (.getfield 16, 3) := by decide +kernel
theorem dX6_count_54 : decode cX6_count 54 = .ok (.ireturn, 1) := by decide +kernel
theorem dX6_count_55 : decode cX6_count 55 = .ok (.aload_n 0, 1) := by decide +kernel
theorem dX6_count_56 : decode cX6_count 56 = .ok (.getfield 29, 3) := by decide +kernel
theorem dX6_count_59 : decode cX6_count 59 = .ok (.ireturn, 1) := by decide +kernel
theorem dX6_count_60 : decode cX6_count 60 = .ok (.aload_n 0, 1) := by decide +kernel
theorem dX6_count_61 : decode cX6_count 61 = .ok (.getfield 32, 3) := by decide +kernel
theorem dX6_count_64 : decode cX6_count 64 = .ok (.ireturn, 1) := by decide +kernel
theorem dX6_count_65 : decode cX6_count 65 = .ok (.aload_n 0, 1) := by decide +kernel
theorem dX6_count_66 : decode cX6_count 66 = .ok (.getfield 150, 3) := by decide +kernel
theorem dX6_count_69 : decode cX6_count 69 = .ok (.ireturn, 1) := by decide +kernel
theorem dX6_count_70 : decode cX6_count 70 = .ok (.iconst (-1), 1) := by decide +kernel
theorem dX6_count_71 : decode cX6_count 71 = .ok (.ireturn, 1) := by decide +kernel
theorem dJ6_bitCount_0f7a4_0 : decode cJ6_bitCount_0f7a4 0 = .ok (.iload_n 0, 1) := by decide +kernel
theorem dJ6_bitCount_0f7a4_1 : decode cJ6_bitCount_0f7a4 1 = .ok (.iload_n 0, 1) := by decide +kernel
theorem dJ6_bitCount_0f7a4_2 : decode cJ6_bitCount_0f7a4 2 = .ok (.iconst 1, 1) := by decide +kernel
theorem dJ6_bitCount_0f7a4_3 : decode cJ6_bitCount_0f7a4 3 = .ok (.iushr, 1) := by decide +kernel
theorem dJ6_bitCount_0f7a4_4 : decode cJ6_bitCount_0f7a4 4 = .ok (.ldc_w 265, 3) := by decide +kernel
theorem dJ6_bitCount_0f7a4_7 : decode cJ6_bitCount_0f7a4 7 = .ok (.iand, 1) := by decide +kernel
theorem dJ6_bitCount_0f7a4_8 : decode cJ6_bitCount_0f7a4 8 = .ok (.isub, 1) := by decide +kernel
theorem dJ6_bitCount_0f7a4_9 : decode cJ6_bitCount_0f7a4 9 = .ok (.istore_n 0, 1) := by decide +kernel
theorem dJ6_bitCount_0f7a4_10 : decode cJ6_bitCount_0f7a4 10 = .ok (.iload_n 0, 1) := by decide +kernel
theorem dJ6_bitCount_0f7a4_11 : decode cJ6_bitCount_0f7a4 11 = .ok (.ldc_w 266, 3) := by decide +kernel
theorem dJ6_bitCount_0f7a4_14 : decode cJ6_bitCount_0f7a4 14 = .ok (.iand, 1) := by decide +kernel
theorem dJ6_bitCount_0f7a4_15 : decode cJ6_bitCount_0f7a4 15 = .ok (.iload_n 0, 1) := by decide +kernel
theorem dJ6_bitCount_0f7a4_16 : decode cJ6_bitCount_0f7a4 16 = .ok (.iconst 2, 1) := by decide +kernel
theorem dJ6_bitCount_0f7a4_17 : decode cJ6_bitCount_0f7a4 17 = .ok (.iushr, 1) := by decide +kernel
theorem dJ6_bitCount_0f7a4_18 : decode cJ6_bitCount_0f7a4 18 = .ok (.ldc_w 266, 3) := by decide +kernel
theorem dJ6_bitCount_0f7a4_21 : decode cJ6_bitCount_0f7a4 21 = .ok (.iand, 1) := by decide +kernel
theorem dJ6_bitCount_0f7a4_22 : decode cJ6_bitCount_0f7a4 22 = .ok (.iadd, 1) := by decide +kernel
theorem dJ6_bitCount_0f7a4_23 : decode cJ6_bitCount_0f7a4 23 = .ok (.istore_n 0, 1) := by decide +kernel
theorem dJ6_bitCount_0f7a4_24 : decode cJ6_bitCount_0f7a4 24 = .ok (.iload_n 0, 1) := by decide +kernel
theorem dJ6_bitCount_0f7a4_25 : decode cJ6_bitCount_0f7a4 25 = .ok (.iload_n 0, 1) := by decide +kernel
theorem dJ6_bitCount_0f7a4_26 : decode cJ6_bitCount_0f7a4 26 = .ok (.iconst 4, 1) := by decide +kernel
theorem dJ6_bitCount_0f7a4_27 : decode cJ6_bitCount_0f7a4 27 = .ok (.iushr, 1) := by decide +kernel
theorem dJ6_bitCount_0f7a4_28 : decode cJ6_bitCount_0f7a4 28 = .ok (.iadd, 1) := by decide +kernel
theorem dJ6_bitCount_0f7a4_29 : decode cJ6_bitCount_0f7a4 29 = .ok (.ldc_w 267, 3) := by decide +kernel
theorem dJ6_bitCount_0f7a4_32 : decode cJ6_bitCount_0f7a4 32 = .ok (.iand, 1) := by decide +kernel
theorem dJ6_bitCount_0f7a4_33 : decode cJ6_bitCount_0f7a4 33 = .ok (.istore_n 0, 1) := by decide +kernel
theorem dJ6_bitCount_0f7a4_34 : decode cJ6_bitCount_0f7a4 34 = .ok (.iload_n 0, 1) := by decide +kernel
theorem dJ6_bitCount_0f7a4_35 : decode cJ6_bitCount_0f7a4 35 = .ok (.iload_n 0, 1) := by decide +kernel
theorem dJ6_bitCount_0f7a4_36 : decode cJ6_bitCount_0f7a4 36 = .ok (.bipush 8, 2) := by decide +kernel
theorem dJ6_bitCount_0f7a4_38 : decode cJ6_bitCount_0f7a4 38 = .ok (.iushr, 1) := by decide +kernel
theorem dJ6_bitCount_0f7a4_39 : decode cJ6_bitCount_0f7a4 39 = .ok (.iadd, 1) := by decide +kernel
theorem dJ6_bitCount_0f7a4_40 : decode cJ6_bitCount_0f7a4 40 = .ok (.istore_n 0, 1) := by decide +kernel
theorem dJ6_bitCount_0f7a4_41 : decode cJ6_bitCount_0f7a4 41 = .ok (.iload_n 0, 1) := by decide +kernel
theorem dJ6_bitCount_0f7a4_42 : decode cJ6_bitCount_0f7a4 42 = .ok (.iload_n 0, 1) := by decide +kernel
theorem dJ6_bitCount_0f7a4_43 : decode cJ6_bitCount_0f7a4 43 = .ok (.bipush 16, 2) := by decide +kernel
theorem dJ6_bitCount_0f7a4_45 : decode cJ6_bitCount_0f7a4 45 = .ok (.iushr, 1) := by decide +kernel
theorem dJ6_bitCount_0f7a4_46 : decode cJ6_bitCount_0f7a4 46 = .ok (.iadd, 1) := by decide +kernel
theorem dJ6_bitCount_0f7a4_47 : decode cJ6_bitCount_0f7a4 47 = .ok (.istore_n 0, 1) := by decide +kernel
theorem dJ6_bitCount_0f7a4_48 : decode cJ6_bitCount_0f7a4 48 = .ok (.iload_n 0, 1) := by decide +kernel
theorem dJ6_bitCount_0f7a4_49 : decode cJ6_bitCount_0f7a4 49 = .ok (.bipush 63, 2) := by decide +kernel
theorem dJ6_bitCount_0f7a4_51 : decode cJ6_bitCount_0f7a4 51 = .ok (.iand, 1) := by decide +kernel
theorem dJ6_bitCount_0f7a4_52 : decode cJ6_bitCount_0f7a4 52 = .ok (.ireturn, 1) := by decide +kernel
theorem dJ9_floorMod_7cf53_0 : decode cJ9_floorMod_7cf53 0 = .ok (.iload_n 0, 1) := by decide +kernel
theorem dJ9_floorMod_7cf53_1 : decode cJ9_floorMod_7cf53 1 = .ok (.iload_n 1, 1) := by decide +kernel
theorem dJ9_floorMod_7cf53_2 : decode cJ9_floorMod_7cf53 2 = .ok (.irem, 1) := by decide +kernel
theorem dJ9_floorMod_7cf53_3 : decode cJ9_floorMod_7cf53 3 = .ok (.istore_n 2, 1) := by decide +kernel
theorem dJ9_floorMod_7cf53_4 : decode cJ9_floorMod_7cf53 4 = .ok (.iload_n 0, 1) := by decide +kernel
theorem dJ9_floorMod_7cf53_5 : decode cJ9_floorMod_7cf53 5 = .ok (.iload_n 1, 1) := by decide +kernel
theorem dJ9_floorMod_7cf53_6 : decode cJ9_floorMod_7cf53 6 = .ok (.ixor, 1) := by decide +kernel
theorem dJ9_floorMod_7cf53_7 : decode cJ9_floorMod_7cf53 7 = .ok (.ifCond .ge 11, 3) := by decide +kernel
theorem dJ9_floorMod_7cf53_10 : decode cJ9_floorMod_7cf53 10 = .ok (.iload_n 2, 1) := by decide +kernel
theorem dJ9_floorMod_7cf53_11 : decode cJ9_floorMod_7cf53 11 = .ok (.ifCond .eq 7, 3) := by decide +kernel
theorem dJ9_floorMod_7cf53_14 : decode cJ9_floorMod_7cf53 14 = .ok (.iload_n 2, 1) := by decide +kernel
theorem dJ9_floorMod_7cf53_15 : decode cJ9_floorMod_7cf53 15 = .ok (.iload_n 1, 1) := by decide +kernel
theorem dJ9_floorMod_7cf53_16 : decode cJ9_floorMod_7cf53 16 = .ok (.iadd, 1) := by decide +kernel
theorem dJ9_floorMod_7cf53_17 : decode cJ9_floorMod_7cf53 17 = .ok (.ireturn, 1) := by decide +kernel
theorem dJ9_floorMod_7cf53_18 : decode cJ9_floorMod_7cf53 18 = .ok (.iload_n 2, 1) := by decide +kernel
theorem dJ9_floorMod_7cf53_19 : decode cJ9_floorMod_7cf53 19 = .ok (.ireturn, 1) := by decide +kernel
theorem dJ9_floorMod_f86c9_0 : decode cJ9_floorMod_f86c9 0 = .ok (.lload_n 0, 1) := by decide +kernel
theorem dJ9_floorMod_f86c9_1 : decode cJ9_floorMod_f86c9 1 = .ok (.lload_n 2, 1) := by decide +kernel
theorem dJ9_floorMod_f86c9_2 : decode cJ9_floorMod_f86c9 2 = .ok (.lrem, 1) := by decide +kernel
theorem dJ9_floorMod_f86c9_3 : decode cJ9_floorMod_f86c9 3 = .ok (.lstore 4, 2) := by decide +kernel
theorem dJ9_floorMod_f86c9_5 : decode cJ9_floorMod_f86c9 5 = .ok (.lload_n 0, 1) := by decide +kernel
theorem dJ9_floorMod_f86c9_6 : decode cJ9_floorMod_f86c9 6 = .ok (.lload_n 2, 1) := by decide +kernel
theorem dJ9_floorMod_f86c9_7 : decode cJ9_floorMod_f86c9 7 = .ok (.lxor, 1) := by decide +kernel
theorem dJ9_floorMod_f86c9_8 : decode cJ9_floorMod_f86c9 8 = .ok (.lconst 0, 1) := by decide +kernel
theorem dJ9_floorMod_f86c9_9 : decode cJ9_floorMod_f86c9 9 = .ok (.lcmp, 1) := by decide +kernel
theorem dJ9_floorMod_f86c9_10 : decode cJ9_floorMod_f86c9 10 = .ok (.ifCond .ge 15, 3) := by decide +kernel
theorem dJ9_floorMod_f86c9_13 : decode cJ9_floorMod_f86c9 13 = .ok (.lload 4, 2) := by decide +kernel
theorem dJ9_floorMod_f86c9_15 : decode cJ9_floorMod_f86c9 15 = .ok (.lconst 0, 1) := by decide +kernel
theorem dJ9_floorMod_f86c9_16 : decode cJ9_floorMod_f86c9 16 = .ok (.lcmp, 1) := by decide +kernel
theorem dJ9_floorMod_f86c9_17 : decode cJ9_floorMod_f86c9 17 = .ok (.ifCond .eq 8, 3) := by decide +kernel
theorem dJ9_floorMod_f86c9_20 : decode cJ9_floorMod_f86c9 20 = .ok (.lload 4, 2) := by decide +kernel
theorem dJ9_floorMod_f86c9_22 : decode cJ9_floorMod_f86c9 22 = .ok (.lload_n 2, 1) := by decide +kernel
theorem dJ9_floorMod_f86c9_23 : decode cJ9_floorMod_f86c9 23 = .ok (.ladd, 1) := by decide +kernel
theorem dJ9_floorMod_f86c9_24 : decode cJ9_floorMod_f86c9 24 = .ok (.lreturn, 1) := by decide +kernel
theorem dJ9_floorMod_f86c9_25 : decode cJ9_floorMod_f86c9 25 = .ok (.lload 4, 2) := by decide +kernel
theorem dJ9_floorMod_f86c9_27 : decode cJ9_floorMod_f86c9 27 = .ok (.lreturn, 1) := by decide +kernel
theorem dJ9_max_7cf53_0 : decode cJ9_max_7cf53 0 = .ok (.iload_n 0, 1) := by decide +kernel
theorem dJ9_max_7cf53_1 : decode cJ9_max_7cf53 1 = .ok (.iload_n 1, 1) := by decide +kernel
theorem dJ9_max_7cf53_2 : decode cJ9_max_7cf53 2 = .ok (.if_icmp .lt 7, 3) := by decide +kernel
theorem dJ9_max_7cf53_5 : decode cJ9_max_7cf53 5 = .ok (.iload_n 0, 1) := by decide +kernel
theorem dJ9_max_7cf53_6 : decode cJ9_max_7cf53 6 = .ok (.goto 4, 3) := by decide +kernel
theorem dJ9_max_7cf53_9 : decode cJ9_max_7cf53 9 = .ok (.iload_n 1, 1) := by decide +kernel
theorem dJ9_max_7cf53_10 : decode cJ9_max_7cf53 10 = .ok (.ireturn, 1) := by decide +kernel
theorem dJ9_min_7cf53_0 : decode cJ9_min_7cf53 0 = .ok (.iload_n 0, 1) := by decide +kernel
theorem dJ9_min_7cf53_1 : decode cJ9_min_7cf53 1 = .ok (.iload_n 1, 1) := by decide +kernel
theorem dJ9_min_7cf53_2 : decode cJ9_min_7cf53 2 = .ok (.if_icmp .gt 7, 3) := by decide +kernel
theorem dJ9_min_7cf53_5 : decode cJ9_min_7cf53 5 = .ok (.iload_n 0, 1) := by decide +kernel
theorem dJ9_min_7cf53_6 : decode cJ9_min_7cf53 6 = .ok (.goto 4, 3) := by decide +kernel
theorem dJ9_min_7cf53_9 : decode cJ9_min_7cf53 9 = .ok (.iload_n 1, 1) := by decide +kernel
theorem dJ9_min_7cf53_10 : decode cJ9_min_7cf53 10 = .ok (.ireturn, 1) := by decide +kernel
