theorem dX2_takeOutOf_123 : decode cX2_takeOutOf 123 = .ok (.return_, 1) := by decide +kernel
set_option maxRecDepth 100000 in
theorem ggX3_init_X3_shape : GoodIn wsX3_init wsX3_shape := goodIn_r _ [14, 15, 16, 17, 18, 5, 19, 20, 21, 22, 23, 24, 25, 26] rfl (by decide +kernel)
set_option maxRecDepth 100000 in
theorem gX3_init_X3_shape : GoodIn wsX3_init (wsV RX3 23 RX3 yX3_shape wsX3_shape) := goodIn_app (goodIn_of _ (by decide +kernel)) ggX3_init_X3_shape
theorem dX3_init_0 : decode cX3_init 0 = .ok (.aload_n 0, 1) := by decide +kernel
theorem dX3_init_1 : decode cX3_init 1 = .ok (.invokespecial 1, 3) := by decide +kernel
theorem dX3_init_4 : decode cX3_init 4 = .ok (.aload_n 0, 1) := by decide +kernel
theorem dX3_init_5 : decode cX3_init 5 = .ok (.sipush 384, 3) := by decide +kernel
theorem dX3_init_8 : decode cX3_init 8 = .ok (.newarray .long, 2) := by decide +kernel
theorem dX3_init_10 : decode cX3_init 10 = .ok (.putfield 9, 3) := by decide +kernel
theorem dX3_init_13 : decode cX3_init 13 = .ok (.aload_n 0, 1) := by decide +kernel
theorem dX3_init_14 : decode cX3_init 14 = .ok (.sipush 384, 3) := by decide +kernel
theorem dX3_init_17 : decode cX3_init 17 = .ok (.newarray .long, 2) := by decide +kernel
theorem dX3_init_19 : decode cX3_init 19 = .ok (.putfield 13, 3) := by decide +kernel
theorem dX3_init_22 : decode cX3_init 22 = .ok (.aload_n 0, 1) := by decide +kernel
theorem dX3_init_23 : decode cX3_init 23 = .ok (.bipush 100, 2) := by decide +kernel
theorem dX3_init_25 : decode cX3_init 25 = .ok (.newarray .int, 2) := by decide +kernel
theorem dX3_init_27 : decode cX3_init 27 = .ok (.putfield 16, 3) := by decide +kernel
theorem dX3_init_30 : decode cX3_init 30 = .ok (.aload_n 0, 1) := by decide +kernel
theorem dX3_init_31 : decode cX3_init 31 = .ok (.bipush 100, 2) := by decide +kernel
theorem dX3_init_33 : decode cX3_init 33 = .ok (.newarray .int, 2) := by decide +kernel
theorem dX3_init_35 : decode cX3_init 35 = .ok (.putfield 20, 3) := by decide +kernel
theorem dX3_init_38 : decode cX3_init 38 = .ok (.aload_n 0, 1) := by decide +kernel
theorem dX3_init_39 : decode cX3_init 39 = .ok (.iconst 1, 1) := by decide +kernel
theorem dX3_init_40 : decode cX3_init 40 = .ok (.iconst 2, 1) := by decide +kernel
theorem dX3_init_41 : decode cX3_init 41 = .ok (.invokevirtual 23, 3) := by decide +kernel
theorem dX3_init_44 : decode cX3_init 44 = .ok (.return_, 1) := by decide +kernel
theorem dX3_shape_0 : decode cX3_shape 0 = .ok (.aload_n 0, 1) := by decide +kernel
theorem dX3_shape_1 : decode cX3_shape 1 = .ok (.iload_n 1, 1) := by decide +kernel
theorem dX3_shape_2 : decode cX3_shape 2 = .ok (.putfield 27, 3) := by decide +kernel
theorem dX3_shape_5 : decode cX3_shape 5 = .ok (.aload_n 0, 1) := by decide +kernel
theorem dX3_shape_6 : decode cX3_shape 6 = .ok (.iload_n 2, 1) := by decide +kernel
theorem dX3_shape_7 : decode cX3_shape 7 = .ok (.putfield 31, 3) := by decide +kernel
theorem dX3_shape_10 : decode cX3_shape 10 = .ok (.aload_n 0, 1) := by decide +kernel
theorem dX3_shape_11 : decode cX3_shape 11 = .ok (.iconst 0, 1) := by decide +kernel
theorem dX3_shape_12 : decode cX3_shape 12 = .ok (.putfield 34, 3) := by decide +kernel
theorem dX3_shape_15 : decode cX3_shape 15 = .ok (.aload_n 0, 1) := by decide +kernel
theorem dX3_shape_16 : decode cX3_shape 16 = .ok (.iconst 0, 1) := by decide +kernel
theorem dX3_shape_17 : decode cX3_shape 17 = .ok (.putfield 37, 3) := by decide +kernel
theorem dX3_shape_20 : decode cX3_shape 20 = .ok (.iconst 0, 1) := by decide +kernel
theorem dX3_shape_21 : decode cX3_shape 21 = .ok (.istore_n 3, 1) := by decide +kernel
theorem dX3_shape_22 : decode cX3_shape 22 = .ok (.iload_n 3, 1) := by decide +kernel
theorem dX3_shape_23 : decode cX3_shape 23 = .ok (.aload_n 0, 1) := by decide +kernel
theorem dX3_shape_24 : decode cX3_shape 24 = .ok (.getfield 9, 3) := by decide +kernel
theorem dX3_shape_27 : decode cX3_shape 27 = .ok (.arraylength, 1) := by decide +kernel
theorem dX3_shape_28 : decode cX3_shape 28 = .ok (.if_icmp .ge 16, 3) := by decide +kernel
theorem dX3_shape_31 : decode cX3_shape 31 = .ok (.aload_n 0, 1) := by decide +kernel
theorem dX3_shape_32 : decode cX3_shape 32 = .ok (.getfield 9, 3) := by decide +kernel
theorem dX3_shape_35 : decode cX3_shape 35 = .ok (.iload_n 3, 1) := by decide +kernel
theorem dX3_shape_36 : decode cX3_shape 36 = .ok (.lconst 0, 1) := by decide +kernel
theorem dX3_shape_37 : decode cX3_shape 37 = .ok (.lastore, 1) := by decide +kernel
theorem dX3_shape_38 : decode cX3_shape 38 = .ok (.iinc 3 1, 3) := by decide +kernel
theorem dX3_shape_41 : decode cX3_shape 41 = .ok (.goto (-19), 3) := by decide +kernel
theorem dX3_shape_44 : decode cX3_shape 44 = .ok (.return_, 1) := by decide +kernel
theorem dX3_start_0 : decode cX3_start 0 = .ok (.iload_n 0, 1) := by decide +kernel
theorem dX3_start_1 : decode cX3_start 1 = .ok (.bipush 32, 2) := by decide +kernel
theorem dX3_start_3 : decode cX3_start 3 = .ok (.imul, 1) := by decide +kernel
theorem dX3_start_4 : decode cX3_start 4 = .ok (.iload_n 1, 1) := by decide +kernel
theorem dX3_start_5 : decode cX3_start 5 = .ok (.iadd, 1) := by decide +kernel
theorem dX3_start_6 : decode cX3_start 6 = .ok (.iconst 3, 1) := by decide +kernel
theorem dX3_start_7 : decode cX3_start 7 = .ok (.imul, 1) := by decide +kernel
theorem dX3_start_8 : decode cX3_start 8 = .ok (.ireturn, 1) := by decide +kernel
set_option maxRecDepth 100000 in
theorem ggX3_putNumber_X3_join : GoodIn wsX3_putNumber wsX3_join := goodIn_r _ [7, 8, 9, 10, 11, 6, 12, 13, 14, 15, 16, 17, 18, 19, 20, 21, 22, 23, 24, 25, 26, 27, 28, 29, 30, 31, 32] rfl (by decide +kernel)
set_option maxRecDepth 100000 in
theorem gX3_putNumber_X3_join : GoodIn wsX3_putNumber (wsV RX3 40 RX3 yX3_join wsX3_join) := goodIn_app (goodIn_of _ (by decide +kernel)) ggX3_putNumber_X3_join
theorem dX3_putNumber_0 : decode cX3_putNumber 0 = .ok (.aload_n 0, 1) := by decide +kernel
theorem dX3_putNumber_1 : decode cX3_putNumber 1 = .ok (.aload_n 0, 1) := by decide +kernel
theorem dX3_putNumber_2 : decode cX3_putNumber 2 = .ok (.getfield 9, 3) := by decide +kernel
theorem dX3_putNumber_5 : decode cX3_putNumber 5 = .ok (.iload_n 1, 1) := by decide +kernel
theorem dX3_putNumber_6 : decode cX3_putNumber 6 = .ok (.iload_n 2, 1) := by decide +kernel
theorem dX3_putNumber_7 : decode cX3_putNumber 7 = .ok (.i2l, 1) := by decide +kernel
theorem dX3_putNumber_8 : decode cX3_putNumber 8 = .ok (.invokevirtual 40, 3) := by decide +kernel
theorem dX3_putNumber_11 : decode cX3_putNumber 11 = .ok (.aload_n 0, 1) := by decide +kernel
theorem dX3_putNumber_12 : decode cX3_putNumber 12 = .ok (.dup, 1) := by decide +kernel
theorem dX3_putNumber_13 : decode cX3_putNumber 13 = .ok (.getfield 34, 3) := by decide +kernel
theorem dX3_putNumber_16 : decode cX3_putNumber 16 = .ok (.iconst 1, 1) := by decide +kernel
theorem dX3_putNumber_17 : decode cX3_putNumber 17 = .ok (.iadd, 1) := by decide +kernel
theorem dX3_putNumber_18 : decode cX3_putNumber 18 = .ok (.putfield 34, 3) := by decide +kernel
theorem dX3_putNumber_21 : decode cX3_putNumber 21 = .ok (.return_, 1) := by decide +kernel
set_option maxRecDepth 100000 in
theorem ggX3_tellAll_X3_firstSingle : GoodIn wsX3_tellAll wsX3_firstSingle := goodIn_r _ [12, 13, 14, 15, 16, 17, 11, 18, 2, 19, 20, 21, 22, 23, 24, 25, 26, 27, 28, 29, 30, 31, 32, 33, 34, 49, 50, 51, 52, 53, 54, 55, 56] rfl (by decide +kernel)
set_option maxRecDepth 100000 in
theorem gX3_tellAll_X3_firstSingle : GoodIn wsX3_tellAll (wsV RX3 50 RX3 yX3_firstSingle wsX3_firstSingle) := goodIn_app (goodIn_of _ (by decide +kernel)) ggX3_tellAll_X3_firstSingle
set_option maxRecDepth 100000 in
theorem ggX3_tellAll_X3_nothingLeft : GoodIn wsX3_tellAll wsX3_nothingLeft := goodIn_r _ [38, 2, 49, 50, 51, 52, 53, 54, 55, 56] rfl (by decide +kernel)
set_option maxRecDepth 100000 in
theorem gX3_tellAll_X3_nothingLeft : GoodIn wsX3_tellAll (wsV RX3 54 RX3 yX3_nothingLeft wsX3_nothingLeft) := goodIn_app (goodIn_of _ (by decide +kernel)) ggX3_tellAll_X3_nothingLeft
set_option maxRecDepth 100000 in
theorem ggX3_tellAll_X3_tellPlace : GoodIn wsX3_tellAll wsX3_tellPlace := goodIn_r _ [42, 2, 7, 43, 44, 45, 46, 47, 11, 48, 13, 30, 27, 28, 29, 31, 32, 33, 34, 23, 24, 25, 26, 14, 20, 21, 22, 49, 50, 51, 52, 53, 54, 55, 56] rfl (by decide +kernel)
set_option maxRecDepth 100000 in
theorem gX3_tellAll_X3_tellPlace : GoodIn wsX3_tellAll (wsV RX3 58 RX3 yX3_tellPlace wsX3_tellPlace) := goodIn_app (goodIn_of _ (by decide +kernel)) ggX3_tellAll_X3_tellPlace
theorem dX3_tellAll_0 : decode cX3_tellAll 0 = .ok (.aload_n 0, 1) := by decide +kernel
theorem dX3_tellAll_1 : decode cX3_tellAll 1 = .ok (.getfield 9, 3) := by decide +kernel
theorem dX3_tellAll_4 : decode cX3_tellAll 4 = .ok (.iconst 0, 1) := by decide +kernel
theorem dX3_tellAll_5 : decode cX3_tellAll 5 = .ok (.aload_n 0, 1) := by decide +kernel
theorem dX3_tellAll_6 : decode cX3_tellAll 6 = .ok (.getfield 13, 3) := by decide +kernel
theorem dX3_tellAll_9 : decode cX3_tellAll 9 = .ok (.iconst 0, 1) := by decide +kernel
theorem dX3_tellAll_10 : decode cX3_tellAll 10 = .ok (.aload_n 0, 1) := by decide +kernel
theorem dX3_tellAll_11 : decode cX3_tellAll 11 = .ok (.getfield 13, 3) := by decide +kernel
theorem dX3_tellAll_14 : decode cX3_tellAll 14 = .ok (.arraylength, 1) := by decide +kernel
theorem dX3_tellAll_15 : decode cX3_tellAll 15 = .ok (.invokestatic 44, 3) := by decide +kernel
theorem dX3_tellAll_18 : decode cX3_tellAll 18 = .ok (.aload_n 0, 1) := by decide +kernel
theorem dX3_tellAll_19 : decode cX3_tellAll 19 = .ok (.iconst 0, 1) := by decide +kernel
theorem dX3_tellAll_20 : decode cX3_tellAll 20 = .ok (.putfield 37, 3) := by decide +kernel
theorem dX3_tellAll_23 : decode cX3_tellAll 23 = .ok (.iconst 0, 1) := by decide +kernel
theorem dX3_tellAll_24 : decode cX3_tellAll 24 = .ok (.istore_n 1, 1) := by decide +kernel
theorem dX3_tellAll_25 : decode cX3_tellAll 25 = .ok (.iload_n 1, 1) := by decide +kernel
theorem dX3_tellAll_26 : decode cX3_tellAll 26 = .ok (.sipush 200, 3) := by decide +kernel
theorem dX3_tellAll_29 : decode cX3_tellAll 29 = .ok (.if_icmp .ge 28, 3) := by decide +kernel
theorem dX3_tellAll_32 : decode cX3_tellAll 32 = .ok (.aload_n 0, 1) := by decide +kernel
theorem dX3_tellAll_33 : decode cX3_tellAll 33 = .ok (.invokevirtual 50, 3) := by decide +kernel
theorem dX3_tellAll_36 : decode cX3_tellAll 36 = .ok (.istore_n 2, 1) := by decide +kernel
theorem dX3_tellAll_37 : decode cX3_tellAll 37 = .ok (.iload_n 2, 1) := by decide +kernel
theorem dX3_tellAll_38 : decode cX3_tellAll 38 = .ok (.ifCond .ge 8, 3) := by decide +kernel
theorem dX3_tellAll_41 : decode cX3_tellAll 41 = .ok (.aload_n 0, 1) := by decide +kernel
theorem dX3_tellAll_42 : decode cX3_tellAll 42 = .ok (.invokevirtual 54, 3) := by decide +kernel
theorem dX3_tellAll_45 : decode cX3_tellAll 45 = .ok (.ireturn, 1) := by decide +kernel
theorem dX3_tellAll_46 : decode cX3_tellAll 46 = .ok (.aload_n 0, 1) := by decide +kernel
theorem dX3_tellAll_47 : decode cX3_tellAll 47 = .ok (.iload_n 2, 1) := by decide +kernel
theorem dX3_tellAll_48 : decode cX3_tellAll 48 = .ok (.invokevirtual 58, 3) := by decide +kernel
theorem dX3_tellAll_51 : decode cX3_tellAll 51 = .ok (.iinc 1 1, 3) := by decide +kernel
theorem dX3_tellAll_54 : decode cX3_tellAll 54 = .ok (.goto (-29), 3) := by decide +kernel
theorem dX3_tellAll_57 : decode cX3_tellAll 57 = .ok (.aload_n 0, 1) := by decide +kernel
theorem dX3_tellAll_58 : decode cX3_tellAll 58 = .ok (.invokevirtual 54, 3) := by decide +kernel
theorem dX3_tellAll_61 : decode cX3_tellAll 61 = .ok (.ireturn, 1) := by decide +kernel
set_option maxRecDepth 100000 in
theorem ggX3_tellPlace_X3_join : GoodIn wsX3_tellPlace wsX3_join := goodIn_r _ [9, 10, 11, 12, 13, 8, 14, 15, 16, 17, 18, 19, 20, 21, 22, 23, 24, 25, 26, 27, 28, 29, 30, 31, 32, 33, 34] rfl (by decide +kernel)
set_option maxRecDepth 100000 in
theorem gX3_tellPlace_X3_join : GoodIn wsX3_tellPlace (wsV RX3 40 RX3 yX3_join wsX3_join) := goodIn_app (goodIn_of _ (by decide +kernel)) ggX3_tellPlace_X3_join
theorem dX3_tellPlace_0 : decode cX3_tellPlace 0 = .ok (.aload_n 0, 1) := by decide +kernel
theorem dX3_tellPlace_1 : decode cX3_tellPlace 1 = .ok (.getfield 13, 3) := by decide +kernel
theorem dX3_tellPlace_4 : decode cX3_tellPlace 4 = .ok (.iload_n 1, 1) := by decide +kernel
theorem dX3_tellPlace_5 : decode cX3_tellPlace 5 = .ok (.laload, 1) := by decide +kernel
theorem dX3_tellPlace_6 : decode cX3_tellPlace 6 = .ok (.lstore_n 2, 1) := by decide +kernel
theorem dX3_tellPlace_7 : decode cX3_tellPlace 7 = .ok (.lload_n 2, 1) := by decide +kernel
theorem dX3_tellPlace_8 : decode cX3_tellPlace 8 = .ok (.lconst 0, 1) := by decide +kernel
theorem dX3_tellPlace_9 : decode cX3_tellPlace 9 = .ok (.lcmp, 1) := by decide +kernel
theorem dX3_tellPlace_10 : decode cX3_tellPlace 10 = .ok (.ifCond .ne 4, 3) := by decide +kernel
theorem dX3_tellPlace_13 : decode cX3_tellPlace 13 = .ok (.return_, 1) := by decide +kernel
theorem dX3_tellPlace_14 : decode cX3_tellPlace 14 = .ok (.aload_n 0, 1) := by decide +kernel
theorem dX3_tellPlace_15 : decode cX3_tellPlace 15 = .ok (.getfield 13, 3) := by decide +kernel
theorem dX3_tellPlace_18 : decode cX3_tellPlace 18 = .ok (.iload_n 1, 1) := by decide +kernel
theorem dX3_tellPlace_19 : decode cX3_tellPlace 19 = .ok (.iconst 1, 1) := by decide +kernel
theorem dX3_tellPlace_20 : decode cX3_tellPlace 20 = .ok (.iadd, 1) := by decide +kernel
theorem dX3_tellPlace_21 : decode cX3_tellPlace 21 = .ok (.laload, 1) := by decide +kernel
theorem dX3_tellPlace_22 : decode cX3_tellPlace 22 = .ok (.lload_n 2, 1) := by decide +kernel
theorem dX3_tellPlace_23 : decode cX3_tellPlace 23 = .ok (.ldiv, 1) := by decide +kernel
theorem dX3_tellPlace_24 : decode cX3_tellPlace 24 = .ok (.l2i, 1) := by decide +kernel
theorem dX3_tellPlace_25 : decode cX3_tellPlace 25 = .ok (.istore 4, 2) := by decide +kernel
theorem dX3_tellPlace_27 : decode cX3_tellPlace 27 = .ok (.aload_n 0, 1) := by decide +kernel
theorem dX3_tellPlace_28 : decode cX3_tellPlace 28 = .ok (.getfield 37, 3) := by decide +kernel
theorem dX3_tellPlace_31 : decode cX3_tellPlace 31 = .ok (.bipush 100, 2) := by decide +kernel
theorem dX3_tellPlace_33 : decode cX3_tellPlace 33 = .ok (.if_icmp .ge 25, 3) := by decide +kernel
theorem dX3_tellPlace_36 : decode cX3_tellPlace 36 = .ok (.aload_n 0, 1) := by decide +kernel
theorem dX3_tellPlace_37 : decode cX3_tellPlace 37 = .ok (.getfield 16, 3) := by decide +kernel
theorem dX3_tellPlace_40 : decode cX3_tellPlace 40 = .ok (.aload_n 0, 1) := by decide +kernel
theorem dX3_tellPlace_41 : decode cX3_tellPlace 41 = .ok (.getfield 37, 3) := by decide +kernel
theorem dX3_tellPlace_44 : decode cX3_tellPlace 44 = .ok (.iload 4, 2) := by decide +kernel
theorem dX3_tellPlace_46 : decode cX3_tellPlace 46 = .ok (.iastore, 1) := by decide +kernel
theorem dX3_tellPlace_47 : decode cX3_tellPlace 47 = .ok (.aload_n 0, 1) := by decide +kernel
theorem dX3_tellPlace_48 : decode cX3_tellPlace 48 = .ok (.getfield 20, 3) := by decide +kernel
theorem dX3_tellPlace_51 : decode cX3_tellPlace 51 = .ok (.aload_n 0, 1) := by decide +kernel
theorem dX3_tellPlace_52 : decode cX3_tellPlace 52 = .ok (.getfield 37, 3) := by decide +kernel
theorem dX3_tellPlace_55 : decode cX3_tellPlace 55 = .ok (.lload_n 2, 1) := by decide +kernel
theorem dX3_tellPlace_56 : decode cX3_tellPlace 56 = .ok (.l2i, 1) := by decide +kernel
theorem dX3_tellPlace_57 : decode cX3_tellPlace 57 = .ok (.iastore, 1) := by decide +kernel
theorem dX3_tellPlace_58 : decode cX3_tellPlace 58 = .ok (.aload_n 0, 1) := by decide +kernel
theorem dX3_tellPlace_59 : decode cX3_tellPlace 59 = .ok (.dup, 1) := by decide +kernel
theorem dX3_tellPlace_60 : decode cX3_tellPlace 60 = .ok (.getfield 37, 3) := by decide +kernel
theorem dX3_tellPlace_63 : decode cX3_tellPlace 63 = .ok (.iconst 1, 1) := by decide +kernel
theorem dX3_tellPlace_64 : decode cX3_tellPlace 64 = .ok (.iadd, 1) := by decide +kernel
theorem dX3_tellPlace_65 : decode cX3_tellPlace 65 = .ok (.putfield 37, 3) := by decide +kernel
theorem dX3_tellPlace_68 : decode cX3_tellPlace 68 = .ok (.aload_n 0, 1) := by decide +kernel
theorem dX3_tellPlace_69 : decode cX3_tellPlace 69 = .ok (.aload_n 0, 1) := by decide +kernel
theorem dX3_tellPlace_70 : decode cX3_tellPlace 70 = .ok (.getfield 13, 3) := by decide +kernel
theorem dX3_tellPlace_73 : decode cX3_tellPlace 73 = .ok (.iload 4, 2) := by decide +kernel
theorem dX3_tellPlace_75 : decode cX3_tellPlace 75 = .ok (.lload_n 2, 1) := by decide +kernel
theorem dX3_tellPlace_76 : decode cX3_tellPlace 76 = .ok (.lneg, 1) := by decide +kernel
theorem dX3_tellPlace_77 : decode cX3_tellPlace 77 = .ok (.invokevirtual 40, 3) := by decide +kernel
theorem dX3_tellPlace_80 : decode cX3_tellPlace 80 = .ok (.return_, 1) := by decide +kernel
set_option maxRecDepth 100000 in
theorem ggX3_firstSingle_X3_isSingle : GoodIn wsX3_firstSingle wsX3_isSingle := goodIn_r _ [7, 8, 9, 10, 11, 6, 12, 13, 14, 15, 16, 2, 17, 18, 19, 20, 21, 22, 23, 24, 25, 26, 27, 28, 29, 30, 31, 32] rfl (by decide +kernel)
set_option maxRecDepth 100000 in
theorem gX3_firstSingle_X3_isSingle : GoodIn wsX3_firstSingle (wsV RX3 62 RX3 yX3_isSingle wsX3_isSingle) := goodIn_app (goodIn_of _ (by decide +kernel)) ggX3_firstSingle_X3_isSingle
set_option maxRecDepth 100000 in
theorem ggX3_firstSingle_X3_start : GoodIn wsX3_firstSingle wsX3_start := goodIn_r _ [12] rfl (by decide +kernel)
set_option maxRecDepth 100000 in
theorem gX3_firstSingle_X3_start : GoodIn wsX3_firstSingle (va_wsS RX3 66 yX3_start wsX3_start) := goodIn_app (goodIn_of _ (by decide +kernel)) ggX3_firstSingle_X3_start
theorem dX3_firstSingle_0 : decode cX3_firstSingle 0 = .ok (.iconst 0, 1) := by decide +kernel
theorem dX3_firstSingle_1 : decode cX3_firstSingle 1 = .ok (.istore_n 1, 1) := by decide +kernel
theorem dX3_firstSingle_2 : decode cX3_firstSingle 2 = .ok (.iload_n 1, 1) := by decide +kernel
theorem dX3_firstSingle_3 : decode cX3_firstSingle 3 = .ok (.aload_n 0, 1) := by decide +kernel
theorem dX3_firstSingle_4 : decode cX3_firstSingle 4 = .ok (.getfield 27, 3) := by decide +kernel
theorem dX3_firstSingle_7 : decode cX3_firstSingle 7 = .ok (.if_icmp .ge 40, 3) := by decide +kernel
theorem dX3_firstSingle_10 : decode cX3_firstSingle 10 = .ok (.iconst 0, 1) := by decide +kernel
theorem dX3_firstSingle_11 : decode cX3_firstSingle 11 = .ok (.istore_n 2, 1) := by decide +kernel
theorem dX3_firstSingle_12 : decode cX3_firstSingle 12 = .ok (.iload_n 2, 1) := by decide +kernel
theorem dX3_firstSingle_13 : decode cX3_firstSingle 13 = .ok (.aload_n 0, 1) := by decide +kernel
theorem dX3_firstSingle_14 : decode cX3_firstSingle 14 = .ok (.getfield 31, 3) := by decide +kernel
theorem dX3_firstSingle_17 : decode cX3_firstSingle 17 = .ok (.if_icmp .ge 24, 3) := by decide +kernel
theorem dX3_firstSingle_20 : decode cX3_firstSingle 20 = .ok (.aload_n 0, 1) := by decide +kernel
theorem dX3_firstSingle_21 : decode cX3_firstSingle 21 = .ok (.iload_n 1, 1) := by decide +kernel
theorem dX3_firstSingle_22 : decode cX3_firstSingle 22 = .ok (.iload_n 2, 1) := by decide +kernel
theorem dX3_firstSingle_23 : decode cX3_firstSingle 23 = .ok (.invokevirtual 62, 3) := by decide +kernel
theorem dX3_firstSingle_26 : decode cX3_firstSingle 26 = .ok (.ifCond .eq 9, 3) := by decide +kernel
theorem dX3_firstSingle_29 : decode cX3_firstSingle 29 = .ok (.iload_n 1, 1) := by decide +kernel
theorem dX3_firstSingle_30 : decode cX3_firstSingle 30 = .ok (.iload_n 2, 1) := by decide +kernel
theorem dX3_firstSingle_31 : decode cX3_firstSingle 31 = .ok (.invokestatic 66, 3) := by decide +kernel
theorem dX3_firstSingle_34 : decode cX3_firstSingle 34 = .ok (.ireturn, 1) := by decide +kernel
theorem dX3_firstSingle_35 : decode cX3_firstSingle 35 = .ok (.iinc 2 1, 3) := by decide +kernel
theorem dX3_firstSingle_38 : decode cX3_firstSingle 38 = .ok (.goto (-26), 3) := by decide +kernel
theorem dX3_firstSingle_41 : decode cX3_firstSingle 41 = .ok (.iinc 1 1, 3) := by decide +kernel
theorem dX3_firstSingle_44 : decode cX3_firstSingle 44 = .ok (.goto (-42), 3) := by decide +kernel
theorem dX3_firstSingle_47 : decode cX3_firstSingle 47 = .ok (.iconst (-1), 1) := by decide +kernel
theorem dX3_firstSingle_48 : decode cX3_firstSingle 48 = .ok (.ireturn, 1) := by decide +kernel
set_option maxRecDepth 100000 in
theorem ggX3_isSingle_X3_start : GoodIn wsX3_isSingle wsX3_start := goodIn_r _ [6] rfl (by decide +kernel)
set_option maxRecDepth 100000 in
theorem gX3_isSingle_X3_start : GoodIn wsX3_isSingle (va_wsS RX3 66 yX3_start wsX3_start) := goodIn_app (goodIn_of _ (by decide +kernel)) ggX3_isSingle_X3_start
set_option maxRecDepth 100000 in
theorem ggX3_isSingle_X3_bucketOf : GoodIn wsX3_isSingle wsX3_bucketOf := goodIn_r _ [10, 11, 20, 21, 22, 23, 24, 25, 26, 27] rfl (by decide +kernel)
set_option maxRecDepth 100000 in
theorem gX3_isSingle_X3_bucketOf : GoodIn wsX3_isSingle (wsV RX3 72 RX3 yX3_bucketOf wsX3_bucketOf) := goodIn_app (goodIn_of _ (by decide +kernel)) ggX3_isSingle_X3_bucketOf
set_option maxRecDepth 100000 in
theorem ggX3_isSingle_X3_squareSum : GoodIn wsX3_isSingle wsX3_squareSum := goodIn_r _ [14, 15, 16, 17, 18, 19] rfl (by decide +kernel)
set_option maxRecDepth 100000 in
theorem gX3_isSingle_X3_squareSum : GoodIn wsX3_isSingle (va_wsS RX3 75 yX3_squareSum wsX3_squareSum) := goodIn_app (goodIn_of _ (by decide +kernel)) ggX3_isSingle_X3_squareSum
theorem dX3_isSingle_0 : decode cX3_isSingle 0 = .ok (.iload_n 1, 1) := by decide +kernel
theorem dX3_isSingle_1 : decode cX3_isSingle 1 = .ok (.iload_n 2, 1) := by decide +kernel
theorem dX3_isSingle_2 : decode cX3_isSingle 2 = .ok (.invokestatic 66, 3) := by decide +kernel
theorem dX3_isSingle_5 : decode cX3_isSingle 5 = .ok (.istore_n 3, 1) := by decide +kernel
theorem dX3_isSingle_6 : decode cX3_isSingle 6 = .ok (.aload_n 0, 1) := by decide +kernel
theorem dX3_isSingle_7 : decode cX3_isSingle 7 = .ok (.getfield 13, 3) := by decide +kernel
theorem dX3_isSingle_10 : decode cX3_isSingle 10 = .ok (.iload_n 3, 1) := by decide +kernel
theorem dX3_isSingle_11 : decode cX3_isSingle 11 = .ok (.laload, 1) := by decide +kernel
theorem dX3_isSingle_12 : decode cX3_isSingle 12 = .ok (.lstore 4, 2) := by decide +kernel
theorem dX3_isSingle_14 : decode cX3_isSingle 14 = .ok (.lload 4, 2) := by decide +kernel
theorem dX3_isSingle_16 : decode cX3_isSingle 16 = .ok (.lconst 0, 1) := by decide +kernel
theorem dX3_isSingle_17 : decode cX3_isSingle 17 = .ok (.lcmp, 1) := by decide +kernel
theorem dX3_isSingle_18 : decode cX3_isSingle 18 = .ok (.ifCond .eq 19, 3) := by decide +kernel
theorem dX3_isSingle_21 : decode cX3_isSingle 21 = .ok (.aload_n 0, 1) := by decide +kernel
theorem dX3_isSingle_22 : decode cX3_isSingle 22 = .ok (.getfield 13, 3) := by decide +kernel
theorem dX3_isSingle_25 : decode cX3_isSingle 25 = .ok (.iload_n 3, 1) := by decide +kernel
theorem dX3_isSingle_26 : decode cX3_isSingle 26 = .ok (.iconst 1, 1) := by decide +kernel
theorem dX3_isSingle_27 : decode cX3_isSingle 27 = .ok (.iadd, 1) := by decide +kernel
theorem dX3_isSingle_28 : decode cX3_isSingle 28 = .ok (.laload, 1) := by decide +kernel
theorem dX3_isSingle_29 : decode cX3_isSingle 29 = .ok (.lload 4, 2) := by decide +kernel
theorem dX3_isSingle_31 : decode cX3_isSingle 31 = .ok (.lrem, 1) := by decide +kernel
theorem dX3_isSingle_32 : decode cX3_isSingle 32 = .ok (.lconst 0, 1) := by decide +kernel
theorem dX3_isSingle_33 : decode cX3_isSingle 33 = .ok (.lcmp, 1) := by decide +kernel
theorem dX3_isSingle_34 : decode cX3_isSingle 34 = .ok (.ifCond .eq 5, 3) := by decide +kernel
theorem dX3_isSingle_37 : decode cX3_isSingle 37 = .ok (.iconst 0, 1) := by decide +kernel
theorem dX3_isSingle_38 : decode cX3_isSingle 38 = .ok (.ireturn, 1) := by decide +kernel
theorem dX3_isSingle_39 : decode cX3_isSingle 39 = .ok (.aload_n 0, 1) := by decide +kernel
theorem dX3_isSingle_40 : decode cX3_isSingle 40 = .ok (.getfield 13, 3) := by decide +kernel
theorem dX3_isSingle_43 : decode cX3_isSingle 43 = .ok (.iload_n 3, 1) := by decide +kernel
theorem dX3_isSingle_44 : decode cX3_isSingle 44 = .ok (.iconst 1, 1) := by decide +kernel
theorem dX3_isSingle_45 : decode cX3_isSingle 45 = .ok (.iadd, 1) := by decide +kernel
theorem dX3_isSingle_46 : decode cX3_isSingle 46 = .ok (.laload, 1) := by decide +kernel
theorem dX3_isSingle_47 : decode cX3_isSingle 47 = .ok (.lload 4, 2) := by decide +kernel
theorem dX3_isSingle_49 : decode cX3_isSingle 49 = .ok (.ldiv, 1) := by decide +kernel
theorem dX3_isSingle_50 : decode cX3_isSingle 50 = .ok (.lstore 6, 2) := by decide +kernel
theorem dX3_isSingle_52 : decode cX3_isSingle 52 = .ok (.lload 6, 2) := by decide +kernel
theorem dX3_isSingle_54 : decode cX3_isSingle 54 = .ok (.lconst 0, 1) := by decide +kernel
theorem dX3_isSingle_55 : decode cX3_isSingle 55 = .ok (.lcmp, 1) := by decide +kernel
theorem dX3_isSingle_56 : decode cX3_isSingle 56 = .ok (.ifCond .lt 24, 3) := by decide +kernel
theorem dX3_isSingle_59 : decode cX3_isSingle 59 = .ok (.lload 6, 2) := by decide +kernel
theorem dX3_isSingle_61 : decode cX3_isSingle 61 = .ok (.ldc2_w 70, 3) := by decide +kernel
theorem dX3_isSingle_64 : decode cX3_isSingle 64 = .ok (.lcmp, 1) := by decide +kernel
theorem dX3_isSingle_65 : decode cX3_isSingle 65 = .ok (.ifCond .gt 15, 3) := by decide +kernel
theorem dX3_isSingle_68 : decode cX3_isSingle 68 = .ok (.aload_n 0, 1) := by decide +kernel
theorem dX3_isSingle_69 : decode cX3_isSingle 69 = .ok (.iload_n 1, 1) := by decide +kernel
theorem dX3_isSingle_70 : decode cX3_isSingle 70 = .ok (.lload 6, 2) := by decide +kernel
theorem dX3_isSingle_72 : decode cX3_isSingle 72 = .ok (.l2i, 1) := by decide +kernel
theorem dX3_isSingle_73 : decode cX3_isSingle 73 = .ok (.invokevirtual 72, 3) := by decide +kernel
theorem dX3_isSingle_76 : decode cX3_isSingle 76 = .ok (.iload_n 2, 1) := by decide +kernel
theorem dX3_isSingle_77 : decode cX3_isSingle 77 = .ok (.if_icmp .eq 5, 3) := by decide +kernel
theorem dX3_isSingle_80 : decode cX3_isSingle 80 = .ok (.iconst 0, 1) := by decide +kernel
theorem dX3_isSingle_81 : decode cX3_isSingle 81 = .ok (.ireturn, 1) := by decide +kernel
theorem dX3_isSingle_82 : decode cX3_isSingle 82 = .ok (.lload 6, 2) := by decide +kernel
theorem dX3_isSingle_84 : decode cX3_isSingle 84 = .ok (.lload 4, 2) := by decide +kernel
theorem dX3_isSingle_86 : decode cX3_isSingle 86 = .ok (.invokestatic 75, 3) := by decide +kernel
theorem dX3_isSingle_89 : decode cX3_isSingle 89 = .ok (.aload_n 0, 1) := by decide +kernel
theorem dX3_isSingle_90 : decode cX3_isSingle 90 = .ok (.getfield 13, 3) := by decide +kernel
theorem dX3_isSingle_93 : decode cX3_isSingle 93 = .ok (.iload_n 3, 1) := by decide +kernel
theorem dX3_isSingle_94 : decode cX3_isSingle 94 = .ok (.iconst 2, 1) := by decide +kernel
theorem dX3_isSingle_95 : decode cX3_isSingle 95 = .ok (.iadd, 1) := by decide +kernel
theorem dX3_isSingle_96 : decode cX3_isSingle 96 = .ok (.laload, 1) := by decide +kernel
theorem dX3_isSingle_97 : decode cX3_isSingle 97 = .ok (.lcmp, 1) := by decide +kernel
theorem dX3_isSingle_98 : decode cX3_isSingle 98 = .ok (.ifCond .ne 7, 3) := by decide +kernel
theorem dX3_isSingle_101 : decode cX3_isSingle 101 = .ok (.iconst 1, 1) := by decide +kernel
theorem dX3_isSingle_102 : decode cX3_isSingle 102 = .ok (.goto 4, 3) := by decide +kernel
theorem dX3_isSingle_105 : decode cX3_isSingle 105 = .ok (.iconst 0, 1) := by decide +kernel
theorem dX3_isSingle_106 : decode cX3_isSingle 106 = .ok (.ireturn, 1) := by decide +kernel
theorem dX3_bucketOf_0 : decode cX3_bucketOf 0 = .ok (.iload_n 2, 1) := by decide +kernel
theorem dX3_bucketOf_1 : decode cX3_bucketOf 1 = .ok (.iconst 2, 1) := by decide +kernel
theorem dX3_bucketOf_2 : decode cX3_bucketOf 2 = .ok (.iload_n 1, 1) := by decide +kernel
theorem dX3_bucketOf_3 : decode cX3_bucketOf 3 = .ok (.imul, 1) := by decide +kernel
theorem dX3_bucketOf_4 : decode cX3_bucketOf 4 = .ok (.iconst 3, 1) := by decide +kernel
theorem dX3_bucketOf_5 : decode cX3_bucketOf 5 = .ok (.iadd, 1) := by decide +kernel
theorem dX3_bucketOf_6 : decode cX3_bucketOf 6 = .ok (.imul, 1) := by decide +kernel
theorem dX3_bucketOf_7 : decode cX3_bucketOf 7 = .ok (.iload_n 2, 1) := by decide +kernel
theorem dX3_bucketOf_8 : decode cX3_bucketOf 8 = .ok (.iconst 5, 1) := by decide +kernel
theorem dX3_bucketOf_9 : decode cX3_bucketOf 9 = .ok (.iload_n 1, 1) := by decide +kernel
theorem dX3_bucketOf_10 : decode cX3_bucketOf 10 = .ok (.imul, 1) := by decide +kernel
theorem dX3_bucketOf_11 : decode cX3_bucketOf 11 = .ok (.bipush 7, 2) := by decide +kernel
theorem dX3_bucketOf_13 : decode cX3_bucketOf 13 = .ok (.iadd, 1) := by decide +kernel
theorem dX3_bucketOf_14 : decode cX3_bucketOf 14 = .ok (.idiv, 1) := by decide +kernel
theorem dX3_bucketOf_15 : decode cX3_bucketOf 15 = .ok (.iadd, 1) := by decide +kernel
theorem dX3_bucketOf_16 : decode cX3_bucketOf 16 = .ok (.aload_n 0, 1) := by decide +kernel
theorem dX3_bucketOf_17 : decode cX3_bucketOf 17 = .ok (.getfield 31, 3) := by decide +kernel
theorem dX3_bucketOf_20 : decode cX3_bucketOf 20 = .ok (.irem, 1) := by decide +kernel
theorem dX3_bucketOf_21 : decode cX3_bucketOf 21 = .ok (.ireturn, 1) := by decide +kernel
set_option maxRecDepth 100000 in
theorem ggX3_squareSum_J9_floorMod_f86c9 : GoodIn wsX3_squareSum wsJ9_floorMod_f86c9 := goodIn_r _ [5] rfl (by decide +kernel)
set_option maxRecDepth 100000 in
theorem gX3_squareSum_J9_floorMod_f86c9 : GoodIn wsX3_squareSum (va_wsS RX3 81 yJ9_floorMod_f86c9 wsJ9_floorMod_f86c9) := goodIn_app (goodIn_of _ (by decide +kernel)) ggX3_squareSum_J9_floorMod_f86c9
theorem dX3_squareSum_0 : decode cX3_squareSum 0 = .ok (.lload_n 2, 1) := by decide +kernel
theorem dX3_squareSum_1 : decode cX3_squareSum 1 = .ok (.ldc2_w 79, 3) := by decide +kernel
theorem dX3_squareSum_4 : decode cX3_squareSum 4 = .ok (.invokestatic 81, 3) := by decide +kernel
theorem dX3_squareSum_7 : decode cX3_squareSum 7 = .ok (.lload_n 0, 1) := by decide +kernel
theorem dX3_squareSum_8 : decode cX3_squareSum 8 = .ok (.lload_n 0, 1) := by decide +kernel
theorem dX3_squareSum_9 : decode cX3_squareSum 9 = .ok (.lmul, 1) := by decide +kernel
theorem dX3_squareSum_10 : decode cX3_squareSum 10 = .ok (.ldc2_w 79, 3) := by decide +kernel
theorem dX3_squareSum_13 : decode cX3_squareSum 13 = .ok (.lrem, 1) := by decide +kernel
theorem dX3_squareSum_14 : decode cX3_squareSum 14 = .ok (.lmul, 1) := by decide +kernel
theorem dX3_squareSum_15 : decode cX3_squareSum 15 = .ok (.ldc2_w 79, 3) := by decide +kernel
theorem dX3_squareSum_18 : decode cX3_squareSum 18 = .ok (.lrem, 1) := by decide +kernel
theorem dX3_squareSum_19 : decode cX3_squareSum 19 = .ok (.lreturn, 1) := by decide +kernel
set_option maxRecDepth 100000 in
theorem ggX3_join_X3_squareSum : GoodIn wsX3_join wsX3_squareSum := goodIn_r _ [6, 2, 7, 8, 9, 10] rfl (by decide +kernel)
set_option maxRecDepth 100000 in
theorem gX3_join_X3_squareSum : GoodIn wsX3_join (va_wsS RX3 75 yX3_squareSum wsX3_squareSum) := goodIn_app (goodIn_of _ (by decide +kernel)) ggX3_join_X3_squareSum
set_option maxRecDepth 100000 in
theorem ggX3_join_X3_bucketOf : GoodIn wsX3_join wsX3_bucketOf := goodIn_r _ [14, 15, 19, 20, 21, 22, 23, 24, 25, 26] rfl (by decide +kernel)
set_option maxRecDepth 100000 in
theorem gX3_join_X3_bucketOf : GoodIn wsX3_join (wsV RX3 72 RX3 yX3_bucketOf wsX3_bucketOf) := goodIn_app (goodIn_of _ (by decide +kernel)) ggX3_join_X3_bucketOf
set_option maxRecDepth 100000 in
theorem ggX3_join_X3_start : GoodIn wsX3_join wsX3_start := goodIn_r _ [18] rfl (by decide +kernel)
set_option maxRecDepth 100000 in
theorem gX3_join_X3_start : GoodIn wsX3_join (va_wsS RX3 66 yX3_start wsX3_start) := goodIn_app (goodIn_of _ (by decide +kernel)) ggX3_join_X3_start
theorem dX3_join_0 : decode cX3_join 0 = .ok (.iload_n 2, 1) := by decide +kernel
theorem dX3_join_1 : decode cX3_join 1 = .ok (.i2l, 1) := by decide +kernel
theorem dX3_join_2 : decode cX3_join 2 = .ok (.lload_n 3, 1) := by decide +kernel
theorem dX3_join_3 : decode cX3_join 3 = .ok (.invokestatic 75, 3) := by decide +kernel
theorem dX3_join_6 : decode cX3_join 6 = .ok (.lstore 5, 2) := by decide +kernel
theorem dX3_join_8 : decode cX3_join 8 = .ok (.iconst 0, 1) := by decide +kernel
theorem dX3_join_9 : decode cX3_join 9 = .ok (.istore 7, 2) := by decide +kernel
theorem dX3_join_11 : decode cX3_join 11 = .ok (.iload 7, 2) := by decide +kernel
theorem dX3_join_13 : decode cX3_join 13 = .ok (.aload_n 0, 1) := by decide +kernel
theorem dX3_join_14 : decode cX3_join 14 = .ok (.getfield 27, 3) := by decide +kernel
theorem dX3_join_17 : decode cX3_join 17 = .ok (.if_icmp .ge 63, 3) := by decide +kernel
theorem dX3_join_20 : decode cX3_join 20 = .ok (.iload 7, 2) := by decide +kernel
theorem dX3_join_22 : decode cX3_join 22 = .ok (.aload_n 0, 1) := by decide +kernel
theorem dX3_join_23 : decode cX3_join 23 = .ok (.iload 7, 2) := by decide +kernel
theorem dX3_join_25 : decode cX3_join 25 = .ok (.iload_n 2, 1) := by decide +kernel
theorem dX3_join_26 : decode cX3_join 26 = .ok (.invokevirtual 72, 3) := by decide +kernel
theorem dX3_join_29 : decode cX3_join 29 = .ok (.invokestatic 66, 3) := by decide +kernel
theorem dX3_join_32 : decode cX3_join 32 = .ok (.istore 8, 2) := by decide +kernel
theorem dX3_join_34 : decode cX3_join 34 = .ok (.aload_n 1, 1) := by decide +kernel
theorem dX3_join_35 : decode cX3_join 35 = .ok (.iload 8, 2) := by decide +kernel
theorem dX3_join_37 : decode cX3_join 37 = .ok (.dup2, 1) := by decide +kernel
theorem dX3_join_38 : decode cX3_join 38 = .ok (.laload, 1) := by decide +kernel
theorem dX3_join_39 : decode cX3_join 39 = .ok (.lload_n 3, 1) := by decide +kernel
theorem dX3_join_40 : decode cX3_join 40 = .ok (.ladd, 1) := by decide +kernel
theorem dX3_join_41 : decode cX3_join 41 = .ok (.lastore, 1) := by decide +kernel
theorem dX3_join_42 : decode cX3_join 42 = .ok (.aload_n 1, 1) := by decide +kernel
theorem dX3_join_43 : decode cX3_join 43 = .ok (.iload 8, 2) := by decide +kernel
theorem dX3_join_45 : decode cX3_join 45 = .ok (.iconst 1, 1) := by decide +kernel
theorem dX3_join_46 : decode cX3_join 46 = .ok (.iadd, 1) := by decide +kernel
theorem dX3_join_47 : decode cX3_join 47 = .ok (.dup2, 1) := by decide +kernel
theorem dX3_join_48 : decode cX3_join 48 = .ok (.laload, 1) := by decide +kernel
theorem dX3_join_49 : decode cX3_join 49 = .ok (.lload_n 3, 1) := by decide +kernel
theorem dX3_join_50 : decode cX3_join 50 = .ok (.iload_n 2, 1) := by decide +kernel
theorem dX3_join_51 : decode cX3_join 51 = .ok (.i2l, 1) := by decide +kernel
theorem dX3_join_52 : decode cX3_join 52 = .ok (.lmul, 1) := by decide +kernel
theorem dX3_join_53 : decode cX3_join 53 = .ok (.ladd, 1) := by decide +kernel
theorem dX3_join_54 : decode cX3_join 54 = .ok (.lastore, 1) := by decide +kernel
theorem dX3_join_55 : decode cX3_join 55 = .ok (.aload_n 1, 1) := by decide +kernel
theorem dX3_join_56 : decode cX3_join 56 = .ok (.iload 8, 2) := by decide +kernel
theorem dX3_join_58 : decode cX3_join 58 = .ok (.iconst 2, 1) := by decide +kernel
theorem dX3_join_59 : decode cX3_join 59 = .ok (.iadd, 1) := by decide +kernel
theorem dX3_join_60 : decode cX3_join 60 = .ok (.aload_n 1, 1) := by decide +kernel
theorem dX3_join_61 : decode cX3_join 61 = .ok (.iload 8, 2) := by decide +kernel
theorem dX3_join_63 : decode cX3_join 63 = .ok (.iconst 2, 1) := by decide +kernel
theorem dX3_join_64 : decode cX3_join 64 = .ok (.iadd, 1) := by decide +kernel
theorem dX3_join_65 : decode cX3_join 65 = .ok (.laload, 1) := by decide +kernel
theorem dX3_join_66 : decode cX3_join 66 = .ok (.lload 5, 2) := by decide +kernel
theorem dX3_join_68 : decode cX3_join 68 = .ok (.ladd, 1) := by decide +kernel
theorem dX3_join_69 : decode cX3_join 69 = .ok (.ldc2_w 79, 3) := by decide +kernel
theorem dX3_join_72 : decode cX3_join 72 = .ok (.lrem, 1) := by decide +kernel
theorem dX3_join_73 : decode cX3_join 73 = .ok (.lastore, 1) := by decide +kernel
theorem dX3_join_74 : decode cX3_join 74 = .ok (.iinc 7 1, 3) := by decide +kernel
theorem dX3_join_77 : decode cX3_join 77 = .ok (.goto (-66), 3) := by decide +kernel
theorem dX3_join_80 : decode cX3_join 80 = .ok (.return_, 1) := by decide +kernel
theorem dX3_nothingLeft_0 : decode cX3_nothingLeft 0 = .ok (.iconst 0, 1) := by decide +kernel
theorem dX3_nothingLeft_1 : decode cX3_nothingLeft 1 = .ok (.istore_n 1, 1) := by decide +kernel
theorem dX3_nothingLeft_2 : decode cX3_nothingLeft 2 = .ok (.iload_n 1, 1) := by decide +kernel
theorem dX3_nothingLeft_3 : decode cX3_nothingLeft 3 = .ok (.aload_n 0, 1) := by decide +kernel
theorem dX3_nothingLeft_4 : decode cX3_nothingLeft 4 = .ok (.getfield 13, 3) := by decide +kernel
theorem dX3_nothingLeft_7 : decode cX3_nothingLeft 7 = .ok (.arraylength, 1) := by decide +kernel
theorem dX3_nothingLeft_8 : decode cX3_nothingLeft 8 = .ok (.if_icmp .ge 22, 3) := by decide +kernel
theorem dX3_nothingLeft_11 : decode cX3_nothingLeft 11 = .ok (.aload_n 0, 1) := by decide +kernel
theorem dX3_nothingLeft_12 : decode cX3_nothingLeft 12 = .ok (.getfield 13, 3) := by decide +kernel
theorem dX3_nothingLeft_15 : decode cX3_nothingLeft 15 = .ok (.iload_n 1, 1) := by decide +kernel
theorem dX3_nothingLeft_16 : decode cX3_nothingLeft 16 = .ok (.laload, 1) := by decide +kernel
theorem dX3_nothingLeft_17 : decode cX3_nothingLeft 17 = .ok (.lconst 0, 1) := by decide +kernel
theorem dX3_nothingLeft_18 : decode cX3_nothingLeft 18 = .ok (.lcmp, 1) := by decide +kernel
theorem dX3_nothingLeft_19 : decode cX3_nothingLeft 19 = .ok (.ifCond .eq 5, 3) := by decide +kernel
theorem dX3_nothingLeft_22 : decode cX3_nothingLeft 22 = .ok (.iconst 0, 1) := by decide +kernel
theorem dX3_nothingLeft_23 : decode cX3_nothingLeft 23 = .ok (.ireturn, 1) := by decide +kernel
theorem dX3_nothingLeft_24 : decode cX3_nothingLeft 24 = .ok (.iinc 1 1, 3) := by decide +kernel
theorem dX3_nothingLeft_27 : decode cX3_nothingLeft 27 = .ok (.goto (-25), 3) := by decide +kernel
theorem dX3_nothingLeft_30 : decode cX3_nothingLeft 30 = .ok (.iconst 1, 1) := by decide +kernel
theorem dX3_nothingLeft_31 : decode cX3_nothingLeft 31 = .ok (.ireturn, 1) := by decide +kernel
set_option maxRecDepth 100000 in
theorem ggX4_init_X4_shape : GoodIn wsX4_init wsX4_shape := goodIn_r _ [12, 13, 14, 15, 6, 7, 16, 17, 18, 19, 20, 21, 22, 23] rfl (by decide +kernel)
set_option maxRecDepth 100000 in
theorem gX4_init_X4_shape : GoodIn wsX4_init (wsV RX4 20 RX4 yX4_shape wsX4_shape) := goodIn_app (goodIn_of _ (by decide +kernel)) ggX4_init_X4_shape
theorem dX4_init_0 : decode cX4_init 0 = .ok (.aload_n 0, 1) := by decide +kernel
theorem dX4_init_1 : decode cX4_init 1 = .ok (.invokespecial 3, 3) := by decide +kernel
theorem dX4_init_4 : decode cX4_init 4 = .ok (.aload_n 0, 1) := by decide +kernel
theorem dX4_init_5 : decode cX4_init 5 = .ok (.bipush 6, 2) := by decide +kernel
theorem dX4_init_7 : decode cX4_init 7 = .ok (.bipush 12, 2) := by decide +kernel
theorem dX4_init_9 : decode cX4_init 9 = .ok (.multianewarray 9 2, 4) := by decide +kernel
theorem dX4_init_13 : decode cX4_init 13 = .ok (.putfield 11, 3) := by decide +kernel
theorem dX4_init_16 : decode cX4_init 16 = .ok (.aload_n 0, 1) := by decide +kernel
theorem dX4_init_17 : decode cX4_init 17 = .ok (.bipush 98, 2) := by decide +kernel
theorem dX4_init_19 : decode cX4_init 19 = .ok (.newarray .int, 2) := by decide +kernel
theorem dX4_init_21 : decode cX4_init 21 = .ok (.putfield 16, 3) := by decide +kernel
theorem dX4_init_24 : decode cX4_init 24 = .ok (.aload_n 0, 1) := by decide +kernel
theorem dX4_init_25 : decode cX4_init 25 = .ok (.bipush 11, 2) := by decide +kernel
theorem dX4_init_27 : decode cX4_init 27 = .ok (.iconst 1, 1) := by decide +kernel
theorem dX4_init_28 : decode cX4_init 28 = .ok (.iconst 1, 1) := by decide +kernel
theorem dX4_init_29 : decode cX4_init 29 = .ok (.invokevirtual 20, 3) := by decide +kernel
theorem dX4_init_32 : decode cX4_init 32 = .ok (.return_, 1) := by decide +kernel
set_option maxRecDepth 100000 in
theorem ggX4_shape_X5_clear : GoodIn wsX4_shape wsX5_clear := goodIn_r _ [8] rfl (by decide +kernel)
set_option maxRecDepth 100000 in
theorem gX4_shape_X5_clear_n34 : GoodIn wsX4_shape (wsX5_clear) := ggX4_shape_X5_clear
theorem dX4_shape_0 : decode cX4_shape 0 = .ok (.aload_n 0, 1) := by decide +kernel
theorem dX4_shape_1 : decode cX4_shape 1 = .ok (.iload_n 1, 1) := by decide +kernel
theorem dX4_shape_2 : decode cX4_shape 2 = .ok (.putfield 24, 3) := by decide +kernel
theorem dX4_shape_5 : decode cX4_shape 5 = .ok (.aload_n 0, 1) := by decide +kernel
theorem dX4_shape_6 : decode cX4_shape 6 = .ok (.iload_n 2, 1) := by decide +kernel
theorem dX4_shape_7 : decode cX4_shape 7 = .ok (.putfield 28, 3) := by decide +kernel
theorem dX4_shape_10 : decode cX4_shape 10 = .ok (.aload_n 0, 1) := by decide +kernel
theorem dX4_shape_11 : decode cX4_shape 11 = .ok (.iload_n 3, 1) := by decide +kernel
theorem dX4_shape_12 : decode cX4_shape 12 = .ok (.putfield 31, 3) := by decide +kernel
theorem dX4_shape_15 : decode cX4_shape 15 = .ok (.iconst 0, 1) := by decide +kernel
theorem dX4_shape_16 : decode cX4_shape 16 = .ok (.istore 4, 2) := by decide +kernel
theorem dX4_shape_18 : decode cX4_shape 18 = .ok (.iload 4, 2) := by decide +kernel
theorem dX4_shape_20 : decode cX4_shape 20 = .ok (.bipush 6, 2) := by decide +kernel
theorem dX4_shape_22 : decode cX4_shape 22 = .ok (.if_icmp .ge 19, 3) := by decide +kernel
theorem dX4_shape_25 : decode cX4_shape 25 = .ok (.aload_n 0, 1) := by decide +kernel
theorem dX4_shape_26 : decode cX4_shape 26 = .ok (.getfield 11, 3) := by decide +kernel
theorem dX4_shape_29 : decode cX4_shape 29 = .ok (.iload 4, 2) := by decide +kernel
theorem dX4_shape_31 : decode cX4_shape 31 = .ok (.aaload, 1) := by decide +kernel
theorem dX4_shape_32 : decode cX4_shape 32 = .ok (.invokestatic 34, 3) := by decide +kernel
theorem dX4_shape_35 : decode cX4_shape 35 = .ok (.iinc 4 1, 3) := by decide +kernel
theorem dX4_shape_38 : decode cX4_shape 38 = .ok (.goto (-20), 3) := by decide +kernel
theorem dX4_shape_41 : decode cX4_shape 41 = .ok (.aload_n 0, 1) := by decide +kernel
theorem dX4_shape_42 : decode cX4_shape 42 = .ok (.getfield 16, 3) := by decide +kernel
theorem dX4_shape_45 : decode cX4_shape 45 = .ok (.iconst 1, 1) := by decide +kernel
theorem dX4_shape_46 : decode cX4_shape 46 = .ok (.iconst 1, 1) := by decide +kernel
theorem dX4_shape_47 : decode cX4_shape 47 = .ok (.iastore, 1) := by decide +kernel
theorem dX4_shape_48 : decode cX4_shape 48 = .ok (.iconst 2, 1) := by decide +kernel
theorem dX4_shape_49 : decode cX4_shape 49 = .ok (.istore 4, 2) := by decide +kernel
theorem dX4_shape_51 : decode cX4_shape 51 = .ok (.iload 4, 2) := by decide +kernel
theorem dX4_shape_53 : decode cX4_shape 53 = .ok (.aload_n 0, 1) := by decide +kernel
theorem dX4_shape_54 : decode cX4_shape 54 = .ok (.getfield 24, 3) := by decide +kernel
theorem dX4_shape_57 : decode cX4_shape 57 = .ok (.if_icmp .ge 46, 3) := by decide +kernel
theorem dX4_shape_60 : decode cX4_shape 60 = .ok (.aload_n 0, 1) := by decide +kernel
theorem dX4_shape_61 : decode cX4_shape 61 = .ok (.getfield 16, 3) := by decide +kernel
theorem dX4_shape_64 : decode cX4_shape 64 = .ok (.iload 4, 2) := by decide +kernel
theorem dX4_shape_66 : decode cX4_shape 66 = .ok (.aload_n 0, 1) := by decide +kernel
theorem dX4_shape_67 : decode cX4_shape 67 = .ok (.getfield 24, 3) := by decide +kernel
theorem dX4_shape_70 : decode cX4_shape 70 = .ok (.aload_n 0, 1) := by decide +kernel
theorem dX4_shape_71 : decode cX4_shape 71 = .ok (.getfield 24, 3) := by decide +kernel
theorem dX4_shape_74 : decode cX4_shape 74 = .ok (.iload 4, 2) := by decide +kernel
theorem dX4_shape_76 : decode cX4_shape 76 = .ok (.idiv, 1) := by decide +kernel
theorem dX4_shape_77 : decode cX4_shape 77 = .ok (.isub, 1) := by decide +kernel
theorem dX4_shape_78 : decode cX4_shape 78 = .ok (.aload_n 0, 1) := by decide +kernel
theorem dX4_shape_79 : decode cX4_shape 79 = .ok (.getfield 16, 3) := by decide +kernel
theorem dX4_shape_82 : decode cX4_shape 82 = .ok (.aload_n 0, 1) := by decide +kernel
theorem dX4_shape_83 : decode cX4_shape 83 = .ok (.getfield 24, 3) := by decide +kernel
theorem dX4_shape_86 : decode cX4_shape 86 = .ok (.iload 4, 2) := by decide +kernel
theorem dX4_shape_88 : decode cX4_shape 88 = .ok (.irem, 1) := by decide +kernel
theorem dX4_shape_89 : decode cX4_shape 89 = .ok (.iaload, 1) := by decide +kernel
theorem dX4_shape_90 : decode cX4_shape 90 = .ok (.imul, 1) := by decide +kernel
theorem dX4_shape_91 : decode cX4_shape 91 = .ok (.aload_n 0, 1) := by decide +kernel
theorem dX4_shape_92 : decode cX4_shape 92 = .ok (.getfield 24, 3) := by decide +kernel
theorem dX4_shape_95 : decode cX4_shape 95 = .ok (.irem, 1) := by decide +kernel
theorem dX4_shape_96 : decode cX4_shape 96 = .ok (.iastore, 1) := by decide +kernel
theorem dX4_shape_97 : decode cX4_shape 97 = .ok (.iinc 4 1, 3) := by decide +kernel
theorem dX4_shape_100 : decode cX4_shape 100 = .ok (.goto (-49), 3) := by decide +kernel
theorem dX4_shape_103 : decode cX4_shape 103 = .ok (.return_, 1) := by decide +kernel
theorem dX4_has_0 : decode cX4_has 0 = .ok (.iload_n 1, 1) := by decide +kernel
theorem dX4_has_1 : decode cX4_has 1 = .ok (.ifCond .lt 27, 3) := by decide +kernel
theorem dX4_has_4 : decode cX4_has 4 = .ok (.iload_n 1, 1) := by decide +kernel
theorem dX4_has_5 : decode cX4_has 5 = .ok (.aload_n 0, 1) := by decide +kernel
theorem dX4_has_6 : decode cX4_has 6 = .ok (.getfield 28, 3) := by decide +kernel
theorem dX4_has_9 : decode cX4_has 9 = .ok (.if_icmp .ge 19, 3) := by decide +kernel
theorem dX4_has_12 : decode cX4_has 12 = .ok (.iload_n 2, 1) := by decide +kernel
theorem dX4_has_13 : decode cX4_has 13 = .ok (.ifCond .lt 15, 3) := by decide +kernel
theorem dX4_has_16 : decode cX4_has 16 = .ok (.iload_n 2, 1) := by decide +kernel
theorem dX4_has_17 : decode cX4_has 17 = .ok (.aload_n 0, 1) := by decide +kernel
theorem dX4_has_18 : decode cX4_has 18 = .ok (.getfield 31, 3) := by decide +kernel
theorem dX4_has_21 : decode cX4_has 21 = .ok (.if_icmp .ge 7, 3) := by decide +kernel
theorem dX4_has_24 : decode cX4_has 24 = .ok (.iconst 1, 1) := by decide +kernel
theorem dX4_has_25 : decode cX4_has 25 = .ok (.goto 4, 3) := by decide +kernel
theorem dX4_has_28 : decode cX4_has 28 = .ok (.iconst 0, 1) := by decide +kernel
theorem dX4_has_29 : decode cX4_has 29 = .ok (.ireturn, 1) := by decide +kernel
set_option maxRecDepth 100000 in
theorem ggX4_remainder_J9_floorMod_7cf53 : GoodIn wsX4_remainder wsJ9_floorMod_7cf53 := goodIn_r _ [5] rfl (by decide +kernel)
set_option maxRecDepth 100000 in
theorem gX4_remainder_J9_floorMod_7cf53 : GoodIn wsX4_remainder (va_wsS RX4 38 yJ9_floorMod_7cf53 wsJ9_floorMod_7cf53) := goodIn_app (goodIn_of _ (by decide +kernel)) ggX4_remainder_J9_floorMod_7cf53
theorem dX4_remainder_0 : decode cX4_remainder 0 = .ok (.iload_n 1, 1) := by decide +kernel
theorem dX4_remainder_1 : decode cX4_remainder 1 = .ok (.aload_n 0, 1) := by decide +kernel
theorem dX4_remainder_2 : decode cX4_remainder 2 = .ok (.getfield 24, 3) := by decide +kernel
theorem dX4_remainder_5 : decode cX4_remainder 5 = .ok (.invokestatic 38, 3) := by decide +kernel
theorem dX4_remainder_8 : decode cX4_remainder 8 = .ok (.ireturn, 1) := by decide +kernel
theorem dX4_quotient_0 : decode cX4_quotient 0 = .ok (.iload_n 1, 1) := by decide +kernel
theorem dX4_quotient_1 : decode cX4_quotient 1 = .ok (.aload_n 0, 1) := by decide +kernel
theorem dX4_quotient_2 : decode cX4_quotient 2 = .ok (.getfield 16, 3) := by decide +kernel
theorem dX4_quotient_5 : decode cX4_quotient 5 = .ok (.iload_n 2, 1) := by decide +kernel
theorem dX4_quotient_6 : decode cX4_quotient 6 = .ok (.iaload, 1) := by decide +kernel
theorem dX4_quotient_7 : decode cX4_quotient 7 = .ok (.imul, 1) := by decide +kernel
theorem dX4_quotient_8 : decode cX4_quotient 8 = .ok (.aload_n 0, 1) := by decide +kernel
theorem dX4_quotient_9 : decode cX4_quotient 9 = .ok (.getfield 24, 3) := by decide +kernel
theorem dX4_quotient_12 : decode cX4_quotient 12 = .ok (.irem, 1) := by decide +kernel
theorem dX4_quotient_13 : decode cX4_quotient 13 = .ok (.ireturn, 1) := by decide +kernel
theorem dX4_fillWithPowers_0 : decode cX4_fillWithPowers 0 = .ok (.iconst 0, 1) := by decide +kernel
theorem dX4_fillWithPowers_1 : decode cX4_fillWithPowers 1 = .ok (.istore_n 2, 1) := by decide +kernel
theorem dX4_fillWithPowers_2 : decode cX4_fillWithPowers 2 = .ok (.iload_n 2, 1) := by decide +kernel
theorem dX4_fillWithPowers_3 : decode cX4_fillWithPowers 3 = .ok (.aload_n 0, 1) := by decide +kernel
theorem dX4_fillWithPowers_4 : decode cX4_fillWithPowers 4 = .ok (.getfield 31, 3) := by decide +kernel
theorem dX4_fillWithPowers_7 : decode cX4_fillWithPowers 7 = .ok (.if_icmp .ge 50, 3) := by decide +kernel
theorem dX4_fillWithPowers_10 : decode cX4_fillWithPowers 10 = .ok (.iload_n 1, 1) := by decide +kernel
theorem dX4_fillWithPowers_11 : decode cX4_fillWithPowers 11 = .ok (.istore_n 3, 1) := by decide +kernel
theorem dX4_fillWithPowers_12 : decode cX4_fillWithPowers 12 = .ok (.iconst 0, 1) := by decide +kernel
theorem dX4_fillWithPowers_13 : decode cX4_fillWithPowers 13 = .ok (.istore 4, 2) := by decide +kernel
theorem dX4_fillWithPowers_15 : decode cX4_fillWithPowers 15 = .ok (.iload 4, 2) := by decide +kernel
theorem dX4_fillWithPowers_17 : decode cX4_fillWithPowers 17 = .ok (.aload_n 0, 1) := by decide +kernel
theorem dX4_fillWithPowers_18 : decode cX4_fillWithPowers 18 = .ok (.getfield 28, 3) := by decide +kernel
theorem dX4_fillWithPowers_21 : decode cX4_fillWithPowers 21 = .ok (.if_icmp .ge 30, 3) := by decide +kernel
theorem dX4_fillWithPowers_24 : decode cX4_fillWithPowers 24 = .ok (.aload_n 0, 1) := by decide +kernel
theorem dX4_fillWithPowers_25 : decode cX4_fillWithPowers 25 = .ok (.getfield 11, 3) := by decide +kernel
theorem dX4_fillWithPowers_28 : decode cX4_fillWithPowers 28 = .ok (.iload 4, 2) := by decide +kernel
theorem dX4_fillWithPowers_30 : decode cX4_fillWithPowers 30 = .ok (.aaload, 1) := by decide +kernel
theorem dX4_fillWithPowers_31 : decode cX4_fillWithPowers 31 = .ok (.iload_n 2, 1) := by decide +kernel
theorem dX4_fillWithPowers_32 : decode cX4_fillWithPowers 32 = .ok (.iload_n 3, 1) := by decide +kernel
theorem dX4_fillWithPowers_33 : decode cX4_fillWithPowers 33 = .ok (.iastore, 1) := by decide +kernel
theorem dX4_fillWithPowers_34 : decode cX4_fillWithPowers 34 = .ok (.iload_n 3, 1) := by decide +kernel
theorem dX4_fillWithPowers_35 : decode cX4_fillWithPowers 35 = .ok (.iload_n 2, 1) := by decide +kernel
theorem dX4_fillWithPowers_36 : decode cX4_fillWithPowers 36 = .ok (.iconst 1, 1) := by decide +kernel
theorem dX4_fillWithPowers_37 : decode cX4_fillWithPowers 37 = .ok (.iadd, 1) := by decide +kernel
theorem dX4_fillWithPowers_38 : decode cX4_fillWithPowers 38 = .ok (.imul, 1) := by decide +kernel
theorem dX4_fillWithPowers_39 : decode cX4_fillWithPowers 39 = .ok (.aload_n 0, 1) := by decide +kernel
theorem dX4_fillWithPowers_40 : decode cX4_fillWithPowers 40 = .ok (.getfield 24, 3) := by decide +kernel
theorem dX4_fillWithPowers_43 : decode cX4_fillWithPowers 43 = .ok (.irem, 1) := by decide +kernel
theorem dX4_fillWithPowers_44 : decode cX4_fillWithPowers 44 = .ok (.istore_n 3, 1) := by decide +kernel
theorem dX4_fillWithPowers_45 : decode cX4_fillWithPowers 45 = .ok (.iinc 4 1, 3) := by decide +kernel
theorem dX4_fillWithPowers_48 : decode cX4_fillWithPowers 48 = .ok (.goto (-33), 3) := by decide +kernel
theorem dX4_fillWithPowers_51 : decode cX4_fillWithPowers 51 = .ok (.iinc 2 1, 3) := by decide +kernel
theorem dX4_fillWithPowers_54 : decode cX4_fillWithPowers 54 = .ok (.goto (-52), 3) := by decide +kernel
theorem dX4_fillWithPowers_57 : decode cX4_fillWithPowers 57 = .ok (.return_, 1) := by decide +kernel
theorem dX4_sumsOf_0 : decode cX4_sumsOf 0 = .ok (.iconst 0, 1) := by decide +kernel
theorem dX4_sumsOf_1 : decode cX4_sumsOf 1 = .ok (.istore_n 3, 1) := by decide +kernel
theorem dX4_sumsOf_2 : decode cX4_sumsOf 2 = .ok (.iload_n 3, 1) := by decide +kernel
theorem dX4_sumsOf_3 : decode cX4_sumsOf 3 = .ok (.aload_n 0, 1) := by decide +kernel
theorem dX4_sumsOf_4 : decode cX4_sumsOf 4 = .ok (.getfield 28, 3) := by decide +kernel
theorem dX4_sumsOf_7 : decode cX4_sumsOf 7 = .ok (.if_icmp .ge 59, 3) := by decide +kernel
theorem dX4_sumsOf_10 : decode cX4_sumsOf 10 = .ok (.iconst 0, 1) := by decide +kernel
theorem dX4_sumsOf_11 : decode cX4_sumsOf 11 = .ok (.istore 4, 2) := by decide +kernel
theorem dX4_sumsOf_13 : decode cX4_sumsOf 13 = .ok (.iconst 0, 1) := by decide +kernel
theorem dX4_sumsOf_14 : decode cX4_sumsOf 14 = .ok (.istore 5, 2) := by decide +kernel
theorem dX4_sumsOf_16 : decode cX4_sumsOf 16 = .ok (.iload 5, 2) := by decide +kernel
theorem dX4_sumsOf_18 : decode cX4_sumsOf 18 = .ok (.aload_n 0, 1) := by decide +kernel
theorem dX4_sumsOf_19 : decode cX4_sumsOf 19 = .ok (.getfield 31, 3) := by decide +kernel
theorem dX4_sumsOf_22 : decode cX4_sumsOf 22 = .ok (.if_icmp .ge 28, 3) := by decide +kernel
theorem dX4_sumsOf_25 : decode cX4_sumsOf 25 = .ok (.iload 4, 2) := by decide +kernel
theorem dX4_sumsOf_27 : decode cX4_sumsOf 27 = .ok (.aload_n 0, 1) := by decide +kernel
theorem dX4_sumsOf_28 : decode cX4_sumsOf 28 = .ok (.getfield 11, 3) := by decide +kernel
theorem dX4_sumsOf_31 : decode cX4_sumsOf 31 = .ok (.iload_n 3, 1) := by decide +kernel
theorem dX4_sumsOf_32 : decode cX4_sumsOf 32 = .ok (.aaload, 1) := by decide +kernel
theorem dX4_sumsOf_33 : decode cX4_sumsOf 33 = .ok (.iload 5, 2) := by decide +kernel
theorem dX4_sumsOf_35 : decode cX4_sumsOf 35 = .ok (.iaload, 1) := by decide +kernel
theorem dX4_sumsOf_36 : decode cX4_sumsOf 36 = .ok (.aload_n 1, 1) := by decide +kernel
theorem dX4_sumsOf_37 : decode cX4_sumsOf 37 = .ok (.iload 5, 2) := by decide +kernel
theorem dX4_sumsOf_39 : decode cX4_sumsOf 39 = .ok (.iaload, 1) := by decide +kernel
theorem dX4_sumsOf_40 : decode cX4_sumsOf 40 = .ok (.imul, 1) := by decide +kernel
theorem dX4_sumsOf_41 : decode cX4_sumsOf 41 = .ok (.iadd, 1) := by decide +kernel
theorem dX4_sumsOf_42 : decode cX4_sumsOf 42 = .ok (.istore 4, 2) := by decide +kernel
theorem dX4_sumsOf_44 : decode cX4_sumsOf 44 = .ok (.iinc 5 1, 3) := by decide +kernel
theorem dX4_sumsOf_47 : decode cX4_sumsOf 47 = .ok (.goto (-31), 3) := by decide +kernel
theorem dX4_sumsOf_50 : decode cX4_sumsOf 50 = .ok (.aload_n 2, 1) := by decide +kernel
theorem dX4_sumsOf_51 : decode cX4_sumsOf 51 = .ok (.iload_n 3, 1) := by decide +kernel
theorem dX4_sumsOf_52 : decode cX4_sumsOf 52 = .ok (.iload 4, 2) := by decide +kernel
theorem dX4_sumsOf_54 : decode cX4_sumsOf 54 = .ok (.aload_n 0, 1) := by decide +kernel
theorem dX4_sumsOf_55 : decode cX4_sumsOf 55 = .ok (.getfield 24, 3) := by decide +kernel
theorem dX4_sumsOf_58 : decode cX4_sumsOf 58 = .ok (.irem, 1) := by decide +kernel
theorem dX4_sumsOf_59 : decode cX4_sumsOf 59 = .ok (.iastore, 1) := by decide +kernel
theorem dX4_sumsOf_60 : decode cX4_sumsOf 60 = .ok (.iinc 3 1, 3) := by decide +kernel
theorem dX4_sumsOf_63 : decode cX4_sumsOf 63 = .ok (.goto (-61), 3) := by decide +kernel
theorem dX4_sumsOf_66 : decode cX4_sumsOf 66 = .ok (.return_, 1) := by decide +kernel
set_option maxRecDepth 100000 in
theorem ggX4_mostLike_X4_likeness : GoodIn wsX4_mostLike wsX4_likeness := goodIn_r _ [10, 11, 12, 2, 3, 4, 5, 13, 14, 15, 9, 16, 17, 18, 19, 20, 21, 22, 23, 24, 25, 26, 27] rfl (by decide +kernel)
set_option maxRecDepth 100000 in
theorem gX4_mostLike_X4_likeness : GoodIn wsX4_mostLike (wsV RX4 44 RX4 yX4_likeness wsX4_likeness) := goodIn_app (goodIn_of _ (by decide +kernel)) ggX4_mostLike_X4_likeness
theorem dX4_mostLike_0 : decode cX4_mostLike 0 = .ok (.iconst 0, 1) := by decide +kernel
theorem dX4_mostLike_1 : decode cX4_mostLike 1 = .ok (.istore_n 1, 1) := by decide +kernel
theorem dX4_mostLike_2 : decode cX4_mostLike 2 = .ok (.iconst 0, 1) := by decide +kernel
theorem dX4_mostLike_3 : decode cX4_mostLike 3 = .ok (.istore_n 2, 1) := by decide +kernel
theorem dX4_mostLike_4 : decode cX4_mostLike 4 = .ok (.iload_n 2, 1) := by decide +kernel
theorem dX4_mostLike_5 : decode cX4_mostLike 5 = .ok (.aload_n 0, 1) := by decide +kernel
theorem dX4_mostLike_6 : decode cX4_mostLike 6 = .ok (.getfield 31, 3) := by decide +kernel
theorem dX4_mostLike_9 : decode cX4_mostLike 9 = .ok (.if_icmp .ge 33, 3) := by decide +kernel
theorem dX4_mostLike_12 : decode cX4_mostLike 12 = .ok (.iconst 0, 1) := by decide +kernel
theorem dX4_mostLike_13 : decode cX4_mostLike 13 = .ok (.istore_n 3, 1) := by decide +kernel
theorem dX4_mostLike_14 : decode cX4_mostLike 14 = .ok (.iload_n 3, 1) := by decide +kernel
theorem dX4_mostLike_15 : decode cX4_mostLike 15 = .ok (.iload_n 2, 1) := by decide +kernel
theorem dX4_mostLike_16 : decode cX4_mostLike 16 = .ok (.if_icmp .ge 20, 3) := by decide +kernel
theorem dX4_mostLike_19 : decode cX4_mostLike 19 = .ok (.iload_n 1, 1) := by decide +kernel
theorem dX4_mostLike_20 : decode cX4_mostLike 20 = .ok (.aload_n 0, 1) := by decide +kernel
theorem dX4_mostLike_21 : decode cX4_mostLike 21 = .ok (.iload_n 2, 1) := by decide +kernel
theorem dX4_mostLike_22 : decode cX4_mostLike 22 = .ok (.iload_n 3, 1) := by decide +kernel
theorem dX4_mostLike_23 : decode cX4_mostLike 23 = .ok (.invokevirtual 44, 3) := by decide +kernel
theorem dX4_mostLike_26 : decode cX4_mostLike 26 = .ok (.invokestatic 47, 3) := by decide +kernel
theorem dX4_mostLike_29 : decode cX4_mostLike 29 = .ok (.istore_n 1, 1) := by decide +kernel
theorem dX4_mostLike_30 : decode cX4_mostLike 30 = .ok (.iinc 3 1, 3) := by decide +kernel
theorem dX4_mostLike_33 : decode cX4_mostLike 33 = .ok (.goto (-19), 3) := by decide +kernel
theorem dX4_mostLike_36 : decode cX4_mostLike 36 = .ok (.iinc 2 1, 3) := by decide +kernel
theorem dX4_mostLike_39 : decode cX4_mostLike 39 = .ok (.goto (-35), 3) := by decide +kernel
theorem dX4_mostLike_42 : decode cX4_mostLike 42 = .ok (.iload_n 1, 1) := by decide +kernel
theorem dX4_mostLike_43 : decode cX4_mostLike 43 = .ok (.ireturn, 1) := by decide +kernel
set_option maxRecDepth 100000 in
theorem ggX4_likeness_X4_placesWithFactorOf : GoodIn wsX4_likeness wsX4_placesWithFactorOf := goodIn_r _ [11, 2, 1, 12, 13, 14, 15, 10, 16, 17, 18, 19, 20, 21, 22] rfl (by decide +kernel)
set_option maxRecDepth 100000 in
theorem gX4_likeness_X4_placesWithFactorOf : GoodIn wsX4_likeness (wsV RX4 50 RX4 yX4_placesWithFactorOf wsX4_placesWithFactorOf) := goodIn_app (goodIn_of _ (by decide +kernel)) ggX4_likeness_X4_placesWithFactorOf
theorem dX4_likeness_0 : decode cX4_likeness 0 = .ok (.iconst 0, 1) := by decide +kernel
theorem dX4_likeness_1 : decode cX4_likeness 1 = .ok (.istore_n 3, 1) := by decide +kernel
theorem dX4_likeness_2 : decode cX4_likeness 2 = .ok (.iconst 0, 1) := by decide +kernel
theorem dX4_likeness_3 : decode cX4_likeness 3 = .ok (.istore 4, 2) := by decide +kernel
theorem dX4_likeness_5 : decode cX4_likeness 5 = .ok (.iconst 0, 1) := by decide +kernel
theorem dX4_likeness_6 : decode cX4_likeness 6 = .ok (.istore 5, 2) := by decide +kernel
theorem dX4_likeness_8 : decode cX4_likeness 8 = .ok (.iload 5, 2) := by decide +kernel
theorem dX4_likeness_10 : decode cX4_likeness 10 = .ok (.aload_n 0, 1) := by decide +kernel
theorem dX4_likeness_11 : decode cX4_likeness 11 = .ok (.getfield 28, 3) := by decide +kernel
theorem dX4_likeness_14 : decode cX4_likeness 14 = .ok (.if_icmp .ge 78, 3) := by decide +kernel
theorem dX4_likeness_17 : decode cX4_likeness 17 = .ok (.aload_n 0, 1) := by decide +kernel
theorem dX4_likeness_18 : decode cX4_likeness 18 = .ok (.getfield 11, 3) := by decide +kernel
theorem dX4_likeness_21 : decode cX4_likeness 21 = .ok (.iload 5, 2) := by decide +kernel
theorem dX4_likeness_23 : decode cX4_likeness 23 = .ok (.aaload, 1) := by decide +kernel
theorem dX4_likeness_24 : decode cX4_likeness 24 = .ok (.iload_n 1, 1) := by decide +kernel
theorem dX4_likeness_25 : decode cX4_likeness 25 = .ok (.iaload, 1) := by decide +kernel
theorem dX4_likeness_26 : decode cX4_likeness 26 = .ok (.ifCond .ne 21, 3) := by decide +kernel
theorem dX4_likeness_29 : decode cX4_likeness 29 = .ok (.aload_n 0, 1) := by decide +kernel
theorem dX4_likeness_30 : decode cX4_likeness 30 = .ok (.getfield 11, 3) := by decide +kernel
theorem dX4_likeness_33 : decode cX4_likeness 33 = .ok (.iload 5, 2) := by decide +kernel
theorem dX4_likeness_35 : decode cX4_likeness 35 = .ok (.aaload, 1) := by decide +kernel
theorem dX4_likeness_36 : decode cX4_likeness 36 = .ok (.iload_n 2, 1) := by decide +kernel
theorem dX4_likeness_37 : decode cX4_likeness 37 = .ok (.iaload, 1) := by decide +kernel
theorem dX4_likeness_38 : decode cX4_likeness 38 = .ok (.ifCond .ne 9, 3) := by decide +kernel
theorem dX4_likeness_41 : decode cX4_likeness 41 = .ok (.iinc 3 1, 3) := by decide +kernel
theorem dX4_likeness_44 : decode cX4_likeness 44 = .ok (.goto 42, 3) := by decide +kernel
theorem dX4_likeness_47 : decode cX4_likeness 47 = .ok (.aload_n 0, 1) := by decide +kernel
theorem dX4_likeness_48 : decode cX4_likeness 48 = .ok (.getfield 11, 3) := by decide +kernel
theorem dX4_likeness_51 : decode cX4_likeness 51 = .ok (.iload 5, 2) := by decide +kernel
theorem dX4_likeness_53 : decode cX4_likeness 53 = .ok (.aaload, 1) := by decide +kernel
theorem dX4_likeness_54 : decode cX4_likeness 54 = .ok (.iload_n 1, 1) := by decide +kernel
theorem dX4_likeness_55 : decode cX4_likeness 55 = .ok (.iaload, 1) := by decide +kernel
theorem dX4_likeness_56 : decode cX4_likeness 56 = .ok (.ifCond .eq 30, 3) := by decide +kernel
theorem dX4_likeness_59 : decode cX4_likeness 59 = .ok (.aload_n 0, 1) := by decide +kernel
theorem dX4_likeness_60 : decode cX4_likeness 60 = .ok (.getfield 11, 3) := by decide +kernel
theorem dX4_likeness_63 : decode cX4_likeness 63 = .ok (.iload 5, 2) := by decide +kernel
theorem dX4_likeness_65 : decode cX4_likeness 65 = .ok (.aaload, 1) := by decide +kernel
theorem dX4_likeness_66 : decode cX4_likeness 66 = .ok (.iload_n 2, 1) := by decide +kernel
theorem dX4_likeness_67 : decode cX4_likeness 67 = .ok (.iaload, 1) := by decide +kernel
theorem dX4_likeness_68 : decode cX4_likeness 68 = .ok (.ifCond .eq 18, 3) := by decide +kernel
theorem dX4_likeness_71 : decode cX4_likeness 71 = .ok (.iload 4, 2) := by decide +kernel
theorem dX4_likeness_73 : decode cX4_likeness 73 = .ok (.aload_n 0, 1) := by decide +kernel
theorem dX4_likeness_74 : decode cX4_likeness 74 = .ok (.iload 5, 2) := by decide +kernel
theorem dX4_likeness_76 : decode cX4_likeness 76 = .ok (.iload_n 1, 1) := by decide +kernel
theorem dX4_likeness_77 : decode cX4_likeness 77 = .ok (.iload_n 2, 1) := by decide +kernel
theorem dX4_likeness_78 : decode cX4_likeness 78 = .ok (.invokevirtual 50, 3) := by decide +kernel
theorem dX4_likeness_81 : decode cX4_likeness 81 = .ok (.invokestatic 47, 3) := by decide +kernel
theorem dX4_likeness_84 : decode cX4_likeness 84 = .ok (.istore 4, 2) := by decide +kernel
theorem dX4_likeness_86 : decode cX4_likeness 86 = .ok (.iinc 5 1, 3) := by decide +kernel
theorem dX4_likeness_89 : decode cX4_likeness 89 = .ok (.goto (-81), 3) := by decide +kernel
theorem dX4_likeness_92 : decode cX4_likeness 92 = .ok (.iload_n 3, 1) := by decide +kernel
theorem dX4_likeness_93 : decode cX4_likeness 93 = .ok (.iload 4, 2) := by decide +kernel
theorem dX4_likeness_95 : decode cX4_likeness 95 = .ok (.iadd, 1) := by decide +kernel
theorem dX4_likeness_96 : decode cX4_likeness 96 = .ok (.ireturn, 1) := by decide +kernel
set_option maxRecDepth 100000 in
theorem ggX4_placesWithFactorOf_X4_quotient : GoodIn wsX4_placesWithFactorOf wsX4_quotient := goodIn_r _ [8, 9, 3, 10, 11, 12, 13, 14] rfl (by decide +kernel)
set_option maxRecDepth 100000 in
theorem gX4_placesWithFactorOf_X4_quotient : GoodIn wsX4_placesWithFactorOf (wsV RX4 54 RX4 yX4_quotient wsX4_quotient) := goodIn_app (goodIn_of _ (by decide +kernel)) ggX4_placesWithFactorOf_X4_quotient
theorem dX4_placesWithFactorOf_0 : decode cX4_placesWithFactorOf 0 = .ok (.aload_n 0, 1) := by decide +kernel
theorem dX4_placesWithFactorOf_1 : decode cX4_placesWithFactorOf 1 = .ok (.aload_n 0, 1) := by decide +kernel
theorem dX4_placesWithFactorOf_2 : decode cX4_placesWithFactorOf 2 = .ok (.getfield 11, 3) := by decide +kernel
theorem dX4_placesWithFactorOf_5 : decode cX4_placesWithFactorOf 5 = .ok (.iload_n 1, 1) := by decide +kernel
theorem dX4_placesWithFactorOf_6 : decode cX4_placesWithFactorOf 6 = .ok (.aaload, 1) := by decide +kernel
theorem dX4_placesWithFactorOf_7 : decode cX4_placesWithFactorOf 7 = .ok (.iload_n 2, 1) := by decide +kernel
theorem dX4_placesWithFactorOf_8 : decode cX4_placesWithFactorOf 8 = .ok (.iaload, 1) := by decide +kernel
theorem dX4_placesWithFactorOf_9 : decode cX4_placesWithFactorOf 9 = .ok (.aload_n 0, 1) := by decide +kernel
theorem dX4_placesWithFactorOf_10 : decode cX4_placesWithFactorOf 10 = .ok (.getfield 11, 3) := by decide +kernel
theorem dX4_placesWithFactorOf_13 : decode cX4_placesWithFactorOf 13 = .ok (.iload_n 1, 1) := by decide +kernel
theorem dX4_placesWithFactorOf_14 : decode cX4_placesWithFactorOf 14 = .ok (.aaload, 1) := by decide +kernel
theorem dX4_placesWithFactorOf_15 : decode cX4_placesWithFactorOf 15 = .ok (.iload_n 3, 1) := by decide +kernel
theorem dX4_placesWithFactorOf_16 : decode cX4_placesWithFactorOf 16 = .ok (.iaload, 1) := by decide +kernel
theorem dX4_placesWithFactorOf_17 : decode cX4_placesWithFactorOf 17 = .ok (.invokevirtual 54, 3) := by decide +kernel
theorem dX4_placesWithFactorOf_20 : decode cX4_placesWithFactorOf 20 = .ok (.istore 4, 2) := by decide +kernel
theorem dX4_placesWithFactorOf_22 : decode cX4_placesWithFactorOf 22 = .ok (.iconst 0, 1) := by decide +kernel
theorem dX4_placesWithFactorOf_23 : decode cX4_placesWithFactorOf 23 = .ok (.istore 5, 2) := by decide +kernel
theorem dX4_placesWithFactorOf_25 : decode cX4_placesWithFactorOf 25 = .ok (.iconst 0, 1) := by decide +kernel
theorem dX4_placesWithFactorOf_26 : decode cX4_placesWithFactorOf 26 = .ok (.istore 6, 2) := by decide +kernel
theorem dX4_placesWithFactorOf_28 : decode cX4_placesWithFactorOf 28 = .ok (.iload 6, 2) := by decide +kernel
theorem dX4_placesWithFactorOf_30 : decode cX4_placesWithFactorOf 30 = .ok (.aload_n 0, 1) := by decide +kernel
theorem dX4_placesWithFactorOf_31 : decode cX4_placesWithFactorOf 31 = .ok (.getfield 28, 3) := by decide +kernel
theorem dX4_placesWithFactorOf_34 : decode cX4_placesWithFactorOf 34 = .ok (.if_icmp .ge 53, 3) := by decide +kernel
theorem dX4_placesWithFactorOf_37 : decode cX4_placesWithFactorOf 37 = .ok (.aload_n 0, 1) := by decide +kernel
theorem dX4_placesWithFactorOf_38 : decode cX4_placesWithFactorOf 38 = .ok (.getfield 11, 3) := by decide +kernel
theorem dX4_placesWithFactorOf_41 : decode cX4_placesWithFactorOf 41 = .ok (.iload 6, 2) := by decide +kernel
theorem dX4_placesWithFactorOf_43 : decode cX4_placesWithFactorOf 43 = .ok (.aaload, 1) := by decide +kernel
theorem dX4_placesWithFactorOf_44 : decode cX4_placesWithFactorOf 44 = .ok (.iload_n 3, 1) := by decide +kernel
theorem dX4_placesWithFactorOf_45 : decode cX4_placesWithFactorOf 45 = .ok (.iaload, 1) := by decide +kernel
theorem dX4_placesWithFactorOf_46 : decode cX4_placesWithFactorOf 46 = .ok (.ifCond .eq 35, 3) := by decide +kernel
theorem dX4_placesWithFactorOf_49 : decode cX4_placesWithFactorOf 49 = .ok (.iload 4, 2) := by decide +kernel
theorem dX4_placesWithFactorOf_51 : decode cX4_placesWithFactorOf 51 = .ok (.aload_n 0, 1) := by decide +kernel
theorem dX4_placesWithFactorOf_52 : decode cX4_placesWithFactorOf 52 = .ok (.getfield 11, 3) := by decide +kernel
theorem dX4_placesWithFactorOf_55 : decode cX4_placesWithFactorOf 55 = .ok (.iload 6, 2) := by decide +kernel
theorem dX4_placesWithFactorOf_57 : decode cX4_placesWithFactorOf 57 = .ok (.aaload, 1) := by decide +kernel
theorem dX4_placesWithFactorOf_58 : decode cX4_placesWithFactorOf 58 = .ok (.iload_n 3, 1) := by decide +kernel
theorem dX4_placesWithFactorOf_59 : decode cX4_placesWithFactorOf 59 = .ok (.iaload, 1) := by decide +kernel
theorem dX4_placesWithFactorOf_60 : decode cX4_placesWithFactorOf 60 = .ok (.imul, 1) := by decide +kernel
theorem dX4_placesWithFactorOf_61 : decode cX4_placesWithFactorOf 61 = .ok (.aload_n 0, 1) := by decide +kernel
theorem dX4_placesWithFactorOf_62 : decode cX4_placesWithFactorOf 62 = .ok (.getfield 24, 3) := by decide +kernel
theorem dX4_placesWithFactorOf_65 : decode cX4_placesWithFactorOf 65 = .ok (.irem, 1) := by decide +kernel
theorem dX4_placesWithFactorOf_66 : decode cX4_placesWithFactorOf 66 = .ok (.aload_n 0, 1) := by decide +kernel
theorem dX4_placesWithFactorOf_67 : decode cX4_placesWithFactorOf 67 = .ok (.getfield 11, 3) := by decide +kernel
theorem dX4_placesWithFactorOf_70 : decode cX4_placesWithFactorOf 70 = .ok (.iload 6, 2) := by decide +kernel
theorem dX4_placesWithFactorOf_72 : decode cX4_placesWithFactorOf 72 = .ok (.aaload, 1) := by decide +kernel
theorem dX4_placesWithFactorOf_73 : decode cX4_placesWithFactorOf 73 = .ok (.iload_n 2, 1) := by decide +kernel
theorem dX4_placesWithFactorOf_74 : decode cX4_placesWithFactorOf 74 = .ok (.iaload, 1) := by decide +kernel
theorem dX4_placesWithFactorOf_75 : decode cX4_placesWithFactorOf 75 = .ok (.if_icmp .ne 6, 3) := by decide +kernel
theorem dX4_placesWithFactorOf_78 : decode cX4_placesWithFactorOf 78 = .ok (.iinc 5 1, 3) := by decide +kernel
theorem dX4_placesWithFactorOf_81 : decode cX4_placesWithFactorOf 81 = .ok (.iinc 6 1, 3) := by decide +kernel
theorem dX4_placesWithFactorOf_84 : decode cX4_placesWithFactorOf 84 = .ok (.goto (-56), 3) := by decide +kernel
theorem dX4_placesWithFactorOf_87 : decode cX4_placesWithFactorOf 87 = .ok (.iload 5, 2) := by decide +kernel
theorem dX4_placesWithFactorOf_89 : decode cX4_placesWithFactorOf 89 = .ok (.ireturn, 1) := by decide +kernel
set_option maxRecDepth 100000 in
theorem ggX5_init_X4_init : GoodIn wsX5_init wsX4_init := goodIn_r _ [30, 31, 2, 3, 32, 25, 33, 34, 35, 36, 37, 6, 38, 39, 40, 41, 42, 43, 44, 85, 86, 87, 88, 89] rfl (by decide +kernel)
set_option maxRecDepth 100000 in
theorem gX5_init_X4_init : GoodIn wsX5_init (wsX4_init) := ggX5_init_X4_init
set_option maxRecDepth 100000 in
theorem ggX5_init_X2_init : GoodIn wsX5_init wsX2_init := goodIn_r _ [47, 48, 2, 3, 49, 25, 50, 51, 52, 53, 54, 97, 98, 99, 100, 101, 102, 103, 104, 105, 106, 107] rfl (by decide +kernel)
set_option maxRecDepth 100000 in
theorem gX5_init_X2_init : GoodIn wsX5_init (wsX2_init) := ggX5_init_X2_init
