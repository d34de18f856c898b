theorem dX0_init_0 : decode cX0_init 0 = .ok (.aload_n 0, 1) := by decide +kernel
theorem dX0_init_1 : decode cX0_init 1 = .ok (.invokespecial 3, 3) := by decide +kernel
theorem dX0_init_4 : decode cX0_init 4 = .ok (.aload_n 0, 1) := by decide +kernel
theorem dX0_init_5 : decode cX0_init 5 = .ok (.bipush 6, 2) := by decide +kernel
theorem dX0_init_7 : decode cX0_init 7 = .ok (.newarray .int, 2) := by decide +kernel
theorem dX0_init_9 : decode cX0_init 9 = .ok (.putfield 9, 3) := by decide +kernel
theorem dX0_init_12 : decode cX0_init 12 = .ok (.aload_n 0, 1) := by decide +kernel
theorem dX0_init_13 : decode cX0_init 13 = .ok (.aload_n 1, 1) := by decide +kernel
theorem dX0_init_14 : decode cX0_init 14 = .ok (.putfield 15, 3) := by decide +kernel
theorem dX0_init_17 : decode cX0_init 17 = .ok (.return_, 1) := by decide +kernel
theorem dX0_walk_0 : decode cX0_walk 0 = .ok (.aload_n 1, 1) := by decide +kernel
theorem dX0_walk_1 : decode cX0_walk 1 = .ok (.aload_n 0, 1) := by decide +kernel
theorem dX0_walk_2 : decode cX0_walk 2 = .ok (.getfield 9, 3) := by decide +kernel
theorem dX0_walk_5 : decode cX0_walk 5 = .ok (.invokestatic 19, 3) := by decide +kernel
theorem dX0_walk_8 : decode cX0_walk 8 = .ok (.aload_n 3, 1) := by decide +kernel
theorem dX0_walk_9 : decode cX0_walk 9 = .ok (.invokestatic 23, 3) := by decide +kernel
theorem dX0_walk_12 : decode cX0_walk 12 = .ok (.iconst 0, 1) := by decide +kernel
theorem dX0_walk_13 : decode cX0_walk 13 = .ok (.istore 4, 2) := by decide +kernel
theorem dX0_walk_15 : decode cX0_walk 15 = .ok (.aload_n 0, 1) := by decide +kernel
theorem dX0_walk_16 : decode cX0_walk 16 = .ok (.getfield 9, 3) := by decide +kernel
theorem dX0_walk_19 : decode cX0_walk 19 = .ok (.invokestatic 27, 3) := by decide +kernel
theorem dX0_walk_22 : decode cX0_walk 22 = .ok (.istore 5, 2) := by decide +kernel
theorem dX0_walk_24 : decode cX0_walk 24 = .ok (.iconst 0, 1) := by decide +kernel
theorem dX0_walk_25 : decode cX0_walk 25 = .ok (.istore 6, 2) := by decide +kernel
theorem dX0_walk_27 : decode cX0_walk 27 = .ok (.iload 6, 2) := by decide +kernel
theorem dX0_walk_29 : decode cX0_walk 29 = .ok (.iload_n 2, 1) := by decide +kernel
theorem dX0_walk_30 : decode cX0_walk 30 = .ok (.if_icmp .ge 63, 3) := by decide +kernel
theorem dX0_walk_33 : decode cX0_walk 33 = .ok (.iload 5, 2) := by decide +kernel
theorem dX0_walk_35 : decode cX0_walk 35 = .ok (.ifCond .le 58, 3) := by decide +kernel
theorem dX0_walk_38 : decode cX0_walk 38 = .ok (.aload_n 0, 1) := by decide +kernel
theorem dX0_walk_39 : decode cX0_walk 39 = .ok (.iload 4, 2) := by decide +kernel
theorem dX0_walk_41 : decode cX0_walk 41 = .ok (.iload 5, 2) := by decide +kernel
theorem dX0_walk_43 : decode cX0_walk 43 = .ok (.invokevirtual 31, 3) := by decide +kernel
theorem dX0_walk_46 : decode cX0_walk 46 = .ok (.aload_n 0, 1) := by decide +kernel
theorem dX0_walk_47 : decode cX0_walk 47 = .ok (.getfield 35, 3) := by decide +kernel
theorem dX0_walk_50 : decode cX0_walk 50 = .ok (.ifCond .ge 6, 3) := by decide +kernel
theorem dX0_walk_53 : decode cX0_walk 53 = .ok (.iload 5, 2) := by decide +kernel
theorem dX0_walk_55 : decode cX0_walk 55 = .ok (.ireturn, 1) := by decide +kernel
theorem dX0_walk_56 : decode cX0_walk 56 = .ok (.iload 4, 2) := by decide +kernel
theorem dX0_walk_58 : decode cX0_walk 58 = .ok (.iconst 1, 1) := by decide +kernel
theorem dX0_walk_59 : decode cX0_walk 59 = .ok (.aload_n 0, 1) := by decide +kernel
theorem dX0_walk_60 : decode cX0_walk 60 = .ok (.getfield 35, 3) := by decide +kernel
theorem dX0_walk_63 : decode cX0_walk 63 = .ok (.ishl, 1) := by decide +kernel
theorem dX0_walk_64 : decode cX0_walk 64 = .ok (.ior, 1) := by decide +kernel
theorem dX0_walk_65 : decode cX0_walk 65 = .ok (.istore 4, 2) := by decide +kernel
theorem dX0_walk_67 : decode cX0_walk 67 = .ok (.aload_n 3, 1) := by decide +kernel
theorem dX0_walk_68 : decode cX0_walk 68 = .ok (.aload_n 0, 1) := by decide +kernel
theorem dX0_walk_69 : decode cX0_walk 69 = .ok (.getfield 35, 3) := by decide +kernel
theorem dX0_walk_72 : decode cX0_walk 72 = .ok (.aload_n 0, 1) := by decide +kernel
theorem dX0_walk_73 : decode cX0_walk 73 = .ok (.getfield 39, 3) := by decide +kernel
theorem dX0_walk_76 : decode cX0_walk 76 = .ok (.iastore, 1) := by decide +kernel
theorem dX0_walk_77 : decode cX0_walk 77 = .ok (.aload_n 0, 1) := by decide +kernel
theorem dX0_walk_78 : decode cX0_walk 78 = .ok (.invokevirtual 42, 3) := by decide +kernel
theorem dX0_walk_81 : decode cX0_walk 81 = .ok (.aload_n 0, 1) := by decide +kernel
theorem dX0_walk_82 : decode cX0_walk 82 = .ok (.getfield 45, 3) := by decide +kernel
theorem dX0_walk_85 : decode cX0_walk 85 = .ok (.istore 5, 2) := by decide +kernel
theorem dX0_walk_87 : decode cX0_walk 87 = .ok (.iinc 6 1, 3) := by decide +kernel
theorem dX0_walk_90 : decode cX0_walk 90 = .ok (.goto (-63), 3) := by decide +kernel
theorem dX0_walk_93 : decode cX0_walk 93 = .ok (.iload 5, 2) := by decide +kernel
theorem dX0_walk_95 : decode cX0_walk 95 = .ok (.ireturn, 1) := by decide +kernel
theorem dX0_choose_0 : decode cX0_choose 0 = .ok (.aload_n 0, 1) := by decide +kernel
theorem dX0_choose_1 : decode cX0_choose 1 = .ok (.iconst (-1), 1) := by decide +kernel
theorem dX0_choose_2 : decode cX0_choose 2 = .ok (.putfield 35, 3) := by decide +kernel
theorem dX0_choose_5 : decode cX0_choose 5 = .ok (.aload_n 0, 1) := by decide +kernel
theorem dX0_choose_6 : decode cX0_choose 6 = .ok (.iconst 0, 1) := by decide +kernel
theorem dX0_choose_7 : decode cX0_choose 7 = .ok (.putfield 39, 3) := by decide +kernel
theorem dX0_choose_10 : decode cX0_choose 10 = .ok (.aload_n 0, 1) := by decide +kernel
theorem dX0_choose_11 : decode cX0_choose 11 = .ok (.iload_n 2, 1) := by decide +kernel
theorem dX0_choose_12 : decode cX0_choose 12 = .ok (.putfield 45, 3) := by decide +kernel
theorem dX0_choose_15 : decode cX0_choose 15 = .ok (.iconst 0, 1) := by decide +kernel
theorem dX0_choose_16 : decode cX0_choose 16 = .ok (.istore_n 3, 1) := by decide +kernel
theorem dX0_choose_17 : decode cX0_choose 17 = .ok (.iload_n 3, 1) := by decide +kernel
theorem dX0_choose_18 : decode cX0_choose 18 = .ok (.aload_n 0, 1) := by decide +kernel
theorem dX0_choose_19 : decode cX0_choose 19 = .ok (.getfield 15, 3) := by decide +kernel
theorem dX0_choose_22 : decode cX0_choose 22 = .ok (.getfield 48, 3) := by decide +kernel
theorem dX0_choose_25 : decode cX0_choose 25 = .ok (.if_icmp .ge 94, 3) := by decide +kernel
theorem dX0_choose_28 : decode cX0_choose 28 = .ok (.iconst 0, 1) := by decide +kernel
theorem dX0_choose_29 : decode cX0_choose 29 = .ok (.istore 4, 2) := by decide +kernel
theorem dX0_choose_31 : decode cX0_choose 31 = .ok (.iload 4, 2) := by decide +kernel
theorem dX0_choose_33 : decode cX0_choose 33 = .ok (.aload_n 0, 1) := by decide +kernel
theorem dX0_choose_34 : decode cX0_choose 34 = .ok (.getfield 15, 3) := by decide +kernel
theorem dX0_choose_37 : decode cX0_choose 37 = .ok (.getfield 53, 3) := by decide +kernel
theorem dX0_choose_40 : decode cX0_choose 40 = .ok (.if_icmp .ge 73, 3) := by decide +kernel
theorem dX0_choose_43 : decode cX0_choose 43 = .ok (.iload_n 1, 1) := by decide +kernel
theorem dX0_choose_44 : decode cX0_choose 44 = .ok (.iload_n 3, 1) := by decide +kernel
theorem dX0_choose_45 : decode cX0_choose 45 = .ok (.ishr, 1) := by decide +kernel
theorem dX0_choose_46 : decode cX0_choose 46 = .ok (.iconst 1, 1) := by decide +kernel
theorem dX0_choose_47 : decode cX0_choose 47 = .ok (.iand, 1) := by decide +kernel
theorem dX0_choose_48 : decode cX0_choose 48 = .ok (.ifCond .ne 65, 3) := by decide +kernel
theorem dX0_choose_51 : decode cX0_choose 51 = .ok (.aload_n 0, 1) := by decide +kernel
theorem dX0_choose_52 : decode cX0_choose 52 = .ok (.getfield 9, 3) := by decide +kernel
theorem dX0_choose_55 : decode cX0_choose 55 = .ok (.iload 4, 2) := by decide +kernel
theorem dX0_choose_57 : decode cX0_choose 57 = .ok (.iaload, 1) := by decide +kernel
theorem dX0_choose_58 : decode cX0_choose 58 = .ok (.ifCond .eq 49, 3) := by decide +kernel
theorem dX0_choose_61 : decode cX0_choose 61 = .ok (.aload_n 0, 1) := by decide +kernel
theorem dX0_choose_62 : decode cX0_choose 62 = .ok (.getfield 15, 3) := by decide +kernel
theorem dX0_choose_65 : decode cX0_choose 65 = .ok (.getfield 56, 3) := by decide +kernel
theorem dX0_choose_68 : decode cX0_choose 68 = .ok (.iload 4, 2) := by decide +kernel
theorem dX0_choose_70 : decode cX0_choose 70 = .ok (.aaload, 1) := by decide +kernel
theorem dX0_choose_71 : decode cX0_choose 71 = .ok (.iload_n 3, 1) := by decide +kernel
theorem dX0_choose_72 : decode cX0_choose 72 = .ok (.iaload, 1) := by decide +kernel
theorem dX0_choose_73 : decode cX0_choose 73 = .ok (.ifCond .eq 34, 3) := by decide +kernel
theorem dX0_choose_76 : decode cX0_choose 76 = .ok (.aload_n 0, 1) := by decide +kernel
theorem dX0_choose_77 : decode cX0_choose 77 = .ok (.iload_n 3, 1) := by decide +kernel
theorem dX0_choose_78 : decode cX0_choose 78 = .ok (.aload_n 0, 1) := by decide +kernel
theorem dX0_choose_79 : decode cX0_choose 79 = .ok (.getfield 15, 3) := by decide +kernel
theorem dX0_choose_82 : decode cX0_choose 82 = .ok (.aload_n 0, 1) := by decide +kernel
theorem dX0_choose_83 : decode cX0_choose 83 = .ok (.getfield 9, 3) := by decide +kernel
theorem dX0_choose_86 : decode cX0_choose 86 = .ok (.iload 4, 2) := by decide +kernel
theorem dX0_choose_88 : decode cX0_choose 88 = .ok (.iaload, 1) := by decide +kernel
theorem dX0_choose_89 : decode cX0_choose 89 = .ok (.aload_n 0, 1) := by decide +kernel
theorem dX0_choose_90 : decode cX0_choose 90 = .ok (.getfield 15, 3) := by decide +kernel
theorem dX0_choose_93 : decode cX0_choose 93 = .ok (.getfield 56, 3) := by decide +kernel
theorem dX0_choose_96 : decode cX0_choose 96 = .ok (.iload 4, 2) := by decide +kernel
theorem dX0_choose_98 : decode cX0_choose 98 = .ok (.aaload, 1) := by decide +kernel
theorem dX0_choose_99 : decode cX0_choose 99 = .ok (.iload_n 3, 1) := by decide +kernel
theorem dX0_choose_100 : decode cX0_choose 100 = .ok (.iaload, 1) := by decide +kernel
theorem dX0_choose_101 : decode cX0_choose 101 = .ok (.invokevirtual 60, 3) := by decide +kernel
theorem dX0_choose_104 : decode cX0_choose 104 = .ok (.invokevirtual 64, 3) := by decide +kernel
theorem dX0_choose_107 : decode cX0_choose 107 = .ok (.iinc 4 1, 3) := by decide +kernel
theorem dX0_choose_110 : decode cX0_choose 110 = .ok (.goto (-79), 3) := by decide +kernel
theorem dX0_choose_113 : decode cX0_choose 113 = .ok (.iinc 3 1, 3) := by decide +kernel
theorem dX0_choose_116 : decode cX0_choose 116 = .ok (.goto (-99), 3) := by decide +kernel
theorem dX0_choose_119 : decode cX0_choose 119 = .ok (.return_, 1) := by decide +kernel
theorem dX0_weigh_0 : decode cX0_weigh 0 = .ok (.iconst 0, 1) := by decide +kernel
theorem dX0_weigh_1 : decode cX0_weigh 1 = .ok (.istore_n 3, 1) := by decide +kernel
theorem dX0_weigh_2 : decode cX0_weigh 2 = .ok (.iconst 0, 1) := by decide +kernel
theorem dX0_weigh_3 : decode cX0_weigh 3 = .ok (.istore 4, 2) := by decide +kernel
theorem dX0_weigh_5 : decode cX0_weigh 5 = .ok (.iload 4, 2) := by decide +kernel
theorem dX0_weigh_7 : decode cX0_weigh 7 = .ok (.aload_n 0, 1) := by decide +kernel
theorem dX0_weigh_8 : decode cX0_weigh 8 = .ok (.getfield 15, 3) := by decide +kernel
theorem dX0_weigh_11 : decode cX0_weigh 11 = .ok (.getfield 53, 3) := by decide +kernel
theorem dX0_weigh_14 : decode cX0_weigh 14 = .ok (.if_icmp .ge 23, 3) := by decide +kernel
theorem dX0_weigh_17 : decode cX0_weigh 17 = .ok (.aload_n 0, 1) := by decide +kernel
theorem dX0_weigh_18 : decode cX0_weigh 18 = .ok (.iload 4, 2) := by decide +kernel
theorem dX0_weigh_20 : decode cX0_weigh 20 = .ok (.iload_n 1, 1) := by decide +kernel
theorem dX0_weigh_21 : decode cX0_weigh 21 = .ok (.iload_n 2, 1) := by decide +kernel
theorem dX0_weigh_22 : decode cX0_weigh 22 = .ok (.invokevirtual 67, 3) := by decide +kernel
theorem dX0_weigh_25 : decode cX0_weigh 25 = .ok (.ifCond .eq 6, 3) := by decide +kernel
theorem dX0_weigh_28 : decode cX0_weigh 28 = .ok (.iinc 3 1, 3) := by decide +kernel
theorem dX0_weigh_31 : decode cX0_weigh 31 = .ok (.iinc 4 1, 3) := by decide +kernel
theorem dX0_weigh_34 : decode cX0_weigh 34 = .ok (.goto (-29), 3) := by decide +kernel
theorem dX0_weigh_37 : decode cX0_weigh 37 = .ok (.iload_n 1, 1) := by decide +kernel
theorem dX0_weigh_38 : decode cX0_weigh 38 = .ok (.aload_n 0, 1) := by decide +kernel
theorem dX0_weigh_39 : decode cX0_weigh 39 = .ok (.getfield 35, 3) := by decide +kernel
theorem dX0_weigh_42 : decode cX0_weigh 42 = .ok (.if_icmp .ne 15, 3) := by decide +kernel
theorem dX0_weigh_45 : decode cX0_weigh 45 = .ok (.iload_n 2, 1) := by decide +kernel
theorem dX0_weigh_46 : decode cX0_weigh 46 = .ok (.aload_n 0, 1) := by decide +kernel
theorem dX0_weigh_47 : decode cX0_weigh 47 = .ok (.getfield 39, 3) := by decide +kernel
theorem dX0_weigh_50 : decode cX0_weigh 50 = .ok (.if_icmp .ge 7, 3) := by decide +kernel
theorem dX0_weigh_53 : decode cX0_weigh 53 = .ok (.iconst 1, 1) := by decide +kernel
theorem dX0_weigh_54 : decode cX0_weigh 54 = .ok (.goto 4, 3) := by decide +kernel
theorem dX0_weigh_57 : decode cX0_weigh 57 = .ok (.iconst 0, 1) := by decide +kernel
theorem dX0_weigh_58 : decode cX0_weigh 58 = .ok (.istore 4, 2) := by decide +kernel
theorem dX0_weigh_60 : decode cX0_weigh 60 = .ok (.iload_n 3, 1) := by decide +kernel
theorem dX0_weigh_61 : decode cX0_weigh 61 = .ok (.aload_n 0, 1) := by decide +kernel
theorem dX0_weigh_62 : decode cX0_weigh 62 = .ok (.getfield 45, 3) := by decide +kernel
theorem dX0_weigh_65 : decode cX0_weigh 65 = .ok (.if_icmp .lt 16, 3) := by decide +kernel
theorem dX0_weigh_68 : decode cX0_weigh 68 = .ok (.iload_n 3, 1) := by decide +kernel
theorem dX0_weigh_69 : decode cX0_weigh 69 = .ok (.aload_n 0, 1) := by decide +kernel
theorem dX0_weigh_70 : decode cX0_weigh 70 = .ok (.getfield 45, 3) := by decide +kernel
theorem dX0_weigh_73 : decode cX0_weigh 73 = .ok (.if_icmp .ne 23, 3) := by decide +kernel
theorem dX0_weigh_76 : decode cX0_weigh 76 = .ok (.iload 4, 2) := by decide +kernel
theorem dX0_weigh_78 : decode cX0_weigh 78 = .ok (.ifCond .eq 18, 3) := by decide +kernel
theorem dX0_weigh_81 : decode cX0_weigh 81 = .ok (.aload_n 0, 1) := by decide +kernel
theorem dX0_weigh_82 : decode cX0_weigh 82 = .ok (.iload_n 1, 1) := by decide +kernel
theorem dX0_weigh_83 : decode cX0_weigh 83 = .ok (.putfield 35, 3) := by decide +kernel
theorem dX0_weigh_86 : decode cX0_weigh 86 = .ok (.aload_n 0, 1) := by decide +kernel
theorem dX0_weigh_87 : decode cX0_weigh 87 = .ok (.iload_n 2, 1) := by decide +kernel
theorem dX0_weigh_88 : decode cX0_weigh 88 = .ok (.putfield 39, 3) := by decide +kernel
theorem dX0_weigh_91 : decode cX0_weigh 91 = .ok (.aload_n 0, 1) := by decide +kernel
theorem dX0_weigh_92 : decode cX0_weigh 92 = .ok (.iload_n 3, 1) := by decide +kernel
theorem dX0_weigh_93 : decode cX0_weigh 93 = .ok (.putfield 45, 3) := by decide +kernel
theorem dX0_weigh_96 : decode cX0_weigh 96 = .ok (.return_, 1) := by decide +kernel
theorem dX0_restWithout_0 : decode cX0_restWithout 0 = .ok (.aload_n 0, 1) := by decide +kernel
theorem dX0_restWithout_1 : decode cX0_restWithout 1 = .ok (.getfield 15, 3) := by decide +kernel
theorem dX0_restWithout_4 : decode cX0_restWithout 4 = .ok (.aload_n 0, 1) := by decide +kernel
theorem dX0_restWithout_5 : decode cX0_restWithout 5 = .ok (.getfield 9, 3) := by decide +kernel
theorem dX0_restWithout_8 : decode cX0_restWithout 8 = .ok (.iload_n 1, 1) := by decide +kernel
theorem dX0_restWithout_9 : decode cX0_restWithout 9 = .ok (.iaload, 1) := by decide +kernel
theorem dX0_restWithout_10 : decode cX0_restWithout 10 = .ok (.iload_n 3, 1) := by decide +kernel
theorem dX0_restWithout_11 : decode cX0_restWithout 11 = .ok (.aload_n 0, 1) := by decide +kernel
theorem dX0_restWithout_12 : decode cX0_restWithout 12 = .ok (.getfield 15, 3) := by decide +kernel
theorem dX0_restWithout_15 : decode cX0_restWithout 15 = .ok (.getfield 56, 3) := by decide +kernel
theorem dX0_restWithout_18 : decode cX0_restWithout 18 = .ok (.iload_n 1, 1) := by decide +kernel
theorem dX0_restWithout_19 : decode cX0_restWithout 19 = .ok (.aaload, 1) := by decide +kernel
theorem dX0_restWithout_20 : decode cX0_restWithout 20 = .ok (.iload_n 2, 1) := by decide +kernel
theorem dX0_restWithout_21 : decode cX0_restWithout 21 = .ok (.iaload, 1) := by decide +kernel
theorem dX0_restWithout_22 : decode cX0_restWithout 22 = .ok (.imul, 1) := by decide +kernel
theorem dX0_restWithout_23 : decode cX0_restWithout 23 = .ok (.isub, 1) := by decide +kernel
theorem dX0_restWithout_24 : decode cX0_restWithout 24 = .ok (.invokevirtual 71, 3) := by decide +kernel
theorem dX0_restWithout_27 : decode cX0_restWithout 27 = .ok (.ireturn, 1) := by decide +kernel
theorem dX0_takeOff_0 : decode cX0_takeOff 0 = .ok (.iconst 0, 1) := by decide +kernel
theorem dX0_takeOff_1 : decode cX0_takeOff 1 = .ok (.istore_n 1, 1) := by decide +kernel
theorem dX0_takeOff_2 : decode cX0_takeOff 2 = .ok (.iload_n 1, 1) := by decide +kernel
theorem dX0_takeOff_3 : decode cX0_takeOff 3 = .ok (.aload_n 0, 1) := by decide +kernel
theorem dX0_takeOff_4 : decode cX0_takeOff 4 = .ok (.getfield 15, 3) := by decide +kernel
theorem dX0_takeOff_7 : decode cX0_takeOff 7 = .ok (.getfield 53, 3) := by decide +kernel
theorem dX0_takeOff_10 : decode cX0_takeOff 10 = .ok (.if_icmp .ge 28, 3) := by decide +kernel
theorem dX0_takeOff_13 : decode cX0_takeOff 13 = .ok (.aload_n 0, 1) := by decide +kernel
theorem dX0_takeOff_14 : decode cX0_takeOff 14 = .ok (.getfield 9, 3) := by decide +kernel
theorem dX0_takeOff_17 : decode cX0_takeOff 17 = .ok (.iload_n 1, 1) := by decide +kernel
theorem dX0_takeOff_18 : decode cX0_takeOff 18 = .ok (.aload_n 0, 1) := by decide +kernel
theorem dX0_takeOff_19 : decode cX0_takeOff 19 = .ok (.iload_n 1, 1) := by decide +kernel
theorem dX0_takeOff_20 : decode cX0_takeOff 20 = .ok (.aload_n 0, 1) := by decide +kernel
theorem dX0_takeOff_21 : decode cX0_takeOff 21 = .ok (.getfield 35, 3) := by decide +kernel
theorem dX0_takeOff_24 : decode cX0_takeOff 24 = .ok (.aload_n 0, 1) := by decide +kernel
theorem dX0_takeOff_25 : decode cX0_takeOff 25 = .ok (.getfield 39, 3) := by decide +kernel
theorem dX0_takeOff_28 : decode cX0_takeOff 28 = .ok (.invokevirtual 67, 3) := by decide +kernel
theorem dX0_takeOff_31 : decode cX0_takeOff 31 = .ok (.iastore, 1) := by decide +kernel
theorem dX0_takeOff_32 : decode cX0_takeOff 32 = .ok (.iinc 1 1, 3) := by decide +kernel
theorem dX0_takeOff_35 : decode cX0_takeOff 35 = .ok (.goto (-33), 3) := by decide +kernel
theorem dX0_takeOff_38 : decode cX0_takeOff 38 = .ok (.return_, 1) := by decide +kernel
theorem dX1_init_0 : decode cX1_init 0 = .ok (.aload_n 0, 1) := by decide +kernel
theorem dX1_init_1 : decode cX1_init 1 = .ok (.invokespecial 3, 3) := by decide +kernel
theorem dX1_init_4 : decode cX1_init 4 = .ok (.aload_n 0, 1) := by decide +kernel
theorem dX1_init_5 : decode cX1_init 5 = .ok (.bipush 12, 2) := by decide +kernel
theorem dX1_init_7 : decode cX1_init 7 = .ok (.newarray .int, 2) := by decide +kernel
theorem dX1_init_9 : decode cX1_init 9 = .ok (.putfield 9, 3) := by decide +kernel
theorem dX1_init_12 : decode cX1_init 12 = .ok (.aload_n 0, 1) := by decide +kernel
theorem dX1_init_13 : decode cX1_init 13 = .ok (.aload_n 1, 1) := by decide +kernel
theorem dX1_init_14 : decode cX1_init 14 = .ok (.putfield 15, 3) := by decide +kernel
theorem dX1_init_17 : decode cX1_init 17 = .ok (.aload_n 0, 1) := by decide +kernel
theorem dX1_init_18 : decode cX1_init 18 = .ok (.aload_n 2, 1) := by decide +kernel
theorem dX1_init_19 : decode cX1_init 19 = .ok (.putfield 19, 3) := by decide +kernel
theorem dX1_init_22 : decode cX1_init 22 = .ok (.return_, 1) := by decide +kernel
theorem dX1_look_0 : decode cX1_look 0 = .ok (.iconst (-1), 1) := by decide +kernel
theorem dX1_look_1 : decode cX1_look 1 = .ok (.istore 4, 2) := by decide +kernel
theorem dX1_look_3 : decode cX1_look 3 = .ok (.iconst 0, 1) := by decide +kernel
theorem dX1_look_4 : decode cX1_look 4 = .ok (.istore 5, 2) := by decide +kernel
theorem dX1_look_6 : decode cX1_look 6 = .ok (.iload 5, 2) := by decide +kernel
theorem dX1_look_8 : decode cX1_look 8 = .ok (.iconst 1, 1) := by decide +kernel
theorem dX1_look_9 : decode cX1_look 9 = .ok (.aload_n 0, 1) := by decide +kernel
theorem dX1_look_10 : decode cX1_look 10 = .ok (.getfield 15, 3) := by decide +kernel
theorem dX1_look_13 : decode cX1_look 13 = .ok (.getfield 23, 3) := by decide +kernel
theorem dX1_look_16 : decode cX1_look 16 = .ok (.ishl, 1) := by decide +kernel
theorem dX1_look_17 : decode cX1_look 17 = .ok (.if_icmp .ge 114, 3) := by decide +kernel
theorem dX1_look_20 : decode cX1_look 20 = .ok (.iload 5, 2) := by decide +kernel
theorem dX1_look_22 : decode cX1_look 22 = .ok (.invokestatic 29, 3) := by decide +kernel
theorem dX1_look_25 : decode cX1_look 25 = .ok (.iload_n 3, 1) := by decide +kernel
theorem dX1_look_26 : decode cX1_look 26 = .ok (.if_icmp .ne 99, 3) := by decide +kernel
theorem dX1_look_29 : decode cX1_look 29 = .ok (.aload_n 0, 1) := by decide +kernel
theorem dX1_look_30 : decode cX1_look 30 = .ok (.getfield 19, 3) := by decide +kernel
theorem dX1_look_33 : decode cX1_look 33 = .ok (.aload_n 1, 1) := by decide +kernel
theorem dX1_look_34 : decode cX1_look 34 = .ok (.iload 5, 2) := by decide +kernel
theorem dX1_look_36 : decode cX1_look 36 = .ok (.iload_n 2, 1) := by decide +kernel
theorem dX1_look_37 : decode cX1_look 37 = .ok (.iconst 1, 1) := by decide +kernel
theorem dX1_look_38 : decode cX1_look 38 = .ok (.invokevirtual 35, 3) := by decide +kernel
theorem dX1_look_41 : decode cX1_look 41 = .ok (.ifCond .le 84, 3) := by decide +kernel
theorem dX1_look_44 : decode cX1_look 44 = .ok (.iload 4, 2) := by decide +kernel
theorem dX1_look_46 : decode cX1_look 46 = .ok (.ifCond .lt 15, 3) := by decide +kernel
theorem dX1_look_49 : decode cX1_look 49 = .ok (.aload_n 0, 1) := by decide +kernel
theorem dX1_look_50 : decode cX1_look 50 = .ok (.getfield 19, 3) := by decide +kernel
theorem dX1_look_53 : decode cX1_look 53 = .ok (.getfield 41, 3) := by decide +kernel
theorem dX1_look_56 : decode cX1_look 56 = .ok (.iload 4, 2) := by decide +kernel
theorem dX1_look_58 : decode cX1_look 58 = .ok (.if_icmp .ge 7, 3) := by decide +kernel
theorem dX1_look_61 : decode cX1_look 61 = .ok (.iconst 1, 1) := by decide +kernel
theorem dX1_look_62 : decode cX1_look 62 = .ok (.goto 4, 3) := by decide +kernel
theorem dX1_look_65 : decode cX1_look 65 = .ok (.iconst 0, 1) := by decide +kernel
theorem dX1_look_66 : decode cX1_look 66 = .ok (.istore 6, 2) := by decide +kernel
theorem dX1_look_68 : decode cX1_look 68 = .ok (.iload 6, 2) := by decide +kernel
theorem dX1_look_70 : decode cX1_look 70 = .ok (.ifCond .ne 32, 3) := by decide +kernel
theorem dX1_look_73 : decode cX1_look 73 = .ok (.aload_n 0, 1) := by decide +kernel
theorem dX1_look_74 : decode cX1_look 74 = .ok (.getfield 19, 3) := by decide +kernel
theorem dX1_look_77 : decode cX1_look 77 = .ok (.getfield 41, 3) := by decide +kernel
theorem dX1_look_80 : decode cX1_look 80 = .ok (.iload 4, 2) := by decide +kernel
theorem dX1_look_82 : decode cX1_look 82 = .ok (.if_icmp .ne 43, 3) := by decide +kernel
theorem dX1_look_85 : decode cX1_look 85 = .ok (.aload_n 0, 1) := by decide +kernel
theorem dX1_look_86 : decode cX1_look 86 = .ok (.getfield 19, 3) := by decide +kernel
theorem dX1_look_89 : decode cX1_look 89 = .ok (.getfield 44, 3) := by decide +kernel
theorem dX1_look_92 : decode cX1_look 92 = .ok (.aload_n 0, 1) := by decide +kernel
theorem dX1_look_93 : decode cX1_look 93 = .ok (.getfield 9, 3) := by decide +kernel
theorem dX1_look_96 : decode cX1_look 96 = .ok (.invokestatic 45, 3) := by decide +kernel
theorem dX1_look_99 : decode cX1_look 99 = .ok (.ifCond .eq 26, 3) := by decide +kernel
theorem dX1_look_102 : decode cX1_look 102 = .ok (.aload_n 0, 1) := by decide +kernel
theorem dX1_look_103 : decode cX1_look 103 = .ok (.getfield 19, 3) := by decide +kernel
theorem dX1_look_106 : decode cX1_look 106 = .ok (.getfield 41, 3) := by decide +kernel
theorem dX1_look_109 : decode cX1_look 109 = .ok (.istore 4, 2) := by decide +kernel
theorem dX1_look_111 : decode cX1_look 111 = .ok (.aload_n 0, 1) := by decide +kernel
theorem dX1_look_112 : decode cX1_look 112 = .ok (.getfield 19, 3) := by decide +kernel
theorem dX1_look_115 : decode cX1_look 115 = .ok (.getfield 44, 3) := by decide +kernel
theorem dX1_look_118 : decode cX1_look 118 = .ok (.aload_n 0, 1) := by decide +kernel
theorem dX1_look_119 : decode cX1_look 119 = .ok (.getfield 9, 3) := by decide +kernel
theorem dX1_look_122 : decode cX1_look 122 = .ok (.invokestatic 49, 3) := by decide +kernel
theorem dX1_look_125 : decode cX1_look 125 = .ok (.iinc 5 1, 3) := by decide +kernel
theorem dX1_look_128 : decode cX1_look 128 = .ok (.goto (-122), 3) := by decide +kernel
theorem dX1_look_131 : decode cX1_look 131 = .ok (.iload 4, 2) := by decide +kernel
theorem dX1_look_133 : decode cX1_look 133 = .ok (.ifCond .lt 7, 3) := by decide +kernel
theorem dX1_look_136 : decode cX1_look 136 = .ok (.iconst 1, 1) := by decide +kernel
theorem dX1_look_137 : decode cX1_look 137 = .ok (.goto 4, 3) := by decide +kernel
theorem dX1_look_140 : decode cX1_look 140 = .ok (.iconst 0, 1) := by decide +kernel
theorem dX1_look_141 : decode cX1_look 141 = .ok (.ireturn, 1) := by decide +kernel
theorem dX1_isLess_0 : decode cX1_isLess 0 = .ok (.iconst 0, 1) := by decide +kernel
theorem dX1_isLess_1 : decode cX1_isLess 1 = .ok (.istore_n 2, 1) := by decide +kernel
theorem dX1_isLess_2 : decode cX1_isLess 2 = .ok (.iload_n 2, 1) := by decide +kernel
theorem dX1_isLess_3 : decode cX1_isLess 3 = .ok (.bipush 12, 2) := by decide +kernel
theorem dX1_isLess_5 : decode cX1_isLess 5 = .ok (.if_icmp .ge 33, 3) := by decide +kernel
theorem dX1_isLess_8 : decode cX1_isLess 8 = .ok (.aload_n 0, 1) := by decide +kernel
theorem dX1_isLess_9 : decode cX1_isLess 9 = .ok (.iload_n 2, 1) := by decide +kernel
theorem dX1_isLess_10 : decode cX1_isLess 10 = .ok (.iaload, 1) := by decide +kernel
theorem dX1_isLess_11 : decode cX1_isLess 11 = .ok (.aload_n 1, 1) := by decide +kernel
theorem dX1_isLess_12 : decode cX1_isLess 12 = .ok (.iload_n 2, 1) := by decide +kernel
theorem dX1_isLess_13 : decode cX1_isLess 13 = .ok (.iaload, 1) := by decide +kernel
theorem dX1_isLess_14 : decode cX1_isLess 14 = .ok (.if_icmp .eq 18, 3) := by decide +kernel
theorem dX1_isLess_17 : decode cX1_isLess 17 = .ok (.aload_n 0, 1) := by decide +kernel
theorem dX1_isLess_18 : decode cX1_isLess 18 = .ok (.iload_n 2, 1) := by decide +kernel
theorem dX1_isLess_19 : decode cX1_isLess 19 = .ok (.iaload, 1) := by decide +kernel
theorem dX1_isLess_20 : decode cX1_isLess 20 = .ok (.aload_n 1, 1) := by decide +kernel
theorem dX1_isLess_21 : decode cX1_isLess 21 = .ok (.iload_n 2, 1) := by decide +kernel
theorem dX1_isLess_22 : decode cX1_isLess 22 = .ok (.iaload, 1) := by decide +kernel
theorem dX1_isLess_23 : decode cX1_isLess 23 = .ok (.if_icmp .ge 7, 3) := by decide +kernel
theorem dX1_isLess_26 : decode cX1_isLess 26 = .ok (.iconst 1, 1) := by decide +kernel
theorem dX1_isLess_27 : decode cX1_isLess 27 = .ok (.goto 4, 3) := by decide +kernel
theorem dX1_isLess_30 : decode cX1_isLess 30 = .ok (.iconst 0, 1) := by decide +kernel
theorem dX1_isLess_31 : decode cX1_isLess 31 = .ok (.ireturn, 1) := by decide +kernel
theorem dX1_isLess_32 : decode cX1_isLess 32 = .ok (.iinc 2 1, 3) := by decide +kernel
theorem dX1_isLess_35 : decode cX1_isLess 35 = .ok (.goto (-33), 3) := by decide +kernel
theorem dX1_isLess_38 : decode cX1_isLess 38 = .ok (.iconst 0, 1) := by decide +kernel
theorem dX1_isLess_39 : decode cX1_isLess 39 = .ok (.ireturn, 1) := by decide +kernel
theorem dX2_init_0 : decode cX2_init 0 = .ok (.aload_n 0, 1) := by decide +kernel
theorem dX2_init_1 : decode cX2_init 1 = .ok (.invokespecial 3, 3) := by decide +kernel
theorem dX2_init_4 : decode cX2_init 4 = .ok (.aload_n 0, 1) := by decide +kernel
theorem dX2_init_5 : decode cX2_init 5 = .ok (.bipush 7, 2) := by decide +kernel
theorem dX2_init_7 : decode cX2_init 7 = .ok (.bipush 78, 2) := by decide +kernel
theorem dX2_init_9 : decode cX2_init 9 = .ok (.multianewarray 9 2, 4) := by decide +kernel
theorem dX2_init_13 : decode cX2_init 13 = .ok (.putfield 11, 3) := by decide +kernel
theorem dX2_init_16 : decode cX2_init 16 = .ok (.aload_n 0, 1) := by decide +kernel
theorem dX2_init_17 : decode cX2_init 17 = .ok (.bipush 7, 2) := by decide +kernel
theorem dX2_init_19 : decode cX2_init 19 = .ok (.newarray .int, 2) := by decide +kernel
theorem dX2_init_21 : decode cX2_init 21 = .ok (.putfield 16, 3) := by decide +kernel
theorem dX2_init_24 : decode cX2_init 24 = .ok (.aload_n 0, 1) := by decide +kernel
theorem dX2_init_25 : decode cX2_init 25 = .ok (.bipush 7, 2) := by decide +kernel
theorem dX2_init_27 : decode cX2_init 27 = .ok (.newarray .int, 2) := by decide +kernel
theorem dX2_init_29 : decode cX2_init 29 = .ok (.putfield 20, 3) := by decide +kernel
theorem dX2_init_32 : decode cX2_init 32 = .ok (.aload_n 0, 1) := by decide +kernel
theorem dX2_init_33 : decode cX2_init 33 = .ok (.bipush 12, 2) := by decide +kernel
theorem dX2_init_35 : decode cX2_init 35 = .ok (.newarray .int, 2) := by decide +kernel
theorem dX2_init_37 : decode cX2_init 37 = .ok (.putfield 23, 3) := by decide +kernel
theorem dX2_init_40 : decode cX2_init 40 = .ok (.aload_n 0, 1) := by decide +kernel
theorem dX2_init_41 : decode cX2_init 41 = .ok (.aload_n 1, 1) := by decide +kernel
theorem dX2_init_42 : decode cX2_init 42 = .ok (.putfield 26, 3) := by decide +kernel
theorem dX2_init_45 : decode cX2_init 45 = .ok (.return_, 1) := by decide +kernel
theorem dX2_rank_0 : decode cX2_rank 0 = .ok (.aload_n 0, 1) := by decide +kernel
theorem dX2_rank_1 : decode cX2_rank 1 = .ok (.iconst 0, 1) := by decide +kernel
theorem dX2_rank_2 : decode cX2_rank 2 = .ok (.invokevirtual 30, 3) := by decide +kernel
theorem dX2_rank_5 : decode cX2_rank 5 = .ok (.iconst 0, 1) := by decide +kernel
theorem dX2_rank_6 : decode cX2_rank 6 = .ok (.istore_n 1, 1) := by decide +kernel
theorem dX2_rank_7 : decode cX2_rank 7 = .ok (.aload_n 0, 1) := by decide +kernel
theorem dX2_rank_8 : decode cX2_rank 8 = .ok (.getfield 26, 3) := by decide +kernel
theorem dX2_rank_11 : decode cX2_rank 11 = .ok (.getfield 34, 3) := by decide +kernel
theorem dX2_rank_14 : decode cX2_rank 14 = .ok (.iconst 1, 1) := by decide +kernel
theorem dX2_rank_15 : decode cX2_rank 15 = .ok (.isub, 1) := by decide +kernel
theorem dX2_rank_16 : decode cX2_rank 16 = .ok (.istore_n 2, 1) := by decide +kernel
theorem dX2_rank_17 : decode cX2_rank 17 = .ok (.iload_n 2, 1) := by decide +kernel
theorem dX2_rank_18 : decode cX2_rank 18 = .ok (.ifCond .lt 34, 3) := by decide +kernel
theorem dX2_rank_21 : decode cX2_rank 21 = .ok (.iload_n 1, 1) := by decide +kernel
theorem dX2_rank_22 : decode cX2_rank 22 = .ok (.bipush 6, 2) := by decide +kernel
theorem dX2_rank_24 : decode cX2_rank 24 = .ok (.if_icmp .ge 28, 3) := by decide +kernel
theorem dX2_rank_27 : decode cX2_rank 27 = .ok (.aload_n 0, 1) := by decide +kernel
theorem dX2_rank_28 : decode cX2_rank 28 = .ok (.iload_n 1, 1) := by decide +kernel
theorem dX2_rank_29 : decode cX2_rank 29 = .ok (.iload_n 2, 1) := by decide +kernel
theorem dX2_rank_30 : decode cX2_rank 30 = .ok (.invokevirtual 40, 3) := by decide +kernel
theorem dX2_rank_33 : decode cX2_rank 33 = .ok (.ifCond .ne 13, 3) := by decide +kernel
theorem dX2_rank_36 : decode cX2_rank 36 = .ok (.aload_n 0, 1) := by decide +kernel
theorem dX2_rank_37 : decode cX2_rank 37 = .ok (.iload_n 1, 1) := by decide +kernel
theorem dX2_rank_38 : decode cX2_rank 38 = .ok (.iload_n 2, 1) := by decide +kernel
theorem dX2_rank_39 : decode cX2_rank 39 = .ok (.iload_n 2, 1) := by decide +kernel
theorem dX2_rank_40 : decode cX2_rank 40 = .ok (.invokevirtual 44, 3) := by decide +kernel
theorem dX2_rank_43 : decode cX2_rank 43 = .ok (.iinc 1 1, 3) := by decide +kernel
theorem dX2_rank_46 : decode cX2_rank 46 = .ok (.iinc 2 (-1), 3) := by decide +kernel
theorem dX2_rank_49 : decode cX2_rank 49 = .ok (.goto (-32), 3) := by decide +kernel
theorem dX2_rank_52 : decode cX2_rank 52 = .ok (.iload_n 1, 1) := by decide +kernel
theorem dX2_rank_53 : decode cX2_rank 53 = .ok (.ireturn, 1) := by decide +kernel
theorem dX2_spark_0 : decode cX2_spark 0 = .ok (.aload_n 0, 1) := by decide +kernel
theorem dX2_spark_1 : decode cX2_spark 1 = .ok (.iconst 0, 1) := by decide +kernel
theorem dX2_spark_2 : decode cX2_spark 2 = .ok (.invokevirtual 30, 3) := by decide +kernel
theorem dX2_spark_5 : decode cX2_spark 5 = .ok (.aload_n 0, 1) := by decide +kernel
theorem dX2_spark_6 : decode cX2_spark 6 = .ok (.aload_n 0, 1) := by decide +kernel
theorem dX2_spark_7 : decode cX2_spark 7 = .ok (.getfield 26, 3) := by decide +kernel
theorem dX2_spark_10 : decode cX2_spark 10 = .ok (.getfield 34, 3) := by decide +kernel
theorem dX2_spark_13 : decode cX2_spark 13 = .ok (.aload_n 0, 1) := by decide +kernel
theorem dX2_spark_14 : decode cX2_spark 14 = .ok (.getfield 26, 3) := by decide +kernel
theorem dX2_spark_17 : decode cX2_spark 17 = .ok (.getfield 48, 3) := by decide +kernel
theorem dX2_spark_20 : decode cX2_spark 20 = .ok (.invokestatic 51, 3) := by decide +kernel
theorem dX2_spark_23 : decode cX2_spark 23 = .ok (.iconst 1, 1) := by decide +kernel
theorem dX2_spark_24 : decode cX2_spark 24 = .ok (.iadd, 1) := by decide +kernel
theorem dX2_spark_25 : decode cX2_spark 25 = .ok (.putfield 57, 3) := by decide +kernel
theorem dX2_spark_28 : decode cX2_spark 28 = .ok (.aload_n 0, 1) := by decide +kernel
theorem dX2_spark_29 : decode cX2_spark 29 = .ok (.iconst 0, 1) := by decide +kernel
theorem dX2_spark_30 : decode cX2_spark 30 = .ok (.aload_n 0, 1) := by decide +kernel
theorem dX2_spark_31 : decode cX2_spark 31 = .ok (.getfield 26, 3) := by decide +kernel
theorem dX2_spark_34 : decode cX2_spark 34 = .ok (.getfield 34, 3) := by decide +kernel
theorem dX2_spark_37 : decode cX2_spark 37 = .ok (.invokevirtual 60, 3) := by decide +kernel
theorem dX2_spark_40 : decode cX2_spark 40 = .ok (.aload_n 0, 1) := by decide +kernel
theorem dX2_spark_41 : decode cX2_spark 41 = .ok (.getfield 57, 3) := by decide +kernel
theorem dX2_spark_44 : decode cX2_spark 44 = .ok (.ireturn, 1) := by decide +kernel
theorem dX2_seekBound_0 : decode cX2_seekBound 0 = .ok (.iload_n 1, 1) := by decide +kernel
theorem dX2_seekBound_1 : decode cX2_seekBound 1 = .ok (.iconst 1, 1) := by decide +kernel
theorem dX2_seekBound_2 : decode cX2_seekBound 2 = .ok (.iadd, 1) := by decide +kernel
theorem dX2_seekBound_3 : decode cX2_seekBound 3 = .ok (.aload_n 0, 1) := by decide +kernel
theorem dX2_seekBound_4 : decode cX2_seekBound 4 = .ok (.getfield 57, 3) := by decide +kernel
theorem dX2_seekBound_7 : decode cX2_seekBound 7 = .ok (.if_icmp .ge 9, 3) := by decide +kernel
theorem dX2_seekBound_10 : decode cX2_seekBound 10 = .ok (.iload_n 1, 1) := by decide +kernel
theorem dX2_seekBound_11 : decode cX2_seekBound 11 = .ok (.bipush 6, 2) := by decide +kernel
theorem dX2_seekBound_13 : decode cX2_seekBound 13 = .ok (.if_icmp .lt 4, 3) := by decide +kernel
theorem dX2_seekBound_16 : decode cX2_seekBound 16 = .ok (.return_, 1) := by decide +kernel
theorem dX2_seekBound_17 : decode cX2_seekBound 17 = .ok (.iconst 0, 1) := by decide +kernel
theorem dX2_seekBound_18 : decode cX2_seekBound 18 = .ok (.istore_n 3, 1) := by decide +kernel
theorem dX2_seekBound_19 : decode cX2_seekBound 19 = .ok (.iload_n 3, 1) := by decide +kernel
theorem dX2_seekBound_20 : decode cX2_seekBound 20 = .ok (.iload_n 2, 1) := by decide +kernel
theorem dX2_seekBound_21 : decode cX2_seekBound 21 = .ok (.if_icmp .ge 26, 3) := by decide +kernel
theorem dX2_seekBound_24 : decode cX2_seekBound 24 = .ok (.aload_n 0, 1) := by decide +kernel
theorem dX2_seekBound_25 : decode cX2_seekBound 25 = .ok (.iload_n 1, 1) := by decide +kernel
theorem dX2_seekBound_26 : decode cX2_seekBound 26 = .ok (.iload_n 3, 1) := by decide +kernel
theorem dX2_seekBound_27 : decode cX2_seekBound 27 = .ok (.invokevirtual 40, 3) := by decide +kernel
theorem dX2_seekBound_30 : decode cX2_seekBound 30 = .ok (.ifCond .eq 11, 3) := by decide +kernel
theorem dX2_seekBound_33 : decode cX2_seekBound 33 = .ok (.aload_n 0, 1) := by decide +kernel
theorem dX2_seekBound_34 : decode cX2_seekBound 34 = .ok (.iload_n 1, 1) := by decide +kernel
theorem dX2_seekBound_35 : decode cX2_seekBound 35 = .ok (.iconst 1, 1) := by decide +kernel
theorem dX2_seekBound_36 : decode cX2_seekBound 36 = .ok (.iadd, 1) := by decide +kernel
theorem dX2_seekBound_37 : decode cX2_seekBound 37 = .ok (.putfield 57, 3) := by decide +kernel
theorem dX2_seekBound_40 : decode cX2_seekBound 40 = .ok (.return_, 1) := by decide +kernel
theorem dX2_seekBound_41 : decode cX2_seekBound 41 = .ok (.iinc 3 1, 3) := by decide +kernel
theorem dX2_seekBound_44 : decode cX2_seekBound 44 = .ok (.goto (-25), 3) := by decide +kernel
theorem dX2_seekBound_47 : decode cX2_seekBound 47 = .ok (.iconst 1, 1) := by decide +kernel
theorem dX2_seekBound_48 : decode cX2_seekBound 48 = .ok (.istore_n 3, 1) := by decide +kernel
theorem dX2_seekBound_49 : decode cX2_seekBound 49 = .ok (.iload_n 3, 1) := by decide +kernel
theorem dX2_seekBound_50 : decode cX2_seekBound 50 = .ok (.iload_n 2, 1) := by decide +kernel
theorem dX2_seekBound_51 : decode cX2_seekBound 51 = .ok (.if_icmp .ge 25, 3) := by decide +kernel
theorem dX2_seekBound_54 : decode cX2_seekBound 54 = .ok (.iload_n 1, 1) := by decide +kernel
theorem dX2_seekBound_55 : decode cX2_seekBound 55 = .ok (.iconst 2, 1) := by decide +kernel
theorem dX2_seekBound_56 : decode cX2_seekBound 56 = .ok (.iadd, 1) := by decide +kernel
theorem dX2_seekBound_57 : decode cX2_seekBound 57 = .ok (.aload_n 0, 1) := by decide +kernel
theorem dX2_seekBound_58 : decode cX2_seekBound 58 = .ok (.getfield 57, 3) := by decide +kernel
theorem dX2_seekBound_61 : decode cX2_seekBound 61 = .ok (.if_icmp .ge 15, 3) := by decide +kernel
theorem dX2_seekBound_64 : decode cX2_seekBound 64 = .ok (.aload_n 0, 1) := by decide +kernel
theorem dX2_seekBound_65 : decode cX2_seekBound 65 = .ok (.iload_n 1, 1) := by decide +kernel
theorem dX2_seekBound_66 : decode cX2_seekBound 66 = .ok (.iload_n 3, 1) := by decide +kernel
theorem dX2_seekBound_67 : decode cX2_seekBound 67 = .ok (.invokevirtual 64, 3) := by decide +kernel
theorem dX2_seekBound_70 : decode cX2_seekBound 70 = .ok (.iinc 3 1, 3) := by decide +kernel
theorem dX2_seekBound_73 : decode cX2_seekBound 73 = .ok (.goto (-24), 3) := by decide +kernel
theorem dX2_seekBound_76 : decode cX2_seekBound 76 = .ok (.return_, 1) := by decide +kernel
theorem dX2_seekBoundTo_0 : decode cX2_seekBoundTo 0 = .ok (.aload_n 0, 1) := by decide +kernel
theorem dX2_seekBoundTo_1 : decode cX2_seekBoundTo 1 = .ok (.iload_n 1, 1) := by decide +kernel
theorem dX2_seekBoundTo_2 : decode cX2_seekBoundTo 2 = .ok (.iload_n 2, 1) := by decide +kernel
theorem dX2_seekBoundTo_3 : decode cX2_seekBoundTo 3 = .ok (.iload_n 2, 1) := by decide +kernel
theorem dX2_seekBoundTo_4 : decode cX2_seekBoundTo 4 = .ok (.invokevirtual 44, 3) := by decide +kernel
theorem dX2_seekBoundTo_7 : decode cX2_seekBoundTo 7 = .ok (.aload_n 0, 1) := by decide +kernel
theorem dX2_seekBoundTo_8 : decode cX2_seekBoundTo 8 = .ok (.iload_n 1, 1) := by decide +kernel
theorem dX2_seekBoundTo_9 : decode cX2_seekBoundTo 9 = .ok (.iconst 1, 1) := by decide +kernel
theorem dX2_seekBoundTo_10 : decode cX2_seekBoundTo 10 = .ok (.iadd, 1) := by decide +kernel
theorem dX2_seekBoundTo_11 : decode cX2_seekBoundTo 11 = .ok (.iload_n 2, 1) := by decide +kernel
theorem dX2_seekBoundTo_12 : decode cX2_seekBoundTo 12 = .ok (.invokevirtual 60, 3) := by decide +kernel
theorem dX2_seekBoundTo_15 : decode cX2_seekBoundTo 15 = .ok (.return_, 1) := by decide +kernel
theorem dX2_waysToTell_0 : decode cX2_waysToTell 0 = .ok (.aload_n 0, 1) := by decide +kernel
theorem dX2_waysToTell_1 : decode cX2_waysToTell 1 = .ok (.iload_n 2, 1) := by decide +kernel
theorem dX2_waysToTell_2 : decode cX2_waysToTell 2 = .ok (.invokevirtual 30, 3) := by decide +kernel
theorem dX2_waysToTell_5 : decode cX2_waysToTell 5 = .ok (.aload_n 0, 1) := by decide +kernel
theorem dX2_waysToTell_6 : decode cX2_waysToTell 6 = .ok (.aload_n 1, 1) := by decide +kernel
theorem dX2_waysToTell_7 : decode cX2_waysToTell 7 = .ok (.iload_n 2, 1) := by decide +kernel
theorem dX2_waysToTell_8 : decode cX2_waysToTell 8 = .ok (.invokevirtual 67, 3) := by decide +kernel
theorem dX2_waysToTell_11 : decode cX2_waysToTell 11 = .ok (.aload_n 0, 1) := by decide +kernel
theorem dX2_waysToTell_12 : decode cX2_waysToTell 12 = .ok (.iload_n 3, 1) := by decide +kernel
theorem dX2_waysToTell_13 : decode cX2_waysToTell 13 = .ok (.putfield 71, 3) := by decide +kernel
theorem dX2_waysToTell_16 : decode cX2_waysToTell 16 = .ok (.aload_n 0, 1) := by decide +kernel
theorem dX2_waysToTell_17 : decode cX2_waysToTell 17 = .ok (.iload 4, 2) := by decide +kernel
theorem dX2_waysToTell_19 : decode cX2_waysToTell 19 = .ok (.putfield 74, 3) := by decide +kernel
theorem dX2_waysToTell_22 : decode cX2_waysToTell 22 = .ok (.aload_n 0, 1) := by decide +kernel
theorem dX2_waysToTell_23 : decode cX2_waysToTell 23 = .ok (.iconst 0, 1) := by decide +kernel
theorem dX2_waysToTell_24 : decode cX2_waysToTell 24 = .ok (.putfield 77, 3) := by decide +kernel
theorem dX2_waysToTell_27 : decode cX2_waysToTell 27 = .ok (.aload_n 0, 1) := by decide +kernel
theorem dX2_waysToTell_28 : decode cX2_waysToTell 28 = .ok (.iconst 0, 1) := by decide +kernel
theorem dX2_waysToTell_29 : decode cX2_waysToTell 29 = .ok (.aload_n 0, 1) := by decide +kernel
theorem dX2_waysToTell_30 : decode cX2_waysToTell 30 = .ok (.getfield 26, 3) := by decide +kernel
theorem dX2_waysToTell_33 : decode cX2_waysToTell 33 = .ok (.getfield 34, 3) := by decide +kernel
theorem dX2_waysToTell_36 : decode cX2_waysToTell 36 = .ok (.iconst 0, 1) := by decide +kernel
theorem dX2_waysToTell_37 : decode cX2_waysToTell 37 = .ok (.invokevirtual 80, 3) := by decide +kernel
theorem dX2_waysToTell_40 : decode cX2_waysToTell 40 = .ok (.aload_n 0, 1) := by decide +kernel
theorem dX2_waysToTell_41 : decode cX2_waysToTell 41 = .ok (.getfield 77, 3) := by decide +kernel
theorem dX2_waysToTell_44 : decode cX2_waysToTell 44 = .ok (.ireturn, 1) := by decide +kernel
theorem dX2_seekTelling_0 : decode cX2_seekTelling 0 = .ok (.iload_n 1, 1) := by decide +kernel
theorem dX2_seekTelling_1 : decode cX2_seekTelling 1 = .ok (.aload_n 0, 1) := by decide +kernel
theorem dX2_seekTelling_2 : decode cX2_seekTelling 2 = .ok (.getfield 71, 3) := by decide +kernel
theorem dX2_seekTelling_5 : decode cX2_seekTelling 5 = .ok (.if_icmp .lt 19, 3) := by decide +kernel
theorem dX2_seekTelling_8 : decode cX2_seekTelling 8 = .ok (.aload_n 0, 1) := by decide +kernel
theorem dX2_seekTelling_9 : decode cX2_seekTelling 9 = .ok (.iload_n 1, 1) := by decide +kernel
theorem dX2_seekTelling_10 : decode cX2_seekTelling 10 = .ok (.bipush 12, 2) := by decide +kernel
theorem dX2_seekTelling_12 : decode cX2_seekTelling 12 = .ok (.invokevirtual 40, 3) := by decide +kernel
theorem dX2_seekTelling_15 : decode cX2_seekTelling 15 = .ok (.ifCond .eq 8, 3) := by decide +kernel
theorem dX2_seekTelling_18 : decode cX2_seekTelling 18 = .ok (.aload_n 0, 1) := by decide +kernel
theorem dX2_seekTelling_19 : decode cX2_seekTelling 19 = .ok (.iload_n 3, 1) := by decide +kernel
theorem dX2_seekTelling_20 : decode cX2_seekTelling 20 = .ok (.invokevirtual 83, 3) := by decide +kernel
theorem dX2_seekTelling_23 : decode cX2_seekTelling 23 = .ok (.return_, 1) := by decide +kernel
theorem dX2_seekTelling_24 : decode cX2_seekTelling 24 = .ok (.iload_n 1, 1) := by decide +kernel
theorem dX2_seekTelling_25 : decode cX2_seekTelling 25 = .ok (.bipush 6, 2) := by decide +kernel
theorem dX2_seekTelling_27 : decode cX2_seekTelling 27 = .ok (.if_icmp .lt 4, 3) := by decide +kernel
theorem dX2_seekTelling_30 : decode cX2_seekTelling 30 = .ok (.return_, 1) := by decide +kernel
theorem dX2_seekTelling_31 : decode cX2_seekTelling 31 = .ok (.aload_n 0, 1) := by decide +kernel
theorem dX2_seekTelling_32 : decode cX2_seekTelling 32 = .ok (.getfield 71, 3) := by decide +kernel
theorem dX2_seekTelling_35 : decode cX2_seekTelling 35 = .ok (.iload_n 1, 1) := by decide +kernel
theorem dX2_seekTelling_36 : decode cX2_seekTelling 36 = .ok (.isub, 1) := by decide +kernel
theorem dX2_seekTelling_37 : decode cX2_seekTelling 37 = .ok (.iconst 1, 1) := by decide +kernel
theorem dX2_seekTelling_38 : decode cX2_seekTelling 38 = .ok (.isub, 1) := by decide +kernel
theorem dX2_seekTelling_39 : decode cX2_seekTelling 39 = .ok (.istore 4, 2) := by decide +kernel
theorem dX2_seekTelling_41 : decode cX2_seekTelling 41 = .ok (.iload 4, 2) := by decide +kernel
theorem dX2_seekTelling_43 : decode cX2_seekTelling 43 = .ok (.istore 5, 2) := by decide +kernel
theorem dX2_seekTelling_45 : decode cX2_seekTelling 45 = .ok (.iload 5, 2) := by decide +kernel
theorem dX2_seekTelling_47 : decode cX2_seekTelling 47 = .ok (.iload_n 2, 1) := by decide +kernel
theorem dX2_seekTelling_48 : decode cX2_seekTelling 48 = .ok (.if_icmp .ge 38, 3) := by decide +kernel
theorem dX2_seekTelling_51 : decode cX2_seekTelling 51 = .ok (.aload_n 0, 1) := by decide +kernel
theorem dX2_seekTelling_52 : decode cX2_seekTelling 52 = .ok (.getfield 77, 3) := by decide +kernel
theorem dX2_seekTelling_55 : decode cX2_seekTelling 55 = .ok (.aload_n 0, 1) := by decide +kernel
theorem dX2_seekTelling_56 : decode cX2_seekTelling 56 = .ok (.getfield 74, 3) := by decide +kernel
theorem dX2_seekTelling_59 : decode cX2_seekTelling 59 = .ok (.if_icmp .ge 27, 3) := by decide +kernel
theorem dX2_seekTelling_62 : decode cX2_seekTelling 62 = .ok (.aload_n 0, 1) := by decide +kernel
theorem dX2_seekTelling_63 : decode cX2_seekTelling 63 = .ok (.iload_n 1, 1) := by decide +kernel
theorem dX2_seekTelling_64 : decode cX2_seekTelling 64 = .ok (.iload 5, 2) := by decide +kernel
theorem dX2_seekTelling_66 : decode cX2_seekTelling 66 = .ok (.invokevirtual 40, 3) := by decide +kernel
theorem dX2_seekTelling_69 : decode cX2_seekTelling 69 = .ok (.ifCond .ne 11, 3) := by decide +kernel
theorem dX2_seekTelling_72 : decode cX2_seekTelling 72 = .ok (.aload_n 0, 1) := by decide +kernel
theorem dX2_seekTelling_73 : decode cX2_seekTelling 73 = .ok (.iload_n 1, 1) := by decide +kernel
theorem dX2_seekTelling_74 : decode cX2_seekTelling 74 = .ok (.iload 5, 2) := by decide +kernel
theorem dX2_seekTelling_76 : decode cX2_seekTelling 76 = .ok (.iload_n 3, 1) := by decide +kernel
theorem dX2_seekTelling_77 : decode cX2_seekTelling 77 = .ok (.invokevirtual 86, 3) := by decide +kernel
theorem dX2_seekTelling_80 : decode cX2_seekTelling 80 = .ok (.iinc 5 1, 3) := by decide +kernel
theorem dX2_seekTelling_83 : decode cX2_seekTelling 83 = .ok (.goto (-38), 3) := by decide +kernel
theorem dX2_seekTelling_86 : decode cX2_seekTelling 86 = .ok (.return_, 1) := by decide +kernel
theorem dX2_seekTellingWith_0 : decode cX2_seekTellingWith 0 = .ok (.iload_n 1, 1) := by decide +kernel
theorem dX2_seekTellingWith_1 : decode cX2_seekTellingWith 1 = .ok (.iconst 1, 1) := by decide +kernel
theorem dX2_seekTellingWith_2 : decode cX2_seekTellingWith 2 = .ok (.iadd, 1) := by decide +kernel
theorem dX2_seekTellingWith_3 : decode cX2_seekTellingWith 3 = .ok (.aload_n 0, 1) := by decide +kernel
theorem dX2_seekTellingWith_4 : decode cX2_seekTellingWith 4 = .ok (.getfield 71, 3) := by decide +kernel
theorem dX2_seekTellingWith_7 : decode cX2_seekTellingWith 7 = .ok (.if_icmp .lt 7, 3) := by decide +kernel
theorem dX2_seekTellingWith_10 : decode cX2_seekTellingWith 10 = .ok (.iconst 1, 1) := by decide +kernel
theorem dX2_seekTellingWith_11 : decode cX2_seekTellingWith 11 = .ok (.goto 4, 3) := by decide +kernel
theorem dX2_seekTellingWith_14 : decode cX2_seekTellingWith 14 = .ok (.iconst 0, 1) := by decide +kernel
theorem dX2_seekTellingWith_15 : decode cX2_seekTellingWith 15 = .ok (.istore 4, 2) := by decide +kernel
theorem dX2_seekTellingWith_17 : decode cX2_seekTellingWith 17 = .ok (.aload_n 0, 1) := by decide +kernel
theorem dX2_seekTellingWith_18 : decode cX2_seekTellingWith 18 = .ok (.iload_n 1, 1) := by decide +kernel
theorem dX2_seekTellingWith_19 : decode cX2_seekTellingWith 19 = .ok (.iload_n 2, 1) := by decide +kernel
theorem dX2_seekTellingWith_20 : decode cX2_seekTellingWith 20 = .ok (.iload 4, 2) := by decide +kernel
theorem dX2_seekTellingWith_22 : decode cX2_seekTellingWith 22 = .ok (.ifCond .eq 7, 3) := by decide +kernel
theorem dX2_seekTellingWith_25 : decode cX2_seekTellingWith 25 = .ok (.iconst 0, 1) := by decide +kernel
theorem dX2_seekTellingWith_26 : decode cX2_seekTellingWith 26 = .ok (.goto 4, 3) := by decide +kernel
theorem dX2_seekTellingWith_29 : decode cX2_seekTellingWith 29 = .ok (.iload_n 2, 1) := by decide +kernel
theorem dX2_seekTellingWith_30 : decode cX2_seekTellingWith 30 = .ok (.invokevirtual 44, 3) := by decide +kernel
theorem dX2_seekTellingWith_33 : decode cX2_seekTellingWith 33 = .ok (.aload_n 0, 1) := by decide +kernel
theorem dX2_seekTellingWith_34 : decode cX2_seekTellingWith 34 = .ok (.bipush 12, 2) := by decide +kernel
theorem dX2_seekTellingWith_36 : decode cX2_seekTellingWith 36 = .ok (.iload_n 1, 1) := by decide +kernel
theorem dX2_seekTellingWith_37 : decode cX2_seekTellingWith 37 = .ok (.iload_n 2, 1) := by decide +kernel
theorem dX2_seekTellingWith_38 : decode cX2_seekTellingWith 38 = .ok (.invokevirtual 89, 3) := by decide +kernel
theorem dX2_seekTellingWith_41 : decode cX2_seekTellingWith 41 = .ok (.aload_n 0, 1) := by decide +kernel
theorem dX2_seekTellingWith_42 : decode cX2_seekTellingWith 42 = .ok (.iload_n 1, 1) := by decide +kernel
theorem dX2_seekTellingWith_43 : decode cX2_seekTellingWith 43 = .ok (.iconst 1, 1) := by decide +kernel
theorem dX2_seekTellingWith_44 : decode cX2_seekTellingWith 44 = .ok (.iadd, 1) := by decide +kernel
theorem dX2_seekTellingWith_45 : decode cX2_seekTellingWith 45 = .ok (.iload_n 2, 1) := by decide +kernel
theorem dX2_seekTellingWith_46 : decode cX2_seekTellingWith 46 = .ok (.iload_n 3, 1) := by decide +kernel
theorem dX2_seekTellingWith_47 : decode cX2_seekTellingWith 47 = .ok (.iconst 1, 1) := by decide +kernel
theorem dX2_seekTellingWith_48 : decode cX2_seekTellingWith 48 = .ok (.iload_n 2, 1) := by decide +kernel
theorem dX2_seekTellingWith_49 : decode cX2_seekTellingWith 49 = .ok (.ishl, 1) := by decide +kernel
theorem dX2_seekTellingWith_50 : decode cX2_seekTellingWith 50 = .ok (.ior, 1) := by decide +kernel
theorem dX2_seekTellingWith_51 : decode cX2_seekTellingWith 51 = .ok (.invokevirtual 80, 3) := by decide +kernel
theorem dX2_seekTellingWith_54 : decode cX2_seekTellingWith 54 = .ok (.return_, 1) := by decide +kernel
theorem dX2_noteTelling_0 : decode cX2_noteTelling 0 = .ok (.aload_n 0, 1) := by decide +kernel
theorem dX2_noteTelling_1 : decode cX2_noteTelling 1 = .ok (.dup, 1) := by decide +kernel
theorem dX2_noteTelling_2 : decode cX2_noteTelling 2 = .ok (.getfield 77, 3) := by decide +kernel
theorem dX2_noteTelling_5 : decode cX2_noteTelling 5 = .ok (.iconst 1, 1) := by decide +kernel
theorem dX2_noteTelling_6 : decode cX2_noteTelling 6 = .ok (.iadd, 1) := by decide +kernel
theorem dX2_noteTelling_7 : decode cX2_noteTelling 7 = .ok (.putfield 77, 3) := by decide +kernel
theorem dX2_noteTelling_10 : decode cX2_noteTelling 10 = .ok (.aload_n 0, 1) := by decide +kernel
theorem dX2_noteTelling_11 : decode cX2_noteTelling 11 = .ok (.getfield 77, 3) := by decide +kernel
theorem dX2_noteTelling_14 : decode cX2_noteTelling 14 = .ok (.iconst 1, 1) := by decide +kernel
theorem dX2_noteTelling_15 : decode cX2_noteTelling 15 = .ok (.if_icmp .le 4, 3) := by decide +kernel
theorem dX2_noteTelling_18 : decode cX2_noteTelling 18 = .ok (.return_, 1) := by decide +kernel
theorem dX2_noteTelling_19 : decode cX2_noteTelling 19 = .ok (.aload_n 0, 1) := by decide +kernel
theorem dX2_noteTelling_20 : decode cX2_noteTelling 20 = .ok (.iload_n 1, 1) := by decide +kernel
theorem dX2_noteTelling_21 : decode cX2_noteTelling 21 = .ok (.putfield 92, 3) := by decide +kernel
theorem dX2_noteTelling_24 : decode cX2_noteTelling 24 = .ok (.aload_n 0, 1) := by decide +kernel
theorem dX2_noteTelling_25 : decode cX2_noteTelling 25 = .ok (.getfield 23, 3) := by decide +kernel
theorem dX2_noteTelling_28 : decode cX2_noteTelling 28 = .ok (.invokestatic 95, 3) := by decide +kernel
theorem dX2_noteTelling_31 : decode cX2_noteTelling 31 = .ok (.aload_n 0, 1) := by decide +kernel
theorem dX2_noteTelling_32 : decode cX2_noteTelling 32 = .ok (.getfield 71, 3) := by decide +kernel
theorem dX2_noteTelling_35 : decode cX2_noteTelling 35 = .ok (.iconst 1, 1) := by decide +kernel
theorem dX2_noteTelling_36 : decode cX2_noteTelling 36 = .ok (.isub, 1) := by decide +kernel
theorem dX2_noteTelling_37 : decode cX2_noteTelling 37 = .ok (.istore_n 2, 1) := by decide +kernel
theorem dX2_noteTelling_38 : decode cX2_noteTelling 38 = .ok (.iload_n 2, 1) := by decide +kernel
theorem dX2_noteTelling_39 : decode cX2_noteTelling 39 = .ok (.ifCond .lt 25, 3) := by decide +kernel
theorem dX2_noteTelling_42 : decode cX2_noteTelling 42 = .ok (.aload_n 0, 1) := by decide +kernel
theorem dX2_noteTelling_43 : decode cX2_noteTelling 43 = .ok (.getfield 23, 3) := by decide +kernel
theorem dX2_noteTelling_46 : decode cX2_noteTelling 46 = .ok (.aload_n 0, 1) := by decide +kernel
theorem dX2_noteTelling_47 : decode cX2_noteTelling 47 = .ok (.getfield 16, 3) := by decide +kernel
theorem dX2_noteTelling_50 : decode cX2_noteTelling 50 = .ok (.iload_n 2, 1) := by decide +kernel
theorem dX2_noteTelling_51 : decode cX2_noteTelling 51 = .ok (.iaload, 1) := by decide +kernel
theorem dX2_noteTelling_52 : decode cX2_noteTelling 52 = .ok (.aload_n 0, 1) := by decide +kernel
theorem dX2_noteTelling_53 : decode cX2_noteTelling 53 = .ok (.iload_n 2, 1) := by decide +kernel
theorem dX2_noteTelling_54 : decode cX2_noteTelling 54 = .ok (.invokevirtual 99, 3) := by decide +kernel
theorem dX2_noteTelling_57 : decode cX2_noteTelling 57 = .ok (.iastore, 1) := by decide +kernel
theorem dX2_noteTelling_58 : decode cX2_noteTelling 58 = .ok (.iinc 2 (-1), 3) := by decide +kernel
theorem dX2_noteTelling_61 : decode cX2_noteTelling 61 = .ok (.goto (-23), 3) := by decide +kernel
theorem dX2_noteTelling_64 : decode cX2_noteTelling 64 = .ok (.return_, 1) := by decide +kernel
theorem dX2_factorAt_0 : decode cX2_factorAt 0 = .ok (.aload_n 0, 1) := by decide +kernel
theorem dX2_factorAt_1 : decode cX2_factorAt 1 = .ok (.getfield 20, 3) := by decide +kernel
theorem dX2_factorAt_4 : decode cX2_factorAt 4 = .ok (.iload_n 1, 1) := by decide +kernel
theorem dX2_factorAt_5 : decode cX2_factorAt 5 = .ok (.iaload, 1) := by decide +kernel
theorem dX2_factorAt_6 : decode cX2_factorAt 6 = .ok (.istore_n 2, 1) := by decide +kernel
theorem dX2_factorAt_7 : decode cX2_factorAt 7 = .ok (.aload_n 0, 1) := by decide +kernel
theorem dX2_factorAt_8 : decode cX2_factorAt 8 = .ok (.getfield 11, 3) := by decide +kernel
theorem dX2_factorAt_11 : decode cX2_factorAt 11 = .ok (.iload_n 1, 1) := by decide +kernel
theorem dX2_factorAt_12 : decode cX2_factorAt 12 = .ok (.aaload, 1) := by decide +kernel
theorem dX2_factorAt_13 : decode cX2_factorAt 13 = .ok (.bipush 72, 2) := by decide +kernel
theorem dX2_factorAt_15 : decode cX2_factorAt 15 = .ok (.iload_n 2, 1) := by decide +kernel
theorem dX2_factorAt_16 : decode cX2_factorAt 16 = .ok (.iadd, 1) := by decide +kernel
theorem dX2_factorAt_17 : decode cX2_factorAt 17 = .ok (.iaload, 1) := by decide +kernel
theorem dX2_factorAt_18 : decode cX2_factorAt 18 = .ok (.istore_n 3, 1) := by decide +kernel
theorem dX2_factorAt_19 : decode cX2_factorAt 19 = .ok (.iload_n 1, 1) := by decide +kernel
theorem dX2_factorAt_20 : decode cX2_factorAt 20 = .ok (.iconst 1, 1) := by decide +kernel
theorem dX2_factorAt_21 : decode cX2_factorAt 21 = .ok (.iadd, 1) := by decide +kernel
theorem dX2_factorAt_22 : decode cX2_factorAt 22 = .ok (.istore 4, 2) := by decide +kernel
theorem dX2_factorAt_24 : decode cX2_factorAt 24 = .ok (.iload 4, 2) := by decide +kernel
theorem dX2_factorAt_26 : decode cX2_factorAt 26 = .ok (.aload_n 0, 1) := by decide +kernel
theorem dX2_factorAt_27 : decode cX2_factorAt 27 = .ok (.getfield 71, 3) := by decide +kernel
theorem dX2_factorAt_30 : decode cX2_factorAt 30 = .ok (.if_icmp .ge 52, 3) := by decide +kernel
theorem dX2_factorAt_33 : decode cX2_factorAt 33 = .ok (.iload_n 3, 1) := by decide +kernel
theorem dX2_factorAt_34 : decode cX2_factorAt 34 = .ok (.aload_n 0, 1) := by decide +kernel
theorem dX2_factorAt_35 : decode cX2_factorAt 35 = .ok (.getfield 23, 3) := by decide +kernel
theorem dX2_factorAt_38 : decode cX2_factorAt 38 = .ok (.aload_n 0, 1) := by decide +kernel
theorem dX2_factorAt_39 : decode cX2_factorAt 39 = .ok (.getfield 16, 3) := by decide +kernel
theorem dX2_factorAt_42 : decode cX2_factorAt 42 = .ok (.iload 4, 2) := by decide +kernel
theorem dX2_factorAt_44 : decode cX2_factorAt 44 = .ok (.iaload, 1) := by decide +kernel
theorem dX2_factorAt_45 : decode cX2_factorAt 45 = .ok (.iaload, 1) := by decide +kernel
theorem dX2_factorAt_46 : decode cX2_factorAt 46 = .ok (.aload_n 0, 1) := by decide +kernel
theorem dX2_factorAt_47 : decode cX2_factorAt 47 = .ok (.getfield 26, 3) := by decide +kernel
theorem dX2_factorAt_50 : decode cX2_factorAt 50 = .ok (.getfield 103, 3) := by decide +kernel
theorem dX2_factorAt_53 : decode cX2_factorAt 53 = .ok (.aload_n 0, 1) := by decide +kernel
theorem dX2_factorAt_54 : decode cX2_factorAt 54 = .ok (.getfield 11, 3) := by decide +kernel
theorem dX2_factorAt_57 : decode cX2_factorAt 57 = .ok (.iload_n 1, 1) := by decide +kernel
theorem dX2_factorAt_58 : decode cX2_factorAt 58 = .ok (.aaload, 1) := by decide +kernel
theorem dX2_factorAt_59 : decode cX2_factorAt 59 = .ok (.aload_n 0, 1) := by decide +kernel
theorem dX2_factorAt_60 : decode cX2_factorAt 60 = .ok (.getfield 16, 3) := by decide +kernel
theorem dX2_factorAt_63 : decode cX2_factorAt 63 = .ok (.iload 4, 2) := by decide +kernel
theorem dX2_factorAt_65 : decode cX2_factorAt 65 = .ok (.iaload, 1) := by decide +kernel
theorem dX2_factorAt_66 : decode cX2_factorAt 66 = .ok (.bipush 6, 2) := by decide +kernel
theorem dX2_factorAt_68 : decode cX2_factorAt 68 = .ok (.imul, 1) := by decide +kernel
theorem dX2_factorAt_69 : decode cX2_factorAt 69 = .ok (.iload_n 2, 1) := by decide +kernel
theorem dX2_factorAt_70 : decode cX2_factorAt 70 = .ok (.iadd, 1) := by decide +kernel
theorem dX2_factorAt_71 : decode cX2_factorAt 71 = .ok (.iaload, 1) := by decide +kernel
theorem dX2_factorAt_72 : decode cX2_factorAt 72 = .ok (.isub, 1) := by decide +kernel
theorem dX2_factorAt_73 : decode cX2_factorAt 73 = .ok (.imul, 1) := by decide +kernel
theorem dX2_factorAt_74 : decode cX2_factorAt 74 = .ok (.iadd, 1) := by decide +kernel
theorem dX2_factorAt_75 : decode cX2_factorAt 75 = .ok (.istore_n 3, 1) := by decide +kernel
theorem dX2_factorAt_76 : decode cX2_factorAt 76 = .ok (.iinc 4 1, 3) := by decide +kernel
theorem dX2_factorAt_79 : decode cX2_factorAt 79 = .ok (.goto (-55), 3) := by decide +kernel
theorem dX2_factorAt_82 : decode cX2_factorAt 82 = .ok (.aload_n 0, 1) := by decide +kernel
theorem dX2_factorAt_83 : decode cX2_factorAt 83 = .ok (.getfield 26, 3) := by decide +kernel
theorem dX2_factorAt_86 : decode cX2_factorAt 86 = .ok (.iload_n 3, 1) := by decide +kernel
theorem dX2_factorAt_87 : decode cX2_factorAt 87 = .ok (.aload_n 0, 1) := by decide +kernel
theorem dX2_factorAt_88 : decode cX2_factorAt 88 = .ok (.getfield 26, 3) := by decide +kernel
theorem dX2_factorAt_91 : decode cX2_factorAt 91 = .ok (.getfield 103, 3) := by decide +kernel
theorem dX2_factorAt_94 : decode cX2_factorAt 94 = .ok (.irem, 1) := by decide +kernel
theorem dX2_factorAt_95 : decode cX2_factorAt 95 = .ok (.aload_n 0, 1) := by decide +kernel
theorem dX2_factorAt_96 : decode cX2_factorAt 96 = .ok (.getfield 11, 3) := by decide +kernel
theorem dX2_factorAt_99 : decode cX2_factorAt 99 = .ok (.iload_n 1, 1) := by decide +kernel
theorem dX2_factorAt_100 : decode cX2_factorAt 100 = .ok (.aaload, 1) := by decide +kernel
theorem dX2_factorAt_101 : decode cX2_factorAt 101 = .ok (.aload_n 0, 1) := by decide +kernel
theorem dX2_factorAt_102 : decode cX2_factorAt 102 = .ok (.getfield 16, 3) := by decide +kernel
theorem dX2_factorAt_105 : decode cX2_factorAt 105 = .ok (.iload_n 1, 1) := by decide +kernel
theorem dX2_factorAt_106 : decode cX2_factorAt 106 = .ok (.iaload, 1) := by decide +kernel
theorem dX2_factorAt_107 : decode cX2_factorAt 107 = .ok (.bipush 6, 2) := by decide +kernel
theorem dX2_factorAt_109 : decode cX2_factorAt 109 = .ok (.imul, 1) := by decide +kernel
theorem dX2_factorAt_110 : decode cX2_factorAt 110 = .ok (.iload_n 2, 1) := by decide +kernel
theorem dX2_factorAt_111 : decode cX2_factorAt 111 = .ok (.iadd, 1) := by decide +kernel
theorem dX2_factorAt_112 : decode cX2_factorAt 112 = .ok (.iaload, 1) := by decide +kernel
theorem dX2_factorAt_113 : decode cX2_factorAt 113 = .ok (.invokevirtual 106, 3) := by decide +kernel
theorem dX2_factorAt_116 : decode cX2_factorAt 116 = .ok (.ireturn, 1) := by decide +kernel
theorem dX2_loadColumns_0 : decode cX2_loadColumns 0 = .ok (.aload_n 0, 1) := by decide +kernel
theorem dX2_loadColumns_1 : decode cX2_loadColumns 1 = .ok (.iconst 0, 1) := by decide +kernel
theorem dX2_loadColumns_2 : decode cX2_loadColumns 2 = .ok (.putfield 109, 3) := by decide +kernel
theorem dX2_loadColumns_5 : decode cX2_loadColumns 5 = .ok (.iconst 0, 1) := by decide +kernel
theorem dX2_loadColumns_6 : decode cX2_loadColumns 6 = .ok (.istore_n 2, 1) := by decide +kernel
theorem dX2_loadColumns_7 : decode cX2_loadColumns 7 = .ok (.iload_n 2, 1) := by decide +kernel
theorem dX2_loadColumns_8 : decode cX2_loadColumns 8 = .ok (.aload_n 0, 1) := by decide +kernel
theorem dX2_loadColumns_9 : decode cX2_loadColumns 9 = .ok (.getfield 26, 3) := by decide +kernel
theorem dX2_loadColumns_12 : decode cX2_loadColumns 12 = .ok (.getfield 48, 3) := by decide +kernel
theorem dX2_loadColumns_15 : decode cX2_loadColumns 15 = .ok (.if_icmp .ge 73, 3) := by decide +kernel
theorem dX2_loadColumns_18 : decode cX2_loadColumns 18 = .ok (.iload_n 1, 1) := by decide +kernel
theorem dX2_loadColumns_19 : decode cX2_loadColumns 19 = .ok (.iload_n 2, 1) := by decide +kernel
theorem dX2_loadColumns_20 : decode cX2_loadColumns 20 = .ok (.ishr, 1) := by decide +kernel
theorem dX2_loadColumns_21 : decode cX2_loadColumns 21 = .ok (.iconst 1, 1) := by decide +kernel
theorem dX2_loadColumns_22 : decode cX2_loadColumns 22 = .ok (.iand, 1) := by decide +kernel
theorem dX2_loadColumns_23 : decode cX2_loadColumns 23 = .ok (.ifCond .ne 59, 3) := by decide +kernel
theorem dX2_loadColumns_26 : decode cX2_loadColumns 26 = .ok (.iconst 0, 1) := by decide +kernel
theorem dX2_loadColumns_27 : decode cX2_loadColumns 27 = .ok (.istore_n 3, 1) := by decide +kernel
theorem dX2_loadColumns_28 : decode cX2_loadColumns 28 = .ok (.iload_n 3, 1) := by decide +kernel
theorem dX2_loadColumns_29 : decode cX2_loadColumns 29 = .ok (.aload_n 0, 1) := by decide +kernel
theorem dX2_loadColumns_30 : decode cX2_loadColumns 30 = .ok (.getfield 26, 3) := by decide +kernel
theorem dX2_loadColumns_33 : decode cX2_loadColumns 33 = .ok (.getfield 34, 3) := by decide +kernel
theorem dX2_loadColumns_36 : decode cX2_loadColumns 36 = .ok (.if_icmp .ge 36, 3) := by decide +kernel
theorem dX2_loadColumns_39 : decode cX2_loadColumns 39 = .ok (.aload_n 0, 1) := by decide +kernel
theorem dX2_loadColumns_40 : decode cX2_loadColumns 40 = .ok (.getfield 11, 3) := by decide +kernel
theorem dX2_loadColumns_43 : decode cX2_loadColumns 43 = .ok (.iconst 0, 1) := by decide +kernel
theorem dX2_loadColumns_44 : decode cX2_loadColumns 44 = .ok (.aaload, 1) := by decide +kernel
theorem dX2_loadColumns_45 : decode cX2_loadColumns 45 = .ok (.iload_n 3, 1) := by decide +kernel
theorem dX2_loadColumns_46 : decode cX2_loadColumns 46 = .ok (.bipush 6, 2) := by decide +kernel
theorem dX2_loadColumns_48 : decode cX2_loadColumns 48 = .ok (.imul, 1) := by decide +kernel
theorem dX2_loadColumns_49 : decode cX2_loadColumns 49 = .ok (.aload_n 0, 1) := by decide +kernel
theorem dX2_loadColumns_50 : decode cX2_loadColumns 50 = .ok (.getfield 109, 3) := by decide +kernel
theorem dX2_loadColumns_53 : decode cX2_loadColumns 53 = .ok (.iadd, 1) := by decide +kernel
theorem dX2_loadColumns_54 : decode cX2_loadColumns 54 = .ok (.aload_n 0, 1) := by decide +kernel
theorem dX2_loadColumns_55 : decode cX2_loadColumns 55 = .ok (.getfield 26, 3) := by decide +kernel
theorem dX2_loadColumns_58 : decode cX2_loadColumns 58 = .ok (.getfield 110, 3) := by decide +kernel
theorem dX2_loadColumns_61 : decode cX2_loadColumns 61 = .ok (.iload_n 2, 1) := by decide +kernel
theorem dX2_loadColumns_62 : decode cX2_loadColumns 62 = .ok (.aaload, 1) := by decide +kernel
theorem dX2_loadColumns_63 : decode cX2_loadColumns 63 = .ok (.iload_n 3, 1) := by decide +kernel
theorem dX2_loadColumns_64 : decode cX2_loadColumns 64 = .ok (.iaload, 1) := by decide +kernel
theorem dX2_loadColumns_65 : decode cX2_loadColumns 65 = .ok (.iastore, 1) := by decide +kernel
theorem dX2_loadColumns_66 : decode cX2_loadColumns 66 = .ok (.iinc 3 1, 3) := by decide +kernel
theorem dX2_loadColumns_69 : decode cX2_loadColumns 69 = .ok (.goto (-41), 3) := by decide +kernel
theorem dX2_loadColumns_72 : decode cX2_loadColumns 72 = .ok (.aload_n 0, 1) := by decide +kernel
theorem dX2_loadColumns_73 : decode cX2_loadColumns 73 = .ok (.dup, 1) := by decide +kernel
theorem dX2_loadColumns_74 : decode cX2_loadColumns 74 = .ok (.getfield 109, 3) := by decide +kernel
theorem dX2_loadColumns_77 : decode cX2_loadColumns 77 = .ok (.iconst 1, 1) := by decide +kernel
theorem dX2_loadColumns_78 : decode cX2_loadColumns 78 = .ok (.iadd, 1) := by decide +kernel
theorem dX2_loadColumns_79 : decode cX2_loadColumns 79 = .ok (.putfield 109, 3) := by decide +kernel
theorem dX2_loadColumns_82 : decode cX2_loadColumns 82 = .ok (.iinc 2 1, 3) := by decide +kernel
theorem dX2_loadColumns_85 : decode cX2_loadColumns 85 = .ok (.goto (-78), 3) := by decide +kernel
theorem dX2_loadColumns_88 : decode cX2_loadColumns 88 = .ok (.return_, 1) := by decide +kernel
theorem dX2_loadSums_0 : decode cX2_loadSums 0 = .ok (.bipush 72, 2) := by decide +kernel
theorem dX2_loadSums_2 : decode cX2_loadSums 2 = .ok (.istore_n 3, 1) := by decide +kernel
theorem dX2_loadSums_3 : decode cX2_loadSums 3 = .ok (.iconst 0, 1) := by decide +kernel
theorem dX2_loadSums_4 : decode cX2_loadSums 4 = .ok (.istore 4, 2) := by decide +kernel
theorem dX2_loadSums_6 : decode cX2_loadSums 6 = .ok (.iload 4, 2) := by decide +kernel
theorem dX2_loadSums_8 : decode cX2_loadSums 8 = .ok (.aload_n 0, 1) := by decide +kernel
theorem dX2_loadSums_9 : decode cX2_loadSums 9 = .ok (.getfield 26, 3) := by decide +kernel
theorem dX2_loadSums_12 : decode cX2_loadSums 12 = .ok (.getfield 48, 3) := by decide +kernel
theorem dX2_loadSums_15 : decode cX2_loadSums 15 = .ok (.if_icmp .ge 33, 3) := by decide +kernel
theorem dX2_loadSums_18 : decode cX2_loadSums 18 = .ok (.iload_n 2, 1) := by decide +kernel
theorem dX2_loadSums_19 : decode cX2_loadSums 19 = .ok (.iload 4, 2) := by decide +kernel
theorem dX2_loadSums_21 : decode cX2_loadSums 21 = .ok (.ishr, 1) := by decide +kernel
theorem dX2_loadSums_22 : decode cX2_loadSums 22 = .ok (.iconst 1, 1) := by decide +kernel
theorem dX2_loadSums_23 : decode cX2_loadSums 23 = .ok (.iand, 1) := by decide +kernel
theorem dX2_loadSums_24 : decode cX2_loadSums 24 = .ok (.ifCond .ne 18, 3) := by decide +kernel
theorem dX2_loadSums_27 : decode cX2_loadSums 27 = .ok (.aload_n 0, 1) := by decide +kernel
theorem dX2_loadSums_28 : decode cX2_loadSums 28 = .ok (.getfield 11, 3) := by decide +kernel
theorem dX2_loadSums_31 : decode cX2_loadSums 31 = .ok (.iconst 0, 1) := by decide +kernel
theorem dX2_loadSums_32 : decode cX2_loadSums 32 = .ok (.aaload, 1) := by decide +kernel
theorem dX2_loadSums_33 : decode cX2_loadSums 33 = .ok (.iload_n 3, 1) := by decide +kernel
theorem dX2_loadSums_34 : decode cX2_loadSums 34 = .ok (.aload_n 1, 1) := by decide +kernel
theorem dX2_loadSums_35 : decode cX2_loadSums 35 = .ok (.iload 4, 2) := by decide +kernel
theorem dX2_loadSums_37 : decode cX2_loadSums 37 = .ok (.iaload, 1) := by decide +kernel
theorem dX2_loadSums_38 : decode cX2_loadSums 38 = .ok (.iastore, 1) := by decide +kernel
theorem dX2_loadSums_39 : decode cX2_loadSums 39 = .ok (.iinc 3 1, 3) := by decide +kernel
theorem dX2_loadSums_42 : decode cX2_loadSums 42 = .ok (.iinc 4 1, 3) := by decide +kernel
theorem dX2_loadSums_45 : decode cX2_loadSums 45 = .ok (.goto (-39), 3) := by decide +kernel
theorem dX2_loadSums_48 : decode cX2_loadSums 48 = .ok (.return_, 1) := by decide +kernel
theorem dX2_isNought_0 : decode cX2_isNought 0 = .ok (.aload_n 0, 1) := by decide +kernel
theorem dX2_isNought_1 : decode cX2_isNought 1 = .ok (.iload_n 1, 1) := by decide +kernel
theorem dX2_isNought_2 : decode cX2_isNought 2 = .ok (.iload_n 2, 1) := by decide +kernel
theorem dX2_isNought_3 : decode cX2_isNought 3 = .ok (.invokevirtual 113, 3) := by decide +kernel
theorem dX2_isNought_6 : decode cX2_isNought 6 = .ok (.aload_n 0, 1) := by decide +kernel
theorem dX2_isNought_7 : decode cX2_isNought 7 = .ok (.getfield 109, 3) := by decide +kernel
theorem dX2_isNought_10 : decode cX2_isNought 10 = .ok (.if_icmp .ne 7, 3) := by decide +kernel
theorem dX2_isNought_13 : decode cX2_isNought 13 = .ok (.iconst 1, 1) := by decide +kernel
theorem dX2_isNought_14 : decode cX2_isNought 14 = .ok (.goto 4, 3) := by decide +kernel
theorem dX2_isNought_17 : decode cX2_isNought 17 = .ok (.iconst 0, 1) := by decide +kernel
theorem dX2_isNought_18 : decode cX2_isNought 18 = .ok (.ireturn, 1) := by decide +kernel
theorem dX2_firstPlace_0 : decode cX2_firstPlace 0 = .ok (.iconst 0, 1) := by decide +kernel
theorem dX2_firstPlace_1 : decode cX2_firstPlace 1 = .ok (.istore_n 3, 1) := by decide +kernel
theorem dX2_firstPlace_2 : decode cX2_firstPlace 2 = .ok (.iload_n 3, 1) := by decide +kernel
theorem dX2_firstPlace_3 : decode cX2_firstPlace 3 = .ok (.aload_n 0, 1) := by decide +kernel
theorem dX2_firstPlace_4 : decode cX2_firstPlace 4 = .ok (.getfield 109, 3) := by decide +kernel
theorem dX2_firstPlace_7 : decode cX2_firstPlace 7 = .ok (.if_icmp .ge 25, 3) := by decide +kernel
theorem dX2_firstPlace_10 : decode cX2_firstPlace 10 = .ok (.aload_n 0, 1) := by decide +kernel
theorem dX2_firstPlace_11 : decode cX2_firstPlace 11 = .ok (.getfield 11, 3) := by decide +kernel
theorem dX2_firstPlace_14 : decode cX2_firstPlace 14 = .ok (.iload_n 1, 1) := by decide +kernel
theorem dX2_firstPlace_15 : decode cX2_firstPlace 15 = .ok (.aaload, 1) := by decide +kernel
theorem dX2_firstPlace_16 : decode cX2_firstPlace 16 = .ok (.iload_n 2, 1) := by decide +kernel
theorem dX2_firstPlace_17 : decode cX2_firstPlace 17 = .ok (.bipush 6, 2) := by decide +kernel
theorem dX2_firstPlace_19 : decode cX2_firstPlace 19 = .ok (.imul, 1) := by decide +kernel
theorem dX2_firstPlace_20 : decode cX2_firstPlace 20 = .ok (.iload_n 3, 1) := by decide +kernel
theorem dX2_firstPlace_21 : decode cX2_firstPlace 21 = .ok (.iadd, 1) := by decide +kernel
theorem dX2_firstPlace_22 : decode cX2_firstPlace 22 = .ok (.iaload, 1) := by decide +kernel
theorem dX2_firstPlace_23 : decode cX2_firstPlace 23 = .ok (.ifCond .ne 9, 3) := by decide +kernel
theorem dX2_firstPlace_26 : decode cX2_firstPlace 26 = .ok (.iinc 3 1, 3) := by decide +kernel
theorem dX2_firstPlace_29 : decode cX2_firstPlace 29 = .ok (.goto (-27), 3) := by decide +kernel
theorem dX2_firstPlace_32 : decode cX2_firstPlace 32 = .ok (.iload_n 3, 1) := by decide +kernel
theorem dX2_firstPlace_33 : decode cX2_firstPlace 33 = .ok (.ireturn, 1) := by decide +kernel
theorem dX2_takeOut_0 : decode cX2_takeOut 0 = .ok (.aload_n 0, 1) := by decide +kernel
theorem dX2_takeOut_1 : decode cX2_takeOut 1 = .ok (.getfield 16, 3) := by decide +kernel
theorem dX2_takeOut_4 : decode cX2_takeOut 4 = .ok (.iload_n 1, 1) := by decide +kernel
theorem dX2_takeOut_5 : decode cX2_takeOut 5 = .ok (.iload_n 2, 1) := by decide +kernel
theorem dX2_takeOut_6 : decode cX2_takeOut 6 = .ok (.iastore, 1) := by decide +kernel
theorem dX2_takeOut_7 : decode cX2_takeOut 7 = .ok (.aload_n 0, 1) := by decide +kernel
theorem dX2_takeOut_8 : decode cX2_takeOut 8 = .ok (.getfield 20, 3) := by decide +kernel
theorem dX2_takeOut_11 : decode cX2_takeOut 11 = .ok (.iload_n 1, 1) := by decide +kernel
theorem dX2_takeOut_12 : decode cX2_takeOut 12 = .ok (.aload_n 0, 1) := by decide +kernel
theorem dX2_takeOut_13 : decode cX2_takeOut 13 = .ok (.iload_n 1, 1) := by decide +kernel
theorem dX2_takeOut_14 : decode cX2_takeOut 14 = .ok (.iload_n 2, 1) := by decide +kernel
theorem dX2_takeOut_15 : decode cX2_takeOut 15 = .ok (.invokevirtual 113, 3) := by decide +kernel
theorem dX2_takeOut_18 : decode cX2_takeOut 18 = .ok (.iastore, 1) := by decide +kernel
theorem dX2_takeOut_19 : decode cX2_takeOut 19 = .ok (.iconst 0, 1) := by decide +kernel
theorem dX2_takeOut_20 : decode cX2_takeOut 20 = .ok (.istore 4, 2) := by decide +kernel
theorem dX2_takeOut_22 : decode cX2_takeOut 22 = .ok (.iload 4, 2) := by decide +kernel
theorem dX2_takeOut_24 : decode cX2_takeOut 24 = .ok (.iload_n 3, 1) := by decide +kernel
theorem dX2_takeOut_25 : decode cX2_takeOut 25 = .ok (.if_icmp .ge 17, 3) := by decide +kernel
theorem dX2_takeOut_28 : decode cX2_takeOut 28 = .ok (.aload_n 0, 1) := by decide +kernel
theorem dX2_takeOut_29 : decode cX2_takeOut 29 = .ok (.iload 4, 2) := by decide +kernel
theorem dX2_takeOut_31 : decode cX2_takeOut 31 = .ok (.iload_n 1, 1) := by decide +kernel
theorem dX2_takeOut_32 : decode cX2_takeOut 32 = .ok (.iload_n 2, 1) := by decide +kernel
theorem dX2_takeOut_33 : decode cX2_takeOut 33 = .ok (.invokevirtual 89, 3) := by decide +kernel
theorem dX2_takeOut_36 : decode cX2_takeOut 36 = .ok (.iinc 4 1, 3) := by decide +kernel
theorem dX2_takeOut_39 : decode cX2_takeOut 39 = .ok (.goto (-17), 3) := by decide +kernel
theorem dX2_takeOut_42 : decode cX2_takeOut 42 = .ok (.return_, 1) := by decide +kernel
theorem dX2_takeOutOf_0 : decode cX2_takeOutOf 0 = .ok (.aload_n 0, 1) := by decide +kernel
theorem dX2_takeOutOf_1 : decode cX2_takeOutOf 1 = .ok (.getfield 11, 3) := by decide +kernel
theorem dX2_takeOutOf_4 : decode cX2_takeOutOf 4 = .ok (.iload_n 2, 1) := by decide +kernel
theorem dX2_takeOutOf_5 : decode cX2_takeOutOf 5 = .ok (.aaload, 1) := by decide +kernel
theorem dX2_takeOutOf_6 : decode cX2_takeOutOf 6 = .ok (.astore 4, 2) := by decide +kernel
theorem dX2_takeOutOf_8 : decode cX2_takeOutOf 8 = .ok (.aload_n 0, 1) := by decide +kernel
theorem dX2_takeOutOf_9 : decode cX2_takeOutOf 9 = .ok (.getfield 11, 3) := by decide +kernel
theorem dX2_takeOutOf_12 : decode cX2_takeOutOf 12 = .ok (.iload_n 2, 1) := by decide +kernel
theorem dX2_takeOutOf_13 : decode cX2_takeOutOf 13 = .ok (.iconst 1, 1) := by decide +kernel
theorem dX2_takeOutOf_14 : decode cX2_takeOutOf 14 = .ok (.iadd, 1) := by decide +kernel
theorem dX2_takeOutOf_15 : decode cX2_takeOutOf 15 = .ok (.aaload, 1) := by decide +kernel
theorem dX2_takeOutOf_16 : decode cX2_takeOutOf 16 = .ok (.astore 5, 2) := by decide +kernel
theorem dX2_takeOutOf_18 : decode cX2_takeOutOf 18 = .ok (.iload_n 1, 1) := by decide +kernel
theorem dX2_takeOutOf_19 : decode cX2_takeOutOf 19 = .ok (.bipush 6, 2) := by decide +kernel
theorem dX2_takeOutOf_21 : decode cX2_takeOutOf 21 = .ok (.imul, 1) := by decide +kernel
theorem dX2_takeOutOf_22 : decode cX2_takeOutOf 22 = .ok (.istore 6, 2) := by decide +kernel
theorem dX2_takeOutOf_24 : decode cX2_takeOutOf 24 = .ok (.iload_n 3, 1) := by decide +kernel
theorem dX2_takeOutOf_25 : decode cX2_takeOutOf 25 = .ok (.bipush 6, 2) := by decide +kernel
theorem dX2_takeOutOf_27 : decode cX2_takeOutOf 27 = .ok (.imul, 1) := by decide +kernel
theorem dX2_takeOutOf_28 : decode cX2_takeOutOf 28 = .ok (.istore 7, 2) := by decide +kernel
theorem dX2_takeOutOf_30 : decode cX2_takeOutOf 30 = .ok (.aload 4, 2) := by decide +kernel
theorem dX2_takeOutOf_32 : decode cX2_takeOutOf 32 = .ok (.iload 7, 2) := by decide +kernel
theorem dX2_takeOutOf_34 : decode cX2_takeOutOf 34 = .ok (.aload_n 0, 1) := by decide +kernel
theorem dX2_takeOutOf_35 : decode cX2_takeOutOf 35 = .ok (.getfield 20, 3) := by decide +kernel
theorem dX2_takeOutOf_38 : decode cX2_takeOutOf 38 = .ok (.iload_n 2, 1) := by decide +kernel
theorem dX2_takeOutOf_39 : decode cX2_takeOutOf 39 = .ok (.iaload, 1) := by decide +kernel
theorem dX2_takeOutOf_40 : decode cX2_takeOutOf 40 = .ok (.iadd, 1) := by decide +kernel
theorem dX2_takeOutOf_41 : decode cX2_takeOutOf 41 = .ok (.iaload, 1) := by decide +kernel
theorem dX2_takeOutOf_42 : decode cX2_takeOutOf 42 = .ok (.istore 8, 2) := by decide +kernel
theorem dX2_takeOutOf_44 : decode cX2_takeOutOf 44 = .ok (.aload_n 0, 1) := by decide +kernel
theorem dX2_takeOutOf_45 : decode cX2_takeOutOf 45 = .ok (.getfield 26, 3) := by decide +kernel
theorem dX2_takeOutOf_48 : decode cX2_takeOutOf 48 = .ok (.getfield 103, 3) := by decide +kernel
theorem dX2_takeOutOf_51 : decode cX2_takeOutOf 51 = .ok (.aload 4, 2) := by decide +kernel
theorem dX2_takeOutOf_53 : decode cX2_takeOutOf 53 = .ok (.iload 6, 2) := by decide +kernel
theorem dX2_takeOutOf_55 : decode cX2_takeOutOf 55 = .ok (.aload_n 0, 1) := by decide +kernel
theorem dX2_takeOutOf_56 : decode cX2_takeOutOf 56 = .ok (.getfield 20, 3) := by decide +kernel
theorem dX2_takeOutOf_59 : decode cX2_takeOutOf 59 = .ok (.iload_n 2, 1) := by decide +kernel
theorem dX2_takeOutOf_60 : decode cX2_takeOutOf 60 = .ok (.iaload, 1) := by decide +kernel
theorem dX2_takeOutOf_61 : decode cX2_takeOutOf 61 = .ok (.iadd, 1) := by decide +kernel
theorem dX2_takeOutOf_62 : decode cX2_takeOutOf 62 = .ok (.iaload, 1) := by decide +kernel
theorem dX2_takeOutOf_63 : decode cX2_takeOutOf 63 = .ok (.isub, 1) := by decide +kernel
theorem dX2_takeOutOf_64 : decode cX2_takeOutOf 64 = .ok (.istore 9, 2) := by decide +kernel
theorem dX2_takeOutOf_66 : decode cX2_takeOutOf 66 = .ok (.iconst 0, 1) := by decide +kernel
theorem dX2_takeOutOf_67 : decode cX2_takeOutOf 67 = .ok (.istore 10, 2) := by decide +kernel
theorem dX2_takeOutOf_69 : decode cX2_takeOutOf 69 = .ok (.iload 10, 2) := by decide +kernel
theorem dX2_takeOutOf_71 : decode cX2_takeOutOf 71 = .ok (.aload_n 0, 1) := by decide +kernel
theorem dX2_takeOutOf_72 : decode cX2_takeOutOf 72 = .ok (.getfield 109, 3) := by decide +kernel
theorem dX2_takeOutOf_75 : decode cX2_takeOutOf 75 = .ok (.if_icmp .ge 48, 3) := by decide +kernel
theorem dX2_takeOutOf_78 : decode cX2_takeOutOf 78 = .ok (.aload 5, 2) := by decide +kernel
theorem dX2_takeOutOf_80 : decode cX2_takeOutOf 80 = .ok (.iload 6, 2) := by decide +kernel
theorem dX2_takeOutOf_82 : decode cX2_takeOutOf 82 = .ok (.iload 10, 2) := by decide +kernel
theorem dX2_takeOutOf_84 : decode cX2_takeOutOf 84 = .ok (.iadd, 1) := by decide +kernel
theorem dX2_takeOutOf_85 : decode cX2_takeOutOf 85 = .ok (.aload 4, 2) := by decide +kernel
theorem dX2_takeOutOf_87 : decode cX2_takeOutOf 87 = .ok (.iload 6, 2) := by decide +kernel
theorem dX2_takeOutOf_89 : decode cX2_takeOutOf 89 = .ok (.iload 10, 2) := by decide +kernel
theorem dX2_takeOutOf_91 : decode cX2_takeOutOf 91 = .ok (.iadd, 1) := by decide +kernel
theorem dX2_takeOutOf_92 : decode cX2_takeOutOf 92 = .ok (.iaload, 1) := by decide +kernel
theorem dX2_takeOutOf_93 : decode cX2_takeOutOf 93 = .ok (.iload 8, 2) := by decide +kernel
theorem dX2_takeOutOf_95 : decode cX2_takeOutOf 95 = .ok (.imul, 1) := by decide +kernel
theorem dX2_takeOutOf_96 : decode cX2_takeOutOf 96 = .ok (.aload 4, 2) := by decide +kernel
theorem dX2_takeOutOf_98 : decode cX2_takeOutOf 98 = .ok (.iload 7, 2) := by decide +kernel
theorem dX2_takeOutOf_100 : decode cX2_takeOutOf 100 = .ok (.iload 10, 2) := by decide +kernel
theorem dX2_takeOutOf_102 : decode cX2_takeOutOf 102 = .ok (.iadd, 1) := by decide +kernel
theorem dX2_takeOutOf_103 : decode cX2_takeOutOf 103 = .ok (.iaload, 1) := by decide +kernel
theorem dX2_takeOutOf_104 : decode cX2_takeOutOf 104 = .ok (.iload 9, 2) := by decide +kernel
theorem dX2_takeOutOf_106 : decode cX2_takeOutOf 106 = .ok (.imul, 1) := by decide +kernel
theorem dX2_takeOutOf_107 : decode cX2_takeOutOf 107 = .ok (.iadd, 1) := by decide +kernel
theorem dX2_takeOutOf_108 : decode cX2_takeOutOf 108 = .ok (.aload_n 0, 1) := by decide +kernel
theorem dX2_takeOutOf_109 : decode cX2_takeOutOf 109 = .ok (.getfield 26, 3) := by decide +kernel
theorem dX2_takeOutOf_112 : decode cX2_takeOutOf 112 = .ok (.getfield 103, 3) := by decide +kernel
theorem dX2_takeOutOf_115 : decode cX2_takeOutOf 115 = .ok (.irem, 1) := by decide +kernel
theorem dX2_takeOutOf_116 : decode cX2_takeOutOf 116 = .ok (.iastore, 1) := by decide +kernel
theorem dX2_takeOutOf_117 : decode cX2_takeOutOf 117 = .ok (.iinc 10 1, 3) := by decide +kernel
theorem dX2_takeOutOf_120 : decode cX2_takeOutOf 120 = .ok (.goto (-51), 3) := by decide +kernel
theorem dX2_takeOutOf_123 : decode cX2_takeOutOf 123 = .ok (.return_, 1) := by decide +kernel
theorem dX3_init_0 : decode cX3_init 0 = .ok (.aload_n 0, 1) := by decide +kernel
theorem dX3_init_1 : decode cX3_init 1 = .ok (.invokespecial 1, 3) := by decide +kernel
theorem dX3_init_4 : decode cX3_init 4 = .ok (.aload_n 0, 1) := by decide +kernel
theorem dX3_init_5 : decode cX3_init 5 = .ok (.sipush 384, 3) := by decide +kernel
theorem dX3_init_8 : decode cX3_init 8 = .ok (.newarray .long, 2) := by decide +kernel
theorem dX3_init_10 : decode cX3_init 10 = .ok (.putfield 9, 3) := by decide +kernel
theorem dX3_init_13 : decode cX3_init 13 = .ok (.aload_n 0, 1) := by decide +kernel
theorem dX3_init_14 : decode cX3_init 14 = .ok (.sipush 384, 3) := by decide +kernel
theorem dX3_init_17 : decode cX3_init 17 = .ok (.newarray .long, 2) := by decide +kernel
theorem dX3_init_19 : decode cX3_init 19 = .ok (.putfield 13, 3) := by decide +kernel
theorem dX3_init_22 : decode cX3_init 22 = .ok (.aload_n 0, 1) := by decide +kernel
theorem dX3_init_23 : decode cX3_init 23 = .ok (.bipush 100, 2) := by decide +kernel
theorem dX3_init_25 : decode cX3_init 25 = .ok (.newarray .int, 2) := by decide +kernel
theorem dX3_init_27 : decode cX3_init 27 = .ok (.putfield 16, 3) := by decide +kernel
theorem dX3_init_30 : decode cX3_init 30 = .ok (.aload_n 0, 1) := by decide +kernel
theorem dX3_init_31 : decode cX3_init 31 = .ok (.bipush 100, 2) := by decide +kernel
theorem dX3_init_33 : decode cX3_init 33 = .ok (.newarray .int, 2) := by decide +kernel
theorem dX3_init_35 : decode cX3_init 35 = .ok (.putfield 20, 3) := by decide +kernel
theorem dX3_init_38 : decode cX3_init 38 = .ok (.aload_n 0, 1) := by decide +kernel
theorem dX3_init_39 : decode cX3_init 39 = .ok (.iconst 1, 1) := by decide +kernel
theorem dX3_init_40 : decode cX3_init 40 = .ok (.iconst 2, 1) := by decide +kernel
theorem dX3_init_41 : decode cX3_init 41 = .ok (.invokevirtual 23, 3) := by decide +kernel
theorem dX3_init_44 : decode cX3_init 44 = .ok (.return_, 1) := by decide +kernel
theorem dX3_shape_0 : decode cX3_shape 0 = .ok (.aload_n 0, 1) := by decide +kernel
theorem dX3_shape_1 : decode cX3_shape 1 = .ok (.iload_n 1, 1) := by decide +kernel
theorem dX3_shape_2 : decode cX3_shape 2 = .ok (.putfield 27, 3) := by decide +kernel
theorem dX3_shape_5 : decode cX3_shape 5 = .ok (.aload_n 0, 1) := by decide +kernel
theorem dX3_shape_6 : decode cX3_shape 6 = .ok (.iload_n 2, 1) := by decide +kernel
theorem dX3_shape_7 : decode cX3_shape 7 = .ok (.putfield 31, 3) := by decide +kernel
theorem dX3_shape_10 : decode cX3_shape 10 = .ok (.aload_n 0, 1) := by decide +kernel
theorem dX3_shape_11 : decode cX3_shape 11 = .ok (.iconst 0, 1) := by decide +kernel
theorem dX3_shape_12 : decode cX3_shape 12 = .ok (.putfield 34, 3) := by decide +kernel
theorem dX3_shape_15 : decode cX3_shape 15 = .ok (.aload_n 0, 1) := by decide +kernel
theorem dX3_shape_16 : decode cX3_shape 16 = .ok (.iconst 0, 1) := by decide +kernel
theorem dX3_shape_17 : decode cX3_shape 17 = .ok (.putfield 37, 3) := by decide +kernel
theorem dX3_shape_20 : decode cX3_shape 20 = .ok (.iconst 0, 1) := by decide +kernel
theorem dX3_shape_21 : decode cX3_shape 21 = .ok (.istore_n 3, 1) := by decide +kernel
theorem dX3_shape_22 : decode cX3_shape 22 = .ok (.iload_n 3, 1) := by decide +kernel
theorem dX3_shape_23 : decode cX3_shape 23 = .ok (.aload_n 0, 1) := by decide +kernel
theorem dX3_shape_24 : decode cX3_shape 24 = .ok (.getfield 9, 3) := by decide +kernel
theorem dX3_shape_27 : decode cX3_shape 27 = .ok (.arraylength, 1) := by decide +kernel
theorem dX3_shape_28 : decode cX3_shape 28 = .ok (.if_icmp .ge 16, 3) := by decide +kernel
theorem dX3_shape_31 : decode cX3_shape 31 = .ok (.aload_n 0, 1) := by decide +kernel
theorem dX3_shape_32 : decode cX3_shape 32 = .ok (.getfield 9, 3) := by decide +kernel
theorem dX3_shape_35 : decode cX3_shape 35 = .ok (.iload_n 3, 1) := by decide +kernel
theorem dX3_shape_36 : decode cX3_shape 36 = .ok (.lconst 0, 1) := by decide +kernel
theorem dX3_shape_37 : decode cX3_shape 37 = .ok (.lastore, 1) := by decide +kernel
theorem dX3_shape_38 : decode cX3_shape 38 = .ok (.iinc 3 1, 3) := by decide +kernel
theorem dX3_shape_41 : decode cX3_shape 41 = .ok (.goto (-19), 3) := by decide +kernel
theorem dX3_shape_44 : decode cX3_shape 44 = .ok (.return_, 1) := by decide +kernel
theorem dX3_start_0 : decode cX3_start 0 = .ok (.iload_n 0, 1) := by decide +kernel
theorem dX3_start_1 : decode cX3_start 1 = .ok (.bipush 32, 2) := by decide +kernel
theorem dX3_start_3 : decode cX3_start 3 = .ok (.imul, 1) := by decide +kernel
theorem dX3_start_4 : decode cX3_start 4 = .ok (.iload_n 1, 1) := by decide +kernel
theorem dX3_start_5 : decode cX3_start 5 = .ok (.iadd, 1) := by decide +kernel
theorem dX3_start_6 : decode cX3_start 6 = .ok (.iconst 3, 1) := by decide +kernel
theorem dX3_start_7 : decode cX3_start 7 = .ok (.imul, 1) := by decide +kernel
theorem dX3_start_8 : decode cX3_start 8 = .ok (.ireturn, 1) := by decide +kernel
theorem dX3_putNumber_0 : decode cX3_putNumber 0 = .ok (.aload_n 0, 1) := by decide +kernel
theorem dX3_putNumber_1 : decode cX3_putNumber 1 = .ok (.aload_n 0, 1) := by decide +kernel
theorem dX3_putNumber_2 : decode cX3_putNumber 2 = .ok (.getfield 9, 3) := by decide +kernel
theorem dX3_putNumber_5 : decode cX3_putNumber 5 = .ok (.iload_n 1, 1) := by decide +kernel
theorem dX3_putNumber_6 : decode cX3_putNumber 6 = .ok (.iload_n 2, 1) := by decide +kernel
theorem dX3_putNumber_7 : decode cX3_putNumber 7 = .ok (.i2l, 1) := by decide +kernel
theorem dX3_putNumber_8 : decode cX3_putNumber 8 = .ok (.invokevirtual 40, 3) := by decide +kernel
theorem dX3_putNumber_11 : decode cX3_putNumber 11 = .ok (.aload_n 0, 1) := by decide +kernel
theorem dX3_putNumber_12 : decode cX3_putNumber 12 = .ok (.dup, 1) := by decide +kernel
theorem dX3_putNumber_13 : decode cX3_putNumber 13 = .ok (.getfield 34, 3) := by decide +kernel
theorem dX3_putNumber_16 : decode cX3_putNumber 16 = .ok (.iconst 1, 1) := by decide +kernel
theorem dX3_putNumber_17 : decode cX3_putNumber 17 = .ok (.iadd, 1) := by decide +kernel
theorem dX3_putNumber_18 : decode cX3_putNumber 18 = .ok (.putfield 34, 3) := by decide +kernel
theorem dX3_putNumber_21 : decode cX3_putNumber 21 = .ok (.return_, 1) := by decide +kernel
theorem dX3_tellAll_0 : decode cX3_tellAll 0 = .ok (.aload_n 0, 1) := by decide +kernel
theorem dX3_tellAll_1 : decode cX3_tellAll 1 = .ok (.getfield 9, 3) := by decide +kernel
theorem dX3_tellAll_4 : decode cX3_tellAll 4 = .ok (.iconst 0, 1) := by decide +kernel
theorem dX3_tellAll_5 : decode cX3_tellAll 5 = .ok (.aload_n 0, 1) := by decide +kernel
theorem dX3_tellAll_6 : decode cX3_tellAll 6 = .ok (.getfield 13, 3) := by decide +kernel
theorem dX3_tellAll_9 : decode cX3_tellAll 9 = .ok (.iconst 0, 1) := by decide +kernel
theorem dX3_tellAll_10 : decode cX3_tellAll 10 = .ok (.aload_n 0, 1) := by decide +kernel
theorem dX3_tellAll_11 : decode cX3_tellAll 11 = .ok (.getfield 13, 3) := by decide +kernel
theorem dX3_tellAll_14 : decode cX3_tellAll 14 = .ok (.arraylength, 1) := by decide +kernel
theorem dX3_tellAll_15 : decode cX3_tellAll 15 = .ok (.invokestatic 44, 3) := by decide +kernel
theorem dX3_tellAll_18 : decode cX3_tellAll 18 = .ok (.aload_n 0, 1) := by decide +kernel
theorem dX3_tellAll_19 : decode cX3_tellAll 19 = .ok (.iconst 0, 1) := by decide +kernel
theorem dX3_tellAll_20 : decode cX3_tellAll 20 = .ok (.putfield 37, 3) := by decide +kernel
theorem dX3_tellAll_23 : decode cX3_tellAll 23 = .ok (.iconst 0, 1) := by decide +kernel
theorem dX3_tellAll_24 : decode cX3_tellAll 24 = .ok (.istore_n 1, 1) := by decide +kernel
theorem dX3_tellAll_25 : decode cX3_tellAll 25 = .ok (.iload_n 1, 1) := by decide +kernel
theorem dX3_tellAll_26 : decode cX3_tellAll 26 = .ok (.sipush 200, 3) := by decide +kernel
theorem dX3_tellAll_29 : decode cX3_tellAll 29 = .ok (.if_icmp .ge 28, 3) := by decide +kernel
theorem dX3_tellAll_32 : decode cX3_tellAll 32 = .ok (.aload_n 0, 1) := by decide +kernel
theorem dX3_tellAll_33 : decode cX3_tellAll 33 = .ok (.invokevirtual 50, 3) := by decide +kernel
theorem dX3_tellAll_36 : decode cX3_tellAll 36 = .ok (.istore_n 2, 1) := by decide +kernel
theorem dX3_tellAll_37 : decode cX3_tellAll 37 = .ok (.iload_n 2, 1) := by decide +kernel
theorem dX3_tellAll_38 : decode cX3_tellAll 38 = .ok (.ifCond .ge 8, 3) := by decide +kernel
theorem dX3_tellAll_41 : decode cX3_tellAll 41 = .ok (.aload_n 0, 1) := by decide +kernel
theorem dX3_tellAll_42 : decode cX3_tellAll 42 = .ok (.invokevirtual 54, 3) := by decide +kernel
theorem dX3_tellAll_45 : decode cX3_tellAll 45 = .ok (.ireturn, 1) := by decide +kernel
theorem dX3_tellAll_46 : decode cX3_tellAll 46 = .ok (.aload_n 0, 1) := by decide +kernel
theorem dX3_tellAll_47 : decode cX3_tellAll 47 = .ok (.iload_n 2, 1) := by decide +kernel
theorem dX3_tellAll_48 : decode cX3_tellAll 48 = .ok (.invokevirtual 58, 3) := by decide +kernel
theorem dX3_tellAll_51 : decode cX3_tellAll 51 = .ok (.iinc 1 1, 3) := by decide +kernel
theorem dX3_tellAll_54 : decode cX3_tellAll 54 = .ok (.goto (-29), 3) := by decide +kernel
theorem dX3_tellAll_57 : decode cX3_tellAll 57 = .ok (.aload_n 0, 1) := by decide +kernel
theorem dX3_tellAll_58 : decode cX3_tellAll 58 = .ok (.invokevirtual 54, 3) := by decide +kernel
theorem dX3_tellAll_61 : decode cX3_tellAll 61 = .ok (.ireturn, 1) := by decide +kernel
theorem dX3_tellPlace_0 : decode cX3_tellPlace 0 = .ok (.aload_n 0, 1) := by decide +kernel
theorem dX3_tellPlace_1 : decode cX3_tellPlace 1 = .ok (.getfield 13, 3) := by decide +kernel
theorem dX3_tellPlace_4 : decode cX3_tellPlace 4 = .ok (.iload_n 1, 1) := by decide +kernel
theorem dX3_tellPlace_5 : decode cX3_tellPlace 5 = .ok (.laload, 1) := by decide +kernel
theorem dX3_tellPlace_6 : decode cX3_tellPlace 6 = .ok (.lstore_n 2, 1) := by decide +kernel
theorem dX3_tellPlace_7 : decode cX3_tellPlace 7 = .ok (.lload_n 2, 1) := by decide +kernel
theorem dX3_tellPlace_8 : decode cX3_tellPlace 8 = .ok (.lconst 0, 1) := by decide +kernel
theorem dX3_tellPlace_9 : decode cX3_tellPlace 9 = .ok (.lcmp, 1) := by decide +kernel
theorem dX3_tellPlace_10 : decode cX3_tellPlace 10 = .ok (.ifCond .ne 4, 3) := by decide +kernel
theorem dX3_tellPlace_13 : decode cX3_tellPlace 13 = .ok (.return_, 1) := by decide +kernel
theorem dX3_tellPlace_14 : decode cX3_tellPlace 14 = .ok (.aload_n 0, 1) := by decide +kernel
theorem dX3_tellPlace_15 : decode cX3_tellPlace 15 = .ok (.getfield 13, 3) := by decide +kernel
theorem dX3_tellPlace_18 : decode cX3_tellPlace 18 = .ok (.iload_n 1, 1) := by decide +kernel
theorem dX3_tellPlace_19 : decode cX3_tellPlace 19 = .ok (.iconst 1, 1) := by decide +kernel
theorem dX3_tellPlace_20 : decode cX3_tellPlace 20 = .ok (.iadd, 1) := by decide +kernel
theorem dX3_tellPlace_21 : decode cX3_tellPlace 21 = .ok (.laload, 1) := by decide +kernel
theorem dX3_tellPlace_22 : decode cX3_tellPlace 22 = .ok (.lload_n 2, 1) := by decide +kernel
theorem dX3_tellPlace_23 : decode cX3_tellPlace 23 = .ok (.ldiv, 1) := by decide +kernel
theorem dX3_tellPlace_24 : decode cX3_tellPlace 24 = .ok (.l2i, 1) := by decide +kernel
theorem dX3_tellPlace_25 : decode cX3_tellPlace 25 = .ok (.istore 4, 2) := by decide +kernel
theorem dX3_tellPlace_27 : decode cX3_tellPlace 27 = .ok (.aload_n 0, 1) := by decide +kernel
theorem dX3_tellPlace_28 : decode cX3_tellPlace 28 = .ok (.getfield 37, 3) := by decide +kernel
theorem dX3_tellPlace_31 : decode cX3_tellPlace 31 = .ok (.bipush 100, 2) := by decide +kernel
theorem dX3_tellPlace_33 : decode cX3_tellPlace 33 = .ok (.if_icmp .ge 25, 3) := by decide +kernel
theorem dX3_tellPlace_36 : decode cX3_tellPlace 36 = .ok (.aload_n 0, 1) := by decide +kernel
theorem dX3_tellPlace_37 : decode cX3_tellPlace 37 = .ok (.getfield 16, 3) := by decide +kernel
theorem dX3_tellPlace_40 : decode cX3_tellPlace 40 = .ok (.aload_n 0, 1) := by decide +kernel
theorem dX3_tellPlace_41 : decode cX3_tellPlace 41 = .ok (.getfield 37, 3) := by decide +kernel
theorem dX3_tellPlace_44 : decode cX3_tellPlace 44 = .ok (.iload 4, 2) := by decide +kernel
theorem dX3_tellPlace_46 : decode cX3_tellPlace 46 = .ok (.iastore, 1) := by decide +kernel
theorem dX3_tellPlace_47 : decode cX3_tellPlace 47 = .ok (.aload_n 0, 1) := by decide +kernel
theorem dX3_tellPlace_48 : decode cX3_tellPlace 48 = .ok (.getfield 20, 3) := by decide +kernel
theorem dX3_tellPlace_51 : decode cX3_tellPlace 51 = .ok (.aload_n 0, 1) := by decide +kernel
theorem dX3_tellPlace_52 : decode cX3_tellPlace 52 = .ok (.getfield 37, 3) := by decide +kernel
theorem dX3_tellPlace_55 : decode cX3_tellPlace 55 = .ok (.lload_n 2, 1) := by decide +kernel
theorem dX3_tellPlace_56 : decode cX3_tellPlace 56 = .ok (.l2i, 1) := by decide +kernel
theorem dX3_tellPlace_57 : decode cX3_tellPlace 57 = .ok (.iastore, 1) := by decide +kernel
theorem dX3_tellPlace_58 : decode cX3_tellPlace 58 = .ok (.aload_n 0, 1) := by decide +kernel
theorem dX3_tellPlace_59 : decode cX3_tellPlace 59 = .ok (.dup, 1) := by decide +kernel
theorem dX3_tellPlace_60 : decode cX3_tellPlace 60 = .ok (.getfield 37, 3) := by decide +kernel
theorem dX3_tellPlace_63 : decode cX3_tellPlace 63 = .ok (.iconst 1, 1) := by decide +kernel
theorem dX3_tellPlace_64 : decode cX3_tellPlace 64 = .ok (.iadd, 1) := by decide +kernel
theorem dX3_tellPlace_65 : decode cX3_tellPlace 65 = .ok (.putfield 37, 3) := by decide +kernel
theorem dX3_tellPlace_68 : decode cX3_tellPlace 68 = .ok (.aload_n 0, 1) := by decide +kernel
theorem dX3_tellPlace_69 : decode cX3_tellPlace 69 = .ok (.aload_n 0, 1) := by decide +kernel
theorem dX3_tellPlace_70 : decode cX3_tellPlace 70 = .ok (.getfield 13, 3) := by decide +kernel
theorem dX3_tellPlace_73 : decode cX3_tellPlace 73 = .ok (.iload 4, 2) := by decide +kernel
theorem dX3_tellPlace_75 : decode cX3_tellPlace 75 = .ok (.lload_n 2, 1) := by decide +kernel
theorem dX3_tellPlace_76 : decode cX3_tellPlace 76 = .ok (.lneg, 1) := by decide +kernel
theorem dX3_tellPlace_77 : decode cX3_tellPlace 77 = .ok (.invokevirtual 40, 3) := by decide +kernel
theorem dX3_tellPlace_80 : decode cX3_tellPlace 80 = .ok (.return_, 1) := by decide +kernel
theorem dX3_firstSingle_0 : decode cX3_firstSingle 0 = .ok (.iconst 0, 1) := by decide +kernel
theorem dX3_firstSingle_1 : decode cX3_firstSingle 1 = .ok (.istore_n 1, 1) := by decide +kernel
theorem dX3_firstSingle_2 : decode cX3_firstSingle 2 = .ok (.iload_n 1, 1) := by decide +kernel
theorem dX3_firstSingle_3 : decode cX3_firstSingle 3 = .ok (.aload_n 0, 1) := by decide +kernel
theorem dX3_firstSingle_4 : decode cX3_firstSingle 4 = .ok (.getfield 27, 3) := by decide +kernel
theorem dX3_firstSingle_7 : decode cX3_firstSingle 7 = .ok (.if_icmp .ge 40, 3) := by decide +kernel
theorem dX3_firstSingle_10 : decode cX3_firstSingle 10 = .ok (.iconst 0, 1) := by decide +kernel
theorem dX3_firstSingle_11 : decode cX3_firstSingle 11 = .ok (.istore_n 2, 1) := by decide +kernel
theorem dX3_firstSingle_12 : decode cX3_firstSingle 12 = .ok (.iload_n 2, 1) := by decide +kernel
theorem dX3_firstSingle_13 : decode cX3_firstSingle 13 = .ok (.aload_n 0, 1) := by decide +kernel
theorem dX3_firstSingle_14 : decode cX3_firstSingle 14 = .ok (.getfield 31, 3) := by decide +kernel
theorem dX3_firstSingle_17 : decode cX3_firstSingle 17 = .ok (.if_icmp .ge 24, 3) := by decide +kernel
theorem dX3_firstSingle_20 : decode cX3_firstSingle 20 = .ok (.aload_n 0, 1) := by decide +kernel
theorem dX3_firstSingle_21 : decode cX3_firstSingle 21 = .ok (.iload_n 1, 1) := by decide +kernel
theorem dX3_firstSingle_22 : decode cX3_firstSingle 22 = .ok (.iload_n 2, 1) := by decide +kernel
theorem dX3_firstSingle_23 : decode cX3_firstSingle 23 = .ok (.invokevirtual 62, 3) := by decide +kernel
theorem dX3_firstSingle_26 : decode cX3_firstSingle 26 = .ok (.ifCond .eq 9, 3) := by decide +kernel
theorem dX3_firstSingle_29 : decode cX3_firstSingle 29 = .ok (.iload_n 1, 1) := by decide +kernel
theorem dX3_firstSingle_30 : decode cX3_firstSingle 30 = .ok (.iload_n 2, 1) := by decide +kernel
theorem dX3_firstSingle_31 : decode cX3_firstSingle 31 = .ok (.invokestatic 66, 3) := by decide +kernel
theorem dX3_firstSingle_34 : decode cX3_firstSingle 34 = .ok (.ireturn, 1) := by decide +kernel
theorem dX3_firstSingle_35 : decode cX3_firstSingle 35 = .ok (.iinc 2 1, 3) := by decide +kernel
theorem dX3_firstSingle_38 : decode cX3_firstSingle 38 = .ok (.goto (-26), 3) := by decide +kernel
theorem dX3_firstSingle_41 : decode cX3_firstSingle 41 = .ok (.iinc 1 1, 3) := by decide +kernel
theorem dX3_firstSingle_44 : decode cX3_firstSingle 44 = .ok (.goto (-42), 3) := by decide +kernel
theorem dX3_firstSingle_47 : decode cX3_firstSingle 47 = .ok (.iconst (-1), 1) := by decide +kernel
theorem dX3_firstSingle_48 : decode cX3_firstSingle 48 = .ok (.ireturn, 1) := by decide +kernel
theorem dX3_isSingle_0 : decode cX3_isSingle 0 = .ok (.iload_n 1, 1) := by decide +kernel
theorem dX3_isSingle_1 : decode cX3_isSingle 1 = .ok (.iload_n 2, 1) := by decide +kernel
theorem dX3_isSingle_2 : decode cX3_isSingle 2 = .ok (.invokestatic 66, 3) := by decide +kernel
theorem dX3_isSingle_5 : decode cX3_isSingle 5 = .ok (.istore_n 3, 1) := by decide +kernel
theorem dX3_isSingle_6 : decode cX3_isSingle 6 = .ok (.aload_n 0, 1) := by decide +kernel
theorem dX3_isSingle_7 : decode cX3_isSingle 7 = .ok (.getfield 13, 3) := by decide +kernel
theorem dX3_isSingle_10 : decode cX3_isSingle 10 = .ok (.iload_n 3, 1) := by decide +kernel
theorem dX3_isSingle_11 : decode cX3_isSingle 11 = .ok (.laload, 1) := by decide +kernel
theorem dX3_isSingle_12 : decode cX3_isSingle 12 = .ok (.lstore 4, 2) := by decide +kernel
theorem dX3_isSingle_14 : decode cX3_isSingle 14 = .ok (.lload 4, 2) := by decide +kernel
theorem dX3_isSingle_16 : decode cX3_isSingle 16 = .ok (.lconst 0, 1) := by decide +kernel
theorem dX3_isSingle_17 : decode cX3_isSingle 17 = .ok (.lcmp, 1) := by decide +kernel
theorem dX3_isSingle_18 : decode cX3_isSingle 18 = .ok (.ifCond .eq 19, 3) := by decide +kernel
theorem dX3_isSingle_21 : decode cX3_isSingle 21 = .ok (.aload_n 0, 1) := by decide +kernel
theorem dX3_isSingle_22 : decode cX3_isSingle 22 = .ok (.getfield 13, 3) := by decide +kernel
theorem dX3_isSingle_25 : decode cX3_isSingle 25 = .ok (.iload_n 3, 1) := by decide +kernel
theorem dX3_isSingle_26 : decode cX3_isSingle 26 = .ok (.iconst 1, 1) := by decide +kernel
theorem dX3_isSingle_27 : decode cX3_isSingle 27 = .ok (.iadd, 1) := by decide +kernel
theorem dX3_isSingle_28 : decode cX3_isSingle 28 = .ok (.laload, 1) := by decide +kernel
theorem dX3_isSingle_29 : decode cX3_isSingle 29 = .ok (.lload 4, 2) := by decide +kernel
theorem dX3_isSingle_31 : decode cX3_isSingle 31 = .ok (.lrem, 1) := by decide +kernel
theorem dX3_isSingle_32 : decode cX3_isSingle 32 = .ok (.lconst 0, 1) := by decide +kernel
theorem dX3_isSingle_33 : decode cX3_isSingle 33 = .ok (.lcmp, 1) := by decide +kernel
theorem dX3_isSingle_34 : decode cX3_isSingle 34 = .ok (.ifCond .eq 5, 3) := by decide +kernel
theorem dX3_isSingle_37 : decode cX3_isSingle 37 = .ok (.iconst 0, 1) := by decide +kernel
theorem dX3_isSingle_38 : decode cX3_isSingle 38 = .ok (.ireturn, 1) := by decide +kernel
theorem dX3_isSingle_39 : decode cX3_isSingle 39 = .ok (.aload_n 0, 1) := by decide +kernel
theorem dX3_isSingle_40 : decode cX3_isSingle 40 = .ok (.getfield 13, 3) := by decide +kernel
theorem dX3_isSingle_43 : decode cX3_isSingle 43 = .ok (.iload_n 3, 1) := by decide +kernel
theorem dX3_isSingle_44 : decode cX3_isSingle 44 = .ok (.iconst 1, 1) := by decide +kernel
theorem dX3_isSingle_45 : decode cX3_isSingle 45 = .ok (.iadd, 1) := by decide +kernel
theorem dX3_isSingle_46 : decode cX3_isSingle 46 = .ok (.laload, 1) := by decide +kernel
theorem dX3_isSingle_47 : decode cX3_isSingle 47 = .ok (.lload 4, 2) := by decide +kernel
theorem dX3_isSingle_49 : decode cX3_isSingle 49 = .ok (.ldiv, 1) := by decide +kernel
theorem dX3_isSingle_50 : decode cX3_isSingle 50 = .ok (.lstore 6, 2) := by decide +kernel
theorem dX3_isSingle_52 : decode cX3_isSingle 52 = .ok (.lload 6, 2) := by decide +kernel
theorem dX3_isSingle_54 : decode cX3_isSingle 54 = .ok (.lconst 0, 1) := by decide +kernel
theorem dX3_isSingle_55 : decode cX3_isSingle 55 = .ok (.lcmp, 1) := by decide +kernel
theorem dX3_isSingle_56 : decode cX3_isSingle 56 = .ok (.ifCond .lt 24, 3) := by decide +kernel
theorem dX3_isSingle_59 : decode cX3_isSingle 59 = .ok (.lload 6, 2) := by decide +kernel
theorem dX3_isSingle_61 : decode cX3_isSingle 61 = .ok (.ldc2_w 70, 3) := by decide +kernel
theorem dX3_isSingle_64 : decode cX3_isSingle 64 = .ok (.lcmp, 1) := by decide +kernel
theorem dX3_isSingle_65 : decode cX3_isSingle 65 = .ok (.ifCond .gt 15, 3) := by decide +kernel
theorem dX3_isSingle_68 : decode cX3_isSingle 68 = .ok (.aload_n 0, 1) := by decide +kernel
theorem dX3_isSingle_69 : decode cX3_isSingle 69 = .ok (.iload_n 1, 1) := by decide +kernel
theorem dX3_isSingle_70 : decode cX3_isSingle 70 = .ok (.lload 6, 2) := by decide +kernel
theorem dX3_isSingle_72 : decode cX3_isSingle 72 = .ok (.l2i, 1) := by decide +kernel
theorem dX3_isSingle_73 : decode cX3_isSingle 73 = .ok (.invokevirtual 72, 3) := by decide +kernel
theorem dX3_isSingle_76 : decode cX3_isSingle 76 = .ok (.iload_n 2, 1) := by decide +kernel
theorem dX3_isSingle_77 : decode cX3_isSingle 77 = .ok (.if_icmp .eq 5, 3) := by decide +kernel
theorem dX3_isSingle_80 : decode cX3_isSingle 80 = .ok (.iconst 0, 1) := by decide +kernel
theorem dX3_isSingle_81 : decode cX3_isSingle 81 = .ok (.ireturn, 1) := by decide +kernel
theorem dX3_isSingle_82 : decode cX3_isSingle 82 = .ok (.lload 6, 2) := by decide +kernel
theorem dX3_isSingle_84 : decode cX3_isSingle 84 = .ok (.lload 4, 2) := by decide +kernel
theorem dX3_isSingle_86 : decode cX3_isSingle 86 = .ok (.invokestatic 75, 3) := by decide +kernel
theorem dX3_isSingle_89 : decode cX3_isSingle 89 = .ok (.aload_n 0, 1) := by decide +kernel
theorem dX3_isSingle_90 : decode cX3_isSingle 90 = .ok (.getfield 13, 3) := by decide +kernel
theorem dX3_isSingle_93 : decode cX3_isSingle 93 = .ok (.iload_n 3, 1) := by decide +kernel
theorem dX3_isSingle_94 : decode cX3_isSingle 94 = .ok (.iconst 2, 1) := by decide +kernel
theorem dX3_isSingle_95 : decode cX3_isSingle 95 = .ok (.iadd, 1) := by decide +kernel
theorem dX3_isSingle_96 : decode cX3_isSingle 96 = .ok (.laload, 1) := by decide +kernel
theorem dX3_isSingle_97 : decode cX3_isSingle 97 = .ok (.lcmp, 1) := by decide +kernel
theorem dX3_isSingle_98 : decode cX3_isSingle 98 = .ok (.ifCond .ne 7, 3) := by decide +kernel
theorem dX3_isSingle_101 : decode cX3_isSingle 101 = .ok (.iconst 1, 1) := by decide +kernel
theorem dX3_isSingle_102 : decode cX3_isSingle 102 = .ok (.goto 4, 3) := by decide +kernel
theorem dX3_isSingle_105 : decode cX3_isSingle 105 = .ok (.iconst 0, 1) := by decide +kernel
theorem dX3_isSingle_106 : decode cX3_isSingle 106 = .ok (.ireturn, 1) := by decide +kernel
theorem dX3_bucketOf_0 : decode cX3_bucketOf 0 = .ok (.iload_n 2, 1) := by decide +kernel
theorem dX3_bucketOf_1 : decode cX3_bucketOf 1 = .ok (.iconst 2, 1) := by decide +kernel
theorem dX3_bucketOf_2 : decode cX3_bucketOf 2 = .ok (.iload_n 1, 1) := by decide +kernel
theorem dX3_bucketOf_3 : decode cX3_bucketOf 3 = .ok (.imul, 1) := by decide +kernel
theorem dX3_bucketOf_4 : decode cX3_bucketOf 4 = .ok (.iconst 3, 1) := by decide +kernel
theorem dX3_bucketOf_5 : decode cX3_bucketOf 5 = .ok (.iadd, 1) := by decide +kernel
theorem dX3_bucketOf_6 : decode cX3_bucketOf 6 = .ok (.imul, 1) := by decide +kernel
theorem dX3_bucketOf_7 : decode cX3_bucketOf 7 = .ok (.iload_n 2, 1) := by decide +kernel
theorem dX3_bucketOf_8 : decode cX3_bucketOf 8 = .ok (.iconst 5, 1) := by decide +kernel
theorem dX3_bucketOf_9 : decode cX3_bucketOf 9 = .ok (.iload_n 1, 1) := by decide +kernel
theorem dX3_bucketOf_10 : decode cX3_bucketOf 10 = .ok (.imul, 1) := by decide +kernel
theorem dX3_bucketOf_11 : decode cX3_bucketOf 11 = .ok (.bipush 7, 2) := by decide +kernel
theorem dX3_bucketOf_13 : decode cX3_bucketOf 13 = .ok (.iadd, 1) := by decide +kernel
theorem dX3_bucketOf_14 : decode cX3_bucketOf 14 = .ok (.idiv, 1) := by decide +kernel
theorem dX3_bucketOf_15 : decode cX3_bucketOf 15 = .ok (.iadd, 1) := by decide +kernel
theorem dX3_bucketOf_16 : decode cX3_bucketOf 16 = .ok (.aload_n 0, 1) := by decide +kernel
theorem dX3_bucketOf_17 : decode cX3_bucketOf 17 = .ok (.getfield 31, 3) := by decide +kernel
theorem dX3_bucketOf_20 : decode cX3_bucketOf 20 = .ok (.irem, 1) := by decide +kernel
theorem dX3_bucketOf_21 : decode cX3_bucketOf 21 = .ok (.ireturn, 1) := by decide +kernel
theorem dX3_squareSum_0 : decode cX3_squareSum 0 = .ok (.lload_n 2, 1) := by decide +kernel
theorem dX3_squareSum_1 : decode cX3_squareSum 1 = .ok (.ldc2_w 79, 3) := by decide +kernel
theorem dX3_squareSum_4 : decode cX3_squareSum 4 = .ok (.invokestatic 81, 3) := by decide +kernel
theorem dX3_squareSum_7 : decode cX3_squareSum 7 = .ok (.lload_n 0, 1) := by decide +kernel
theorem dX3_squareSum_8 : decode cX3_squareSum 8 = .ok (.lload_n 0, 1) := by decide +kernel
theorem dX3_squareSum_9 : decode cX3_squareSum 9 = .ok (.lmul, 1) := by decide +kernel
theorem dX3_squareSum_10 : decode cX3_squareSum 10 = .ok (.ldc2_w 79, 3) := by decide +kernel
theorem dX3_squareSum_13 : decode cX3_squareSum 13 = .ok (.lrem, 1) := by decide +kernel
theorem dX3_squareSum_14 : decode cX3_squareSum 14 = .ok (.lmul, 1) := by decide +kernel
theorem dX3_squareSum_15 : decode cX3_squareSum 15 = .ok (.ldc2_w 79, 3) := by decide +kernel
theorem dX3_squareSum_18 : decode cX3_squareSum 18 = .ok (.lrem, 1) := by decide +kernel
theorem dX3_squareSum_19 : decode cX3_squareSum 19 = .ok (.lreturn, 1) := by decide +kernel
theorem dX3_join_0 : decode cX3_join 0 = .ok (.iload_n 2, 1) := by decide +kernel
theorem dX3_join_1 : decode cX3_join 1 = .ok (.i2l, 1) := by decide +kernel
theorem dX3_join_2 : decode cX3_join 2 = .ok (.lload_n 3, 1) := by decide +kernel
theorem dX3_join_3 : decode cX3_join 3 = .ok (.invokestatic 75, 3) := by decide +kernel
theorem dX3_join_6 : decode cX3_join 6 = .ok (.lstore 5, 2) := by decide +kernel
theorem dX3_join_8 : decode cX3_join 8 = .ok (.iconst 0, 1) := by decide +kernel
theorem dX3_join_9 : decode cX3_join 9 = .ok (.istore 7, 2) := by decide +kernel
theorem dX3_join_11 : decode cX3_join 11 = .ok (.iload 7, 2) := by decide +kernel
theorem dX3_join_13 : decode cX3_join 13 = .ok (.aload_n 0, 1) := by decide +kernel
theorem dX3_join_14 : decode cX3_join 14 = .ok (.getfield 27, 3) := by decide +kernel
theorem dX3_join_17 : decode cX3_join 17 = .ok (.if_icmp .ge 63, 3) := by decide +kernel
theorem dX3_join_20 : decode cX3_join 20 = .ok (.iload 7, 2) := by decide +kernel
theorem dX3_join_22 : decode cX3_join 22 = .ok (.aload_n 0, 1) := by decide +kernel
theorem dX3_join_23 : decode cX3_join 23 = .ok (.iload 7, 2) := by decide +kernel
theorem dX3_join_25 : decode cX3_join 25 = .ok (.iload_n 2, 1) := by decide +kernel
theorem dX3_join_26 : decode cX3_join 26 = .ok (.invokevirtual 72, 3) := by decide +kernel
theorem dX3_join_29 : decode cX3_join 29 = .ok (.invokestatic 66, 3) := by decide +kernel
theorem dX3_join_32 : decode cX3_join 32 = .ok (.istore 8, 2) := by decide +kernel
theorem dX3_join_34 : decode cX3_join 34 = .ok (.aload_n 1, 1) := by decide +kernel
theorem dX3_join_35 : decode cX3_join 35 = .ok (.iload 8, 2) := by decide +kernel
theorem dX3_join_37 : decode cX3_join 37 = .ok (.dup2, 1) := by decide +kernel
theorem dX3_join_38 : decode cX3_join 38 = .ok (.laload, 1) := by decide +kernel
theorem dX3_join_39 : decode cX3_join 39 = .ok (.lload_n 3, 1) := by decide +kernel
theorem dX3_join_40 : decode cX3_join 40 = .ok (.ladd, 1) := by decide +kernel
theorem dX3_join_41 : decode cX3_join 41 = .ok (.lastore, 1) := by decide +kernel
theorem dX3_join_42 : decode cX3_join 42 = .ok (.aload_n 1, 1) := by decide +kernel
theorem dX3_join_43 : decode cX3_join 43 = .ok (.iload 8, 2) := by decide +kernel
theorem dX3_join_45 : decode cX3_join 45 = .ok (.iconst 1, 1) := by decide +kernel
theorem dX3_join_46 : decode cX3_join 46 = .ok (.iadd, 1) := by decide +kernel
theorem dX3_join_47 : decode cX3_join 47 = .ok (.dup2, 1) := by decide +kernel
theorem dX3_join_48 : decode cX3_join 48 = .ok (.laload, 1) := by decide +kernel
theorem dX3_join_49 : decode cX3_join 49 = .ok (.lload_n 3, 1) := by decide +kernel
theorem dX3_join_50 : decode cX3_join 50 = .ok (.iload_n 2, 1) := by decide +kernel
theorem dX3_join_51 : decode cX3_join 51 = .ok (.i2l, 1) := by decide +kernel
theorem dX3_join_52 : decode cX3_join 52 = .ok (.lmul, 1) := by decide +kernel
theorem dX3_join_53 : decode cX3_join 53 = .ok (.ladd, 1) := by decide +kernel
theorem dX3_join_54 : decode cX3_join 54 = .ok (.lastore, 1) := by decide +kernel
theorem dX3_join_55 : decode cX3_join 55 = .ok (.aload_n 1, 1) := by decide +kernel
theorem dX3_join_56 : decode cX3_join 56 = .ok (.iload 8, 2) := by decide +kernel
theorem dX3_join_58 : decode cX3_join 58 = .ok (.iconst 2, 1) := by decide +kernel
theorem dX3_join_59 : decode cX3_join 59 = .ok (.iadd, 1) := by decide +kernel
theorem dX3_join_60 : decode cX3_join 60 = .ok (.aload_n 1, 1) := by decide +kernel
theorem dX3_join_61 : decode cX3_join 61 = .ok (.iload 8, 2) := by decide +kernel
theorem dX3_join_63 : decode cX3_join 63 = .ok (.iconst 2, 1) := by decide +kernel
theorem dX3_join_64 : decode cX3_join 64 = .ok (.iadd, 1) := by decide +kernel
theorem dX3_join_65 : decode cX3_join 65 = .ok (.laload, 1) := by decide +kernel
theorem dX3_join_66 : decode cX3_join 66 = .ok (.lload 5, 2) := by decide +kernel
theorem dX3_join_68 : decode cX3_join 68 = .ok (.ladd, 1) := by decide +kernel
theorem dX3_join_69 : decode cX3_join 69 = .ok (.ldc2_w 79, 3) := by decide +kernel
theorem dX3_join_72 : decode cX3_join 72 = .ok (.lrem, 1) := by decide +kernel
theorem dX3_join_73 : decode cX3_join 73 = .ok (.lastore, 1) := by decide +kernel
theorem dX3_join_74 : decode cX3_join 74 = .ok (.iinc 7 1, 3) := by decide +kernel
theorem dX3_join_77 : decode cX3_join 77 = .ok (.goto (-66), 3) := by decide +kernel
theorem dX3_join_80 : decode cX3_join 80 = .ok (.return_, 1) := by decide +kernel
theorem dX3_nothingLeft_0 : decode cX3_nothingLeft 0 = .ok (.iconst 0, 1) := by decide +kernel
theorem dX3_nothingLeft_1 : decode cX3_nothingLeft 1 = .ok (.istore_n 1, 1) := by decide +kernel
theorem dX3_nothingLeft_2 : decode cX3_nothingLeft 2 = .ok (.iload_n 1, 1) := by decide +kernel
theorem dX3_nothingLeft_3 : decode cX3_nothingLeft 3 = .ok (.aload_n 0, 1) := by decide +kernel
theorem dX3_nothingLeft_4 : decode cX3_nothingLeft 4 = .ok (.getfield 13, 3) := by decide +kernel
theorem dX3_nothingLeft_7 : decode cX3_nothingLeft 7 = .ok (.arraylength, 1) := by decide +kernel
theorem dX3_nothingLeft_8 : decode cX3_nothingLeft 8 = .ok (.if_icmp .ge 22, 3) := by decide +kernel
theorem dX3_nothingLeft_11 : decode cX3_nothingLeft 11 = .ok (.aload_n 0, 1) := by decide +kernel
theorem dX3_nothingLeft_12 : decode cX3_nothingLeft 12 = .ok (.getfield 13, 3) := by decide +kernel
theorem dX3_nothingLeft_15 : decode cX3_nothingLeft 15 = .ok (.iload_n 1, 1) := by decide +kernel
theorem dX3_nothingLeft_16 : decode cX3_nothingLeft 16 = .ok (.laload, 1) := by decide +kernel
theorem dX3_nothingLeft_17 : decode cX3_nothingLeft 17 = .ok (.lconst 0, 1) := by decide +kernel
theorem dX3_nothingLeft_18 : decode cX3_nothingLeft 18 = .ok (.lcmp, 1) := by decide +kernel
theorem dX3_nothingLeft_19 : decode cX3_nothingLeft 19 = .ok (.ifCond .eq 5, 3) := by decide +kernel
theorem dX3_nothingLeft_22 : decode cX3_nothingLeft 22 = .ok (.iconst 0, 1) := by decide +kernel
theorem dX3_nothingLeft_23 : decode cX3_nothingLeft 23 = .ok (.ireturn, 1) := by decide +kernel
theorem dX3_nothingLeft_24 : decode cX3_nothingLeft 24 = .ok (.iinc 1 1, 3) := by decide +kernel
theorem dX3_nothingLeft_27 : decode cX3_nothingLeft 27 = .ok (.goto (-25), 3) := by decide +kernel
theorem dX3_nothingLeft_30 : decode cX3_nothingLeft 30 = .ok (.iconst 1, 1) := by decide +kernel
theorem dX3_nothingLeft_31 : decode cX3_nothingLeft 31 = .ok (.ireturn, 1) := by decide +kernel
theorem dX4_init_0 : decode cX4_init 0 = .ok (.aload_n 0, 1) := by decide +kernel
theorem dX4_init_1 : decode cX4_init 1 = .ok (.invokespecial 3, 3) := by decide +kernel
theorem dX4_init_4 : decode cX4_init 4 = .ok (.aload_n 0, 1) := by decide +kernel
theorem dX4_init_5 : decode cX4_init 5 = .ok (.bipush 6, 2) := by decide +kernel
theorem dX4_init_7 : decode cX4_init 7 = .ok (.bipush 12, 2) := by decide +kernel
theorem dX4_init_9 : decode cX4_init 9 = .ok (.multianewarray 9 2, 4) := by decide +kernel
theorem dX4_init_13 : decode cX4_init 13 = .ok (.putfield 11, 3) := by decide +kernel
theorem dX4_init_16 : decode cX4_init 16 = .ok (.aload_n 0, 1) := by decide +kernel
theorem dX4_init_17 : decode cX4_init 17 = .ok (.bipush 98, 2) := by decide +kernel
theorem dX4_init_19 : decode cX4_init 19 = .ok (.newarray .int, 2) := by decide +kernel
theorem dX4_init_21 : decode cX4_init 21 = .ok (.putfield 16, 3) := by decide +kernel
theorem dX4_init_24 : decode cX4_init 24 = .ok (.aload_n 0, 1) := by decide +kernel
theorem dX4_init_25 : decode cX4_init 25 = .ok (.bipush 11, 2) := by decide +kernel
theorem dX4_init_27 : decode cX4_init 27 = .ok (.iconst 1, 1) := by decide +kernel
theorem dX4_init_28 : decode cX4_init 28 = .ok (.iconst 1, 1) := by decide +kernel
theorem dX4_init_29 : decode cX4_init 29 = .ok (.invokevirtual 20, 3) := by decide +kernel
theorem dX4_init_32 : decode cX4_init 32 = .ok (.return_, 1) := by decide +kernel
theorem dX4_shape_0 : decode cX4_shape 0 = .ok (.aload_n 0, 1) := by decide +kernel
theorem dX4_shape_1 : decode cX4_shape 1 = .ok (.iload_n 1, 1) := by decide +kernel
theorem dX4_shape_2 : decode cX4_shape 2 = .ok (.putfield 24, 3) := by decide +kernel
theorem dX4_shape_5 : decode cX4_shape 5 = .ok (.aload_n 0, 1) := by decide +kernel
theorem dX4_shape_6 : decode cX4_shape 6 = .ok (.iload_n 2, 1) := by decide +kernel
theorem dX4_shape_7 : decode cX4_shape 7 = .ok (.putfield 28, 3) := by decide +kernel
theorem dX4_shape_10 : decode cX4_shape 10 = .ok (.aload_n 0, 1) := by decide +kernel
theorem dX4_shape_11 : decode cX4_shape 11 = .ok (.iload_n 3, 1) := by decide +kernel
theorem dX4_shape_12 : decode cX4_shape 12 = .ok (.putfield 31, 3) := by decide +kernel
theorem dX4_shape_15 : decode cX4_shape 15 = .ok (.iconst 0, 1) := by decide +kernel
theorem dX4_shape_16 : decode cX4_shape 16 = .ok (.istore 4, 2) := by decide +kernel
theorem dX4_shape_18 : decode cX4_shape 18 = .ok (.iload 4, 2) := by decide +kernel
theorem dX4_shape_20 : decode cX4_shape 20 = .ok (.bipush 6, 2) := by decide +kernel
theorem dX4_shape_22 : decode cX4_shape 22 = .ok (.if_icmp .ge 19, 3) := by decide +kernel
theorem dX4_shape_25 : decode cX4_shape 25 = .ok (.aload_n 0, 1) := by decide +kernel
theorem dX4_shape_26 : decode cX4_shape 26 = .ok (.getfield 11, 3) := by decide +kernel
theorem dX4_shape_29 : decode cX4_shape 29 = .ok (.iload 4, 2) := by decide +kernel
theorem dX4_shape_31 : decode cX4_shape 31 = .ok (.aaload, 1) := by decide +kernel
theorem dX4_shape_32 : decode cX4_shape 32 = .ok (.invokestatic 34, 3) := by decide +kernel
theorem dX4_shape_35 : decode cX4_shape 35 = .ok (.iinc 4 1, 3) := by decide +kernel
theorem dX4_shape_38 : decode cX4_shape 38 = .ok (.goto (-20), 3) := by decide +kernel
theorem dX4_shape_41 : decode cX4_shape 41 = .ok (.aload_n 0, 1) := by decide +kernel
theorem dX4_shape_42 : decode cX4_shape 42 = .ok (.getfield 16, 3) := by decide +kernel
theorem dX4_shape_45 : decode cX4_shape 45 = .ok (.iconst 1, 1) := by decide +kernel
theorem dX4_shape_46 : decode cX4_shape 46 = .ok (.iconst 1, 1) := by decide +kernel
theorem dX4_shape_47 : decode cX4_shape 47 = .ok (.iastore, 1) := by decide +kernel
theorem dX4_shape_48 : decode cX4_shape 48 = .ok (.iconst 2, 1) := by decide +kernel
theorem dX4_shape_49 : decode cX4_shape 49 = .ok (.istore 4, 2) := by decide +kernel
theorem dX4_shape_51 : decode cX4_shape 51 = .ok (.iload 4, 2) := by decide +kernel
theorem dX4_shape_53 : decode cX4_shape 53 = .ok (.aload_n 0, 1) := by decide +kernel
theorem dX4_shape_54 : decode cX4_shape 54 = .ok (.getfield 24, 3) := by decide +kernel
theorem dX4_shape_57 : decode cX4_shape 57 = .ok (.if_icmp .ge 46, 3) := by decide +kernel
theorem dX4_shape_60 : decode cX4_shape 60 = .ok (.aload_n 0, 1) := by decide +kernel
theorem dX4_shape_61 : decode cX4_shape 61 = .ok (.getfield 16, 3) := by decide +kernel
theorem dX4_shape_64 : decode cX4_shape 64 = .ok (.iload 4, 2) := by decide +kernel
theorem dX4_shape_66 : decode cX4_shape 66 = .ok (.aload_n 0, 1) := by decide +kernel
theorem dX4_shape_67 : decode cX4_shape 67 = .ok (.getfield 24, 3) := by decide +kernel
theorem dX4_shape_70 : decode cX4_shape 70 = .ok (.aload_n 0, 1) := by decide +kernel
theorem dX4_shape_71 : decode cX4_shape 71 = .ok (.getfield 24, 3) := by decide +kernel
theorem dX4_shape_74 : decode cX4_shape 74 = .ok (.iload 4, 2) := by decide +kernel
theorem dX4_shape_76 : decode cX4_shape 76 = .ok (.idiv, 1) := by decide +kernel
theorem dX4_shape_77 : decode cX4_shape 77 = .ok (.isub, 1) := by decide +kernel
theorem dX4_shape_78 : decode cX4_shape 78 = .ok (.aload_n 0, 1) := by decide +kernel
theorem dX4_shape_79 : decode cX4_shape 79 = .ok (.getfield 16, 3) := by decide +kernel
theorem dX4_shape_82 : decode cX4_shape 82 = .ok (.aload_n 0, 1) := by decide +kernel
theorem dX4_shape_83 : decode cX4_shape 83 = .ok (.getfield 24, 3) := by decide +kernel
theorem dX4_shape_86 : decode cX4_shape 86 = .ok (.iload 4, 2) := by decide +kernel
theorem dX4_shape_88 : decode cX4_shape 88 = .ok (.irem, 1) := by decide +kernel
theorem dX4_shape_89 : decode cX4_shape 89 = .ok (.iaload, 1) := by decide +kernel
theorem dX4_shape_90 : decode cX4_shape 90 = .ok (.imul, 1) := by decide +kernel
theorem dX4_shape_91 : decode cX4_shape 91 = .ok (.aload_n 0, 1) := by decide +kernel
theorem dX4_shape_92 : decode cX4_shape 92 = .ok (.getfield 24, 3) := by decide +kernel
theorem dX4_shape_95 : decode cX4_shape 95 = .ok (.irem, 1) := by decide +kernel
theorem dX4_shape_96 : decode cX4_shape 96 = .ok (.iastore, 1) := by decide +kernel
theorem dX4_shape_97 : decode cX4_shape 97 = .ok (.iinc 4 1, 3) := by decide +kernel
theorem dX4_shape_100 : decode cX4_shape 100 = .ok (.goto (-49), 3) := by decide +kernel
theorem dX4_shape_103 : decode cX4_shape 103 = .ok (.return_, 1) := by decide +kernel
theorem dX4_has_0 : decode cX4_has 0 = .ok (.iload_n 1, 1) := by decide +kernel
theorem dX4_has_1 : decode cX4_has 1 = .ok (.ifCond .lt 27, 3) := by decide +kernel
theorem dX4_has_4 : decode cX4_has 4 = .ok (.iload_n 1, 1) := by decide +kernel
theorem dX4_has_5 : decode cX4_has 5 = .ok (.aload_n 0, 1) := by decide +kernel
theorem dX4_has_6 : decode cX4_has 6 = .ok (.getfield 28, 3) := by decide +kernel
theorem dX4_has_9 : decode cX4_has 9 = .ok (.if_icmp .ge 19, 3) := by decide +kernel
theorem dX4_has_12 : decode cX4_has 12 = .ok (.iload_n 2, 1) := by decide +kernel
theorem dX4_has_13 : decode cX4_has 13 = .ok (.ifCond .lt 15, 3) := by decide +kernel
theorem dX4_has_16 : decode cX4_has 16 = .ok (.iload_n 2, 1) := by decide +kernel
theorem dX4_has_17 : decode cX4_has 17 = .ok (.aload_n 0, 1) := by decide +kernel
theorem dX4_has_18 : decode cX4_has 18 = .ok (.getfield 31, 3) := by decide +kernel
theorem dX4_has_21 : decode cX4_has 21 = .ok (.if_icmp .ge 7, 3) := by decide +kernel
theorem dX4_has_24 : decode cX4_has 24 = .ok (.iconst 1, 1) := by decide +kernel
theorem dX4_has_25 : decode cX4_has 25 = .ok (.goto 4, 3) := by decide +kernel
theorem dX4_has_28 : decode cX4_has 28 = .ok (.iconst 0, 1) := by decide +kernel
theorem dX4_has_29 : decode cX4_has 29 = .ok (.ireturn, 1) := by decide +kernel
theorem dX4_remainder_0 : decode cX4_remainder 0 = .ok (.iload_n 1, 1) := by decide +kernel
theorem dX4_remainder_1 : decode cX4_remainder 1 = .ok (.aload_n 0, 1) := by decide +kernel
theorem dX4_remainder_2 : decode cX4_remainder 2 = .ok (.getfield 24, 3) := by decide +kernel
theorem dX4_remainder_5 : decode cX4_remainder 5 = .ok (.invokestatic 38, 3) := by decide +kernel
theorem dX4_remainder_8 : decode cX4_remainder 8 = .ok (.ireturn, 1) := by decide +kernel
theorem dX4_quotient_0 : decode cX4_quotient 0 = .ok (.iload_n 1, 1) := by decide +kernel
theorem dX4_quotient_1 : decode cX4_quotient 1 = .ok (.aload_n 0, 1) := by decide +kernel
theorem dX4_quotient_2 : decode cX4_quotient 2 = .ok (.getfield 16, 3) := by decide +kernel
theorem dX4_quotient_5 : decode cX4_quotient 5 = .ok (.iload_n 2, 1) := by decide +kernel
theorem dX4_quotient_6 : decode cX4_quotient 6 = .ok (.iaload, 1) := by decide +kernel
theorem dX4_quotient_7 : decode cX4_quotient 7 = .ok (.imul, 1) := by decide +kernel
theorem dX4_quotient_8 : decode cX4_quotient 8 = .ok (.aload_n 0, 1) := by decide +kernel
theorem dX4_quotient_9 : decode cX4_quotient 9 = .ok (.getfield 24, 3) := by decide +kernel
theorem dX4_quotient_12 : decode cX4_quotient 12 = .ok (.irem, 1) := by decide +kernel
theorem dX4_quotient_13 : decode cX4_quotient 13 = .ok (.ireturn, 1) := by decide +kernel
theorem dX4_fillWithPowers_0 : decode cX4_fillWithPowers 0 = .ok (.iconst 0, 1) := by decide +kernel
theorem dX4_fillWithPowers_1 : decode cX4_fillWithPowers 1 = .ok (.istore_n 2, 1) := by decide +kernel
theorem dX4_fillWithPowers_2 : decode cX4_fillWithPowers 2 = .ok (.iload_n 2, 1) := by decide +kernel
theorem dX4_fillWithPowers_3 : decode cX4_fillWithPowers 3 = .ok (.aload_n 0, 1) := by decide +kernel
theorem dX4_fillWithPowers_4 : decode cX4_fillWithPowers 4 = .ok (.getfield 31, 3) := by decide +kernel
theorem dX4_fillWithPowers_7 : decode cX4_fillWithPowers 7 = .ok (.if_icmp .ge 50, 3) := by decide +kernel
theorem dX4_fillWithPowers_10 : decode cX4_fillWithPowers 10 = .ok (.iload_n 1, 1) := by decide +kernel
theorem dX4_fillWithPowers_11 : decode cX4_fillWithPowers 11 = .ok (.istore_n 3, 1) := by decide +kernel
theorem dX4_fillWithPowers_12 : decode cX4_fillWithPowers 12 = .ok (.iconst 0, 1) := by decide +kernel
theorem dX4_fillWithPowers_13 : decode cX4_fillWithPowers 13 = .ok (.istore 4, 2) := by decide +kernel
theorem dX4_fillWithPowers_15 : decode cX4_fillWithPowers 15 = .ok (.iload 4, 2) := by decide +kernel
theorem dX4_fillWithPowers_17 : decode cX4_fillWithPowers 17 = .ok (.aload_n 0, 1) := by decide +kernel
theorem dX4_fillWithPowers_18 : decode cX4_fillWithPowers 18 = .ok (.getfield 28, 3) := by decide +kernel
theorem dX4_fillWithPowers_21 : decode cX4_fillWithPowers 21 = .ok (.if_icmp .ge 30, 3) := by decide +kernel
theorem dX4_fillWithPowers_24 : decode cX4_fillWithPowers 24 = .ok (.aload_n 0, 1) := by decide +kernel
theorem dX4_fillWithPowers_25 : decode cX4_fillWithPowers 25 = .ok (.getfield 11, 3) := by decide +kernel
theorem dX4_fillWithPowers_28 : decode cX4_fillWithPowers 28 = .ok (.iload 4, 2) := by decide +kernel
theorem dX4_fillWithPowers_30 : decode cX4_fillWithPowers 30 = .ok (.aaload, 1) := by decide +kernel
theorem dX4_fillWithPowers_31 : decode cX4_fillWithPowers 31 = .ok (.iload_n 2, 1) := by decide +kernel
theorem dX4_fillWithPowers_32 : decode cX4_fillWithPowers 32 = .ok (.iload_n 3, 1) := by decide +kernel
theorem dX4_fillWithPowers_33 : decode cX4_fillWithPowers 33 = .ok (.iastore, 1) := by decide +kernel
theorem dX4_fillWithPowers_34 : decode cX4_fillWithPowers 34 = .ok (.iload_n 3, 1) := by decide +kernel
theorem dX4_fillWithPowers_35 : decode cX4_fillWithPowers 35 = .ok (.iload_n 2, 1) := by decide +kernel
theorem dX4_fillWithPowers_36 : decode cX4_fillWithPowers 36 = .ok (.iconst 1, 1) := by decide +kernel
theorem dX4_fillWithPowers_37 : decode cX4_fillWithPowers 37 = .ok (.iadd, 1) := by decide +kernel
theorem dX4_fillWithPowers_38 : decode cX4_fillWithPowers 38 = .ok (.imul, 1) := by decide +kernel
theorem dX4_fillWithPowers_39 : decode cX4_fillWithPowers 39 = .ok (.aload_n 0, 1) := by decide +kernel
theorem dX4_fillWithPowers_40 : decode cX4_fillWithPowers 40 = .ok (.getfield 24, 3) := by decide +kernel
theorem dX4_fillWithPowers_43 : decode cX4_fillWithPowers 43 = .ok (.irem, 1) := by decide +kernel
theorem dX4_fillWithPowers_44 : decode cX4_fillWithPowers 44 = .ok (.istore_n 3, 1) := by decide +kernel
theorem dX4_fillWithPowers_45 : decode cX4_fillWithPowers 45 = .ok (.iinc 4 1, 3) := by decide +kernel
theorem dX4_fillWithPowers_48 : decode cX4_fillWithPowers 48 = .ok (.goto (-33), 3) := by decide +kernel
theorem dX4_fillWithPowers_51 : decode cX4_fillWithPowers 51 = .ok (.iinc 2 1, 3) := by decide +kernel
theorem dX4_fillWithPowers_54 : decode cX4_fillWithPowers 54 = .ok (.goto (-52), 3) := by decide +kernel
theorem dX4_fillWithPowers_57 : decode cX4_fillWithPowers 57 = .ok (.return_, 1) := by decide +kernel
theorem dX4_sumsOf_0 : decode cX4_sumsOf 0 = .ok (.iconst 0, 1) := by decide +kernel
theorem dX4_sumsOf_1 : decode cX4_sumsOf 1 = .ok (.istore_n 3, 1) := by decide +kernel
theorem dX4_sumsOf_2 : decode cX4_sumsOf 2 = .ok (.iload_n 3, 1) := by decide +kernel
theorem dX4_sumsOf_3 : decode cX4_sumsOf 3 = .ok (.aload_n 0, 1) := by decide +kernel
theorem dX4_sumsOf_4 : decode cX4_sumsOf 4 = .ok (.getfield 28, 3) := by decide +kernel
theorem dX4_sumsOf_7 : decode cX4_sumsOf 7 = .ok (.if_icmp .ge 59, 3) := by decide +kernel
theorem dX4_sumsOf_10 : decode cX4_sumsOf 10 = .ok (.iconst 0, 1) := by decide +kernel
theorem dX4_sumsOf_11 : decode cX4_sumsOf 11 = .ok (.istore 4, 2) := by decide +kernel
theorem dX4_sumsOf_13 : decode cX4_sumsOf 13 = .ok (.iconst 0, 1) := by decide +kernel
theorem dX4_sumsOf_14 : decode cX4_sumsOf 14 = .ok (.istore 5, 2) := by decide +kernel
theorem dX4_sumsOf_16 : decode cX4_sumsOf 16 = .ok (.iload 5, 2) := by decide +kernel
theorem dX4_sumsOf_18 : decode cX4_sumsOf 18 = .ok (.aload_n 0, 1) := by decide +kernel
theorem dX4_sumsOf_19 : decode cX4_sumsOf 19 = .ok (.getfield 31, 3) := by decide +kernel
theorem dX4_sumsOf_22 : decode cX4_sumsOf 22 = .ok (.if_icmp .ge 28, 3) := by decide +kernel
theorem dX4_sumsOf_25 : decode cX4_sumsOf 25 = .ok (.iload 4, 2) := by decide +kernel
theorem dX4_sumsOf_27 : decode cX4_sumsOf 27 = .ok (.aload_n 0, 1) := by decide +kernel
theorem dX4_sumsOf_28 : decode cX4_sumsOf 28 = .ok (.getfield 11, 3) := by decide +kernel
theorem dX4_sumsOf_31 : decode cX4_sumsOf 31 = .ok (.iload_n 3, 1) := by decide +kernel
theorem dX4_sumsOf_32 : decode cX4_sumsOf 32 = .ok (.aaload, 1) := by decide +kernel
theorem dX4_sumsOf_33 : decode cX4_sumsOf 33 = .ok (.iload 5, 2) := by decide +kernel
theorem dX4_sumsOf_35 : decode cX4_sumsOf 35 = .ok (.iaload, 1) := by decide +kernel
theorem dX4_sumsOf_36 : decode cX4_sumsOf 36 = .ok (.aload_n 1, 1) := by decide +kernel
theorem dX4_sumsOf_37 : decode cX4_sumsOf 37 = .ok (.iload 5, 2) := by decide +kernel
theorem dX4_sumsOf_39 : decode cX4_sumsOf 39 = .ok (.iaload, 1) := by decide +kernel
theorem dX4_sumsOf_40 : decode cX4_sumsOf 40 = .ok (.imul, 1) := by decide +kernel
theorem dX4_sumsOf_41 : decode cX4_sumsOf 41 = .ok (.iadd, 1) := by decide +kernel
theorem dX4_sumsOf_42 : decode cX4_sumsOf 42 = .ok (.istore 4, 2) := by decide +kernel
theorem dX4_sumsOf_44 : decode cX4_sumsOf 44 = .ok (.iinc 5 1, 3) := by decide +kernel
theorem dX4_sumsOf_47 : decode cX4_sumsOf 47 = .ok (.goto (-31), 3) := by decide +kernel
theorem dX4_sumsOf_50 : decode cX4_sumsOf 50 = .ok (.aload_n 2, 1) := by decide +kernel
theorem dX4_sumsOf_51 : decode cX4_sumsOf 51 = .ok (.iload_n 3, 1) := by decide +kernel
theorem dX4_sumsOf_52 : decode cX4_sumsOf 52 = .ok (.iload 4, 2) := by decide +kernel
theorem dX4_sumsOf_54 : decode cX4_sumsOf 54 = .ok (.aload_n 0, 1) := by decide +kernel
theorem dX4_sumsOf_55 : decode cX4_sumsOf 55 = .ok (.getfield 24, 3) := by decide +kernel
theorem dX4_sumsOf_58 : decode cX4_sumsOf 58 = .ok (.irem, 1) := by decide +kernel
theorem dX4_sumsOf_59 : decode cX4_sumsOf 59 = .ok (.iastore, 1) := by decide +kernel
theorem dX4_sumsOf_60 : decode cX4_sumsOf 60 = .ok (.iinc 3 1, 3) := by decide +kernel
theorem dX4_sumsOf_63 : decode cX4_sumsOf 63 = .ok (.goto (-61), 3) := by decide +kernel
theorem dX4_sumsOf_66 : decode cX4_sumsOf 66 = .ok (.return_, 1) := by decide +kernel
theorem dX4_mostLike_0 : decode cX4_mostLike 0 = .ok (.iconst 0, 1) := by decide +kernel
theorem dX4_mostLike_1 : decode cX4_mostLike 1 = .ok (.istore_n 1, 1) := by decide +kernel
theorem dX4_mostLike_2 : decode cX4_mostLike 2 = .ok (.iconst 0, 1) := by decide +kernel
theorem dX4_mostLike_3 : decode cX4_mostLike 3 = .ok (.istore_n 2, 1) := by decide +kernel
theorem dX4_mostLike_4 : decode cX4_mostLike 4 = .ok (.iload_n 2, 1) := by decide +kernel
theorem dX4_mostLike_5 : decode cX4_mostLike 5 = .ok (.aload_n 0, 1) := by decide +kernel
theorem dX4_mostLike_6 : decode cX4_mostLike 6 = .ok (.getfield 31, 3) := by decide +kernel
theorem dX4_mostLike_9 : decode cX4_mostLike 9 = .ok (.if_icmp .ge 33, 3) := by decide +kernel
theorem dX4_mostLike_12 : decode cX4_mostLike 12 = .ok (.iconst 0, 1) := by decide +kernel
theorem dX4_mostLike_13 : decode cX4_mostLike 13 = .ok (.istore_n 3, 1) := by decide +kernel
theorem dX4_mostLike_14 : decode cX4_mostLike 14 = .ok (.iload_n 3, 1) := by decide +kernel
theorem dX4_mostLike_15 : decode cX4_mostLike 15 = .ok (.iload_n 2, 1) := by decide +kernel
theorem dX4_mostLike_16 : decode cX4_mostLike 16 = .ok (.if_icmp .ge 20, 3) := by decide +kernel
theorem dX4_mostLike_19 : decode cX4_mostLike 19 = .ok (.iload_n 1, 1) := by decide +kernel
theorem dX4_mostLike_20 : decode cX4_mostLike 20 = .ok (.aload_n 0, 1) := by decide +kernel
theorem dX4_mostLike_21 : decode cX4_mostLike 21 = .ok (.iload_n 2, 1) := by decide +kernel
theorem dX4_mostLike_22 : decode cX4_mostLike 22 = .ok (.iload_n 3, 1) := by decide +kernel
theorem dX4_mostLike_23 : decode cX4_mostLike 23 = .ok (.invokevirtual 44, 3) := by decide +kernel
theorem dX4_mostLike_26 : decode cX4_mostLike 26 = .ok (.invokestatic 47, 3) := by decide +kernel
theorem dX4_mostLike_29 : decode cX4_mostLike 29 = .ok (.istore_n 1, 1) := by decide +kernel
theorem dX4_mostLike_30 : decode cX4_mostLike 30 = .ok (.iinc 3 1, 3) := by decide +kernel
theorem dX4_mostLike_33 : decode cX4_mostLike 33 = .ok (.goto (-19), 3) := by decide +kernel
theorem dX4_mostLike_36 : decode cX4_mostLike 36 = .ok (.iinc 2 1, 3) := by decide +kernel
theorem dX4_mostLike_39 : decode cX4_mostLike 39 = .ok (.goto (-35), 3) := by decide +kernel
theorem dX4_mostLike_42 : decode cX4_mostLike 42 = .ok (.iload_n 1, 1) := by decide +kernel
theorem dX4_mostLike_43 : decode cX4_mostLike 43 = .ok (.ireturn, 1) := by decide +kernel
theorem dX4_likeness_0 : decode cX4_likeness 0 = .ok (.iconst 0, 1) := by decide +kernel
theorem dX4_likeness_1 : decode cX4_likeness 1 = .ok (.istore_n 3, 1) := by decide +kernel
theorem dX4_likeness_2 : decode cX4_likeness 2 = .ok (.iconst 0, 1) := by decide +kernel
theorem dX4_likeness_3 : decode cX4_likeness 3 = .ok (.istore 4, 2) := by decide +kernel
theorem dX4_likeness_5 : decode cX4_likeness 5 = .ok (.iconst 0, 1) := by decide +kernel
theorem dX4_likeness_6 : decode cX4_likeness 6 = .ok (.istore 5, 2) := by decide +kernel
theorem dX4_likeness_8 : decode cX4_likeness 8 = .ok (.iload 5, 2) := by decide +kernel
theorem dX4_likeness_10 : decode cX4_likeness 10 = .ok (.aload_n 0, 1) := by decide +kernel
theorem dX4_likeness_11 : decode cX4_likeness 11 = .ok (.getfield 28, 3) := by decide +kernel
theorem dX4_likeness_14 : decode cX4_likeness 14 = .ok (.if_icmp .ge 78, 3) := by decide +kernel
theorem dX4_likeness_17 : decode cX4_likeness 17 = .ok (.aload_n 0, 1) := by decide +kernel
theorem dX4_likeness_18 : decode cX4_likeness 18 = .ok (.getfield 11, 3) := by decide +kernel
theorem dX4_likeness_21 : decode cX4_likeness 21 = .ok (.iload 5, 2) := by decide +kernel
theorem dX4_likeness_23 : decode cX4_likeness 23 = .ok (.aaload, 1) := by decide +kernel
theorem dX4_likeness_24 : decode cX4_likeness 24 = .ok (.iload_n 1, 1) := by decide +kernel
theorem dX4_likeness_25 : decode cX4_likeness 25 = .ok (.iaload, 1) := by decide +kernel
theorem dX4_likeness_26 : decode cX4_likeness 26 = .ok (.ifCond .ne 21, 3) := by decide +kernel
theorem dX4_likeness_29 : decode cX4_likeness 29 = .ok (.aload_n 0, 1) := by decide +kernel
theorem dX4_likeness_30 : decode cX4_likeness 30 = .ok (.getfield 11, 3) := by decide +kernel
theorem dX4_likeness_33 : decode cX4_likeness 33 = .ok (.iload 5, 2) := by decide +kernel
theorem dX4_likeness_35 : decode cX4_likeness 35 = .ok (.aaload, 1) := by decide +kernel
theorem dX4_likeness_36 : decode cX4_likeness 36 = .ok (.iload_n 2, 1) := by decide +kernel
theorem dX4_likeness_37 : decode cX4_likeness 37 = .ok (.iaload, 1) := by decide +kernel
theorem dX4_likeness_38 : decode cX4_likeness 38 = .ok (.ifCond .ne 9, 3) := by decide +kernel
theorem dX4_likeness_41 : decode cX4_likeness 41 = .ok (.iinc 3 1, 3) := by decide +kernel
theorem dX4_likeness_44 : decode cX4_likeness 44 = .ok (.goto 42, 3) := by decide +kernel
theorem dX4_likeness_47 : decode cX4_likeness 47 = .ok (.aload_n 0, 1) := by decide +kernel
theorem dX4_likeness_48 : decode cX4_likeness 48 = .ok (.getfield 11, 3) := by decide +kernel
theorem dX4_likeness_51 : decode cX4_likeness 51 = .ok (.iload 5, 2) := by decide +kernel
theorem dX4_likeness_53 : decode cX4_likeness 53 = .ok (.aaload, 1) := by decide +kernel
theorem dX4_likeness_54 : decode cX4_likeness 54 = .ok (.iload_n 1, 1) := by decide +kernel
theorem dX4_likeness_55 : decode cX4_likeness 55 = .ok (.iaload, 1) := by decide +kernel
theorem dX4_likeness_56 : decode cX4_likeness 56 = .ok (.ifCond .eq 30, 3) := by decide +kernel
theorem dX4_likeness_59 : decode cX4_likeness 59 = .ok (.aload_n 0, 1) := by decide +kernel
theorem dX4_likeness_60 : decode cX4_likeness 60 = .ok (.getfield 11, 3) := by decide +kernel
theorem dX4_likeness_63 : decode cX4_likeness 63 = .ok (.iload 5, 2) := by decide +kernel
theorem dX4_likeness_65 : decode cX4_likeness 65 = .ok (.aaload, 1) := by decide +kernel
theorem dX4_likeness_66 : decode cX4_likeness 66 = .ok (.iload_n 2, 1) := by decide +kernel
theorem dX4_likeness_67 : decode cX4_likeness 67 = .ok (.iaload, 1) := by decide +kernel
theorem dX4_likeness_68 : decode cX4_likeness 68 = .ok (.ifCond .eq 18, 3) := by decide +kernel
theorem dX4_likeness_71 : decode cX4_likeness 71 = .ok (.iload 4, 2) := by decide +kernel
theorem dX4_likeness_73 : decode cX4_likeness 73 = .ok (.aload_n 0, 1) := by decide +kernel
theorem dX4_likeness_74 : decode cX4_likeness 74 = .ok (.iload 5, 2) := by decide +kernel
theorem dX4_likeness_76 : decode cX4_likeness 76 = .ok (.iload_n 1, 1) := by decide +kernel
theorem dX4_likeness_77 : decode cX4_likeness 77 = .ok (.iload_n 2, 1) := by decide +kernel
theorem dX4_likeness_78 : decode cX4_likeness 78 = .ok (.invokevirtual 50, 3) := by decide +kernel
theorem dX4_likeness_81 : decode cX4_likeness 81 = .ok (.invokestatic 47, 3) := by decide +kernel
theorem dX4_likeness_84 : decode cX4_likeness 84 = .ok (.istore 4, 2) := by decide +kernel
theorem dX4_likeness_86 : decode cX4_likeness 86 = .ok (.iinc 5 1, 3) := by decide +kernel
theorem dX4_likeness_89 : decode cX4_likeness 89 = .ok (.goto (-81), 3) := by decide +kernel
theorem dX4_likeness_92 : decode cX4_likeness 92 = .ok (.iload_n 3, 1) := by decide +kernel
theorem dX4_likeness_93 : decode cX4_likeness 93 = .ok (.iload 4, 2) := by decide +kernel
theorem dX4_likeness_95 : decode cX4_likeness 95 = .ok (.iadd, 1) := by decide +kernel
theorem dX4_likeness_96 : decode cX4_likeness 96 = .ok (.ireturn, 1) := by decide +kernel
theorem dX4_placesWithFactorOf_0 : decode cX4_placesWithFactorOf 0 = .ok (.aload_n 0, 1) := by decide +kernel
theorem dX4_placesWithFactorOf_1 : decode cX4_placesWithFactorOf 1 = .ok (.aload_n 0, 1) := by decide +kernel
theorem dX4_placesWithFactorOf_2 : decode cX4_placesWithFactorOf 2 = .ok (.getfield 11, 3) := by decide +kernel
theorem dX4_placesWithFactorOf_5 : decode cX4_placesWithFactorOf 5 = .ok (.iload_n 1, 1) := by decide +kernel
theorem dX4_placesWithFactorOf_6 : decode cX4_placesWithFactorOf 6 = .ok (.aaload, 1) := by decide +kernel
theorem dX4_placesWithFactorOf_7 : decode cX4_placesWithFactorOf 7 = .ok (.iload_n 2, 1) := by decide +kernel
theorem dX4_placesWithFactorOf_8 : decode cX4_placesWithFactorOf 8 = .ok (.iaload, 1) := by decide +kernel
theorem dX4_placesWithFactorOf_9 : decode cX4_placesWithFactorOf 9 = .ok (.aload_n 0, 1) := by decide +kernel
theorem dX4_placesWithFactorOf_10 : decode cX4_placesWithFactorOf 10 = .ok (.getfield 11, 3) := by decide +kernel
theorem dX4_placesWithFactorOf_13 : decode cX4_placesWithFactorOf 13 = .ok (.iload_n 1, 1) := by decide +kernel
theorem dX4_placesWithFactorOf_14 : decode cX4_placesWithFactorOf 14 = .ok (.aaload, 1) := by decide +kernel
theorem dX4_placesWithFactorOf_15 : decode cX4_placesWithFactorOf 15 = .ok (.iload_n 3, 1) := by decide +kernel
theorem dX4_placesWithFactorOf_16 : decode cX4_placesWithFactorOf 16 = .ok (.iaload, 1) := by decide +kernel
theorem dX4_placesWithFactorOf_17 : decode cX4_placesWithFactorOf 17 = .ok (.invokevirtual 54, 3) := by decide +kernel
theorem dX4_placesWithFactorOf_20 : decode cX4_placesWithFactorOf 20 = .ok (.istore 4, 2) := by decide +kernel
theorem dX4_placesWithFactorOf_22 : decode cX4_placesWithFactorOf 22 = .ok (.iconst 0, 1) := by decide +kernel
theorem dX4_placesWithFactorOf_23 : decode cX4_placesWithFactorOf 23 = .ok (.istore 5, 2) := by decide +kernel
theorem dX4_placesWithFactorOf_25 : decode cX4_placesWithFactorOf 25 = .ok (.iconst 0, 1) := by decide +kernel
theorem dX4_placesWithFactorOf_26 : decode cX4_placesWithFactorOf 26 = .ok (.istore 6, 2) := by decide +kernel
theorem dX4_placesWithFactorOf_28 : decode cX4_placesWithFactorOf 28 = .ok (.iload 6, 2) := by decide +kernel
theorem dX4_placesWithFactorOf_30 : decode cX4_placesWithFactorOf 30 = .ok (.aload_n 0, 1) := by decide +kernel
theorem dX4_placesWithFactorOf_31 : decode cX4_placesWithFactorOf 31 = .ok (.getfield 28, 3) := by decide +kernel
theorem dX4_placesWithFactorOf_34 : decode cX4_placesWithFactorOf 34 = .ok (.if_icmp .ge 53, 3) := by decide +kernel
theorem dX4_placesWithFactorOf_37 : decode cX4_placesWithFactorOf 37 = .ok (.aload_n 0, 1) := by decide +kernel
theorem dX4_placesWithFactorOf_38 : decode cX4_placesWithFactorOf 38 = .ok (.getfield 11, 3) := by decide +kernel
theorem dX4_placesWithFactorOf_41 : decode cX4_placesWithFactorOf 41 = .ok (.iload 6, 2) := by decide +kernel
theorem dX4_placesWithFactorOf_43 : decode cX4_placesWithFactorOf 43 = .ok (.aaload, 1) := by decide +kernel
theorem dX4_placesWithFactorOf_44 : decode cX4_placesWithFactorOf 44 = .ok (.iload_n 3, 1) := by decide +kernel
theorem dX4_placesWithFactorOf_45 : decode cX4_placesWithFactorOf 45 = .ok (.iaload, 1) := by decide +kernel
theorem dX4_placesWithFactorOf_46 : decode cX4_placesWithFactorOf 46 = .ok (.ifCond .eq 35, 3) := by decide +kernel
theorem dX4_placesWithFactorOf_49 : decode cX4_placesWithFactorOf 49 = .ok (.iload 4, 2) := by decide +kernel
theorem dX4_placesWithFactorOf_51 : decode cX4_placesWithFactorOf 51 = .ok (.aload_n 0, 1) := by decide +kernel
theorem dX4_placesWithFactorOf_52 : decode cX4_placesWithFactorOf 52 = .ok (.getfield 11, 3) := by decide +kernel
theorem dX4_placesWithFactorOf_55 : decode cX4_placesWithFactorOf 55 = .ok (.iload 6, 2) := by decide +kernel
theorem dX4_placesWithFactorOf_57 : decode cX4_placesWithFactorOf 57 = .ok (.aaload, 1) := by decide +kernel
theorem dX4_placesWithFactorOf_58 : decode cX4_placesWithFactorOf 58 = .ok (.iload_n 3, 1) := by decide +kernel
theorem dX4_placesWithFactorOf_59 : decode cX4_placesWithFactorOf 59 = .ok (.iaload, 1) := by decide +kernel
theorem dX4_placesWithFactorOf_60 : decode cX4_placesWithFactorOf 60 = .ok (.imul, 1) := by decide +kernel
theorem dX4_placesWithFactorOf_61 : decode cX4_placesWithFactorOf 61 = .ok (.aload_n 0, 1) := by decide +kernel
theorem dX4_placesWithFactorOf_62 : decode cX4_placesWithFactorOf 62 = .ok (.getfield 24, 3) := by decide +kernel
theorem dX4_placesWithFactorOf_65 : decode cX4_placesWithFactorOf 65 = .ok (.irem, 1) := by decide +kernel
theorem dX4_placesWithFactorOf_66 : decode cX4_placesWithFactorOf 66 = .ok (.aload_n 0, 1) := by decide +kernel
theorem dX4_placesWithFactorOf_67 : decode cX4_placesWithFactorOf 67 = .ok (.getfield 11, 3) := by decide +kernel
theorem dX4_placesWithFactorOf_70 : decode cX4_placesWithFactorOf 70 = .ok (.iload 6, 2) := by decide +kernel
theorem dX4_placesWithFactorOf_72 : decode cX4_placesWithFactorOf 72 = .ok (.aaload, 1) := by decide +kernel
theorem dX4_placesWithFactorOf_73 : decode cX4_placesWithFactorOf 73 = .ok (.iload_n 2, 1) := by decide +kernel
theorem dX4_placesWithFactorOf_74 : decode cX4_placesWithFactorOf 74 = .ok (.iaload, 1) := by decide +kernel
theorem dX4_placesWithFactorOf_75 : decode cX4_placesWithFactorOf 75 = .ok (.if_icmp .ne 6, 3) := by decide +kernel
theorem dX4_placesWithFactorOf_78 : decode cX4_placesWithFactorOf 78 = .ok (.iinc 5 1, 3) := by decide +kernel
theorem dX4_placesWithFactorOf_81 : decode cX4_placesWithFactorOf 81 = .ok (.iinc 6 1, 3) := by decide +kernel
theorem dX4_placesWithFactorOf_84 : decode cX4_placesWithFactorOf 84 = .ok (.goto (-56), 3) := by decide +kernel
theorem dX4_placesWithFactorOf_87 : decode cX4_placesWithFactorOf 87 = .ok (.iload 5, 2) := by decide +kernel
theorem dX4_placesWithFactorOf_89 : decode cX4_placesWithFactorOf 89 = .ok (.ireturn, 1) := by decide +kernel
theorem dX5_init_0 : decode cX5_init 0 = .ok (.aload_n 0, 1) := by decide +kernel
theorem dX5_init_1 : decode cX5_init 1 = .ok (.invokespecial 1, 3) := by decide +kernel
theorem dX5_init_4 : decode cX5_init 4 = .ok (.aload_n 0, 1) := by decide +kernel
theorem dX5_init_5 : decode cX5_init 5 = .ok (.new 7, 3) := by decide +kernel
theorem dX5_init_8 : decode cX5_init 8 = .ok (.dup, 1) := by decide +kernel
theorem dX5_init_9 : decode cX5_init 9 = .ok (.invokespecial 9, 3) := by decide +kernel
theorem dX5_init_12 : decode cX5_init 12 = .ok (.putfield 10, 3) := by decide +kernel
theorem dX5_init_15 : decode cX5_init 15 = .ok (.aload_n 0, 1) := by decide +kernel
theorem dX5_init_16 : decode cX5_init 16 = .ok (.new 16, 3) := by decide +kernel
theorem dX5_init_19 : decode cX5_init 19 = .ok (.dup, 1) := by decide +kernel
theorem dX5_init_20 : decode cX5_init 20 = .ok (.aload_n 0, 1) := by decide +kernel
theorem dX5_init_21 : decode cX5_init 21 = .ok (.getfield 10, 3) := by decide +kernel
theorem dX5_init_24 : decode cX5_init 24 = .ok (.invokespecial 18, 3) := by decide +kernel
theorem dX5_init_27 : decode cX5_init 27 = .ok (.putfield 21, 3) := by decide +kernel
theorem dX5_init_30 : decode cX5_init 30 = .ok (.aload_n 0, 1) := by decide +kernel
theorem dX5_init_31 : decode cX5_init 31 = .ok (.new 25, 3) := by decide +kernel
theorem dX5_init_34 : decode cX5_init 34 = .ok (.dup, 1) := by decide +kernel
theorem dX5_init_35 : decode cX5_init 35 = .ok (.aload_n 0, 1) := by decide +kernel
theorem dX5_init_36 : decode cX5_init 36 = .ok (.getfield 10, 3) := by decide +kernel
theorem dX5_init_39 : decode cX5_init 39 = .ok (.aload_n 0, 1) := by decide +kernel
theorem dX5_init_40 : decode cX5_init 40 = .ok (.getfield 21, 3) := by decide +kernel
theorem dX5_init_43 : decode cX5_init 43 = .ok (.invokespecial 27, 3) := by decide +kernel
theorem dX5_init_46 : decode cX5_init 46 = .ok (.putfield 30, 3) := by decide +kernel
theorem dX5_init_49 : decode cX5_init 49 = .ok (.aload_n 0, 1) := by decide +kernel
theorem dX5_init_50 : decode cX5_init 50 = .ok (.new 34, 3) := by decide +kernel
theorem dX5_init_53 : decode cX5_init 53 = .ok (.dup, 1) := by decide +kernel
theorem dX5_init_54 : decode cX5_init 54 = .ok (.aload_n 0, 1) := by decide +kernel
theorem dX5_init_55 : decode cX5_init 55 = .ok (.getfield 10, 3) := by decide +kernel
theorem dX5_init_58 : decode cX5_init 58 = .ok (.invokespecial 36, 3) := by decide +kernel
theorem dX5_init_61 : decode cX5_init 61 = .ok (.putfield 37, 3) := by decide +kernel
theorem dX5_init_64 : decode cX5_init 64 = .ok (.aload_n 0, 1) := by decide +kernel
theorem dX5_init_65 : decode cX5_init 65 = .ok (.new 41, 3) := by decide +kernel
theorem dX5_init_68 : decode cX5_init 68 = .ok (.dup, 1) := by decide +kernel
theorem dX5_init_69 : decode cX5_init 69 = .ok (.invokespecial 43, 3) := by decide +kernel
theorem dX5_init_72 : decode cX5_init 72 = .ok (.putfield 44, 3) := by decide +kernel
theorem dX5_init_75 : decode cX5_init 75 = .ok (.aload_n 0, 1) := by decide +kernel
theorem dX5_init_76 : decode cX5_init 76 = .ok (.bipush 6, 2) := by decide +kernel
theorem dX5_init_78 : decode cX5_init 78 = .ok (.bipush 12, 2) := by decide +kernel
theorem dX5_init_80 : decode cX5_init 80 = .ok (.multianewarray 48 2, 4) := by decide +kernel
theorem dX5_init_84 : decode cX5_init 84 = .ok (.putfield 50, 3) := by decide +kernel
theorem dX5_init_87 : decode cX5_init 87 = .ok (.aload_n 0, 1) := by decide +kernel
theorem dX5_init_88 : decode cX5_init 88 = .ok (.bipush 6, 2) := by decide +kernel
theorem dX5_init_90 : decode cX5_init 90 = .ok (.bipush 6, 2) := by decide +kernel
theorem dX5_init_92 : decode cX5_init 92 = .ok (.multianewarray 48 2, 4) := by decide +kernel
theorem dX5_init_96 : decode cX5_init 96 = .ok (.putfield 53, 3) := by decide +kernel
theorem dX5_init_99 : decode cX5_init 99 = .ok (.return_, 1) := by decide +kernel
theorem dX5_begin_0 : decode cX5_begin 0 = .ok (.iload_n 1, 1) := by decide +kernel
theorem dX5_begin_1 : decode cX5_begin 1 = .ok (.invokestatic 56, 3) := by decide +kernel
theorem dX5_begin_4 : decode cX5_begin 4 = .ok (.ifCond .eq 25, 3) := by decide +kernel
theorem dX5_begin_7 : decode cX5_begin 7 = .ok (.iload_n 2, 1) := by decide +kernel
theorem dX5_begin_8 : decode cX5_begin 8 = .ok (.iconst 1, 1) := by decide +kernel
theorem dX5_begin_9 : decode cX5_begin 9 = .ok (.if_icmp .lt 20, 3) := by decide +kernel
theorem dX5_begin_12 : decode cX5_begin 12 = .ok (.iload_n 2, 1) := by decide +kernel
theorem dX5_begin_13 : decode cX5_begin 13 = .ok (.bipush 6, 2) := by decide +kernel
theorem dX5_begin_15 : decode cX5_begin 15 = .ok (.if_icmp .gt 14, 3) := by decide +kernel
theorem dX5_begin_18 : decode cX5_begin 18 = .ok (.iload_n 3, 1) := by decide +kernel
theorem dX5_begin_19 : decode cX5_begin 19 = .ok (.iconst 1, 1) := by decide +kernel
theorem dX5_begin_20 : decode cX5_begin 20 = .ok (.if_icmp .lt 9, 3) := by decide +kernel
theorem dX5_begin_23 : decode cX5_begin 23 = .ok (.iload_n 3, 1) := by decide +kernel
theorem dX5_begin_24 : decode cX5_begin 24 = .ok (.bipush 12, 2) := by decide +kernel
theorem dX5_begin_26 : decode cX5_begin 26 = .ok (.if_icmp .le 5, 3) := by decide +kernel
theorem dX5_begin_29 : decode cX5_begin 29 = .ok (.iconst (-1), 1) := by decide +kernel
theorem dX5_begin_30 : decode cX5_begin 30 = .ok (.ireturn, 1) := by decide +kernel
theorem dX5_begin_31 : decode cX5_begin 31 = .ok (.aload_n 0, 1) := by decide +kernel
theorem dX5_begin_32 : decode cX5_begin 32 = .ok (.getfield 10, 3) := by decide +kernel
theorem dX5_begin_35 : decode cX5_begin 35 = .ok (.iload_n 1, 1) := by decide +kernel
theorem dX5_begin_36 : decode cX5_begin 36 = .ok (.iload_n 2, 1) := by decide +kernel
theorem dX5_begin_37 : decode cX5_begin 37 = .ok (.iload_n 3, 1) := by decide +kernel
theorem dX5_begin_38 : decode cX5_begin 38 = .ok (.invokevirtual 60, 3) := by decide +kernel
theorem dX5_begin_41 : decode cX5_begin 41 = .ok (.iconst 0, 1) := by decide +kernel
theorem dX5_begin_42 : decode cX5_begin 42 = .ok (.istore 4, 2) := by decide +kernel
theorem dX5_begin_44 : decode cX5_begin 44 = .ok (.iload 4, 2) := by decide +kernel
theorem dX5_begin_46 : decode cX5_begin 46 = .ok (.bipush 6, 2) := by decide +kernel
theorem dX5_begin_48 : decode cX5_begin 48 = .ok (.if_icmp .ge 29, 3) := by decide +kernel
theorem dX5_begin_51 : decode cX5_begin 51 = .ok (.aload_n 0, 1) := by decide +kernel
theorem dX5_begin_52 : decode cX5_begin 52 = .ok (.getfield 50, 3) := by decide +kernel
theorem dX5_begin_55 : decode cX5_begin 55 = .ok (.iload 4, 2) := by decide +kernel
theorem dX5_begin_57 : decode cX5_begin 57 = .ok (.aaload, 1) := by decide +kernel
theorem dX5_begin_58 : decode cX5_begin 58 = .ok (.invokestatic 64, 3) := by decide +kernel
theorem dX5_begin_61 : decode cX5_begin 61 = .ok (.aload_n 0, 1) := by decide +kernel
theorem dX5_begin_62 : decode cX5_begin 62 = .ok (.getfield 53, 3) := by decide +kernel
theorem dX5_begin_65 : decode cX5_begin 65 = .ok (.iload 4, 2) := by decide +kernel
theorem dX5_begin_67 : decode cX5_begin 67 = .ok (.aaload, 1) := by decide +kernel
theorem dX5_begin_68 : decode cX5_begin 68 = .ok (.invokestatic 64, 3) := by decide +kernel
theorem dX5_begin_71 : decode cX5_begin 71 = .ok (.iinc 4 1, 3) := by decide +kernel
theorem dX5_begin_74 : decode cX5_begin 74 = .ok (.goto (-30), 3) := by decide +kernel
theorem dX5_begin_77 : decode cX5_begin 77 = .ok (.iconst 0, 1) := by decide +kernel
theorem dX5_begin_78 : decode cX5_begin 78 = .ok (.ireturn, 1) := by decide +kernel
theorem dX5_set_0 : decode cX5_set 0 = .ok (.aload_n 0, 1) := by decide +kernel
theorem dX5_set_1 : decode cX5_set 1 = .ok (.getfield 10, 3) := by decide +kernel
theorem dX5_set_4 : decode cX5_set 4 = .ok (.iload_n 1, 1) := by decide +kernel
theorem dX5_set_5 : decode cX5_set 5 = .ok (.iload_n 2, 1) := by decide +kernel
theorem dX5_set_6 : decode cX5_set 6 = .ok (.invokevirtual 68, 3) := by decide +kernel
theorem dX5_set_9 : decode cX5_set 9 = .ok (.ifCond .ne 5, 3) := by decide +kernel
theorem dX5_set_12 : decode cX5_set 12 = .ok (.iconst (-1), 1) := by decide +kernel
theorem dX5_set_13 : decode cX5_set 13 = .ok (.ireturn, 1) := by decide +kernel
theorem dX5_set_14 : decode cX5_set 14 = .ok (.aload_n 0, 1) := by decide +kernel
theorem dX5_set_15 : decode cX5_set 15 = .ok (.getfield 10, 3) := by decide +kernel
theorem dX5_set_18 : decode cX5_set 18 = .ok (.getfield 72, 3) := by decide +kernel
theorem dX5_set_21 : decode cX5_set 21 = .ok (.iload_n 1, 1) := by decide +kernel
theorem dX5_set_22 : decode cX5_set 22 = .ok (.aaload, 1) := by decide +kernel
theorem dX5_set_23 : decode cX5_set 23 = .ok (.iload_n 2, 1) := by decide +kernel
theorem dX5_set_24 : decode cX5_set 24 = .ok (.iaload, 1) := by decide +kernel
theorem dX5_set_25 : decode cX5_set 25 = .ok (.istore 4, 2) := by decide +kernel
theorem dX5_set_27 : decode cX5_set 27 = .ok (.aload_n 0, 1) := by decide +kernel
theorem dX5_set_28 : decode cX5_set 28 = .ok (.getfield 10, 3) := by decide +kernel
theorem dX5_set_31 : decode cX5_set 31 = .ok (.getfield 72, 3) := by decide +kernel
theorem dX5_set_34 : decode cX5_set 34 = .ok (.iload_n 1, 1) := by decide +kernel
theorem dX5_set_35 : decode cX5_set 35 = .ok (.aaload, 1) := by decide +kernel
theorem dX5_set_36 : decode cX5_set 36 = .ok (.iload_n 2, 1) := by decide +kernel
theorem dX5_set_37 : decode cX5_set 37 = .ok (.aload_n 0, 1) := by decide +kernel
theorem dX5_set_38 : decode cX5_set 38 = .ok (.getfield 10, 3) := by decide +kernel
theorem dX5_set_41 : decode cX5_set 41 = .ok (.iload_n 3, 1) := by decide +kernel
theorem dX5_set_42 : decode cX5_set 42 = .ok (.invokevirtual 75, 3) := by decide +kernel
theorem dX5_set_45 : decode cX5_set 45 = .ok (.iastore, 1) := by decide +kernel
theorem dX5_set_46 : decode cX5_set 46 = .ok (.iload 4, 2) := by decide +kernel
theorem dX5_set_48 : decode cX5_set 48 = .ok (.ireturn, 1) := by decide +kernel
theorem dX5_powers_0 : decode cX5_powers 0 = .ok (.iload_n 1, 1) := by decide +kernel
theorem dX5_powers_1 : decode cX5_powers 1 = .ok (.ifCond .lt 14, 3) := by decide +kernel
theorem dX5_powers_4 : decode cX5_powers 4 = .ok (.iload_n 1, 1) := by decide +kernel
theorem dX5_powers_5 : decode cX5_powers 5 = .ok (.aload_n 0, 1) := by decide +kernel
theorem dX5_powers_6 : decode cX5_powers 6 = .ok (.getfield 10, 3) := by decide +kernel
theorem dX5_powers_9 : decode cX5_powers 9 = .ok (.getfield 79, 3) := by decide +kernel
theorem dX5_powers_12 : decode cX5_powers 12 = .ok (.if_icmp .lt 5, 3) := by decide +kernel
theorem dX5_powers_15 : decode cX5_powers 15 = .ok (.iconst (-1), 1) := by decide +kernel
theorem dX5_powers_16 : decode cX5_powers 16 = .ok (.ireturn, 1) := by decide +kernel
theorem dX5_powers_17 : decode cX5_powers 17 = .ok (.aload_n 0, 1) := by decide +kernel
theorem dX5_powers_18 : decode cX5_powers 18 = .ok (.getfield 10, 3) := by decide +kernel
theorem dX5_powers_21 : decode cX5_powers 21 = .ok (.iload_n 1, 1) := by decide +kernel
theorem dX5_powers_22 : decode cX5_powers 22 = .ok (.invokevirtual 83, 3) := by decide +kernel
theorem dX5_powers_25 : decode cX5_powers 25 = .ok (.iconst 0, 1) := by decide +kernel
theorem dX5_powers_26 : decode cX5_powers 26 = .ok (.ireturn, 1) := by decide +kernel
theorem dX5_at_0 : decode cX5_at 0 = .ok (.aload_n 0, 1) := by decide +kernel
theorem dX5_at_1 : decode cX5_at 1 = .ok (.getfield 10, 3) := by decide +kernel
theorem dX5_at_4 : decode cX5_at 4 = .ok (.iload_n 1, 1) := by decide +kernel
theorem dX5_at_5 : decode cX5_at 5 = .ok (.iload_n 2, 1) := by decide +kernel
theorem dX5_at_6 : decode cX5_at 6 = .ok (.invokevirtual 68, 3) := by decide +kernel
theorem dX5_at_9 : decode cX5_at 9 = .ok (.ifCond .eq 17, 3) := by decide +kernel
theorem dX5_at_12 : decode cX5_at 12 = .ok (.aload_n 0, 1) := by decide +kernel
theorem dX5_at_13 : decode cX5_at 13 = .ok (.getfield 10, 3) := by decide +kernel
theorem dX5_at_16 : decode cX5_at 16 = .ok (.getfield 72, 3) := by decide +kernel
theorem dX5_at_19 : decode cX5_at 19 = .ok (.iload_n 1, 1) := by decide +kernel
theorem dX5_at_20 : decode cX5_at 20 = .ok (.aaload, 1) := by decide +kernel
theorem dX5_at_21 : decode cX5_at 21 = .ok (.iload_n 2, 1) := by decide +kernel
theorem dX5_at_22 : decode cX5_at 22 = .ok (.iaload, 1) := by decide +kernel
theorem dX5_at_23 : decode cX5_at 23 = .ok (.goto 4, 3) := by decide +kernel
theorem dX5_at_26 : decode cX5_at 26 = .ok (.iconst (-1), 1) := by decide +kernel
theorem dX5_at_27 : decode cX5_at 27 = .ok (.ireturn, 1) := by decide +kernel
theorem dX5_judge_0 : decode cX5_judge 0 = .ok (.iload_n 1, 1) := by decide +kernel
theorem dX5_judge_1 : decode cX5_judge 1 = .ok (.tableswitch 67 0 3 #[31, 39, 47, 59], 31) := by decide +kernel
theorem dX5_judge_32 : decode cX5_judge 32 = .ok (.aload_n 0, 1) := by decide +kernel
theorem dX5_judge_33 : decode cX5_judge 33 = .ok (.getfield 21, 3) := by decide +kernel
theorem dX5_judge_36 : decode cX5_judge 36 = .ok (.invokevirtual 87, 3) := by decide +kernel
theorem dX5_judge_39 : decode cX5_judge 39 = .ok (.ireturn, 1) := by decide +kernel
theorem dX5_judge_40 : decode cX5_judge 40 = .ok (.aload_n 0, 1) := by decide +kernel
theorem dX5_judge_41 : decode cX5_judge 41 = .ok (.getfield 21, 3) := by decide +kernel
theorem dX5_judge_44 : decode cX5_judge 44 = .ok (.invokevirtual 91, 3) := by decide +kernel
theorem dX5_judge_47 : decode cX5_judge 47 = .ok (.ireturn, 1) := by decide +kernel
theorem dX5_judge_48 : decode cX5_judge 48 = .ok (.aload_n 0, 1) := by decide +kernel
theorem dX5_judge_49 : decode cX5_judge 49 = .ok (.getfield 21, 3) := by decide +kernel
theorem dX5_judge_52 : decode cX5_judge 52 = .ok (.invokevirtual 91, 3) := by decide +kernel
theorem dX5_judge_55 : decode cX5_judge 55 = .ok (.iconst 1, 1) := by decide +kernel
theorem dX5_judge_56 : decode cX5_judge 56 = .ok (.isub, 1) := by decide +kernel
theorem dX5_judge_57 : decode cX5_judge 57 = .ok (.iconst 2, 1) := by decide +kernel
theorem dX5_judge_58 : decode cX5_judge 58 = .ok (.idiv, 1) := by decide +kernel
theorem dX5_judge_59 : decode cX5_judge 59 = .ok (.ireturn, 1) := by decide +kernel
theorem dX5_judge_60 : decode cX5_judge 60 = .ok (.aload_n 0, 1) := by decide +kernel
theorem dX5_judge_61 : decode cX5_judge 61 = .ok (.getfield 10, 3) := by decide +kernel
theorem dX5_judge_64 : decode cX5_judge 64 = .ok (.invokevirtual 94, 3) := by decide +kernel
theorem dX5_judge_67 : decode cX5_judge 67 = .ok (.ireturn, 1) := by decide +kernel
theorem dX5_judge_68 : decode cX5_judge 68 = .ok (.iconst (-1), 1) := by decide +kernel
theorem dX5_judge_69 : decode cX5_judge 69 = .ok (.ireturn, 1) := by decide +kernel
theorem dX5_put_0 : decode cX5_put 0 = .ok (.iload_n 1, 1) := by decide +kernel
theorem dX5_put_1 : decode cX5_put 1 = .ok (.invokestatic 97, 3) := by decide +kernel
theorem dX5_put_4 : decode cX5_put 4 = .ok (.ifCond .eq 18, 3) := by decide +kernel
theorem dX5_put_7 : decode cX5_put 7 = .ok (.iload_n 2, 1) := by decide +kernel
theorem dX5_put_8 : decode cX5_put 8 = .ok (.ifCond .lt 14, 3) := by decide +kernel
theorem dX5_put_11 : decode cX5_put 11 = .ok (.iload_n 2, 1) := by decide +kernel
theorem dX5_put_12 : decode cX5_put 12 = .ok (.aload_n 0, 1) := by decide +kernel
theorem dX5_put_13 : decode cX5_put 13 = .ok (.getfield 10, 3) := by decide +kernel
theorem dX5_put_16 : decode cX5_put 16 = .ok (.getfield 100, 3) := by decide +kernel
theorem dX5_put_19 : decode cX5_put 19 = .ok (.if_icmp .lt 5, 3) := by decide +kernel
theorem dX5_put_22 : decode cX5_put 22 = .ok (.iconst (-1), 1) := by decide +kernel
theorem dX5_put_23 : decode cX5_put 23 = .ok (.ireturn, 1) := by decide +kernel
theorem dX5_put_24 : decode cX5_put 24 = .ok (.aload_n 0, 1) := by decide +kernel
theorem dX5_put_25 : decode cX5_put 25 = .ok (.getfield 50, 3) := by decide +kernel
theorem dX5_put_28 : decode cX5_put 28 = .ok (.iload_n 1, 1) := by decide +kernel
theorem dX5_put_29 : decode cX5_put 29 = .ok (.aaload, 1) := by decide +kernel
theorem dX5_put_30 : decode cX5_put 30 = .ok (.iload_n 2, 1) := by decide +kernel
theorem dX5_put_31 : decode cX5_put 31 = .ok (.aload_n 0, 1) := by decide +kernel
theorem dX5_put_32 : decode cX5_put 32 = .ok (.getfield 10, 3) := by decide +kernel
theorem dX5_put_35 : decode cX5_put 35 = .ok (.iload_n 3, 1) := by decide +kernel
theorem dX5_put_36 : decode cX5_put 36 = .ok (.invokevirtual 75, 3) := by decide +kernel
theorem dX5_put_39 : decode cX5_put 39 = .ok (.iastore, 1) := by decide +kernel
theorem dX5_put_40 : decode cX5_put 40 = .ok (.aload_n 0, 1) := by decide +kernel
theorem dX5_put_41 : decode cX5_put 41 = .ok (.getfield 50, 3) := by decide +kernel
theorem dX5_put_44 : decode cX5_put 44 = .ok (.iload_n 1, 1) := by decide +kernel
theorem dX5_put_45 : decode cX5_put 45 = .ok (.aaload, 1) := by decide +kernel
theorem dX5_put_46 : decode cX5_put 46 = .ok (.invokestatic 103, 3) := by decide +kernel
theorem dX5_put_49 : decode cX5_put 49 = .ok (.ireturn, 1) := by decide +kernel
theorem dX5_row_0 : decode cX5_row 0 = .ok (.iload_n 1, 1) := by decide +kernel
theorem dX5_row_1 : decode cX5_row 1 = .ok (.invokestatic 97, 3) := by decide +kernel
theorem dX5_row_4 : decode cX5_row 4 = .ok (.ifCond .eq 19, 3) := by decide +kernel
theorem dX5_row_7 : decode cX5_row 7 = .ok (.iload_n 2, 1) := by decide +kernel
theorem dX5_row_8 : decode cX5_row 8 = .ok (.iconst (-1), 1) := by decide +kernel
theorem dX5_row_9 : decode cX5_row 9 = .ok (.if_icmp .lt 14, 3) := by decide +kernel
theorem dX5_row_12 : decode cX5_row 12 = .ok (.iload_n 2, 1) := by decide +kernel
theorem dX5_row_13 : decode cX5_row 13 = .ok (.aload_n 0, 1) := by decide +kernel
theorem dX5_row_14 : decode cX5_row 14 = .ok (.getfield 10, 3) := by decide +kernel
theorem dX5_row_17 : decode cX5_row 17 = .ok (.getfield 100, 3) := by decide +kernel
theorem dX5_row_20 : decode cX5_row 20 = .ok (.if_icmp .lt 5, 3) := by decide +kernel
theorem dX5_row_23 : decode cX5_row 23 = .ok (.iconst (-1), 1) := by decide +kernel
theorem dX5_row_24 : decode cX5_row 24 = .ok (.ireturn, 1) := by decide +kernel
theorem dX5_row_25 : decode cX5_row 25 = .ok (.iload_n 2, 1) := by decide +kernel
theorem dX5_row_26 : decode cX5_row 26 = .ok (.iconst (-1), 1) := by decide +kernel
theorem dX5_row_27 : decode cX5_row 27 = .ok (.if_icmp .ne 15, 3) := by decide +kernel
theorem dX5_row_30 : decode cX5_row 30 = .ok (.aload_n 0, 1) := by decide +kernel
theorem dX5_row_31 : decode cX5_row 31 = .ok (.getfield 50, 3) := by decide +kernel
theorem dX5_row_34 : decode cX5_row 34 = .ok (.iload_n 1, 1) := by decide +kernel
theorem dX5_row_35 : decode cX5_row 35 = .ok (.aaload, 1) := by decide +kernel
theorem dX5_row_36 : decode cX5_row 36 = .ok (.invokestatic 103, 3) := by decide +kernel
theorem dX5_row_39 : decode cX5_row 39 = .ok (.goto 11, 3) := by decide +kernel
theorem dX5_row_42 : decode cX5_row 42 = .ok (.aload_n 0, 1) := by decide +kernel
theorem dX5_row_43 : decode cX5_row 43 = .ok (.getfield 50, 3) := by decide +kernel
theorem dX5_row_46 : decode cX5_row 46 = .ok (.iload_n 1, 1) := by decide +kernel
theorem dX5_row_47 : decode cX5_row 47 = .ok (.aaload, 1) := by decide +kernel
theorem dX5_row_48 : decode cX5_row 48 = .ok (.iload_n 2, 1) := by decide +kernel
theorem dX5_row_49 : decode cX5_row 49 = .ok (.iaload, 1) := by decide +kernel
theorem dX5_row_50 : decode cX5_row 50 = .ok (.ireturn, 1) := by decide +kernel
theorem dX5_sum_0 : decode cX5_sum 0 = .ok (.iload_n 1, 1) := by decide +kernel
theorem dX5_sum_1 : decode cX5_sum 1 = .ok (.invokestatic 97, 3) := by decide +kernel
theorem dX5_sum_4 : decode cX5_sum 4 = .ok (.ifCond .eq 18, 3) := by decide +kernel
theorem dX5_sum_7 : decode cX5_sum 7 = .ok (.iload_n 2, 1) := by decide +kernel
theorem dX5_sum_8 : decode cX5_sum 8 = .ok (.ifCond .lt 14, 3) := by decide +kernel
theorem dX5_sum_11 : decode cX5_sum 11 = .ok (.iload_n 2, 1) := by decide +kernel
theorem dX5_sum_12 : decode cX5_sum 12 = .ok (.aload_n 0, 1) := by decide +kernel
theorem dX5_sum_13 : decode cX5_sum 13 = .ok (.getfield 10, 3) := by decide +kernel
theorem dX5_sum_16 : decode cX5_sum 16 = .ok (.getfield 107, 3) := by decide +kernel
theorem dX5_sum_19 : decode cX5_sum 19 = .ok (.if_icmp .lt 5, 3) := by decide +kernel
theorem dX5_sum_22 : decode cX5_sum 22 = .ok (.iconst (-1), 1) := by decide +kernel
theorem dX5_sum_23 : decode cX5_sum 23 = .ok (.ireturn, 1) := by decide +kernel
theorem dX5_sum_24 : decode cX5_sum 24 = .ok (.aload_n 0, 1) := by decide +kernel
theorem dX5_sum_25 : decode cX5_sum 25 = .ok (.getfield 53, 3) := by decide +kernel
theorem dX5_sum_28 : decode cX5_sum 28 = .ok (.iload_n 1, 1) := by decide +kernel
theorem dX5_sum_29 : decode cX5_sum 29 = .ok (.aaload, 1) := by decide +kernel
theorem dX5_sum_30 : decode cX5_sum 30 = .ok (.iload_n 2, 1) := by decide +kernel
theorem dX5_sum_31 : decode cX5_sum 31 = .ok (.aload_n 0, 1) := by decide +kernel
theorem dX5_sum_32 : decode cX5_sum 32 = .ok (.getfield 10, 3) := by decide +kernel
theorem dX5_sum_35 : decode cX5_sum 35 = .ok (.iload_n 3, 1) := by decide +kernel
theorem dX5_sum_36 : decode cX5_sum 36 = .ok (.invokevirtual 75, 3) := by decide +kernel
theorem dX5_sum_39 : decode cX5_sum 39 = .ok (.iastore, 1) := by decide +kernel
theorem dX5_sum_40 : decode cX5_sum 40 = .ok (.aload_n 0, 1) := by decide +kernel
theorem dX5_sum_41 : decode cX5_sum 41 = .ok (.getfield 53, 3) := by decide +kernel
theorem dX5_sum_44 : decode cX5_sum 44 = .ok (.iload_n 1, 1) := by decide +kernel
theorem dX5_sum_45 : decode cX5_sum 45 = .ok (.aaload, 1) := by decide +kernel
theorem dX5_sum_46 : decode cX5_sum 46 = .ok (.invokestatic 103, 3) := by decide +kernel
theorem dX5_sum_49 : decode cX5_sum 49 = .ok (.ireturn, 1) := by decide +kernel
theorem dX5_told_0 : decode cX5_told 0 = .ok (.iload_n 1, 1) := by decide +kernel
theorem dX5_told_1 : decode cX5_told 1 = .ok (.invokestatic 97, 3) := by decide +kernel
theorem dX5_told_4 : decode cX5_told 4 = .ok (.ifCond .eq 19, 3) := by decide +kernel
theorem dX5_told_7 : decode cX5_told 7 = .ok (.iload_n 2, 1) := by decide +kernel
theorem dX5_told_8 : decode cX5_told 8 = .ok (.iconst (-1), 1) := by decide +kernel
theorem dX5_told_9 : decode cX5_told 9 = .ok (.if_icmp .lt 14, 3) := by decide +kernel
theorem dX5_told_12 : decode cX5_told 12 = .ok (.iload_n 2, 1) := by decide +kernel
theorem dX5_told_13 : decode cX5_told 13 = .ok (.aload_n 0, 1) := by decide +kernel
theorem dX5_told_14 : decode cX5_told 14 = .ok (.getfield 10, 3) := by decide +kernel
theorem dX5_told_17 : decode cX5_told 17 = .ok (.getfield 107, 3) := by decide +kernel
theorem dX5_told_20 : decode cX5_told 20 = .ok (.if_icmp .lt 5, 3) := by decide +kernel
theorem dX5_told_23 : decode cX5_told 23 = .ok (.iconst (-1), 1) := by decide +kernel
theorem dX5_told_24 : decode cX5_told 24 = .ok (.ireturn, 1) := by decide +kernel
theorem dX5_told_25 : decode cX5_told 25 = .ok (.iload_n 2, 1) := by decide +kernel
theorem dX5_told_26 : decode cX5_told 26 = .ok (.iconst (-1), 1) := by decide +kernel
theorem dX5_told_27 : decode cX5_told 27 = .ok (.if_icmp .ne 15, 3) := by decide +kernel
theorem dX5_told_30 : decode cX5_told 30 = .ok (.aload_n 0, 1) := by decide +kernel
theorem dX5_told_31 : decode cX5_told 31 = .ok (.getfield 53, 3) := by decide +kernel
theorem dX5_told_34 : decode cX5_told 34 = .ok (.iload_n 1, 1) := by decide +kernel
theorem dX5_told_35 : decode cX5_told 35 = .ok (.aaload, 1) := by decide +kernel
theorem dX5_told_36 : decode cX5_told 36 = .ok (.invokestatic 103, 3) := by decide +kernel
theorem dX5_told_39 : decode cX5_told 39 = .ok (.goto 11, 3) := by decide +kernel
theorem dX5_told_42 : decode cX5_told 42 = .ok (.aload_n 0, 1) := by decide +kernel
theorem dX5_told_43 : decode cX5_told 43 = .ok (.getfield 53, 3) := by decide +kernel
theorem dX5_told_46 : decode cX5_told 46 = .ok (.iload_n 1, 1) := by decide +kernel
theorem dX5_told_47 : decode cX5_told 47 = .ok (.aaload, 1) := by decide +kernel
theorem dX5_told_48 : decode cX5_told 48 = .ok (.iload_n 2, 1) := by decide +kernel
theorem dX5_told_49 : decode cX5_told 49 = .ok (.iaload, 1) := by decide +kernel
theorem dX5_told_50 : decode cX5_told 50 = .ok (.ireturn, 1) := by decide +kernel
theorem dX5_tell_0 : decode cX5_tell 0 = .ok (.iload_n 1, 1) := by decide +kernel
theorem dX5_tell_1 : decode cX5_tell 1 = .ok (.invokestatic 97, 3) := by decide +kernel
theorem dX5_tell_4 : decode cX5_tell 4 = .ok (.ifCond .eq 10, 3) := by decide +kernel
theorem dX5_tell_7 : decode cX5_tell 7 = .ok (.iload_n 2, 1) := by decide +kernel
theorem dX5_tell_8 : decode cX5_tell 8 = .ok (.invokestatic 97, 3) := by decide +kernel
theorem dX5_tell_11 : decode cX5_tell 11 = .ok (.ifCond .ne 5, 3) := by decide +kernel
theorem dX5_tell_14 : decode cX5_tell 14 = .ok (.iconst (-1), 1) := by decide +kernel
theorem dX5_tell_15 : decode cX5_tell 15 = .ok (.ireturn, 1) := by decide +kernel
theorem dX5_tell_16 : decode cX5_tell 16 = .ok (.aload_n 0, 1) := by decide +kernel
theorem dX5_tell_17 : decode cX5_tell 17 = .ok (.getfield 10, 3) := by decide +kernel
theorem dX5_tell_20 : decode cX5_tell 20 = .ok (.aload_n 0, 1) := by decide +kernel
theorem dX5_tell_21 : decode cX5_tell 21 = .ok (.getfield 50, 3) := by decide +kernel
theorem dX5_tell_24 : decode cX5_tell 24 = .ok (.iload_n 2, 1) := by decide +kernel
theorem dX5_tell_25 : decode cX5_tell 25 = .ok (.aaload, 1) := by decide +kernel
theorem dX5_tell_26 : decode cX5_tell 26 = .ok (.aload_n 0, 1) := by decide +kernel
theorem dX5_tell_27 : decode cX5_tell 27 = .ok (.getfield 53, 3) := by decide +kernel
theorem dX5_tell_30 : decode cX5_tell 30 = .ok (.iload_n 1, 1) := by decide +kernel
theorem dX5_tell_31 : decode cX5_tell 31 = .ok (.aaload, 1) := by decide +kernel
theorem dX5_tell_32 : decode cX5_tell 32 = .ok (.invokevirtual 110, 3) := by decide +kernel
theorem dX5_tell_35 : decode cX5_tell 35 = .ok (.aload_n 0, 1) := by decide +kernel
theorem dX5_tell_36 : decode cX5_tell 36 = .ok (.getfield 53, 3) := by decide +kernel
theorem dX5_tell_39 : decode cX5_tell 39 = .ok (.iload_n 1, 1) := by decide +kernel
theorem dX5_tell_40 : decode cX5_tell 40 = .ok (.aaload, 1) := by decide +kernel
theorem dX5_tell_41 : decode cX5_tell 41 = .ok (.invokestatic 103, 3) := by decide +kernel
theorem dX5_tell_44 : decode cX5_tell 44 = .ok (.ireturn, 1) := by decide +kernel
theorem dX5_find_0 : decode cX5_find 0 = .ok (.iload_n 1, 1) := by decide +kernel
theorem dX5_find_1 : decode cX5_find 1 = .ok (.invokestatic 97, 3) := by decide +kernel
theorem dX5_find_4 : decode cX5_find 4 = .ok (.ifCond .eq 19, 3) := by decide +kernel
theorem dX5_find_7 : decode cX5_find 7 = .ok (.iload_n 2, 1) := by decide +kernel
theorem dX5_find_8 : decode cX5_find 8 = .ok (.invokestatic 97, 3) := by decide +kernel
theorem dX5_find_11 : decode cX5_find 11 = .ok (.ifCond .eq 12, 3) := by decide +kernel
theorem dX5_find_14 : decode cX5_find 14 = .ok (.iload_n 3, 1) := by decide +kernel
theorem dX5_find_15 : decode cX5_find 15 = .ok (.ifCond .lt 8, 3) := by decide +kernel
theorem dX5_find_18 : decode cX5_find 18 = .ok (.iload_n 3, 1) := by decide +kernel
theorem dX5_find_19 : decode cX5_find 19 = .ok (.iconst 4, 1) := by decide +kernel
theorem dX5_find_20 : decode cX5_find 20 = .ok (.if_icmp .le 5, 3) := by decide +kernel
theorem dX5_find_23 : decode cX5_find 23 = .ok (.iconst (-1), 1) := by decide +kernel
theorem dX5_find_24 : decode cX5_find 24 = .ok (.ireturn, 1) := by decide +kernel
theorem dX5_find_25 : decode cX5_find 25 = .ok (.iconst 0, 1) := by decide +kernel
theorem dX5_find_26 : decode cX5_find 26 = .ok (.istore 4, 2) := by decide +kernel
theorem dX5_find_28 : decode cX5_find 28 = .ok (.iload 4, 2) := by decide +kernel
theorem dX5_find_30 : decode cX5_find 30 = .ok (.iload_n 3, 1) := by decide +kernel
theorem dX5_find_31 : decode cX5_find 31 = .ok (.if_icmp .gt 66, 3) := by decide +kernel
theorem dX5_find_34 : decode cX5_find 34 = .ok (.aload_n 0, 1) := by decide +kernel
theorem dX5_find_35 : decode cX5_find 35 = .ok (.getfield 21, 3) := by decide +kernel
theorem dX5_find_38 : decode cX5_find 38 = .ok (.aload_n 0, 1) := by decide +kernel
theorem dX5_find_39 : decode cX5_find 39 = .ok (.getfield 53, 3) := by decide +kernel
theorem dX5_find_42 : decode cX5_find 42 = .ok (.iload_n 2, 1) := by decide +kernel
theorem dX5_find_43 : decode cX5_find 43 = .ok (.aaload, 1) := by decide +kernel
theorem dX5_find_44 : decode cX5_find 44 = .ok (.iconst 0, 1) := by decide +kernel
theorem dX5_find_45 : decode cX5_find 45 = .ok (.iload 4, 2) := by decide +kernel
theorem dX5_find_47 : decode cX5_find 47 = .ok (.iconst 2, 1) := by decide +kernel
theorem dX5_find_48 : decode cX5_find 48 = .ok (.invokevirtual 114, 3) := by decide +kernel
theorem dX5_find_51 : decode cX5_find 51 = .ok (.istore 5, 2) := by decide +kernel
theorem dX5_find_53 : decode cX5_find 53 = .ok (.iload 5, 2) := by decide +kernel
theorem dX5_find_55 : decode cX5_find 55 = .ok (.ifCond .le 36, 3) := by decide +kernel
theorem dX5_find_58 : decode cX5_find 58 = .ok (.aload_n 0, 1) := by decide +kernel
theorem dX5_find_59 : decode cX5_find 59 = .ok (.getfield 21, 3) := by decide +kernel
theorem dX5_find_62 : decode cX5_find 62 = .ok (.getfield 118, 3) := by decide +kernel
theorem dX5_find_65 : decode cX5_find 65 = .ok (.aload_n 0, 1) := by decide +kernel
theorem dX5_find_66 : decode cX5_find 66 = .ok (.getfield 50, 3) := by decide +kernel
theorem dX5_find_69 : decode cX5_find 69 = .ok (.iload_n 1, 1) := by decide +kernel
theorem dX5_find_70 : decode cX5_find 70 = .ok (.aaload, 1) := by decide +kernel
theorem dX5_find_71 : decode cX5_find 71 = .ok (.invokestatic 122, 3) := by decide +kernel
theorem dX5_find_74 : decode cX5_find 74 = .ok (.iload 5, 2) := by decide +kernel
theorem dX5_find_76 : decode cX5_find 76 = .ok (.iconst 1, 1) := by decide +kernel
theorem dX5_find_77 : decode cX5_find 77 = .ok (.if_icmp .ne 11, 3) := by decide +kernel
theorem dX5_find_80 : decode cX5_find 80 = .ok (.iload 4, 2) := by decide +kernel
theorem dX5_find_82 : decode cX5_find 82 = .ok (.bipush 100, 2) := by decide +kernel
theorem dX5_find_84 : decode cX5_find 84 = .ok (.iadd, 1) := by decide +kernel
theorem dX5_find_85 : decode cX5_find 85 = .ok (.goto 5, 3) := by decide +kernel
theorem dX5_find_88 : decode cX5_find 88 = .ok (.iload 4, 2) := by decide +kernel
theorem dX5_find_90 : decode cX5_find 90 = .ok (.ireturn, 1) := by decide +kernel
theorem dX5_find_91 : decode cX5_find 91 = .ok (.iinc 4 1, 3) := by decide +kernel
theorem dX5_find_94 : decode cX5_find 94 = .ok (.goto (-66), 3) := by decide +kernel
theorem dX5_find_97 : decode cX5_find 97 = .ok (.bipush (-2), 2) := by decide +kernel
theorem dX5_find_99 : decode cX5_find 99 = .ok (.ireturn, 1) := by decide +kernel
theorem dX5_miss_0 : decode cX5_miss 0 = .ok (.iload_n 1, 1) := by decide +kernel
theorem dX5_miss_1 : decode cX5_miss 1 = .ok (.invokestatic 97, 3) := by decide +kernel
theorem dX5_miss_4 : decode cX5_miss 4 = .ok (.ifCond .eq 30, 3) := by decide +kernel
theorem dX5_miss_7 : decode cX5_miss 7 = .ok (.iload_n 2, 1) := by decide +kernel
theorem dX5_miss_8 : decode cX5_miss 8 = .ok (.invokestatic 97, 3) := by decide +kernel
theorem dX5_miss_11 : decode cX5_miss 11 = .ok (.ifCond .eq 23, 3) := by decide +kernel
theorem dX5_miss_14 : decode cX5_miss 14 = .ok (.iload_n 3, 1) := by decide +kernel
theorem dX5_miss_15 : decode cX5_miss 15 = .ok (.ifCond .lt 19, 3) := by decide +kernel
theorem dX5_miss_18 : decode cX5_miss 18 = .ok (.iload_n 3, 1) := by decide +kernel
theorem dX5_miss_19 : decode cX5_miss 19 = .ok (.iconst 3, 1) := by decide +kernel
theorem dX5_miss_20 : decode cX5_miss 20 = .ok (.if_icmp .gt 14, 3) := by decide +kernel
theorem dX5_miss_23 : decode cX5_miss 23 = .ok (.iload 4, 2) := by decide +kernel
theorem dX5_miss_25 : decode cX5_miss 25 = .ok (.ifCond .lt 9, 3) := by decide +kernel
theorem dX5_miss_28 : decode cX5_miss 28 = .ok (.iload 4, 2) := by decide +kernel
theorem dX5_miss_30 : decode cX5_miss 30 = .ok (.iconst 3, 1) := by decide +kernel
theorem dX5_miss_31 : decode cX5_miss 31 = .ok (.if_icmp .le 5, 3) := by decide +kernel
theorem dX5_miss_34 : decode cX5_miss 34 = .ok (.iconst (-1), 1) := by decide +kernel
theorem dX5_miss_35 : decode cX5_miss 35 = .ok (.ireturn, 1) := by decide +kernel
theorem dX5_miss_36 : decode cX5_miss 36 = .ok (.iconst 0, 1) := by decide +kernel
theorem dX5_miss_37 : decode cX5_miss 37 = .ok (.istore 5, 2) := by decide +kernel
theorem dX5_miss_39 : decode cX5_miss 39 = .ok (.iload 5, 2) := by decide +kernel
theorem dX5_miss_41 : decode cX5_miss 41 = .ok (.iload_n 3, 1) := by decide +kernel
theorem dX5_miss_42 : decode cX5_miss 42 = .ok (.if_icmp .gt 70, 3) := by decide +kernel
theorem dX5_miss_45 : decode cX5_miss 45 = .ok (.iconst 0, 1) := by decide +kernel
theorem dX5_miss_46 : decode cX5_miss 46 = .ok (.istore 6, 2) := by decide +kernel
theorem dX5_miss_48 : decode cX5_miss 48 = .ok (.iload 6, 2) := by decide +kernel
theorem dX5_miss_50 : decode cX5_miss 50 = .ok (.iload 4, 2) := by decide +kernel
theorem dX5_miss_52 : decode cX5_miss 52 = .ok (.if_icmp .gt 54, 3) := by decide +kernel
theorem dX5_miss_55 : decode cX5_miss 55 = .ok (.aload_n 0, 1) := by decide +kernel
theorem dX5_miss_56 : decode cX5_miss 56 = .ok (.getfield 30, 3) := by decide +kernel
theorem dX5_miss_59 : decode cX5_miss 59 = .ok (.aload_n 0, 1) := by decide +kernel
theorem dX5_miss_60 : decode cX5_miss 60 = .ok (.getfield 53, 3) := by decide +kernel
theorem dX5_miss_63 : decode cX5_miss 63 = .ok (.iload_n 2, 1) := by decide +kernel
theorem dX5_miss_64 : decode cX5_miss 64 = .ok (.aaload, 1) := by decide +kernel
theorem dX5_miss_65 : decode cX5_miss 65 = .ok (.iload 5, 2) := by decide +kernel
theorem dX5_miss_67 : decode cX5_miss 67 = .ok (.iload 6, 2) := by decide +kernel
theorem dX5_miss_69 : decode cX5_miss 69 = .ok (.invokevirtual 125, 3) := by decide +kernel
theorem dX5_miss_72 : decode cX5_miss 72 = .ok (.ifCond .eq 28, 3) := by decide +kernel
theorem dX5_miss_75 : decode cX5_miss 75 = .ok (.aload_n 0, 1) := by decide +kernel
theorem dX5_miss_76 : decode cX5_miss 76 = .ok (.getfield 30, 3) := by decide +kernel
theorem dX5_miss_79 : decode cX5_miss 79 = .ok (.getfield 129, 3) := by decide +kernel
theorem dX5_miss_82 : decode cX5_miss 82 = .ok (.aload_n 0, 1) := by decide +kernel
theorem dX5_miss_83 : decode cX5_miss 83 = .ok (.getfield 50, 3) := by decide +kernel
theorem dX5_miss_86 : decode cX5_miss 86 = .ok (.iload_n 1, 1) := by decide +kernel
theorem dX5_miss_87 : decode cX5_miss 87 = .ok (.aaload, 1) := by decide +kernel
theorem dX5_miss_88 : decode cX5_miss 88 = .ok (.invokestatic 122, 3) := by decide +kernel
theorem dX5_miss_91 : decode cX5_miss 91 = .ok (.iload 5, 2) := by decide +kernel
theorem dX5_miss_93 : decode cX5_miss 93 = .ok (.bipush 100, 2) := by decide +kernel
theorem dX5_miss_95 : decode cX5_miss 95 = .ok (.iload 6, 2) := by decide +kernel
theorem dX5_miss_97 : decode cX5_miss 97 = .ok (.imul, 1) := by decide +kernel
theorem dX5_miss_98 : decode cX5_miss 98 = .ok (.iadd, 1) := by decide +kernel
theorem dX5_miss_99 : decode cX5_miss 99 = .ok (.ireturn, 1) := by decide +kernel
theorem dX5_miss_100 : decode cX5_miss 100 = .ok (.iinc 6 1, 3) := by decide +kernel
theorem dX5_miss_103 : decode cX5_miss 103 = .ok (.goto (-55), 3) := by decide +kernel
theorem dX5_miss_106 : decode cX5_miss 106 = .ok (.iinc 5 1, 3) := by decide +kernel
theorem dX5_miss_109 : decode cX5_miss 109 = .ok (.goto (-70), 3) := by decide +kernel
theorem dX5_miss_112 : decode cX5_miss 112 = .ok (.bipush (-2), 2) := by decide +kernel
theorem dX5_miss_114 : decode cX5_miss 114 = .ok (.ireturn, 1) := by decide +kernel
theorem dX5_greedy_0 : decode cX5_greedy 0 = .ok (.iload_n 1, 1) := by decide +kernel
theorem dX5_greedy_1 : decode cX5_greedy 1 = .ok (.invokestatic 97, 3) := by decide +kernel
theorem dX5_greedy_4 : decode cX5_greedy 4 = .ok (.ifCond .eq 20, 3) := by decide +kernel
theorem dX5_greedy_7 : decode cX5_greedy 7 = .ok (.iload_n 2, 1) := by decide +kernel
theorem dX5_greedy_8 : decode cX5_greedy 8 = .ok (.invokestatic 97, 3) := by decide +kernel
theorem dX5_greedy_11 : decode cX5_greedy 11 = .ok (.ifCond .eq 13, 3) := by decide +kernel
theorem dX5_greedy_14 : decode cX5_greedy 14 = .ok (.iload_n 3, 1) := by decide +kernel
theorem dX5_greedy_15 : decode cX5_greedy 15 = .ok (.ifCond .lt 9, 3) := by decide +kernel
theorem dX5_greedy_18 : decode cX5_greedy 18 = .ok (.iload_n 3, 1) := by decide +kernel
theorem dX5_greedy_19 : decode cX5_greedy 19 = .ok (.bipush 8, 2) := by decide +kernel
theorem dX5_greedy_21 : decode cX5_greedy 21 = .ok (.if_icmp .le 5, 3) := by decide +kernel
theorem dX5_greedy_24 : decode cX5_greedy 24 = .ok (.iconst (-1), 1) := by decide +kernel
theorem dX5_greedy_25 : decode cX5_greedy 25 = .ok (.ireturn, 1) := by decide +kernel
theorem dX5_greedy_26 : decode cX5_greedy 26 = .ok (.aload_n 0, 1) := by decide +kernel
theorem dX5_greedy_27 : decode cX5_greedy 27 = .ok (.getfield 37, 3) := by decide +kernel
theorem dX5_greedy_30 : decode cX5_greedy 30 = .ok (.aload_n 0, 1) := by decide +kernel
theorem dX5_greedy_31 : decode cX5_greedy 31 = .ok (.getfield 53, 3) := by decide +kernel
theorem dX5_greedy_34 : decode cX5_greedy 34 = .ok (.iload_n 2, 1) := by decide +kernel
theorem dX5_greedy_35 : decode cX5_greedy 35 = .ok (.aaload, 1) := by decide +kernel
theorem dX5_greedy_36 : decode cX5_greedy 36 = .ok (.iload_n 3, 1) := by decide +kernel
theorem dX5_greedy_37 : decode cX5_greedy 37 = .ok (.aload_n 0, 1) := by decide +kernel
theorem dX5_greedy_38 : decode cX5_greedy 38 = .ok (.getfield 50, 3) := by decide +kernel
theorem dX5_greedy_41 : decode cX5_greedy 41 = .ok (.iload_n 1, 1) := by decide +kernel
theorem dX5_greedy_42 : decode cX5_greedy 42 = .ok (.aaload, 1) := by decide +kernel
theorem dX5_greedy_43 : decode cX5_greedy 43 = .ok (.invokevirtual 130, 3) := by decide +kernel
theorem dX5_greedy_46 : decode cX5_greedy 46 = .ok (.istore 4, 2) := by decide +kernel
theorem dX5_greedy_48 : decode cX5_greedy 48 = .ok (.iload 4, 2) := by decide +kernel
theorem dX5_greedy_50 : decode cX5_greedy 50 = .ok (.ifCond .ne 28, 3) := by decide +kernel
theorem dX5_greedy_53 : decode cX5_greedy 53 = .ok (.iconst 2, 1) := by decide +kernel
theorem dX5_greedy_54 : decode cX5_greedy 54 = .ok (.aload_n 0, 1) := by decide +kernel
theorem dX5_greedy_55 : decode cX5_greedy 55 = .ok (.getfield 50, 3) := by decide +kernel
theorem dX5_greedy_58 : decode cX5_greedy 58 = .ok (.iload_n 1, 1) := by decide +kernel
theorem dX5_greedy_59 : decode cX5_greedy 59 = .ok (.aaload, 1) := by decide +kernel
theorem dX5_greedy_60 : decode cX5_greedy 60 = .ok (.invokestatic 103, 3) := by decide +kernel
theorem dX5_greedy_63 : decode cX5_greedy 63 = .ok (.imul, 1) := by decide +kernel
theorem dX5_greedy_64 : decode cX5_greedy 64 = .ok (.aload_n 0, 1) := by decide +kernel
theorem dX5_greedy_65 : decode cX5_greedy 65 = .ok (.getfield 21, 3) := by decide +kernel
theorem dX5_greedy_68 : decode cX5_greedy 68 = .ok (.invokevirtual 91, 3) := by decide +kernel
theorem dX5_greedy_71 : decode cX5_greedy 71 = .ok (.if_icmp .ge 7, 3) := by decide +kernel
theorem dX5_greedy_74 : decode cX5_greedy 74 = .ok (.iconst 1, 1) := by decide +kernel
theorem dX5_greedy_75 : decode cX5_greedy 75 = .ok (.goto 4, 3) := by decide +kernel
theorem dX5_greedy_78 : decode cX5_greedy 78 = .ok (.iconst 0, 1) := by decide +kernel
theorem dX5_greedy_79 : decode cX5_greedy 79 = .ok (.istore 5, 2) := by decide +kernel
theorem dX5_greedy_81 : decode cX5_greedy 81 = .ok (.iload 5, 2) := by decide +kernel
theorem dX5_greedy_83 : decode cX5_greedy 83 = .ok (.ifCond .eq 11, 3) := by decide +kernel
theorem dX5_greedy_86 : decode cX5_greedy 86 = .ok (.iload 4, 2) := by decide +kernel
theorem dX5_greedy_88 : decode cX5_greedy 88 = .ok (.bipush 100, 2) := by decide +kernel
theorem dX5_greedy_90 : decode cX5_greedy 90 = .ok (.iadd, 1) := by decide +kernel
theorem dX5_greedy_91 : decode cX5_greedy 91 = .ok (.goto 5, 3) := by decide +kernel
theorem dX5_greedy_94 : decode cX5_greedy 94 = .ok (.iload 4, 2) := by decide +kernel
theorem dX5_greedy_96 : decode cX5_greedy 96 = .ok (.ireturn, 1) := by decide +kernel
theorem dX5_sketch_0 : decode cX5_sketch 0 = .ok (.iload_n 1, 1) := by decide +kernel
theorem dX5_sketch_1 : decode cX5_sketch 1 = .ok (.iconst 1, 1) := by decide +kernel
theorem dX5_sketch_2 : decode cX5_sketch 2 = .ok (.if_icmp .lt 19, 3) := by decide +kernel
theorem dX5_sketch_5 : decode cX5_sketch 5 = .ok (.iload_n 1, 1) := by decide +kernel
theorem dX5_sketch_6 : decode cX5_sketch 6 = .ok (.iconst 4, 1) := by decide +kernel
theorem dX5_sketch_7 : decode cX5_sketch 7 = .ok (.if_icmp .gt 14, 3) := by decide +kernel
theorem dX5_sketch_10 : decode cX5_sketch 10 = .ok (.iload_n 2, 1) := by decide +kernel
theorem dX5_sketch_11 : decode cX5_sketch 11 = .ok (.iconst 2, 1) := by decide +kernel
theorem dX5_sketch_12 : decode cX5_sketch 12 = .ok (.if_icmp .lt 9, 3) := by decide +kernel
theorem dX5_sketch_15 : decode cX5_sketch 15 = .ok (.iload_n 2, 1) := by decide +kernel
theorem dX5_sketch_16 : decode cX5_sketch 16 = .ok (.bipush 32, 2) := by decide +kernel
theorem dX5_sketch_18 : decode cX5_sketch 18 = .ok (.if_icmp .le 5, 3) := by decide +kernel
theorem dX5_sketch_21 : decode cX5_sketch 21 = .ok (.iconst (-1), 1) := by decide +kernel
theorem dX5_sketch_22 : decode cX5_sketch 22 = .ok (.ireturn, 1) := by decide +kernel
theorem dX5_sketch_23 : decode cX5_sketch 23 = .ok (.aload_n 0, 1) := by decide +kernel
theorem dX5_sketch_24 : decode cX5_sketch 24 = .ok (.getfield 44, 3) := by decide +kernel
theorem dX5_sketch_27 : decode cX5_sketch 27 = .ok (.iload_n 1, 1) := by decide +kernel
theorem dX5_sketch_28 : decode cX5_sketch 28 = .ok (.iload_n 2, 1) := by decide +kernel
theorem dX5_sketch_29 : decode cX5_sketch 29 = .ok (.invokevirtual 134, 3) := by decide +kernel
theorem dX5_sketch_32 : decode cX5_sketch 32 = .ok (.iconst 0, 1) := by decide +kernel
theorem dX5_sketch_33 : decode cX5_sketch 33 = .ok (.ireturn, 1) := by decide +kernel
theorem dX5_add_0 : decode cX5_add 0 = .ok (.iload_n 1, 1) := by decide +kernel
theorem dX5_add_1 : decode cX5_add 1 = .ok (.ifCond .lt 23, 3) := by decide +kernel
theorem dX5_add_4 : decode cX5_add 4 = .ok (.iload_n 1, 1) := by decide +kernel
theorem dX5_add_5 : decode cX5_add 5 = .ok (.ldc 137, 2) := by decide +kernel
theorem dX5_add_7 : decode cX5_add 7 = .ok (.if_icmp .gt 17, 3) := by decide +kernel
theorem dX5_add_10 : decode cX5_add 10 = .ok (.iload_n 2, 1) := by decide +kernel
theorem dX5_add_11 : decode cX5_add 11 = .ok (.sipush (-1000), 3) := by decide +kernel
theorem dX5_add_14 : decode cX5_add 14 = .ok (.if_icmp .lt 10, 3) := by decide +kernel
theorem dX5_add_17 : decode cX5_add 17 = .ok (.iload_n 2, 1) := by decide +kernel
theorem dX5_add_18 : decode cX5_add 18 = .ok (.sipush 1000, 3) := by decide +kernel
theorem dX5_add_21 : decode cX5_add 21 = .ok (.if_icmp .le 5, 3) := by decide +kernel
theorem dX5_add_24 : decode cX5_add 24 = .ok (.iconst (-1), 1) := by decide +kernel
theorem dX5_add_25 : decode cX5_add 25 = .ok (.ireturn, 1) := by decide +kernel
theorem dX5_add_26 : decode cX5_add 26 = .ok (.aload_n 0, 1) := by decide +kernel
theorem dX5_add_27 : decode cX5_add 27 = .ok (.getfield 44, 3) := by decide +kernel
theorem dX5_add_30 : decode cX5_add 30 = .ok (.getfield 138, 3) := by decide +kernel
theorem dX5_add_33 : decode cX5_add 33 = .ok (.ldc 141, 2) := by decide +kernel
theorem dX5_add_35 : decode cX5_add 35 = .ok (.if_icmp .lt 6, 3) := by decide +kernel
theorem dX5_add_38 : decode cX5_add 38 = .ok (.bipush (-3), 2) := by decide +kernel
theorem dX5_add_40 : decode cX5_add 40 = .ok (.ireturn, 1) := by decide +kernel
theorem dX5_add_41 : decode cX5_add 41 = .ok (.aload_n 0, 1) := by decide +kernel
theorem dX5_add_42 : decode cX5_add 42 = .ok (.getfield 44, 3) := by decide +kernel
theorem dX5_add_45 : decode cX5_add 45 = .ok (.iload_n 1, 1) := by decide +kernel
theorem dX5_add_46 : decode cX5_add 46 = .ok (.iload_n 2, 1) := by decide +kernel
theorem dX5_add_47 : decode cX5_add 47 = .ok (.invokevirtual 142, 3) := by decide +kernel
theorem dX5_add_50 : decode cX5_add 50 = .ok (.aload_n 0, 1) := by decide +kernel
theorem dX5_add_51 : decode cX5_add 51 = .ok (.getfield 44, 3) := by decide +kernel
theorem dX5_add_54 : decode cX5_add 54 = .ok (.getfield 138, 3) := by decide +kernel
theorem dX5_add_57 : decode cX5_add 57 = .ok (.ireturn, 1) := by decide +kernel
theorem dX5_decode_0 : decode cX5_decode 0 = .ok (.aload_n 0, 1) := by decide +kernel
theorem dX5_decode_1 : decode cX5_decode 1 = .ok (.getfield 44, 3) := by decide +kernel
theorem dX5_decode_4 : decode cX5_decode 4 = .ok (.invokevirtual 145, 3) := by decide +kernel
theorem dX5_decode_7 : decode cX5_decode 7 = .ok (.istore_n 1, 1) := by decide +kernel
theorem dX5_decode_8 : decode cX5_decode 8 = .ok (.iload_n 1, 1) := by decide +kernel
theorem dX5_decode_9 : decode cX5_decode 9 = .ok (.ifCond .eq 17, 3) := by decide +kernel
theorem dX5_decode_12 : decode cX5_decode 12 = .ok (.aload_n 0, 1) := by decide +kernel
theorem dX5_decode_13 : decode cX5_decode 13 = .ok (.getfield 44, 3) := by decide +kernel
theorem dX5_decode_16 : decode cX5_decode 16 = .ok (.getfield 149, 3) := by decide +kernel
theorem dX5_decode_19 : decode cX5_decode 19 = .ok (.sipush 10000, 3) := by decide +kernel
theorem dX5_decode_22 : decode cX5_decode 22 = .ok (.iadd, 1) := by decide +kernel
theorem dX5_decode_23 : decode cX5_decode 23 = .ok (.goto 10, 3) := by decide +kernel
theorem dX5_decode_26 : decode cX5_decode 26 = .ok (.aload_n 0, 1) := by decide +kernel
theorem dX5_decode_27 : decode cX5_decode 27 = .ok (.getfield 44, 3) := by decide +kernel
theorem dX5_decode_30 : decode cX5_decode 30 = .ok (.getfield 149, 3) := by decide +kernel
theorem dX5_decode_33 : decode cX5_decode 33 = .ok (.ireturn, 1) := by decide +kernel
theorem dX5_decoded_0 : decode cX5_decoded 0 = .ok (.iload_n 1, 1) := by decide +kernel
theorem dX5_decoded_1 : decode cX5_decoded 1 = .ok (.ifCond .lt 12, 3) := by decide +kernel
theorem dX5_decoded_4 : decode cX5_decoded 4 = .ok (.iload_n 2, 1) := by decide +kernel
theorem dX5_decoded_5 : decode cX5_decoded 5 = .ok (.ifCond .lt 8, 3) := by decide +kernel
theorem dX5_decoded_8 : decode cX5_decoded 8 = .ok (.iload_n 2, 1) := by decide +kernel
theorem dX5_decoded_9 : decode cX5_decoded 9 = .ok (.iconst 1, 1) := by decide +kernel
theorem dX5_decoded_10 : decode cX5_decoded 10 = .ok (.if_icmp .le 6, 3) := by decide +kernel
theorem dX5_decoded_13 : decode cX5_decoded 13 = .ok (.ldc 152, 2) := by decide +kernel
theorem dX5_decoded_15 : decode cX5_decoded 15 = .ok (.ireturn, 1) := by decide +kernel
theorem dX5_decoded_16 : decode cX5_decoded 16 = .ok (.iload_n 1, 1) := by decide +kernel
theorem dX5_decoded_17 : decode cX5_decoded 17 = .ok (.aload_n 0, 1) := by decide +kernel
theorem dX5_decoded_18 : decode cX5_decoded 18 = .ok (.getfield 44, 3) := by decide +kernel
theorem dX5_decoded_21 : decode cX5_decoded 21 = .ok (.getfield 149, 3) := by decide +kernel
theorem dX5_decoded_24 : decode cX5_decoded 24 = .ok (.if_icmp .ge 9, 3) := by decide +kernel
theorem dX5_decoded_27 : decode cX5_decoded 27 = .ok (.iload_n 1, 1) := by decide +kernel
theorem dX5_decoded_28 : decode cX5_decoded 28 = .ok (.bipush 100, 2) := by decide +kernel
theorem dX5_decoded_30 : decode cX5_decoded 30 = .ok (.if_icmp .lt 6, 3) := by decide +kernel
theorem dX5_decoded_33 : decode cX5_decoded 33 = .ok (.ldc 153, 2) := by decide +kernel
theorem dX5_decoded_35 : decode cX5_decoded 35 = .ok (.ireturn, 1) := by decide +kernel
theorem dX5_decoded_36 : decode cX5_decoded 36 = .ok (.iload_n 2, 1) := by decide +kernel
theorem dX5_decoded_37 : decode cX5_decoded 37 = .ok (.ifCond .ne 15, 3) := by decide +kernel
theorem dX5_decoded_40 : decode cX5_decoded 40 = .ok (.aload_n 0, 1) := by decide +kernel
theorem dX5_decoded_41 : decode cX5_decoded 41 = .ok (.getfield 44, 3) := by decide +kernel
theorem dX5_decoded_44 : decode cX5_decoded 44 = .ok (.getfield 154, 3) := by decide +kernel
theorem dX5_decoded_47 : decode cX5_decoded 47 = .ok (.iload_n 1, 1) := by decide +kernel
theorem dX5_decoded_48 : decode cX5_decoded 48 = .ok (.iaload, 1) := by decide +kernel
theorem dX5_decoded_49 : decode cX5_decoded 49 = .ok (.goto 12, 3) := by decide +kernel
theorem dX5_decoded_52 : decode cX5_decoded 52 = .ok (.aload_n 0, 1) := by decide +kernel
theorem dX5_decoded_53 : decode cX5_decoded 53 = .ok (.getfield 44, 3) := by decide +kernel
theorem dX5_decoded_56 : decode cX5_decoded 56 = .ok (.getfield 157, 3) := by decide +kernel
theorem dX5_decoded_59 : decode cX5_decoded 59 = .ok (.iload_n 1, 1) := by decide +kernel
theorem dX5_decoded_60 : decode cX5_decoded 60 = .ok (.iaload, 1) := by decide +kernel
theorem dX5_decoded_61 : decode cX5_decoded 61 = .ok (.ireturn, 1) := by decide +kernel
theorem dX5_bucket_0 : decode cX5_bucket 0 = .ok (.iload_n 1, 1) := by decide +kernel
theorem dX5_bucket_1 : decode cX5_bucket 1 = .ok (.ifCond .lt 38, 3) := by decide +kernel
theorem dX5_bucket_4 : decode cX5_bucket 4 = .ok (.iload_n 1, 1) := by decide +kernel
theorem dX5_bucket_5 : decode cX5_bucket 5 = .ok (.aload_n 0, 1) := by decide +kernel
theorem dX5_bucket_6 : decode cX5_bucket 6 = .ok (.getfield 44, 3) := by decide +kernel
theorem dX5_bucket_9 : decode cX5_bucket 9 = .ok (.getfield 160, 3) := by decide +kernel
theorem dX5_bucket_12 : decode cX5_bucket 12 = .ok (.if_icmp .ge 27, 3) := by decide +kernel
theorem dX5_bucket_15 : decode cX5_bucket 15 = .ok (.iload_n 2, 1) := by decide +kernel
theorem dX5_bucket_16 : decode cX5_bucket 16 = .ok (.ifCond .lt 23, 3) := by decide +kernel
theorem dX5_bucket_19 : decode cX5_bucket 19 = .ok (.iload_n 2, 1) := by decide +kernel
theorem dX5_bucket_20 : decode cX5_bucket 20 = .ok (.aload_n 0, 1) := by decide +kernel
theorem dX5_bucket_21 : decode cX5_bucket 21 = .ok (.getfield 44, 3) := by decide +kernel
theorem dX5_bucket_24 : decode cX5_bucket 24 = .ok (.getfield 163, 3) := by decide +kernel
theorem dX5_bucket_27 : decode cX5_bucket 27 = .ok (.if_icmp .ge 12, 3) := by decide +kernel
theorem dX5_bucket_30 : decode cX5_bucket 30 = .ok (.iload_n 3, 1) := by decide +kernel
theorem dX5_bucket_31 : decode cX5_bucket 31 = .ok (.ifCond .lt 8, 3) := by decide +kernel
theorem dX5_bucket_34 : decode cX5_bucket 34 = .ok (.iload_n 3, 1) := by decide +kernel
theorem dX5_bucket_35 : decode cX5_bucket 35 = .ok (.iconst 3, 1) := by decide +kernel
theorem dX5_bucket_36 : decode cX5_bucket 36 = .ok (.if_icmp .lt 7, 3) := by decide +kernel
theorem dX5_bucket_39 : decode cX5_bucket 39 = .ok (.ldc2_w 166, 3) := by decide +kernel
theorem dX5_bucket_42 : decode cX5_bucket 42 = .ok (.lreturn, 1) := by decide +kernel
theorem dX5_bucket_43 : decode cX5_bucket 43 = .ok (.aload_n 0, 1) := by decide +kernel
theorem dX5_bucket_44 : decode cX5_bucket 44 = .ok (.getfield 44, 3) := by decide +kernel
theorem dX5_bucket_47 : decode cX5_bucket 47 = .ok (.getfield 168, 3) := by decide +kernel
theorem dX5_bucket_50 : decode cX5_bucket 50 = .ok (.iload_n 1, 1) := by decide +kernel
theorem dX5_bucket_51 : decode cX5_bucket 51 = .ok (.iload_n 2, 1) := by decide +kernel
theorem dX5_bucket_52 : decode cX5_bucket 52 = .ok (.invokestatic 172, 3) := by decide +kernel
theorem dX5_bucket_55 : decode cX5_bucket 55 = .ok (.iload_n 3, 1) := by decide +kernel
theorem dX5_bucket_56 : decode cX5_bucket 56 = .ok (.iadd, 1) := by decide +kernel
theorem dX5_bucket_57 : decode cX5_bucket 57 = .ok (.laload, 1) := by decide +kernel
theorem dX5_bucket_58 : decode cX5_bucket 58 = .ok (.lreturn, 1) := by decide +kernel
theorem dX5_count_0 : decode cX5_count 0 = .ok (.iload_n 1, 1) := by decide +kernel
theorem dX5_count_1 : decode cX5_count 1 = .ok (.tableswitch 87 0 5 #[39, 47, 55, 63, 71, 79], 39) := by decide +kernel
theorem dX5_count_40 : decode cX5_count 40 = .ok (.aload_n 0, 1) := by decide +kernel
theorem dX5_count_41 : decode cX5_count 41 = .ok (.getfield 10, 3) := by decide +kernel
theorem dX5_count_44 : decode cX5_count 44 = .ok (.getfield 79, 3) := by decide +kernel
theorem dX5_count_47 : decode cX5_count 47 = .ok (.ireturn, 1) := by decide +kernel
theorem dX5_count_48 : decode cX5_count 48 = .ok (.aload_n 0, 1) := by decide +kernel
theorem dX5_count_49 : decode cX5_count 49 = .ok (.getfield 10, 3) := by decide +kernel
theorem dX5_count_52 : decode cX5_count 52 = .ok (.getfield 107, 3) := by decide +kernel
theorem dX5_count_55 : decode cX5_count 55 = .ok (.ireturn, 1) := by decide +kernel
theorem dX5_count_56 : decode cX5_count 56 = .ok (.aload_n 0, 1) := by decide +kernel
theorem dX5_count_57 : decode cX5_count 57 = .ok (.getfield 10, 3) := by decide +kernel
theorem dX5_count_60 : decode cX5_count 60 = .ok (.getfield 100, 3) := by decide +kernel
theorem dX5_count_63 : decode cX5_count 63 = .ok (.ireturn, 1) := by decide +kernel
theorem dX5_count_64 : decode cX5_count 64 = .ok (.aload_n 0, 1) := by decide +kernel
theorem dX5_count_65 : decode cX5_count 65 = .ok (.getfield 44, 3) := by decide +kernel
theorem dX5_count_68 : decode cX5_count 68 = .ok (.getfield 160, 3) := by decide +kernel
theorem dX5_count_71 : decode cX5_count 71 = .ok (.ireturn, 1) := by decide +kernel
theorem dX5_count_72 : decode cX5_count 72 = .ok (.aload_n 0, 1) := by decide +kernel
theorem dX5_count_73 : decode cX5_count 73 = .ok (.getfield 44, 3) := by decide +kernel
theorem dX5_count_76 : decode cX5_count 76 = .ok (.getfield 163, 3) := by decide +kernel
theorem dX5_count_79 : decode cX5_count 79 = .ok (.ireturn, 1) := by decide +kernel
theorem dX5_count_80 : decode cX5_count 80 = .ok (.aload_n 0, 1) := by decide +kernel
theorem dX5_count_81 : decode cX5_count 81 = .ok (.getfield 44, 3) := by decide +kernel
theorem dX5_count_84 : decode cX5_count 84 = .ok (.getfield 138, 3) := by decide +kernel
theorem dX5_count_87 : decode cX5_count 87 = .ok (.ireturn, 1) := by decide +kernel
theorem dX5_count_88 : decode cX5_count 88 = .ok (.iconst (-1), 1) := by decide +kernel
theorem dX5_count_89 : decode cX5_count 89 = .ok (.ireturn, 1) := by decide +kernel
theorem dX5_isKept_0 : decode cX5_isKept 0 = .ok (.iload_n 0, 1) := by decide +kernel
theorem dX5_isKept_1 : decode cX5_isKept 1 = .ok (.ifCond .lt 13, 3) := by decide +kernel
theorem dX5_isKept_4 : decode cX5_isKept 4 = .ok (.iload_n 0, 1) := by decide +kernel
theorem dX5_isKept_5 : decode cX5_isKept 5 = .ok (.bipush 6, 2) := by decide +kernel
theorem dX5_isKept_7 : decode cX5_isKept 7 = .ok (.if_icmp .ge 7, 3) := by decide +kernel
theorem dX5_isKept_10 : decode cX5_isKept 10 = .ok (.iconst 1, 1) := by decide +kernel
theorem dX5_isKept_11 : decode cX5_isKept 11 = .ok (.goto 4, 3) := by decide +kernel
theorem dX5_isKept_14 : decode cX5_isKept 14 = .ok (.iconst 0, 1) := by decide +kernel
theorem dX5_isKept_15 : decode cX5_isKept 15 = .ok (.ireturn, 1) := by decide +kernel
theorem dX5_isPrime_0 : decode cX5_isPrime 0 = .ok (.iload_n 0, 1) := by decide +kernel
theorem dX5_isPrime_1 : decode cX5_isPrime 1 = .ok (.iconst 2, 1) := by decide +kernel
theorem dX5_isPrime_2 : decode cX5_isPrime 2 = .ok (.if_icmp .lt 9, 3) := by decide +kernel
theorem dX5_isPrime_5 : decode cX5_isPrime 5 = .ok (.iload_n 0, 1) := by decide +kernel
theorem dX5_isPrime_6 : decode cX5_isPrime 6 = .ok (.bipush 97, 2) := by decide +kernel
theorem dX5_isPrime_8 : decode cX5_isPrime 8 = .ok (.if_icmp .le 5, 3) := by decide +kernel
