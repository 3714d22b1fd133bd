theorem dX11_seen_53 : decode cX11_seen 53 = .ok (.getfield 12, 3) := by decide +kernel
theorem dX11_seen_56 : decode cX11_seen 56 = .ok (.getfield 53, 3) := by decide +kernel
theorem dX11_seen_59 : decode cX11_seen 59 = .ok (.invokevirtual 252, 3) := by decide +kernel
theorem dX11_seen_62 : decode cX11_seen 62 = .ok (.ireturn, 1) := by decide +kernel
theorem dX11_seen_63 : decode cX11_seen 63 = .ok (.iconst (-1), 1) := by decide +kernel
theorem dX11_seen_64 : decode cX11_seen 64 = .ok (.ireturn, 1) := by decide +kernel
theorem dX11_hears_0 : decode cX11_hears 0 = .ok (.aload_n 0, 1) := by decide +kernel
theorem dX11_hears_1 : decode cX11_hears 1 = .ok (.getfield 12, 3) := by decide +kernel
theorem dX11_hears_4 : decode cX11_hears 4 = .ok (.getfield 53, 3) := by decide +kernel
theorem dX11_hears_7 : decode cX11_hears 7 = .ok (.astore_n 3, 1) := by decide +kernel
theorem dX11_hears_8 : decode cX11_hears 8 = .ok (.aload_n 3, 1) := by decide +kernel
theorem dX11_hears_9 : decode cX11_hears 9 = .ok (.iload_n 1, 1) := by decide +kernel
theorem dX11_hears_10 : decode cX11_hears 10 = .ok (.invokevirtual 158, 3) := by decide +kernel
theorem dX11_hears_13 : decode cX11_hears 13 = .ok (.ifCond .eq 12, 3) := by decide +kernel
theorem dX11_hears_16 : decode cX11_hears 16 = .ok (.iload_n 2, 1) := by decide +kernel
theorem dX11_hears_17 : decode cX11_hears 17 = .ok (.ifCond .lt 8, 3) := by decide +kernel
theorem dX11_hears_20 : decode cX11_hears 20 = .ok (.iload_n 2, 1) := by decide +kernel
theorem dX11_hears_21 : decode cX11_hears 21 = .ok (.iconst 1, 1) := by decide +kernel
theorem dX11_hears_22 : decode cX11_hears 22 = .ok (.if_icmp .le 5, 3) := by decide +kernel
theorem dX11_hears_25 : decode cX11_hears 25 = .ok (.iconst (-1), 1) := by decide +kernel
theorem dX11_hears_26 : decode cX11_hears 26 = .ok (.ireturn, 1) := by decide +kernel
theorem dX11_hears_27 : decode cX11_hears 27 = .ok (.iconst 0, 1) := by decide +kernel
theorem dX11_hears_28 : decode cX11_hears 28 = .ok (.istore 4, 2) := by decide +kernel
theorem dX11_hears_30 : decode cX11_hears 30 = .ok (.iconst (-1), 1) := by decide +kernel
theorem dX11_hears_31 : decode cX11_hears 31 = .ok (.istore 5, 2) := by decide +kernel
theorem dX11_hears_33 : decode cX11_hears 33 = .ok (.iconst 0, 1) := by decide +kernel
theorem dX11_hears_34 : decode cX11_hears 34 = .ok (.istore 6, 2) := by decide +kernel
theorem dX11_hears_36 : decode cX11_hears 36 = .ok (.iload 6, 2) := by decide +kernel
theorem dX11_hears_38 : decode cX11_hears 38 = .ok (.aload_n 3, 1) := by decide +kernel
theorem dX11_hears_39 : decode cX11_hears 39 = .ok (.getfield 63, 3) := by decide +kernel
theorem dX11_hears_42 : decode cX11_hears 42 = .ok (.if_icmp .ge 55, 3) := by decide +kernel
theorem dX11_hears_45 : decode cX11_hears 45 = .ok (.iload 6, 2) := by decide +kernel
theorem dX11_hears_47 : decode cX11_hears 47 = .ok (.iload_n 1, 1) := by decide +kernel
theorem dX11_hears_48 : decode cX11_hears 48 = .ok (.if_icmp .eq 43, 3) := by decide +kernel
theorem dX11_hears_51 : decode cX11_hears 51 = .ok (.aload_n 3, 1) := by decide +kernel
theorem dX11_hears_52 : decode cX11_hears 52 = .ok (.iload_n 1, 1) := by decide +kernel
theorem dX11_hears_53 : decode cX11_hears 53 = .ok (.iload 6, 2) := by decide +kernel
theorem dX11_hears_55 : decode cX11_hears 55 = .ok (.invokevirtual 255, 3) := by decide +kernel
theorem dX11_hears_58 : decode cX11_hears 58 = .ok (.ifCond .eq 33, 3) := by decide +kernel
theorem dX11_hears_61 : decode cX11_hears 61 = .ok (.iinc 4 1, 3) := by decide +kernel
theorem dX11_hears_64 : decode cX11_hears 64 = .ok (.iload 5, 2) := by decide +kernel
theorem dX11_hears_66 : decode cX11_hears 66 = .ok (.iconst (-1), 1) := by decide +kernel
theorem dX11_hears_67 : decode cX11_hears 67 = .ok (.if_icmp .eq 20, 3) := by decide +kernel
theorem dX11_hears_70 : decode cX11_hears 70 = .ok (.iload 6, 2) := by decide +kernel
theorem dX11_hears_72 : decode cX11_hears 72 = .ok (.iload_n 1, 1) := by decide +kernel
theorem dX11_hears_73 : decode cX11_hears 73 = .ok (.isub, 1) := by decide +kernel
theorem dX11_hears_74 : decode cX11_hears 74 = .ok (.invokestatic 259, 3) := by decide +kernel
theorem dX11_hears_77 : decode cX11_hears 77 = .ok (.iload 5, 2) := by decide +kernel
theorem dX11_hears_79 : decode cX11_hears 79 = .ok (.iload_n 1, 1) := by decide +kernel
theorem dX11_hears_80 : decode cX11_hears 80 = .ok (.isub, 1) := by decide +kernel
theorem dX11_hears_81 : decode cX11_hears 81 = .ok (.invokestatic 259, 3) := by decide +kernel
theorem dX11_hears_84 : decode cX11_hears 84 = .ok (.if_icmp .le 7, 3) := by decide +kernel
theorem dX11_hears_87 : decode cX11_hears 87 = .ok (.iload 6, 2) := by decide +kernel
theorem dX11_hears_89 : decode cX11_hears 89 = .ok (.istore 5, 2) := by decide +kernel
theorem dX11_hears_91 : decode cX11_hears 91 = .ok (.iinc 6 1, 3) := by decide +kernel
theorem dX11_hears_94 : decode cX11_hears 94 = .ok (.goto (-58), 3) := by decide +kernel
theorem dX11_hears_97 : decode cX11_hears 97 = .ok (.iload_n 2, 1) := by decide +kernel
theorem dX11_hears_98 : decode cX11_hears 98 = .ok (.ifCond .ne 8, 3) := by decide +kernel
theorem dX11_hears_101 : decode cX11_hears 101 = .ok (.iload 4, 2) := by decide +kernel
theorem dX11_hears_103 : decode cX11_hears 103 = .ok (.goto 5, 3) := by decide +kernel
theorem dX11_hears_106 : decode cX11_hears 106 = .ok (.iload 5, 2) := by decide +kernel
theorem dX11_hears_108 : decode cX11_hears 108 = .ok (.ireturn, 1) := by decide +kernel
theorem dX11_build_0 : decode cX11_build 0 = .ok (.iload_n 1, 1) := by decide +kernel
theorem dX11_build_1 : decode cX11_build 1 = .ok (.iconst (-1), 1) := by decide +kernel
theorem dX11_build_2 : decode cX11_build 2 = .ok (.if_icmp .ne 16, 3) := by decide +kernel
theorem dX11_build_5 : decode cX11_build 5 = .ok (.aload_n 0, 1) := by decide +kernel
theorem dX11_build_6 : decode cX11_build 6 = .ok (.getfield 12, 3) := by decide +kernel
theorem dX11_build_9 : decode cX11_build 9 = .ok (.getfield 262, 3) := by decide +kernel
theorem dX11_build_12 : decode cX11_build 12 = .ok (.iconst 0, 1) := by decide +kernel
theorem dX11_build_13 : decode cX11_build 13 = .ok (.putfield 266, 3) := by decide +kernel
theorem dX11_build_16 : decode cX11_build 16 = .ok (.iconst 0, 1) := by decide +kernel
theorem dX11_build_17 : decode cX11_build 17 = .ok (.ireturn, 1) := by decide +kernel
theorem dX11_build_18 : decode cX11_build 18 = .ok (.iload_n 1, 1) := by decide +kernel
theorem dX11_build_19 : decode cX11_build 19 = .ok (.iconst 1, 1) := by decide +kernel
theorem dX11_build_20 : decode cX11_build 20 = .ok (.bipush 30, 2) := by decide +kernel
theorem dX11_build_22 : decode cX11_build 22 = .ok (.invokestatic 70, 3) := by decide +kernel
theorem dX11_build_25 : decode cX11_build 25 = .ok (.ifCond .eq 13, 3) := by decide +kernel
theorem dX11_build_28 : decode cX11_build 28 = .ok (.iload_n 2, 1) := by decide +kernel
theorem dX11_build_29 : decode cX11_build 29 = .ok (.iconst 1, 1) := by decide +kernel
theorem dX11_build_30 : decode cX11_build 30 = .ok (.bipush 30, 2) := by decide +kernel
theorem dX11_build_32 : decode cX11_build 32 = .ok (.invokestatic 70, 3) := by decide +kernel
theorem dX11_build_35 : decode cX11_build 35 = .ok (.ifCond .ne 5, 3) := by decide +kernel
theorem dX11_build_38 : decode cX11_build 38 = .ok (.iconst (-1), 1) := by decide +kernel
theorem dX11_build_39 : decode cX11_build 39 = .ok (.ireturn, 1) := by decide +kernel
theorem dX11_build_40 : decode cX11_build 40 = .ok (.aload_n 0, 1) := by decide +kernel
theorem dX11_build_41 : decode cX11_build 41 = .ok (.getfield 12, 3) := by decide +kernel
theorem dX11_build_44 : decode cX11_build 44 = .ok (.getfield 262, 3) := by decide +kernel
theorem dX11_build_47 : decode cX11_build 47 = .ok (.iload_n 1, 1) := by decide +kernel
theorem dX11_build_48 : decode cX11_build 48 = .ok (.iload_n 2, 1) := by decide +kernel
theorem dX11_build_49 : decode cX11_build 49 = .ok (.invokevirtual 271, 3) := by decide +kernel
theorem dX11_build_52 : decode cX11_build 52 = .ok (.ireturn, 1) := by decide +kernel
theorem dX11_builds_0 : decode cX11_builds 0 = .ok (.iload_n 1, 1) := by decide +kernel
theorem dX11_builds_1 : decode cX11_builds 1 = .ok (.ifCond .ne 14, 3) := by decide +kernel
theorem dX11_builds_4 : decode cX11_builds 4 = .ok (.aload_n 0, 1) := by decide +kernel
theorem dX11_builds_5 : decode cX11_builds 5 = .ok (.getfield 12, 3) := by decide +kernel
theorem dX11_builds_8 : decode cX11_builds 8 = .ok (.getfield 262, 3) := by decide +kernel
theorem dX11_builds_11 : decode cX11_builds 11 = .ok (.invokevirtual 274, 3) := by decide +kernel
theorem dX11_builds_14 : decode cX11_builds 14 = .ok (.ireturn, 1) := by decide +kernel
theorem dX11_builds_15 : decode cX11_builds 15 = .ok (.iload_n 1, 1) := by decide +kernel
theorem dX11_builds_16 : decode cX11_builds 16 = .ok (.bipush 10, 2) := by decide +kernel
theorem dX11_builds_18 : decode cX11_builds 18 = .ok (.if_icmp .lt 20, 3) := by decide +kernel
theorem dX11_builds_21 : decode cX11_builds 21 = .ok (.iload_n 1, 1) := by decide +kernel
theorem dX11_builds_22 : decode cX11_builds 22 = .ok (.bipush 10, 2) := by decide +kernel
theorem dX11_builds_24 : decode cX11_builds 24 = .ok (.aload_n 0, 1) := by decide +kernel
theorem dX11_builds_25 : decode cX11_builds 25 = .ok (.getfield 12, 3) := by decide +kernel
theorem dX11_builds_28 : decode cX11_builds 28 = .ok (.getfield 262, 3) := by decide +kernel
theorem dX11_builds_31 : decode cX11_builds 31 = .ok (.getfield 266, 3) := by decide +kernel
theorem dX11_builds_34 : decode cX11_builds 34 = .ok (.iadd, 1) := by decide +kernel
theorem dX11_builds_35 : decode cX11_builds 35 = .ok (.if_icmp .lt 5, 3) := by decide +kernel
theorem dX11_builds_38 : decode cX11_builds 38 = .ok (.iconst (-1), 1) := by decide +kernel
theorem dX11_builds_39 : decode cX11_builds 39 = .ok (.ireturn, 1) := by decide +kernel
theorem dX11_builds_40 : decode cX11_builds 40 = .ok (.aload_n 0, 1) := by decide +kernel
theorem dX11_builds_41 : decode cX11_builds 41 = .ok (.getfield 12, 3) := by decide +kernel
theorem dX11_builds_44 : decode cX11_builds 44 = .ok (.getfield 262, 3) := by decide +kernel
theorem dX11_builds_47 : decode cX11_builds 47 = .ok (.iload_n 1, 1) := by decide +kernel
theorem dX11_builds_48 : decode cX11_builds 48 = .ok (.bipush 10, 2) := by decide +kernel
theorem dX11_builds_50 : decode cX11_builds 50 = .ok (.isub, 1) := by decide +kernel
theorem dX11_builds_51 : decode cX11_builds 51 = .ok (.invokevirtual 277, 3) := by decide +kernel
theorem dX11_builds_54 : decode cX11_builds 54 = .ok (.ireturn, 1) := by decide +kernel
theorem dX11_gone_0 : decode cX11_gone 0 = .ok (.iload_n 1, 1) := by decide +kernel
theorem dX11_gone_1 : decode cX11_gone 1 = .ok (.iconst 0, 1) := by decide +kernel
theorem dX11_gone_2 : decode cX11_gone 2 = .ok (.sipush 1000, 3) := by decide +kernel
theorem dX11_gone_5 : decode cX11_gone 5 = .ok (.invokestatic 70, 3) := by decide +kernel
theorem dX11_gone_8 : decode cX11_gone 8 = .ok (.ifCond .eq 23, 3) := by decide +kernel
theorem dX11_gone_11 : decode cX11_gone 11 = .ok (.iload_n 2, 1) := by decide +kernel
theorem dX11_gone_12 : decode cX11_gone 12 = .ok (.iconst 0, 1) := by decide +kernel
theorem dX11_gone_13 : decode cX11_gone 13 = .ok (.bipush 20, 2) := by decide +kernel
theorem dX11_gone_15 : decode cX11_gone 15 = .ok (.invokestatic 70, 3) := by decide +kernel
theorem dX11_gone_18 : decode cX11_gone 18 = .ok (.ifCond .eq 13, 3) := by decide +kernel
theorem dX11_gone_21 : decode cX11_gone 21 = .ok (.iload_n 3, 1) := by decide +kernel
theorem dX11_gone_22 : decode cX11_gone 22 = .ok (.iload_n 2, 1) := by decide +kernel
theorem dX11_gone_23 : decode cX11_gone 23 = .ok (.bipush 40, 2) := by decide +kernel
theorem dX11_gone_25 : decode cX11_gone 25 = .ok (.invokestatic 70, 3) := by decide +kernel
theorem dX11_gone_28 : decode cX11_gone 28 = .ok (.ifCond .ne 5, 3) := by decide +kernel
theorem dX11_gone_31 : decode cX11_gone 31 = .ok (.iconst (-1), 1) := by decide +kernel
theorem dX11_gone_32 : decode cX11_gone 32 = .ok (.ireturn, 1) := by decide +kernel
theorem dX11_gone_33 : decode cX11_gone 33 = .ok (.iload_n 1, 1) := by decide +kernel
theorem dX11_gone_34 : decode cX11_gone 34 = .ok (.i2l, 1) := by decide +kernel
theorem dX11_gone_35 : decode cX11_gone 35 = .ok (.ldc2_w 280, 3) := by decide +kernel
theorem dX11_gone_38 : decode cX11_gone 38 = .ok (.lmul, 1) := by decide +kernel
theorem dX11_gone_39 : decode cX11_gone 39 = .ok (.lstore 4, 2) := by decide +kernel
theorem dX11_gone_41 : decode cX11_gone 41 = .ok (.iconst 0, 1) := by decide +kernel
theorem dX11_gone_42 : decode cX11_gone 42 = .ok (.istore 6, 2) := by decide +kernel
theorem dX11_gone_44 : decode cX11_gone 44 = .ok (.iload 6, 2) := by decide +kernel
theorem dX11_gone_46 : decode cX11_gone 46 = .ok (.iload_n 2, 1) := by decide +kernel
theorem dX11_gone_47 : decode cX11_gone 47 = .ok (.if_icmp .ge 19, 3) := by decide +kernel
theorem dX11_gone_50 : decode cX11_gone 50 = .ok (.lload 4, 2) := by decide +kernel
theorem dX11_gone_52 : decode cX11_gone 52 = .ok (.bipush 8, 2) := by decide +kernel
theorem dX11_gone_54 : decode cX11_gone 54 = .ok (.iconst 2, 1) := by decide +kernel
theorem dX11_gone_55 : decode cX11_gone 55 = .ok (.invokestatic 282, 3) := by decide +kernel
theorem dX11_gone_58 : decode cX11_gone 58 = .ok (.lstore 4, 2) := by decide +kernel
theorem dX11_gone_60 : decode cX11_gone 60 = .ok (.iinc 6 1, 3) := by decide +kernel
theorem dX11_gone_63 : decode cX11_gone 63 = .ok (.goto (-19), 3) := by decide +kernel
theorem dX11_gone_66 : decode cX11_gone 66 = .ok (.iload_n 2, 1) := by decide +kernel
theorem dX11_gone_67 : decode cX11_gone 67 = .ok (.istore 6, 2) := by decide +kernel
theorem dX11_gone_69 : decode cX11_gone 69 = .ok (.iload 6, 2) := by decide +kernel
theorem dX11_gone_71 : decode cX11_gone 71 = .ok (.iload_n 3, 1) := by decide +kernel
theorem dX11_gone_72 : decode cX11_gone 72 = .ok (.if_icmp .ge 19, 3) := by decide +kernel
theorem dX11_gone_75 : decode cX11_gone 75 = .ok (.lload 4, 2) := by decide +kernel
theorem dX11_gone_77 : decode cX11_gone 77 = .ok (.iconst 2, 1) := by decide +kernel
theorem dX11_gone_78 : decode cX11_gone 78 = .ok (.bipush 8, 2) := by decide +kernel
theorem dX11_gone_80 : decode cX11_gone 80 = .ok (.invokestatic 282, 3) := by decide +kernel
theorem dX11_gone_83 : decode cX11_gone 83 = .ok (.lstore 4, 2) := by decide +kernel
theorem dX11_gone_85 : decode cX11_gone 85 = .ok (.iinc 6 1, 3) := by decide +kernel
theorem dX11_gone_88 : decode cX11_gone 88 = .ok (.goto (-19), 3) := by decide +kernel
theorem dX11_gone_91 : decode cX11_gone 91 = .ok (.lload 4, 2) := by decide +kernel
theorem dX11_gone_93 : decode cX11_gone 93 = .ok (.l2i, 1) := by decide +kernel
theorem dX11_gone_94 : decode cX11_gone 94 = .ok (.ireturn, 1) := by decide +kernel
theorem dX11_lap_0 : decode cX11_lap 0 = .ok (.aload_n 0, 1) := by decide +kernel
theorem dX11_lap_1 : decode cX11_lap 1 = .ok (.getfield 12, 3) := by decide +kernel
theorem dX11_lap_4 : decode cX11_lap 4 = .ok (.getfield 53, 3) := by decide +kernel
theorem dX11_lap_7 : decode cX11_lap 7 = .ok (.astore 5, 2) := by decide +kernel
theorem dX11_lap_9 : decode cX11_lap 9 = .ok (.aload 5, 2) := by decide +kernel
theorem dX11_lap_11 : decode cX11_lap 11 = .ok (.iload_n 1, 1) := by decide +kernel
theorem dX11_lap_12 : decode cX11_lap 12 = .ok (.invokevirtual 158, 3) := by decide +kernel
theorem dX11_lap_15 : decode cX11_lap 15 = .ok (.ifCond .eq 33, 3) := by decide +kernel
theorem dX11_lap_18 : decode cX11_lap 18 = .ok (.aload 5, 2) := by decide +kernel
theorem dX11_lap_20 : decode cX11_lap 20 = .ok (.iload_n 2, 1) := by decide +kernel
theorem dX11_lap_21 : decode cX11_lap 21 = .ok (.invokevirtual 158, 3) := by decide +kernel
theorem dX11_lap_24 : decode cX11_lap 24 = .ok (.ifCond .eq 24, 3) := by decide +kernel
theorem dX11_lap_27 : decode cX11_lap 27 = .ok (.iload_n 3, 1) := by decide +kernel
theorem dX11_lap_28 : decode cX11_lap 28 = .ok (.iconst 0, 1) := by decide +kernel
theorem dX11_lap_29 : decode cX11_lap 29 = .ok (.bipush 99, 2) := by decide +kernel
theorem dX11_lap_31 : decode cX11_lap 31 = .ok (.invokestatic 70, 3) := by decide +kernel
theorem dX11_lap_34 : decode cX11_lap 34 = .ok (.ifCond .eq 14, 3) := by decide +kernel
theorem dX11_lap_37 : decode cX11_lap 37 = .ok (.iload 4, 2) := by decide +kernel
theorem dX11_lap_39 : decode cX11_lap 39 = .ok (.ifCond .lt 9, 3) := by decide +kernel
theorem dX11_lap_42 : decode cX11_lap 42 = .ok (.iload 4, 2) := by decide +kernel
theorem dX11_lap_44 : decode cX11_lap 44 = .ok (.iconst 1, 1) := by decide +kernel
theorem dX11_lap_45 : decode cX11_lap 45 = .ok (.if_icmp .le 5, 3) := by decide +kernel
theorem dX11_lap_48 : decode cX11_lap 48 = .ok (.iconst (-1), 1) := by decide +kernel
theorem dX11_lap_49 : decode cX11_lap 49 = .ok (.ireturn, 1) := by decide +kernel
theorem dX11_lap_50 : decode cX11_lap 50 = .ok (.aload_n 0, 1) := by decide +kernel
theorem dX11_lap_51 : decode cX11_lap 51 = .ok (.getfield 45, 3) := by decide +kernel
theorem dX11_lap_54 : decode cX11_lap 54 = .ok (.aload 5, 2) := by decide +kernel
theorem dX11_lap_56 : decode cX11_lap 56 = .ok (.iload_n 1, 1) := by decide +kernel
theorem dX11_lap_57 : decode cX11_lap 57 = .ok (.iload_n 3, 1) := by decide +kernel
theorem dX11_lap_58 : decode cX11_lap 58 = .ok (.invokevirtual 286, 3) := by decide +kernel
theorem dX11_lap_61 : decode cX11_lap 61 = .ok (.aload_n 0, 1) := by decide +kernel
theorem dX11_lap_62 : decode cX11_lap 62 = .ok (.getfield 45, 3) := by decide +kernel
theorem dX11_lap_65 : decode cX11_lap 65 = .ok (.getfield 290, 3) := by decide +kernel
theorem dX11_lap_68 : decode cX11_lap 68 = .ok (.iload_n 2, 1) := by decide +kernel
theorem dX11_lap_69 : decode cX11_lap 69 = .ok (.iaload, 1) := by decide +kernel
theorem dX11_lap_70 : decode cX11_lap 70 = .ok (.iconst (-1), 1) := by decide +kernel
theorem dX11_lap_71 : decode cX11_lap 71 = .ok (.if_icmp .ne 5, 3) := by decide +kernel
theorem dX11_lap_74 : decode cX11_lap 74 = .ok (.iconst (-1), 1) := by decide +kernel
theorem dX11_lap_75 : decode cX11_lap 75 = .ok (.ireturn, 1) := by decide +kernel
theorem dX11_lap_76 : decode cX11_lap 76 = .ok (.iload 4, 2) := by decide +kernel
theorem dX11_lap_78 : decode cX11_lap 78 = .ok (.ifCond .ne 15, 3) := by decide +kernel
theorem dX11_lap_81 : decode cX11_lap 81 = .ok (.aload_n 0, 1) := by decide +kernel
theorem dX11_lap_82 : decode cX11_lap 82 = .ok (.getfield 45, 3) := by decide +kernel
theorem dX11_lap_85 : decode cX11_lap 85 = .ok (.getfield 290, 3) := by decide +kernel
theorem dX11_lap_88 : decode cX11_lap 88 = .ok (.iload_n 2, 1) := by decide +kernel
theorem dX11_lap_89 : decode cX11_lap 89 = .ok (.iaload, 1) := by decide +kernel
theorem dX11_lap_90 : decode cX11_lap 90 = .ok (.goto 12, 3) := by decide +kernel
theorem dX11_lap_93 : decode cX11_lap 93 = .ok (.aload_n 0, 1) := by decide +kernel
theorem dX11_lap_94 : decode cX11_lap 94 = .ok (.getfield 45, 3) := by decide +kernel
theorem dX11_lap_97 : decode cX11_lap 97 = .ok (.getfield 293, 3) := by decide +kernel
theorem dX11_lap_100 : decode cX11_lap 100 = .ok (.iload_n 2, 1) := by decide +kernel
theorem dX11_lap_101 : decode cX11_lap 101 = .ok (.iaload, 1) := by decide +kernel
theorem dX11_lap_102 : decode cX11_lap 102 = .ok (.ireturn, 1) := by decide +kernel
theorem dX11_game_0 : decode cX11_game 0 = .ok (.iload_n 1, 1) := by decide +kernel
theorem dX11_game_1 : decode cX11_game 1 = .ok (.ifCond .eq 10, 3) := by decide +kernel
theorem dX11_game_4 : decode cX11_game 4 = .ok (.iload_n 1, 1) := by decide +kernel
theorem dX11_game_5 : decode cX11_game 5 = .ok (.iconst 1, 1) := by decide +kernel
theorem dX11_game_6 : decode cX11_game 6 = .ok (.if_icmp .eq 5, 3) := by decide +kernel
theorem dX11_game_9 : decode cX11_game 9 = .ok (.iconst (-1), 1) := by decide +kernel
theorem dX11_game_10 : decode cX11_game 10 = .ok (.ireturn, 1) := by decide +kernel
theorem dX11_game_11 : decode cX11_game 11 = .ok (.aload_n 0, 1) := by decide +kernel
theorem dX11_game_12 : decode cX11_game 12 = .ok (.getfield 12, 3) := by decide +kernel
theorem dX11_game_15 : decode cX11_game 15 = .ok (.getfield 53, 3) := by decide +kernel
theorem dX11_game_18 : decode cX11_game 18 = .ok (.astore_n 2, 1) := by decide +kernel
theorem dX11_game_19 : decode cX11_game 19 = .ok (.iconst 0, 1) := by decide +kernel
theorem dX11_game_20 : decode cX11_game 20 = .ok (.istore_n 3, 1) := by decide +kernel
theorem dX11_game_21 : decode cX11_game 21 = .ok (.iconst 0, 1) := by decide +kernel
theorem dX11_game_22 : decode cX11_game 22 = .ok (.istore 4, 2) := by decide +kernel
theorem dX11_game_24 : decode cX11_game 24 = .ok (.iload 4, 2) := by decide +kernel
theorem dX11_game_26 : decode cX11_game 26 = .ok (.aload_n 2, 1) := by decide +kernel
theorem dX11_game_27 : decode cX11_game 27 = .ok (.getfield 63, 3) := by decide +kernel
theorem dX11_game_30 : decode cX11_game 30 = .ok (.if_icmp .ge 19, 3) := by decide +kernel
theorem dX11_game_33 : decode cX11_game 33 = .ok (.iload_n 3, 1) := by decide +kernel
theorem dX11_game_34 : decode cX11_game 34 = .ok (.aload_n 2, 1) := by decide +kernel
theorem dX11_game_35 : decode cX11_game 35 = .ok (.iload 4, 2) := by decide +kernel
theorem dX11_game_37 : decode cX11_game 37 = .ok (.iconst 0, 1) := by decide +kernel
theorem dX11_game_38 : decode cX11_game 38 = .ok (.invokevirtual 296, 3) := by decide +kernel
theorem dX11_game_41 : decode cX11_game 41 = .ok (.ixor, 1) := by decide +kernel
theorem dX11_game_42 : decode cX11_game 42 = .ok (.istore_n 3, 1) := by decide +kernel
theorem dX11_game_43 : decode cX11_game 43 = .ok (.iinc 4 1, 3) := by decide +kernel
theorem dX11_game_46 : decode cX11_game 46 = .ok (.goto (-22), 3) := by decide +kernel
theorem dX11_game_49 : decode cX11_game 49 = .ok (.iconst 0, 1) := by decide +kernel
theorem dX11_game_50 : decode cX11_game 50 = .ok (.istore 4, 2) := by decide +kernel
theorem dX11_game_52 : decode cX11_game 52 = .ok (.iload 4, 2) := by decide +kernel
theorem dX11_game_54 : decode cX11_game 54 = .ok (.aload_n 2, 1) := by decide +kernel
theorem dX11_game_55 : decode cX11_game 55 = .ok (.getfield 63, 3) := by decide +kernel
theorem dX11_game_58 : decode cX11_game 58 = .ok (.if_icmp .ge 73, 3) := by decide +kernel
theorem dX11_game_61 : decode cX11_game 61 = .ok (.iload 4, 2) := by decide +kernel
theorem dX11_game_63 : decode cX11_game 63 = .ok (.iconst 1, 1) := by decide +kernel
theorem dX11_game_64 : decode cX11_game 64 = .ok (.iadd, 1) := by decide +kernel
theorem dX11_game_65 : decode cX11_game 65 = .ok (.aload_n 2, 1) := by decide +kernel
theorem dX11_game_66 : decode cX11_game 66 = .ok (.iload 4, 2) := by decide +kernel
theorem dX11_game_68 : decode cX11_game 68 = .ok (.invokevirtual 299, 3) := by decide +kernel
theorem dX11_game_71 : decode cX11_game 71 = .ok (.invokestatic 94, 3) := by decide +kernel
theorem dX11_game_74 : decode cX11_game 74 = .ok (.istore 5, 2) := by decide +kernel
theorem dX11_game_76 : decode cX11_game 76 = .ok (.iconst 1, 1) := by decide +kernel
theorem dX11_game_77 : decode cX11_game 77 = .ok (.istore 6, 2) := by decide +kernel
theorem dX11_game_79 : decode cX11_game 79 = .ok (.iload 6, 2) := by decide +kernel
theorem dX11_game_81 : decode cX11_game 81 = .ok (.iload 5, 2) := by decide +kernel
theorem dX11_game_83 : decode cX11_game 83 = .ok (.if_icmp .gt 42, 3) := by decide +kernel
theorem dX11_game_86 : decode cX11_game 86 = .ok (.iload_n 3, 1) := by decide +kernel
theorem dX11_game_87 : decode cX11_game 87 = .ok (.aload_n 2, 1) := by decide +kernel
theorem dX11_game_88 : decode cX11_game 88 = .ok (.iload 4, 2) := by decide +kernel
theorem dX11_game_90 : decode cX11_game 90 = .ok (.iconst 0, 1) := by decide +kernel
theorem dX11_game_91 : decode cX11_game 91 = .ok (.invokevirtual 296, 3) := by decide +kernel
theorem dX11_game_94 : decode cX11_game 94 = .ok (.ixor, 1) := by decide +kernel
theorem dX11_game_95 : decode cX11_game 95 = .ok (.aload_n 2, 1) := by decide +kernel
theorem dX11_game_96 : decode cX11_game 96 = .ok (.iload 4, 2) := by decide +kernel
theorem dX11_game_98 : decode cX11_game 98 = .ok (.iload 6, 2) := by decide +kernel
theorem dX11_game_100 : decode cX11_game 100 = .ok (.invokevirtual 296, 3) := by decide +kernel
theorem dX11_game_103 : decode cX11_game 103 = .ok (.ixor, 1) := by decide +kernel
theorem dX11_game_104 : decode cX11_game 104 = .ok (.ifCond .ne 15, 3) := by decide +kernel
theorem dX11_game_107 : decode cX11_game 107 = .ok (.iload_n 1, 1) := by decide +kernel
theorem dX11_game_108 : decode cX11_game 108 = .ok (.ifCond .ne 8, 3) := by decide +kernel
theorem dX11_game_111 : decode cX11_game 111 = .ok (.iload 4, 2) := by decide +kernel
theorem dX11_game_113 : decode cX11_game 113 = .ok (.goto 5, 3) := by decide +kernel
theorem dX11_game_116 : decode cX11_game 116 = .ok (.iload 6, 2) := by decide +kernel
theorem dX11_game_118 : decode cX11_game 118 = .ok (.ireturn, 1) := by decide +kernel
theorem dX11_game_119 : decode cX11_game 119 = .ok (.iinc 6 1, 3) := by decide +kernel
theorem dX11_game_122 : decode cX11_game 122 = .ok (.goto (-43), 3) := by decide +kernel
theorem dX11_game_125 : decode cX11_game 125 = .ok (.iinc 4 1, 3) := by decide +kernel
theorem dX11_game_128 : decode cX11_game 128 = .ok (.goto (-76), 3) := by decide +kernel
theorem dX11_game_131 : decode cX11_game 131 = .ok (.iconst (-1), 1) := by decide +kernel
theorem dX11_game_132 : decode cX11_game 132 = .ok (.ireturn, 1) := by decide +kernel
theorem dX11_undo_0 : decode cX11_undo 0 = .ok (.aload_n 0, 1) := by decide +kernel
theorem dX11_undo_1 : decode cX11_undo 1 = .ok (.getfield 31, 3) := by decide +kernel
theorem dX11_undo_4 : decode cX11_undo 4 = .ok (.aload_n 0, 1) := by decide +kernel
theorem dX11_undo_5 : decode cX11_undo 5 = .ok (.getfield 12, 3) := by decide +kernel
theorem dX11_undo_8 : decode cX11_undo 8 = .ok (.getfield 53, 3) := by decide +kernel
theorem dX11_undo_11 : decode cX11_undo 11 = .ok (.invokevirtual 302, 3) := by decide +kernel
theorem dX11_undo_14 : decode cX11_undo 14 = .ok (.ireturn, 1) := by decide +kernel
theorem dX11_image_0 : decode cX11_image 0 = .ok (.iload_n 1, 1) := by decide +kernel
theorem dX11_image_1 : decode cX11_image 1 = .ok (.ifCond .eq 21, 3) := by decide +kernel
theorem dX11_image_4 : decode cX11_image 4 = .ok (.aload_n 0, 1) := by decide +kernel
theorem dX11_image_5 : decode cX11_image 5 = .ok (.getfield 16, 3) := by decide +kernel
theorem dX11_image_8 : decode cX11_image 8 = .ok (.aload_n 0, 1) := by decide +kernel
theorem dX11_image_9 : decode cX11_image 9 = .ok (.getfield 12, 3) := by decide +kernel
theorem dX11_image_12 : decode cX11_image 12 = .ok (.invokevirtual 306, 3) := by decide +kernel
theorem dX11_image_15 : decode cX11_image 15 = .ok (.aload_n 0, 1) := by decide +kernel
theorem dX11_image_16 : decode cX11_image 16 = .ok (.iconst 1, 1) := by decide +kernel
theorem dX11_image_17 : decode cX11_image 17 = .ok (.putfield 309, 3) := by decide +kernel
theorem dX11_image_20 : decode cX11_image 20 = .ok (.iconst 1, 1) := by decide +kernel
theorem dX11_image_21 : decode cX11_image 21 = .ok (.ireturn, 1) := by decide +kernel
theorem dX11_image_22 : decode cX11_image 22 = .ok (.aload_n 0, 1) := by decide +kernel
theorem dX11_image_23 : decode cX11_image 23 = .ok (.getfield 309, 3) := by decide +kernel
theorem dX11_image_26 : decode cX11_image 26 = .ok (.ifCond .ne 5, 3) := by decide +kernel
theorem dX11_image_29 : decode cX11_image 29 = .ok (.iconst 0, 1) := by decide +kernel
theorem dX11_image_30 : decode cX11_image 30 = .ok (.ireturn, 1) := by decide +kernel
theorem dX11_image_31 : decode cX11_image 31 = .ok (.aload_n 0, 1) := by decide +kernel
theorem dX11_image_32 : decode cX11_image 32 = .ok (.getfield 12, 3) := by decide +kernel
theorem dX11_image_35 : decode cX11_image 35 = .ok (.aload_n 0, 1) := by decide +kernel
theorem dX11_image_36 : decode cX11_image 36 = .ok (.getfield 16, 3) := by decide +kernel
theorem dX11_image_39 : decode cX11_image 39 = .ok (.invokevirtual 306, 3) := by decide +kernel
theorem dX11_image_42 : decode cX11_image 42 = .ok (.aload_n 0, 1) := by decide +kernel
theorem dX11_image_43 : decode cX11_image 43 = .ok (.getfield 31, 3) := by decide +kernel
theorem dX11_image_46 : decode cX11_image 46 = .ok (.invokevirtual 60, 3) := by decide +kernel
theorem dX11_image_49 : decode cX11_image 49 = .ok (.iconst 1, 1) := by decide +kernel
theorem dX11_image_50 : decode cX11_image 50 = .ok (.ireturn, 1) := by decide +kernel
theorem dX11_look_0 : decode cX11_look 0 = .ok (.iload_n 1, 1) := by decide +kernel
theorem dX11_look_1 : decode cX11_look 1 = .ok (.tableswitch 102 10 15 #[39, 50, 61, 72, 83, 94], 39) := by decide +kernel
theorem dX11_look_40 : decode cX11_look 40 = .ok (.aload_n 0, 1) := by decide +kernel
theorem dX11_look_41 : decode cX11_look 41 = .ok (.getfield 12, 3) := by decide +kernel
theorem dX11_look_44 : decode cX11_look 44 = .ok (.getfield 145, 3) := by decide +kernel
theorem dX11_look_47 : decode cX11_look 47 = .ok (.getfield 313, 3) := by decide +kernel
theorem dX11_look_50 : decode cX11_look 50 = .ok (.ireturn, 1) := by decide +kernel
theorem dX11_look_51 : decode cX11_look 51 = .ok (.aload_n 0, 1) := by decide +kernel
theorem dX11_look_52 : decode cX11_look 52 = .ok (.getfield 12, 3) := by decide +kernel
theorem dX11_look_55 : decode cX11_look 55 = .ok (.getfield 171, 3) := by decide +kernel
theorem dX11_look_58 : decode cX11_look 58 = .ok (.getfield 314, 3) := by decide +kernel
theorem dX11_look_61 : decode cX11_look 61 = .ok (.ireturn, 1) := by decide +kernel
theorem dX11_look_62 : decode cX11_look 62 = .ok (.aload_n 0, 1) := by decide +kernel
theorem dX11_look_63 : decode cX11_look 63 = .ok (.getfield 12, 3) := by decide +kernel
theorem dX11_look_66 : decode cX11_look 66 = .ok (.getfield 315, 3) := by decide +kernel
theorem dX11_look_69 : decode cX11_look 69 = .ok (.getfield 319, 3) := by decide +kernel
theorem dX11_look_72 : decode cX11_look 72 = .ok (.ireturn, 1) := by decide +kernel
theorem dX11_look_73 : decode cX11_look 73 = .ok (.aload_n 0, 1) := by decide +kernel
theorem dX11_look_74 : decode cX11_look 74 = .ok (.getfield 12, 3) := by decide +kernel
theorem dX11_look_77 : decode cX11_look 77 = .ok (.getfield 233, 3) := by decide +kernel
theorem dX11_look_80 : decode cX11_look 80 = .ok (.getfield 322, 3) := by decide +kernel
theorem dX11_look_83 : decode cX11_look 83 = .ok (.ireturn, 1) := by decide +kernel
theorem dX11_look_84 : decode cX11_look 84 = .ok (.aload_n 0, 1) := by decide +kernel
theorem dX11_look_85 : decode cX11_look 85 = .ok (.getfield 12, 3) := by decide +kernel
theorem dX11_look_88 : decode cX11_look 88 = .ok (.getfield 262, 3) := by decide +kernel
theorem dX11_look_91 : decode cX11_look 91 = .ok (.getfield 266, 3) := by decide +kernel
theorem dX11_look_94 : decode cX11_look 94 = .ok (.ireturn, 1) := by decide +kernel
theorem dX11_look_95 : decode cX11_look 95 = .ok (.aload_n 0, 1) := by decide +kernel
theorem dX11_look_96 : decode cX11_look 96 = .ok (.getfield 31, 3) := by decide +kernel
theorem dX11_look_99 : decode cX11_look 99 = .ok (.getfield 323, 3) := by decide +kernel
theorem dX11_look_102 : decode cX11_look 102 = .ok (.ireturn, 1) := by decide +kernel
theorem dX11_look_103 : decode cX11_look 103 = .ok (.aload_n 0, 1) := by decide +kernel
theorem dX11_look_104 : decode cX11_look 104 = .ok (.getfield 12, 3) := by decide +kernel
theorem dX11_look_107 : decode cX11_look 107 = .ok (.getfield 53, 3) := by decide +kernel
theorem dX11_look_110 : decode cX11_look 110 = .ok (.iload_n 1, 1) := by decide +kernel
theorem dX11_look_111 : decode cX11_look 111 = .ok (.invokevirtual 324, 3) := by decide +kernel
theorem dX11_look_114 : decode cX11_look 114 = .ok (.ireturn, 1) := by decide +kernel
theorem dX11_putNumber_0 : decode cX11_putNumber 0 = .ok (.bipush 24, 2) := by decide +kernel
theorem dX11_putNumber_2 : decode cX11_putNumber 2 = .ok (.istore_n 2, 1) := by decide +kernel
theorem dX11_putNumber_3 : decode cX11_putNumber 3 = .ok (.iload_n 2, 1) := by decide +kernel
theorem dX11_putNumber_4 : decode cX11_putNumber 4 = .ok (.ifCond .lt 42, 3) := by decide +kernel
theorem dX11_putNumber_7 : decode cX11_putNumber 7 = .ok (.aload_n 0, 1) := by decide +kernel
theorem dX11_putNumber_8 : decode cX11_putNumber 8 = .ok (.getfield 118, 3) := by decide +kernel
theorem dX11_putNumber_11 : decode cX11_putNumber 11 = .ok (.sipush 400, 3) := by decide +kernel
theorem dX11_putNumber_14 : decode cX11_putNumber 14 = .ok (.if_icmp .ge 26, 3) := by decide +kernel
theorem dX11_putNumber_17 : decode cX11_putNumber 17 = .ok (.aload_n 0, 1) := by decide +kernel
theorem dX11_putNumber_18 : decode cX11_putNumber 18 = .ok (.getfield 49, 3) := by decide +kernel
theorem dX11_putNumber_21 : decode cX11_putNumber 21 = .ok (.aload_n 0, 1) := by decide +kernel
theorem dX11_putNumber_22 : decode cX11_putNumber 22 = .ok (.getfield 118, 3) := by decide +kernel
theorem dX11_putNumber_25 : decode cX11_putNumber 25 = .ok (.iload_n 1, 1) := by decide +kernel
theorem dX11_putNumber_26 : decode cX11_putNumber 26 = .ok (.iload_n 2, 1) := by decide +kernel
theorem dX11_putNumber_27 : decode cX11_putNumber 27 = .ok (.iushr, 1) := by decide +kernel
theorem dX11_putNumber_28 : decode cX11_putNumber 28 = .ok (.i2b, 1) := by decide +kernel
theorem dX11_putNumber_29 : decode cX11_putNumber 29 = .ok (.bastore, 1) := by decide +kernel
theorem dX11_putNumber_30 : decode cX11_putNumber 30 = .ok (.aload_n 0, 1) := by decide +kernel
theorem dX11_putNumber_31 : decode cX11_putNumber 31 = .ok (.dup, 1) := by decide +kernel
theorem dX11_putNumber_32 : decode cX11_putNumber 32 = .ok (.getfield 118, 3) := by decide +kernel
theorem dX11_putNumber_35 : decode cX11_putNumber 35 = .ok (.iconst 1, 1) := by decide +kernel
theorem dX11_putNumber_36 : decode cX11_putNumber 36 = .ok (.iadd, 1) := by decide +kernel
theorem dX11_putNumber_37 : decode cX11_putNumber 37 = .ok (.putfield 118, 3) := by decide +kernel
theorem dX11_putNumber_40 : decode cX11_putNumber 40 = .ok (.iinc 2 (-8), 3) := by decide +kernel
theorem dX11_putNumber_43 : decode cX11_putNumber 43 = .ok (.goto (-40), 3) := by decide +kernel
theorem dX11_putNumber_46 : decode cX11_putNumber 46 = .ok (.return_, 1) := by decide +kernel
theorem dX11_weighed_0 : decode cX11_weighed 0 = .ok (.lload_n 0, 1) := by decide +kernel
theorem dX11_weighed_1 : decode cX11_weighed 1 = .ok (.iload_n 2, 1) := by decide +kernel
theorem dX11_weighed_2 : decode cX11_weighed 2 = .ok (.i2l, 1) := by decide +kernel
theorem dX11_weighed_3 : decode cX11_weighed 3 = .ok (.lmul, 1) := by decide +kernel
theorem dX11_weighed_4 : decode cX11_weighed 4 = .ok (.lstore 4, 2) := by decide +kernel
theorem dX11_weighed_6 : decode cX11_weighed 6 = .ok (.lload 4, 2) := by decide +kernel
theorem dX11_weighed_8 : decode cX11_weighed 8 = .ok (.ldc2_w 327, 3) := by decide +kernel
theorem dX11_weighed_11 : decode cX11_weighed 11 = .ok (.lload_n 0, 1) := by decide +kernel
theorem dX11_weighed_12 : decode cX11_weighed 12 = .ok (.lsub, 1) := by decide +kernel
theorem dX11_weighed_13 : decode cX11_weighed 13 = .ok (.iload_n 3, 1) := by decide +kernel
theorem dX11_weighed_14 : decode cX11_weighed 14 = .ok (.i2l, 1) := by decide +kernel
theorem dX11_weighed_15 : decode cX11_weighed 15 = .ok (.lmul, 1) := by decide +kernel
theorem dX11_weighed_16 : decode cX11_weighed 16 = .ok (.ladd, 1) := by decide +kernel
theorem dX11_weighed_17 : decode cX11_weighed 17 = .ok (.lstore 6, 2) := by decide +kernel
theorem dX11_weighed_19 : decode cX11_weighed 19 = .ok (.lload 6, 2) := by decide +kernel
theorem dX11_weighed_21 : decode cX11_weighed 21 = .ok (.lconst 0, 1) := by decide +kernel
theorem dX11_weighed_22 : decode cX11_weighed 22 = .ok (.lcmp, 1) := by decide +kernel
theorem dX11_weighed_23 : decode cX11_weighed 23 = .ok (.ifCond .gt 7, 3) := by decide +kernel
theorem dX11_weighed_26 : decode cX11_weighed 26 = .ok (.lconst 0, 1) := by decide +kernel
theorem dX11_weighed_27 : decode cX11_weighed 27 = .ok (.goto 12, 3) := by decide +kernel
theorem dX11_weighed_30 : decode cX11_weighed 30 = .ok (.lload 4, 2) := by decide +kernel
theorem dX11_weighed_32 : decode cX11_weighed 32 = .ok (.ldc2_w 327, 3) := by decide +kernel
theorem dX11_weighed_35 : decode cX11_weighed 35 = .ok (.lmul, 1) := by decide +kernel
theorem dX11_weighed_36 : decode cX11_weighed 36 = .ok (.lload 6, 2) := by decide +kernel
theorem dX11_weighed_38 : decode cX11_weighed 38 = .ok (.ldiv, 1) := by decide +kernel
theorem dX11_weighed_39 : decode cX11_weighed 39 = .ok (.lreturn, 1) := by decide +kernel
theorem dX11_within_0 : decode cX11_within 0 = .ok (.iload_n 0, 1) := by decide +kernel
theorem dX11_within_1 : decode cX11_within 1 = .ok (.iload_n 1, 1) := by decide +kernel
theorem dX11_within_2 : decode cX11_within 2 = .ok (.if_icmp .lt 12, 3) := by decide +kernel
theorem dX11_within_5 : decode cX11_within 5 = .ok (.iload_n 0, 1) := by decide +kernel
theorem dX11_within_6 : decode cX11_within 6 = .ok (.iload_n 2, 1) := by decide +kernel
theorem dX11_within_7 : decode cX11_within 7 = .ok (.if_icmp .gt 7, 3) := by decide +kernel
theorem dX11_within_10 : decode cX11_within 10 = .ok (.iconst 1, 1) := by decide +kernel
theorem dX11_within_11 : decode cX11_within 11 = .ok (.goto 4, 3) := by decide +kernel
theorem dX11_within_14 : decode cX11_within 14 = .ok (.iconst 0, 1) := by decide +kernel
theorem dX11_within_15 : decode cX11_within 15 = .ok (.ireturn, 1) := by decide +kernel
theorem dX11_held_0 : decode cX11_held 0 = .ok (.iload_n 1, 1) := by decide +kernel
theorem dX11_held_1 : decode cX11_held 1 = .ok (.iload_n 2, 1) := by decide +kernel
theorem dX11_held_2 : decode cX11_held 2 = .ok (.iload_n 0, 1) := by decide +kernel
theorem dX11_held_3 : decode cX11_held 3 = .ok (.invokestatic 94, 3) := by decide +kernel
theorem dX11_held_6 : decode cX11_held 6 = .ok (.invokestatic 329, 3) := by decide +kernel
theorem dX11_held_9 : decode cX11_held 9 = .ok (.ireturn, 1) := by decide +kernel
theorem dX12_init_0 : decode cX12_init 0 = .ok (.aload_n 0, 1) := by decide +kernel
theorem dX12_init_1 : decode cX12_init 1 = .ok (.invokespecial 1, 3) := by decide +kernel
theorem dX12_init_4 : decode cX12_init 4 = .ok (.aload_n 0, 1) := by decide +kernel
theorem dX12_init_5 : decode cX12_init 5 = .ok (.bipush 107, 2) := by decide +kernel
theorem dX12_init_7 : decode cX12_init 7 = .ok (.newarray .int, 2) := by decide +kernel
theorem dX12_init_9 : decode cX12_init 9 = .ok (.putfield 7, 3) := by decide +kernel
theorem dX12_init_12 : decode cX12_init 12 = .ok (.aload_n 0, 1) := by decide +kernel
theorem dX12_init_13 : decode cX12_init 13 = .ok (.sipush 642, 3) := by decide +kernel
theorem dX12_init_16 : decode cX12_init 16 = .ok (.newarray .int, 2) := by decide +kernel
theorem dX12_init_18 : decode cX12_init 18 = .ok (.putfield 13, 3) := by decide +kernel
theorem dX12_init_21 : decode cX12_init 21 = .ok (.aload_n 0, 1) := by decide +kernel
theorem dX12_init_22 : decode cX12_init 22 = .ok (.bipush 107, 2) := by decide +kernel
theorem dX12_init_24 : decode cX12_init 24 = .ok (.newarray .int, 2) := by decide +kernel
theorem dX12_init_26 : decode cX12_init 26 = .ok (.putfield 16, 3) := by decide +kernel
theorem dX12_init_29 : decode cX12_init 29 = .ok (.aload_n 0, 1) := by decide +kernel
theorem dX12_init_30 : decode cX12_init 30 = .ok (.bipush 14, 2) := by decide +kernel
theorem dX12_init_32 : decode cX12_init 32 = .ok (.newarray .int, 2) := by decide +kernel
theorem dX12_init_34 : decode cX12_init 34 = .ok (.putfield 19, 3) := by decide +kernel
theorem dX12_init_37 : decode cX12_init 37 = .ok (.aload_n 0, 1) := by decide +kernel
theorem dX12_init_38 : decode cX12_init 38 = .ok (.sipush 600, 3) := by decide +kernel
theorem dX12_init_41 : decode cX12_init 41 = .ok (.newarray .int, 2) := by decide +kernel
theorem dX12_init_43 : decode cX12_init 43 = .ok (.putfield 22, 3) := by decide +kernel
theorem dX12_init_46 : decode cX12_init 46 = .ok (.aload_n 0, 1) := by decide +kernel
theorem dX12_init_47 : decode cX12_init 47 = .ok (.sipush 400, 3) := by decide +kernel
theorem dX12_init_50 : decode cX12_init 50 = .ok (.newarray .int, 2) := by decide +kernel
theorem dX12_init_52 : decode cX12_init 52 = .ok (.putfield 25, 3) := by decide +kernel
theorem dX12_init_55 : decode cX12_init 55 = .ok (.aload_n 0, 1) := by decide +kernel
theorem dX12_init_56 : decode cX12_init 56 = .ok (.bipush 125, 2) := by decide +kernel
theorem dX12_init_58 : decode cX12_init 58 = .ok (.newarray .int, 2) := by decide +kernel
theorem dX12_init_60 : decode cX12_init 60 = .ok (.dup, 1) := by decide +kernel
theorem dX12_init_61 : decode cX12_init 61 = .ok (.iconst 0, 1) := by decide +kernel
theorem dX12_init_62 : decode cX12_init 62 = .ok (.bipush 32, 2) := by decide +kernel
theorem dX12_init_64 : decode cX12_init 64 = .ok (.iastore, 1) := by decide +kernel
theorem dX12_init_65 : decode cX12_init 65 = .ok (.dup, 1) := by decide +kernel
theorem dX12_init_66 : decode cX12_init 66 = .ok (.iconst 1, 1) := by decide +kernel
theorem dX12_init_67 : decode cX12_init 67 = .ok (.bipush 101, 2) := by decide +kernel
theorem dX12_init_69 : decode cX12_init 69 = .ok (.iastore, 1) := by decide +kernel
theorem dX12_init_70 : decode cX12_init 70 = .ok (.dup, 1) := by decide +kernel
theorem dX12_init_71 : decode cX12_init 71 = .ok (.iconst 2, 1) := by decide +kernel
theorem dX12_init_72 : decode cX12_init 72 = .ok (.bipush 97, 2) := by decide +kernel
theorem dX12_init_74 : decode cX12_init 74 = .ok (.iastore, 1) := by decide +kernel
theorem dX12_init_75 : decode cX12_init 75 = .ok (.dup, 1) := by decide +kernel
theorem dX12_init_76 : decode cX12_init 76 = .ok (.iconst 3, 1) := by decide +kernel
theorem dX12_init_77 : decode cX12_init 77 = .ok (.bipush 116, 2) := by decide +kernel
theorem dX12_init_79 : decode cX12_init 79 = .ok (.iastore, 1) := by decide +kernel
theorem dX12_init_80 : decode cX12_init 80 = .ok (.dup, 1) := by decide +kernel
theorem dX12_init_81 : decode cX12_init 81 = .ok (.iconst 4, 1) := by decide +kernel
theorem dX12_init_82 : decode cX12_init 82 = .ok (.bipush 115, 2) := by decide +kernel
theorem dX12_init_84 : decode cX12_init 84 = .ok (.iastore, 1) := by decide +kernel
theorem dX12_init_85 : decode cX12_init 85 = .ok (.dup, 1) := by decide +kernel
theorem dX12_init_86 : decode cX12_init 86 = .ok (.iconst 5, 1) := by decide +kernel
theorem dX12_init_87 : decode cX12_init 87 = .ok (.bipush 32, 2) := by decide +kernel
theorem dX12_init_89 : decode cX12_init 89 = .ok (.iastore, 1) := by decide +kernel
theorem dX12_init_90 : decode cX12_init 90 = .ok (.dup, 1) := by decide +kernel
theorem dX12_init_91 : decode cX12_init 91 = .ok (.bipush 6, 2) := by decide +kernel
theorem dX12_init_93 : decode cX12_init 93 = .ok (.bipush 100, 2) := by decide +kernel
theorem dX12_init_95 : decode cX12_init 95 = .ok (.iastore, 1) := by decide +kernel
theorem dX12_init_96 : decode cX12_init 96 = .ok (.dup, 1) := by decide +kernel
theorem dX12_init_97 : decode cX12_init 97 = .ok (.bipush 7, 2) := by decide +kernel
theorem dX12_init_99 : decode cX12_init 99 = .ok (.bipush 105, 2) := by decide +kernel
theorem dX12_init_101 : decode cX12_init 101 = .ok (.iastore, 1) := by decide +kernel
theorem dX12_init_102 : decode cX12_init 102 = .ok (.dup, 1) := by decide +kernel
theorem dX12_init_103 : decode cX12_init 103 = .ok (.bipush 8, 2) := by decide +kernel
theorem dX12_init_105 : decode cX12_init 105 = .ok (.bipush 101, 2) := by decide +kernel
theorem dX12_init_107 : decode cX12_init 107 = .ok (.iastore, 1) := by decide +kernel
theorem dX12_init_108 : decode cX12_init 108 = .ok (.dup, 1) := by decide +kernel
theorem dX12_init_109 : decode cX12_init 109 = .ok (.bipush 9, 2) := by decide +kernel
theorem dX12_init_111 : decode cX12_init 111 = .ok (.bipush 115, 2) := by decide +kernel
theorem dX12_init_113 : decode cX12_init 113 = .ok (.iastore, 1) := by decide +kernel
theorem dX12_init_114 : decode cX12_init 114 = .ok (.dup, 1) := by decide +kernel
theorem dX12_init_115 : decode cX12_init 115 = .ok (.bipush 10, 2) := by decide +kernel
theorem dX12_init_117 : decode cX12_init 117 = .ok (.bipush 32, 2) := by decide +kernel
theorem dX12_init_119 : decode cX12_init 119 = .ok (.iastore, 1) := by decide +kernel
theorem dX12_init_120 : decode cX12_init 120 = .ok (.dup, 1) := by decide +kernel
theorem dX12_init_121 : decode cX12_init 121 = .ok (.bipush 11, 2) := by decide +kernel
theorem dX12_init_123 : decode cX12_init 123 = .ok (.bipush 108, 2) := by decide +kernel
theorem dX12_init_125 : decode cX12_init 125 = .ok (.iastore, 1) := by decide +kernel
theorem dX12_init_126 : decode cX12_init 126 = .ok (.dup, 1) := by decide +kernel
theorem dX12_init_127 : decode cX12_init 127 = .ok (.bipush 12, 2) := by decide +kernel
theorem dX12_init_129 : decode cX12_init 129 = .ok (.bipush 101, 2) := by decide +kernel
theorem dX12_init_131 : decode cX12_init 131 = .ok (.iastore, 1) := by decide +kernel
theorem dX12_init_132 : decode cX12_init 132 = .ok (.dup, 1) := by decide +kernel
theorem dX12_init_133 : decode cX12_init 133 = .ok (.bipush 13, 2) := by decide +kernel
theorem dX12_init_135 : decode cX12_init 135 = .ok (.bipush 97, 2) := by decide +kernel
theorem dX12_init_137 : decode cX12_init 137 = .ok (.iastore, 1) := by decide +kernel
theorem dX12_init_138 : decode cX12_init 138 = .ok (.dup, 1) := by decide +kernel
theorem dX12_init_139 : decode cX12_init 139 = .ok (.bipush 14, 2) := by decide +kernel
theorem dX12_init_141 : decode cX12_init 141 = .ok (.bipush 110, 2) := by decide +kernel
theorem dX12_init_143 : decode cX12_init 143 = .ok (.iastore, 1) := by decide +kernel
theorem dX12_init_144 : decode cX12_init 144 = .ok (.dup, 1) := by decide +kernel
theorem dX12_init_145 : decode cX12_init 145 = .ok (.bipush 15, 2) := by decide +kernel
theorem dX12_init_147 : decode cX12_init 147 = .ok (.bipush 115, 2) := by decide +kernel
theorem dX12_init_149 : decode cX12_init 149 = .ok (.iastore, 1) := by decide +kernel
theorem dX12_init_150 : decode cX12_init 150 = .ok (.dup, 1) := by decide +kernel
theorem dX12_init_151 : decode cX12_init 151 = .ok (.bipush 16, 2) := by decide +kernel
theorem dX12_init_153 : decode cX12_init 153 = .ok (.bipush 32, 2) := by decide +kernel
theorem dX12_init_155 : decode cX12_init 155 = .ok (.iastore, 1) := by decide +kernel
theorem dX12_init_156 : decode cX12_init 156 = .ok (.dup, 1) := by decide +kernel
theorem dX12_init_157 : decode cX12_init 157 = .ok (.bipush 17, 2) := by decide +kernel
theorem dX12_init_159 : decode cX12_init 159 = .ok (.bipush 119, 2) := by decide +kernel
theorem dX12_init_161 : decode cX12_init 161 = .ok (.iastore, 1) := by decide +kernel
theorem dX12_init_162 : decode cX12_init 162 = .ok (.dup, 1) := by decide +kernel
theorem dX12_init_163 : decode cX12_init 163 = .ok (.bipush 18, 2) := by decide +kernel
theorem dX12_init_165 : decode cX12_init 165 = .ok (.bipush 104, 2) := by decide +kernel
theorem dX12_init_167 : decode cX12_init 167 = .ok (.iastore, 1) := by decide +kernel
theorem dX12_init_168 : decode cX12_init 168 = .ok (.dup, 1) := by decide +kernel
theorem dX12_init_169 : decode cX12_init 169 = .ok (.bipush 19, 2) := by decide +kernel
theorem dX12_init_171 : decode cX12_init 171 = .ok (.bipush 101, 2) := by decide +kernel
theorem dX12_init_173 : decode cX12_init 173 = .ok (.iastore, 1) := by decide +kernel
theorem dX12_init_174 : decode cX12_init 174 = .ok (.dup, 1) := by decide +kernel
theorem dX12_init_175 : decode cX12_init 175 = .ok (.bipush 20, 2) := by decide +kernel
theorem dX12_init_177 : decode cX12_init 177 = .ok (.bipush 110, 2) := by decide +kernel
theorem dX12_init_179 : decode cX12_init 179 = .ok (.iastore, 1) := by decide +kernel
theorem dX12_init_180 : decode cX12_init 180 = .ok (.dup, 1) := by decide +kernel
theorem dX12_init_181 : decode cX12_init 181 = .ok (.bipush 21, 2) := by decide +kernel
theorem dX12_init_183 : decode cX12_init 183 = .ok (.bipush 32, 2) := by decide +kernel
theorem dX12_init_185 : decode cX12_init 185 = .ok (.iastore, 1) := by decide +kernel
theorem dX12_init_186 : decode cX12_init 186 = .ok (.dup, 1) := by decide +kernel
theorem dX12_init_187 : decode cX12_init 187 = .ok (.bipush 22, 2) := by decide +kernel
theorem dX12_init_189 : decode cX12_init 189 = .ok (.bipush 111, 2) := by decide +kernel
theorem dX12_init_191 : decode cX12_init 191 = .ok (.iastore, 1) := by decide +kernel
theorem dX12_init_192 : decode cX12_init 192 = .ok (.dup, 1) := by decide +kernel
theorem dX12_init_193 : decode cX12_init 193 = .ok (.bipush 23, 2) := by decide +kernel
theorem dX12_init_195 : decode cX12_init 195 = .ok (.bipush 114, 2) := by decide +kernel
theorem dX12_init_197 : decode cX12_init 197 = .ok (.iastore, 1) := by decide +kernel
theorem dX12_init_198 : decode cX12_init 198 = .ok (.dup, 1) := by decide +kernel
theorem dX12_init_199 : decode cX12_init 199 = .ok (.bipush 24, 2) := by decide +kernel
theorem dX12_init_201 : decode cX12_init 201 = .ok (.bipush 32, 2) := by decide +kernel
theorem dX12_init_203 : decode cX12_init 203 = .ok (.iastore, 1) := by decide +kernel
theorem dX12_init_204 : decode cX12_init 204 = .ok (.dup, 1) := by decide +kernel
theorem dX12_init_205 : decode cX12_init 205 = .ok (.bipush 25, 2) := by decide +kernel
theorem dX12_init_207 : decode cX12_init 207 = .ok (.bipush 97, 2) := by decide +kernel
theorem dX12_init_209 : decode cX12_init 209 = .ok (.iastore, 1) := by decide +kernel
theorem dX12_init_210 : decode cX12_init 210 = .ok (.dup, 1) := by decide +kernel
theorem dX12_init_211 : decode cX12_init 211 = .ok (.bipush 26, 2) := by decide +kernel
theorem dX12_init_213 : decode cX12_init 213 = .ok (.bipush 110, 2) := by decide +kernel
theorem dX12_init_215 : decode cX12_init 215 = .ok (.iastore, 1) := by decide +kernel
theorem dX12_init_216 : decode cX12_init 216 = .ok (.dup, 1) := by decide +kernel
theorem dX12_init_217 : decode cX12_init 217 = .ok (.bipush 27, 2) := by decide +kernel
theorem dX12_init_219 : decode cX12_init 219 = .ok (.bipush 100, 2) := by decide +kernel
theorem dX12_init_221 : decode cX12_init 221 = .ok (.iastore, 1) := by decide +kernel
theorem dX12_init_222 : decode cX12_init 222 = .ok (.dup, 1) := by decide +kernel
theorem dX12_init_223 : decode cX12_init 223 = .ok (.bipush 28, 2) := by decide +kernel
theorem dX12_init_225 : decode cX12_init 225 = .ok (.bipush 32, 2) := by decide +kernel
theorem dX12_init_227 : decode cX12_init 227 = .ok (.iastore, 1) := by decide +kernel
theorem dX12_init_228 : decode cX12_init 228 = .ok (.dup, 1) := by decide +kernel
theorem dX12_init_229 : decode cX12_init 229 = .ok (.bipush 29, 2) := by decide +kernel
theorem dX12_init_231 : decode cX12_init 231 = .ok (.bipush 110, 2) := by decide +kernel
theorem dX12_init_233 : decode cX12_init 233 = .ok (.iastore, 1) := by decide +kernel
theorem dX12_init_234 : decode cX12_init 234 = .ok (.dup, 1) := by decide +kernel
theorem dX12_init_235 : decode cX12_init 235 = .ok (.bipush 30, 2) := by decide +kernel
theorem dX12_init_237 : decode cX12_init 237 = .ok (.bipush 111, 2) := by decide +kernel
theorem dX12_init_239 : decode cX12_init 239 = .ok (.iastore, 1) := by decide +kernel
theorem dX12_init_240 : decode cX12_init 240 = .ok (.dup, 1) := by decide +kernel
theorem dX12_init_241 : decode cX12_init 241 = .ok (.bipush 31, 2) := by decide +kernel
theorem dX12_init_243 : decode cX12_init 243 = .ok (.bipush 116, 2) := by decide +kernel
theorem dX12_init_245 : decode cX12_init 245 = .ok (.iastore, 1) := by decide +kernel
theorem dX12_init_246 : decode cX12_init 246 = .ok (.dup, 1) := by decide +kernel
theorem dX12_init_247 : decode cX12_init 247 = .ok (.bipush 32, 2) := by decide +kernel
theorem dX12_init_249 : decode cX12_init 249 = .ok (.bipush 32, 2) := by decide +kernel
theorem dX12_init_251 : decode cX12_init 251 = .ok (.iastore, 1) := by decide +kernel
theorem dX12_init_252 : decode cX12_init 252 = .ok (.dup, 1) := by decide +kernel
theorem dX12_init_253 : decode cX12_init 253 = .ok (.bipush 33, 2) := by decide +kernel
theorem dX12_init_255 : decode cX12_init 255 = .ok (.bipush 97, 2) := by decide +kernel
theorem dX12_init_257 : decode cX12_init 257 = .ok (.iastore, 1) := by decide +kernel
theorem dX12_init_258 : decode cX12_init 258 = .ok (.dup, 1) := by decide +kernel
theorem dX12_init_259 : decode cX12_init 259 = .ok (.bipush 34, 2) := by decide +kernel
theorem dX12_init_261 : decode cX12_init 261 = .ok (.bipush 103, 2) := by decide +kernel
theorem dX12_init_263 : decode cX12_init 263 = .ok (.iastore, 1) := by decide +kernel
theorem dX12_init_264 : decode cX12_init 264 = .ok (.dup, 1) := by decide +kernel
theorem dX12_init_265 : decode cX12_init 265 = .ok (.bipush 35, 2) := by decide +kernel
theorem dX12_init_267 : decode cX12_init 267 = .ok (.bipush 101, 2) := by decide +kernel
theorem dX12_init_269 : decode cX12_init 269 = .ok (.iastore, 1) := by decide +kernel
theorem dX12_init_270 : decode cX12_init 270 = .ok (.dup, 1) := by decide +kernel
theorem dX12_init_271 : decode cX12_init 271 = .ok (.bipush 36, 2) := by decide +kernel
theorem dX12_init_273 : decode cX12_init 273 = .ok (.bipush 32, 2) := by decide +kernel
theorem dX12_init_275 : decode cX12_init 275 = .ok (.iastore, 1) := by decide +kernel
theorem dX12_init_276 : decode cX12_init 276 = .ok (.dup, 1) := by decide +kernel
theorem dX12_init_277 : decode cX12_init 277 = .ok (.bipush 37, 2) := by decide +kernel
theorem dX12_init_279 : decode cX12_init 279 = .ok (.bipush 102, 2) := by decide +kernel
theorem dX12_init_281 : decode cX12_init 281 = .ok (.iastore, 1) := by decide +kernel
theorem dX12_init_282 : decode cX12_init 282 = .ok (.dup, 1) := by decide +kernel
theorem dX12_init_283 : decode cX12_init 283 = .ok (.bipush 38, 2) := by decide +kernel
theorem dX12_init_285 : decode cX12_init 285 = .ok (.bipush 97, 2) := by decide +kernel
theorem dX12_init_287 : decode cX12_init 287 = .ok (.iastore, 1) := by decide +kernel
theorem dX12_init_288 : decode cX12_init 288 = .ok (.dup, 1) := by decide +kernel
theorem dX12_init_289 : decode cX12_init 289 = .ok (.bipush 39, 2) := by decide +kernel
theorem dX12_init_291 : decode cX12_init 291 = .ok (.bipush 105, 2) := by decide +kernel
theorem dX12_init_293 : decode cX12_init 293 = .ok (.iastore, 1) := by decide +kernel
theorem dX12_init_294 : decode cX12_init 294 = .ok (.dup, 1) := by decide +kernel
theorem dX12_init_295 : decode cX12_init 295 = .ok (.bipush 40, 2) := by decide +kernel
theorem dX12_init_297 : decode cX12_init 297 = .ok (.bipush 116, 2) := by decide +kernel
theorem dX12_init_299 : decode cX12_init 299 = .ok (.iastore, 1) := by decide +kernel
theorem dX12_init_300 : decode cX12_init 300 = .ok (.dup, 1) := by decide +kernel
theorem dX12_init_301 : decode cX12_init 301 = .ok (.bipush 41, 2) := by decide +kernel
theorem dX12_init_303 : decode cX12_init 303 = .ok (.bipush 104, 2) := by decide +kernel
theorem dX12_init_305 : decode cX12_init 305 = .ok (.iastore, 1) := by decide +kernel
theorem dX12_init_306 : decode cX12_init 306 = .ok (.dup, 1) := by decide +kernel
theorem dX12_init_307 : decode cX12_init 307 = .ok (.bipush 42, 2) := by decide +kernel
theorem dX12_init_309 : decode cX12_init 309 = .ok (.bipush 32, 2) := by decide +kernel
theorem dX12_init_311 : decode cX12_init 311 = .ok (.iastore, 1) := by decide +kernel
theorem dX12_init_312 : decode cX12_init 312 = .ok (.dup, 1) := by decide +kernel
theorem dX12_init_313 : decode cX12_init 313 = .ok (.bipush 43, 2) := by decide +kernel
theorem dX12_init_315 : decode cX12_init 315 = .ok (.bipush 100, 2) := by decide +kernel
theorem dX12_init_317 : decode cX12_init 317 = .ok (.iastore, 1) := by decide +kernel
theorem dX12_init_318 : decode cX12_init 318 = .ok (.dup, 1) := by decide +kernel
theorem dX12_init_319 : decode cX12_init 319 = .ok (.bipush 44, 2) := by decide +kernel
theorem dX12_init_321 : decode cX12_init 321 = .ok (.bipush 111, 2) := by decide +kernel
theorem dX12_init_323 : decode cX12_init 323 = .ok (.iastore, 1) := by decide +kernel
theorem dX12_init_324 : decode cX12_init 324 = .ok (.dup, 1) := by decide +kernel
theorem dX12_init_325 : decode cX12_init 325 = .ok (.bipush 45, 2) := by decide +kernel
theorem dX12_init_327 : decode cX12_init 327 = .ok (.bipush 99, 2) := by decide +kernel
theorem dX12_init_329 : decode cX12_init 329 = .ok (.iastore, 1) := by decide +kernel
theorem dX12_init_330 : decode cX12_init 330 = .ok (.dup, 1) := by decide +kernel
theorem dX12_init_331 : decode cX12_init 331 = .ok (.bipush 46, 2) := by decide +kernel
theorem dX12_init_333 : decode cX12_init 333 = .ok (.bipush 116, 2) := by decide +kernel
theorem dX12_init_335 : decode cX12_init 335 = .ok (.iastore, 1) := by decide +kernel
theorem dX12_init_336 : decode cX12_init 336 = .ok (.dup, 1) := by decide +kernel
theorem dX12_init_337 : decode cX12_init 337 = .ok (.bipush 47, 2) := by decide +kernel
theorem dX12_init_339 : decode cX12_init 339 = .ok (.bipush 114, 2) := by decide +kernel
theorem dX12_init_341 : decode cX12_init 341 = .ok (.iastore, 1) := by decide +kernel
theorem dX12_init_342 : decode cX12_init 342 = .ok (.dup, 1) := by decide +kernel
theorem dX12_init_343 : decode cX12_init 343 = .ok (.bipush 48, 2) := by decide +kernel
theorem dX12_init_345 : decode cX12_init 345 = .ok (.bipush 105, 2) := by decide +kernel
theorem dX12_init_347 : decode cX12_init 347 = .ok (.iastore, 1) := by decide +kernel
theorem dX12_init_348 : decode cX12_init 348 = .ok (.dup, 1) := by decide +kernel
theorem dX12_init_349 : decode cX12_init 349 = .ok (.bipush 49, 2) := by decide +kernel
theorem dX12_init_351 : decode cX12_init 351 = .ok (.bipush 110, 2) := by decide +kernel
theorem dX12_init_353 : decode cX12_init 353 = .ok (.iastore, 1) := by decide +kernel
theorem dX12_init_354 : decode cX12_init 354 = .ok (.dup, 1) := by decide +kernel
theorem dX12_init_355 : decode cX12_init 355 = .ok (.bipush 50, 2) := by decide +kernel
theorem dX12_init_357 : decode cX12_init 357 = .ok (.bipush 101, 2) := by decide +kernel
theorem dX12_init_359 : decode cX12_init 359 = .ok (.iastore, 1) := by decide +kernel
theorem dX12_init_360 : decode cX12_init 360 = .ok (.dup, 1) := by decide +kernel
theorem dX12_init_361 : decode cX12_init 361 = .ok (.bipush 51, 2) := by decide +kernel
theorem dX12_init_363 : decode cX12_init 363 = .ok (.bipush 32, 2) := by decide +kernel
theorem dX12_init_365 : decode cX12_init 365 = .ok (.iastore, 1) := by decide +kernel
theorem dX12_init_366 : decode cX12_init 366 = .ok (.dup, 1) := by decide +kernel
theorem dX12_init_367 : decode cX12_init 367 = .ok (.bipush 52, 2) := by decide +kernel
theorem dX12_init_369 : decode cX12_init 369 = .ok (.bipush 104, 2) := by decide +kernel
theorem dX12_init_371 : decode cX12_init 371 = .ok (.iastore, 1) := by decide +kernel
theorem dX12_init_372 : decode cX12_init 372 = .ok (.dup, 1) := by decide +kernel
theorem dX12_init_373 : decode cX12_init 373 = .ok (.bipush 53, 2) := by decide +kernel
theorem dX12_init_375 : decode cX12_init 375 = .ok (.bipush 117, 2) := by decide +kernel
theorem dX12_init_377 : decode cX12_init 377 = .ok (.iastore, 1) := by decide +kernel
theorem dX12_init_378 : decode cX12_init 378 = .ok (.dup, 1) := by decide +kernel
theorem dX12_init_379 : decode cX12_init 379 = .ok (.bipush 54, 2) := by decide +kernel
theorem dX12_init_381 : decode cX12_init 381 = .ok (.bipush 110, 2) := by decide +kernel
theorem dX12_init_383 : decode cX12_init 383 = .ok (.iastore, 1) := by decide +kernel
theorem dX12_init_384 : decode cX12_init 384 = .ok (.dup, 1) := by decide +kernel
theorem dX12_init_385 : decode cX12_init 385 = .ok (.bipush 55, 2) := by decide +kernel
theorem dX12_init_387 : decode cX12_init 387 = .ok (.bipush 103, 2) := by decide +kernel
theorem dX12_init_389 : decode cX12_init 389 = .ok (.iastore, 1) := by decide +kernel
theorem dX12_init_390 : decode cX12_init 390 = .ok (.dup, 1) := by decide +kernel
theorem dX12_init_391 : decode cX12_init 391 = .ok (.bipush 56, 2) := by decide +kernel
theorem dX12_init_393 : decode cX12_init 393 = .ok (.bipush 101, 2) := by decide +kernel
theorem dX12_init_395 : decode cX12_init 395 = .ok (.iastore, 1) := by decide +kernel
theorem dX12_init_396 : decode cX12_init 396 = .ok (.dup, 1) := by decide +kernel
theorem dX12_init_397 : decode cX12_init 397 = .ok (.bipush 57, 2) := by decide +kernel
theorem dX12_init_399 : decode cX12_init 399 = .ok (.bipush 114, 2) := by decide +kernel
theorem dX12_init_401 : decode cX12_init 401 = .ok (.iastore, 1) := by decide +kernel
theorem dX12_init_402 : decode cX12_init 402 = .ok (.dup, 1) := by decide +kernel
theorem dX12_init_403 : decode cX12_init 403 = .ok (.bipush 58, 2) := by decide +kernel
theorem dX12_init_405 : decode cX12_init 405 = .ok (.bipush 32, 2) := by decide +kernel
theorem dX12_init_407 : decode cX12_init 407 = .ok (.iastore, 1) := by decide +kernel
theorem dX12_init_408 : decode cX12_init 408 = .ok (.dup, 1) := by decide +kernel
theorem dX12_init_409 : decode cX12_init 409 = .ok (.bipush 59, 2) := by decide +kernel
theorem dX12_init_411 : decode cX12_init 411 = .ok (.bipush 112, 2) := by decide +kernel
theorem dX12_init_413 : decode cX12_init 413 = .ok (.iastore, 1) := by decide +kernel
theorem dX12_init_414 : decode cX12_init 414 = .ok (.dup, 1) := by decide +kernel
theorem dX12_init_415 : decode cX12_init 415 = .ok (.bipush 60, 2) := by decide +kernel
theorem dX12_init_417 : decode cX12_init 417 = .ok (.bipush 108, 2) := by decide +kernel
theorem dX12_init_419 : decode cX12_init 419 = .ok (.iastore, 1) := by decide +kernel
theorem dX12_init_420 : decode cX12_init 420 = .ok (.dup, 1) := by decide +kernel
theorem dX12_init_421 : decode cX12_init 421 = .ok (.bipush 61, 2) := by decide +kernel
theorem dX12_init_423 : decode cX12_init 423 = .ok (.bipush 97, 2) := by decide +kernel
theorem dX12_init_425 : decode cX12_init 425 = .ok (.iastore, 1) := by decide +kernel
theorem dX12_init_426 : decode cX12_init 426 = .ok (.dup, 1) := by decide +kernel
theorem dX12_init_427 : decode cX12_init 427 = .ok (.bipush 62, 2) := by decide +kernel
theorem dX12_init_429 : decode cX12_init 429 = .ok (.bipush 99, 2) := by decide +kernel
theorem dX12_init_431 : decode cX12_init 431 = .ok (.iastore, 1) := by decide +kernel
theorem dX12_init_432 : decode cX12_init 432 = .ok (.dup, 1) := by decide +kernel
theorem dX12_init_433 : decode cX12_init 433 = .ok (.bipush 63, 2) := by decide +kernel
theorem dX12_init_435 : decode cX12_init 435 = .ok (.bipush 101, 2) := by decide +kernel
theorem dX12_init_437 : decode cX12_init 437 = .ok (.iastore, 1) := by decide +kernel
theorem dX12_init_438 : decode cX12_init 438 = .ok (.dup, 1) := by decide +kernel
theorem dX12_init_439 : decode cX12_init 439 = .ok (.bipush 64, 2) := by decide +kernel
theorem dX12_init_441 : decode cX12_init 441 = .ok (.bipush 32, 2) := by decide +kernel
theorem dX12_init_443 : decode cX12_init 443 = .ok (.iastore, 1) := by decide +kernel
theorem dX12_init_444 : decode cX12_init 444 = .ok (.dup, 1) := by decide +kernel
theorem dX12_init_445 : decode cX12_init 445 = .ok (.bipush 65, 2) := by decide +kernel
theorem dX12_init_447 : decode cX12_init 447 = .ok (.bipush 116, 2) := by decide +kernel
theorem dX12_init_449 : decode cX12_init 449 = .ok (.iastore, 1) := by decide +kernel
theorem dX12_init_450 : decode cX12_init 450 = .ok (.dup, 1) := by decide +kernel
theorem dX12_init_451 : decode cX12_init 451 = .ok (.bipush 66, 2) := by decide +kernel
theorem dX12_init_453 : decode cX12_init 453 = .ok (.bipush 97, 2) := by decide +kernel
theorem dX12_init_455 : decode cX12_init 455 = .ok (.iastore, 1) := by decide +kernel
theorem dX12_init_456 : decode cX12_init 456 = .ok (.dup, 1) := by decide +kernel
theorem dX12_init_457 : decode cX12_init 457 = .ok (.bipush 67, 2) := by decide +kernel
theorem dX12_init_459 : decode cX12_init 459 = .ok (.bipush 108, 2) := by decide +kernel
theorem dX12_init_461 : decode cX12_init 461 = .ok (.iastore, 1) := by decide +kernel
theorem dX12_init_462 : decode cX12_init 462 = .ok (.dup, 1) := by decide +kernel
theorem dX12_init_463 : decode cX12_init 463 = .ok (.bipush 68, 2) := by decide +kernel
theorem dX12_init_465 : decode cX12_init 465 = .ok (.bipush 108, 2) := by decide +kernel
theorem dX12_init_467 : decode cX12_init 467 = .ok (.iastore, 1) := by decide +kernel
theorem dX12_init_468 : decode cX12_init 468 = .ok (.dup, 1) := by decide +kernel
theorem dX12_init_469 : decode cX12_init 469 = .ok (.bipush 69, 2) := by decide +kernel
theorem dX12_init_471 : decode cX12_init 471 = .ok (.bipush 32, 2) := by decide +kernel
theorem dX12_init_473 : decode cX12_init 473 = .ok (.iastore, 1) := by decide +kernel
theorem dX12_init_474 : decode cX12_init 474 = .ok (.dup, 1) := by decide +kernel
theorem dX12_init_475 : decode cX12_init 475 = .ok (.bipush 70, 2) := by decide +kernel
theorem dX12_init_477 : decode cX12_init 477 = .ok (.bipush 119, 2) := by decide +kernel
theorem dX12_init_479 : decode cX12_init 479 = .ok (.iastore, 1) := by decide +kernel
theorem dX12_init_480 : decode cX12_init 480 = .ok (.dup, 1) := by decide +kernel
theorem dX12_init_481 : decode cX12_init 481 = .ok (.bipush 71, 2) := by decide +kernel
theorem dX12_init_483 : decode cX12_init 483 = .ok (.bipush 101, 2) := by decide +kernel
theorem dX12_init_485 : decode cX12_init 485 = .ok (.iastore, 1) := by decide +kernel
theorem dX12_init_486 : decode cX12_init 486 = .ok (.dup, 1) := by decide +kernel
theorem dX12_init_487 : decode cX12_init 487 = .ok (.bipush 72, 2) := by decide +kernel
theorem dX12_init_489 : decode cX12_init 489 = .ok (.bipush 97, 2) := by decide +kernel
theorem dX12_init_491 : decode cX12_init 491 = .ok (.iastore, 1) := by decide +kernel
theorem dX12_init_492 : decode cX12_init 492 = .ok (.dup, 1) := by decide +kernel
theorem dX12_init_493 : decode cX12_init 493 = .ok (.bipush 73, 2) := by decide +kernel
theorem dX12_init_495 : decode cX12_init 495 = .ok (.bipush 116, 2) := by decide +kernel
theorem dX12_init_497 : decode cX12_init 497 = .ok (.iastore, 1) := by decide +kernel
theorem dX12_init_498 : decode cX12_init 498 = .ok (.dup, 1) := by decide +kernel
theorem dX12_init_499 : decode cX12_init 499 = .ok (.bipush 74, 2) := by decide +kernel
theorem dX12_init_501 : decode cX12_init 501 = .ok (.bipush 104, 2) := by decide +kernel
theorem dX12_init_503 : decode cX12_init 503 = .ok (.iastore, 1) := by decide +kernel
theorem dX12_init_504 : decode cX12_init 504 = .ok (.dup, 1) := by decide +kernel
theorem dX12_init_505 : decode cX12_init 505 = .ok (.bipush 75, 2) := by decide +kernel
theorem dX12_init_507 : decode cX12_init 507 = .ok (.bipush 101, 2) := by decide +kernel
theorem dX12_init_509 : decode cX12_init 509 = .ok (.iastore, 1) := by decide +kernel
theorem dX12_init_510 : decode cX12_init 510 = .ok (.dup, 1) := by decide +kernel
theorem dX12_init_511 : decode cX12_init 511 = .ok (.bipush 76, 2) := by decide +kernel
theorem dX12_init_513 : decode cX12_init 513 = .ok (.bipush 114, 2) := by decide +kernel
theorem dX12_init_515 : decode cX12_init 515 = .ok (.iastore, 1) := by decide +kernel
theorem dX12_init_516 : decode cX12_init 516 = .ok (.dup, 1) := by decide +kernel
theorem dX12_init_517 : decode cX12_init 517 = .ok (.bipush 77, 2) := by decide +kernel
theorem dX12_init_519 : decode cX12_init 519 = .ok (.bipush 32, 2) := by decide +kernel
theorem dX12_init_521 : decode cX12_init 521 = .ok (.iastore, 1) := by decide +kernel
theorem dX12_init_522 : decode cX12_init 522 = .ok (.dup, 1) := by decide +kernel
theorem dX12_init_523 : decode cX12_init 523 = .ok (.bipush 78, 2) := by decide +kernel
theorem dX12_init_525 : decode cX12_init 525 = .ok (.bipush 97, 2) := by decide +kernel
theorem dX12_init_527 : decode cX12_init 527 = .ok (.iastore, 1) := by decide +kernel
theorem dX12_init_528 : decode cX12_init 528 = .ok (.dup, 1) := by decide +kernel
theorem dX12_init_529 : decode cX12_init 529 = .ok (.bipush 79, 2) := by decide +kernel
theorem dX12_init_531 : decode cX12_init 531 = .ok (.bipush 98, 2) := by decide +kernel
theorem dX12_init_533 : decode cX12_init 533 = .ok (.iastore, 1) := by decide +kernel
theorem dX12_init_534 : decode cX12_init 534 = .ok (.dup, 1) := by decide +kernel
theorem dX12_init_535 : decode cX12_init 535 = .ok (.bipush 80, 2) := by decide +kernel
theorem dX12_init_537 : decode cX12_init 537 = .ok (.bipush 111, 2) := by decide +kernel
theorem dX12_init_539 : decode cX12_init 539 = .ok (.iastore, 1) := by decide +kernel
theorem dX12_init_540 : decode cX12_init 540 = .ok (.dup, 1) := by decide +kernel
theorem dX12_init_541 : decode cX12_init 541 = .ok (.bipush 81, 2) := by decide +kernel
theorem dX12_init_543 : decode cX12_init 543 = .ok (.bipush 118, 2) := by decide +kernel
theorem dX12_init_545 : decode cX12_init 545 = .ok (.iastore, 1) := by decide +kernel
theorem dX12_init_546 : decode cX12_init 546 = .ok (.dup, 1) := by decide +kernel
theorem dX12_init_547 : decode cX12_init 547 = .ok (.bipush 82, 2) := by decide +kernel
theorem dX12_init_549 : decode cX12_init 549 = .ok (.bipush 101, 2) := by decide +kernel
theorem dX12_init_551 : decode cX12_init 551 = .ok (.iastore, 1) := by decide +kernel
theorem dX12_init_552 : decode cX12_init 552 = .ok (.dup, 1) := by decide +kernel
theorem dX12_init_553 : decode cX12_init 553 = .ok (.bipush 83, 2) := by decide +kernel
theorem dX12_init_555 : decode cX12_init 555 = .ok (.bipush 32, 2) := by decide +kernel
theorem dX12_init_557 : decode cX12_init 557 = .ok (.iastore, 1) := by decide +kernel
theorem dX12_init_558 : decode cX12_init 558 = .ok (.dup, 1) := by decide +kernel
theorem dX12_init_559 : decode cX12_init 559 = .ok (.bipush 84, 2) := by decide +kernel
theorem dX12_init_561 : decode cX12_init 561 = .ok (.bipush 100, 2) := by decide +kernel
theorem dX12_init_563 : decode cX12_init 563 = .ok (.iastore, 1) := by decide +kernel
theorem dX12_init_564 : decode cX12_init 564 = .ok (.dup, 1) := by decide +kernel
theorem dX12_init_565 : decode cX12_init 565 = .ok (.bipush 85, 2) := by decide +kernel
theorem dX12_init_567 : decode cX12_init 567 = .ok (.bipush 97, 2) := by decide +kernel
theorem dX12_init_569 : decode cX12_init 569 = .ok (.iastore, 1) := by decide +kernel
theorem dX12_init_570 : decode cX12_init 570 = .ok (.dup, 1) := by decide +kernel
theorem dX12_init_571 : decode cX12_init 571 = .ok (.bipush 86, 2) := by decide +kernel
theorem dX12_init_573 : decode cX12_init 573 = .ok (.bipush 121, 2) := by decide +kernel
theorem dX12_init_575 : decode cX12_init 575 = .ok (.iastore, 1) := by decide +kernel
theorem dX12_init_576 : decode cX12_init 576 = .ok (.dup, 1) := by decide +kernel
theorem dX12_init_577 : decode cX12_init 577 = .ok (.bipush 87, 2) := by decide +kernel
theorem dX12_init_579 : decode cX12_init 579 = .ok (.bipush 32, 2) := by decide +kernel
theorem dX12_init_581 : decode cX12_init 581 = .ok (.iastore, 1) := by decide +kernel
theorem dX12_init_582 : decode cX12_init 582 = .ok (.dup, 1) := by decide +kernel
theorem dX12_init_583 : decode cX12_init 583 = .ok (.bipush 88, 2) := by decide +kernel
theorem dX12_init_585 : decode cX12_init 585 = .ok (.bipush 105, 2) := by decide +kernel
theorem dX12_init_587 : decode cX12_init 587 = .ok (.iastore, 1) := by decide +kernel
theorem dX12_init_588 : decode cX12_init 588 = .ok (.dup, 1) := by decide +kernel
theorem dX12_init_589 : decode cX12_init 589 = .ok (.bipush 89, 2) := by decide +kernel
theorem dX12_init_591 : decode cX12_init 591 = .ok (.bipush 115, 2) := by decide +kernel
theorem dX12_init_593 : decode cX12_init 593 = .ok (.iastore, 1) := by decide +kernel
theorem dX12_init_594 : decode cX12_init 594 = .ok (.dup, 1) := by decide +kernel
theorem dX12_init_595 : decode cX12_init 595 = .ok (.bipush 90, 2) := by decide +kernel
theorem dX12_init_597 : decode cX12_init 597 = .ok (.bipush 32, 2) := by decide +kernel
theorem dX12_init_599 : decode cX12_init 599 = .ok (.iastore, 1) := by decide +kernel
theorem dX12_init_600 : decode cX12_init 600 = .ok (.dup, 1) := by decide +kernel
theorem dX12_init_601 : decode cX12_init 601 = .ok (.bipush 91, 2) := by decide +kernel
theorem dX12_init_603 : decode cX12_init 603 = .ok (.bipush 111, 2) := by decide +kernel
theorem dX12_init_605 : decode cX12_init 605 = .ok (.iastore, 1) := by decide +kernel
theorem dX12_init_606 : decode cX12_init 606 = .ok (.dup, 1) := by decide +kernel
theorem dX12_init_607 : decode cX12_init 607 = .ok (.bipush 92, 2) := by decide +kernel
theorem dX12_init_609 : decode cX12_init 609 = .ok (.bipush 110, 2) := by decide +kernel
theorem dX12_init_611 : decode cX12_init 611 = .ok (.iastore, 1) := by decide +kernel
theorem dX12_init_612 : decode cX12_init 612 = .ok (.dup, 1) := by decide +kernel
theorem dX12_init_613 : decode cX12_init 613 = .ok (.bipush 93, 2) := by decide +kernel
theorem dX12_init_615 : decode cX12_init 615 = .ok (.bipush 32, 2) := by decide +kernel
theorem dX12_init_617 : decode cX12_init 617 = .ok (.iastore, 1) := by decide +kernel
theorem dX12_init_618 : decode cX12_init 618 = .ok (.dup, 1) := by decide +kernel
theorem dX12_init_619 : decode cX12_init 619 = .ok (.bipush 94, 2) := by decide +kernel
theorem dX12_init_621 : decode cX12_init 621 = .ok (.bipush 108, 2) := by decide +kernel
theorem dX12_init_623 : decode cX12_init 623 = .ok (.iastore, 1) := by decide +kernel
theorem dX12_init_624 : decode cX12_init 624 = .ok (.dup, 1) := by decide +kernel
theorem dX12_init_625 : decode cX12_init 625 = .ok (.bipush 95, 2) := by decide +kernel
theorem dX12_init_627 : decode cX12_init 627 = .ok (.bipush 111, 2) := by decide +kernel
theorem dX12_init_629 : decode cX12_init 629 = .ok (.iastore, 1) := by decide +kernel
theorem dX12_init_630 : decode cX12_init 630 = .ok (.dup, 1) := by decide +kernel
theorem dX12_init_631 : decode cX12_init 631 = .ok (.bipush 96, 2) := by decide +kernel
theorem dX12_init_633 : decode cX12_init 633 = .ok (.bipush 97, 2) := by decide +kernel
theorem dX12_init_635 : decode cX12_init 635 = .ok (.iastore, 1) := by decide +kernel
theorem dX12_init_636 : decode cX12_init 636 = .ok (.dup, 1) := by decide +kernel
theorem dX12_init_637 : decode cX12_init 637 = .ok (.bipush 97, 2) := by decide +kernel
theorem dX12_init_639 : decode cX12_init 639 = .ok (.bipush 118, 2) := by decide +kernel
theorem dX12_init_641 : decode cX12_init 641 = .ok (.iastore, 1) := by decide +kernel
theorem dX12_init_642 : decode cX12_init 642 = .ok (.dup, 1) := by decide +kernel
theorem dX12_init_643 : decode cX12_init 643 = .ok (.bipush 98, 2) := by decide +kernel
theorem dX12_init_645 : decode cX12_init 645 = .ok (.bipush 101, 2) := by decide +kernel
theorem dX12_init_647 : decode cX12_init 647 = .ok (.iastore, 1) := by decide +kernel
theorem dX12_init_648 : decode cX12_init 648 = .ok (.dup, 1) := by decide +kernel
theorem dX12_init_649 : decode cX12_init 649 = .ok (.bipush 99, 2) := by decide +kernel
theorem dX12_init_651 : decode cX12_init 651 = .ok (.bipush 115, 2) := by decide +kernel
theorem dX12_init_653 : decode cX12_init 653 = .ok (.iastore, 1) := by decide +kernel
theorem dX12_init_654 : decode cX12_init 654 = .ok (.dup, 1) := by decide +kernel
theorem dX12_init_655 : decode cX12_init 655 = .ok (.bipush 100, 2) := by decide +kernel
theorem dX12_init_657 : decode cX12_init 657 = .ok (.bipush 32, 2) := by decide +kernel
theorem dX12_init_659 : decode cX12_init 659 = .ok (.iastore, 1) := by decide +kernel
theorem dX12_init_660 : decode cX12_init 660 = .ok (.dup, 1) := by decide +kernel
theorem dX12_init_661 : decode cX12_init 661 = .ok (.bipush 101, 2) := by decide +kernel
theorem dX12_init_663 : decode cX12_init 663 = .ok (.bipush 115, 2) := by decide +kernel
theorem dX12_init_665 : decode cX12_init 665 = .ok (.iastore, 1) := by decide +kernel
theorem dX12_init_666 : decode cX12_init 666 = .ok (.dup, 1) := by decide +kernel
theorem dX12_init_667 : decode cX12_init 667 = .ok (.bipush 102, 2) := by decide +kernel
theorem dX12_init_669 : decode cX12_init 669 = .ok (.bipush 97, 2) := by decide +kernel
theorem dX12_init_671 : decode cX12_init 671 = .ok (.iastore, 1) := by decide +kernel
theorem dX12_init_672 : decode cX12_init 672 = .ok (.dup, 1) := by decide +kernel
theorem dX12_init_673 : decode cX12_init 673 = .ok (.bipush 103, 2) := by decide +kernel
theorem dX12_init_675 : decode cX12_init 675 = .ok (.bipush 121, 2) := by decide +kernel
theorem dX12_init_677 : decode cX12_init 677 = .ok (.iastore, 1) := by decide +kernel
theorem dX12_init_678 : decode cX12_init 678 = .ok (.dup, 1) := by decide +kernel
theorem dX12_init_679 : decode cX12_init 679 = .ok (.bipush 104, 2) := by decide +kernel
theorem dX12_init_681 : decode cX12_init 681 = .ok (.bipush 32, 2) := by decide +kernel
theorem dX12_init_683 : decode cX12_init 683 = .ok (.iastore, 1) := by decide +kernel
theorem dX12_init_684 : decode cX12_init 684 = .ok (.dup, 1) := by decide +kernel
theorem dX12_init_685 : decode cX12_init 685 = .ok (.bipush 105, 2) := by decide +kernel
theorem dX12_init_687 : decode cX12_init 687 = .ok (.bipush 100, 2) := by decide +kernel
theorem dX12_init_689 : decode cX12_init 689 = .ok (.iastore, 1) := by decide +kernel
theorem dX12_init_690 : decode cX12_init 690 = .ok (.dup, 1) := by decide +kernel
theorem dX12_init_691 : decode cX12_init 691 = .ok (.bipush 106, 2) := by decide +kernel
theorem dX12_init_693 : decode cX12_init 693 = .ok (.bipush 111, 2) := by decide +kernel
theorem dX12_init_695 : decode cX12_init 695 = .ok (.iastore, 1) := by decide +kernel
theorem dX12_init_696 : decode cX12_init 696 = .ok (.dup, 1) := by decide +kernel
theorem dX12_init_697 : decode cX12_init 697 = .ok (.bipush 107, 2) := by decide +kernel
theorem dX12_init_699 : decode cX12_init 699 = .ok (.bipush 119, 2) := by decide +kernel
theorem dX12_init_701 : decode cX12_init 701 = .ok (.iastore, 1) := by decide +kernel
theorem dX12_init_702 : decode cX12_init 702 = .ok (.dup, 1) := by decide +kernel
theorem dX12_init_703 : decode cX12_init 703 = .ok (.bipush 108, 2) := by decide +kernel
theorem dX12_init_705 : decode cX12_init 705 = .ok (.bipush 110, 2) := by decide +kernel
theorem dX12_init_707 : decode cX12_init 707 = .ok (.iastore, 1) := by decide +kernel
theorem dX12_init_708 : decode cX12_init 708 = .ok (.dup, 1) := by decide +kernel
theorem dX12_init_709 : decode cX12_init 709 = .ok (.bipush 109, 2) := by decide +kernel
theorem dX12_init_711 : decode cX12_init 711 = .ok (.bipush 32, 2) := by decide +kernel
theorem dX12_init_713 : decode cX12_init 713 = .ok (.iastore, 1) := by decide +kernel
theorem dX12_init_714 : decode cX12_init 714 = .ok (.dup, 1) := by decide +kernel
theorem dX12_init_715 : decode cX12_init 715 = .ok (.bipush 110, 2) := by decide +kernel
theorem dX12_init_717 : decode cX12_init 717 = .ok (.bipush 98, 2) := by decide +kernel
theorem dX12_init_719 : decode cX12_init 719 = .ok (.iastore, 1) := by decide +kernel
theorem dX12_init_720 : decode cX12_init 720 = .ok (.dup, 1) := by decide +kernel
theorem dX12_init_721 : decode cX12_init 721 = .ok (.bipush 111, 2) := by decide +kernel
theorem dX12_init_723 : decode cX12_init 723 = .ok (.bipush 117, 2) := by decide +kernel
theorem dX12_init_725 : decode cX12_init 725 = .ok (.iastore, 1) := by decide +kernel
theorem dX12_init_726 : decode cX12_init 726 = .ok (.dup, 1) := by decide +kernel
theorem dX12_init_727 : decode cX12_init 727 = .ok (.bipush 112, 2) := by decide +kernel
theorem dX12_init_729 : decode cX12_init 729 = .ok (.bipush 105, 2) := by decide +kernel
theorem dX12_init_731 : decode cX12_init 731 = .ok (.iastore, 1) := by decide +kernel
theorem dX12_init_732 : decode cX12_init 732 = .ok (.dup, 1) := by decide +kernel
theorem dX12_init_733 : decode cX12_init 733 = .ok (.bipush 113, 2) := by decide +kernel
theorem dX12_init_735 : decode cX12_init 735 = .ok (.bipush 108, 2) := by decide +kernel
theorem dX12_init_737 : decode cX12_init 737 = .ok (.iastore, 1) := by decide +kernel
theorem dX12_init_738 : decode cX12_init 738 = .ok (.dup, 1) := by decide +kernel
theorem dX12_init_739 : decode cX12_init 739 = .ok (.bipush 114, 2) := by decide +kernel
theorem dX12_init_741 : decode cX12_init 741 = .ok (.bipush 100, 2) := by decide +kernel
theorem dX12_init_743 : decode cX12_init 743 = .ok (.iastore, 1) := by decide +kernel
theorem dX12_init_744 : decode cX12_init 744 = .ok (.dup, 1) := by decide +kernel
theorem dX12_init_745 : decode cX12_init 745 = .ok (.bipush 115, 2) := by decide +kernel
theorem dX12_init_747 : decode cX12_init 747 = .ok (.bipush 32, 2) := by decide +kernel
theorem dX12_init_749 : decode cX12_init 749 = .ok (.iastore, 1) := by decide +kernel
theorem dX12_init_750 : decode cX12_init 750 = .ok (.dup, 1) := by decide +kernel
theorem dX12_init_751 : decode cX12_init 751 = .ok (.bipush 116, 2) := by decide +kernel
theorem dX12_init_753 : decode cX12_init 753 = .ok (.bipush 99, 2) := by decide +kernel
theorem dX12_init_755 : decode cX12_init 755 = .ok (.iastore, 1) := by decide +kernel
theorem dX12_init_756 : decode cX12_init 756 = .ok (.dup, 1) := by decide +kernel
theorem dX12_init_757 : decode cX12_init 757 = .ok (.bipush 117, 2) := by decide +kernel
theorem dX12_init_759 : decode cX12_init 759 = .ok (.bipush 117, 2) := by decide +kernel
theorem dX12_init_761 : decode cX12_init 761 = .ok (.iastore, 1) := by decide +kernel
theorem dX12_init_762 : decode cX12_init 762 = .ok (.dup, 1) := by decide +kernel
theorem dX12_init_763 : decode cX12_init 763 = .ok (.bipush 118, 2) := by decide +kernel
theorem dX12_init_765 : decode cX12_init 765 = .ok (.bipush 114, 2) := by decide +kernel
theorem dX12_init_767 : decode cX12_init 767 = .ok (.iastore, 1) := by decide +kernel
theorem dX12_init_768 : decode cX12_init 768 = .ok (.dup, 1) := by decide +kernel
theorem dX12_init_769 : decode cX12_init 769 = .ok (.bipush 119, 2) := by decide +kernel
theorem dX12_init_771 : decode cX12_init 771 = .ok (.bipush 115, 2) := by decide +kernel
theorem dX12_init_773 : decode cX12_init 773 = .ok (.iastore, 1) := by decide +kernel
theorem dX12_init_774 : decode cX12_init 774 = .ok (.dup, 1) := by decide +kernel
theorem dX12_init_775 : decode cX12_init 775 = .ok (.bipush 120, 2) := by decide +kernel
theorem dX12_init_777 : decode cX12_init 777 = .ok (.bipush 101, 2) := by decide +kernel
theorem dX12_init_779 : decode cX12_init 779 = .ok (.iastore, 1) := by decide +kernel
theorem dX12_init_780 : decode cX12_init 780 = .ok (.dup, 1) := by decide +kernel
theorem dX12_init_781 : decode cX12_init 781 = .ok (.bipush 121, 2) := by decide +kernel
theorem dX12_init_783 : decode cX12_init 783 = .ok (.bipush 32, 2) := by decide +kernel
theorem dX12_init_785 : decode cX12_init 785 = .ok (.iastore, 1) := by decide +kernel
theorem dX12_init_786 : decode cX12_init 786 = .ok (.dup, 1) := by decide +kernel
theorem dX12_init_787 : decode cX12_init 787 = .ok (.bipush 122, 2) := by decide +kernel
theorem dX12_init_789 : decode cX12_init 789 = .ok (.bipush 115, 2) := by decide +kernel
theorem dX12_init_791 : decode cX12_init 791 = .ok (.iastore, 1) := by decide +kernel
theorem dX12_init_792 : decode cX12_init 792 = .ok (.dup, 1) := by decide +kernel
theorem dX12_init_793 : decode cX12_init 793 = .ok (.bipush 123, 2) := by decide +kernel
theorem dX12_init_795 : decode cX12_init 795 = .ok (.bipush 111, 2) := by decide +kernel
theorem dX12_init_797 : decode cX12_init 797 = .ok (.iastore, 1) := by decide +kernel
theorem dX12_init_798 : decode cX12_init 798 = .ok (.dup, 1) := by decide +kernel
theorem dX12_init_799 : decode cX12_init 799 = .ok (.bipush 124, 2) := by decide +kernel
theorem dX12_init_801 : decode cX12_init 801 = .ok (.bipush 32, 2) := by decide +kernel
theorem dX12_init_803 : decode cX12_init 803 = .ok (.iastore, 1) := by decide +kernel
theorem dX12_init_804 : decode cX12_init 804 = .ok (.putfield 28, 3) := by decide +kernel
theorem dX12_init_807 : decode cX12_init 807 = .ok (.aload_n 0, 1) := by decide +kernel
theorem dX12_init_808 : decode cX12_init 808 = .ok (.iconst 2, 1) := by decide +kernel
theorem dX12_init_809 : decode cX12_init 809 = .ok (.newarray .int, 2) := by decide +kernel
theorem dX12_init_811 : decode cX12_init 811 = .ok (.putfield 31, 3) := by decide +kernel
theorem dX12_init_814 : decode cX12_init 814 = .ok (.aload_n 0, 1) := by decide +kernel
theorem dX12_init_815 : decode cX12_init 815 = .ok (.bipush 48, 2) := by decide +kernel
theorem dX12_init_817 : decode cX12_init 817 = .ok (.newarray .int, 2) := by decide +kernel
theorem dX12_init_819 : decode cX12_init 819 = .ok (.putfield 34, 3) := by decide +kernel
theorem dX12_init_822 : decode cX12_init 822 = .ok (.aload_n 0, 1) := by decide +kernel
theorem dX12_init_823 : decode cX12_init 823 = .ok (.bipush 48, 2) := by decide +kernel
theorem dX12_init_825 : decode cX12_init 825 = .ok (.newarray .int, 2) := by decide +kernel
theorem dX12_init_827 : decode cX12_init 827 = .ok (.putfield 37, 3) := by decide +kernel
theorem dX12_init_830 : decode cX12_init 830 = .ok (.aload_n 0, 1) := by decide +kernel
theorem dX12_init_831 : decode cX12_init 831 = .ok (.bipush 48, 2) := by decide +kernel
theorem dX12_init_833 : decode cX12_init 833 = .ok (.newarray .int, 2) := by decide +kernel
theorem dX12_init_835 : decode cX12_init 835 = .ok (.putfield 40, 3) := by decide +kernel
theorem dX12_init_838 : decode cX12_init 838 = .ok (.aload_n 0, 1) := by decide +kernel
theorem dX12_init_839 : decode cX12_init 839 = .ok (.bipush 48, 2) := by decide +kernel
theorem dX12_init_841 : decode cX12_init 841 = .ok (.newarray .int, 2) := by decide +kernel
theorem dX12_init_843 : decode cX12_init 843 = .ok (.putfield 43, 3) := by decide +kernel
theorem dX12_init_846 : decode cX12_init 846 = .ok (.aload_n 0, 1) := by decide +kernel
theorem dX12_init_847 : decode cX12_init 847 = .ok (.sipush 1200, 3) := by decide +kernel
theorem dX12_init_850 : decode cX12_init 850 = .ok (.newarray .int, 2) := by decide +kernel
theorem dX12_init_852 : decode cX12_init 852 = .ok (.putfield 46, 3) := by decide +kernel
theorem dX12_init_855 : decode cX12_init 855 = .ok (.aload_n 0, 1) := by decide +kernel
theorem dX12_init_856 : decode cX12_init 856 = .ok (.sipush 1200, 3) := by decide +kernel
theorem dX12_init_859 : decode cX12_init 859 = .ok (.newarray .int, 2) := by decide +kernel
theorem dX12_init_861 : decode cX12_init 861 = .ok (.putfield 49, 3) := by decide +kernel
theorem dX12_init_864 : decode cX12_init 864 = .ok (.aload_n 0, 1) := by decide +kernel
theorem dX12_init_865 : decode cX12_init 865 = .ok (.bipush 40, 2) := by decide +kernel
theorem dX12_init_867 : decode cX12_init 867 = .ok (.newarray .int, 2) := by decide +kernel
theorem dX12_init_869 : decode cX12_init 869 = .ok (.putfield 52, 3) := by decide +kernel
theorem dX12_init_872 : decode cX12_init 872 = .ok (.aload_n 0, 1) := by decide +kernel
theorem dX12_init_873 : decode cX12_init 873 = .ok (.iconst (-1), 1) := by decide +kernel
theorem dX12_init_874 : decode cX12_init 874 = .ok (.putfield 55, 3) := by decide +kernel
theorem dX12_init_877 : decode cX12_init 877 = .ok (.aload_n 0, 1) := by decide +kernel
theorem dX12_init_878 : decode cX12_init 878 = .ok (.bipush 64, 2) := by decide +kernel
theorem dX12_init_880 : decode cX12_init 880 = .ok (.newarray .int, 2) := by decide +kernel
theorem dX12_init_882 : decode cX12_init 882 = .ok (.putfield 59, 3) := by decide +kernel
theorem dX12_init_885 : decode cX12_init 885 = .ok (.aload_n 0, 1) := by decide +kernel
theorem dX12_init_886 : decode cX12_init 886 = .ok (.sipush 128, 3) := by decide +kernel
theorem dX12_init_889 : decode cX12_init 889 = .ok (.newarray .int, 2) := by decide +kernel
theorem dX12_init_891 : decode cX12_init 891 = .ok (.putfield 62, 3) := by decide +kernel
theorem dX12_init_894 : decode cX12_init 894 = .ok (.aload_n 0, 1) := by decide +kernel
theorem dX12_init_895 : decode cX12_init 895 = .ok (.bipush 64, 2) := by decide +kernel
theorem dX12_init_897 : decode cX12_init 897 = .ok (.newarray .int, 2) := by decide +kernel
theorem dX12_init_899 : decode cX12_init 899 = .ok (.putfield 65, 3) := by decide +kernel
theorem dX12_init_902 : decode cX12_init 902 = .ok (.aload_n 0, 1) := by decide +kernel
theorem dX12_init_903 : decode cX12_init 903 = .ok (.bipush 9, 2) := by decide +kernel
theorem dX12_init_905 : decode cX12_init 905 = .ok (.newarray .int, 2) := by decide +kernel
theorem dX12_init_907 : decode cX12_init 907 = .ok (.putfield 68, 3) := by decide +kernel
theorem dX12_init_910 : decode cX12_init 910 = .ok (.aload_n 0, 1) := by decide +kernel
theorem dX12_init_911 : decode cX12_init 911 = .ok (.sipush 420, 3) := by decide +kernel
theorem dX12_init_914 : decode cX12_init 914 = .ok (.newarray .int, 2) := by decide +kernel
theorem dX12_init_916 : decode cX12_init 916 = .ok (.putfield 71, 3) := by decide +kernel
theorem dX12_init_919 : decode cX12_init 919 = .ok (.aload_n 0, 1) := by decide +kernel
theorem dX12_init_920 : decode cX12_init 920 = .ok (.bipush 7, 2) := by decide +kernel
theorem dX12_init_922 : decode cX12_init 922 = .ok (.newarray .int, 2) := by decide +kernel
theorem dX12_init_924 : decode cX12_init 924 = .ok (.putfield 74, 3) := by decide +kernel
theorem dX12_init_927 : decode cX12_init 927 = .ok (.aload_n 0, 1) := by decide +kernel
theorem dX12_init_928 : decode cX12_init 928 = .ok (.bipush 7, 2) := by decide +kernel
theorem dX12_init_930 : decode cX12_init 930 = .ok (.newarray .int, 2) := by decide +kernel
theorem dX12_init_932 : decode cX12_init 932 = .ok (.putfield 77, 3) := by decide +kernel
theorem dX12_init_935 : decode cX12_init 935 = .ok (.aload_n 0, 1) := by decide +kernel
theorem dX12_init_936 : decode cX12_init 936 = .ok (.bipush 10, 2) := by decide +kernel
theorem dX12_init_938 : decode cX12_init 938 = .ok (.newarray .int, 2) := by decide +kernel
theorem dX12_init_940 : decode cX12_init 940 = .ok (.putfield 80, 3) := by decide +kernel
theorem dX12_init_943 : decode cX12_init 943 = .ok (.aload_n 0, 1) := by decide +kernel
theorem dX12_init_944 : decode cX12_init 944 = .ok (.bipush 10, 2) := by decide +kernel
theorem dX12_init_946 : decode cX12_init 946 = .ok (.newarray .int, 2) := by decide +kernel
theorem dX12_init_948 : decode cX12_init 948 = .ok (.putfield 83, 3) := by decide +kernel
theorem dX12_init_951 : decode cX12_init 951 = .ok (.aload_n 0, 1) := by decide +kernel
theorem dX12_init_952 : decode cX12_init 952 = .ok (.sipush 2100, 3) := by decide +kernel
theorem dX12_init_955 : decode cX12_init 955 = .ok (.newarray .int, 2) := by decide +kernel
theorem dX12_init_957 : decode cX12_init 957 = .ok (.putfield 86, 3) := by decide +kernel
theorem dX12_init_960 : decode cX12_init 960 = .ok (.return_, 1) := by decide +kernel
theorem dX12_isIn_0 : decode cX12_isIn 0 = .ok (.iload_n 1, 1) := by decide +kernel
theorem dX12_isIn_1 : decode cX12_isIn 1 = .ok (.iload_n 2, 1) := by decide +kernel
theorem dX12_isIn_2 : decode cX12_isIn 2 = .ok (.if_icmp .lt 12, 3) := by decide +kernel
theorem dX12_isIn_5 : decode cX12_isIn 5 = .ok (.iload_n 1, 1) := by decide +kernel
theorem dX12_isIn_6 : decode cX12_isIn 6 = .ok (.iload_n 3, 1) := by decide +kernel
theorem dX12_isIn_7 : decode cX12_isIn 7 = .ok (.if_icmp .gt 7, 3) := by decide +kernel
theorem dX12_isIn_10 : decode cX12_isIn 10 = .ok (.iconst 1, 1) := by decide +kernel
theorem dX12_isIn_11 : decode cX12_isIn 11 = .ok (.goto 4, 3) := by decide +kernel
theorem dX12_isIn_14 : decode cX12_isIn 14 = .ok (.iconst 0, 1) := by decide +kernel
theorem dX12_isIn_15 : decode cX12_isIn 15 = .ok (.ireturn, 1) := by decide +kernel
theorem dX12_held_0 : decode cX12_held 0 = .ok (.iload_n 1, 1) := by decide +kernel
theorem dX12_held_1 : decode cX12_held 1 = .ok (.iload_n 2, 1) := by decide +kernel
theorem dX12_held_2 : decode cX12_held 2 = .ok (.if_icmp .ge 7, 3) := by decide +kernel
theorem dX12_held_5 : decode cX12_held 5 = .ok (.iload_n 2, 1) := by decide +kernel
theorem dX12_held_6 : decode cX12_held 6 = .ok (.goto 13, 3) := by decide +kernel
theorem dX12_held_9 : decode cX12_held 9 = .ok (.iload_n 1, 1) := by decide +kernel
theorem dX12_held_10 : decode cX12_held 10 = .ok (.iload_n 3, 1) := by decide +kernel
theorem dX12_held_11 : decode cX12_held 11 = .ok (.if_icmp .le 7, 3) := by decide +kernel
theorem dX12_held_14 : decode cX12_held 14 = .ok (.iload_n 3, 1) := by decide +kernel
theorem dX12_held_15 : decode cX12_held 15 = .ok (.goto 4, 3) := by decide +kernel
theorem dX12_held_18 : decode cX12_held 18 = .ok (.iload_n 1, 1) := by decide +kernel
theorem dX12_held_19 : decode cX12_held 19 = .ok (.ireturn, 1) := by decide +kernel
theorem dX12_greater_0 : decode cX12_greater 0 = .ok (.iload_n 1, 1) := by decide +kernel
theorem dX12_greater_1 : decode cX12_greater 1 = .ok (.iload_n 2, 1) := by decide +kernel
theorem dX12_greater_2 : decode cX12_greater 2 = .ok (.if_icmp .le 7, 3) := by decide +kernel
theorem dX12_greater_5 : decode cX12_greater 5 = .ok (.iload_n 1, 1) := by decide +kernel
theorem dX12_greater_6 : decode cX12_greater 6 = .ok (.goto 4, 3) := by decide +kernel
theorem dX12_greater_9 : decode cX12_greater 9 = .ok (.iload_n 2, 1) := by decide +kernel
theorem dX12_greater_10 : decode cX12_greater 10 = .ok (.ireturn, 1) := by decide +kernel
theorem dX12_lesser_0 : decode cX12_lesser 0 = .ok (.iload_n 1, 1) := by decide +kernel
theorem dX12_lesser_1 : decode cX12_lesser 1 = .ok (.iload_n 2, 1) := by decide +kernel
theorem dX12_lesser_2 : decode cX12_lesser 2 = .ok (.if_icmp .ge 7, 3) := by decide +kernel
theorem dX12_lesser_5 : decode cX12_lesser 5 = .ok (.iload_n 1, 1) := by decide +kernel
theorem dX12_lesser_6 : decode cX12_lesser 6 = .ok (.goto 4, 3) := by decide +kernel
theorem dX12_lesser_9 : decode cX12_lesser 9 = .ok (.iload_n 2, 1) := by decide +kernel
theorem dX12_lesser_10 : decode cX12_lesser 10 = .ok (.ireturn, 1) := by decide +kernel
theorem dX12_far_0 : decode cX12_far 0 = .ok (.iload_n 1, 1) := by decide +kernel
theorem dX12_far_1 : decode cX12_far 1 = .ok (.iload_n 2, 1) := by decide +kernel
theorem dX12_far_2 : decode cX12_far 2 = .ok (.if_icmp .le 9, 3) := by decide +kernel
theorem dX12_far_5 : decode cX12_far 5 = .ok (.iload_n 1, 1) := by decide +kernel
theorem dX12_far_6 : decode cX12_far 6 = .ok (.iload_n 2, 1) := by decide +kernel
theorem dX12_far_7 : decode cX12_far 7 = .ok (.isub, 1) := by decide +kernel
theorem dX12_far_8 : decode cX12_far 8 = .ok (.goto 6, 3) := by decide +kernel
theorem dX12_far_11 : decode cX12_far 11 = .ok (.iload_n 2, 1) := by decide +kernel
theorem dX12_far_12 : decode cX12_far 12 = .ok (.iload_n 1, 1) := by decide +kernel
theorem dX12_far_13 : decode cX12_far 13 = .ok (.isub, 1) := by decide +kernel
theorem dX12_far_14 : decode cX12_far 14 = .ok (.ireturn, 1) := by decide +kernel
theorem dX12_partOf_0 : decode cX12_partOf 0 = .ok (.iload_n 1, 1) := by decide +kernel
theorem dX12_partOf_1 : decode cX12_partOf 1 = .ok (.ifCond .lt 9, 3) := by decide +kernel
theorem dX12_partOf_4 : decode cX12_partOf 4 = .ok (.iload_n 1, 1) := by decide +kernel
theorem dX12_partOf_5 : decode cX12_partOf 5 = .ok (.iload_n 2, 1) := by decide +kernel
theorem dX12_partOf_6 : decode cX12_partOf 6 = .ok (.idiv, 1) := by decide +kernel
theorem dX12_partOf_7 : decode cX12_partOf 7 = .ok (.goto 11, 3) := by decide +kernel
theorem dX12_partOf_10 : decode cX12_partOf 10 = .ok (.iload_n 2, 1) := by decide +kernel
theorem dX12_partOf_11 : decode cX12_partOf 11 = .ok (.iconst 1, 1) := by decide +kernel
theorem dX12_partOf_12 : decode cX12_partOf 12 = .ok (.isub, 1) := by decide +kernel
theorem dX12_partOf_13 : decode cX12_partOf 13 = .ok (.iload_n 1, 1) := by decide +kernel
theorem dX12_partOf_14 : decode cX12_partOf 14 = .ok (.isub, 1) := by decide +kernel
theorem dX12_partOf_15 : decode cX12_partOf 15 = .ok (.iload_n 2, 1) := by decide +kernel
theorem dX12_partOf_16 : decode cX12_partOf 16 = .ok (.idiv, 1) := by decide +kernel
theorem dX12_partOf_17 : decode cX12_partOf 17 = .ok (.ineg, 1) := by decide +kernel
theorem dX12_partOf_18 : decode cX12_partOf 18 = .ok (.ireturn, 1) := by decide +kernel
theorem dX12_onesOf_0 : decode cX12_onesOf 0 = .ok (.iconst 0, 1) := by decide +kernel
theorem dX12_onesOf_1 : decode cX12_onesOf 1 = .ok (.istore_n 2, 1) := by decide +kernel
theorem dX12_onesOf_2 : decode cX12_onesOf 2 = .ok (.iload_n 1, 1) := by decide +kernel
theorem dX12_onesOf_3 : decode cX12_onesOf 3 = .ok (.istore_n 3, 1) := by decide +kernel
theorem dX12_onesOf_4 : decode cX12_onesOf 4 = .ok (.iload_n 3, 1) := by decide +kernel
theorem dX12_onesOf_5 : decode cX12_onesOf 5 = .ok (.ifCond .eq 16, 3) := by decide +kernel
theorem dX12_onesOf_8 : decode cX12_onesOf 8 = .ok (.iload_n 2, 1) := by decide +kernel
theorem dX12_onesOf_9 : decode cX12_onesOf 9 = .ok (.iconst 1, 1) := by decide +kernel
theorem dX12_onesOf_10 : decode cX12_onesOf 10 = .ok (.iadd, 1) := by decide +kernel
theorem dX12_onesOf_11 : decode cX12_onesOf 11 = .ok (.istore_n 2, 1) := by decide +kernel
theorem dX12_onesOf_12 : decode cX12_onesOf 12 = .ok (.iload_n 3, 1) := by decide +kernel
theorem dX12_onesOf_13 : decode cX12_onesOf 13 = .ok (.iload_n 3, 1) := by decide +kernel
theorem dX12_onesOf_14 : decode cX12_onesOf 14 = .ok (.iconst 1, 1) := by decide +kernel
theorem dX12_onesOf_15 : decode cX12_onesOf 15 = .ok (.isub, 1) := by decide +kernel
theorem dX12_onesOf_16 : decode cX12_onesOf 16 = .ok (.iand, 1) := by decide +kernel
theorem dX12_onesOf_17 : decode cX12_onesOf 17 = .ok (.istore_n 3, 1) := by decide +kernel
theorem dX12_onesOf_18 : decode cX12_onesOf 18 = .ok (.goto (-14), 3) := by decide +kernel
theorem dX12_onesOf_21 : decode cX12_onesOf 21 = .ok (.iload_n 2, 1) := by decide +kernel
theorem dX12_onesOf_22 : decode cX12_onesOf 22 = .ok (.ireturn, 1) := by decide +kernel
theorem dX12_has_0 : decode cX12_has 0 = .ok (.iload_n 1, 1) := by decide +kernel
theorem dX12_has_1 : decode cX12_has 1 = .ok (.iload_n 2, 1) := by decide +kernel
theorem dX12_has_2 : decode cX12_has 2 = .ok (.ishr, 1) := by decide +kernel
theorem dX12_has_3 : decode cX12_has 3 = .ok (.iconst 1, 1) := by decide +kernel
theorem dX12_has_4 : decode cX12_has 4 = .ok (.iand, 1) := by decide +kernel
theorem dX12_has_5 : decode cX12_has 5 = .ok (.iconst 1, 1) := by decide +kernel
theorem dX12_has_6 : decode cX12_has 6 = .ok (.if_icmp .ne 7, 3) := by decide +kernel
theorem dX12_has_9 : decode cX12_has 9 = .ok (.iconst 1, 1) := by decide +kernel
theorem dX12_has_10 : decode cX12_has 10 = .ok (.goto 4, 3) := by decide +kernel
theorem dX12_has_13 : decode cX12_has 13 = .ok (.iconst 0, 1) := by decide +kernel
theorem dX12_has_14 : decode cX12_has 14 = .ok (.ireturn, 1) := by decide +kernel
theorem dX12_keepsAhead_0 : decode cX12_keepsAhead 0 = .ok (.aload_n 0, 1) := by decide +kernel
theorem dX12_keepsAhead_1 : decode cX12_keepsAhead 1 = .ok (.getfield 92, 3) := by decide +kernel
theorem dX12_keepsAhead_4 : decode cX12_keepsAhead 4 = .ok (.bipush 6, 2) := by decide +kernel
theorem dX12_keepsAhead_6 : decode cX12_keepsAhead 6 = .ok (.if_icmp .ne 47, 3) := by decide +kernel
theorem dX12_keepsAhead_9 : decode cX12_keepsAhead 9 = .ok (.aload_n 0, 1) := by decide +kernel
theorem dX12_keepsAhead_10 : decode cX12_keepsAhead 10 = .ok (.aload_n 0, 1) := by decide +kernel
theorem dX12_keepsAhead_11 : decode cX12_keepsAhead 11 = .ok (.getfield 92, 3) := by decide +kernel
theorem dX12_keepsAhead_14 : decode cX12_keepsAhead 14 = .ok (.iconst 1, 1) := by decide +kernel
theorem dX12_keepsAhead_15 : decode cX12_keepsAhead 15 = .ok (.isub, 1) := by decide +kernel
theorem dX12_keepsAhead_16 : decode cX12_keepsAhead 16 = .ok (.putfield 92, 3) := by decide +kernel
theorem dX12_keepsAhead_19 : decode cX12_keepsAhead 19 = .ok (.iconst 0, 1) := by decide +kernel
theorem dX12_keepsAhead_20 : decode cX12_keepsAhead 20 = .ok (.istore_n 1, 1) := by decide +kernel
theorem dX12_keepsAhead_21 : decode cX12_keepsAhead 21 = .ok (.iload_n 1, 1) := by decide +kernel
theorem dX12_keepsAhead_22 : decode cX12_keepsAhead 22 = .ok (.bipush 107, 2) := by decide +kernel
theorem dX12_keepsAhead_24 : decode cX12_keepsAhead 24 = .ok (.aload_n 0, 1) := by decide +kernel
theorem dX12_keepsAhead_25 : decode cX12_keepsAhead 25 = .ok (.getfield 92, 3) := by decide +kernel
theorem dX12_keepsAhead_28 : decode cX12_keepsAhead 28 = .ok (.imul, 1) := by decide +kernel
theorem dX12_keepsAhead_29 : decode cX12_keepsAhead 29 = .ok (.if_icmp .ge 24, 3) := by decide +kernel
theorem dX12_keepsAhead_32 : decode cX12_keepsAhead 32 = .ok (.aload_n 0, 1) := by decide +kernel
theorem dX12_keepsAhead_33 : decode cX12_keepsAhead 33 = .ok (.getfield 13, 3) := by decide +kernel
theorem dX12_keepsAhead_36 : decode cX12_keepsAhead 36 = .ok (.iload_n 1, 1) := by decide +kernel
theorem dX12_keepsAhead_37 : decode cX12_keepsAhead 37 = .ok (.aload_n 0, 1) := by decide +kernel
theorem dX12_keepsAhead_38 : decode cX12_keepsAhead 38 = .ok (.getfield 13, 3) := by decide +kernel
theorem dX12_keepsAhead_41 : decode cX12_keepsAhead 41 = .ok (.iload_n 1, 1) := by decide +kernel
theorem dX12_keepsAhead_42 : decode cX12_keepsAhead 42 = .ok (.bipush 107, 2) := by decide +kernel
theorem dX12_keepsAhead_44 : decode cX12_keepsAhead 44 = .ok (.iadd, 1) := by decide +kernel
theorem dX12_keepsAhead_45 : decode cX12_keepsAhead 45 = .ok (.iaload, 1) := by decide +kernel
theorem dX12_keepsAhead_46 : decode cX12_keepsAhead 46 = .ok (.iastore, 1) := by decide +kernel
theorem dX12_keepsAhead_47 : decode cX12_keepsAhead 47 = .ok (.iinc 1 1, 3) := by decide +kernel
theorem dX12_keepsAhead_50 : decode cX12_keepsAhead 50 = .ok (.goto (-29), 3) := by decide +kernel
theorem dX12_keepsAhead_53 : decode cX12_keepsAhead 53 = .ok (.iconst 0, 1) := by decide +kernel
theorem dX12_keepsAhead_54 : decode cX12_keepsAhead 54 = .ok (.istore_n 1, 1) := by decide +kernel
theorem dX12_keepsAhead_55 : decode cX12_keepsAhead 55 = .ok (.iload_n 1, 1) := by decide +kernel
theorem dX12_keepsAhead_56 : decode cX12_keepsAhead 56 = .ok (.bipush 107, 2) := by decide +kernel
theorem dX12_keepsAhead_58 : decode cX12_keepsAhead 58 = .ok (.if_icmp .ge 29, 3) := by decide +kernel
theorem dX12_keepsAhead_61 : decode cX12_keepsAhead 61 = .ok (.aload_n 0, 1) := by decide +kernel
theorem dX12_keepsAhead_62 : decode cX12_keepsAhead 62 = .ok (.getfield 13, 3) := by decide +kernel
theorem dX12_keepsAhead_65 : decode cX12_keepsAhead 65 = .ok (.bipush 107, 2) := by decide +kernel
theorem dX12_keepsAhead_67 : decode cX12_keepsAhead 67 = .ok (.aload_n 0, 1) := by decide +kernel
theorem dX12_keepsAhead_68 : decode cX12_keepsAhead 68 = .ok (.getfield 92, 3) := by decide +kernel
theorem dX12_keepsAhead_71 : decode cX12_keepsAhead 71 = .ok (.imul, 1) := by decide +kernel
theorem dX12_keepsAhead_72 : decode cX12_keepsAhead 72 = .ok (.iload_n 1, 1) := by decide +kernel
theorem dX12_keepsAhead_73 : decode cX12_keepsAhead 73 = .ok (.iadd, 1) := by decide +kernel
theorem dX12_keepsAhead_74 : decode cX12_keepsAhead 74 = .ok (.aload_n 0, 1) := by decide +kernel
theorem dX12_keepsAhead_75 : decode cX12_keepsAhead 75 = .ok (.getfield 7, 3) := by decide +kernel
theorem dX12_keepsAhead_78 : decode cX12_keepsAhead 78 = .ok (.iload_n 1, 1) := by decide +kernel
theorem dX12_keepsAhead_79 : decode cX12_keepsAhead 79 = .ok (.iaload, 1) := by decide +kernel
theorem dX12_keepsAhead_80 : decode cX12_keepsAhead 80 = .ok (.iastore, 1) := by decide +kernel
theorem dX12_keepsAhead_81 : decode cX12_keepsAhead 81 = .ok (.iinc 1 1, 3) := by decide +kernel
theorem dX12_keepsAhead_84 : decode cX12_keepsAhead 84 = .ok (.goto (-29), 3) := by decide +kernel
theorem dX12_keepsAhead_87 : decode cX12_keepsAhead 87 = .ok (.aload_n 0, 1) := by decide +kernel
theorem dX12_keepsAhead_88 : decode cX12_keepsAhead 88 = .ok (.aload_n 0, 1) := by decide +kernel
theorem dX12_keepsAhead_89 : decode cX12_keepsAhead 89 = .ok (.getfield 92, 3) := by decide +kernel
theorem dX12_keepsAhead_92 : decode cX12_keepsAhead 92 = .ok (.iconst 1, 1) := by decide +kernel
theorem dX12_keepsAhead_93 : decode cX12_keepsAhead 93 = .ok (.iadd, 1) := by decide +kernel
theorem dX12_keepsAhead_94 : decode cX12_keepsAhead 94 = .ok (.putfield 92, 3) := by decide +kernel
theorem dX12_keepsAhead_97 : decode cX12_keepsAhead 97 = .ok (.return_, 1) := by decide +kernel
theorem dX12_undo_0 : decode cX12_undo 0 = .ok (.aload_n 0, 1) := by decide +kernel
theorem dX12_undo_1 : decode cX12_undo 1 = .ok (.iconst 0, 1) := by decide +kernel
theorem dX12_undo_2 : decode cX12_undo 2 = .ok (.putfield 89, 3) := by decide +kernel
theorem dX12_undo_5 : decode cX12_undo 5 = .ok (.aload_n 0, 1) := by decide +kernel
theorem dX12_undo_6 : decode cX12_undo 6 = .ok (.getfield 92, 3) := by decide +kernel
theorem dX12_undo_9 : decode cX12_undo 9 = .ok (.ifCond .ne 5, 3) := by decide +kernel
theorem dX12_undo_12 : decode cX12_undo 12 = .ok (.iconst 0, 1) := by decide +kernel
theorem dX12_undo_13 : decode cX12_undo 13 = .ok (.ireturn, 1) := by decide +kernel
theorem dX12_undo_14 : decode cX12_undo 14 = .ok (.aload_n 0, 1) := by decide +kernel
theorem dX12_undo_15 : decode cX12_undo 15 = .ok (.aload_n 0, 1) := by decide +kernel
theorem dX12_undo_16 : decode cX12_undo 16 = .ok (.getfield 92, 3) := by decide +kernel
theorem dX12_undo_19 : decode cX12_undo 19 = .ok (.iconst 1, 1) := by decide +kernel
theorem dX12_undo_20 : decode cX12_undo 20 = .ok (.isub, 1) := by decide +kernel
theorem dX12_undo_21 : decode cX12_undo 21 = .ok (.putfield 92, 3) := by decide +kernel
theorem dX12_undo_24 : decode cX12_undo 24 = .ok (.iconst 0, 1) := by decide +kernel
theorem dX12_undo_25 : decode cX12_undo 25 = .ok (.istore_n 1, 1) := by decide +kernel
theorem dX12_undo_26 : decode cX12_undo 26 = .ok (.iload_n 1, 1) := by decide +kernel
theorem dX12_undo_27 : decode cX12_undo 27 = .ok (.bipush 107, 2) := by decide +kernel
theorem dX12_undo_29 : decode cX12_undo 29 = .ok (.if_icmp .ge 29, 3) := by decide +kernel
theorem dX12_undo_32 : decode cX12_undo 32 = .ok (.aload_n 0, 1) := by decide +kernel
theorem dX12_undo_33 : decode cX12_undo 33 = .ok (.getfield 7, 3) := by decide +kernel
theorem dX12_undo_36 : decode cX12_undo 36 = .ok (.iload_n 1, 1) := by decide +kernel
theorem dX12_undo_37 : decode cX12_undo 37 = .ok (.aload_n 0, 1) := by decide +kernel
theorem dX12_undo_38 : decode cX12_undo 38 = .ok (.getfield 13, 3) := by decide +kernel
theorem dX12_undo_41 : decode cX12_undo 41 = .ok (.bipush 107, 2) := by decide +kernel
theorem dX12_undo_43 : decode cX12_undo 43 = .ok (.aload_n 0, 1) := by decide +kernel
theorem dX12_undo_44 : decode cX12_undo 44 = .ok (.getfield 92, 3) := by decide +kernel
theorem dX12_undo_47 : decode cX12_undo 47 = .ok (.imul, 1) := by decide +kernel
theorem dX12_undo_48 : decode cX12_undo 48 = .ok (.iload_n 1, 1) := by decide +kernel
theorem dX12_undo_49 : decode cX12_undo 49 = .ok (.iadd, 1) := by decide +kernel
theorem dX12_undo_50 : decode cX12_undo 50 = .ok (.iaload, 1) := by decide +kernel
theorem dX12_undo_51 : decode cX12_undo 51 = .ok (.iastore, 1) := by decide +kernel
theorem dX12_undo_52 : decode cX12_undo 52 = .ok (.iinc 1 1, 3) := by decide +kernel
theorem dX12_undo_55 : decode cX12_undo 55 = .ok (.goto (-29), 3) := by decide +kernel
theorem dX12_undo_58 : decode cX12_undo 58 = .ok (.iconst 1, 1) := by decide +kernel
theorem dX12_undo_59 : decode cX12_undo 59 = .ok (.ireturn, 1) := by decide +kernel
theorem dX12_thinks_0 : decode cX12_thinks 0 = .ok (.iconst 0, 1) := by decide +kernel
theorem dX12_thinks_1 : decode cX12_thinks 1 = .ok (.istore_n 1, 1) := by decide +kernel
theorem dX12_thinks_2 : decode cX12_thinks 2 = .ok (.iload_n 1, 1) := by decide +kernel
theorem dX12_thinks_3 : decode cX12_thinks 3 = .ok (.bipush 107, 2) := by decide +kernel
theorem dX12_thinks_5 : decode cX12_thinks 5 = .ok (.if_icmp .ge 21, 3) := by decide +kernel
theorem dX12_thinks_8 : decode cX12_thinks 8 = .ok (.aload_n 0, 1) := by decide +kernel
theorem dX12_thinks_9 : decode cX12_thinks 9 = .ok (.getfield 16, 3) := by decide +kernel
theorem dX12_thinks_12 : decode cX12_thinks 12 = .ok (.iload_n 1, 1) := by decide +kernel
theorem dX12_thinks_13 : decode cX12_thinks 13 = .ok (.aload_n 0, 1) := by decide +kernel
theorem dX12_thinks_14 : decode cX12_thinks 14 = .ok (.getfield 7, 3) := by decide +kernel
theorem dX12_thinks_17 : decode cX12_thinks 17 = .ok (.iload_n 1, 1) := by decide +kernel
theorem dX12_thinks_18 : decode cX12_thinks 18 = .ok (.iaload, 1) := by decide +kernel
theorem dX12_thinks_19 : decode cX12_thinks 19 = .ok (.iastore, 1) := by decide +kernel
theorem dX12_thinks_20 : decode cX12_thinks 20 = .ok (.iinc 1 1, 3) := by decide +kernel
theorem dX12_thinks_23 : decode cX12_thinks 23 = .ok (.goto (-21), 3) := by decide +kernel
theorem dX12_thinks_26 : decode cX12_thinks 26 = .ok (.aload_n 0, 1) := by decide +kernel
theorem dX12_thinks_27 : decode cX12_thinks 27 = .ok (.iconst 1, 1) := by decide +kernel
theorem dX12_thinks_28 : decode cX12_thinks 28 = .ok (.putfield 95, 3) := by decide +kernel
theorem dX12_thinks_31 : decode cX12_thinks 31 = .ok (.return_, 1) := by decide +kernel
theorem dX12_endsThought_0 : decode cX12_endsThought 0 = .ok (.iconst 0, 1) := by decide +kernel
theorem dX12_endsThought_1 : decode cX12_endsThought 1 = .ok (.istore_n 1, 1) := by decide +kernel
theorem dX12_endsThought_2 : decode cX12_endsThought 2 = .ok (.iload_n 1, 1) := by decide +kernel
theorem dX12_endsThought_3 : decode cX12_endsThought 3 = .ok (.bipush 107, 2) := by decide +kernel
theorem dX12_endsThought_5 : decode cX12_endsThought 5 = .ok (.if_icmp .ge 21, 3) := by decide +kernel
theorem dX12_endsThought_8 : decode cX12_endsThought 8 = .ok (.aload_n 0, 1) := by decide +kernel
theorem dX12_endsThought_9 : decode cX12_endsThought 9 = .ok (.getfield 7, 3) := by decide +kernel
theorem dX12_endsThought_12 : decode cX12_endsThought 12 = .ok (.iload_n 1, 1) := by decide +kernel
theorem dX12_endsThought_13 : decode cX12_endsThought 13 = .ok (.aload_n 0, 1) := by decide +kernel
theorem dX12_endsThought_14 : decode cX12_endsThought 14 = .ok (.getfield 16, 3) := by decide +kernel
theorem dX12_endsThought_17 : decode cX12_endsThought 17 = .ok (.iload_n 1, 1) := by decide +kernel
theorem dX12_endsThought_18 : decode cX12_endsThought 18 = .ok (.iaload, 1) := by decide +kernel
theorem dX12_endsThought_19 : decode cX12_endsThought 19 = .ok (.iastore, 1) := by decide +kernel
theorem dX12_endsThought_20 : decode cX12_endsThought 20 = .ok (.iinc 1 1, 3) := by decide +kernel
theorem dX12_endsThought_23 : decode cX12_endsThought 23 = .ok (.goto (-21), 3) := by decide +kernel
theorem dX12_endsThought_26 : decode cX12_endsThought 26 = .ok (.aload_n 0, 1) := by decide +kernel
theorem dX12_endsThought_27 : decode cX12_endsThought 27 = .ok (.iconst 0, 1) := by decide +kernel
theorem dX12_endsThought_28 : decode cX12_endsThought 28 = .ok (.putfield 95, 3) := by decide +kernel
theorem dX12_endsThought_31 : decode cX12_endsThought 31 = .ok (.return_, 1) := by decide +kernel
theorem dX12_state_0 : decode cX12_state 0 = .ok (.aload_n 0, 1) := by decide +kernel
theorem dX12_state_1 : decode cX12_state 1 = .ok (.iconst 0, 1) := by decide +kernel
theorem dX12_state_2 : decode cX12_state 2 = .ok (.putfield 89, 3) := by decide +kernel
theorem dX12_state_5 : decode cX12_state 5 = .ok (.aload_n 0, 1) := by decide +kernel
theorem dX12_state_6 : decode cX12_state 6 = .ok (.getfield 7, 3) := by decide +kernel
theorem dX12_state_9 : decode cX12_state 9 = .ok (.iconst 1, 1) := by decide +kernel
theorem dX12_state_10 : decode cX12_state 10 = .ok (.iaload, 1) := by decide +kernel
theorem dX12_state_11 : decode cX12_state 11 = .ok (.istore_n 2, 1) := by decide +kernel
theorem dX12_state_12 : decode cX12_state 12 = .ok (.aload_n 0, 1) := by decide +kernel
theorem dX12_state_13 : decode cX12_state 13 = .ok (.getfield 7, 3) := by decide +kernel
theorem dX12_state_16 : decode cX12_state 16 = .ok (.iconst 1, 1) := by decide +kernel
theorem dX12_state_17 : decode cX12_state 17 = .ok (.iload_n 1, 1) := by decide +kernel
theorem dX12_state_18 : decode cX12_state 18 = .ok (.iastore, 1) := by decide +kernel
theorem dX12_state_19 : decode cX12_state 19 = .ok (.aload_n 0, 1) := by decide +kernel
theorem dX12_state_20 : decode cX12_state 20 = .ok (.iconst 0, 1) := by decide +kernel
theorem dX12_state_21 : decode cX12_state 21 = .ok (.putfield 92, 3) := by decide +kernel
theorem dX12_state_24 : decode cX12_state 24 = .ok (.iload_n 2, 1) := by decide +kernel
theorem dX12_state_25 : decode cX12_state 25 = .ok (.ireturn, 1) := by decide +kernel
theorem dX12_draw_0 : decode cX12_draw 0 = .ok (.aload_n 0, 1) := by decide +kernel
theorem dX12_draw_1 : decode cX12_draw 1 = .ok (.getfield 7, 3) := by decide +kernel
theorem dX12_draw_4 : decode cX12_draw 4 = .ok (.iconst 1, 1) := by decide +kernel
theorem dX12_draw_5 : decode cX12_draw 5 = .ok (.ldc 99, 2) := by decide +kernel
theorem dX12_draw_7 : decode cX12_draw 7 = .ok (.aload_n 0, 1) := by decide +kernel
theorem dX12_draw_8 : decode cX12_draw 8 = .ok (.getfield 7, 3) := by decide +kernel
theorem dX12_draw_11 : decode cX12_draw 11 = .ok (.iconst 1, 1) := by decide +kernel
theorem dX12_draw_12 : decode cX12_draw 12 = .ok (.iaload, 1) := by decide +kernel
theorem dX12_draw_13 : decode cX12_draw 13 = .ok (.imul, 1) := by decide +kernel
theorem dX12_draw_14 : decode cX12_draw 14 = .ok (.ldc 100, 2) := by decide +kernel
theorem dX12_draw_16 : decode cX12_draw 16 = .ok (.iadd, 1) := by decide +kernel
theorem dX12_draw_17 : decode cX12_draw 17 = .ok (.iastore, 1) := by decide +kernel
theorem dX12_draw_18 : decode cX12_draw 18 = .ok (.aload_n 0, 1) := by decide +kernel
theorem dX12_draw_19 : decode cX12_draw 19 = .ok (.getfield 7, 3) := by decide +kernel
theorem dX12_draw_22 : decode cX12_draw 22 = .ok (.iconst 1, 1) := by decide +kernel
theorem dX12_draw_23 : decode cX12_draw 23 = .ok (.iaload, 1) := by decide +kernel
theorem dX12_draw_24 : decode cX12_draw 24 = .ok (.bipush 8, 2) := by decide +kernel
theorem dX12_draw_26 : decode cX12_draw 26 = .ok (.iushr, 1) := by decide +kernel
theorem dX12_draw_27 : decode cX12_draw 27 = .ok (.iload_n 1, 1) := by decide +kernel
theorem dX12_draw_28 : decode cX12_draw 28 = .ok (.irem, 1) := by decide +kernel
theorem dX12_draw_29 : decode cX12_draw 29 = .ok (.ireturn, 1) := by decide +kernel
theorem dX12_isPillar_0 : decode cX12_isPillar 0 = .ok (.iload_n 1, 1) := by decide +kernel
theorem dX12_isPillar_1 : decode cX12_isPillar 1 = .ok (.ifCond .lt 15, 3) := by decide +kernel
theorem dX12_isPillar_4 : decode cX12_isPillar 4 = .ok (.iload_n 1, 1) := by decide +kernel
theorem dX12_isPillar_5 : decode cX12_isPillar 5 = .ok (.aload_n 0, 1) := by decide +kernel
theorem dX12_isPillar_6 : decode cX12_isPillar 6 = .ok (.getfield 101, 3) := by decide +kernel
theorem dX12_isPillar_9 : decode cX12_isPillar 9 = .ok (.if_icmp .ge 7, 3) := by decide +kernel
theorem dX12_isPillar_12 : decode cX12_isPillar 12 = .ok (.iconst 1, 1) := by decide +kernel
theorem dX12_isPillar_13 : decode cX12_isPillar 13 = .ok (.goto 4, 3) := by decide +kernel
theorem dX12_isPillar_16 : decode cX12_isPillar 16 = .ok (.iconst 0, 1) := by decide +kernel
theorem dX12_isPillar_17 : decode cX12_isPillar 17 = .ok (.ireturn, 1) := by decide +kernel
theorem dX12_isSaint_0 : decode cX12_isSaint 0 = .ok (.iload_n 1, 1) := by decide +kernel
theorem dX12_isSaint_1 : decode cX12_isSaint 1 = .ok (.ifCond .lt 15, 3) := by decide +kernel
theorem dX12_isSaint_4 : decode cX12_isSaint 4 = .ok (.iload_n 1, 1) := by decide +kernel
theorem dX12_isSaint_5 : decode cX12_isSaint 5 = .ok (.aload_n 0, 1) := by decide +kernel
theorem dX12_isSaint_6 : decode cX12_isSaint 6 = .ok (.getfield 104, 3) := by decide +kernel
theorem dX12_isSaint_9 : decode cX12_isSaint 9 = .ok (.if_icmp .ge 7, 3) := by decide +kernel
theorem dX12_isSaint_12 : decode cX12_isSaint 12 = .ok (.iconst 1, 1) := by decide +kernel
theorem dX12_isSaint_13 : decode cX12_isSaint 13 = .ok (.goto 4, 3) := by decide +kernel
theorem dX12_isSaint_16 : decode cX12_isSaint 16 = .ok (.iconst 0, 1) := by decide +kernel
theorem dX12_isSaint_17 : decode cX12_isSaint 17 = .ok (.ireturn, 1) := by decide +kernel
theorem dX12_sitterOf_0 : decode cX12_sitterOf 0 = .ok (.aload_n 0, 1) := by decide +kernel
theorem dX12_sitterOf_1 : decode cX12_sitterOf 1 = .ok (.getfield 7, 3) := by decide +kernel
theorem dX12_sitterOf_4 : decode cX12_sitterOf 4 = .ok (.bipush 73, 2) := by decide +kernel
theorem dX12_sitterOf_6 : decode cX12_sitterOf 6 = .ok (.iload_n 1, 1) := by decide +kernel
theorem dX12_sitterOf_7 : decode cX12_sitterOf 7 = .ok (.iadd, 1) := by decide +kernel
theorem dX12_sitterOf_8 : decode cX12_sitterOf 8 = .ok (.iaload, 1) := by decide +kernel
theorem dX12_sitterOf_9 : decode cX12_sitterOf 9 = .ok (.iconst 1, 1) := by decide +kernel
theorem dX12_sitterOf_10 : decode cX12_sitterOf 10 = .ok (.isub, 1) := by decide +kernel
theorem dX12_sitterOf_11 : decode cX12_sitterOf 11 = .ok (.ireturn, 1) := by decide +kernel
theorem dX12_pillarOf_0 : decode cX12_pillarOf 0 = .ok (.iconst 0, 1) := by decide +kernel
theorem dX12_pillarOf_1 : decode cX12_pillarOf 1 = .ok (.istore_n 2, 1) := by decide +kernel
theorem dX12_pillarOf_2 : decode cX12_pillarOf 2 = .ok (.iload_n 2, 1) := by decide +kernel
theorem dX12_pillarOf_3 : decode cX12_pillarOf 3 = .ok (.aload_n 0, 1) := by decide +kernel
theorem dX12_pillarOf_4 : decode cX12_pillarOf 4 = .ok (.getfield 101, 3) := by decide +kernel
theorem dX12_pillarOf_7 : decode cX12_pillarOf 7 = .ok (.if_icmp .ge 20, 3) := by decide +kernel
theorem dX12_pillarOf_10 : decode cX12_pillarOf 10 = .ok (.aload_n 0, 1) := by decide +kernel
theorem dX12_pillarOf_11 : decode cX12_pillarOf 11 = .ok (.iload_n 2, 1) := by decide +kernel
theorem dX12_pillarOf_12 : decode cX12_pillarOf 12 = .ok (.invokevirtual 107, 3) := by decide +kernel
theorem dX12_pillarOf_15 : decode cX12_pillarOf 15 = .ok (.iload_n 1, 1) := by decide +kernel
theorem dX12_pillarOf_16 : decode cX12_pillarOf 16 = .ok (.if_icmp .ne 5, 3) := by decide +kernel
theorem dX12_pillarOf_19 : decode cX12_pillarOf 19 = .ok (.iload_n 2, 1) := by decide +kernel
theorem dX12_pillarOf_20 : decode cX12_pillarOf 20 = .ok (.ireturn, 1) := by decide +kernel
theorem dX12_pillarOf_21 : decode cX12_pillarOf 21 = .ok (.iinc 2 1, 3) := by decide +kernel
theorem dX12_pillarOf_24 : decode cX12_pillarOf 24 = .ok (.goto (-22), 3) := by decide +kernel
theorem dX12_pillarOf_27 : decode cX12_pillarOf 27 = .ok (.iconst (-1), 1) := by decide +kernel
theorem dX12_pillarOf_28 : decode cX12_pillarOf 28 = .ok (.ireturn, 1) := by decide +kernel
theorem dX12_placeOf_0 : decode cX12_placeOf 0 = .ok (.iconst 0, 1) := by decide +kernel
theorem dX12_placeOf_1 : decode cX12_placeOf 1 = .ok (.istore_n 2, 1) := by decide +kernel
theorem dX12_placeOf_2 : decode cX12_placeOf 2 = .ok (.iload_n 2, 1) := by decide +kernel
theorem dX12_placeOf_3 : decode cX12_placeOf 3 = .ok (.aload_n 0, 1) := by decide +kernel
theorem dX12_placeOf_4 : decode cX12_placeOf 4 = .ok (.getfield 7, 3) := by decide +kernel
theorem dX12_placeOf_7 : decode cX12_placeOf 7 = .ok (.bipush 6, 2) := by decide +kernel
theorem dX12_placeOf_9 : decode cX12_placeOf 9 = .ok (.iaload, 1) := by decide +kernel
theorem dX12_placeOf_10 : decode cX12_placeOf 10 = .ok (.if_icmp .ge 24, 3) := by decide +kernel
theorem dX12_placeOf_13 : decode cX12_placeOf 13 = .ok (.aload_n 0, 1) := by decide +kernel
theorem dX12_placeOf_14 : decode cX12_placeOf 14 = .ok (.getfield 7, 3) := by decide +kernel
theorem dX12_placeOf_17 : decode cX12_placeOf 17 = .ok (.bipush 93, 2) := by decide +kernel
theorem dX12_placeOf_19 : decode cX12_placeOf 19 = .ok (.iload_n 2, 1) := by decide +kernel
theorem dX12_placeOf_20 : decode cX12_placeOf 20 = .ok (.iadd, 1) := by decide +kernel
theorem dX12_placeOf_21 : decode cX12_placeOf 21 = .ok (.iaload, 1) := by decide +kernel
theorem dX12_placeOf_22 : decode cX12_placeOf 22 = .ok (.iload_n 1, 1) := by decide +kernel
theorem dX12_placeOf_23 : decode cX12_placeOf 23 = .ok (.if_icmp .ne 5, 3) := by decide +kernel
theorem dX12_placeOf_26 : decode cX12_placeOf 26 = .ok (.iload_n 2, 1) := by decide +kernel
theorem dX12_placeOf_27 : decode cX12_placeOf 27 = .ok (.ireturn, 1) := by decide +kernel
theorem dX12_placeOf_28 : decode cX12_placeOf 28 = .ok (.iinc 2 1, 3) := by decide +kernel
theorem dX12_placeOf_31 : decode cX12_placeOf 31 = .ok (.goto (-29), 3) := by decide +kernel
theorem dX12_placeOf_34 : decode cX12_placeOf 34 = .ok (.iconst (-1), 1) := by decide +kernel
theorem dX12_placeOf_35 : decode cX12_placeOf 35 = .ok (.ireturn, 1) := by decide +kernel
theorem dX12_highest_0 : decode cX12_highest 0 = .ok (.aload_n 0, 1) := by decide +kernel
theorem dX12_highest_1 : decode cX12_highest 1 = .ok (.getfield 101, 3) := by decide +kernel
theorem dX12_highest_4 : decode cX12_highest 4 = .ok (.iconst 1, 1) := by decide +kernel
theorem dX12_highest_5 : decode cX12_highest 5 = .ok (.isub, 1) := by decide +kernel
theorem dX12_highest_6 : decode cX12_highest 6 = .ok (.istore_n 1, 1) := by decide +kernel
theorem dX12_highest_7 : decode cX12_highest 7 = .ok (.iload_n 1, 1) := by decide +kernel
theorem dX12_highest_8 : decode cX12_highest 8 = .ok (.ifCond .lt 20, 3) := by decide +kernel
theorem dX12_highest_11 : decode cX12_highest 11 = .ok (.aload_n 0, 1) := by decide +kernel
theorem dX12_highest_12 : decode cX12_highest 12 = .ok (.iload_n 1, 1) := by decide +kernel
theorem dX12_highest_13 : decode cX12_highest 13 = .ok (.invokevirtual 107, 3) := by decide +kernel
theorem dX12_highest_16 : decode cX12_highest 16 = .ok (.iconst (-1), 1) := by decide +kernel
theorem dX12_highest_17 : decode cX12_highest 17 = .ok (.if_icmp .eq 5, 3) := by decide +kernel
theorem dX12_highest_20 : decode cX12_highest 20 = .ok (.iload_n 1, 1) := by decide +kernel
theorem dX12_highest_21 : decode cX12_highest 21 = .ok (.ireturn, 1) := by decide +kernel
theorem dX12_highest_22 : decode cX12_highest 22 = .ok (.iinc 1 (-1), 3) := by decide +kernel
theorem dX12_highest_25 : decode cX12_highest 25 = .ok (.goto (-18), 3) := by decide +kernel
theorem dX12_highest_28 : decode cX12_highest 28 = .ok (.iconst (-1), 1) := by decide +kernel
theorem dX12_highest_29 : decode cX12_highest 29 = .ok (.ireturn, 1) := by decide +kernel
theorem dX12_nextBelow_0 : decode cX12_nextBelow 0 = .ok (.iload_n 1, 1) := by decide +kernel
theorem dX12_nextBelow_1 : decode cX12_nextBelow 1 = .ok (.iconst 1, 1) := by decide +kernel
theorem dX12_nextBelow_2 : decode cX12_nextBelow 2 = .ok (.isub, 1) := by decide +kernel
theorem dX12_nextBelow_3 : decode cX12_nextBelow 3 = .ok (.istore_n 2, 1) := by decide +kernel
theorem dX12_nextBelow_4 : decode cX12_nextBelow 4 = .ok (.iload_n 2, 1) := by decide +kernel
theorem dX12_nextBelow_5 : decode cX12_nextBelow 5 = .ok (.ifCond .lt 20, 3) := by decide +kernel
theorem dX12_nextBelow_8 : decode cX12_nextBelow 8 = .ok (.aload_n 0, 1) := by decide +kernel
theorem dX12_nextBelow_9 : decode cX12_nextBelow 9 = .ok (.iload_n 2, 1) := by decide +kernel
theorem dX12_nextBelow_10 : decode cX12_nextBelow 10 = .ok (.invokevirtual 107, 3) := by decide +kernel
theorem dX12_nextBelow_13 : decode cX12_nextBelow 13 = .ok (.iconst (-1), 1) := by decide +kernel
theorem dX12_nextBelow_14 : decode cX12_nextBelow 14 = .ok (.if_icmp .eq 5, 3) := by decide +kernel
theorem dX12_nextBelow_17 : decode cX12_nextBelow 17 = .ok (.iload_n 2, 1) := by decide +kernel
theorem dX12_nextBelow_18 : decode cX12_nextBelow 18 = .ok (.ireturn, 1) := by decide +kernel
theorem dX12_nextBelow_19 : decode cX12_nextBelow 19 = .ok (.iinc 2 (-1), 3) := by decide +kernel
theorem dX12_nextBelow_22 : decode cX12_nextBelow 22 = .ok (.goto (-18), 3) := by decide +kernel
theorem dX12_nextBelow_25 : decode cX12_nextBelow 25 = .ok (.iconst (-1), 1) := by decide +kernel
theorem dX12_nextBelow_26 : decode cX12_nextBelow 26 = .ok (.ireturn, 1) := by decide +kernel
theorem dX12_nextAbove_0 : decode cX12_nextAbove 0 = .ok (.iload_n 1, 1) := by decide +kernel
theorem dX12_nextAbove_1 : decode cX12_nextAbove 1 = .ok (.iconst 1, 1) := by decide +kernel
theorem dX12_nextAbove_2 : decode cX12_nextAbove 2 = .ok (.iadd, 1) := by decide +kernel
theorem dX12_nextAbove_3 : decode cX12_nextAbove 3 = .ok (.istore_n 2, 1) := by decide +kernel
theorem dX12_nextAbove_4 : decode cX12_nextAbove 4 = .ok (.iload_n 2, 1) := by decide +kernel
theorem dX12_nextAbove_5 : decode cX12_nextAbove 5 = .ok (.aload_n 0, 1) := by decide +kernel
theorem dX12_nextAbove_6 : decode cX12_nextAbove 6 = .ok (.getfield 101, 3) := by decide +kernel
theorem dX12_nextAbove_9 : decode cX12_nextAbove 9 = .ok (.if_icmp .ge 20, 3) := by decide +kernel
theorem dX12_nextAbove_12 : decode cX12_nextAbove 12 = .ok (.aload_n 0, 1) := by decide +kernel
theorem dX12_nextAbove_13 : decode cX12_nextAbove 13 = .ok (.iload_n 2, 1) := by decide +kernel
theorem dX12_nextAbove_14 : decode cX12_nextAbove 14 = .ok (.invokevirtual 107, 3) := by decide +kernel
theorem dX12_nextAbove_17 : decode cX12_nextAbove 17 = .ok (.iconst (-1), 1) := by decide +kernel
theorem dX12_nextAbove_18 : decode cX12_nextAbove 18 = .ok (.if_icmp .eq 5, 3) := by decide +kernel
theorem dX12_nextAbove_21 : decode cX12_nextAbove 21 = .ok (.iload_n 2, 1) := by decide +kernel
theorem dX12_nextAbove_22 : decode cX12_nextAbove 22 = .ok (.ireturn, 1) := by decide +kernel
theorem dX12_nextAbove_23 : decode cX12_nextAbove 23 = .ok (.iinc 2 1, 3) := by decide +kernel
theorem dX12_nextAbove_26 : decode cX12_nextAbove 26 = .ok (.goto (-22), 3) := by decide +kernel
theorem dX12_nextAbove_29 : decode cX12_nextAbove 29 = .ok (.iconst (-1), 1) := by decide +kernel
theorem dX12_nextAbove_30 : decode cX12_nextAbove 30 = .ok (.ireturn, 1) := by decide +kernel
theorem dX12_notes_0 : decode cX12_notes 0 = .ok (.aload_n 0, 1) := by decide +kernel
theorem dX12_notes_1 : decode cX12_notes 1 = .ok (.getfield 95, 3) := by decide +kernel
theorem dX12_notes_4 : decode cX12_notes 4 = .ok (.ifCond .ne 15, 3) := by decide +kernel
theorem dX12_notes_7 : decode cX12_notes 7 = .ok (.aload_n 0, 1) := by decide +kernel
theorem dX12_notes_8 : decode cX12_notes 8 = .ok (.getfield 7, 3) := by decide +kernel
theorem dX12_notes_11 : decode cX12_notes 11 = .ok (.iconst 2, 1) := by decide +kernel
theorem dX12_notes_12 : decode cX12_notes 12 = .ok (.iaload, 1) := by decide +kernel
theorem dX12_notes_13 : decode cX12_notes 13 = .ok (.sipush 150, 3) := by decide +kernel
theorem dX12_notes_16 : decode cX12_notes 16 = .ok (.if_icmp .ne 4, 3) := by decide +kernel
theorem dX12_notes_19 : decode cX12_notes 19 = .ok (.return_, 1) := by decide +kernel
theorem dX12_notes_20 : decode cX12_notes 20 = .ok (.iconst 4, 1) := by decide +kernel
theorem dX12_notes_21 : decode cX12_notes 21 = .ok (.aload_n 0, 1) := by decide +kernel
theorem dX12_notes_22 : decode cX12_notes 22 = .ok (.getfield 7, 3) := by decide +kernel
theorem dX12_notes_25 : decode cX12_notes 25 = .ok (.iconst 2, 1) := by decide +kernel
theorem dX12_notes_26 : decode cX12_notes 26 = .ok (.iaload, 1) := by decide +kernel
theorem dX12_notes_27 : decode cX12_notes 27 = .ok (.imul, 1) := by decide +kernel
theorem dX12_notes_28 : decode cX12_notes 28 = .ok (.istore 4, 2) := by decide +kernel
theorem dX12_notes_30 : decode cX12_notes 30 = .ok (.aload_n 0, 1) := by decide +kernel
theorem dX12_notes_31 : decode cX12_notes 31 = .ok (.getfield 22, 3) := by decide +kernel
theorem dX12_notes_34 : decode cX12_notes 34 = .ok (.iload 4, 2) := by decide +kernel
theorem dX12_notes_36 : decode cX12_notes 36 = .ok (.aload_n 0, 1) := by decide +kernel
theorem dX12_notes_37 : decode cX12_notes 37 = .ok (.getfield 7, 3) := by decide +kernel
theorem dX12_notes_40 : decode cX12_notes 40 = .ok (.iconst 0, 1) := by decide +kernel
theorem dX12_notes_41 : decode cX12_notes 41 = .ok (.iaload, 1) := by decide +kernel
theorem dX12_notes_42 : decode cX12_notes 42 = .ok (.iastore, 1) := by decide +kernel
theorem dX12_notes_43 : decode cX12_notes 43 = .ok (.aload_n 0, 1) := by decide +kernel
theorem dX12_notes_44 : decode cX12_notes 44 = .ok (.getfield 22, 3) := by decide +kernel
theorem dX12_notes_47 : decode cX12_notes 47 = .ok (.iload 4, 2) := by decide +kernel
theorem dX12_notes_49 : decode cX12_notes 49 = .ok (.iconst 1, 1) := by decide +kernel
theorem dX12_notes_50 : decode cX12_notes 50 = .ok (.iadd, 1) := by decide +kernel
theorem dX12_notes_51 : decode cX12_notes 51 = .ok (.iload_n 1, 1) := by decide +kernel
theorem dX12_notes_52 : decode cX12_notes 52 = .ok (.iastore, 1) := by decide +kernel
theorem dX12_notes_53 : decode cX12_notes 53 = .ok (.aload_n 0, 1) := by decide +kernel
theorem dX12_notes_54 : decode cX12_notes 54 = .ok (.getfield 22, 3) := by decide +kernel
theorem dX12_notes_57 : decode cX12_notes 57 = .ok (.iload 4, 2) := by decide +kernel
theorem dX12_notes_59 : decode cX12_notes 59 = .ok (.iconst 2, 1) := by decide +kernel
theorem dX12_notes_60 : decode cX12_notes 60 = .ok (.iadd, 1) := by decide +kernel
theorem dX12_notes_61 : decode cX12_notes 61 = .ok (.iload_n 2, 1) := by decide +kernel
theorem dX12_notes_62 : decode cX12_notes 62 = .ok (.iastore, 1) := by decide +kernel
theorem dX12_notes_63 : decode cX12_notes 63 = .ok (.aload_n 0, 1) := by decide +kernel
theorem dX12_notes_64 : decode cX12_notes 64 = .ok (.getfield 22, 3) := by decide +kernel
theorem dX12_notes_67 : decode cX12_notes 67 = .ok (.iload 4, 2) := by decide +kernel
theorem dX12_notes_69 : decode cX12_notes 69 = .ok (.iconst 3, 1) := by decide +kernel
theorem dX12_notes_70 : decode cX12_notes 70 = .ok (.iadd, 1) := by decide +kernel
theorem dX12_notes_71 : decode cX12_notes 71 = .ok (.iload_n 3, 1) := by decide +kernel
theorem dX12_notes_72 : decode cX12_notes 72 = .ok (.iastore, 1) := by decide +kernel
theorem dX12_notes_73 : decode cX12_notes 73 = .ok (.aload_n 0, 1) := by decide +kernel
theorem dX12_notes_74 : decode cX12_notes 74 = .ok (.getfield 7, 3) := by decide +kernel
theorem dX12_notes_77 : decode cX12_notes 77 = .ok (.iconst 2, 1) := by decide +kernel
theorem dX12_notes_78 : decode cX12_notes 78 = .ok (.aload_n 0, 1) := by decide +kernel
theorem dX12_notes_79 : decode cX12_notes 79 = .ok (.getfield 7, 3) := by decide +kernel
theorem dX12_notes_82 : decode cX12_notes 82 = .ok (.iconst 2, 1) := by decide +kernel
theorem dX12_notes_83 : decode cX12_notes 83 = .ok (.iaload, 1) := by decide +kernel
theorem dX12_notes_84 : decode cX12_notes 84 = .ok (.iconst 1, 1) := by decide +kernel
theorem dX12_notes_85 : decode cX12_notes 85 = .ok (.iadd, 1) := by decide +kernel
theorem dX12_notes_86 : decode cX12_notes 86 = .ok (.iastore, 1) := by decide +kernel
theorem dX12_notes_87 : decode cX12_notes 87 = .ok (.return_, 1) := by decide +kernel
theorem dX12_leavesGround_0 : decode cX12_leavesGround 0 = .ok (.aload_n 0, 1) := by decide +kernel
theorem dX12_leavesGround_1 : decode cX12_leavesGround 1 = .ok (.getfield 7, 3) := by decide +kernel
theorem dX12_leavesGround_4 : decode cX12_leavesGround 4 = .ok (.bipush 6, 2) := by decide +kernel
theorem dX12_leavesGround_6 : decode cX12_leavesGround 6 = .ok (.aload_n 0, 1) := by decide +kernel
theorem dX12_leavesGround_7 : decode cX12_leavesGround 7 = .ok (.getfield 7, 3) := by decide +kernel
theorem dX12_leavesGround_10 : decode cX12_leavesGround 10 = .ok (.bipush 6, 2) := by decide +kernel
theorem dX12_leavesGround_12 : decode cX12_leavesGround 12 = .ok (.iaload, 1) := by decide +kernel
theorem dX12_leavesGround_13 : decode cX12_leavesGround 13 = .ok (.iconst 1, 1) := by decide +kernel
theorem dX12_leavesGround_14 : decode cX12_leavesGround 14 = .ok (.isub, 1) := by decide +kernel
theorem dX12_leavesGround_15 : decode cX12_leavesGround 15 = .ok (.iastore, 1) := by decide +kernel
theorem dX12_leavesGround_16 : decode cX12_leavesGround 16 = .ok (.iload_n 1, 1) := by decide +kernel
theorem dX12_leavesGround_17 : decode cX12_leavesGround 17 = .ok (.istore_n 2, 1) := by decide +kernel
theorem dX12_leavesGround_18 : decode cX12_leavesGround 18 = .ok (.iload_n 2, 1) := by decide +kernel
theorem dX12_leavesGround_19 : decode cX12_leavesGround 19 = .ok (.aload_n 0, 1) := by decide +kernel
theorem dX12_leavesGround_20 : decode cX12_leavesGround 20 = .ok (.getfield 7, 3) := by decide +kernel
theorem dX12_leavesGround_23 : decode cX12_leavesGround 23 = .ok (.bipush 6, 2) := by decide +kernel
theorem dX12_leavesGround_25 : decode cX12_leavesGround 25 = .ok (.iaload, 1) := by decide +kernel
theorem dX12_leavesGround_26 : decode cX12_leavesGround 26 = .ok (.if_icmp .ge 29, 3) := by decide +kernel
theorem dX12_leavesGround_29 : decode cX12_leavesGround 29 = .ok (.aload_n 0, 1) := by decide +kernel
theorem dX12_leavesGround_30 : decode cX12_leavesGround 30 = .ok (.getfield 7, 3) := by decide +kernel
theorem dX12_leavesGround_33 : decode cX12_leavesGround 33 = .ok (.bipush 93, 2) := by decide +kernel
theorem dX12_leavesGround_35 : decode cX12_leavesGround 35 = .ok (.iload_n 2, 1) := by decide +kernel
theorem dX12_leavesGround_36 : decode cX12_leavesGround 36 = .ok (.iadd, 1) := by decide +kernel
theorem dX12_leavesGround_37 : decode cX12_leavesGround 37 = .ok (.aload_n 0, 1) := by decide +kernel
theorem dX12_leavesGround_38 : decode cX12_leavesGround 38 = .ok (.getfield 7, 3) := by decide +kernel
theorem dX12_leavesGround_41 : decode cX12_leavesGround 41 = .ok (.bipush 93, 2) := by decide +kernel
theorem dX12_leavesGround_43 : decode cX12_leavesGround 43 = .ok (.iload_n 2, 1) := by decide +kernel
theorem dX12_leavesGround_44 : decode cX12_leavesGround 44 = .ok (.iadd, 1) := by decide +kernel
theorem dX12_leavesGround_45 : decode cX12_leavesGround 45 = .ok (.iconst 1, 1) := by decide +kernel
theorem dX12_leavesGround_46 : decode cX12_leavesGround 46 = .ok (.iadd, 1) := by decide +kernel
theorem dX12_leavesGround_47 : decode cX12_leavesGround 47 = .ok (.iaload, 1) := by decide +kernel
theorem dX12_leavesGround_48 : decode cX12_leavesGround 48 = .ok (.iastore, 1) := by decide +kernel
theorem dX12_leavesGround_49 : decode cX12_leavesGround 49 = .ok (.iinc 2 1, 3) := by decide +kernel
theorem dX12_leavesGround_52 : decode cX12_leavesGround 52 = .ok (.goto (-34), 3) := by decide +kernel
theorem dX12_leavesGround_55 : decode cX12_leavesGround 55 = .ok (.return_, 1) := by decide +kernel
theorem dX12_comesBehind_0 : decode cX12_comesBehind 0 = .ok (.aload_n 0, 1) := by decide +kernel
theorem dX12_comesBehind_1 : decode cX12_comesBehind 1 = .ok (.getfield 7, 3) := by decide +kernel
theorem dX12_comesBehind_4 : decode cX12_comesBehind 4 = .ok (.bipush 93, 2) := by decide +kernel
theorem dX12_comesBehind_6 : decode cX12_comesBehind 6 = .ok (.aload_n 0, 1) := by decide +kernel
theorem dX12_comesBehind_7 : decode cX12_comesBehind 7 = .ok (.getfield 7, 3) := by decide +kernel
theorem dX12_comesBehind_10 : decode cX12_comesBehind 10 = .ok (.bipush 6, 2) := by decide +kernel
theorem dX12_comesBehind_12 : decode cX12_comesBehind 12 = .ok (.iaload, 1) := by decide +kernel
theorem dX12_comesBehind_13 : decode cX12_comesBehind 13 = .ok (.iadd, 1) := by decide +kernel
theorem dX12_comesBehind_14 : decode cX12_comesBehind 14 = .ok (.iload_n 1, 1) := by decide +kernel
theorem dX12_comesBehind_15 : decode cX12_comesBehind 15 = .ok (.iastore, 1) := by decide +kernel
theorem dX12_comesBehind_16 : decode cX12_comesBehind 16 = .ok (.aload_n 0, 1) := by decide +kernel
theorem dX12_comesBehind_17 : decode cX12_comesBehind 17 = .ok (.getfield 7, 3) := by decide +kernel
theorem dX12_comesBehind_20 : decode cX12_comesBehind 20 = .ok (.bipush 6, 2) := by decide +kernel
theorem dX12_comesBehind_22 : decode cX12_comesBehind 22 = .ok (.aload_n 0, 1) := by decide +kernel
theorem dX12_comesBehind_23 : decode cX12_comesBehind 23 = .ok (.getfield 7, 3) := by decide +kernel
theorem dX12_comesBehind_26 : decode cX12_comesBehind 26 = .ok (.bipush 6, 2) := by decide +kernel
theorem dX12_comesBehind_28 : decode cX12_comesBehind 28 = .ok (.iaload, 1) := by decide +kernel
theorem dX12_comesBehind_29 : decode cX12_comesBehind 29 = .ok (.iconst 1, 1) := by decide +kernel
theorem dX12_comesBehind_30 : decode cX12_comesBehind 30 = .ok (.iadd, 1) := by decide +kernel
theorem dX12_comesBehind_31 : decode cX12_comesBehind 31 = .ok (.iastore, 1) := by decide +kernel
theorem dX12_comesBehind_32 : decode cX12_comesBehind 32 = .ok (.return_, 1) := by decide +kernel
theorem dX12_allClimb_0 : decode cX12_allClimb 0 = .ok (.aload_n 0, 1) := by decide +kernel
theorem dX12_allClimb_1 : decode cX12_allClimb 1 = .ok (.getfield 101, 3) := by decide +kernel
theorem dX12_allClimb_4 : decode cX12_allClimb 4 = .ok (.iconst 1, 1) := by decide +kernel
theorem dX12_allClimb_5 : decode cX12_allClimb 5 = .ok (.isub, 1) := by decide +kernel
theorem dX12_allClimb_6 : decode cX12_allClimb 6 = .ok (.istore_n 1, 1) := by decide +kernel
theorem dX12_allClimb_7 : decode cX12_allClimb 7 = .ok (.iload_n 1, 1) := by decide +kernel
theorem dX12_allClimb_8 : decode cX12_allClimb 8 = .ok (.ifCond .lt 108, 3) := by decide +kernel
theorem dX12_allClimb_11 : decode cX12_allClimb 11 = .ok (.aload_n 0, 1) := by decide +kernel
theorem dX12_allClimb_12 : decode cX12_allClimb 12 = .ok (.iload_n 1, 1) := by decide +kernel
theorem dX12_allClimb_13 : decode cX12_allClimb 13 = .ok (.invokevirtual 107, 3) := by decide +kernel
theorem dX12_allClimb_16 : decode cX12_allClimb 16 = .ok (.iconst (-1), 1) := by decide +kernel
theorem dX12_allClimb_17 : decode cX12_allClimb 17 = .ok (.if_icmp .eq 6, 3) := by decide +kernel
theorem dX12_allClimb_20 : decode cX12_allClimb 20 = .ok (.goto 90, 3) := by decide +kernel
theorem dX12_allClimb_23 : decode cX12_allClimb 23 = .ok (.aload_n 0, 1) := by decide +kernel
theorem dX12_allClimb_24 : decode cX12_allClimb 24 = .ok (.iload_n 1, 1) := by decide +kernel
theorem dX12_allClimb_25 : decode cX12_allClimb 25 = .ok (.invokevirtual 111, 3) := by decide +kernel
theorem dX12_allClimb_28 : decode cX12_allClimb 28 = .ok (.istore_n 2, 1) := by decide +kernel
theorem dX12_allClimb_29 : decode cX12_allClimb 29 = .ok (.iload_n 2, 1) := by decide +kernel
theorem dX12_allClimb_30 : decode cX12_allClimb 30 = .ok (.iconst (-1), 1) := by decide +kernel
theorem dX12_allClimb_31 : decode cX12_allClimb 31 = .ok (.if_icmp .ne 16, 3) := by decide +kernel
theorem dX12_allClimb_34 : decode cX12_allClimb 34 = .ok (.aload_n 0, 1) := by decide +kernel
theorem dX12_allClimb_35 : decode cX12_allClimb 35 = .ok (.getfield 7, 3) := by decide +kernel
theorem dX12_allClimb_38 : decode cX12_allClimb 38 = .ok (.bipush 6, 2) := by decide +kernel
theorem dX12_allClimb_40 : decode cX12_allClimb 40 = .ok (.iaload, 1) := by decide +kernel
theorem dX12_allClimb_41 : decode cX12_allClimb 41 = .ok (.ifCond .ne 6, 3) := by decide +kernel
theorem dX12_allClimb_44 : decode cX12_allClimb 44 = .ok (.goto 66, 3) := by decide +kernel
theorem dX12_allClimb_47 : decode cX12_allClimb 47 = .ok (.iload_n 2, 1) := by decide +kernel
theorem dX12_allClimb_48 : decode cX12_allClimb 48 = .ok (.iconst (-1), 1) := by decide +kernel
theorem dX12_allClimb_49 : decode cX12_allClimb 49 = .ok (.if_icmp .ne 13, 3) := by decide +kernel
theorem dX12_allClimb_52 : decode cX12_allClimb 52 = .ok (.aload_n 0, 1) := by decide +kernel
theorem dX12_allClimb_53 : decode cX12_allClimb 53 = .ok (.getfield 7, 3) := by decide +kernel
theorem dX12_allClimb_56 : decode cX12_allClimb 56 = .ok (.bipush 93, 2) := by decide +kernel
theorem dX12_allClimb_58 : decode cX12_allClimb 58 = .ok (.iaload, 1) := by decide +kernel
theorem dX12_allClimb_59 : decode cX12_allClimb 59 = .ok (.goto 8, 3) := by decide +kernel
theorem dX12_allClimb_62 : decode cX12_allClimb 62 = .ok (.aload_n 0, 1) := by decide +kernel
theorem dX12_allClimb_63 : decode cX12_allClimb 63 = .ok (.iload_n 2, 1) := by decide +kernel
theorem dX12_allClimb_64 : decode cX12_allClimb 64 = .ok (.invokevirtual 107, 3) := by decide +kernel
theorem dX12_allClimb_67 : decode cX12_allClimb 67 = .ok (.istore_n 3, 1) := by decide +kernel
theorem dX12_allClimb_68 : decode cX12_allClimb 68 = .ok (.iload_n 2, 1) := by decide +kernel
theorem dX12_allClimb_69 : decode cX12_allClimb 69 = .ok (.iconst (-1), 1) := by decide +kernel
theorem dX12_allClimb_70 : decode cX12_allClimb 70 = .ok (.if_icmp .ne 11, 3) := by decide +kernel
theorem dX12_allClimb_73 : decode cX12_allClimb 73 = .ok (.aload_n 0, 1) := by decide +kernel
theorem dX12_allClimb_74 : decode cX12_allClimb 74 = .ok (.iconst 0, 1) := by decide +kernel
theorem dX12_allClimb_75 : decode cX12_allClimb 75 = .ok (.invokevirtual 114, 3) := by decide +kernel
theorem dX12_allClimb_78 : decode cX12_allClimb 78 = .ok (.goto 13, 3) := by decide +kernel
theorem dX12_allClimb_81 : decode cX12_allClimb 81 = .ok (.aload_n 0, 1) := by decide +kernel
theorem dX12_allClimb_82 : decode cX12_allClimb 82 = .ok (.getfield 7, 3) := by decide +kernel
theorem dX12_allClimb_85 : decode cX12_allClimb 85 = .ok (.bipush 73, 2) := by decide +kernel
theorem dX12_allClimb_87 : decode cX12_allClimb 87 = .ok (.iload_n 2, 1) := by decide +kernel
theorem dX12_allClimb_88 : decode cX12_allClimb 88 = .ok (.iadd, 1) := by decide +kernel
theorem dX12_allClimb_89 : decode cX12_allClimb 89 = .ok (.iconst 0, 1) := by decide +kernel
theorem dX12_allClimb_90 : decode cX12_allClimb 90 = .ok (.iastore, 1) := by decide +kernel
theorem dX12_allClimb_91 : decode cX12_allClimb 91 = .ok (.aload_n 0, 1) := by decide +kernel
theorem dX12_allClimb_92 : decode cX12_allClimb 92 = .ok (.getfield 7, 3) := by decide +kernel
theorem dX12_allClimb_95 : decode cX12_allClimb 95 = .ok (.bipush 73, 2) := by decide +kernel
theorem dX12_allClimb_97 : decode cX12_allClimb 97 = .ok (.iload_n 1, 1) := by decide +kernel
theorem dX12_allClimb_98 : decode cX12_allClimb 98 = .ok (.iadd, 1) := by decide +kernel
theorem dX12_allClimb_99 : decode cX12_allClimb 99 = .ok (.iload_n 3, 1) := by decide +kernel
theorem dX12_allClimb_100 : decode cX12_allClimb 100 = .ok (.iconst 1, 1) := by decide +kernel
theorem dX12_allClimb_101 : decode cX12_allClimb 101 = .ok (.iadd, 1) := by decide +kernel
theorem dX12_allClimb_102 : decode cX12_allClimb 102 = .ok (.iastore, 1) := by decide +kernel
theorem dX12_allClimb_103 : decode cX12_allClimb 103 = .ok (.aload_n 0, 1) := by decide +kernel
theorem dX12_allClimb_104 : decode cX12_allClimb 104 = .ok (.iconst 2, 1) := by decide +kernel
theorem dX12_allClimb_105 : decode cX12_allClimb 105 = .ok (.iload_n 3, 1) := by decide +kernel
theorem dX12_allClimb_106 : decode cX12_allClimb 106 = .ok (.iload_n 1, 1) := by decide +kernel
theorem dX12_allClimb_107 : decode cX12_allClimb 107 = .ok (.invokevirtual 118, 3) := by decide +kernel
theorem dX12_allClimb_110 : decode cX12_allClimb 110 = .ok (.iinc 1 (-1), 3) := by decide +kernel
theorem dX12_allClimb_113 : decode cX12_allClimb 113 = .ok (.goto (-106), 3) := by decide +kernel
theorem dX12_allClimb_116 : decode cX12_allClimb 116 = .ok (.return_, 1) := by decide +kernel
theorem dX12_pillar_0 : decode cX12_pillar 0 = .ok (.aload_n 0, 1) := by decide +kernel
theorem dX12_pillar_1 : decode cX12_pillar 1 = .ok (.iconst 0, 1) := by decide +kernel
theorem dX12_pillar_2 : decode cX12_pillar 2 = .ok (.putfield 89, 3) := by decide +kernel
theorem dX12_pillar_5 : decode cX12_pillar 5 = .ok (.aload_n 0, 1) := by decide +kernel
theorem dX12_pillar_6 : decode cX12_pillar 6 = .ok (.iload_n 1, 1) := by decide +kernel
theorem dX12_pillar_7 : decode cX12_pillar 7 = .ok (.iconst 1, 1) := by decide +kernel
theorem dX12_pillar_8 : decode cX12_pillar 8 = .ok (.bipush 99, 2) := by decide +kernel
theorem dX12_pillar_10 : decode cX12_pillar 10 = .ok (.invokevirtual 122, 3) := by decide +kernel
theorem dX12_pillar_13 : decode cX12_pillar 13 = .ok (.ifCond .eq 12, 3) := by decide +kernel
theorem dX12_pillar_16 : decode cX12_pillar 16 = .ok (.aload_n 0, 1) := by decide +kernel
theorem dX12_pillar_17 : decode cX12_pillar 17 = .ok (.getfield 101, 3) := by decide +kernel
theorem dX12_pillar_20 : decode cX12_pillar 20 = .ok (.bipush 10, 2) := by decide +kernel
theorem dX12_pillar_22 : decode cX12_pillar 22 = .ok (.if_icmp .ne 5, 3) := by decide +kernel
theorem dX12_pillar_25 : decode cX12_pillar 25 = .ok (.iconst (-1), 1) := by decide +kernel
theorem dX12_pillar_26 : decode cX12_pillar 26 = .ok (.ireturn, 1) := by decide +kernel
theorem dX12_pillar_27 : decode cX12_pillar 27 = .ok (.aload_n 0, 1) := by decide +kernel
theorem dX12_pillar_28 : decode cX12_pillar 28 = .ok (.getfield 7, 3) := by decide +kernel
theorem dX12_pillar_31 : decode cX12_pillar 31 = .ok (.bipush 63, 2) := by decide +kernel
theorem dX12_pillar_33 : decode cX12_pillar 33 = .ok (.aload_n 0, 1) := by decide +kernel
theorem dX12_pillar_34 : decode cX12_pillar 34 = .ok (.getfield 101, 3) := by decide +kernel
theorem dX12_pillar_37 : decode cX12_pillar 37 = .ok (.iadd, 1) := by decide +kernel
theorem dX12_pillar_38 : decode cX12_pillar 38 = .ok (.iload_n 1, 1) := by decide +kernel
theorem dX12_pillar_39 : decode cX12_pillar 39 = .ok (.iastore, 1) := by decide +kernel
theorem dX12_pillar_40 : decode cX12_pillar 40 = .ok (.aload_n 0, 1) := by decide +kernel
theorem dX12_pillar_41 : decode cX12_pillar 41 = .ok (.getfield 7, 3) := by decide +kernel
theorem dX12_pillar_44 : decode cX12_pillar 44 = .ok (.bipush 73, 2) := by decide +kernel
theorem dX12_pillar_46 : decode cX12_pillar 46 = .ok (.aload_n 0, 1) := by decide +kernel
theorem dX12_pillar_47 : decode cX12_pillar 47 = .ok (.getfield 101, 3) := by decide +kernel
theorem dX12_pillar_50 : decode cX12_pillar 50 = .ok (.iadd, 1) := by decide +kernel
theorem dX12_pillar_51 : decode cX12_pillar 51 = .ok (.iconst 0, 1) := by decide +kernel
theorem dX12_pillar_52 : decode cX12_pillar 52 = .ok (.iastore, 1) := by decide +kernel
theorem dX12_pillar_53 : decode cX12_pillar 53 = .ok (.aload_n 0, 1) := by decide +kernel
theorem dX12_pillar_54 : decode cX12_pillar 54 = .ok (.getfield 7, 3) := by decide +kernel
theorem dX12_pillar_57 : decode cX12_pillar 57 = .ok (.bipush 83, 2) := by decide +kernel
theorem dX12_pillar_59 : decode cX12_pillar 59 = .ok (.aload_n 0, 1) := by decide +kernel
theorem dX12_pillar_60 : decode cX12_pillar 60 = .ok (.getfield 101, 3) := by decide +kernel
theorem dX12_pillar_63 : decode cX12_pillar 63 = .ok (.iadd, 1) := by decide +kernel
theorem dX12_pillar_64 : decode cX12_pillar 64 = .ok (.iconst 0, 1) := by decide +kernel
theorem dX12_pillar_65 : decode cX12_pillar 65 = .ok (.iastore, 1) := by decide +kernel
theorem dX12_pillar_66 : decode cX12_pillar 66 = .ok (.aload_n 0, 1) := by decide +kernel
theorem dX12_pillar_67 : decode cX12_pillar 67 = .ok (.aload_n 0, 1) := by decide +kernel
theorem dX12_pillar_68 : decode cX12_pillar 68 = .ok (.getfield 101, 3) := by decide +kernel
theorem dX12_pillar_71 : decode cX12_pillar 71 = .ok (.iconst 1, 1) := by decide +kernel
theorem dX12_pillar_72 : decode cX12_pillar 72 = .ok (.iadd, 1) := by decide +kernel
theorem dX12_pillar_73 : decode cX12_pillar 73 = .ok (.putfield 101, 3) := by decide +kernel
theorem dX12_pillar_76 : decode cX12_pillar 76 = .ok (.aload_n 0, 1) := by decide +kernel
theorem dX12_pillar_77 : decode cX12_pillar 77 = .ok (.invokevirtual 126, 3) := by decide +kernel
theorem dX12_pillar_80 : decode cX12_pillar 80 = .ok (.aload_n 0, 1) := by decide +kernel
theorem dX12_pillar_81 : decode cX12_pillar 81 = .ok (.iconst 0, 1) := by decide +kernel
theorem dX12_pillar_82 : decode cX12_pillar 82 = .ok (.putfield 92, 3) := by decide +kernel
theorem dX12_pillar_85 : decode cX12_pillar 85 = .ok (.aload_n 0, 1) := by decide +kernel
theorem dX12_pillar_86 : decode cX12_pillar 86 = .ok (.getfield 101, 3) := by decide +kernel
theorem dX12_pillar_89 : decode cX12_pillar 89 = .ok (.iconst 1, 1) := by decide +kernel
theorem dX12_pillar_90 : decode cX12_pillar 90 = .ok (.isub, 1) := by decide +kernel
theorem dX12_pillar_91 : decode cX12_pillar 91 = .ok (.ireturn, 1) := by decide +kernel
theorem dX12_saint_0 : decode cX12_saint 0 = .ok (.aload_n 0, 1) := by decide +kernel
theorem dX12_saint_1 : decode cX12_saint 1 = .ok (.iconst 0, 1) := by decide +kernel
theorem dX12_saint_2 : decode cX12_saint 2 = .ok (.putfield 89, 3) := by decide +kernel
theorem dX12_saint_5 : decode cX12_saint 5 = .ok (.aload_n 0, 1) := by decide +kernel
theorem dX12_saint_6 : decode cX12_saint 6 = .ok (.iload_n 1, 1) := by decide +kernel
theorem dX12_saint_7 : decode cX12_saint 7 = .ok (.iconst 0, 1) := by decide +kernel
theorem dX12_saint_8 : decode cX12_saint 8 = .ok (.bipush 120, 2) := by decide +kernel
theorem dX12_saint_10 : decode cX12_saint 10 = .ok (.invokevirtual 122, 3) := by decide +kernel
theorem dX12_saint_13 : decode cX12_saint 13 = .ok (.ifCond .eq 35, 3) := by decide +kernel
theorem dX12_saint_16 : decode cX12_saint 16 = .ok (.aload_n 0, 1) := by decide +kernel
theorem dX12_saint_17 : decode cX12_saint 17 = .ok (.iload_n 2, 1) := by decide +kernel
theorem dX12_saint_18 : decode cX12_saint 18 = .ok (.iconst 0, 1) := by decide +kernel
theorem dX12_saint_19 : decode cX12_saint 19 = .ok (.bipush 9, 2) := by decide +kernel
theorem dX12_saint_21 : decode cX12_saint 21 = .ok (.invokevirtual 122, 3) := by decide +kernel
theorem dX12_saint_24 : decode cX12_saint 24 = .ok (.ifCond .eq 24, 3) := by decide +kernel
theorem dX12_saint_27 : decode cX12_saint 27 = .ok (.aload_n 0, 1) := by decide +kernel
theorem dX12_saint_28 : decode cX12_saint 28 = .ok (.iload_n 3, 1) := by decide +kernel
theorem dX12_saint_29 : decode cX12_saint 29 = .ok (.bipush (-99), 2) := by decide +kernel
theorem dX12_saint_31 : decode cX12_saint 31 = .ok (.bipush 99, 2) := by decide +kernel
theorem dX12_saint_33 : decode cX12_saint 33 = .ok (.invokevirtual 122, 3) := by decide +kernel
theorem dX12_saint_36 : decode cX12_saint 36 = .ok (.ifCond .eq 12, 3) := by decide +kernel
theorem dX12_saint_39 : decode cX12_saint 39 = .ok (.aload_n 0, 1) := by decide +kernel
theorem dX12_saint_40 : decode cX12_saint 40 = .ok (.getfield 104, 3) := by decide +kernel
theorem dX12_saint_43 : decode cX12_saint 43 = .ok (.bipush 14, 2) := by decide +kernel
theorem dX12_saint_45 : decode cX12_saint 45 = .ok (.if_icmp .ne 5, 3) := by decide +kernel
theorem dX12_saint_48 : decode cX12_saint 48 = .ok (.iconst (-1), 1) := by decide +kernel
theorem dX12_saint_49 : decode cX12_saint 49 = .ok (.ireturn, 1) := by decide +kernel
theorem dX12_saint_50 : decode cX12_saint 50 = .ok (.aload_n 0, 1) := by decide +kernel
theorem dX12_saint_51 : decode cX12_saint 51 = .ok (.getfield 7, 3) := by decide +kernel
theorem dX12_saint_54 : decode cX12_saint 54 = .ok (.bipush 7, 2) := by decide +kernel
theorem dX12_saint_56 : decode cX12_saint 56 = .ok (.aload_n 0, 1) := by decide +kernel
theorem dX12_saint_57 : decode cX12_saint 57 = .ok (.getfield 104, 3) := by decide +kernel
theorem dX12_saint_60 : decode cX12_saint 60 = .ok (.iadd, 1) := by decide +kernel
theorem dX12_saint_61 : decode cX12_saint 61 = .ok (.iload_n 1, 1) := by decide +kernel
theorem dX12_saint_62 : decode cX12_saint 62 = .ok (.iastore, 1) := by decide +kernel
theorem dX12_saint_63 : decode cX12_saint 63 = .ok (.aload_n 0, 1) := by decide +kernel
theorem dX12_saint_64 : decode cX12_saint 64 = .ok (.getfield 7, 3) := by decide +kernel
theorem dX12_saint_67 : decode cX12_saint 67 = .ok (.bipush 21, 2) := by decide +kernel
theorem dX12_saint_69 : decode cX12_saint 69 = .ok (.aload_n 0, 1) := by decide +kernel
theorem dX12_saint_70 : decode cX12_saint 70 = .ok (.getfield 104, 3) := by decide +kernel
theorem dX12_saint_73 : decode cX12_saint 73 = .ok (.iadd, 1) := by decide +kernel
theorem dX12_saint_74 : decode cX12_saint 74 = .ok (.iload_n 3, 1) := by decide +kernel
theorem dX12_saint_75 : decode cX12_saint 75 = .ok (.iastore, 1) := by decide +kernel
theorem dX12_saint_76 : decode cX12_saint 76 = .ok (.aload_n 0, 1) := by decide +kernel
theorem dX12_saint_77 : decode cX12_saint 77 = .ok (.getfield 7, 3) := by decide +kernel
theorem dX12_saint_80 : decode cX12_saint 80 = .ok (.bipush 35, 2) := by decide +kernel
theorem dX12_saint_82 : decode cX12_saint 82 = .ok (.aload_n 0, 1) := by decide +kernel
theorem dX12_saint_83 : decode cX12_saint 83 = .ok (.getfield 104, 3) := by decide +kernel
theorem dX12_saint_86 : decode cX12_saint 86 = .ok (.iadd, 1) := by decide +kernel
theorem dX12_saint_87 : decode cX12_saint 87 = .ok (.iconst 0, 1) := by decide +kernel
theorem dX12_saint_88 : decode cX12_saint 88 = .ok (.iastore, 1) := by decide +kernel
theorem dX12_saint_89 : decode cX12_saint 89 = .ok (.aload_n 0, 1) := by decide +kernel
theorem dX12_saint_90 : decode cX12_saint 90 = .ok (.getfield 7, 3) := by decide +kernel
theorem dX12_saint_93 : decode cX12_saint 93 = .ok (.bipush 49, 2) := by decide +kernel
theorem dX12_saint_95 : decode cX12_saint 95 = .ok (.aload_n 0, 1) := by decide +kernel
theorem dX12_saint_96 : decode cX12_saint 96 = .ok (.getfield 104, 3) := by decide +kernel
theorem dX12_saint_99 : decode cX12_saint 99 = .ok (.iadd, 1) := by decide +kernel
theorem dX12_saint_100 : decode cX12_saint 100 = .ok (.iconst 0, 1) := by decide +kernel
theorem dX12_saint_101 : decode cX12_saint 101 = .ok (.iastore, 1) := by decide +kernel
theorem dX12_saint_102 : decode cX12_saint 102 = .ok (.aload_n 0, 1) := by decide +kernel
theorem dX12_saint_103 : decode cX12_saint 103 = .ok (.getfield 19, 3) := by decide +kernel
theorem dX12_saint_106 : decode cX12_saint 106 = .ok (.aload_n 0, 1) := by decide +kernel
theorem dX12_saint_107 : decode cX12_saint 107 = .ok (.getfield 104, 3) := by decide +kernel
theorem dX12_saint_110 : decode cX12_saint 110 = .ok (.iload_n 2, 1) := by decide +kernel
theorem dX12_saint_111 : decode cX12_saint 111 = .ok (.iastore, 1) := by decide +kernel
theorem dX12_saint_112 : decode cX12_saint 112 = .ok (.aload_n 0, 1) := by decide +kernel
theorem dX12_saint_113 : decode cX12_saint 113 = .ok (.aload_n 0, 1) := by decide +kernel
theorem dX12_saint_114 : decode cX12_saint 114 = .ok (.getfield 104, 3) := by decide +kernel
theorem dX12_saint_117 : decode cX12_saint 117 = .ok (.invokevirtual 129, 3) := by decide +kernel
theorem dX12_saint_120 : decode cX12_saint 120 = .ok (.aload_n 0, 1) := by decide +kernel
theorem dX12_saint_121 : decode cX12_saint 121 = .ok (.aload_n 0, 1) := by decide +kernel
theorem dX12_saint_122 : decode cX12_saint 122 = .ok (.getfield 104, 3) := by decide +kernel
theorem dX12_saint_125 : decode cX12_saint 125 = .ok (.iconst 1, 1) := by decide +kernel
theorem dX12_saint_126 : decode cX12_saint 126 = .ok (.iadd, 1) := by decide +kernel
theorem dX12_saint_127 : decode cX12_saint 127 = .ok (.putfield 104, 3) := by decide +kernel
theorem dX12_saint_130 : decode cX12_saint 130 = .ok (.aload_n 0, 1) := by decide +kernel
theorem dX12_saint_131 : decode cX12_saint 131 = .ok (.invokevirtual 126, 3) := by decide +kernel
theorem dX12_saint_134 : decode cX12_saint 134 = .ok (.aload_n 0, 1) := by decide +kernel
theorem dX12_saint_135 : decode cX12_saint 135 = .ok (.iconst 0, 1) := by decide +kernel
theorem dX12_saint_136 : decode cX12_saint 136 = .ok (.putfield 92, 3) := by decide +kernel
theorem dX12_saint_139 : decode cX12_saint 139 = .ok (.aload_n 0, 1) := by decide +kernel
theorem dX12_saint_140 : decode cX12_saint 140 = .ok (.getfield 104, 3) := by decide +kernel
theorem dX12_saint_143 : decode cX12_saint 143 = .ok (.iconst 1, 1) := by decide +kernel
theorem dX12_saint_144 : decode cX12_saint 144 = .ok (.isub, 1) := by decide +kernel
theorem dX12_saint_145 : decode cX12_saint 145 = .ok (.ireturn, 1) := by decide +kernel
theorem dX12_canSet_0 : decode cX12_canSet 0 = .ok (.iload_n 1, 1) := by decide +kernel
theorem dX12_canSet_1 : decode cX12_canSet 1 = .ok (.iconst 4, 1) := by decide +kernel
theorem dX12_canSet_2 : decode cX12_canSet 2 = .ok (.if_icmp .ne 12, 3) := by decide +kernel
theorem dX12_canSet_5 : decode cX12_canSet 5 = .ok (.aload_n 0, 1) := by decide +kernel
theorem dX12_canSet_6 : decode cX12_canSet 6 = .ok (.iload_n 3, 1) := by decide +kernel
theorem dX12_canSet_7 : decode cX12_canSet 7 = .ok (.iconst 0, 1) := by decide +kernel
theorem dX12_canSet_8 : decode cX12_canSet 8 = .ok (.bipush 9, 2) := by decide +kernel
theorem dX12_canSet_10 : decode cX12_canSet 10 = .ok (.invokevirtual 122, 3) := by decide +kernel
theorem dX12_canSet_13 : decode cX12_canSet 13 = .ok (.ireturn, 1) := by decide +kernel
theorem dX12_canSet_14 : decode cX12_canSet 14 = .ok (.iload_n 1, 1) := by decide +kernel
theorem dX12_canSet_15 : decode cX12_canSet 15 = .ok (.iconst 2, 1) := by decide +kernel
theorem dX12_canSet_16 : decode cX12_canSet 16 = .ok (.if_icmp .ne 29, 3) := by decide +kernel
theorem dX12_canSet_19 : decode cX12_canSet 19 = .ok (.aload_n 0, 1) := by decide +kernel
theorem dX12_canSet_20 : decode cX12_canSet 20 = .ok (.iload_n 2, 1) := by decide +kernel
theorem dX12_canSet_21 : decode cX12_canSet 21 = .ok (.invokevirtual 132, 3) := by decide +kernel
theorem dX12_canSet_24 : decode cX12_canSet 24 = .ok (.ifCond .eq 19, 3) := by decide +kernel
theorem dX12_canSet_27 : decode cX12_canSet 27 = .ok (.aload_n 0, 1) := by decide +kernel
theorem dX12_canSet_28 : decode cX12_canSet 28 = .ok (.iload_n 3, 1) := by decide +kernel
theorem dX12_canSet_29 : decode cX12_canSet 29 = .ok (.bipush (-99), 2) := by decide +kernel
theorem dX12_canSet_31 : decode cX12_canSet 31 = .ok (.bipush 99, 2) := by decide +kernel
theorem dX12_canSet_33 : decode cX12_canSet 33 = .ok (.invokevirtual 122, 3) := by decide +kernel
theorem dX12_canSet_36 : decode cX12_canSet 36 = .ok (.ifCond .eq 7, 3) := by decide +kernel
theorem dX12_canSet_39 : decode cX12_canSet 39 = .ok (.iconst 1, 1) := by decide +kernel
theorem dX12_canSet_40 : decode cX12_canSet 40 = .ok (.goto 4, 3) := by decide +kernel
theorem dX12_canSet_43 : decode cX12_canSet 43 = .ok (.iconst 0, 1) := by decide +kernel
theorem dX12_canSet_44 : decode cX12_canSet 44 = .ok (.ireturn, 1) := by decide +kernel
theorem dX12_canSet_45 : decode cX12_canSet 45 = .ok (.aload_n 0, 1) := by decide +kernel
theorem dX12_canSet_46 : decode cX12_canSet 46 = .ok (.iload_n 1, 1) := by decide +kernel
theorem dX12_canSet_47 : decode cX12_canSet 47 = .ok (.iconst 0, 1) := by decide +kernel
theorem dX12_canSet_48 : decode cX12_canSet 48 = .ok (.iconst 3, 1) := by decide +kernel
theorem dX12_canSet_49 : decode cX12_canSet 49 = .ok (.invokevirtual 122, 3) := by decide +kernel
theorem dX12_canSet_52 : decode cX12_canSet 52 = .ok (.ifCond .eq 45, 3) := by decide +kernel
theorem dX12_canSet_55 : decode cX12_canSet 55 = .ok (.aload_n 0, 1) := by decide +kernel
theorem dX12_canSet_56 : decode cX12_canSet 56 = .ok (.iload_n 2, 1) := by decide +kernel
theorem dX12_canSet_57 : decode cX12_canSet 57 = .ok (.invokevirtual 132, 3) := by decide +kernel
theorem dX12_canSet_60 : decode cX12_canSet 60 = .ok (.ifCond .eq 37, 3) := by decide +kernel
theorem dX12_canSet_63 : decode cX12_canSet 63 = .ok (.aload_n 0, 1) := by decide +kernel
theorem dX12_canSet_64 : decode cX12_canSet 64 = .ok (.iload_n 3, 1) := by decide +kernel
theorem dX12_canSet_65 : decode cX12_canSet 65 = .ok (.iconst 0, 1) := by decide +kernel
theorem dX12_canSet_66 : decode cX12_canSet 66 = .ok (.iload_n 1, 1) := by decide +kernel
theorem dX12_canSet_67 : decode cX12_canSet 67 = .ok (.ifCond .ne 8, 3) := by decide +kernel
theorem dX12_canSet_70 : decode cX12_canSet 70 = .ok (.bipush 120, 2) := by decide +kernel
theorem dX12_canSet_72 : decode cX12_canSet 72 = .ok (.goto 15, 3) := by decide +kernel
theorem dX12_canSet_75 : decode cX12_canSet 75 = .ok (.iload_n 1, 1) := by decide +kernel
theorem dX12_canSet_76 : decode cX12_canSet 76 = .ok (.iconst 1, 1) := by decide +kernel
theorem dX12_canSet_77 : decode cX12_canSet 77 = .ok (.if_icmp .ne 8, 3) := by decide +kernel
theorem dX12_canSet_80 : decode cX12_canSet 80 = .ok (.bipush 9, 2) := by decide +kernel
theorem dX12_canSet_82 : decode cX12_canSet 82 = .ok (.goto 5, 3) := by decide +kernel
theorem dX12_canSet_85 : decode cX12_canSet 85 = .ok (.bipush 99, 2) := by decide +kernel
theorem dX12_canSet_87 : decode cX12_canSet 87 = .ok (.invokevirtual 122, 3) := by decide +kernel
theorem dX12_canSet_90 : decode cX12_canSet 90 = .ok (.ifCond .eq 7, 3) := by decide +kernel
theorem dX12_canSet_93 : decode cX12_canSet 93 = .ok (.iconst 1, 1) := by decide +kernel
theorem dX12_canSet_94 : decode cX12_canSet 94 = .ok (.goto 4, 3) := by decide +kernel
theorem dX12_canSet_97 : decode cX12_canSet 97 = .ok (.iconst 0, 1) := by decide +kernel
theorem dX12_canSet_98 : decode cX12_canSet 98 = .ok (.ireturn, 1) := by decide +kernel
theorem dX12_set_0 : decode cX12_set 0 = .ok (.aload_n 0, 1) := by decide +kernel
theorem dX12_set_1 : decode cX12_set 1 = .ok (.iconst 0, 1) := by decide +kernel
theorem dX12_set_2 : decode cX12_set 2 = .ok (.putfield 89, 3) := by decide +kernel
theorem dX12_set_5 : decode cX12_set 5 = .ok (.aload_n 0, 1) := by decide +kernel
theorem dX12_set_6 : decode cX12_set 6 = .ok (.iload_n 1, 1) := by decide +kernel
theorem dX12_set_7 : decode cX12_set 7 = .ok (.iload_n 2, 1) := by decide +kernel
theorem dX12_set_8 : decode cX12_set 8 = .ok (.iload_n 3, 1) := by decide +kernel
theorem dX12_set_9 : decode cX12_set 9 = .ok (.invokevirtual 136, 3) := by decide +kernel
theorem dX12_set_12 : decode cX12_set 12 = .ok (.ifCond .ne 5, 3) := by decide +kernel
theorem dX12_set_15 : decode cX12_set 15 = .ok (.iconst 0, 1) := by decide +kernel
theorem dX12_set_16 : decode cX12_set 16 = .ok (.ireturn, 1) := by decide +kernel
theorem dX12_set_17 : decode cX12_set 17 = .ok (.iload_n 1, 1) := by decide +kernel
theorem dX12_set_18 : decode cX12_set 18 = .ok (.ifCond .ne 13, 3) := by decide +kernel
theorem dX12_set_21 : decode cX12_set 21 = .ok (.aload_n 0, 1) := by decide +kernel
theorem dX12_set_22 : decode cX12_set 22 = .ok (.getfield 7, 3) := by decide +kernel
theorem dX12_set_25 : decode cX12_set 25 = .ok (.bipush 7, 2) := by decide +kernel
theorem dX12_set_27 : decode cX12_set 27 = .ok (.iload_n 2, 1) := by decide +kernel
theorem dX12_set_28 : decode cX12_set 28 = .ok (.iadd, 1) := by decide +kernel
theorem dX12_set_29 : decode cX12_set 29 = .ok (.iload_n 3, 1) := by decide +kernel
theorem dX12_set_30 : decode cX12_set 30 = .ok (.iastore, 1) := by decide +kernel
theorem dX12_set_31 : decode cX12_set 31 = .ok (.iload_n 1, 1) := by decide +kernel
theorem dX12_set_32 : decode cX12_set 32 = .ok (.iconst 1, 1) := by decide +kernel
theorem dX12_set_33 : decode cX12_set 33 = .ok (.if_icmp .ne 10, 3) := by decide +kernel
theorem dX12_set_36 : decode cX12_set 36 = .ok (.aload_n 0, 1) := by decide +kernel
theorem dX12_set_37 : decode cX12_set 37 = .ok (.getfield 19, 3) := by decide +kernel
theorem dX12_set_40 : decode cX12_set 40 = .ok (.iload_n 2, 1) := by decide +kernel
theorem dX12_set_41 : decode cX12_set 41 = .ok (.iload_n 3, 1) := by decide +kernel
theorem dX12_set_42 : decode cX12_set 42 = .ok (.iastore, 1) := by decide +kernel
theorem dX12_set_43 : decode cX12_set 43 = .ok (.iload_n 1, 1) := by decide +kernel
theorem dX12_set_44 : decode cX12_set 44 = .ok (.iconst 2, 1) := by decide +kernel
theorem dX12_set_45 : decode cX12_set 45 = .ok (.if_icmp .ne 13, 3) := by decide +kernel
theorem dX12_set_48 : decode cX12_set 48 = .ok (.aload_n 0, 1) := by decide +kernel
theorem dX12_set_49 : decode cX12_set 49 = .ok (.getfield 7, 3) := by decide +kernel
theorem dX12_set_52 : decode cX12_set 52 = .ok (.bipush 21, 2) := by decide +kernel
theorem dX12_set_54 : decode cX12_set 54 = .ok (.iload_n 2, 1) := by decide +kernel
theorem dX12_set_55 : decode cX12_set 55 = .ok (.iadd, 1) := by decide +kernel
theorem dX12_set_56 : decode cX12_set 56 = .ok (.iload_n 3, 1) := by decide +kernel
theorem dX12_set_57 : decode cX12_set 57 = .ok (.iastore, 1) := by decide +kernel
theorem dX12_set_58 : decode cX12_set 58 = .ok (.iload_n 1, 1) := by decide +kernel
theorem dX12_set_59 : decode cX12_set 59 = .ok (.iconst 3, 1) := by decide +kernel
theorem dX12_set_60 : decode cX12_set 60 = .ok (.if_icmp .ne 13, 3) := by decide +kernel
theorem dX12_set_63 : decode cX12_set 63 = .ok (.aload_n 0, 1) := by decide +kernel
theorem dX12_set_64 : decode cX12_set 64 = .ok (.getfield 7, 3) := by decide +kernel
theorem dX12_set_67 : decode cX12_set 67 = .ok (.bipush 35, 2) := by decide +kernel
theorem dX12_set_69 : decode cX12_set 69 = .ok (.iload_n 2, 1) := by decide +kernel
theorem dX12_set_70 : decode cX12_set 70 = .ok (.iadd, 1) := by decide +kernel
theorem dX12_set_71 : decode cX12_set 71 = .ok (.iload_n 3, 1) := by decide +kernel
theorem dX12_set_72 : decode cX12_set 72 = .ok (.iastore, 1) := by decide +kernel
theorem dX12_set_73 : decode cX12_set 73 = .ok (.iload_n 1, 1) := by decide +kernel
theorem dX12_set_74 : decode cX12_set 74 = .ok (.iconst 4, 1) := by decide +kernel
theorem dX12_set_75 : decode cX12_set 75 = .ok (.if_icmp .ne 10, 3) := by decide +kernel
theorem dX12_set_78 : decode cX12_set 78 = .ok (.aload_n 0, 1) := by decide +kernel
theorem dX12_set_79 : decode cX12_set 79 = .ok (.getfield 7, 3) := by decide +kernel
theorem dX12_set_82 : decode cX12_set 82 = .ok (.iconst 5, 1) := by decide +kernel
theorem dX12_set_83 : decode cX12_set 83 = .ok (.iload_n 3, 1) := by decide +kernel
theorem dX12_set_84 : decode cX12_set 84 = .ok (.iastore, 1) := by decide +kernel
theorem dX12_set_85 : decode cX12_set 85 = .ok (.aload_n 0, 1) := by decide +kernel
theorem dX12_set_86 : decode cX12_set 86 = .ok (.iconst 0, 1) := by decide +kernel
theorem dX12_set_87 : decode cX12_set 87 = .ok (.putfield 92, 3) := by decide +kernel
theorem dX12_set_90 : decode cX12_set 90 = .ok (.iconst 1, 1) := by decide +kernel
theorem dX12_set_91 : decode cX12_set 91 = .ok (.ireturn, 1) := by decide +kernel
theorem dX12_types_0 : decode cX12_types 0 = .ok (.bipush 24, 2) := by decide +kernel
theorem dX12_types_2 : decode cX12_types 2 = .ok (.istore_n 2, 1) := by decide +kernel
theorem dX12_types_3 : decode cX12_types 3 = .ok (.iload_n 2, 1) := by decide +kernel
theorem dX12_types_4 : decode cX12_types 4 = .ok (.ifCond .lt 35, 3) := by decide +kernel
theorem dX12_types_7 : decode cX12_types 7 = .ok (.aload_n 0, 1) := by decide +kernel
theorem dX12_types_8 : decode cX12_types 8 = .ok (.getfield 25, 3) := by decide +kernel
theorem dX12_types_11 : decode cX12_types 11 = .ok (.aload_n 0, 1) := by decide +kernel
theorem dX12_types_12 : decode cX12_types 12 = .ok (.getfield 139, 3) := by decide +kernel
theorem dX12_types_15 : decode cX12_types 15 = .ok (.iload_n 1, 1) := by decide +kernel
theorem dX12_types_16 : decode cX12_types 16 = .ok (.iload_n 2, 1) := by decide +kernel
theorem dX12_types_17 : decode cX12_types 17 = .ok (.ishr, 1) := by decide +kernel
theorem dX12_types_18 : decode cX12_types 18 = .ok (.sipush 255, 3) := by decide +kernel
theorem dX12_types_21 : decode cX12_types 21 = .ok (.iand, 1) := by decide +kernel
theorem dX12_types_22 : decode cX12_types 22 = .ok (.iastore, 1) := by decide +kernel
theorem dX12_types_23 : decode cX12_types 23 = .ok (.aload_n 0, 1) := by decide +kernel
theorem dX12_types_24 : decode cX12_types 24 = .ok (.aload_n 0, 1) := by decide +kernel
theorem dX12_types_25 : decode cX12_types 25 = .ok (.getfield 139, 3) := by decide +kernel
theorem dX12_types_28 : decode cX12_types 28 = .ok (.iconst 1, 1) := by decide +kernel
theorem dX12_types_29 : decode cX12_types 29 = .ok (.iadd, 1) := by decide +kernel
theorem dX12_types_30 : decode cX12_types 30 = .ok (.putfield 139, 3) := by decide +kernel
theorem dX12_types_33 : decode cX12_types 33 = .ok (.iinc 2 (-8), 3) := by decide +kernel
theorem dX12_types_36 : decode cX12_types 36 = .ok (.goto (-33), 3) := by decide +kernel
theorem dX12_types_39 : decode cX12_types 39 = .ok (.return_, 1) := by decide +kernel
theorem dX12_feed_0 : decode cX12_feed 0 = .ok (.aload_n 0, 1) := by decide +kernel
theorem dX12_feed_1 : decode cX12_feed 1 = .ok (.iconst 0, 1) := by decide +kernel
theorem dX12_feed_2 : decode cX12_feed 2 = .ok (.putfield 89, 3) := by decide +kernel
theorem dX12_feed_5 : decode cX12_feed 5 = .ok (.aload_n 0, 1) := by decide +kernel
theorem dX12_feed_6 : decode cX12_feed 6 = .ok (.getfield 139, 3) := by decide +kernel
theorem dX12_feed_9 : decode cX12_feed 9 = .ok (.sipush 380, 3) := by decide +kernel
theorem dX12_feed_12 : decode cX12_feed 12 = .ok (.if_icmp .le 5, 3) := by decide +kernel
theorem dX12_feed_15 : decode cX12_feed 15 = .ok (.iconst (-1), 1) := by decide +kernel
theorem dX12_feed_16 : decode cX12_feed 16 = .ok (.ireturn, 1) := by decide +kernel
theorem dX12_feed_17 : decode cX12_feed 17 = .ok (.aload_n 0, 1) := by decide +kernel
theorem dX12_feed_18 : decode cX12_feed 18 = .ok (.iload_n 1, 1) := by decide +kernel
theorem dX12_feed_19 : decode cX12_feed 19 = .ok (.invokevirtual 142, 3) := by decide +kernel
theorem dX12_feed_22 : decode cX12_feed 22 = .ok (.aload_n 0, 1) := by decide +kernel
theorem dX12_feed_23 : decode cX12_feed 23 = .ok (.iload_n 2, 1) := by decide +kernel
theorem dX12_feed_24 : decode cX12_feed 24 = .ok (.invokevirtual 142, 3) := by decide +kernel
theorem dX12_feed_27 : decode cX12_feed 27 = .ok (.aload_n 0, 1) := by decide +kernel
theorem dX12_feed_28 : decode cX12_feed 28 = .ok (.iload_n 3, 1) := by decide +kernel
theorem dX12_feed_29 : decode cX12_feed 29 = .ok (.invokevirtual 142, 3) := by decide +kernel
theorem dX12_feed_32 : decode cX12_feed 32 = .ok (.aload_n 0, 1) := by decide +kernel
theorem dX12_feed_33 : decode cX12_feed 33 = .ok (.iload 4, 2) := by decide +kernel
theorem dX12_feed_35 : decode cX12_feed 35 = .ok (.invokevirtual 142, 3) := by decide +kernel
theorem dX12_feed_38 : decode cX12_feed 38 = .ok (.aload_n 0, 1) := by decide +kernel
theorem dX12_feed_39 : decode cX12_feed 39 = .ok (.iload 5, 2) := by decide +kernel
theorem dX12_feed_41 : decode cX12_feed 41 = .ok (.invokevirtual 142, 3) := by decide +kernel
theorem dX12_feed_44 : decode cX12_feed 44 = .ok (.aload_n 0, 1) := by decide +kernel
theorem dX12_feed_45 : decode cX12_feed 45 = .ok (.getfield 139, 3) := by decide +kernel
theorem dX12_feed_48 : decode cX12_feed 48 = .ok (.ireturn, 1) := by decide +kernel
theorem dX12_end_0 : decode cX12_end 0 = .ok (.aload_n 0, 1) := by decide +kernel
theorem dX12_end_1 : decode cX12_end 1 = .ok (.iconst 0, 1) := by decide +kernel
theorem dX12_end_2 : decode cX12_end 2 = .ok (.putfield 89, 3) := by decide +kernel
theorem dX12_end_5 : decode cX12_end 5 = .ok (.aload_n 0, 1) := by decide +kernel
theorem dX12_end_6 : decode cX12_end 6 = .ok (.iload_n 1, 1) := by decide +kernel
theorem dX12_end_7 : decode cX12_end 7 = .ok (.iconst 0, 1) := by decide +kernel
theorem dX12_end_8 : decode cX12_end 8 = .ok (.aload_n 0, 1) := by decide +kernel
theorem dX12_end_9 : decode cX12_end 9 = .ok (.getfield 139, 3) := by decide +kernel
theorem dX12_end_12 : decode cX12_end 12 = .ok (.invokevirtual 122, 3) := by decide +kernel
theorem dX12_end_15 : decode cX12_end 15 = .ok (.ifCond .ne 5, 3) := by decide +kernel
theorem dX12_end_18 : decode cX12_end 18 = .ok (.iconst 0, 1) := by decide +kernel
theorem dX12_end_19 : decode cX12_end 19 = .ok (.ireturn, 1) := by decide +kernel
theorem dX12_end_20 : decode cX12_end 20 = .ok (.aload_n 0, 1) := by decide +kernel
theorem dX12_end_21 : decode cX12_end 21 = .ok (.iload_n 1, 1) := by decide +kernel
theorem dX12_end_22 : decode cX12_end 22 = .ok (.putfield 139, 3) := by decide +kernel
theorem dX12_end_25 : decode cX12_end 25 = .ok (.iconst 1, 1) := by decide +kernel
theorem dX12_end_26 : decode cX12_end 26 = .ok (.ireturn, 1) := by decide +kernel
theorem dX12_raw_0 : decode cX12_raw 0 = .ok (.iload_n 1, 1) := by decide +kernel
theorem dX12_raw_1 : decode cX12_raw 1 = .ok (.aload_n 0, 1) := by decide +kernel
theorem dX12_raw_2 : decode cX12_raw 2 = .ok (.getfield 139, 3) := by decide +kernel
theorem dX12_raw_5 : decode cX12_raw 5 = .ok (.if_icmp .ge 12, 3) := by decide +kernel
theorem dX12_raw_8 : decode cX12_raw 8 = .ok (.aload_n 0, 1) := by decide +kernel
theorem dX12_raw_9 : decode cX12_raw 9 = .ok (.getfield 25, 3) := by decide +kernel
theorem dX12_raw_12 : decode cX12_raw 12 = .ok (.iload_n 1, 1) := by decide +kernel
theorem dX12_raw_13 : decode cX12_raw 13 = .ok (.iaload, 1) := by decide +kernel
theorem dX12_raw_14 : decode cX12_raw 14 = .ok (.goto 4, 3) := by decide +kernel
theorem dX12_raw_17 : decode cX12_raw 17 = .ok (.iconst (-1), 1) := by decide +kernel
theorem dX12_raw_18 : decode cX12_raw 18 = .ok (.ireturn, 1) := by decide +kernel
theorem dX12_isLetter_0 : decode cX12_isLetter 0 = .ok (.aload_n 0, 1) := by decide +kernel
theorem dX12_isLetter_1 : decode cX12_isLetter 1 = .ok (.iload_n 1, 1) := by decide +kernel
theorem dX12_isLetter_2 : decode cX12_isLetter 2 = .ok (.bipush 97, 2) := by decide +kernel
theorem dX12_isLetter_4 : decode cX12_isLetter 4 = .ok (.bipush 122, 2) := by decide +kernel
theorem dX12_isLetter_6 : decode cX12_isLetter 6 = .ok (.invokevirtual 122, 3) := by decide +kernel
theorem dX12_isLetter_9 : decode cX12_isLetter 9 = .ok (.ifCond .ne 15, 3) := by decide +kernel
theorem dX12_isLetter_12 : decode cX12_isLetter 12 = .ok (.aload_n 0, 1) := by decide +kernel
theorem dX12_isLetter_13 : decode cX12_isLetter 13 = .ok (.iload_n 1, 1) := by decide +kernel
theorem dX12_isLetter_14 : decode cX12_isLetter 14 = .ok (.bipush 65, 2) := by decide +kernel
theorem dX12_isLetter_16 : decode cX12_isLetter 16 = .ok (.bipush 90, 2) := by decide +kernel
theorem dX12_isLetter_18 : decode cX12_isLetter 18 = .ok (.invokevirtual 122, 3) := by decide +kernel
theorem dX12_isLetter_21 : decode cX12_isLetter 21 = .ok (.ifCond .eq 7, 3) := by decide +kernel
theorem dX12_isLetter_24 : decode cX12_isLetter 24 = .ok (.iconst 1, 1) := by decide +kernel
theorem dX12_isLetter_25 : decode cX12_isLetter 25 = .ok (.goto 4, 3) := by decide +kernel
theorem dX12_isLetter_28 : decode cX12_isLetter 28 = .ok (.iconst 0, 1) := by decide +kernel
theorem dX12_isLetter_29 : decode cX12_isLetter 29 = .ok (.ireturn, 1) := by decide +kernel
theorem dX12_isDigit_0 : decode cX12_isDigit 0 = .ok (.aload_n 0, 1) := by decide +kernel
theorem dX12_isDigit_1 : decode cX12_isDigit 1 = .ok (.iload_n 1, 1) := by decide +kernel
theorem dX12_isDigit_2 : decode cX12_isDigit 2 = .ok (.bipush 48, 2) := by decide +kernel
theorem dX12_isDigit_4 : decode cX12_isDigit 4 = .ok (.bipush 57, 2) := by decide +kernel
theorem dX12_isDigit_6 : decode cX12_isDigit 6 = .ok (.invokevirtual 122, 3) := by decide +kernel
theorem dX12_isDigit_9 : decode cX12_isDigit 9 = .ok (.ireturn, 1) := by decide +kernel
theorem dX12_isMarkSign_0 : decode cX12_isMarkSign 0 = .ok (.iload_n 1, 1) := by decide +kernel
theorem dX12_isMarkSign_1 : decode cX12_isMarkSign 1 = .ok (.bipush 59, 2) := by decide +kernel
theorem dX12_isMarkSign_3 : decode cX12_isMarkSign 3 = .ok (.if_icmp .eq 57, 3) := by decide +kernel
theorem dX12_isMarkSign_6 : decode cX12_isMarkSign 6 = .ok (.iload_n 1, 1) := by decide +kernel
theorem dX12_isMarkSign_7 : decode cX12_isMarkSign 7 = .ok (.bipush 43, 2) := by decide +kernel
theorem dX12_isMarkSign_9 : decode cX12_isMarkSign 9 = .ok (.if_icmp .eq 51, 3) := by decide +kernel
theorem dX12_isMarkSign_12 : decode cX12_isMarkSign 12 = .ok (.iload_n 1, 1) := by decide +kernel
theorem dX12_isMarkSign_13 : decode cX12_isMarkSign 13 = .ok (.bipush 45, 2) := by decide +kernel
theorem dX12_isMarkSign_15 : decode cX12_isMarkSign 15 = .ok (.if_icmp .eq 45, 3) := by decide +kernel
theorem dX12_isMarkSign_18 : decode cX12_isMarkSign 18 = .ok (.iload_n 1, 1) := by decide +kernel
theorem dX12_isMarkSign_19 : decode cX12_isMarkSign 19 = .ok (.bipush 42, 2) := by decide +kernel
theorem dX12_isMarkSign_21 : decode cX12_isMarkSign 21 = .ok (.if_icmp .eq 39, 3) := by decide +kernel
theorem dX12_isMarkSign_24 : decode cX12_isMarkSign 24 = .ok (.iload_n 1, 1) := by decide +kernel
theorem dX12_isMarkSign_25 : decode cX12_isMarkSign 25 = .ok (.bipush 47, 2) := by decide +kernel
theorem dX12_isMarkSign_27 : decode cX12_isMarkSign 27 = .ok (.if_icmp .eq 33, 3) := by decide +kernel
theorem dX12_isMarkSign_30 : decode cX12_isMarkSign 30 = .ok (.iload_n 1, 1) := by decide +kernel
theorem dX12_isMarkSign_31 : decode cX12_isMarkSign 31 = .ok (.bipush 40, 2) := by decide +kernel
theorem dX12_isMarkSign_33 : decode cX12_isMarkSign 33 = .ok (.if_icmp .eq 27, 3) := by decide +kernel
theorem dX12_isMarkSign_36 : decode cX12_isMarkSign 36 = .ok (.iload_n 1, 1) := by decide +kernel
theorem dX12_isMarkSign_37 : decode cX12_isMarkSign 37 = .ok (.bipush 41, 2) := by decide +kernel
theorem dX12_isMarkSign_39 : decode cX12_isMarkSign 39 = .ok (.if_icmp .eq 21, 3) := by decide +kernel
theorem dX12_isMarkSign_42 : decode cX12_isMarkSign 42 = .ok (.iload_n 1, 1) := by decide +kernel
theorem dX12_isMarkSign_43 : decode cX12_isMarkSign 43 = .ok (.bipush 60, 2) := by decide +kernel
theorem dX12_isMarkSign_45 : decode cX12_isMarkSign 45 = .ok (.if_icmp .eq 15, 3) := by decide +kernel
theorem dX12_isMarkSign_48 : decode cX12_isMarkSign 48 = .ok (.iload_n 1, 1) := by decide +kernel
theorem dX12_isMarkSign_49 : decode cX12_isMarkSign 49 = .ok (.bipush 61, 2) := by decide +kernel
theorem dX12_isMarkSign_51 : decode cX12_isMarkSign 51 = .ok (.if_icmp .eq 9, 3) := by decide +kernel
theorem dX12_isMarkSign_54 : decode cX12_isMarkSign 54 = .ok (.iload_n 1, 1) := by decide +kernel
theorem dX12_isMarkSign_55 : decode cX12_isMarkSign 55 = .ok (.bipush 62, 2) := by decide +kernel
theorem dX12_isMarkSign_57 : decode cX12_isMarkSign 57 = .ok (.if_icmp .ne 7, 3) := by decide +kernel
theorem dX12_isMarkSign_60 : decode cX12_isMarkSign 60 = .ok (.iconst 1, 1) := by decide +kernel
theorem dX12_isMarkSign_61 : decode cX12_isMarkSign 61 = .ok (.goto 4, 3) := by decide +kernel
theorem dX12_isMarkSign_64 : decode cX12_isMarkSign 64 = .ok (.iconst 0, 1) := by decide +kernel
theorem dX12_isMarkSign_65 : decode cX12_isMarkSign 65 = .ok (.ireturn, 1) := by decide +kernel
theorem dX12_wordAt_0 : decode cX12_wordAt 0 = .ok (.iconst (-1), 1) := by decide +kernel
theorem dX12_wordAt_1 : decode cX12_wordAt 1 = .ok (.istore_n 3, 1) := by decide +kernel
theorem dX12_wordAt_2 : decode cX12_wordAt 2 = .ok (.iconst 0, 1) := by decide +kernel
theorem dX12_wordAt_3 : decode cX12_wordAt 3 = .ok (.istore 4, 2) := by decide +kernel
theorem dX12_wordAt_5 : decode cX12_wordAt 5 = .ok (.iload 4, 2) := by decide +kernel
theorem dX12_wordAt_7 : decode cX12_wordAt 7 = .ok (.bipush 124, 2) := by decide +kernel
theorem dX12_wordAt_9 : decode cX12_wordAt 9 = .ok (.if_icmp .ge 108, 3) := by decide +kernel
theorem dX12_wordAt_12 : decode cX12_wordAt 12 = .ok (.iconst 0, 1) := by decide +kernel
theorem dX12_wordAt_13 : decode cX12_wordAt 13 = .ok (.istore 5, 2) := by decide +kernel
theorem dX12_wordAt_15 : decode cX12_wordAt 15 = .ok (.iload_n 3, 1) := by decide +kernel
theorem dX12_wordAt_16 : decode cX12_wordAt 16 = .ok (.iconst 1, 1) := by decide +kernel
theorem dX12_wordAt_17 : decode cX12_wordAt 17 = .ok (.iadd, 1) := by decide +kernel
theorem dX12_wordAt_18 : decode cX12_wordAt 18 = .ok (.istore_n 3, 1) := by decide +kernel
theorem dX12_wordAt_19 : decode cX12_wordAt 19 = .ok (.iload_n 1, 1) := by decide +kernel
theorem dX12_wordAt_20 : decode cX12_wordAt 20 = .ok (.iload 5, 2) := by decide +kernel
theorem dX12_wordAt_22 : decode cX12_wordAt 22 = .ok (.iadd, 1) := by decide +kernel
theorem dX12_wordAt_23 : decode cX12_wordAt 23 = .ok (.iload_n 2, 1) := by decide +kernel
theorem dX12_wordAt_24 : decode cX12_wordAt 24 = .ok (.if_icmp .ge 36, 3) := by decide +kernel
theorem dX12_wordAt_27 : decode cX12_wordAt 27 = .ok (.aload_n 0, 1) := by decide +kernel
theorem dX12_wordAt_28 : decode cX12_wordAt 28 = .ok (.getfield 28, 3) := by decide +kernel
theorem dX12_wordAt_31 : decode cX12_wordAt 31 = .ok (.iload 4, 2) := by decide +kernel
theorem dX12_wordAt_33 : decode cX12_wordAt 33 = .ok (.iconst 1, 1) := by decide +kernel
theorem dX12_wordAt_34 : decode cX12_wordAt 34 = .ok (.iadd, 1) := by decide +kernel
theorem dX12_wordAt_35 : decode cX12_wordAt 35 = .ok (.iload 5, 2) := by decide +kernel
theorem dX12_wordAt_37 : decode cX12_wordAt 37 = .ok (.iadd, 1) := by decide +kernel
theorem dX12_wordAt_38 : decode cX12_wordAt 38 = .ok (.iaload, 1) := by decide +kernel
theorem dX12_wordAt_39 : decode cX12_wordAt 39 = .ok (.aload_n 0, 1) := by decide +kernel
theorem dX12_wordAt_40 : decode cX12_wordAt 40 = .ok (.getfield 25, 3) := by decide +kernel
theorem dX12_wordAt_43 : decode cX12_wordAt 43 = .ok (.iload_n 1, 1) := by decide +kernel
theorem dX12_wordAt_44 : decode cX12_wordAt 44 = .ok (.iload 5, 2) := by decide +kernel
theorem dX12_wordAt_46 : decode cX12_wordAt 46 = .ok (.iadd, 1) := by decide +kernel
theorem dX12_wordAt_47 : decode cX12_wordAt 47 = .ok (.iaload, 1) := by decide +kernel
theorem dX12_wordAt_48 : decode cX12_wordAt 48 = .ok (.if_icmp .ne 12, 3) := by decide +kernel
theorem dX12_wordAt_51 : decode cX12_wordAt 51 = .ok (.iload 5, 2) := by decide +kernel
theorem dX12_wordAt_53 : decode cX12_wordAt 53 = .ok (.iconst 1, 1) := by decide +kernel
theorem dX12_wordAt_54 : decode cX12_wordAt 54 = .ok (.iadd, 1) := by decide +kernel
theorem dX12_wordAt_55 : decode cX12_wordAt 55 = .ok (.istore 5, 2) := by decide +kernel
theorem dX12_wordAt_57 : decode cX12_wordAt 57 = .ok (.goto (-38), 3) := by decide +kernel
theorem dX12_wordAt_60 : decode cX12_wordAt 60 = .ok (.iload_n 1, 1) := by decide +kernel
theorem dX12_wordAt_61 : decode cX12_wordAt 61 = .ok (.iload 5, 2) := by decide +kernel
theorem dX12_wordAt_63 : decode cX12_wordAt 63 = .ok (.iadd, 1) := by decide +kernel
theorem dX12_wordAt_64 : decode cX12_wordAt 64 = .ok (.iload_n 2, 1) := by decide +kernel
theorem dX12_wordAt_65 : decode cX12_wordAt 65 = .ok (.if_icmp .ne 22, 3) := by decide +kernel
theorem dX12_wordAt_68 : decode cX12_wordAt 68 = .ok (.aload_n 0, 1) := by decide +kernel
theorem dX12_wordAt_69 : decode cX12_wordAt 69 = .ok (.getfield 28, 3) := by decide +kernel
theorem dX12_wordAt_72 : decode cX12_wordAt 72 = .ok (.iload 4, 2) := by decide +kernel
theorem dX12_wordAt_74 : decode cX12_wordAt 74 = .ok (.iconst 1, 1) := by decide +kernel
theorem dX12_wordAt_75 : decode cX12_wordAt 75 = .ok (.iadd, 1) := by decide +kernel
theorem dX12_wordAt_76 : decode cX12_wordAt 76 = .ok (.iload 5, 2) := by decide +kernel
theorem dX12_wordAt_78 : decode cX12_wordAt 78 = .ok (.iadd, 1) := by decide +kernel
theorem dX12_wordAt_79 : decode cX12_wordAt 79 = .ok (.iaload, 1) := by decide +kernel
theorem dX12_wordAt_80 : decode cX12_wordAt 80 = .ok (.bipush 32, 2) := by decide +kernel
theorem dX12_wordAt_82 : decode cX12_wordAt 82 = .ok (.if_icmp .ne 5, 3) := by decide +kernel
theorem dX12_wordAt_85 : decode cX12_wordAt 85 = .ok (.iload_n 3, 1) := by decide +kernel
theorem dX12_wordAt_86 : decode cX12_wordAt 86 = .ok (.ireturn, 1) := by decide +kernel
theorem dX12_wordAt_87 : decode cX12_wordAt 87 = .ok (.iload 4, 2) := by decide +kernel
theorem dX12_wordAt_89 : decode cX12_wordAt 89 = .ok (.iconst 1, 1) := by decide +kernel
theorem dX12_wordAt_90 : decode cX12_wordAt 90 = .ok (.iadd, 1) := by decide +kernel
theorem dX12_wordAt_91 : decode cX12_wordAt 91 = .ok (.istore 4, 2) := by decide +kernel
theorem dX12_wordAt_93 : decode cX12_wordAt 93 = .ok (.aload_n 0, 1) := by decide +kernel
theorem dX12_wordAt_94 : decode cX12_wordAt 94 = .ok (.getfield 28, 3) := by decide +kernel
theorem dX12_wordAt_97 : decode cX12_wordAt 97 = .ok (.iload 4, 2) := by decide +kernel
theorem dX12_wordAt_99 : decode cX12_wordAt 99 = .ok (.iaload, 1) := by decide +kernel
theorem dX12_wordAt_100 : decode cX12_wordAt 100 = .ok (.bipush 32, 2) := by decide +kernel
theorem dX12_wordAt_102 : decode cX12_wordAt 102 = .ok (.if_icmp .eq 12, 3) := by decide +kernel
theorem dX12_wordAt_105 : decode cX12_wordAt 105 = .ok (.iload 4, 2) := by decide +kernel
theorem dX12_wordAt_107 : decode cX12_wordAt 107 = .ok (.iconst 1, 1) := by decide +kernel
theorem dX12_wordAt_108 : decode cX12_wordAt 108 = .ok (.iadd, 1) := by decide +kernel
theorem dX12_wordAt_109 : decode cX12_wordAt 109 = .ok (.istore 4, 2) := by decide +kernel
theorem dX12_wordAt_111 : decode cX12_wordAt 111 = .ok (.goto (-18), 3) := by decide +kernel
theorem dX12_wordAt_114 : decode cX12_wordAt 114 = .ok (.goto (-109), 3) := by decide +kernel
theorem dX12_wordAt_117 : decode cX12_wordAt 117 = .ok (.iconst (-1), 1) := by decide +kernel
theorem dX12_wordAt_118 : decode cX12_wordAt 118 = .ok (.ireturn, 1) := by decide +kernel
theorem dX12_reads_0 : decode cX12_reads 0 = .ok (.aload_n 0, 1) := by decide +kernel
theorem dX12_reads_1 : decode cX12_reads 1 = .ok (.aload_n 0, 1) := by decide +kernel
theorem dX12_reads_2 : decode cX12_reads 2 = .ok (.getfield 145, 3) := by decide +kernel
theorem dX12_reads_5 : decode cX12_reads 5 = .ok (.invokevirtual 148, 3) := by decide +kernel
theorem dX12_reads_8 : decode cX12_reads 8 = .ok (.bipush 32, 2) := by decide +kernel
theorem dX12_reads_10 : decode cX12_reads 10 = .ok (.if_icmp .eq 16, 3) := by decide +kernel
theorem dX12_reads_13 : decode cX12_reads 13 = .ok (.aload_n 0, 1) := by decide +kernel
theorem dX12_reads_14 : decode cX12_reads 14 = .ok (.aload_n 0, 1) := by decide +kernel
theorem dX12_reads_15 : decode cX12_reads 15 = .ok (.getfield 145, 3) := by decide +kernel
theorem dX12_reads_18 : decode cX12_reads 18 = .ok (.invokevirtual 148, 3) := by decide +kernel
theorem dX12_reads_21 : decode cX12_reads 21 = .ok (.bipush 10, 2) := by decide +kernel
theorem dX12_reads_23 : decode cX12_reads 23 = .ok (.if_icmp .ne 16, 3) := by decide +kernel
theorem dX12_reads_26 : decode cX12_reads 26 = .ok (.aload_n 0, 1) := by decide +kernel
theorem dX12_reads_27 : decode cX12_reads 27 = .ok (.aload_n 0, 1) := by decide +kernel
theorem dX12_reads_28 : decode cX12_reads 28 = .ok (.getfield 145, 3) := by decide +kernel
theorem dX12_reads_31 : decode cX12_reads 31 = .ok (.iconst 1, 1) := by decide +kernel
theorem dX12_reads_32 : decode cX12_reads 32 = .ok (.iadd, 1) := by decide +kernel
theorem dX12_reads_33 : decode cX12_reads 33 = .ok (.putfield 145, 3) := by decide +kernel
theorem dX12_reads_36 : decode cX12_reads 36 = .ok (.goto (-36), 3) := by decide +kernel
theorem dX12_reads_39 : decode cX12_reads 39 = .ok (.aload_n 0, 1) := by decide +kernel
theorem dX12_reads_40 : decode cX12_reads 40 = .ok (.aload_n 0, 1) := by decide +kernel
theorem dX12_reads_41 : decode cX12_reads 41 = .ok (.getfield 145, 3) := by decide +kernel
theorem dX12_reads_44 : decode cX12_reads 44 = .ok (.putfield 151, 3) := by decide +kernel
theorem dX12_reads_47 : decode cX12_reads 47 = .ok (.aload_n 0, 1) := by decide +kernel
theorem dX12_reads_48 : decode cX12_reads 48 = .ok (.iconst 1, 1) := by decide +kernel
theorem dX12_reads_49 : decode cX12_reads 49 = .ok (.putfield 154, 3) := by decide +kernel
theorem dX12_reads_52 : decode cX12_reads 52 = .ok (.aload_n 0, 1) := by decide +kernel
theorem dX12_reads_53 : decode cX12_reads 53 = .ok (.aload_n 0, 1) := by decide +kernel
theorem dX12_reads_54 : decode cX12_reads 54 = .ok (.getfield 145, 3) := by decide +kernel
theorem dX12_reads_57 : decode cX12_reads 57 = .ok (.invokevirtual 148, 3) := by decide +kernel
theorem dX12_reads_60 : decode cX12_reads 60 = .ok (.istore_n 1, 1) := by decide +kernel
theorem dX12_reads_61 : decode cX12_reads 61 = .ok (.iload_n 1, 1) := by decide +kernel
theorem dX12_reads_62 : decode cX12_reads 62 = .ok (.iconst (-1), 1) := by decide +kernel
theorem dX12_reads_63 : decode cX12_reads 63 = .ok (.if_icmp .ne 9, 3) := by decide +kernel
theorem dX12_reads_66 : decode cX12_reads 66 = .ok (.aload_n 0, 1) := by decide +kernel
theorem dX12_reads_67 : decode cX12_reads 67 = .ok (.iconst 0, 1) := by decide +kernel
theorem dX12_reads_68 : decode cX12_reads 68 = .ok (.putfield 154, 3) := by decide +kernel
theorem dX12_reads_71 : decode cX12_reads 71 = .ok (.return_, 1) := by decide +kernel
theorem dX12_reads_72 : decode cX12_reads 72 = .ok (.aload_n 0, 1) := by decide +kernel
theorem dX12_reads_73 : decode cX12_reads 73 = .ok (.aload_n 0, 1) := by decide +kernel
theorem dX12_reads_74 : decode cX12_reads 74 = .ok (.getfield 145, 3) := by decide +kernel
theorem dX12_reads_77 : decode cX12_reads 77 = .ok (.iconst 1, 1) := by decide +kernel
theorem dX12_reads_78 : decode cX12_reads 78 = .ok (.iadd, 1) := by decide +kernel
theorem dX12_reads_79 : decode cX12_reads 79 = .ok (.putfield 145, 3) := by decide +kernel
theorem dX12_reads_82 : decode cX12_reads 82 = .ok (.aload_n 0, 1) := by decide +kernel
theorem dX12_reads_83 : decode cX12_reads 83 = .ok (.iload_n 1, 1) := by decide +kernel
theorem dX12_reads_84 : decode cX12_reads 84 = .ok (.putfield 157, 3) := by decide +kernel
theorem dX12_reads_87 : decode cX12_reads 87 = .ok (.aload_n 0, 1) := by decide +kernel
theorem dX12_reads_88 : decode cX12_reads 88 = .ok (.iload_n 1, 1) := by decide +kernel
theorem dX12_reads_89 : decode cX12_reads 89 = .ok (.invokevirtual 160, 3) := by decide +kernel
theorem dX12_reads_92 : decode cX12_reads 92 = .ok (.ifCond .eq 63, 3) := by decide +kernel
theorem dX12_reads_95 : decode cX12_reads 95 = .ok (.aload_n 0, 1) := by decide +kernel
theorem dX12_reads_96 : decode cX12_reads 96 = .ok (.aload_n 0, 1) := by decide +kernel
theorem dX12_reads_97 : decode cX12_reads 97 = .ok (.aload_n 0, 1) := by decide +kernel
theorem dX12_reads_98 : decode cX12_reads 98 = .ok (.getfield 145, 3) := by decide +kernel
theorem dX12_reads_101 : decode cX12_reads 101 = .ok (.invokevirtual 148, 3) := by decide +kernel
theorem dX12_reads_104 : decode cX12_reads 104 = .ok (.invokevirtual 160, 3) := by decide +kernel
theorem dX12_reads_107 : decode cX12_reads 107 = .ok (.ifCond .eq 16, 3) := by decide +kernel
theorem dX12_reads_110 : decode cX12_reads 110 = .ok (.aload_n 0, 1) := by decide +kernel
theorem dX12_reads_111 : decode cX12_reads 111 = .ok (.aload_n 0, 1) := by decide +kernel
theorem dX12_reads_112 : decode cX12_reads 112 = .ok (.getfield 145, 3) := by decide +kernel
theorem dX12_reads_115 : decode cX12_reads 115 = .ok (.iconst 1, 1) := by decide +kernel
theorem dX12_reads_116 : decode cX12_reads 116 = .ok (.iadd, 1) := by decide +kernel
theorem dX12_reads_117 : decode cX12_reads 117 = .ok (.putfield 145, 3) := by decide +kernel
theorem dX12_reads_120 : decode cX12_reads 120 = .ok (.goto (-25), 3) := by decide +kernel
theorem dX12_reads_123 : decode cX12_reads 123 = .ok (.aload_n 0, 1) := by decide +kernel
theorem dX12_reads_124 : decode cX12_reads 124 = .ok (.aload_n 0, 1) := by decide +kernel
theorem dX12_reads_125 : decode cX12_reads 125 = .ok (.aload_n 0, 1) := by decide +kernel
theorem dX12_reads_126 : decode cX12_reads 126 = .ok (.getfield 151, 3) := by decide +kernel
theorem dX12_reads_129 : decode cX12_reads 129 = .ok (.aload_n 0, 1) := by decide +kernel
theorem dX12_reads_130 : decode cX12_reads 130 = .ok (.getfield 145, 3) := by decide +kernel
theorem dX12_reads_133 : decode cX12_reads 133 = .ok (.invokevirtual 163, 3) := by decide +kernel
theorem dX12_reads_136 : decode cX12_reads 136 = .ok (.putfield 157, 3) := by decide +kernel
theorem dX12_reads_139 : decode cX12_reads 139 = .ok (.aload_n 0, 1) := by decide +kernel
theorem dX12_reads_140 : decode cX12_reads 140 = .ok (.getfield 157, 3) := by decide +kernel
theorem dX12_reads_143 : decode cX12_reads 143 = .ok (.iconst (-1), 1) := by decide +kernel
theorem dX12_reads_144 : decode cX12_reads 144 = .ok (.if_icmp .eq 129, 3) := by decide +kernel
theorem dX12_reads_147 : decode cX12_reads 147 = .ok (.aload_n 0, 1) := by decide +kernel
theorem dX12_reads_148 : decode cX12_reads 148 = .ok (.iconst 2, 1) := by decide +kernel
theorem dX12_reads_149 : decode cX12_reads 149 = .ok (.putfield 154, 3) := by decide +kernel
theorem dX12_reads_152 : decode cX12_reads 152 = .ok (.goto 121, 3) := by decide +kernel
theorem dX12_reads_155 : decode cX12_reads 155 = .ok (.aload_n 0, 1) := by decide +kernel
theorem dX12_reads_156 : decode cX12_reads 156 = .ok (.iload_n 1, 1) := by decide +kernel
theorem dX12_reads_157 : decode cX12_reads 157 = .ok (.invokevirtual 167, 3) := by decide +kernel
theorem dX12_reads_160 : decode cX12_reads 160 = .ok (.ifCond .eq 100, 3) := by decide +kernel
theorem dX12_reads_163 : decode cX12_reads 163 = .ok (.aload_n 0, 1) := by decide +kernel
theorem dX12_reads_164 : decode cX12_reads 164 = .ok (.iload_n 1, 1) := by decide +kernel
theorem dX12_reads_165 : decode cX12_reads 165 = .ok (.bipush 48, 2) := by decide +kernel
theorem dX12_reads_167 : decode cX12_reads 167 = .ok (.isub, 1) := by decide +kernel
theorem dX12_reads_168 : decode cX12_reads 168 = .ok (.putfield 157, 3) := by decide +kernel
theorem dX12_reads_171 : decode cX12_reads 171 = .ok (.aload_n 0, 1) := by decide +kernel
theorem dX12_reads_172 : decode cX12_reads 172 = .ok (.aload_n 0, 1) := by decide +kernel
theorem dX12_reads_173 : decode cX12_reads 173 = .ok (.aload_n 0, 1) := by decide +kernel
theorem dX12_reads_174 : decode cX12_reads 174 = .ok (.getfield 145, 3) := by decide +kernel
theorem dX12_reads_177 : decode cX12_reads 177 = .ok (.invokevirtual 148, 3) := by decide +kernel
theorem dX12_reads_180 : decode cX12_reads 180 = .ok (.invokevirtual 167, 3) := by decide +kernel
theorem dX12_reads_183 : decode cX12_reads 183 = .ok (.ifCond .eq 56, 3) := by decide +kernel
theorem dX12_reads_186 : decode cX12_reads 186 = .ok (.aload_n 0, 1) := by decide +kernel
theorem dX12_reads_187 : decode cX12_reads 187 = .ok (.aload_n 0, 1) := by decide +kernel
theorem dX12_reads_188 : decode cX12_reads 188 = .ok (.getfield 157, 3) := by decide +kernel
theorem dX12_reads_191 : decode cX12_reads 191 = .ok (.sipush 10000, 3) := by decide +kernel
theorem dX12_reads_194 : decode cX12_reads 194 = .ok (.if_icmp .ge 25, 3) := by decide +kernel
theorem dX12_reads_197 : decode cX12_reads 197 = .ok (.bipush 10, 2) := by decide +kernel
theorem dX12_reads_199 : decode cX12_reads 199 = .ok (.aload_n 0, 1) := by decide +kernel
theorem dX12_reads_200 : decode cX12_reads 200 = .ok (.getfield 157, 3) := by decide +kernel
theorem dX12_reads_203 : decode cX12_reads 203 = .ok (.imul, 1) := by decide +kernel
theorem dX12_reads_204 : decode cX12_reads 204 = .ok (.aload_n 0, 1) := by decide +kernel
theorem dX12_reads_205 : decode cX12_reads 205 = .ok (.aload_n 0, 1) := by decide +kernel
theorem dX12_reads_206 : decode cX12_reads 206 = .ok (.getfield 145, 3) := by decide +kernel
theorem dX12_reads_209 : decode cX12_reads 209 = .ok (.invokevirtual 148, 3) := by decide +kernel
theorem dX12_reads_212 : decode cX12_reads 212 = .ok (.iadd, 1) := by decide +kernel
theorem dX12_reads_213 : decode cX12_reads 213 = .ok (.bipush 48, 2) := by decide +kernel
theorem dX12_reads_215 : decode cX12_reads 215 = .ok (.isub, 1) := by decide +kernel
theorem dX12_reads_216 : decode cX12_reads 216 = .ok (.goto 7, 3) := by decide +kernel
theorem dX12_reads_219 : decode cX12_reads 219 = .ok (.aload_n 0, 1) := by decide +kernel
theorem dX12_reads_220 : decode cX12_reads 220 = .ok (.getfield 157, 3) := by decide +kernel
theorem dX12_reads_223 : decode cX12_reads 223 = .ok (.putfield 157, 3) := by decide +kernel
theorem dX12_reads_226 : decode cX12_reads 226 = .ok (.aload_n 0, 1) := by decide +kernel
theorem dX12_reads_227 : decode cX12_reads 227 = .ok (.aload_n 0, 1) := by decide +kernel
theorem dX12_reads_228 : decode cX12_reads 228 = .ok (.getfield 145, 3) := by decide +kernel
theorem dX12_reads_231 : decode cX12_reads 231 = .ok (.iconst 1, 1) := by decide +kernel
theorem dX12_reads_232 : decode cX12_reads 232 = .ok (.iadd, 1) := by decide +kernel
theorem dX12_reads_233 : decode cX12_reads 233 = .ok (.putfield 145, 3) := by decide +kernel
theorem dX12_reads_236 : decode cX12_reads 236 = .ok (.goto (-65), 3) := by decide +kernel
theorem dX12_reads_239 : decode cX12_reads 239 = .ok (.aload_n 0, 1) := by decide +kernel
theorem dX12_reads_240 : decode cX12_reads 240 = .ok (.getfield 145, 3) := by decide +kernel
theorem dX12_reads_243 : decode cX12_reads 243 = .ok (.aload_n 0, 1) := by decide +kernel
theorem dX12_reads_244 : decode cX12_reads 244 = .ok (.getfield 151, 3) := by decide +kernel
theorem dX12_reads_247 : decode cX12_reads 247 = .ok (.isub, 1) := by decide +kernel
theorem dX12_reads_248 : decode cX12_reads 248 = .ok (.iconst 5, 1) := by decide +kernel
theorem dX12_reads_249 : decode cX12_reads 249 = .ok (.if_icmp .ge 24, 3) := by decide +kernel
theorem dX12_reads_252 : decode cX12_reads 252 = .ok (.aload_n 0, 1) := by decide +kernel
theorem dX12_reads_253 : decode cX12_reads 253 = .ok (.iconst 3, 1) := by decide +kernel
theorem dX12_reads_254 : decode cX12_reads 254 = .ok (.putfield 154, 3) := by decide +kernel
theorem dX12_reads_257 : decode cX12_reads 257 = .ok (.goto 16, 3) := by decide +kernel
theorem dX12_reads_260 : decode cX12_reads 260 = .ok (.aload_n 0, 1) := by decide +kernel
theorem dX12_reads_261 : decode cX12_reads 261 = .ok (.iload_n 1, 1) := by decide +kernel
theorem dX12_reads_262 : decode cX12_reads 262 = .ok (.invokevirtual 170, 3) := by decide +kernel
theorem dX12_reads_265 : decode cX12_reads 265 = .ok (.ifCond .eq 8, 3) := by decide +kernel
theorem dX12_reads_268 : decode cX12_reads 268 = .ok (.aload_n 0, 1) := by decide +kernel
theorem dX12_reads_269 : decode cX12_reads 269 = .ok (.iconst 4, 1) := by decide +kernel
theorem dX12_reads_270 : decode cX12_reads 270 = .ok (.putfield 154, 3) := by decide +kernel
theorem dX12_reads_273 : decode cX12_reads 273 = .ok (.return_, 1) := by decide +kernel
theorem dX12_errs_0 : decode cX12_errs 0 = .ok (.aload_n 0, 1) := by decide +kernel
theorem dX12_errs_1 : decode cX12_errs 1 = .ok (.iload_n 1, 1) := by decide +kernel
theorem dX12_errs_2 : decode cX12_errs 2 = .ok (.putfield 173, 3) := by decide +kernel
theorem dX12_errs_5 : decode cX12_errs 5 = .ok (.aload_n 0, 1) := by decide +kernel
theorem dX12_errs_6 : decode cX12_errs 6 = .ok (.aload_n 0, 1) := by decide +kernel
theorem dX12_errs_7 : decode cX12_errs 7 = .ok (.getfield 151, 3) := by decide +kernel
theorem dX12_errs_10 : decode cX12_errs 10 = .ok (.putfield 176, 3) := by decide +kernel
theorem dX12_errs_13 : decode cX12_errs 13 = .ok (.iconst (-1), 1) := by decide +kernel
theorem dX12_errs_14 : decode cX12_errs 14 = .ok (.ireturn, 1) := by decide +kernel
theorem dX12_isWord_0 : decode cX12_isWord 0 = .ok (.aload_n 0, 1) := by decide +kernel
theorem dX12_isWord_1 : decode cX12_isWord 1 = .ok (.getfield 154, 3) := by decide +kernel
theorem dX12_isWord_4 : decode cX12_isWord 4 = .ok (.iconst 2, 1) := by decide +kernel
theorem dX12_isWord_5 : decode cX12_isWord 5 = .ok (.if_icmp .ne 15, 3) := by decide +kernel
theorem dX12_isWord_8 : decode cX12_isWord 8 = .ok (.aload_n 0, 1) := by decide +kernel
theorem dX12_isWord_9 : decode cX12_isWord 9 = .ok (.getfield 157, 3) := by decide +kernel
theorem dX12_isWord_12 : decode cX12_isWord 12 = .ok (.iload_n 1, 1) := by decide +kernel
theorem dX12_isWord_13 : decode cX12_isWord 13 = .ok (.if_icmp .ne 7, 3) := by decide +kernel
theorem dX12_isWord_16 : decode cX12_isWord 16 = .ok (.iconst 1, 1) := by decide +kernel
theorem dX12_isWord_17 : decode cX12_isWord 17 = .ok (.goto 4, 3) := by decide +kernel
theorem dX12_isWord_20 : decode cX12_isWord 20 = .ok (.iconst 0, 1) := by decide +kernel
theorem dX12_isWord_21 : decode cX12_isWord 21 = .ok (.ireturn, 1) := by decide +kernel
theorem dX12_isSign_0 : decode cX12_isSign 0 = .ok (.aload_n 0, 1) := by decide +kernel
theorem dX12_isSign_1 : decode cX12_isSign 1 = .ok (.getfield 154, 3) := by decide +kernel
theorem dX12_isSign_4 : decode cX12_isSign 4 = .ok (.iconst 4, 1) := by decide +kernel
theorem dX12_isSign_5 : decode cX12_isSign 5 = .ok (.if_icmp .ne 15, 3) := by decide +kernel
theorem dX12_isSign_8 : decode cX12_isSign 8 = .ok (.aload_n 0, 1) := by decide +kernel
theorem dX12_isSign_9 : decode cX12_isSign 9 = .ok (.getfield 157, 3) := by decide +kernel
theorem dX12_isSign_12 : decode cX12_isSign 12 = .ok (.iload_n 1, 1) := by decide +kernel
theorem dX12_isSign_13 : decode cX12_isSign 13 = .ok (.if_icmp .ne 7, 3) := by decide +kernel
theorem dX12_isSign_16 : decode cX12_isSign 16 = .ok (.iconst 1, 1) := by decide +kernel
theorem dX12_isSign_17 : decode cX12_isSign 17 = .ok (.goto 4, 3) := by decide +kernel
theorem dX12_isSign_20 : decode cX12_isSign 20 = .ok (.iconst 0, 1) := by decide +kernel
theorem dX12_isSign_21 : decode cX12_isSign 21 = .ok (.ireturn, 1) := by decide +kernel
theorem dX12_emits_0 : decode cX12_emits 0 = .ok (.aload_n 0, 1) := by decide +kernel
theorem dX12_emits_1 : decode cX12_emits 1 = .ok (.getfield 46, 3) := by decide +kernel
theorem dX12_emits_4 : decode cX12_emits 4 = .ok (.sipush 800, 3) := by decide +kernel
theorem dX12_emits_7 : decode cX12_emits 7 = .ok (.aload_n 0, 1) := by decide +kernel
theorem dX12_emits_8 : decode cX12_emits 8 = .ok (.getfield 179, 3) := by decide +kernel
theorem dX12_emits_11 : decode cX12_emits 11 = .ok (.iadd, 1) := by decide +kernel
theorem dX12_emits_12 : decode cX12_emits 12 = .ok (.iload_n 1, 1) := by decide +kernel
theorem dX12_emits_13 : decode cX12_emits 13 = .ok (.iastore, 1) := by decide +kernel
theorem dX12_emits_14 : decode cX12_emits 14 = .ok (.aload_n 0, 1) := by decide +kernel
theorem dX12_emits_15 : decode cX12_emits 15 = .ok (.getfield 49, 3) := by decide +kernel
theorem dX12_emits_18 : decode cX12_emits 18 = .ok (.sipush 800, 3) := by decide +kernel
theorem dX12_emits_21 : decode cX12_emits 21 = .ok (.aload_n 0, 1) := by decide +kernel
theorem dX12_emits_22 : decode cX12_emits 22 = .ok (.getfield 179, 3) := by decide +kernel
theorem dX12_emits_25 : decode cX12_emits 25 = .ok (.iadd, 1) := by decide +kernel
theorem dX12_emits_26 : decode cX12_emits 26 = .ok (.iload_n 2, 1) := by decide +kernel
theorem dX12_emits_27 : decode cX12_emits 27 = .ok (.iastore, 1) := by decide +kernel
theorem dX12_emits_28 : decode cX12_emits 28 = .ok (.aload_n 0, 1) := by decide +kernel
theorem dX12_emits_29 : decode cX12_emits 29 = .ok (.aload_n 0, 1) := by decide +kernel
theorem dX12_emits_30 : decode cX12_emits 30 = .ok (.getfield 179, 3) := by decide +kernel
theorem dX12_emits_33 : decode cX12_emits 33 = .ok (.iconst 1, 1) := by decide +kernel
theorem dX12_emits_34 : decode cX12_emits 34 = .ok (.iadd, 1) := by decide +kernel
theorem dX12_emits_35 : decode cX12_emits 35 = .ok (.putfield 179, 3) := by decide +kernel
theorem dX12_emits_38 : decode cX12_emits 38 = .ok (.return_, 1) := by decide +kernel
theorem dX12_canAsk_0 : decode cX12_canAsk 0 = .ok (.aload_n 0, 1) := by decide +kernel
theorem dX12_canAsk_1 : decode cX12_canAsk 1 = .ok (.iload_n 1, 1) := by decide +kernel
theorem dX12_canAsk_2 : decode cX12_canAsk 2 = .ok (.bipush 7, 2) := by decide +kernel
theorem dX12_canAsk_4 : decode cX12_canAsk 4 = .ok (.bipush 15, 2) := by decide +kernel
theorem dX12_canAsk_6 : decode cX12_canAsk 6 = .ok (.invokevirtual 122, 3) := by decide +kernel
theorem dX12_canAsk_9 : decode cX12_canAsk 9 = .ok (.ireturn, 1) := by decide +kernel
theorem dX12_readUnit_0 : decode cX12_readUnit 0 = .ok (.aload_n 0, 1) := by decide +kernel
theorem dX12_readUnit_1 : decode cX12_readUnit 1 = .ok (.getfield 154, 3) := by decide +kernel
theorem dX12_readUnit_4 : decode cX12_readUnit 4 = .ok (.iconst 2, 1) := by decide +kernel
theorem dX12_readUnit_5 : decode cX12_readUnit 5 = .ok (.if_icmp .ne 18, 3) := by decide +kernel
theorem dX12_readUnit_8 : decode cX12_readUnit 8 = .ok (.aload_n 0, 1) := by decide +kernel
theorem dX12_readUnit_9 : decode cX12_readUnit 9 = .ok (.aload_n 0, 1) := by decide +kernel
theorem dX12_readUnit_10 : decode cX12_readUnit 10 = .ok (.getfield 157, 3) := by decide +kernel
theorem dX12_readUnit_13 : decode cX12_readUnit 13 = .ok (.invokevirtual 182, 3) := by decide +kernel
theorem dX12_readUnit_16 : decode cX12_readUnit 16 = .ok (.ifCond .eq 7, 3) := by decide +kernel
theorem dX12_readUnit_19 : decode cX12_readUnit 19 = .ok (.iconst 1, 1) := by decide +kernel
theorem dX12_readUnit_20 : decode cX12_readUnit 20 = .ok (.goto 4, 3) := by decide +kernel
theorem dX12_readUnit_23 : decode cX12_readUnit 23 = .ok (.iconst 0, 1) := by decide +kernel
theorem dX12_readUnit_24 : decode cX12_readUnit 24 = .ok (.istore_n 1, 1) := by decide +kernel
theorem dX12_readUnit_25 : decode cX12_readUnit 25 = .ok (.iload_n 1, 1) := by decide +kernel
theorem dX12_readUnit_26 : decode cX12_readUnit 26 = .ok (.ifCond .ne 17, 3) := by decide +kernel
theorem dX12_readUnit_29 : decode cX12_readUnit 29 = .ok (.aload_n 0, 1) := by decide +kernel
theorem dX12_readUnit_30 : decode cX12_readUnit 30 = .ok (.getfield 154, 3) := by decide +kernel
theorem dX12_readUnit_33 : decode cX12_readUnit 33 = .ok (.iconst 3, 1) := by decide +kernel
theorem dX12_readUnit_34 : decode cX12_readUnit 34 = .ok (.if_icmp .eq 9, 3) := by decide +kernel
theorem dX12_readUnit_37 : decode cX12_readUnit 37 = .ok (.aload_n 0, 1) := by decide +kernel
theorem dX12_readUnit_38 : decode cX12_readUnit 38 = .ok (.iconst 1, 1) := by decide +kernel
theorem dX12_readUnit_39 : decode cX12_readUnit 39 = .ok (.invokevirtual 185, 3) := by decide +kernel
theorem dX12_readUnit_42 : decode cX12_readUnit 42 = .ok (.ireturn, 1) := by decide +kernel
theorem dX12_readUnit_43 : decode cX12_readUnit 43 = .ok (.aload_n 0, 1) := by decide +kernel
theorem dX12_readUnit_44 : decode cX12_readUnit 44 = .ok (.iload_n 1, 1) := by decide +kernel
theorem dX12_readUnit_45 : decode cX12_readUnit 45 = .ok (.ifCond .eq 7, 3) := by decide +kernel
theorem dX12_readUnit_48 : decode cX12_readUnit 48 = .ok (.iconst 1, 1) := by decide +kernel
theorem dX12_readUnit_49 : decode cX12_readUnit 49 = .ok (.goto 4, 3) := by decide +kernel
theorem dX12_readUnit_52 : decode cX12_readUnit 52 = .ok (.iconst 0, 1) := by decide +kernel
theorem dX12_readUnit_53 : decode cX12_readUnit 53 = .ok (.iload_n 1, 1) := by decide +kernel
theorem dX12_readUnit_54 : decode cX12_readUnit 54 = .ok (.ifCond .eq 13, 3) := by decide +kernel
theorem dX12_readUnit_57 : decode cX12_readUnit 57 = .ok (.aload_n 0, 1) := by decide +kernel
theorem dX12_readUnit_58 : decode cX12_readUnit 58 = .ok (.getfield 157, 3) := by decide +kernel
theorem dX12_readUnit_61 : decode cX12_readUnit 61 = .ok (.bipush 7, 2) := by decide +kernel
theorem dX12_readUnit_63 : decode cX12_readUnit 63 = .ok (.isub, 1) := by decide +kernel
theorem dX12_readUnit_64 : decode cX12_readUnit 64 = .ok (.goto 7, 3) := by decide +kernel
theorem dX12_readUnit_67 : decode cX12_readUnit 67 = .ok (.aload_n 0, 1) := by decide +kernel
theorem dX12_readUnit_68 : decode cX12_readUnit 68 = .ok (.getfield 157, 3) := by decide +kernel
theorem dX12_readUnit_71 : decode cX12_readUnit 71 = .ok (.invokevirtual 188, 3) := by decide +kernel
theorem dX12_readUnit_74 : decode cX12_readUnit 74 = .ok (.aload_n 0, 1) := by decide +kernel
theorem dX12_readUnit_75 : decode cX12_readUnit 75 = .ok (.invokevirtual 192, 3) := by decide +kernel
theorem dX12_readUnit_78 : decode cX12_readUnit 78 = .ok (.iconst 0, 1) := by decide +kernel
theorem dX12_readUnit_79 : decode cX12_readUnit 79 = .ok (.ireturn, 1) := by decide +kernel
theorem dX12_readProduct_0 : decode cX12_readProduct 0 = .ok (.aload_n 0, 1) := by decide +kernel
theorem dX12_readProduct_1 : decode cX12_readProduct 1 = .ok (.invokevirtual 195, 3) := by decide +kernel
theorem dX12_readProduct_4 : decode cX12_readProduct 4 = .ok (.iconst (-1), 1) := by decide +kernel
theorem dX12_readProduct_5 : decode cX12_readProduct 5 = .ok (.if_icmp .ne 5, 3) := by decide +kernel
theorem dX12_readProduct_8 : decode cX12_readProduct 8 = .ok (.iconst (-1), 1) := by decide +kernel
theorem dX12_readProduct_9 : decode cX12_readProduct 9 = .ok (.ireturn, 1) := by decide +kernel
theorem dX12_readProduct_10 : decode cX12_readProduct 10 = .ok (.aload_n 0, 1) := by decide +kernel
theorem dX12_readProduct_11 : decode cX12_readProduct 11 = .ok (.bipush 42, 2) := by decide +kernel
theorem dX12_readProduct_13 : decode cX12_readProduct 13 = .ok (.invokevirtual 199, 3) := by decide +kernel
theorem dX12_readProduct_16 : decode cX12_readProduct 16 = .ok (.ifCond .ne 12, 3) := by decide +kernel
theorem dX12_readProduct_19 : decode cX12_readProduct 19 = .ok (.aload_n 0, 1) := by decide +kernel
theorem dX12_readProduct_20 : decode cX12_readProduct 20 = .ok (.bipush 47, 2) := by decide +kernel
theorem dX12_readProduct_22 : decode cX12_readProduct 22 = .ok (.invokevirtual 199, 3) := by decide +kernel
theorem dX12_readProduct_25 : decode cX12_readProduct 25 = .ok (.ifCond .eq 76, 3) := by decide +kernel
theorem dX12_readProduct_28 : decode cX12_readProduct 28 = .ok (.aload_n 0, 1) := by decide +kernel
theorem dX12_readProduct_29 : decode cX12_readProduct 29 = .ok (.bipush 42, 2) := by decide +kernel
theorem dX12_readProduct_31 : decode cX12_readProduct 31 = .ok (.invokevirtual 199, 3) := by decide +kernel
theorem dX12_readProduct_34 : decode cX12_readProduct 34 = .ok (.istore_n 1, 1) := by decide +kernel
theorem dX12_readProduct_35 : decode cX12_readProduct 35 = .ok (.aload_n 0, 1) := by decide +kernel
theorem dX12_readProduct_36 : decode cX12_readProduct 36 = .ok (.invokevirtual 192, 3) := by decide +kernel
theorem dX12_readProduct_39 : decode cX12_readProduct 39 = .ok (.iload_n 1, 1) := by decide +kernel
theorem dX12_readProduct_40 : decode cX12_readProduct 40 = .ok (.ifCond .ne 17, 3) := by decide +kernel
theorem dX12_readProduct_43 : decode cX12_readProduct 43 = .ok (.aload_n 0, 1) := by decide +kernel
theorem dX12_readProduct_44 : decode cX12_readProduct 44 = .ok (.getfield 154, 3) := by decide +kernel
theorem dX12_readProduct_47 : decode cX12_readProduct 47 = .ok (.iconst 3, 1) := by decide +kernel
theorem dX12_readProduct_48 : decode cX12_readProduct 48 = .ok (.if_icmp .eq 9, 3) := by decide +kernel
theorem dX12_readProduct_51 : decode cX12_readProduct 51 = .ok (.aload_n 0, 1) := by decide +kernel
theorem dX12_readProduct_52 : decode cX12_readProduct 52 = .ok (.iconst 1, 1) := by decide +kernel
theorem dX12_readProduct_53 : decode cX12_readProduct 53 = .ok (.invokevirtual 185, 3) := by decide +kernel
theorem dX12_readProduct_56 : decode cX12_readProduct 56 = .ok (.ireturn, 1) := by decide +kernel
theorem dX12_readProduct_57 : decode cX12_readProduct 57 = .ok (.iload_n 1, 1) := by decide +kernel
theorem dX12_readProduct_58 : decode cX12_readProduct 58 = .ok (.ifCond .ne 16, 3) := by decide +kernel
theorem dX12_readProduct_61 : decode cX12_readProduct 61 = .ok (.aload_n 0, 1) := by decide +kernel
theorem dX12_readProduct_62 : decode cX12_readProduct 62 = .ok (.getfield 157, 3) := by decide +kernel
theorem dX12_readProduct_65 : decode cX12_readProduct 65 = .ok (.ifCond .ne 9, 3) := by decide +kernel
theorem dX12_readProduct_68 : decode cX12_readProduct 68 = .ok (.aload_n 0, 1) := by decide +kernel
theorem dX12_readProduct_69 : decode cX12_readProduct 69 = .ok (.iconst 2, 1) := by decide +kernel
theorem dX12_readProduct_70 : decode cX12_readProduct 70 = .ok (.invokevirtual 185, 3) := by decide +kernel
theorem dX12_readProduct_73 : decode cX12_readProduct 73 = .ok (.ireturn, 1) := by decide +kernel
theorem dX12_readProduct_74 : decode cX12_readProduct 74 = .ok (.aload_n 0, 1) := by decide +kernel
theorem dX12_readProduct_75 : decode cX12_readProduct 75 = .ok (.invokevirtual 195, 3) := by decide +kernel
theorem dX12_readProduct_78 : decode cX12_readProduct 78 = .ok (.iconst (-1), 1) := by decide +kernel
theorem dX12_readProduct_79 : decode cX12_readProduct 79 = .ok (.if_icmp .ne 5, 3) := by decide +kernel
theorem dX12_readProduct_82 : decode cX12_readProduct 82 = .ok (.iconst (-1), 1) := by decide +kernel
theorem dX12_readProduct_83 : decode cX12_readProduct 83 = .ok (.ireturn, 1) := by decide +kernel
theorem dX12_readProduct_84 : decode cX12_readProduct 84 = .ok (.aload_n 0, 1) := by decide +kernel
theorem dX12_readProduct_85 : decode cX12_readProduct 85 = .ok (.iload_n 1, 1) := by decide +kernel
theorem dX12_readProduct_86 : decode cX12_readProduct 86 = .ok (.ifCond .eq 7, 3) := by decide +kernel
theorem dX12_readProduct_89 : decode cX12_readProduct 89 = .ok (.iconst 4, 1) := by decide +kernel
theorem dX12_readProduct_90 : decode cX12_readProduct 90 = .ok (.goto 4, 3) := by decide +kernel
theorem dX12_readProduct_93 : decode cX12_readProduct 93 = .ok (.iconst 5, 1) := by decide +kernel
theorem dX12_readProduct_94 : decode cX12_readProduct 94 = .ok (.iconst 0, 1) := by decide +kernel
theorem dX12_readProduct_95 : decode cX12_readProduct 95 = .ok (.invokevirtual 188, 3) := by decide +kernel
theorem dX12_readProduct_98 : decode cX12_readProduct 98 = .ok (.goto (-88), 3) := by decide +kernel
theorem dX12_readProduct_101 : decode cX12_readProduct 101 = .ok (.iconst 0, 1) := by decide +kernel
theorem dX12_readProduct_102 : decode cX12_readProduct 102 = .ok (.ireturn, 1) := by decide +kernel
theorem dX12_readSum_0 : decode cX12_readSum 0 = .ok (.aload_n 0, 1) := by decide +kernel
theorem dX12_readSum_1 : decode cX12_readSum 1 = .ok (.invokevirtual 202, 3) := by decide +kernel
theorem dX12_readSum_4 : decode cX12_readSum 4 = .ok (.iconst (-1), 1) := by decide +kernel
theorem dX12_readSum_5 : decode cX12_readSum 5 = .ok (.if_icmp .ne 5, 3) := by decide +kernel
theorem dX12_readSum_8 : decode cX12_readSum 8 = .ok (.iconst (-1), 1) := by decide +kernel
theorem dX12_readSum_9 : decode cX12_readSum 9 = .ok (.ireturn, 1) := by decide +kernel
theorem dX12_readSum_10 : decode cX12_readSum 10 = .ok (.aload_n 0, 1) := by decide +kernel
theorem dX12_readSum_11 : decode cX12_readSum 11 = .ok (.bipush 43, 2) := by decide +kernel
theorem dX12_readSum_13 : decode cX12_readSum 13 = .ok (.invokevirtual 199, 3) := by decide +kernel
theorem dX12_readSum_16 : decode cX12_readSum 16 = .ok (.ifCond .ne 12, 3) := by decide +kernel
theorem dX12_readSum_19 : decode cX12_readSum 19 = .ok (.aload_n 0, 1) := by decide +kernel
theorem dX12_readSum_20 : decode cX12_readSum 20 = .ok (.bipush 45, 2) := by decide +kernel
theorem dX12_readSum_22 : decode cX12_readSum 22 = .ok (.invokevirtual 199, 3) := by decide +kernel
theorem dX12_readSum_25 : decode cX12_readSum 25 = .ok (.ifCond .eq 41, 3) := by decide +kernel
theorem dX12_readSum_28 : decode cX12_readSum 28 = .ok (.aload_n 0, 1) := by decide +kernel
theorem dX12_readSum_29 : decode cX12_readSum 29 = .ok (.getfield 157, 3) := by decide +kernel
theorem dX12_readSum_32 : decode cX12_readSum 32 = .ok (.bipush 43, 2) := by decide +kernel
theorem dX12_readSum_34 : decode cX12_readSum 34 = .ok (.if_icmp .ne 7, 3) := by decide +kernel
theorem dX12_readSum_37 : decode cX12_readSum 37 = .ok (.iconst 2, 1) := by decide +kernel
theorem dX12_readSum_38 : decode cX12_readSum 38 = .ok (.goto 4, 3) := by decide +kernel
theorem dX12_readSum_41 : decode cX12_readSum 41 = .ok (.iconst 3, 1) := by decide +kernel
theorem dX12_readSum_42 : decode cX12_readSum 42 = .ok (.istore_n 1, 1) := by decide +kernel
theorem dX12_readSum_43 : decode cX12_readSum 43 = .ok (.aload_n 0, 1) := by decide +kernel
theorem dX12_readSum_44 : decode cX12_readSum 44 = .ok (.invokevirtual 192, 3) := by decide +kernel
theorem dX12_readSum_47 : decode cX12_readSum 47 = .ok (.aload_n 0, 1) := by decide +kernel
theorem dX12_readSum_48 : decode cX12_readSum 48 = .ok (.invokevirtual 202, 3) := by decide +kernel
theorem dX12_readSum_51 : decode cX12_readSum 51 = .ok (.iconst (-1), 1) := by decide +kernel
theorem dX12_readSum_52 : decode cX12_readSum 52 = .ok (.if_icmp .ne 5, 3) := by decide +kernel
theorem dX12_readSum_55 : decode cX12_readSum 55 = .ok (.iconst (-1), 1) := by decide +kernel
theorem dX12_readSum_56 : decode cX12_readSum 56 = .ok (.ireturn, 1) := by decide +kernel
theorem dX12_readSum_57 : decode cX12_readSum 57 = .ok (.aload_n 0, 1) := by decide +kernel
theorem dX12_readSum_58 : decode cX12_readSum 58 = .ok (.iload_n 1, 1) := by decide +kernel
theorem dX12_readSum_59 : decode cX12_readSum 59 = .ok (.iconst 0, 1) := by decide +kernel
theorem dX12_readSum_60 : decode cX12_readSum 60 = .ok (.invokevirtual 188, 3) := by decide +kernel
theorem dX12_readSum_63 : decode cX12_readSum 63 = .ok (.goto (-53), 3) := by decide +kernel
theorem dX12_readSum_66 : decode cX12_readSum 66 = .ok (.iconst 0, 1) := by decide +kernel
theorem dX12_readSum_67 : decode cX12_readSum 67 = .ok (.ireturn, 1) := by decide +kernel
theorem dX12_readCompared_0 : decode cX12_readCompared 0 = .ok (.aload_n 0, 1) := by decide +kernel
theorem dX12_readCompared_1 : decode cX12_readCompared 1 = .ok (.invokevirtual 205, 3) := by decide +kernel
theorem dX12_readCompared_4 : decode cX12_readCompared 4 = .ok (.iconst (-1), 1) := by decide +kernel
theorem dX12_readCompared_5 : decode cX12_readCompared 5 = .ok (.if_icmp .ne 5, 3) := by decide +kernel
theorem dX12_readCompared_8 : decode cX12_readCompared 8 = .ok (.iconst (-1), 1) := by decide +kernel
theorem dX12_readCompared_9 : decode cX12_readCompared 9 = .ok (.ireturn, 1) := by decide +kernel
theorem dX12_readCompared_10 : decode cX12_readCompared 10 = .ok (.aload_n 0, 1) := by decide +kernel
theorem dX12_readCompared_11 : decode cX12_readCompared 11 = .ok (.bipush 60, 2) := by decide +kernel
theorem dX12_readCompared_13 : decode cX12_readCompared 13 = .ok (.invokevirtual 199, 3) := by decide +kernel
theorem dX12_readCompared_16 : decode cX12_readCompared 16 = .ok (.ifCond .ne 27, 3) := by decide +kernel
theorem dX12_readCompared_19 : decode cX12_readCompared 19 = .ok (.aload_n 0, 1) := by decide +kernel
theorem dX12_readCompared_20 : decode cX12_readCompared 20 = .ok (.bipush 61, 2) := by decide +kernel
theorem dX12_readCompared_22 : decode cX12_readCompared 22 = .ok (.invokevirtual 199, 3) := by decide +kernel
theorem dX12_readCompared_25 : decode cX12_readCompared 25 = .ok (.ifCond .ne 18, 3) := by decide +kernel
theorem dX12_readCompared_28 : decode cX12_readCompared 28 = .ok (.aload_n 0, 1) := by decide +kernel
theorem dX12_readCompared_29 : decode cX12_readCompared 29 = .ok (.bipush 62, 2) := by decide +kernel
theorem dX12_readCompared_31 : decode cX12_readCompared 31 = .ok (.invokevirtual 199, 3) := by decide +kernel
theorem dX12_readCompared_34 : decode cX12_readCompared 34 = .ok (.ifCond .ne 9, 3) := by decide +kernel
theorem dX12_readCompared_37 : decode cX12_readCompared 37 = .ok (.aload_n 0, 1) := by decide +kernel
theorem dX12_readCompared_38 : decode cX12_readCompared 38 = .ok (.iconst 1, 1) := by decide +kernel
theorem dX12_readCompared_39 : decode cX12_readCompared 39 = .ok (.invokevirtual 185, 3) := by decide +kernel
theorem dX12_readCompared_42 : decode cX12_readCompared 42 = .ok (.ireturn, 1) := by decide +kernel
theorem dX12_readCompared_43 : decode cX12_readCompared 43 = .ok (.aload_n 0, 1) := by decide +kernel
theorem dX12_readCompared_44 : decode cX12_readCompared 44 = .ok (.getfield 157, 3) := by decide +kernel
theorem dX12_readCompared_47 : decode cX12_readCompared 47 = .ok (.bipush 60, 2) := by decide +kernel
theorem dX12_readCompared_49 : decode cX12_readCompared 49 = .ok (.if_icmp .ne 8, 3) := by decide +kernel
theorem dX12_readCompared_52 : decode cX12_readCompared 52 = .ok (.bipush 6, 2) := by decide +kernel
theorem dX12_readCompared_54 : decode cX12_readCompared 54 = .ok (.goto 19, 3) := by decide +kernel
theorem dX12_readCompared_57 : decode cX12_readCompared 57 = .ok (.aload_n 0, 1) := by decide +kernel
theorem dX12_readCompared_58 : decode cX12_readCompared 58 = .ok (.getfield 157, 3) := by decide +kernel
theorem dX12_readCompared_61 : decode cX12_readCompared 61 = .ok (.bipush 61, 2) := by decide +kernel
theorem dX12_readCompared_63 : decode cX12_readCompared 63 = .ok (.if_icmp .ne 8, 3) := by decide +kernel
theorem dX12_readCompared_66 : decode cX12_readCompared 66 = .ok (.bipush 7, 2) := by decide +kernel
theorem dX12_readCompared_68 : decode cX12_readCompared 68 = .ok (.goto 5, 3) := by decide +kernel
theorem dX12_readCompared_71 : decode cX12_readCompared 71 = .ok (.bipush 8, 2) := by decide +kernel
theorem dX12_readCompared_73 : decode cX12_readCompared 73 = .ok (.istore_n 1, 1) := by decide +kernel
theorem dX12_readCompared_74 : decode cX12_readCompared 74 = .ok (.aload_n 0, 1) := by decide +kernel
theorem dX12_readCompared_75 : decode cX12_readCompared 75 = .ok (.invokevirtual 192, 3) := by decide +kernel
theorem dX12_readCompared_78 : decode cX12_readCompared 78 = .ok (.aload_n 0, 1) := by decide +kernel
theorem dX12_readCompared_79 : decode cX12_readCompared 79 = .ok (.invokevirtual 205, 3) := by decide +kernel
theorem dX12_readCompared_82 : decode cX12_readCompared 82 = .ok (.iconst (-1), 1) := by decide +kernel
theorem dX12_readCompared_83 : decode cX12_readCompared 83 = .ok (.if_icmp .ne 5, 3) := by decide +kernel
theorem dX12_readCompared_86 : decode cX12_readCompared 86 = .ok (.iconst (-1), 1) := by decide +kernel
theorem dX12_readCompared_87 : decode cX12_readCompared 87 = .ok (.ireturn, 1) := by decide +kernel
theorem dX12_readCompared_88 : decode cX12_readCompared 88 = .ok (.aload_n 0, 1) := by decide +kernel
theorem dX12_readCompared_89 : decode cX12_readCompared 89 = .ok (.iload_n 1, 1) := by decide +kernel
theorem dX12_readCompared_90 : decode cX12_readCompared 90 = .ok (.iconst 0, 1) := by decide +kernel
theorem dX12_readCompared_91 : decode cX12_readCompared 91 = .ok (.invokevirtual 188, 3) := by decide +kernel
theorem dX12_readCompared_94 : decode cX12_readCompared 94 = .ok (.iconst 0, 1) := by decide +kernel
theorem dX12_readCompared_95 : decode cX12_readCompared 95 = .ok (.ireturn, 1) := by decide +kernel
theorem dX12_waits_0 : decode cX12_waits 0 = .ok (.aload_n 0, 1) := by decide +kernel
theorem dX12_waits_1 : decode cX12_waits 1 = .ok (.getfield 52, 3) := by decide +kernel
theorem dX12_waits_4 : decode cX12_waits 4 = .ok (.aload_n 0, 1) := by decide +kernel
theorem dX12_waits_5 : decode cX12_waits 5 = .ok (.getfield 208, 3) := by decide +kernel
theorem dX12_waits_8 : decode cX12_waits 8 = .ok (.iload_n 1, 1) := by decide +kernel
theorem dX12_waits_9 : decode cX12_waits 9 = .ok (.iastore, 1) := by decide +kernel
theorem dX12_waits_10 : decode cX12_waits 10 = .ok (.aload_n 0, 1) := by decide +kernel
theorem dX12_waits_11 : decode cX12_waits 11 = .ok (.aload_n 0, 1) := by decide +kernel
theorem dX12_waits_12 : decode cX12_waits 12 = .ok (.getfield 208, 3) := by decide +kernel
theorem dX12_waits_15 : decode cX12_waits 15 = .ok (.iconst 1, 1) := by decide +kernel
theorem dX12_waits_16 : decode cX12_waits 16 = .ok (.iadd, 1) := by decide +kernel
theorem dX12_waits_17 : decode cX12_waits 17 = .ok (.putfield 208, 3) := by decide +kernel
theorem dX12_waits_20 : decode cX12_waits 20 = .ok (.return_, 1) := by decide +kernel
theorem dX12_settles_0 : decode cX12_settles 0 = .ok (.aload_n 0, 1) := by decide +kernel
theorem dX12_settles_1 : decode cX12_settles 1 = .ok (.getfield 208, 3) := by decide +kernel
theorem dX12_settles_4 : decode cX12_settles 4 = .ok (.ifCond .le 53, 3) := by decide +kernel
theorem dX12_settles_7 : decode cX12_settles 7 = .ok (.aload_n 0, 1) := by decide +kernel
theorem dX12_settles_8 : decode cX12_settles 8 = .ok (.getfield 52, 3) := by decide +kernel
theorem dX12_settles_11 : decode cX12_settles 11 = .ok (.aload_n 0, 1) := by decide +kernel
theorem dX12_settles_12 : decode cX12_settles 12 = .ok (.getfield 208, 3) := by decide +kernel
theorem dX12_settles_15 : decode cX12_settles 15 = .ok (.iconst 1, 1) := by decide +kernel
theorem dX12_settles_16 : decode cX12_settles 16 = .ok (.isub, 1) := by decide +kernel
theorem dX12_settles_17 : decode cX12_settles 17 = .ok (.iaload, 1) := by decide +kernel
theorem dX12_settles_18 : decode cX12_settles 18 = .ok (.iload_n 1, 1) := by decide +kernel
theorem dX12_settles_19 : decode cX12_settles 19 = .ok (.if_icmp .ne 38, 3) := by decide +kernel
theorem dX12_settles_22 : decode cX12_settles 22 = .ok (.aload_n 0, 1) := by decide +kernel
theorem dX12_settles_23 : decode cX12_settles 23 = .ok (.aload_n 0, 1) := by decide +kernel
theorem dX12_settles_24 : decode cX12_settles 24 = .ok (.getfield 208, 3) := by decide +kernel
theorem dX12_settles_27 : decode cX12_settles 27 = .ok (.iconst 1, 1) := by decide +kernel
theorem dX12_settles_28 : decode cX12_settles 28 = .ok (.isub, 1) := by decide +kernel
theorem dX12_settles_29 : decode cX12_settles 29 = .ok (.putfield 208, 3) := by decide +kernel
theorem dX12_settles_32 : decode cX12_settles 32 = .ok (.aload_n 0, 1) := by decide +kernel
theorem dX12_settles_33 : decode cX12_settles 33 = .ok (.iload_n 1, 1) := by decide +kernel
theorem dX12_settles_34 : decode cX12_settles 34 = .ok (.iconst 0, 1) := by decide +kernel
theorem dX12_settles_35 : decode cX12_settles 35 = .ok (.invokevirtual 188, 3) := by decide +kernel
theorem dX12_settles_38 : decode cX12_settles 38 = .ok (.iload_n 1, 1) := by decide +kernel
theorem dX12_settles_39 : decode cX12_settles 39 = .ok (.bipush 9, 2) := by decide +kernel
theorem dX12_settles_41 : decode cX12_settles 41 = .ok (.if_icmp .ne (-41), 3) := by decide +kernel
theorem dX12_settles_44 : decode cX12_settles 44 = .ok (.aload_n 0, 1) := by decide +kernel
theorem dX12_settles_45 : decode cX12_settles 45 = .ok (.aload_n 0, 1) := by decide +kernel
theorem dX12_settles_46 : decode cX12_settles 46 = .ok (.getfield 211, 3) := by decide +kernel
theorem dX12_settles_49 : decode cX12_settles 49 = .ok (.iconst 1, 1) := by decide +kernel
theorem dX12_settles_50 : decode cX12_settles 50 = .ok (.isub, 1) := by decide +kernel
