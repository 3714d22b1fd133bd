theorem dX12_spreadOf_12 : decode cX12_spreadOf 12 = .ok (.iconst 0, 1) := by decide +kernel
theorem dX12_spreadOf_13 : decode cX12_spreadOf 13 = .ok (.istore 6, 2) := by decide +kernel
theorem dX12_spreadOf_15 : decode cX12_spreadOf 15 = .ok (.iload 6, 2) := by decide +kernel
theorem dX12_spreadOf_17 : decode cX12_spreadOf 17 = .ok (.aload_n 0, 1) := by decide +kernel
theorem dX12_spreadOf_18 : decode cX12_spreadOf 18 = .ok (.getfield 101, 3) := by decide +kernel
theorem dX12_spreadOf_21 : decode cX12_spreadOf 21 = .ok (.if_icmp .ge 74, 3) := by decide +kernel
theorem dX12_spreadOf_24 : decode cX12_spreadOf 24 = .ok (.aload_n 0, 1) := by decide +kernel
theorem dX12_spreadOf_25 : decode cX12_spreadOf 25 = .ok (.iload 6, 2) := by decide +kernel
theorem dX12_spreadOf_27 : decode cX12_spreadOf 27 = .ok (.invokevirtual 107, 3) := by decide +kernel
theorem dX12_spreadOf_30 : decode cX12_spreadOf 30 = .ok (.iconst (-1), 1) := by decide +kernel
theorem dX12_spreadOf_31 : decode cX12_spreadOf 31 = .ok (.if_icmp .ne 6, 3) := by decide +kernel
theorem dX12_spreadOf_34 : decode cX12_spreadOf 34 = .ok (.goto 55, 3) := by decide +kernel
theorem dX12_spreadOf_37 : decode cX12_spreadOf 37 = .ok (.aload_n 0, 1) := by decide +kernel
theorem dX12_spreadOf_38 : decode cX12_spreadOf 38 = .ok (.getfield 7, 3) := by decide +kernel
theorem dX12_spreadOf_41 : decode cX12_spreadOf 41 = .ok (.bipush 21, 2) := by decide +kernel
theorem dX12_spreadOf_43 : decode cX12_spreadOf 43 = .ok (.aload_n 0, 1) := by decide +kernel
theorem dX12_spreadOf_44 : decode cX12_spreadOf 44 = .ok (.iload 6, 2) := by decide +kernel
theorem dX12_spreadOf_46 : decode cX12_spreadOf 46 = .ok (.invokevirtual 107, 3) := by decide +kernel
theorem dX12_spreadOf_49 : decode cX12_spreadOf 49 = .ok (.iadd, 1) := by decide +kernel
theorem dX12_spreadOf_50 : decode cX12_spreadOf 50 = .ok (.iaload, 1) := by decide +kernel
theorem dX12_spreadOf_51 : decode cX12_spreadOf 51 = .ok (.istore 7, 2) := by decide +kernel
theorem dX12_spreadOf_53 : decode cX12_spreadOf 53 = .ok (.iload 5, 2) := by decide +kernel
theorem dX12_spreadOf_55 : decode cX12_spreadOf 55 = .ok (.iload_n 1, 1) := by decide +kernel
theorem dX12_spreadOf_56 : decode cX12_spreadOf 56 = .ok (.if_icmp .lt 27, 3) := by decide +kernel
theorem dX12_spreadOf_59 : decode cX12_spreadOf 59 = .ok (.iload 5, 2) := by decide +kernel
theorem dX12_spreadOf_61 : decode cX12_spreadOf 61 = .ok (.iload_n 2, 1) := by decide +kernel
theorem dX12_spreadOf_62 : decode cX12_spreadOf 62 = .ok (.if_icmp .ge 21, 3) := by decide +kernel
theorem dX12_spreadOf_65 : decode cX12_spreadOf 65 = .ok (.aload_n 0, 1) := by decide +kernel
theorem dX12_spreadOf_66 : decode cX12_spreadOf 66 = .ok (.iload_n 3, 1) := by decide +kernel
theorem dX12_spreadOf_67 : decode cX12_spreadOf 67 = .ok (.iload 7, 2) := by decide +kernel
theorem dX12_spreadOf_69 : decode cX12_spreadOf 69 = .ok (.invokevirtual 316, 3) := by decide +kernel
theorem dX12_spreadOf_72 : decode cX12_spreadOf 72 = .ok (.istore_n 3, 1) := by decide +kernel
theorem dX12_spreadOf_73 : decode cX12_spreadOf 73 = .ok (.aload_n 0, 1) := by decide +kernel
theorem dX12_spreadOf_74 : decode cX12_spreadOf 74 = .ok (.iload 4, 2) := by decide +kernel
theorem dX12_spreadOf_76 : decode cX12_spreadOf 76 = .ok (.iload 7, 2) := by decide +kernel
theorem dX12_spreadOf_78 : decode cX12_spreadOf 78 = .ok (.invokevirtual 328, 3) := by decide +kernel
theorem dX12_spreadOf_81 : decode cX12_spreadOf 81 = .ok (.istore 4, 2) := by decide +kernel
theorem dX12_spreadOf_83 : decode cX12_spreadOf 83 = .ok (.iload 5, 2) := by decide +kernel
theorem dX12_spreadOf_85 : decode cX12_spreadOf 85 = .ok (.iconst 1, 1) := by decide +kernel
theorem dX12_spreadOf_86 : decode cX12_spreadOf 86 = .ok (.iadd, 1) := by decide +kernel
theorem dX12_spreadOf_87 : decode cX12_spreadOf 87 = .ok (.istore 5, 2) := by decide +kernel
theorem dX12_spreadOf_89 : decode cX12_spreadOf 89 = .ok (.iinc 6 1, 3) := by decide +kernel
theorem dX12_spreadOf_92 : decode cX12_spreadOf 92 = .ok (.goto (-77), 3) := by decide +kernel
theorem dX12_spreadOf_95 : decode cX12_spreadOf 95 = .ok (.iload_n 3, 1) := by decide +kernel
theorem dX12_spreadOf_96 : decode cX12_spreadOf 96 = .ok (.iload 4, 2) := by decide +kernel
theorem dX12_spreadOf_98 : decode cX12_spreadOf 98 = .ok (.isub, 1) := by decide +kernel
theorem dX12_spreadOf_99 : decode cX12_spreadOf 99 = .ok (.ireturn, 1) := by decide +kernel
theorem dX12_sittingMany_0 : decode cX12_sittingMany 0 = .ok (.iconst 0, 1) := by decide +kernel
theorem dX12_sittingMany_1 : decode cX12_sittingMany 1 = .ok (.istore_n 1, 1) := by decide +kernel
theorem dX12_sittingMany_2 : decode cX12_sittingMany 2 = .ok (.iconst 0, 1) := by decide +kernel
theorem dX12_sittingMany_3 : decode cX12_sittingMany 3 = .ok (.istore_n 2, 1) := by decide +kernel
theorem dX12_sittingMany_4 : decode cX12_sittingMany 4 = .ok (.iload_n 2, 1) := by decide +kernel
theorem dX12_sittingMany_5 : decode cX12_sittingMany 5 = .ok (.aload_n 0, 1) := by decide +kernel
theorem dX12_sittingMany_6 : decode cX12_sittingMany 6 = .ok (.getfield 101, 3) := by decide +kernel
theorem dX12_sittingMany_9 : decode cX12_sittingMany 9 = .ok (.if_icmp .ge 22, 3) := by decide +kernel
theorem dX12_sittingMany_12 : decode cX12_sittingMany 12 = .ok (.aload_n 0, 1) := by decide +kernel
theorem dX12_sittingMany_13 : decode cX12_sittingMany 13 = .ok (.iload_n 2, 1) := by decide +kernel
theorem dX12_sittingMany_14 : decode cX12_sittingMany 14 = .ok (.invokevirtual 107, 3) := by decide +kernel
theorem dX12_sittingMany_17 : decode cX12_sittingMany 17 = .ok (.iconst (-1), 1) := by decide +kernel
theorem dX12_sittingMany_18 : decode cX12_sittingMany 18 = .ok (.if_icmp .eq 7, 3) := by decide +kernel
theorem dX12_sittingMany_21 : decode cX12_sittingMany 21 = .ok (.iload_n 1, 1) := by decide +kernel
theorem dX12_sittingMany_22 : decode cX12_sittingMany 22 = .ok (.iconst 1, 1) := by decide +kernel
theorem dX12_sittingMany_23 : decode cX12_sittingMany 23 = .ok (.iadd, 1) := by decide +kernel
theorem dX12_sittingMany_24 : decode cX12_sittingMany 24 = .ok (.istore_n 1, 1) := by decide +kernel
theorem dX12_sittingMany_25 : decode cX12_sittingMany 25 = .ok (.iinc 2 1, 3) := by decide +kernel
theorem dX12_sittingMany_28 : decode cX12_sittingMany 28 = .ok (.goto (-24), 3) := by decide +kernel
theorem dX12_sittingMany_31 : decode cX12_sittingMany 31 = .ok (.iload_n 1, 1) := by decide +kernel
theorem dX12_sittingMany_32 : decode cX12_sittingMany 32 = .ok (.ireturn, 1) := by decide +kernel
theorem dX12_scandal_0 : decode cX12_scandal 0 = .ok (.aload_n 0, 1) := by decide +kernel
theorem dX12_scandal_1 : decode cX12_scandal 1 = .ok (.iconst 0, 1) := by decide +kernel
theorem dX12_scandal_2 : decode cX12_scandal 2 = .ok (.putfield 89, 3) := by decide +kernel
theorem dX12_scandal_5 : decode cX12_scandal 5 = .ok (.aload_n 0, 1) := by decide +kernel
theorem dX12_scandal_6 : decode cX12_scandal 6 = .ok (.invokevirtual 399, 3) := by decide +kernel
theorem dX12_scandal_9 : decode cX12_scandal 9 = .ok (.istore_n 2, 1) := by decide +kernel
theorem dX12_scandal_10 : decode cX12_scandal 10 = .ok (.iload_n 2, 1) := by decide +kernel
theorem dX12_scandal_11 : decode cX12_scandal 11 = .ok (.iconst 2, 1) := by decide +kernel
theorem dX12_scandal_12 : decode cX12_scandal 12 = .ok (.if_icmp .lt 13, 3) := by decide +kernel
theorem dX12_scandal_15 : decode cX12_scandal 15 = .ok (.aload_n 0, 1) := by decide +kernel
theorem dX12_scandal_16 : decode cX12_scandal 16 = .ok (.iload_n 1, 1) := by decide +kernel
theorem dX12_scandal_17 : decode cX12_scandal 17 = .ok (.iconst 0, 1) := by decide +kernel
theorem dX12_scandal_18 : decode cX12_scandal 18 = .ok (.iconst 1, 1) := by decide +kernel
theorem dX12_scandal_19 : decode cX12_scandal 19 = .ok (.invokevirtual 122, 3) := by decide +kernel
theorem dX12_scandal_22 : decode cX12_scandal 22 = .ok (.ifCond .ne 5, 3) := by decide +kernel
theorem dX12_scandal_25 : decode cX12_scandal 25 = .ok (.iconst (-1), 1) := by decide +kernel
theorem dX12_scandal_26 : decode cX12_scandal 26 = .ok (.ireturn, 1) := by decide +kernel
theorem dX12_scandal_27 : decode cX12_scandal 27 = .ok (.iconst 0, 1) := by decide +kernel
theorem dX12_scandal_28 : decode cX12_scandal 28 = .ok (.istore_n 3, 1) := by decide +kernel
theorem dX12_scandal_29 : decode cX12_scandal 29 = .ok (.ldc_w 398, 3) := by decide +kernel
theorem dX12_scandal_32 : decode cX12_scandal 32 = .ok (.istore 4, 2) := by decide +kernel
theorem dX12_scandal_34 : decode cX12_scandal 34 = .ok (.iconst 1, 1) := by decide +kernel
theorem dX12_scandal_35 : decode cX12_scandal 35 = .ok (.istore 5, 2) := by decide +kernel
theorem dX12_scandal_37 : decode cX12_scandal 37 = .ok (.iload 5, 2) := by decide +kernel
theorem dX12_scandal_39 : decode cX12_scandal 39 = .ok (.iload_n 2, 1) := by decide +kernel
theorem dX12_scandal_40 : decode cX12_scandal 40 = .ok (.if_icmp .ge 50, 3) := by decide +kernel
theorem dX12_scandal_43 : decode cX12_scandal 43 = .ok (.aload_n 0, 1) := by decide +kernel
theorem dX12_scandal_44 : decode cX12_scandal 44 = .ok (.iconst 0, 1) := by decide +kernel
theorem dX12_scandal_45 : decode cX12_scandal 45 = .ok (.iload 5, 2) := by decide +kernel
theorem dX12_scandal_47 : decode cX12_scandal 47 = .ok (.invokevirtual 402, 3) := by decide +kernel
theorem dX12_scandal_50 : decode cX12_scandal 50 = .ok (.aload_n 0, 1) := by decide +kernel
theorem dX12_scandal_51 : decode cX12_scandal 51 = .ok (.iload 5, 2) := by decide +kernel
theorem dX12_scandal_53 : decode cX12_scandal 53 = .ok (.iload_n 2, 1) := by decide +kernel
theorem dX12_scandal_54 : decode cX12_scandal 54 = .ok (.invokevirtual 402, 3) := by decide +kernel
theorem dX12_scandal_57 : decode cX12_scandal 57 = .ok (.iadd, 1) := by decide +kernel
theorem dX12_scandal_58 : decode cX12_scandal 58 = .ok (.istore 6, 2) := by decide +kernel
theorem dX12_scandal_60 : decode cX12_scandal 60 = .ok (.iload 6, 2) := by decide +kernel
theorem dX12_scandal_62 : decode cX12_scandal 62 = .ok (.iload 4, 2) := by decide +kernel
theorem dX12_scandal_64 : decode cX12_scandal 64 = .ok (.if_icmp .ge 8, 3) := by decide +kernel
theorem dX12_scandal_67 : decode cX12_scandal 67 = .ok (.iload 5, 2) := by decide +kernel
theorem dX12_scandal_69 : decode cX12_scandal 69 = .ok (.goto 4, 3) := by decide +kernel
theorem dX12_scandal_72 : decode cX12_scandal 72 = .ok (.iload_n 3, 1) := by decide +kernel
theorem dX12_scandal_73 : decode cX12_scandal 73 = .ok (.istore_n 3, 1) := by decide +kernel
theorem dX12_scandal_74 : decode cX12_scandal 74 = .ok (.aload_n 0, 1) := by decide +kernel
theorem dX12_scandal_75 : decode cX12_scandal 75 = .ok (.iload 4, 2) := by decide +kernel
theorem dX12_scandal_77 : decode cX12_scandal 77 = .ok (.iload 6, 2) := by decide +kernel
theorem dX12_scandal_79 : decode cX12_scandal 79 = .ok (.invokevirtual 328, 3) := by decide +kernel
theorem dX12_scandal_82 : decode cX12_scandal 82 = .ok (.istore 4, 2) := by decide +kernel
theorem dX12_scandal_84 : decode cX12_scandal 84 = .ok (.iinc 5 1, 3) := by decide +kernel
theorem dX12_scandal_87 : decode cX12_scandal 87 = .ok (.goto (-50), 3) := by decide +kernel
theorem dX12_scandal_90 : decode cX12_scandal 90 = .ok (.iload_n 1, 1) := by decide +kernel
theorem dX12_scandal_91 : decode cX12_scandal 91 = .ok (.ifCond .ne 7, 3) := by decide +kernel
theorem dX12_scandal_94 : decode cX12_scandal 94 = .ok (.iload_n 3, 1) := by decide +kernel
theorem dX12_scandal_95 : decode cX12_scandal 95 = .ok (.goto 5, 3) := by decide +kernel
theorem dX12_scandal_98 : decode cX12_scandal 98 = .ok (.iload 4, 2) := by decide +kernel
theorem dX12_scandal_100 : decode cX12_scandal 100 = .ok (.ireturn, 1) := by decide +kernel
theorem dX12_waysTo_0 : decode cX12_waysTo 0 = .ok (.iconst 0, 1) := by decide +kernel
theorem dX12_waysTo_1 : decode cX12_waysTo 1 = .ok (.istore_n 2, 1) := by decide +kernel
theorem dX12_waysTo_2 : decode cX12_waysTo 2 = .ok (.iconst 0, 1) := by decide +kernel
theorem dX12_waysTo_3 : decode cX12_waysTo 3 = .ok (.istore_n 3, 1) := by decide +kernel
theorem dX12_waysTo_4 : decode cX12_waysTo 4 = .ok (.iload_n 3, 1) := by decide +kernel
theorem dX12_waysTo_5 : decode cX12_waysTo 5 = .ok (.aload_n 0, 1) := by decide +kernel
theorem dX12_waysTo_6 : decode cX12_waysTo 6 = .ok (.getfield 101, 3) := by decide +kernel
theorem dX12_waysTo_9 : decode cX12_waysTo 9 = .ok (.if_icmp .ge 43, 3) := by decide +kernel
theorem dX12_waysTo_12 : decode cX12_waysTo 12 = .ok (.aload_n 0, 1) := by decide +kernel
theorem dX12_waysTo_13 : decode cX12_waysTo 13 = .ok (.iload_n 3, 1) := by decide +kernel
theorem dX12_waysTo_14 : decode cX12_waysTo 14 = .ok (.invokevirtual 107, 3) := by decide +kernel
theorem dX12_waysTo_17 : decode cX12_waysTo 17 = .ok (.iconst (-1), 1) := by decide +kernel
theorem dX12_waysTo_18 : decode cX12_waysTo 18 = .ok (.if_icmp .eq 28, 3) := by decide +kernel
theorem dX12_waysTo_21 : decode cX12_waysTo 21 = .ok (.iload_n 2, 1) := by decide +kernel
theorem dX12_waysTo_22 : decode cX12_waysTo 22 = .ok (.aload_n 0, 1) := by decide +kernel
theorem dX12_waysTo_23 : decode cX12_waysTo 23 = .ok (.aload_n 0, 1) := by decide +kernel
theorem dX12_waysTo_24 : decode cX12_waysTo 24 = .ok (.getfield 7, 3) := by decide +kernel
theorem dX12_waysTo_27 : decode cX12_waysTo 27 = .ok (.bipush 63, 2) := by decide +kernel
theorem dX12_waysTo_29 : decode cX12_waysTo 29 = .ok (.iload_n 1, 1) := by decide +kernel
theorem dX12_waysTo_30 : decode cX12_waysTo 30 = .ok (.iadd, 1) := by decide +kernel
theorem dX12_waysTo_31 : decode cX12_waysTo 31 = .ok (.iaload, 1) := by decide +kernel
theorem dX12_waysTo_32 : decode cX12_waysTo 32 = .ok (.aload_n 0, 1) := by decide +kernel
theorem dX12_waysTo_33 : decode cX12_waysTo 33 = .ok (.getfield 7, 3) := by decide +kernel
theorem dX12_waysTo_36 : decode cX12_waysTo 36 = .ok (.bipush 63, 2) := by decide +kernel
theorem dX12_waysTo_38 : decode cX12_waysTo 38 = .ok (.iload_n 3, 1) := by decide +kernel
theorem dX12_waysTo_39 : decode cX12_waysTo 39 = .ok (.iadd, 1) := by decide +kernel
theorem dX12_waysTo_40 : decode cX12_waysTo 40 = .ok (.iaload, 1) := by decide +kernel
theorem dX12_waysTo_41 : decode cX12_waysTo 41 = .ok (.invokevirtual 405, 3) := by decide +kernel
theorem dX12_waysTo_44 : decode cX12_waysTo 44 = .ok (.iadd, 1) := by decide +kernel
theorem dX12_waysTo_45 : decode cX12_waysTo 45 = .ok (.istore_n 2, 1) := by decide +kernel
theorem dX12_waysTo_46 : decode cX12_waysTo 46 = .ok (.iinc 3 1, 3) := by decide +kernel
theorem dX12_waysTo_49 : decode cX12_waysTo 49 = .ok (.goto (-45), 3) := by decide +kernel
theorem dX12_waysTo_52 : decode cX12_waysTo 52 = .ok (.iload_n 2, 1) := by decide +kernel
theorem dX12_waysTo_53 : decode cX12_waysTo 53 = .ok (.ireturn, 1) := by decide +kernel
theorem dX12_middle_0 : decode cX12_middle 0 = .ok (.aload_n 0, 1) := by decide +kernel
theorem dX12_middle_1 : decode cX12_middle 1 = .ok (.iconst 0, 1) := by decide +kernel
theorem dX12_middle_2 : decode cX12_middle 2 = .ok (.putfield 89, 3) := by decide +kernel
theorem dX12_middle_5 : decode cX12_middle 5 = .ok (.aload_n 0, 1) := by decide +kernel
theorem dX12_middle_6 : decode cX12_middle 6 = .ok (.getfield 101, 3) := by decide +kernel
theorem dX12_middle_9 : decode cX12_middle 9 = .ok (.ifCond .eq 13, 3) := by decide +kernel
theorem dX12_middle_12 : decode cX12_middle 12 = .ok (.aload_n 0, 1) := by decide +kernel
theorem dX12_middle_13 : decode cX12_middle 13 = .ok (.iload_n 1, 1) := by decide +kernel
theorem dX12_middle_14 : decode cX12_middle 14 = .ok (.iconst 0, 1) := by decide +kernel
theorem dX12_middle_15 : decode cX12_middle 15 = .ok (.iconst 1, 1) := by decide +kernel
theorem dX12_middle_16 : decode cX12_middle 16 = .ok (.invokevirtual 122, 3) := by decide +kernel
theorem dX12_middle_19 : decode cX12_middle 19 = .ok (.ifCond .ne 5, 3) := by decide +kernel
theorem dX12_middle_22 : decode cX12_middle 22 = .ok (.iconst (-1), 1) := by decide +kernel
theorem dX12_middle_23 : decode cX12_middle 23 = .ok (.ireturn, 1) := by decide +kernel
theorem dX12_middle_24 : decode cX12_middle 24 = .ok (.iconst 0, 1) := by decide +kernel
theorem dX12_middle_25 : decode cX12_middle 25 = .ok (.istore_n 2, 1) := by decide +kernel
theorem dX12_middle_26 : decode cX12_middle 26 = .ok (.iconst 1, 1) := by decide +kernel
theorem dX12_middle_27 : decode cX12_middle 27 = .ok (.istore_n 3, 1) := by decide +kernel
theorem dX12_middle_28 : decode cX12_middle 28 = .ok (.iload_n 3, 1) := by decide +kernel
theorem dX12_middle_29 : decode cX12_middle 29 = .ok (.aload_n 0, 1) := by decide +kernel
theorem dX12_middle_30 : decode cX12_middle 30 = .ok (.getfield 101, 3) := by decide +kernel
theorem dX12_middle_33 : decode cX12_middle 33 = .ok (.if_icmp .ge 24, 3) := by decide +kernel
theorem dX12_middle_36 : decode cX12_middle 36 = .ok (.aload_n 0, 1) := by decide +kernel
theorem dX12_middle_37 : decode cX12_middle 37 = .ok (.iload_n 3, 1) := by decide +kernel
theorem dX12_middle_38 : decode cX12_middle 38 = .ok (.invokevirtual 408, 3) := by decide +kernel
theorem dX12_middle_41 : decode cX12_middle 41 = .ok (.aload_n 0, 1) := by decide +kernel
theorem dX12_middle_42 : decode cX12_middle 42 = .ok (.iload_n 2, 1) := by decide +kernel
theorem dX12_middle_43 : decode cX12_middle 43 = .ok (.invokevirtual 408, 3) := by decide +kernel
theorem dX12_middle_46 : decode cX12_middle 46 = .ok (.if_icmp .ge 5, 3) := by decide +kernel
theorem dX12_middle_49 : decode cX12_middle 49 = .ok (.iload_n 3, 1) := by decide +kernel
theorem dX12_middle_50 : decode cX12_middle 50 = .ok (.istore_n 2, 1) := by decide +kernel
theorem dX12_middle_51 : decode cX12_middle 51 = .ok (.iinc 3 1, 3) := by decide +kernel
theorem dX12_middle_54 : decode cX12_middle 54 = .ok (.goto (-26), 3) := by decide +kernel
theorem dX12_middle_57 : decode cX12_middle 57 = .ok (.iload_n 1, 1) := by decide +kernel
theorem dX12_middle_58 : decode cX12_middle 58 = .ok (.ifCond .ne 7, 3) := by decide +kernel
theorem dX12_middle_61 : decode cX12_middle 61 = .ok (.iload_n 2, 1) := by decide +kernel
theorem dX12_middle_62 : decode cX12_middle 62 = .ok (.goto 8, 3) := by decide +kernel
theorem dX12_middle_65 : decode cX12_middle 65 = .ok (.aload_n 0, 1) := by decide +kernel
theorem dX12_middle_66 : decode cX12_middle 66 = .ok (.iload_n 2, 1) := by decide +kernel
theorem dX12_middle_67 : decode cX12_middle 67 = .ok (.invokevirtual 408, 3) := by decide +kernel
theorem dX12_middle_70 : decode cX12_middle 70 = .ok (.ireturn, 1) := by decide +kernel
theorem dX12_followsBut_0 : decode cX12_followsBut 0 = .ok (.iload_n 1, 1) := by decide +kernel
theorem dX12_followsBut_1 : decode cX12_followsBut 1 = .ok (.istore_n 3, 1) := by decide +kernel
theorem dX12_followsBut_2 : decode cX12_followsBut 2 = .ok (.iconst (-1), 1) := by decide +kernel
theorem dX12_followsBut_3 : decode cX12_followsBut 3 = .ok (.istore 4, 2) := by decide +kernel
theorem dX12_followsBut_5 : decode cX12_followsBut 5 = .ok (.iload 4, 2) := by decide +kernel
theorem dX12_followsBut_7 : decode cX12_followsBut 7 = .ok (.iload_n 3, 1) := by decide +kernel
theorem dX12_followsBut_8 : decode cX12_followsBut 8 = .ok (.if_icmp .eq 65, 3) := by decide +kernel
theorem dX12_followsBut_11 : decode cX12_followsBut 11 = .ok (.iload_n 3, 1) := by decide +kernel
theorem dX12_followsBut_12 : decode cX12_followsBut 12 = .ok (.istore 4, 2) := by decide +kernel
theorem dX12_followsBut_14 : decode cX12_followsBut 14 = .ok (.iconst 0, 1) := by decide +kernel
theorem dX12_followsBut_15 : decode cX12_followsBut 15 = .ok (.istore 5, 2) := by decide +kernel
theorem dX12_followsBut_17 : decode cX12_followsBut 17 = .ok (.iload 5, 2) := by decide +kernel
theorem dX12_followsBut_19 : decode cX12_followsBut 19 = .ok (.aload_n 0, 1) := by decide +kernel
theorem dX12_followsBut_20 : decode cX12_followsBut 20 = .ok (.getfield 273, 3) := by decide +kernel
theorem dX12_followsBut_23 : decode cX12_followsBut 23 = .ok (.if_icmp .ge 47, 3) := by decide +kernel
theorem dX12_followsBut_26 : decode cX12_followsBut 26 = .ok (.iload 5, 2) := by decide +kernel
theorem dX12_followsBut_28 : decode cX12_followsBut 28 = .ok (.iload_n 2, 1) := by decide +kernel
theorem dX12_followsBut_29 : decode cX12_followsBut 29 = .ok (.if_icmp .eq 35, 3) := by decide +kernel
theorem dX12_followsBut_32 : decode cX12_followsBut 32 = .ok (.aload_n 0, 1) := by decide +kernel
theorem dX12_followsBut_33 : decode cX12_followsBut 33 = .ok (.getfield 65, 3) := by decide +kernel
theorem dX12_followsBut_36 : decode cX12_followsBut 36 = .ok (.iconst 2, 1) := by decide +kernel
theorem dX12_followsBut_37 : decode cX12_followsBut 37 = .ok (.iload 5, 2) := by decide +kernel
theorem dX12_followsBut_39 : decode cX12_followsBut 39 = .ok (.imul, 1) := by decide +kernel
theorem dX12_followsBut_40 : decode cX12_followsBut 40 = .ok (.iaload, 1) := by decide +kernel
theorem dX12_followsBut_41 : decode cX12_followsBut 41 = .ok (.iload_n 3, 1) := by decide +kernel
theorem dX12_followsBut_42 : decode cX12_followsBut 42 = .ok (.iconst (-1), 1) := by decide +kernel
theorem dX12_followsBut_43 : decode cX12_followsBut 43 = .ok (.ixor, 1) := by decide +kernel
theorem dX12_followsBut_44 : decode cX12_followsBut 44 = .ok (.iand, 1) := by decide +kernel
theorem dX12_followsBut_45 : decode cX12_followsBut 45 = .ok (.ifCond .ne 19, 3) := by decide +kernel
theorem dX12_followsBut_48 : decode cX12_followsBut 48 = .ok (.iload_n 3, 1) := by decide +kernel
theorem dX12_followsBut_49 : decode cX12_followsBut 49 = .ok (.iconst 1, 1) := by decide +kernel
theorem dX12_followsBut_50 : decode cX12_followsBut 50 = .ok (.aload_n 0, 1) := by decide +kernel
theorem dX12_followsBut_51 : decode cX12_followsBut 51 = .ok (.getfield 65, 3) := by decide +kernel
theorem dX12_followsBut_54 : decode cX12_followsBut 54 = .ok (.iconst 2, 1) := by decide +kernel
theorem dX12_followsBut_55 : decode cX12_followsBut 55 = .ok (.iload 5, 2) := by decide +kernel
theorem dX12_followsBut_57 : decode cX12_followsBut 57 = .ok (.imul, 1) := by decide +kernel
theorem dX12_followsBut_58 : decode cX12_followsBut 58 = .ok (.iconst 1, 1) := by decide +kernel
theorem dX12_followsBut_59 : decode cX12_followsBut 59 = .ok (.iadd, 1) := by decide +kernel
theorem dX12_followsBut_60 : decode cX12_followsBut 60 = .ok (.iaload, 1) := by decide +kernel
theorem dX12_followsBut_61 : decode cX12_followsBut 61 = .ok (.ishl, 1) := by decide +kernel
theorem dX12_followsBut_62 : decode cX12_followsBut 62 = .ok (.ior, 1) := by decide +kernel
theorem dX12_followsBut_63 : decode cX12_followsBut 63 = .ok (.istore_n 3, 1) := by decide +kernel
theorem dX12_followsBut_64 : decode cX12_followsBut 64 = .ok (.iinc 5 1, 3) := by decide +kernel
theorem dX12_followsBut_67 : decode cX12_followsBut 67 = .ok (.goto (-50), 3) := by decide +kernel
theorem dX12_followsBut_70 : decode cX12_followsBut 70 = .ok (.goto (-65), 3) := by decide +kernel
theorem dX12_followsBut_73 : decode cX12_followsBut 73 = .ok (.iload_n 3, 1) := by decide +kernel
theorem dX12_followsBut_74 : decode cX12_followsBut 74 = .ok (.ireturn, 1) := by decide +kernel
theorem dX12_follows_0 : decode cX12_follows 0 = .ok (.aload_n 0, 1) := by decide +kernel
theorem dX12_follows_1 : decode cX12_follows 1 = .ok (.iconst 0, 1) := by decide +kernel
theorem dX12_follows_2 : decode cX12_follows 2 = .ok (.putfield 89, 3) := by decide +kernel
theorem dX12_follows_5 : decode cX12_follows 5 = .ok (.aload_n 0, 1) := by decide +kernel
theorem dX12_follows_6 : decode cX12_follows 6 = .ok (.iload_n 1, 1) := by decide +kernel
theorem dX12_follows_7 : decode cX12_follows 7 = .ok (.iconst 0, 1) := by decide +kernel
theorem dX12_follows_8 : decode cX12_follows 8 = .ok (.ldc_w 411, 3) := by decide +kernel
theorem dX12_follows_11 : decode cX12_follows 11 = .ok (.invokevirtual 122, 3) := by decide +kernel
theorem dX12_follows_14 : decode cX12_follows 14 = .ok (.ifCond .eq 12, 3) := by decide +kernel
theorem dX12_follows_17 : decode cX12_follows 17 = .ok (.aload_n 0, 1) := by decide +kernel
theorem dX12_follows_18 : decode cX12_follows 18 = .ok (.iload_n 1, 1) := by decide +kernel
theorem dX12_follows_19 : decode cX12_follows 19 = .ok (.iconst (-1), 1) := by decide +kernel
theorem dX12_follows_20 : decode cX12_follows 20 = .ok (.invokevirtual 412, 3) := by decide +kernel
theorem dX12_follows_23 : decode cX12_follows 23 = .ok (.goto 4, 3) := by decide +kernel
theorem dX12_follows_26 : decode cX12_follows 26 = .ok (.iconst (-1), 1) := by decide +kernel
theorem dX12_follows_27 : decode cX12_follows 27 = .ok (.ireturn, 1) := by decide +kernel
theorem dX12_idle_0 : decode cX12_idle 0 = .ok (.iconst 0, 1) := by decide +kernel
theorem dX12_idle_1 : decode cX12_idle 1 = .ok (.istore_n 1, 1) := by decide +kernel
theorem dX12_idle_2 : decode cX12_idle 2 = .ok (.iconst 0, 1) := by decide +kernel
theorem dX12_idle_3 : decode cX12_idle 3 = .ok (.istore_n 2, 1) := by decide +kernel
theorem dX12_idle_4 : decode cX12_idle 4 = .ok (.iload_n 2, 1) := by decide +kernel
theorem dX12_idle_5 : decode cX12_idle 5 = .ok (.aload_n 0, 1) := by decide +kernel
theorem dX12_idle_6 : decode cX12_idle 6 = .ok (.getfield 273, 3) := by decide +kernel
theorem dX12_idle_9 : decode cX12_idle 9 = .ok (.if_icmp .ge 43, 3) := by decide +kernel
theorem dX12_idle_12 : decode cX12_idle 12 = .ok (.aload_n 0, 1) := by decide +kernel
theorem dX12_idle_13 : decode cX12_idle 13 = .ok (.aload_n 0, 1) := by decide +kernel
theorem dX12_idle_14 : decode cX12_idle 14 = .ok (.aload_n 0, 1) := by decide +kernel
theorem dX12_idle_15 : decode cX12_idle 15 = .ok (.getfield 65, 3) := by decide +kernel
theorem dX12_idle_18 : decode cX12_idle 18 = .ok (.iconst 2, 1) := by decide +kernel
theorem dX12_idle_19 : decode cX12_idle 19 = .ok (.iload_n 2, 1) := by decide +kernel
theorem dX12_idle_20 : decode cX12_idle 20 = .ok (.imul, 1) := by decide +kernel
theorem dX12_idle_21 : decode cX12_idle 21 = .ok (.iaload, 1) := by decide +kernel
theorem dX12_idle_22 : decode cX12_idle 22 = .ok (.iload_n 2, 1) := by decide +kernel
theorem dX12_idle_23 : decode cX12_idle 23 = .ok (.invokevirtual 412, 3) := by decide +kernel
theorem dX12_idle_26 : decode cX12_idle 26 = .ok (.aload_n 0, 1) := by decide +kernel
theorem dX12_idle_27 : decode cX12_idle 27 = .ok (.getfield 65, 3) := by decide +kernel
theorem dX12_idle_30 : decode cX12_idle 30 = .ok (.iconst 2, 1) := by decide +kernel
theorem dX12_idle_31 : decode cX12_idle 31 = .ok (.iload_n 2, 1) := by decide +kernel
theorem dX12_idle_32 : decode cX12_idle 32 = .ok (.imul, 1) := by decide +kernel
theorem dX12_idle_33 : decode cX12_idle 33 = .ok (.iconst 1, 1) := by decide +kernel
theorem dX12_idle_34 : decode cX12_idle 34 = .ok (.iadd, 1) := by decide +kernel
theorem dX12_idle_35 : decode cX12_idle 35 = .ok (.iaload, 1) := by decide +kernel
theorem dX12_idle_36 : decode cX12_idle 36 = .ok (.invokevirtual 415, 3) := by decide +kernel
theorem dX12_idle_39 : decode cX12_idle 39 = .ok (.ifCond .eq 7, 3) := by decide +kernel
theorem dX12_idle_42 : decode cX12_idle 42 = .ok (.iload_n 1, 1) := by decide +kernel
theorem dX12_idle_43 : decode cX12_idle 43 = .ok (.iconst 1, 1) := by decide +kernel
theorem dX12_idle_44 : decode cX12_idle 44 = .ok (.iadd, 1) := by decide +kernel
theorem dX12_idle_45 : decode cX12_idle 45 = .ok (.istore_n 1, 1) := by decide +kernel
theorem dX12_idle_46 : decode cX12_idle 46 = .ok (.iinc 2 1, 3) := by decide +kernel
theorem dX12_idle_49 : decode cX12_idle 49 = .ok (.goto (-45), 3) := by decide +kernel
theorem dX12_idle_52 : decode cX12_idle 52 = .ok (.iload_n 1, 1) := by decide +kernel
theorem dX12_idle_53 : decode cX12_idle 53 = .ok (.ireturn, 1) := by decide +kernel
theorem dX12_gives_0 : decode cX12_gives 0 = .ok (.aload_n 0, 1) := by decide +kernel
theorem dX12_gives_1 : decode cX12_gives 1 = .ok (.iconst 0, 1) := by decide +kernel
theorem dX12_gives_2 : decode cX12_gives 2 = .ok (.putfield 89, 3) := by decide +kernel
theorem dX12_gives_5 : decode cX12_gives 5 = .ok (.iload_n 2, 1) := by decide +kernel
theorem dX12_gives_6 : decode cX12_gives 6 = .ok (.iconst 2, 1) := by decide +kernel
theorem dX12_gives_7 : decode cX12_gives 7 = .ok (.if_icmp .ne 8, 3) := by decide +kernel
theorem dX12_gives_10 : decode cX12_gives 10 = .ok (.aload_n 0, 1) := by decide +kernel
theorem dX12_gives_11 : decode cX12_gives 11 = .ok (.invokevirtual 419, 3) := by decide +kernel
theorem dX12_gives_14 : decode cX12_gives 14 = .ok (.ireturn, 1) := by decide +kernel
theorem dX12_gives_15 : decode cX12_gives 15 = .ok (.aload_n 0, 1) := by decide +kernel
theorem dX12_gives_16 : decode cX12_gives 16 = .ok (.iload_n 1, 1) := by decide +kernel
theorem dX12_gives_17 : decode cX12_gives 17 = .ok (.iconst 0, 1) := by decide +kernel
theorem dX12_gives_18 : decode cX12_gives 18 = .ok (.bipush 15, 2) := by decide +kernel
theorem dX12_gives_20 : decode cX12_gives 20 = .ok (.invokevirtual 122, 3) := by decide +kernel
theorem dX12_gives_23 : decode cX12_gives 23 = .ok (.ifCond .eq 35, 3) := by decide +kernel
theorem dX12_gives_26 : decode cX12_gives 26 = .ok (.aload_n 0, 1) := by decide +kernel
theorem dX12_gives_27 : decode cX12_gives 27 = .ok (.iload_n 2, 1) := by decide +kernel
theorem dX12_gives_28 : decode cX12_gives 28 = .ok (.iconst 0, 1) := by decide +kernel
theorem dX12_gives_29 : decode cX12_gives 29 = .ok (.iconst 1, 1) := by decide +kernel
theorem dX12_gives_30 : decode cX12_gives 30 = .ok (.invokevirtual 122, 3) := by decide +kernel
theorem dX12_gives_33 : decode cX12_gives 33 = .ok (.ifCond .eq 25, 3) := by decide +kernel
theorem dX12_gives_36 : decode cX12_gives 36 = .ok (.aload_n 0, 1) := by decide +kernel
theorem dX12_gives_37 : decode cX12_gives 37 = .ok (.aload_n 0, 1) := by decide +kernel
theorem dX12_gives_38 : decode cX12_gives 38 = .ok (.ldc_w 411, 3) := by decide +kernel
theorem dX12_gives_41 : decode cX12_gives 41 = .ok (.iconst 1, 1) := by decide +kernel
theorem dX12_gives_42 : decode cX12_gives 42 = .ok (.iload_n 1, 1) := by decide +kernel
theorem dX12_gives_43 : decode cX12_gives 43 = .ok (.ishl, 1) := by decide +kernel
theorem dX12_gives_44 : decode cX12_gives 44 = .ok (.iconst (-1), 1) := by decide +kernel
theorem dX12_gives_45 : decode cX12_gives 45 = .ok (.ixor, 1) := by decide +kernel
theorem dX12_gives_46 : decode cX12_gives 46 = .ok (.iand, 1) := by decide +kernel
theorem dX12_gives_47 : decode cX12_gives 47 = .ok (.iconst (-1), 1) := by decide +kernel
theorem dX12_gives_48 : decode cX12_gives 48 = .ok (.invokevirtual 412, 3) := by decide +kernel
theorem dX12_gives_51 : decode cX12_gives 51 = .ok (.iload_n 1, 1) := by decide +kernel
theorem dX12_gives_52 : decode cX12_gives 52 = .ok (.invokevirtual 415, 3) := by decide +kernel
theorem dX12_gives_55 : decode cX12_gives 55 = .ok (.ifCond .ne 5, 3) := by decide +kernel
theorem dX12_gives_58 : decode cX12_gives 58 = .ok (.iconst (-1), 1) := by decide +kernel
theorem dX12_gives_59 : decode cX12_gives 59 = .ok (.ireturn, 1) := by decide +kernel
theorem dX12_gives_60 : decode cX12_gives 60 = .ok (.iconst (-1), 1) := by decide +kernel
theorem dX12_gives_61 : decode cX12_gives 61 = .ok (.istore_n 3, 1) := by decide +kernel
theorem dX12_gives_62 : decode cX12_gives 62 = .ok (.iconst 0, 1) := by decide +kernel
theorem dX12_gives_63 : decode cX12_gives 63 = .ok (.istore 4, 2) := by decide +kernel
theorem dX12_gives_65 : decode cX12_gives 65 = .ok (.iload 4, 2) := by decide +kernel
theorem dX12_gives_67 : decode cX12_gives 67 = .ok (.ldc_w 422, 3) := by decide +kernel
theorem dX12_gives_70 : decode cX12_gives 70 = .ok (.if_icmp .ge 56, 3) := by decide +kernel
theorem dX12_gives_73 : decode cX12_gives 73 = .ok (.aload_n 0, 1) := by decide +kernel
theorem dX12_gives_74 : decode cX12_gives 74 = .ok (.iload 4, 2) := by decide +kernel
theorem dX12_gives_76 : decode cX12_gives 76 = .ok (.iload_n 1, 1) := by decide +kernel
theorem dX12_gives_77 : decode cX12_gives 77 = .ok (.invokevirtual 415, 3) := by decide +kernel
theorem dX12_gives_80 : decode cX12_gives 80 = .ok (.ifCond .ne 40, 3) := by decide +kernel
theorem dX12_gives_83 : decode cX12_gives 83 = .ok (.iload_n 3, 1) := by decide +kernel
theorem dX12_gives_84 : decode cX12_gives 84 = .ok (.iconst (-1), 1) := by decide +kernel
theorem dX12_gives_85 : decode cX12_gives 85 = .ok (.if_icmp .eq 17, 3) := by decide +kernel
theorem dX12_gives_88 : decode cX12_gives 88 = .ok (.aload_n 0, 1) := by decide +kernel
theorem dX12_gives_89 : decode cX12_gives 89 = .ok (.iload 4, 2) := by decide +kernel
theorem dX12_gives_91 : decode cX12_gives 91 = .ok (.invokevirtual 391, 3) := by decide +kernel
theorem dX12_gives_94 : decode cX12_gives 94 = .ok (.aload_n 0, 1) := by decide +kernel
theorem dX12_gives_95 : decode cX12_gives 95 = .ok (.iload_n 3, 1) := by decide +kernel
theorem dX12_gives_96 : decode cX12_gives 96 = .ok (.invokevirtual 391, 3) := by decide +kernel
theorem dX12_gives_99 : decode cX12_gives 99 = .ok (.if_icmp .ge 21, 3) := by decide +kernel
theorem dX12_gives_102 : decode cX12_gives 102 = .ok (.aload_n 0, 1) := by decide +kernel
theorem dX12_gives_103 : decode cX12_gives 103 = .ok (.aload_n 0, 1) := by decide +kernel
theorem dX12_gives_104 : decode cX12_gives 104 = .ok (.iload 4, 2) := by decide +kernel
theorem dX12_gives_106 : decode cX12_gives 106 = .ok (.iconst (-1), 1) := by decide +kernel
theorem dX12_gives_107 : decode cX12_gives 107 = .ok (.invokevirtual 412, 3) := by decide +kernel
theorem dX12_gives_110 : decode cX12_gives 110 = .ok (.iload_n 1, 1) := by decide +kernel
theorem dX12_gives_111 : decode cX12_gives 111 = .ok (.invokevirtual 415, 3) := by decide +kernel
theorem dX12_gives_114 : decode cX12_gives 114 = .ok (.ifCond .eq 6, 3) := by decide +kernel
theorem dX12_gives_117 : decode cX12_gives 117 = .ok (.iload 4, 2) := by decide +kernel
theorem dX12_gives_119 : decode cX12_gives 119 = .ok (.istore_n 3, 1) := by decide +kernel
theorem dX12_gives_120 : decode cX12_gives 120 = .ok (.iinc 4 1, 3) := by decide +kernel
theorem dX12_gives_123 : decode cX12_gives 123 = .ok (.goto (-58), 3) := by decide +kernel
theorem dX12_gives_126 : decode cX12_gives 126 = .ok (.iload_n 3, 1) := by decide +kernel
theorem dX12_gives_127 : decode cX12_gives 127 = .ok (.iconst (-1), 1) := by decide +kernel
theorem dX12_gives_128 : decode cX12_gives 128 = .ok (.if_icmp .eq 8, 3) := by decide +kernel
theorem dX12_gives_131 : decode cX12_gives 131 = .ok (.iload_n 2, 1) := by decide +kernel
theorem dX12_gives_132 : decode cX12_gives 132 = .ok (.iconst 1, 1) := by decide +kernel
theorem dX12_gives_133 : decode cX12_gives 133 = .ok (.if_icmp .ne 7, 3) := by decide +kernel
theorem dX12_gives_136 : decode cX12_gives 136 = .ok (.iload_n 3, 1) := by decide +kernel
theorem dX12_gives_137 : decode cX12_gives 137 = .ok (.goto 8, 3) := by decide +kernel
theorem dX12_gives_140 : decode cX12_gives 140 = .ok (.aload_n 0, 1) := by decide +kernel
theorem dX12_gives_141 : decode cX12_gives 141 = .ok (.iload_n 3, 1) := by decide +kernel
theorem dX12_gives_142 : decode cX12_gives 142 = .ok (.invokevirtual 391, 3) := by decide +kernel
theorem dX12_gives_145 : decode cX12_gives 145 = .ok (.ireturn, 1) := by decide +kernel
theorem dX12_seenFrom_0 : decode cX12_seenFrom 0 = .ok (.iconst 0, 1) := by decide +kernel
theorem dX12_seenFrom_1 : decode cX12_seenFrom 1 = .ok (.istore_n 2, 1) := by decide +kernel
theorem dX12_seenFrom_2 : decode cX12_seenFrom 2 = .ok (.iconst 0, 1) := by decide +kernel
theorem dX12_seenFrom_3 : decode cX12_seenFrom 3 = .ok (.istore_n 3, 1) := by decide +kernel
theorem dX12_seenFrom_4 : decode cX12_seenFrom 4 = .ok (.iconst 0, 1) := by decide +kernel
theorem dX12_seenFrom_5 : decode cX12_seenFrom 5 = .ok (.istore 4, 2) := by decide +kernel
theorem dX12_seenFrom_7 : decode cX12_seenFrom 7 = .ok (.iload 4, 2) := by decide +kernel
theorem dX12_seenFrom_9 : decode cX12_seenFrom 9 = .ok (.aload_n 0, 1) := by decide +kernel
theorem dX12_seenFrom_10 : decode cX12_seenFrom 10 = .ok (.getfield 101, 3) := by decide +kernel
theorem dX12_seenFrom_13 : decode cX12_seenFrom 13 = .ok (.if_icmp .ge 55, 3) := by decide +kernel
theorem dX12_seenFrom_16 : decode cX12_seenFrom 16 = .ok (.aload_n 0, 1) := by decide +kernel
theorem dX12_seenFrom_17 : decode cX12_seenFrom 17 = .ok (.getfield 7, 3) := by decide +kernel
theorem dX12_seenFrom_20 : decode cX12_seenFrom 20 = .ok (.bipush 63, 2) := by decide +kernel
theorem dX12_seenFrom_22 : decode cX12_seenFrom 22 = .ok (.iload_n 1, 1) := by decide +kernel
theorem dX12_seenFrom_23 : decode cX12_seenFrom 23 = .ok (.ifCond .eq 15, 3) := by decide +kernel
theorem dX12_seenFrom_26 : decode cX12_seenFrom 26 = .ok (.aload_n 0, 1) := by decide +kernel
theorem dX12_seenFrom_27 : decode cX12_seenFrom 27 = .ok (.getfield 101, 3) := by decide +kernel
theorem dX12_seenFrom_30 : decode cX12_seenFrom 30 = .ok (.iconst 1, 1) := by decide +kernel
theorem dX12_seenFrom_31 : decode cX12_seenFrom 31 = .ok (.isub, 1) := by decide +kernel
theorem dX12_seenFrom_32 : decode cX12_seenFrom 32 = .ok (.iload 4, 2) := by decide +kernel
theorem dX12_seenFrom_34 : decode cX12_seenFrom 34 = .ok (.isub, 1) := by decide +kernel
theorem dX12_seenFrom_35 : decode cX12_seenFrom 35 = .ok (.goto 5, 3) := by decide +kernel
theorem dX12_seenFrom_38 : decode cX12_seenFrom 38 = .ok (.iload 4, 2) := by decide +kernel
theorem dX12_seenFrom_40 : decode cX12_seenFrom 40 = .ok (.iadd, 1) := by decide +kernel
theorem dX12_seenFrom_41 : decode cX12_seenFrom 41 = .ok (.iaload, 1) := by decide +kernel
theorem dX12_seenFrom_42 : decode cX12_seenFrom 42 = .ok (.istore 5, 2) := by decide +kernel
theorem dX12_seenFrom_44 : decode cX12_seenFrom 44 = .ok (.iload 5, 2) := by decide +kernel
theorem dX12_seenFrom_46 : decode cX12_seenFrom 46 = .ok (.iload_n 3, 1) := by decide +kernel
theorem dX12_seenFrom_47 : decode cX12_seenFrom 47 = .ok (.if_icmp .le 7, 3) := by decide +kernel
theorem dX12_seenFrom_50 : decode cX12_seenFrom 50 = .ok (.iload_n 2, 1) := by decide +kernel
theorem dX12_seenFrom_51 : decode cX12_seenFrom 51 = .ok (.iconst 1, 1) := by decide +kernel
theorem dX12_seenFrom_52 : decode cX12_seenFrom 52 = .ok (.iadd, 1) := by decide +kernel
theorem dX12_seenFrom_53 : decode cX12_seenFrom 53 = .ok (.istore_n 2, 1) := by decide +kernel
theorem dX12_seenFrom_54 : decode cX12_seenFrom 54 = .ok (.aload_n 0, 1) := by decide +kernel
theorem dX12_seenFrom_55 : decode cX12_seenFrom 55 = .ok (.iload_n 3, 1) := by decide +kernel
theorem dX12_seenFrom_56 : decode cX12_seenFrom 56 = .ok (.iload 5, 2) := by decide +kernel
theorem dX12_seenFrom_58 : decode cX12_seenFrom 58 = .ok (.invokevirtual 316, 3) := by decide +kernel
theorem dX12_seenFrom_61 : decode cX12_seenFrom 61 = .ok (.istore_n 3, 1) := by decide +kernel
theorem dX12_seenFrom_62 : decode cX12_seenFrom 62 = .ok (.iinc 4 1, 3) := by decide +kernel
theorem dX12_seenFrom_65 : decode cX12_seenFrom 65 = .ok (.goto (-58), 3) := by decide +kernel
theorem dX12_seenFrom_68 : decode cX12_seenFrom 68 = .ok (.iload_n 2, 1) := by decide +kernel
theorem dX12_seenFrom_69 : decode cX12_seenFrom 69 = .ok (.ireturn, 1) := by decide +kernel
theorem dX12_isStork_0 : decode cX12_isStork 0 = .ok (.iload_n 1, 1) := by decide +kernel
theorem dX12_isStork_1 : decode cX12_isStork 1 = .ok (.ifCond .eq 26, 3) := by decide +kernel
theorem dX12_isStork_4 : decode cX12_isStork 4 = .ok (.aload_n 0, 1) := by decide +kernel
theorem dX12_isStork_5 : decode cX12_isStork 5 = .ok (.getfield 7, 3) := by decide +kernel
theorem dX12_isStork_8 : decode cX12_isStork 8 = .ok (.bipush 63, 2) := by decide +kernel
theorem dX12_isStork_10 : decode cX12_isStork 10 = .ok (.iload_n 1, 1) := by decide +kernel
theorem dX12_isStork_11 : decode cX12_isStork 11 = .ok (.iadd, 1) := by decide +kernel
theorem dX12_isStork_12 : decode cX12_isStork 12 = .ok (.iaload, 1) := by decide +kernel
theorem dX12_isStork_13 : decode cX12_isStork 13 = .ok (.aload_n 0, 1) := by decide +kernel
theorem dX12_isStork_14 : decode cX12_isStork 14 = .ok (.getfield 7, 3) := by decide +kernel
theorem dX12_isStork_17 : decode cX12_isStork 17 = .ok (.bipush 63, 2) := by decide +kernel
theorem dX12_isStork_19 : decode cX12_isStork 19 = .ok (.iload_n 1, 1) := by decide +kernel
theorem dX12_isStork_20 : decode cX12_isStork 20 = .ok (.iadd, 1) := by decide +kernel
theorem dX12_isStork_21 : decode cX12_isStork 21 = .ok (.iconst 1, 1) := by decide +kernel
theorem dX12_isStork_22 : decode cX12_isStork 22 = .ok (.isub, 1) := by decide +kernel
theorem dX12_isStork_23 : decode cX12_isStork 23 = .ok (.iaload, 1) := by decide +kernel
theorem dX12_isStork_24 : decode cX12_isStork 24 = .ok (.if_icmp .le 40, 3) := by decide +kernel
theorem dX12_isStork_27 : decode cX12_isStork 27 = .ok (.iload_n 1, 1) := by decide +kernel
theorem dX12_isStork_28 : decode cX12_isStork 28 = .ok (.aload_n 0, 1) := by decide +kernel
theorem dX12_isStork_29 : decode cX12_isStork 29 = .ok (.getfield 101, 3) := by decide +kernel
theorem dX12_isStork_32 : decode cX12_isStork 32 = .ok (.iconst 1, 1) := by decide +kernel
theorem dX12_isStork_33 : decode cX12_isStork 33 = .ok (.isub, 1) := by decide +kernel
theorem dX12_isStork_34 : decode cX12_isStork 34 = .ok (.if_icmp .eq 26, 3) := by decide +kernel
theorem dX12_isStork_37 : decode cX12_isStork 37 = .ok (.aload_n 0, 1) := by decide +kernel
theorem dX12_isStork_38 : decode cX12_isStork 38 = .ok (.getfield 7, 3) := by decide +kernel
theorem dX12_isStork_41 : decode cX12_isStork 41 = .ok (.bipush 63, 2) := by decide +kernel
theorem dX12_isStork_43 : decode cX12_isStork 43 = .ok (.iload_n 1, 1) := by decide +kernel
theorem dX12_isStork_44 : decode cX12_isStork 44 = .ok (.iadd, 1) := by decide +kernel
theorem dX12_isStork_45 : decode cX12_isStork 45 = .ok (.iaload, 1) := by decide +kernel
theorem dX12_isStork_46 : decode cX12_isStork 46 = .ok (.aload_n 0, 1) := by decide +kernel
theorem dX12_isStork_47 : decode cX12_isStork 47 = .ok (.getfield 7, 3) := by decide +kernel
theorem dX12_isStork_50 : decode cX12_isStork 50 = .ok (.bipush 63, 2) := by decide +kernel
theorem dX12_isStork_52 : decode cX12_isStork 52 = .ok (.iload_n 1, 1) := by decide +kernel
theorem dX12_isStork_53 : decode cX12_isStork 53 = .ok (.iadd, 1) := by decide +kernel
theorem dX12_isStork_54 : decode cX12_isStork 54 = .ok (.iconst 1, 1) := by decide +kernel
theorem dX12_isStork_55 : decode cX12_isStork 55 = .ok (.iadd, 1) := by decide +kernel
theorem dX12_isStork_56 : decode cX12_isStork 56 = .ok (.iaload, 1) := by decide +kernel
theorem dX12_isStork_57 : decode cX12_isStork 57 = .ok (.if_icmp .le 7, 3) := by decide +kernel
theorem dX12_isStork_60 : decode cX12_isStork 60 = .ok (.iconst 1, 1) := by decide +kernel
theorem dX12_isStork_61 : decode cX12_isStork 61 = .ok (.goto 4, 3) := by decide +kernel
theorem dX12_isStork_64 : decode cX12_isStork 64 = .ok (.iconst 0, 1) := by decide +kernel
theorem dX12_isStork_65 : decode cX12_isStork 65 = .ok (.ireturn, 1) := by decide +kernel
theorem dX12_seen_0 : decode cX12_seen 0 = .ok (.aload_n 0, 1) := by decide +kernel
theorem dX12_seen_1 : decode cX12_seen 1 = .ok (.iconst 0, 1) := by decide +kernel
theorem dX12_seen_2 : decode cX12_seen 2 = .ok (.putfield 89, 3) := by decide +kernel
theorem dX12_seen_5 : decode cX12_seen 5 = .ok (.aload_n 0, 1) := by decide +kernel
theorem dX12_seen_6 : decode cX12_seen 6 = .ok (.iload_n 1, 1) := by decide +kernel
theorem dX12_seen_7 : decode cX12_seen 7 = .ok (.iconst 0, 1) := by decide +kernel
theorem dX12_seen_8 : decode cX12_seen 8 = .ok (.iconst 2, 1) := by decide +kernel
theorem dX12_seen_9 : decode cX12_seen 9 = .ok (.invokevirtual 122, 3) := by decide +kernel
theorem dX12_seen_12 : decode cX12_seen 12 = .ok (.ifCond .ne 5, 3) := by decide +kernel
theorem dX12_seen_15 : decode cX12_seen 15 = .ok (.iconst (-1), 1) := by decide +kernel
theorem dX12_seen_16 : decode cX12_seen 16 = .ok (.ireturn, 1) := by decide +kernel
theorem dX12_seen_17 : decode cX12_seen 17 = .ok (.iload_n 1, 1) := by decide +kernel
theorem dX12_seen_18 : decode cX12_seen 18 = .ok (.iconst 2, 1) := by decide +kernel
theorem dX12_seen_19 : decode cX12_seen 19 = .ok (.if_icmp .ge 18, 3) := by decide +kernel
theorem dX12_seen_22 : decode cX12_seen 22 = .ok (.aload_n 0, 1) := by decide +kernel
theorem dX12_seen_23 : decode cX12_seen 23 = .ok (.iload_n 1, 1) := by decide +kernel
theorem dX12_seen_24 : decode cX12_seen 24 = .ok (.iconst 1, 1) := by decide +kernel
theorem dX12_seen_25 : decode cX12_seen 25 = .ok (.if_icmp .ne 7, 3) := by decide +kernel
theorem dX12_seen_28 : decode cX12_seen 28 = .ok (.iconst 1, 1) := by decide +kernel
theorem dX12_seen_29 : decode cX12_seen 29 = .ok (.goto 4, 3) := by decide +kernel
theorem dX12_seen_32 : decode cX12_seen 32 = .ok (.iconst 0, 1) := by decide +kernel
theorem dX12_seen_33 : decode cX12_seen 33 = .ok (.invokevirtual 423, 3) := by decide +kernel
theorem dX12_seen_36 : decode cX12_seen 36 = .ok (.ireturn, 1) := by decide +kernel
theorem dX12_seen_37 : decode cX12_seen 37 = .ok (.iconst 0, 1) := by decide +kernel
theorem dX12_seen_38 : decode cX12_seen 38 = .ok (.istore_n 2, 1) := by decide +kernel
theorem dX12_seen_39 : decode cX12_seen 39 = .ok (.iconst 0, 1) := by decide +kernel
theorem dX12_seen_40 : decode cX12_seen 40 = .ok (.istore_n 3, 1) := by decide +kernel
theorem dX12_seen_41 : decode cX12_seen 41 = .ok (.iload_n 3, 1) := by decide +kernel
theorem dX12_seen_42 : decode cX12_seen 42 = .ok (.aload_n 0, 1) := by decide +kernel
theorem dX12_seen_43 : decode cX12_seen 43 = .ok (.getfield 101, 3) := by decide +kernel
theorem dX12_seen_46 : decode cX12_seen 46 = .ok (.if_icmp .ge 23, 3) := by decide +kernel
theorem dX12_seen_49 : decode cX12_seen 49 = .ok (.aload_n 0, 1) := by decide +kernel
theorem dX12_seen_50 : decode cX12_seen 50 = .ok (.iload_n 3, 1) := by decide +kernel
theorem dX12_seen_51 : decode cX12_seen 51 = .ok (.invokevirtual 427, 3) := by decide +kernel
theorem dX12_seen_54 : decode cX12_seen 54 = .ok (.ifCond .eq 9, 3) := by decide +kernel
theorem dX12_seen_57 : decode cX12_seen 57 = .ok (.iload_n 2, 1) := by decide +kernel
theorem dX12_seen_58 : decode cX12_seen 58 = .ok (.iconst 1, 1) := by decide +kernel
theorem dX12_seen_59 : decode cX12_seen 59 = .ok (.iload_n 3, 1) := by decide +kernel
theorem dX12_seen_60 : decode cX12_seen 60 = .ok (.ishl, 1) := by decide +kernel
theorem dX12_seen_61 : decode cX12_seen 61 = .ok (.ior, 1) := by decide +kernel
theorem dX12_seen_62 : decode cX12_seen 62 = .ok (.istore_n 2, 1) := by decide +kernel
theorem dX12_seen_63 : decode cX12_seen 63 = .ok (.iinc 3 1, 3) := by decide +kernel
theorem dX12_seen_66 : decode cX12_seen 66 = .ok (.goto (-25), 3) := by decide +kernel
theorem dX12_seen_69 : decode cX12_seen 69 = .ok (.iload_n 2, 1) := by decide +kernel
theorem dX12_seen_70 : decode cX12_seen 70 = .ok (.ireturn, 1) := by decide +kernel
theorem dX12_hearsOne_0 : decode cX12_hearsOne 0 = .ok (.aload_n 0, 1) := by decide +kernel
theorem dX12_hearsOne_1 : decode cX12_hearsOne 1 = .ok (.aload_n 0, 1) := by decide +kernel
theorem dX12_hearsOne_2 : decode cX12_hearsOne 2 = .ok (.getfield 7, 3) := by decide +kernel
theorem dX12_hearsOne_5 : decode cX12_hearsOne 5 = .ok (.bipush 63, 2) := by decide +kernel
theorem dX12_hearsOne_7 : decode cX12_hearsOne 7 = .ok (.iload_n 1, 1) := by decide +kernel
theorem dX12_hearsOne_8 : decode cX12_hearsOne 8 = .ok (.iadd, 1) := by decide +kernel
theorem dX12_hearsOne_9 : decode cX12_hearsOne 9 = .ok (.iaload, 1) := by decide +kernel
theorem dX12_hearsOne_10 : decode cX12_hearsOne 10 = .ok (.aload_n 0, 1) := by decide +kernel
theorem dX12_hearsOne_11 : decode cX12_hearsOne 11 = .ok (.getfield 7, 3) := by decide +kernel
theorem dX12_hearsOne_14 : decode cX12_hearsOne 14 = .ok (.bipush 63, 2) := by decide +kernel
theorem dX12_hearsOne_16 : decode cX12_hearsOne 16 = .ok (.iload_n 2, 1) := by decide +kernel
theorem dX12_hearsOne_17 : decode cX12_hearsOne 17 = .ok (.iadd, 1) := by decide +kernel
theorem dX12_hearsOne_18 : decode cX12_hearsOne 18 = .ok (.iaload, 1) := by decide +kernel
theorem dX12_hearsOne_19 : decode cX12_hearsOne 19 = .ok (.invokevirtual 328, 3) := by decide +kernel
theorem dX12_hearsOne_22 : decode cX12_hearsOne 22 = .ok (.istore_n 3, 1) := by decide +kernel
theorem dX12_hearsOne_23 : decode cX12_hearsOne 23 = .ok (.aload_n 0, 1) := by decide +kernel
theorem dX12_hearsOne_24 : decode cX12_hearsOne 24 = .ok (.iload_n 1, 1) := by decide +kernel
theorem dX12_hearsOne_25 : decode cX12_hearsOne 25 = .ok (.iload_n 2, 1) := by decide +kernel
theorem dX12_hearsOne_26 : decode cX12_hearsOne 26 = .ok (.invokevirtual 328, 3) := by decide +kernel
theorem dX12_hearsOne_29 : decode cX12_hearsOne 29 = .ok (.iconst 1, 1) := by decide +kernel
theorem dX12_hearsOne_30 : decode cX12_hearsOne 30 = .ok (.iadd, 1) := by decide +kernel
theorem dX12_hearsOne_31 : decode cX12_hearsOne 31 = .ok (.istore 4, 2) := by decide +kernel
theorem dX12_hearsOne_33 : decode cX12_hearsOne 33 = .ok (.iload 4, 2) := by decide +kernel
theorem dX12_hearsOne_35 : decode cX12_hearsOne 35 = .ok (.aload_n 0, 1) := by decide +kernel
theorem dX12_hearsOne_36 : decode cX12_hearsOne 36 = .ok (.iload_n 1, 1) := by decide +kernel
theorem dX12_hearsOne_37 : decode cX12_hearsOne 37 = .ok (.iload_n 2, 1) := by decide +kernel
theorem dX12_hearsOne_38 : decode cX12_hearsOne 38 = .ok (.invokevirtual 316, 3) := by decide +kernel
theorem dX12_hearsOne_41 : decode cX12_hearsOne 41 = .ok (.if_icmp .ge 25, 3) := by decide +kernel
theorem dX12_hearsOne_44 : decode cX12_hearsOne 44 = .ok (.aload_n 0, 1) := by decide +kernel
theorem dX12_hearsOne_45 : decode cX12_hearsOne 45 = .ok (.getfield 7, 3) := by decide +kernel
theorem dX12_hearsOne_48 : decode cX12_hearsOne 48 = .ok (.bipush 63, 2) := by decide +kernel
theorem dX12_hearsOne_50 : decode cX12_hearsOne 50 = .ok (.iload 4, 2) := by decide +kernel
theorem dX12_hearsOne_52 : decode cX12_hearsOne 52 = .ok (.iadd, 1) := by decide +kernel
theorem dX12_hearsOne_53 : decode cX12_hearsOne 53 = .ok (.iaload, 1) := by decide +kernel
theorem dX12_hearsOne_54 : decode cX12_hearsOne 54 = .ok (.iload_n 3, 1) := by decide +kernel
theorem dX12_hearsOne_55 : decode cX12_hearsOne 55 = .ok (.if_icmp .lt 5, 3) := by decide +kernel
theorem dX12_hearsOne_58 : decode cX12_hearsOne 58 = .ok (.iconst 0, 1) := by decide +kernel
theorem dX12_hearsOne_59 : decode cX12_hearsOne 59 = .ok (.ireturn, 1) := by decide +kernel
theorem dX12_hearsOne_60 : decode cX12_hearsOne 60 = .ok (.iinc 4 1, 3) := by decide +kernel
theorem dX12_hearsOne_63 : decode cX12_hearsOne 63 = .ok (.goto (-30), 3) := by decide +kernel
theorem dX12_hearsOne_66 : decode cX12_hearsOne 66 = .ok (.iconst 1, 1) := by decide +kernel
theorem dX12_hearsOne_67 : decode cX12_hearsOne 67 = .ok (.ireturn, 1) := by decide +kernel
theorem dX12_hears_0 : decode cX12_hears 0 = .ok (.aload_n 0, 1) := by decide +kernel
theorem dX12_hears_1 : decode cX12_hears 1 = .ok (.iconst 0, 1) := by decide +kernel
theorem dX12_hears_2 : decode cX12_hears 2 = .ok (.putfield 89, 3) := by decide +kernel
theorem dX12_hears_5 : decode cX12_hears 5 = .ok (.aload_n 0, 1) := by decide +kernel
theorem dX12_hears_6 : decode cX12_hears 6 = .ok (.iload_n 1, 1) := by decide +kernel
theorem dX12_hears_7 : decode cX12_hears 7 = .ok (.invokevirtual 325, 3) := by decide +kernel
theorem dX12_hears_10 : decode cX12_hears 10 = .ok (.ifCond .eq 13, 3) := by decide +kernel
theorem dX12_hears_13 : decode cX12_hears 13 = .ok (.aload_n 0, 1) := by decide +kernel
theorem dX12_hears_14 : decode cX12_hears 14 = .ok (.iload_n 2, 1) := by decide +kernel
theorem dX12_hears_15 : decode cX12_hears 15 = .ok (.iconst 0, 1) := by decide +kernel
theorem dX12_hears_16 : decode cX12_hears 16 = .ok (.iconst 1, 1) := by decide +kernel
theorem dX12_hears_17 : decode cX12_hears 17 = .ok (.invokevirtual 122, 3) := by decide +kernel
theorem dX12_hears_20 : decode cX12_hears 20 = .ok (.ifCond .ne 5, 3) := by decide +kernel
theorem dX12_hears_23 : decode cX12_hears 23 = .ok (.iconst (-1), 1) := by decide +kernel
theorem dX12_hears_24 : decode cX12_hears 24 = .ok (.ireturn, 1) := by decide +kernel
theorem dX12_hears_25 : decode cX12_hears 25 = .ok (.iconst 0, 1) := by decide +kernel
theorem dX12_hears_26 : decode cX12_hears 26 = .ok (.istore_n 3, 1) := by decide +kernel
theorem dX12_hears_27 : decode cX12_hears 27 = .ok (.iconst (-1), 1) := by decide +kernel
theorem dX12_hears_28 : decode cX12_hears 28 = .ok (.istore 4, 2) := by decide +kernel
theorem dX12_hears_30 : decode cX12_hears 30 = .ok (.iconst 0, 1) := by decide +kernel
theorem dX12_hears_31 : decode cX12_hears 31 = .ok (.istore 5, 2) := by decide +kernel
theorem dX12_hears_33 : decode cX12_hears 33 = .ok (.iload 5, 2) := by decide +kernel
theorem dX12_hears_35 : decode cX12_hears 35 = .ok (.aload_n 0, 1) := by decide +kernel
theorem dX12_hears_36 : decode cX12_hears 36 = .ok (.getfield 101, 3) := by decide +kernel
theorem dX12_hears_39 : decode cX12_hears 39 = .ok (.if_icmp .ge 59, 3) := by decide +kernel
theorem dX12_hears_42 : decode cX12_hears 42 = .ok (.iload 5, 2) := by decide +kernel
theorem dX12_hears_44 : decode cX12_hears 44 = .ok (.iload_n 1, 1) := by decide +kernel
theorem dX12_hears_45 : decode cX12_hears 45 = .ok (.if_icmp .eq 47, 3) := by decide +kernel
theorem dX12_hears_48 : decode cX12_hears 48 = .ok (.aload_n 0, 1) := by decide +kernel
theorem dX12_hears_49 : decode cX12_hears 49 = .ok (.iload_n 1, 1) := by decide +kernel
theorem dX12_hears_50 : decode cX12_hears 50 = .ok (.iload 5, 2) := by decide +kernel
theorem dX12_hears_52 : decode cX12_hears 52 = .ok (.invokevirtual 430, 3) := by decide +kernel
theorem dX12_hears_55 : decode cX12_hears 55 = .ok (.ifCond .ne 6, 3) := by decide +kernel
theorem dX12_hears_58 : decode cX12_hears 58 = .ok (.goto 34, 3) := by decide +kernel
theorem dX12_hears_61 : decode cX12_hears 61 = .ok (.iload_n 3, 1) := by decide +kernel
theorem dX12_hears_62 : decode cX12_hears 62 = .ok (.iconst 1, 1) := by decide +kernel
theorem dX12_hears_63 : decode cX12_hears 63 = .ok (.iadd, 1) := by decide +kernel
theorem dX12_hears_64 : decode cX12_hears 64 = .ok (.istore_n 3, 1) := by decide +kernel
theorem dX12_hears_65 : decode cX12_hears 65 = .ok (.iload 4, 2) := by decide +kernel
theorem dX12_hears_67 : decode cX12_hears 67 = .ok (.iconst (-1), 1) := by decide +kernel
theorem dX12_hears_68 : decode cX12_hears 68 = .ok (.if_icmp .eq 20, 3) := by decide +kernel
theorem dX12_hears_71 : decode cX12_hears 71 = .ok (.aload_n 0, 1) := by decide +kernel
theorem dX12_hears_72 : decode cX12_hears 72 = .ok (.iload 5, 2) := by decide +kernel
theorem dX12_hears_74 : decode cX12_hears 74 = .ok (.iload_n 1, 1) := by decide +kernel
theorem dX12_hears_75 : decode cX12_hears 75 = .ok (.invokevirtual 405, 3) := by decide +kernel
theorem dX12_hears_78 : decode cX12_hears 78 = .ok (.aload_n 0, 1) := by decide +kernel
theorem dX12_hears_79 : decode cX12_hears 79 = .ok (.iload 4, 2) := by decide +kernel
theorem dX12_hears_81 : decode cX12_hears 81 = .ok (.iload_n 1, 1) := by decide +kernel
theorem dX12_hears_82 : decode cX12_hears 82 = .ok (.invokevirtual 405, 3) := by decide +kernel
theorem dX12_hears_85 : decode cX12_hears 85 = .ok (.if_icmp .le 7, 3) := by decide +kernel
theorem dX12_hears_88 : decode cX12_hears 88 = .ok (.iload 5, 2) := by decide +kernel
theorem dX12_hears_90 : decode cX12_hears 90 = .ok (.istore 4, 2) := by decide +kernel
theorem dX12_hears_92 : decode cX12_hears 92 = .ok (.iinc 5 1, 3) := by decide +kernel
theorem dX12_hears_95 : decode cX12_hears 95 = .ok (.goto (-62), 3) := by decide +kernel
theorem dX12_hears_98 : decode cX12_hears 98 = .ok (.iload_n 2, 1) := by decide +kernel
theorem dX12_hears_99 : decode cX12_hears 99 = .ok (.ifCond .ne 7, 3) := by decide +kernel
theorem dX12_hears_102 : decode cX12_hears 102 = .ok (.iload_n 3, 1) := by decide +kernel
theorem dX12_hears_103 : decode cX12_hears 103 = .ok (.goto 5, 3) := by decide +kernel
theorem dX12_hears_106 : decode cX12_hears 106 = .ok (.iload 4, 2) := by decide +kernel
theorem dX12_hears_108 : decode cX12_hears 108 = .ok (.ireturn, 1) := by decide +kernel
theorem dX12_build_0 : decode cX12_build 0 = .ok (.aload_n 0, 1) := by decide +kernel
theorem dX12_build_1 : decode cX12_build 1 = .ok (.iconst 0, 1) := by decide +kernel
theorem dX12_build_2 : decode cX12_build 2 = .ok (.putfield 89, 3) := by decide +kernel
theorem dX12_build_5 : decode cX12_build 5 = .ok (.iload_n 1, 1) := by decide +kernel
theorem dX12_build_6 : decode cX12_build 6 = .ok (.iconst (-1), 1) := by decide +kernel
theorem dX12_build_7 : decode cX12_build 7 = .ok (.if_icmp .ne 10, 3) := by decide +kernel
theorem dX12_build_10 : decode cX12_build 10 = .ok (.aload_n 0, 1) := by decide +kernel
theorem dX12_build_11 : decode cX12_build 11 = .ok (.iconst 0, 1) := by decide +kernel
theorem dX12_build_12 : decode cX12_build 12 = .ok (.putfield 433, 3) := by decide +kernel
theorem dX12_build_15 : decode cX12_build 15 = .ok (.iconst 0, 1) := by decide +kernel
theorem dX12_build_16 : decode cX12_build 16 = .ok (.ireturn, 1) := by decide +kernel
theorem dX12_build_17 : decode cX12_build 17 = .ok (.aload_n 0, 1) := by decide +kernel
theorem dX12_build_18 : decode cX12_build 18 = .ok (.iload_n 1, 1) := by decide +kernel
theorem dX12_build_19 : decode cX12_build 19 = .ok (.iconst 1, 1) := by decide +kernel
theorem dX12_build_20 : decode cX12_build 20 = .ok (.bipush 30, 2) := by decide +kernel
theorem dX12_build_22 : decode cX12_build 22 = .ok (.invokevirtual 122, 3) := by decide +kernel
theorem dX12_build_25 : decode cX12_build 25 = .ok (.ifCond .eq 23, 3) := by decide +kernel
theorem dX12_build_28 : decode cX12_build 28 = .ok (.aload_n 0, 1) := by decide +kernel
theorem dX12_build_29 : decode cX12_build 29 = .ok (.iload_n 2, 1) := by decide +kernel
theorem dX12_build_30 : decode cX12_build 30 = .ok (.iconst 1, 1) := by decide +kernel
theorem dX12_build_31 : decode cX12_build 31 = .ok (.bipush 30, 2) := by decide +kernel
theorem dX12_build_33 : decode cX12_build 33 = .ok (.invokevirtual 122, 3) := by decide +kernel
theorem dX12_build_36 : decode cX12_build 36 = .ok (.ifCond .eq 12, 3) := by decide +kernel
theorem dX12_build_39 : decode cX12_build 39 = .ok (.aload_n 0, 1) := by decide +kernel
theorem dX12_build_40 : decode cX12_build 40 = .ok (.getfield 433, 3) := by decide +kernel
theorem dX12_build_43 : decode cX12_build 43 = .ok (.bipush 7, 2) := by decide +kernel
theorem dX12_build_45 : decode cX12_build 45 = .ok (.if_icmp .ne 5, 3) := by decide +kernel
theorem dX12_build_48 : decode cX12_build 48 = .ok (.iconst (-1), 1) := by decide +kernel
theorem dX12_build_49 : decode cX12_build 49 = .ok (.ireturn, 1) := by decide +kernel
theorem dX12_build_50 : decode cX12_build 50 = .ok (.aload_n 0, 1) := by decide +kernel
theorem dX12_build_51 : decode cX12_build 51 = .ok (.getfield 74, 3) := by decide +kernel
theorem dX12_build_54 : decode cX12_build 54 = .ok (.aload_n 0, 1) := by decide +kernel
theorem dX12_build_55 : decode cX12_build 55 = .ok (.getfield 433, 3) := by decide +kernel
theorem dX12_build_58 : decode cX12_build 58 = .ok (.iload_n 1, 1) := by decide +kernel
theorem dX12_build_59 : decode cX12_build 59 = .ok (.iastore, 1) := by decide +kernel
theorem dX12_build_60 : decode cX12_build 60 = .ok (.aload_n 0, 1) := by decide +kernel
theorem dX12_build_61 : decode cX12_build 61 = .ok (.getfield 77, 3) := by decide +kernel
theorem dX12_build_64 : decode cX12_build 64 = .ok (.aload_n 0, 1) := by decide +kernel
theorem dX12_build_65 : decode cX12_build 65 = .ok (.getfield 433, 3) := by decide +kernel
theorem dX12_build_68 : decode cX12_build 68 = .ok (.iload_n 2, 1) := by decide +kernel
theorem dX12_build_69 : decode cX12_build 69 = .ok (.iastore, 1) := by decide +kernel
theorem dX12_build_70 : decode cX12_build 70 = .ok (.aload_n 0, 1) := by decide +kernel
theorem dX12_build_71 : decode cX12_build 71 = .ok (.aload_n 0, 1) := by decide +kernel
theorem dX12_build_72 : decode cX12_build 72 = .ok (.getfield 433, 3) := by decide +kernel
theorem dX12_build_75 : decode cX12_build 75 = .ok (.iconst 1, 1) := by decide +kernel
theorem dX12_build_76 : decode cX12_build 76 = .ok (.iadd, 1) := by decide +kernel
theorem dX12_build_77 : decode cX12_build 77 = .ok (.putfield 433, 3) := by decide +kernel
theorem dX12_build_80 : decode cX12_build 80 = .ok (.aload_n 0, 1) := by decide +kernel
theorem dX12_build_81 : decode cX12_build 81 = .ok (.getfield 433, 3) := by decide +kernel
theorem dX12_build_84 : decode cX12_build 84 = .ok (.ireturn, 1) := by decide +kernel
theorem dX12_isAhead_0 : decode cX12_isAhead 0 = .ok (.aload_n 0, 1) := by decide +kernel
theorem dX12_isAhead_1 : decode cX12_isAhead 1 = .ok (.getfield 77, 3) := by decide +kernel
theorem dX12_isAhead_4 : decode cX12_isAhead 4 = .ok (.iload_n 1, 1) := by decide +kernel
theorem dX12_isAhead_5 : decode cX12_isAhead 5 = .ok (.iaload, 1) := by decide +kernel
theorem dX12_isAhead_6 : decode cX12_isAhead 6 = .ok (.aload_n 0, 1) := by decide +kernel
theorem dX12_isAhead_7 : decode cX12_isAhead 7 = .ok (.getfield 74, 3) := by decide +kernel
theorem dX12_isAhead_10 : decode cX12_isAhead 10 = .ok (.iload_n 2, 1) := by decide +kernel
theorem dX12_isAhead_11 : decode cX12_isAhead 11 = .ok (.iaload, 1) := by decide +kernel
theorem dX12_isAhead_12 : decode cX12_isAhead 12 = .ok (.imul, 1) := by decide +kernel
theorem dX12_isAhead_13 : decode cX12_isAhead 13 = .ok (.istore_n 3, 1) := by decide +kernel
theorem dX12_isAhead_14 : decode cX12_isAhead 14 = .ok (.aload_n 0, 1) := by decide +kernel
theorem dX12_isAhead_15 : decode cX12_isAhead 15 = .ok (.getfield 77, 3) := by decide +kernel
theorem dX12_isAhead_18 : decode cX12_isAhead 18 = .ok (.iload_n 2, 1) := by decide +kernel
theorem dX12_isAhead_19 : decode cX12_isAhead 19 = .ok (.iaload, 1) := by decide +kernel
theorem dX12_isAhead_20 : decode cX12_isAhead 20 = .ok (.aload_n 0, 1) := by decide +kernel
theorem dX12_isAhead_21 : decode cX12_isAhead 21 = .ok (.getfield 74, 3) := by decide +kernel
theorem dX12_isAhead_24 : decode cX12_isAhead 24 = .ok (.iload_n 1, 1) := by decide +kernel
theorem dX12_isAhead_25 : decode cX12_isAhead 25 = .ok (.iaload, 1) := by decide +kernel
theorem dX12_isAhead_26 : decode cX12_isAhead 26 = .ok (.imul, 1) := by decide +kernel
theorem dX12_isAhead_27 : decode cX12_isAhead 27 = .ok (.istore 4, 2) := by decide +kernel
theorem dX12_isAhead_29 : decode cX12_isAhead 29 = .ok (.iload_n 3, 1) := by decide +kernel
theorem dX12_isAhead_30 : decode cX12_isAhead 30 = .ok (.iload 4, 2) := by decide +kernel
theorem dX12_isAhead_32 : decode cX12_isAhead 32 = .ok (.if_icmp .gt 14, 3) := by decide +kernel
theorem dX12_isAhead_35 : decode cX12_isAhead 35 = .ok (.iload_n 3, 1) := by decide +kernel
theorem dX12_isAhead_36 : decode cX12_isAhead 36 = .ok (.iload 4, 2) := by decide +kernel
theorem dX12_isAhead_38 : decode cX12_isAhead 38 = .ok (.if_icmp .ne 12, 3) := by decide +kernel
theorem dX12_isAhead_41 : decode cX12_isAhead 41 = .ok (.iload_n 1, 1) := by decide +kernel
theorem dX12_isAhead_42 : decode cX12_isAhead 42 = .ok (.iload_n 2, 1) := by decide +kernel
theorem dX12_isAhead_43 : decode cX12_isAhead 43 = .ok (.if_icmp .ge 7, 3) := by decide +kernel
theorem dX12_isAhead_46 : decode cX12_isAhead 46 = .ok (.iconst 1, 1) := by decide +kernel
theorem dX12_isAhead_47 : decode cX12_isAhead 47 = .ok (.goto 4, 3) := by decide +kernel
theorem dX12_isAhead_50 : decode cX12_isAhead 50 = .ok (.iconst 0, 1) := by decide +kernel
theorem dX12_isAhead_51 : decode cX12_isAhead 51 = .ok (.ireturn, 1) := by decide +kernel
theorem dX12_builds_0 : decode cX12_builds 0 = .ok (.aload_n 0, 1) := by decide +kernel
theorem dX12_builds_1 : decode cX12_builds 1 = .ok (.iconst 0, 1) := by decide +kernel
theorem dX12_builds_2 : decode cX12_builds 2 = .ok (.putfield 89, 3) := by decide +kernel
theorem dX12_builds_5 : decode cX12_builds 5 = .ok (.iload_n 1, 1) := by decide +kernel
theorem dX12_builds_6 : decode cX12_builds 6 = .ok (.ifCond .eq 22, 3) := by decide +kernel
theorem dX12_builds_9 : decode cX12_builds 9 = .ok (.aload_n 0, 1) := by decide +kernel
theorem dX12_builds_10 : decode cX12_builds 10 = .ok (.iload_n 1, 1) := by decide +kernel
theorem dX12_builds_11 : decode cX12_builds 11 = .ok (.bipush 10, 2) := by decide +kernel
theorem dX12_builds_13 : decode cX12_builds 13 = .ok (.bipush 9, 2) := by decide +kernel
theorem dX12_builds_15 : decode cX12_builds 15 = .ok (.aload_n 0, 1) := by decide +kernel
theorem dX12_builds_16 : decode cX12_builds 16 = .ok (.getfield 433, 3) := by decide +kernel
theorem dX12_builds_19 : decode cX12_builds 19 = .ok (.iadd, 1) := by decide +kernel
theorem dX12_builds_20 : decode cX12_builds 20 = .ok (.invokevirtual 122, 3) := by decide +kernel
theorem dX12_builds_23 : decode cX12_builds 23 = .ok (.ifCond .ne 5, 3) := by decide +kernel
theorem dX12_builds_26 : decode cX12_builds 26 = .ok (.iconst (-1), 1) := by decide +kernel
theorem dX12_builds_27 : decode cX12_builds 27 = .ok (.ireturn, 1) := by decide +kernel
theorem dX12_builds_28 : decode cX12_builds 28 = .ok (.iconst 0, 1) := by decide +kernel
theorem dX12_builds_29 : decode cX12_builds 29 = .ok (.istore_n 2, 1) := by decide +kernel
theorem dX12_builds_30 : decode cX12_builds 30 = .ok (.iconst 0, 1) := by decide +kernel
theorem dX12_builds_31 : decode cX12_builds 31 = .ok (.istore_n 3, 1) := by decide +kernel
theorem dX12_builds_32 : decode cX12_builds 32 = .ok (.iload_n 3, 1) := by decide +kernel
theorem dX12_builds_33 : decode cX12_builds 33 = .ok (.aload_n 0, 1) := by decide +kernel
theorem dX12_builds_34 : decode cX12_builds 34 = .ok (.getfield 433, 3) := by decide +kernel
theorem dX12_builds_37 : decode cX12_builds 37 = .ok (.if_icmp .ge 98, 3) := by decide +kernel
theorem dX12_builds_40 : decode cX12_builds 40 = .ok (.aload_n 0, 1) := by decide +kernel
theorem dX12_builds_41 : decode cX12_builds 41 = .ok (.getfield 74, 3) := by decide +kernel
theorem dX12_builds_44 : decode cX12_builds 44 = .ok (.iload_n 3, 1) := by decide +kernel
theorem dX12_builds_45 : decode cX12_builds 45 = .ok (.iaload, 1) := by decide +kernel
theorem dX12_builds_46 : decode cX12_builds 46 = .ok (.istore 4, 2) := by decide +kernel
theorem dX12_builds_48 : decode cX12_builds 48 = .ok (.iconst 0, 1) := by decide +kernel
theorem dX12_builds_49 : decode cX12_builds 49 = .ok (.istore 5, 2) := by decide +kernel
theorem dX12_builds_51 : decode cX12_builds 51 = .ok (.iconst 0, 1) := by decide +kernel
theorem dX12_builds_52 : decode cX12_builds 52 = .ok (.istore 6, 2) := by decide +kernel
theorem dX12_builds_54 : decode cX12_builds 54 = .ok (.iload 6, 2) := by decide +kernel
theorem dX12_builds_56 : decode cX12_builds 56 = .ok (.aload_n 0, 1) := by decide +kernel
theorem dX12_builds_57 : decode cX12_builds 57 = .ok (.getfield 433, 3) := by decide +kernel
theorem dX12_builds_60 : decode cX12_builds 60 = .ok (.if_icmp .ge 46, 3) := by decide +kernel
theorem dX12_builds_63 : decode cX12_builds 63 = .ok (.iload 6, 2) := by decide +kernel
theorem dX12_builds_65 : decode cX12_builds 65 = .ok (.iload_n 3, 1) := by decide +kernel
theorem dX12_builds_66 : decode cX12_builds 66 = .ok (.if_icmp .eq 34, 3) := by decide +kernel
theorem dX12_builds_69 : decode cX12_builds 69 = .ok (.aload_n 0, 1) := by decide +kernel
theorem dX12_builds_70 : decode cX12_builds 70 = .ok (.iload 6, 2) := by decide +kernel
theorem dX12_builds_72 : decode cX12_builds 72 = .ok (.iload_n 3, 1) := by decide +kernel
theorem dX12_builds_73 : decode cX12_builds 73 = .ok (.invokevirtual 436, 3) := by decide +kernel
theorem dX12_builds_76 : decode cX12_builds 76 = .ok (.ifCond .ne 6, 3) := by decide +kernel
theorem dX12_builds_79 : decode cX12_builds 79 = .ok (.goto 21, 3) := by decide +kernel
theorem dX12_builds_82 : decode cX12_builds 82 = .ok (.iload 4, 2) := by decide +kernel
theorem dX12_builds_84 : decode cX12_builds 84 = .ok (.aload_n 0, 1) := by decide +kernel
theorem dX12_builds_85 : decode cX12_builds 85 = .ok (.getfield 74, 3) := by decide +kernel
theorem dX12_builds_88 : decode cX12_builds 88 = .ok (.iload 6, 2) := by decide +kernel
theorem dX12_builds_90 : decode cX12_builds 90 = .ok (.iaload, 1) := by decide +kernel
theorem dX12_builds_91 : decode cX12_builds 91 = .ok (.iadd, 1) := by decide +kernel
theorem dX12_builds_92 : decode cX12_builds 92 = .ok (.istore 4, 2) := by decide +kernel
theorem dX12_builds_94 : decode cX12_builds 94 = .ok (.iload 5, 2) := by decide +kernel
theorem dX12_builds_96 : decode cX12_builds 96 = .ok (.iconst 1, 1) := by decide +kernel
theorem dX12_builds_97 : decode cX12_builds 97 = .ok (.iadd, 1) := by decide +kernel
theorem dX12_builds_98 : decode cX12_builds 98 = .ok (.istore 5, 2) := by decide +kernel
theorem dX12_builds_100 : decode cX12_builds 100 = .ok (.iinc 6 1, 3) := by decide +kernel
theorem dX12_builds_103 : decode cX12_builds 103 = .ok (.goto (-49), 3) := by decide +kernel
theorem dX12_builds_106 : decode cX12_builds 106 = .ok (.iload 5, 2) := by decide +kernel
theorem dX12_builds_108 : decode cX12_builds 108 = .ok (.iload_n 1, 1) := by decide +kernel
theorem dX12_builds_109 : decode cX12_builds 109 = .ok (.bipush 10, 2) := by decide +kernel
theorem dX12_builds_111 : decode cX12_builds 111 = .ok (.isub, 1) := by decide +kernel
theorem dX12_builds_112 : decode cX12_builds 112 = .ok (.if_icmp .ne 5, 3) := by decide +kernel
theorem dX12_builds_115 : decode cX12_builds 115 = .ok (.iload_n 3, 1) := by decide +kernel
theorem dX12_builds_116 : decode cX12_builds 116 = .ok (.ireturn, 1) := by decide +kernel
theorem dX12_builds_117 : decode cX12_builds 117 = .ok (.iload_n 2, 1) := by decide +kernel
theorem dX12_builds_118 : decode cX12_builds 118 = .ok (.aload_n 0, 1) := by decide +kernel
theorem dX12_builds_119 : decode cX12_builds 119 = .ok (.getfield 77, 3) := by decide +kernel
theorem dX12_builds_122 : decode cX12_builds 122 = .ok (.iload_n 3, 1) := by decide +kernel
theorem dX12_builds_123 : decode cX12_builds 123 = .ok (.iaload, 1) := by decide +kernel
theorem dX12_builds_124 : decode cX12_builds 124 = .ok (.iload 4, 2) := by decide +kernel
theorem dX12_builds_126 : decode cX12_builds 126 = .ok (.imul, 1) := by decide +kernel
theorem dX12_builds_127 : decode cX12_builds 127 = .ok (.iadd, 1) := by decide +kernel
theorem dX12_builds_128 : decode cX12_builds 128 = .ok (.istore_n 2, 1) := by decide +kernel
theorem dX12_builds_129 : decode cX12_builds 129 = .ok (.iinc 3 1, 3) := by decide +kernel
theorem dX12_builds_132 : decode cX12_builds 132 = .ok (.goto (-100), 3) := by decide +kernel
theorem dX12_builds_135 : decode cX12_builds 135 = .ok (.iload_n 2, 1) := by decide +kernel
theorem dX12_builds_136 : decode cX12_builds 136 = .ok (.ireturn, 1) := by decide +kernel
theorem dX12_shareOf_0 : decode cX12_shareOf 0 = .ok (.iload_n 1, 1) := by decide +kernel
theorem dX12_shareOf_1 : decode cX12_shareOf 1 = .ok (.iload_n 2, 1) := by decide +kernel
theorem dX12_shareOf_2 : decode cX12_shareOf 2 = .ok (.idiv, 1) := by decide +kernel
theorem dX12_shareOf_3 : decode cX12_shareOf 3 = .ok (.istore_n 3, 1) := by decide +kernel
theorem dX12_shareOf_4 : decode cX12_shareOf 4 = .ok (.iload_n 1, 1) := by decide +kernel
theorem dX12_shareOf_5 : decode cX12_shareOf 5 = .ok (.iload_n 2, 1) := by decide +kernel
theorem dX12_shareOf_6 : decode cX12_shareOf 6 = .ok (.irem, 1) := by decide +kernel
theorem dX12_shareOf_7 : decode cX12_shareOf 7 = .ok (.istore 4, 2) := by decide +kernel
theorem dX12_shareOf_9 : decode cX12_shareOf 9 = .ok (.iconst 0, 1) := by decide +kernel
theorem dX12_shareOf_10 : decode cX12_shareOf 10 = .ok (.istore 5, 2) := by decide +kernel
theorem dX12_shareOf_12 : decode cX12_shareOf 12 = .ok (.iload 5, 2) := by decide +kernel
theorem dX12_shareOf_14 : decode cX12_shareOf 14 = .ok (.bipush 6, 2) := by decide +kernel
theorem dX12_shareOf_16 : decode cX12_shareOf 16 = .ok (.if_icmp .ge 32, 3) := by decide +kernel
theorem dX12_shareOf_19 : decode cX12_shareOf 19 = .ok (.iload 4, 2) := by decide +kernel
theorem dX12_shareOf_21 : decode cX12_shareOf 21 = .ok (.bipush 10, 2) := by decide +kernel
theorem dX12_shareOf_23 : decode cX12_shareOf 23 = .ok (.imul, 1) := by decide +kernel
theorem dX12_shareOf_24 : decode cX12_shareOf 24 = .ok (.istore 4, 2) := by decide +kernel
theorem dX12_shareOf_26 : decode cX12_shareOf 26 = .ok (.bipush 10, 2) := by decide +kernel
theorem dX12_shareOf_28 : decode cX12_shareOf 28 = .ok (.iload_n 3, 1) := by decide +kernel
theorem dX12_shareOf_29 : decode cX12_shareOf 29 = .ok (.imul, 1) := by decide +kernel
theorem dX12_shareOf_30 : decode cX12_shareOf 30 = .ok (.iload 4, 2) := by decide +kernel
theorem dX12_shareOf_32 : decode cX12_shareOf 32 = .ok (.iload_n 2, 1) := by decide +kernel
theorem dX12_shareOf_33 : decode cX12_shareOf 33 = .ok (.idiv, 1) := by decide +kernel
theorem dX12_shareOf_34 : decode cX12_shareOf 34 = .ok (.iadd, 1) := by decide +kernel
theorem dX12_shareOf_35 : decode cX12_shareOf 35 = .ok (.istore_n 3, 1) := by decide +kernel
theorem dX12_shareOf_36 : decode cX12_shareOf 36 = .ok (.iload 4, 2) := by decide +kernel
theorem dX12_shareOf_38 : decode cX12_shareOf 38 = .ok (.iload_n 2, 1) := by decide +kernel
theorem dX12_shareOf_39 : decode cX12_shareOf 39 = .ok (.irem, 1) := by decide +kernel
theorem dX12_shareOf_40 : decode cX12_shareOf 40 = .ok (.istore 4, 2) := by decide +kernel
theorem dX12_shareOf_42 : decode cX12_shareOf 42 = .ok (.iinc 5 1, 3) := by decide +kernel
theorem dX12_shareOf_45 : decode cX12_shareOf 45 = .ok (.goto (-33), 3) := by decide +kernel
theorem dX12_shareOf_48 : decode cX12_shareOf 48 = .ok (.iload_n 3, 1) := by decide +kernel
theorem dX12_shareOf_49 : decode cX12_shareOf 49 = .ok (.ireturn, 1) := by decide +kernel
theorem dX12_weighed_0 : decode cX12_weighed 0 = .ok (.aload_n 0, 1) := by decide +kernel
theorem dX12_weighed_1 : decode cX12_weighed 1 = .ok (.iload_n 1, 1) := by decide +kernel
theorem dX12_weighed_2 : decode cX12_weighed 2 = .ok (.iload_n 2, 1) := by decide +kernel
theorem dX12_weighed_3 : decode cX12_weighed 3 = .ok (.imul, 1) := by decide +kernel
theorem dX12_weighed_4 : decode cX12_weighed 4 = .ok (.iload_n 1, 1) := by decide +kernel
theorem dX12_weighed_5 : decode cX12_weighed 5 = .ok (.iload_n 2, 1) := by decide +kernel
theorem dX12_weighed_6 : decode cX12_weighed 6 = .ok (.imul, 1) := by decide +kernel
theorem dX12_weighed_7 : decode cX12_weighed 7 = .ok (.ldc_w 439, 3) := by decide +kernel
theorem dX12_weighed_10 : decode cX12_weighed 10 = .ok (.iload_n 1, 1) := by decide +kernel
theorem dX12_weighed_11 : decode cX12_weighed 11 = .ok (.isub, 1) := by decide +kernel
theorem dX12_weighed_12 : decode cX12_weighed 12 = .ok (.iload_n 3, 1) := by decide +kernel
theorem dX12_weighed_13 : decode cX12_weighed 13 = .ok (.imul, 1) := by decide +kernel
theorem dX12_weighed_14 : decode cX12_weighed 14 = .ok (.iadd, 1) := by decide +kernel
theorem dX12_weighed_15 : decode cX12_weighed 15 = .ok (.invokevirtual 440, 3) := by decide +kernel
theorem dX12_weighed_18 : decode cX12_weighed 18 = .ok (.ireturn, 1) := by decide +kernel
theorem dX12_gone_0 : decode cX12_gone 0 = .ok (.aload_n 0, 1) := by decide +kernel
theorem dX12_gone_1 : decode cX12_gone 1 = .ok (.iconst 0, 1) := by decide +kernel
theorem dX12_gone_2 : decode cX12_gone 2 = .ok (.putfield 89, 3) := by decide +kernel
theorem dX12_gone_5 : decode cX12_gone 5 = .ok (.aload_n 0, 1) := by decide +kernel
theorem dX12_gone_6 : decode cX12_gone 6 = .ok (.iload_n 1, 1) := by decide +kernel
theorem dX12_gone_7 : decode cX12_gone 7 = .ok (.iconst 0, 1) := by decide +kernel
theorem dX12_gone_8 : decode cX12_gone 8 = .ok (.sipush 1000, 3) := by decide +kernel
theorem dX12_gone_11 : decode cX12_gone 11 = .ok (.invokevirtual 122, 3) := by decide +kernel
theorem dX12_gone_14 : decode cX12_gone 14 = .ok (.ifCond .eq 25, 3) := by decide +kernel
theorem dX12_gone_17 : decode cX12_gone 17 = .ok (.aload_n 0, 1) := by decide +kernel
theorem dX12_gone_18 : decode cX12_gone 18 = .ok (.iload_n 2, 1) := by decide +kernel
theorem dX12_gone_19 : decode cX12_gone 19 = .ok (.iconst 0, 1) := by decide +kernel
theorem dX12_gone_20 : decode cX12_gone 20 = .ok (.bipush 20, 2) := by decide +kernel
theorem dX12_gone_22 : decode cX12_gone 22 = .ok (.invokevirtual 122, 3) := by decide +kernel
theorem dX12_gone_25 : decode cX12_gone 25 = .ok (.ifCond .eq 14, 3) := by decide +kernel
theorem dX12_gone_28 : decode cX12_gone 28 = .ok (.aload_n 0, 1) := by decide +kernel
theorem dX12_gone_29 : decode cX12_gone 29 = .ok (.iload_n 3, 1) := by decide +kernel
theorem dX12_gone_30 : decode cX12_gone 30 = .ok (.iload_n 2, 1) := by decide +kernel
theorem dX12_gone_31 : decode cX12_gone 31 = .ok (.bipush 40, 2) := by decide +kernel
theorem dX12_gone_33 : decode cX12_gone 33 = .ok (.invokevirtual 122, 3) := by decide +kernel
theorem dX12_gone_36 : decode cX12_gone 36 = .ok (.ifCond .ne 5, 3) := by decide +kernel
theorem dX12_gone_39 : decode cX12_gone 39 = .ok (.iconst (-1), 1) := by decide +kernel
theorem dX12_gone_40 : decode cX12_gone 40 = .ok (.ireturn, 1) := by decide +kernel
theorem dX12_gone_41 : decode cX12_gone 41 = .ok (.sipush 1000, 3) := by decide +kernel
theorem dX12_gone_44 : decode cX12_gone 44 = .ok (.iload_n 1, 1) := by decide +kernel
theorem dX12_gone_45 : decode cX12_gone 45 = .ok (.imul, 1) := by decide +kernel
theorem dX12_gone_46 : decode cX12_gone 46 = .ok (.istore 4, 2) := by decide +kernel
theorem dX12_gone_48 : decode cX12_gone 48 = .ok (.iconst 0, 1) := by decide +kernel
theorem dX12_gone_49 : decode cX12_gone 49 = .ok (.istore 5, 2) := by decide +kernel
theorem dX12_gone_51 : decode cX12_gone 51 = .ok (.iload 5, 2) := by decide +kernel
theorem dX12_gone_53 : decode cX12_gone 53 = .ok (.iload_n 3, 1) := by decide +kernel
theorem dX12_gone_54 : decode cX12_gone 54 = .ok (.if_icmp .ge 36, 3) := by decide +kernel
theorem dX12_gone_57 : decode cX12_gone 57 = .ok (.iload 5, 2) := by decide +kernel
theorem dX12_gone_59 : decode cX12_gone 59 = .ok (.iload_n 2, 1) := by decide +kernel
theorem dX12_gone_60 : decode cX12_gone 60 = .ok (.if_icmp .ge 14, 3) := by decide +kernel
theorem dX12_gone_63 : decode cX12_gone 63 = .ok (.aload_n 0, 1) := by decide +kernel
theorem dX12_gone_64 : decode cX12_gone 64 = .ok (.iload 4, 2) := by decide +kernel
theorem dX12_gone_66 : decode cX12_gone 66 = .ok (.iconst 4, 1) := by decide +kernel
theorem dX12_gone_67 : decode cX12_gone 67 = .ok (.iconst 1, 1) := by decide +kernel
theorem dX12_gone_68 : decode cX12_gone 68 = .ok (.invokevirtual 443, 3) := by decide +kernel
theorem dX12_gone_71 : decode cX12_gone 71 = .ok (.goto 11, 3) := by decide +kernel
theorem dX12_gone_74 : decode cX12_gone 74 = .ok (.aload_n 0, 1) := by decide +kernel
theorem dX12_gone_75 : decode cX12_gone 75 = .ok (.iload 4, 2) := by decide +kernel
theorem dX12_gone_77 : decode cX12_gone 77 = .ok (.iconst 1, 1) := by decide +kernel
theorem dX12_gone_78 : decode cX12_gone 78 = .ok (.iconst 4, 1) := by decide +kernel
theorem dX12_gone_79 : decode cX12_gone 79 = .ok (.invokevirtual 443, 3) := by decide +kernel
theorem dX12_gone_82 : decode cX12_gone 82 = .ok (.istore 4, 2) := by decide +kernel
theorem dX12_gone_84 : decode cX12_gone 84 = .ok (.iinc 5 1, 3) := by decide +kernel
theorem dX12_gone_87 : decode cX12_gone 87 = .ok (.goto (-36), 3) := by decide +kernel
theorem dX12_gone_90 : decode cX12_gone 90 = .ok (.iload 4, 2) := by decide +kernel
theorem dX12_gone_92 : decode cX12_gone 92 = .ok (.ireturn, 1) := by decide +kernel
theorem dX12_added_0 : decode cX12_added 0 = .ok (.iload_n 1, 1) := by decide +kernel
theorem dX12_added_1 : decode cX12_added 1 = .ok (.ldc_w 446, 3) := by decide +kernel
theorem dX12_added_4 : decode cX12_added 4 = .ok (.iload_n 2, 1) := by decide +kernel
theorem dX12_added_5 : decode cX12_added 5 = .ok (.isub, 1) := by decide +kernel
theorem dX12_added_6 : decode cX12_added 6 = .ok (.if_icmp .lt 13, 3) := by decide +kernel
theorem dX12_added_9 : decode cX12_added 9 = .ok (.iload_n 1, 1) := by decide +kernel
theorem dX12_added_10 : decode cX12_added 10 = .ok (.ldc_w 446, 3) := by decide +kernel
theorem dX12_added_13 : decode cX12_added 13 = .ok (.iload_n 2, 1) := by decide +kernel
theorem dX12_added_14 : decode cX12_added 14 = .ok (.isub, 1) := by decide +kernel
theorem dX12_added_15 : decode cX12_added 15 = .ok (.isub, 1) := by decide +kernel
theorem dX12_added_16 : decode cX12_added 16 = .ok (.goto 6, 3) := by decide +kernel
theorem dX12_added_19 : decode cX12_added 19 = .ok (.iload_n 1, 1) := by decide +kernel
theorem dX12_added_20 : decode cX12_added 20 = .ok (.iload_n 2, 1) := by decide +kernel
theorem dX12_added_21 : decode cX12_added 21 = .ok (.iadd, 1) := by decide +kernel
theorem dX12_added_22 : decode cX12_added 22 = .ok (.ireturn, 1) := by decide +kernel
theorem dX12_canStep_0 : decode cX12_canStep 0 = .ok (.iload_n 1, 1) := by decide +kernel
theorem dX12_canStep_1 : decode cX12_canStep 1 = .ok (.iload_n 2, 1) := by decide +kernel
theorem dX12_canStep_2 : decode cX12_canStep 2 = .ok (.if_icmp .eq 43, 3) := by decide +kernel
theorem dX12_canStep_5 : decode cX12_canStep 5 = .ok (.aload_n 0, 1) := by decide +kernel
theorem dX12_canStep_6 : decode cX12_canStep 6 = .ok (.iload_n 1, 1) := by decide +kernel
theorem dX12_canStep_7 : decode cX12_canStep 7 = .ok (.iload_n 2, 1) := by decide +kernel
theorem dX12_canStep_8 : decode cX12_canStep 8 = .ok (.invokevirtual 405, 3) := by decide +kernel
theorem dX12_canStep_11 : decode cX12_canStep 11 = .ok (.iconst 2, 1) := by decide +kernel
theorem dX12_canStep_12 : decode cX12_canStep 12 = .ok (.if_icmp .gt 33, 3) := by decide +kernel
theorem dX12_canStep_15 : decode cX12_canStep 15 = .ok (.aload_n 0, 1) := by decide +kernel
theorem dX12_canStep_16 : decode cX12_canStep 16 = .ok (.aload_n 0, 1) := by decide +kernel
theorem dX12_canStep_17 : decode cX12_canStep 17 = .ok (.getfield 7, 3) := by decide +kernel
theorem dX12_canStep_20 : decode cX12_canStep 20 = .ok (.bipush 63, 2) := by decide +kernel
theorem dX12_canStep_22 : decode cX12_canStep 22 = .ok (.iload_n 1, 1) := by decide +kernel
theorem dX12_canStep_23 : decode cX12_canStep 23 = .ok (.iadd, 1) := by decide +kernel
theorem dX12_canStep_24 : decode cX12_canStep 24 = .ok (.iaload, 1) := by decide +kernel
theorem dX12_canStep_25 : decode cX12_canStep 25 = .ok (.aload_n 0, 1) := by decide +kernel
theorem dX12_canStep_26 : decode cX12_canStep 26 = .ok (.getfield 7, 3) := by decide +kernel
theorem dX12_canStep_29 : decode cX12_canStep 29 = .ok (.bipush 63, 2) := by decide +kernel
theorem dX12_canStep_31 : decode cX12_canStep 31 = .ok (.iload_n 2, 1) := by decide +kernel
theorem dX12_canStep_32 : decode cX12_canStep 32 = .ok (.iadd, 1) := by decide +kernel
theorem dX12_canStep_33 : decode cX12_canStep 33 = .ok (.iaload, 1) := by decide +kernel
theorem dX12_canStep_34 : decode cX12_canStep 34 = .ok (.invokevirtual 405, 3) := by decide +kernel
theorem dX12_canStep_37 : decode cX12_canStep 37 = .ok (.iload_n 3, 1) := by decide +kernel
theorem dX12_canStep_38 : decode cX12_canStep 38 = .ok (.if_icmp .gt 7, 3) := by decide +kernel
theorem dX12_canStep_41 : decode cX12_canStep 41 = .ok (.iconst 1, 1) := by decide +kernel
theorem dX12_canStep_42 : decode cX12_canStep 42 = .ok (.goto 4, 3) := by decide +kernel
theorem dX12_canStep_45 : decode cX12_canStep 45 = .ok (.iconst 0, 1) := by decide +kernel
theorem dX12_canStep_46 : decode cX12_canStep 46 = .ok (.ireturn, 1) := by decide +kernel
theorem dX12_lap_0 : decode cX12_lap 0 = .ok (.aload_n 0, 1) := by decide +kernel
theorem dX12_lap_1 : decode cX12_lap 1 = .ok (.iconst 0, 1) := by decide +kernel
theorem dX12_lap_2 : decode cX12_lap 2 = .ok (.putfield 89, 3) := by decide +kernel
theorem dX12_lap_5 : decode cX12_lap 5 = .ok (.aload_n 0, 1) := by decide +kernel
theorem dX12_lap_6 : decode cX12_lap 6 = .ok (.iload_n 1, 1) := by decide +kernel
theorem dX12_lap_7 : decode cX12_lap 7 = .ok (.invokevirtual 325, 3) := by decide +kernel
theorem dX12_lap_10 : decode cX12_lap 10 = .ok (.ifCond .eq 33, 3) := by decide +kernel
theorem dX12_lap_13 : decode cX12_lap 13 = .ok (.aload_n 0, 1) := by decide +kernel
theorem dX12_lap_14 : decode cX12_lap 14 = .ok (.iload_n 2, 1) := by decide +kernel
theorem dX12_lap_15 : decode cX12_lap 15 = .ok (.invokevirtual 325, 3) := by decide +kernel
theorem dX12_lap_18 : decode cX12_lap 18 = .ok (.ifCond .eq 25, 3) := by decide +kernel
theorem dX12_lap_21 : decode cX12_lap 21 = .ok (.aload_n 0, 1) := by decide +kernel
theorem dX12_lap_22 : decode cX12_lap 22 = .ok (.iload_n 3, 1) := by decide +kernel
theorem dX12_lap_23 : decode cX12_lap 23 = .ok (.iconst 0, 1) := by decide +kernel
theorem dX12_lap_24 : decode cX12_lap 24 = .ok (.bipush 99, 2) := by decide +kernel
theorem dX12_lap_26 : decode cX12_lap 26 = .ok (.invokevirtual 122, 3) := by decide +kernel
theorem dX12_lap_29 : decode cX12_lap 29 = .ok (.ifCond .eq 14, 3) := by decide +kernel
theorem dX12_lap_32 : decode cX12_lap 32 = .ok (.aload_n 0, 1) := by decide +kernel
theorem dX12_lap_33 : decode cX12_lap 33 = .ok (.iload 4, 2) := by decide +kernel
theorem dX12_lap_35 : decode cX12_lap 35 = .ok (.iconst 0, 1) := by decide +kernel
theorem dX12_lap_36 : decode cX12_lap 36 = .ok (.iconst 1, 1) := by decide +kernel
theorem dX12_lap_37 : decode cX12_lap 37 = .ok (.invokevirtual 122, 3) := by decide +kernel
theorem dX12_lap_40 : decode cX12_lap 40 = .ok (.ifCond .ne 5, 3) := by decide +kernel
theorem dX12_lap_43 : decode cX12_lap 43 = .ok (.iconst (-1), 1) := by decide +kernel
theorem dX12_lap_44 : decode cX12_lap 44 = .ok (.ireturn, 1) := by decide +kernel
theorem dX12_lap_45 : decode cX12_lap 45 = .ok (.iconst 0, 1) := by decide +kernel
theorem dX12_lap_46 : decode cX12_lap 46 = .ok (.istore 5, 2) := by decide +kernel
theorem dX12_lap_48 : decode cX12_lap 48 = .ok (.iload 5, 2) := by decide +kernel
theorem dX12_lap_50 : decode cX12_lap 50 = .ok (.bipush 10, 2) := by decide +kernel
theorem dX12_lap_52 : decode cX12_lap 52 = .ok (.if_icmp .ge 27, 3) := by decide +kernel
theorem dX12_lap_55 : decode cX12_lap 55 = .ok (.aload_n 0, 1) := by decide +kernel
theorem dX12_lap_56 : decode cX12_lap 56 = .ok (.getfield 80, 3) := by decide +kernel
theorem dX12_lap_59 : decode cX12_lap 59 = .ok (.iload 5, 2) := by decide +kernel
theorem dX12_lap_61 : decode cX12_lap 61 = .ok (.iload 5, 2) := by decide +kernel
theorem dX12_lap_63 : decode cX12_lap 63 = .ok (.iload_n 1, 1) := by decide +kernel
theorem dX12_lap_64 : decode cX12_lap 64 = .ok (.if_icmp .ne 7, 3) := by decide +kernel
theorem dX12_lap_67 : decode cX12_lap 67 = .ok (.iconst 1, 1) := by decide +kernel
theorem dX12_lap_68 : decode cX12_lap 68 = .ok (.goto 4, 3) := by decide +kernel
theorem dX12_lap_71 : decode cX12_lap 71 = .ok (.iconst 0, 1) := by decide +kernel
theorem dX12_lap_72 : decode cX12_lap 72 = .ok (.iastore, 1) := by decide +kernel
theorem dX12_lap_73 : decode cX12_lap 73 = .ok (.iinc 5 1, 3) := by decide +kernel
theorem dX12_lap_76 : decode cX12_lap 76 = .ok (.goto (-28), 3) := by decide +kernel
theorem dX12_lap_79 : decode cX12_lap 79 = .ok (.iconst 0, 1) := by decide +kernel
theorem dX12_lap_80 : decode cX12_lap 80 = .ok (.istore 5, 2) := by decide +kernel
theorem dX12_lap_82 : decode cX12_lap 82 = .ok (.iload 5, 2) := by decide +kernel
theorem dX12_lap_84 : decode cX12_lap 84 = .ok (.bipush 10, 2) := by decide +kernel
theorem dX12_lap_86 : decode cX12_lap 86 = .ok (.if_icmp .ge 142, 3) := by decide +kernel
theorem dX12_lap_89 : decode cX12_lap 89 = .ok (.aload_n 0, 1) := by decide +kernel
theorem dX12_lap_90 : decode cX12_lap 90 = .ok (.getfield 80, 3) := by decide +kernel
theorem dX12_lap_93 : decode cX12_lap 93 = .ok (.iload_n 2, 1) := by decide +kernel
theorem dX12_lap_94 : decode cX12_lap 94 = .ok (.iaload, 1) := by decide +kernel
theorem dX12_lap_95 : decode cX12_lap 95 = .ok (.ifCond .le 20, 3) := by decide +kernel
theorem dX12_lap_98 : decode cX12_lap 98 = .ok (.iload 4, 2) := by decide +kernel
theorem dX12_lap_100 : decode cX12_lap 100 = .ok (.ifCond .ne 8, 3) := by decide +kernel
theorem dX12_lap_103 : decode cX12_lap 103 = .ok (.iload 5, 2) := by decide +kernel
theorem dX12_lap_105 : decode cX12_lap 105 = .ok (.goto 9, 3) := by decide +kernel
theorem dX12_lap_108 : decode cX12_lap 108 = .ok (.aload_n 0, 1) := by decide +kernel
theorem dX12_lap_109 : decode cX12_lap 109 = .ok (.getfield 80, 3) := by decide +kernel
theorem dX12_lap_112 : decode cX12_lap 112 = .ok (.iload_n 2, 1) := by decide +kernel
theorem dX12_lap_113 : decode cX12_lap 113 = .ok (.iaload, 1) := by decide +kernel
theorem dX12_lap_114 : decode cX12_lap 114 = .ok (.ireturn, 1) := by decide +kernel
theorem dX12_lap_115 : decode cX12_lap 115 = .ok (.iconst 0, 1) := by decide +kernel
theorem dX12_lap_116 : decode cX12_lap 116 = .ok (.istore 6, 2) := by decide +kernel
theorem dX12_lap_118 : decode cX12_lap 118 = .ok (.iload 6, 2) := by decide +kernel
theorem dX12_lap_120 : decode cX12_lap 120 = .ok (.aload_n 0, 1) := by decide +kernel
theorem dX12_lap_121 : decode cX12_lap 121 = .ok (.getfield 101, 3) := by decide +kernel
theorem dX12_lap_124 : decode cX12_lap 124 = .ok (.if_icmp .ge 66, 3) := by decide +kernel
theorem dX12_lap_127 : decode cX12_lap 127 = .ok (.iconst 0, 1) := by decide +kernel
theorem dX12_lap_128 : decode cX12_lap 128 = .ok (.istore 7, 2) := by decide +kernel
theorem dX12_lap_130 : decode cX12_lap 130 = .ok (.iconst 0, 1) := by decide +kernel
theorem dX12_lap_131 : decode cX12_lap 131 = .ok (.istore 8, 2) := by decide +kernel
theorem dX12_lap_133 : decode cX12_lap 133 = .ok (.iload 8, 2) := by decide +kernel
theorem dX12_lap_135 : decode cX12_lap 135 = .ok (.aload_n 0, 1) := by decide +kernel
theorem dX12_lap_136 : decode cX12_lap 136 = .ok (.getfield 101, 3) := by decide +kernel
theorem dX12_lap_139 : decode cX12_lap 139 = .ok (.if_icmp .ge 36, 3) := by decide +kernel
theorem dX12_lap_142 : decode cX12_lap 142 = .ok (.aload_n 0, 1) := by decide +kernel
theorem dX12_lap_143 : decode cX12_lap 143 = .ok (.iload 8, 2) := by decide +kernel
theorem dX12_lap_145 : decode cX12_lap 145 = .ok (.iload 6, 2) := by decide +kernel
theorem dX12_lap_147 : decode cX12_lap 147 = .ok (.iload_n 3, 1) := by decide +kernel
theorem dX12_lap_148 : decode cX12_lap 148 = .ok (.invokevirtual 447, 3) := by decide +kernel
theorem dX12_lap_151 : decode cX12_lap 151 = .ok (.ifCond .eq 18, 3) := by decide +kernel
theorem dX12_lap_154 : decode cX12_lap 154 = .ok (.aload_n 0, 1) := by decide +kernel
theorem dX12_lap_155 : decode cX12_lap 155 = .ok (.iload 7, 2) := by decide +kernel
theorem dX12_lap_157 : decode cX12_lap 157 = .ok (.aload_n 0, 1) := by decide +kernel
theorem dX12_lap_158 : decode cX12_lap 158 = .ok (.getfield 80, 3) := by decide +kernel
theorem dX12_lap_161 : decode cX12_lap 161 = .ok (.iload 8, 2) := by decide +kernel
theorem dX12_lap_163 : decode cX12_lap 163 = .ok (.iaload, 1) := by decide +kernel
theorem dX12_lap_164 : decode cX12_lap 164 = .ok (.invokevirtual 450, 3) := by decide +kernel
theorem dX12_lap_167 : decode cX12_lap 167 = .ok (.istore 7, 2) := by decide +kernel
theorem dX12_lap_169 : decode cX12_lap 169 = .ok (.iinc 8 1, 3) := by decide +kernel
theorem dX12_lap_172 : decode cX12_lap 172 = .ok (.goto (-39), 3) := by decide +kernel
theorem dX12_lap_175 : decode cX12_lap 175 = .ok (.aload_n 0, 1) := by decide +kernel
theorem dX12_lap_176 : decode cX12_lap 176 = .ok (.getfield 83, 3) := by decide +kernel
theorem dX12_lap_179 : decode cX12_lap 179 = .ok (.iload 6, 2) := by decide +kernel
theorem dX12_lap_181 : decode cX12_lap 181 = .ok (.iload 7, 2) := by decide +kernel
theorem dX12_lap_183 : decode cX12_lap 183 = .ok (.iastore, 1) := by decide +kernel
theorem dX12_lap_184 : decode cX12_lap 184 = .ok (.iinc 6 1, 3) := by decide +kernel
theorem dX12_lap_187 : decode cX12_lap 187 = .ok (.goto (-69), 3) := by decide +kernel
theorem dX12_lap_190 : decode cX12_lap 190 = .ok (.iconst 0, 1) := by decide +kernel
theorem dX12_lap_191 : decode cX12_lap 191 = .ok (.istore 6, 2) := by decide +kernel
theorem dX12_lap_193 : decode cX12_lap 193 = .ok (.iload 6, 2) := by decide +kernel
theorem dX12_lap_195 : decode cX12_lap 195 = .ok (.aload_n 0, 1) := by decide +kernel
theorem dX12_lap_196 : decode cX12_lap 196 = .ok (.getfield 101, 3) := by decide +kernel
theorem dX12_lap_199 : decode cX12_lap 199 = .ok (.if_icmp .ge 23, 3) := by decide +kernel
theorem dX12_lap_202 : decode cX12_lap 202 = .ok (.aload_n 0, 1) := by decide +kernel
theorem dX12_lap_203 : decode cX12_lap 203 = .ok (.getfield 80, 3) := by decide +kernel
theorem dX12_lap_206 : decode cX12_lap 206 = .ok (.iload 6, 2) := by decide +kernel
theorem dX12_lap_208 : decode cX12_lap 208 = .ok (.aload_n 0, 1) := by decide +kernel
theorem dX12_lap_209 : decode cX12_lap 209 = .ok (.getfield 83, 3) := by decide +kernel
theorem dX12_lap_212 : decode cX12_lap 212 = .ok (.iload 6, 2) := by decide +kernel
theorem dX12_lap_214 : decode cX12_lap 214 = .ok (.iaload, 1) := by decide +kernel
theorem dX12_lap_215 : decode cX12_lap 215 = .ok (.iastore, 1) := by decide +kernel
theorem dX12_lap_216 : decode cX12_lap 216 = .ok (.iinc 6 1, 3) := by decide +kernel
theorem dX12_lap_219 : decode cX12_lap 219 = .ok (.goto (-26), 3) := by decide +kernel
theorem dX12_lap_222 : decode cX12_lap 222 = .ok (.iinc 5 1, 3) := by decide +kernel
theorem dX12_lap_225 : decode cX12_lap 225 = .ok (.goto (-143), 3) := by decide +kernel
theorem dX12_lap_228 : decode cX12_lap 228 = .ok (.iconst (-1), 1) := by decide +kernel
theorem dX12_lap_229 : decode cX12_lap 229 = .ok (.ireturn, 1) := by decide +kernel
theorem dX12_heapOf_0 : decode cX12_heapOf 0 = .ok (.aload_n 0, 1) := by decide +kernel
theorem dX12_heapOf_1 : decode cX12_heapOf 1 = .ok (.iload_n 1, 1) := by decide +kernel
theorem dX12_heapOf_2 : decode cX12_heapOf 2 = .ok (.invokevirtual 107, 3) := by decide +kernel
theorem dX12_heapOf_5 : decode cX12_heapOf 5 = .ok (.iconst (-1), 1) := by decide +kernel
theorem dX12_heapOf_6 : decode cX12_heapOf 6 = .ok (.if_icmp .ne 7, 3) := by decide +kernel
theorem dX12_heapOf_9 : decode cX12_heapOf 9 = .ok (.iconst 0, 1) := by decide +kernel
theorem dX12_heapOf_10 : decode cX12_heapOf 10 = .ok (.goto 21, 3) := by decide +kernel
theorem dX12_heapOf_13 : decode cX12_heapOf 13 = .ok (.aload_n 0, 1) := by decide +kernel
theorem dX12_heapOf_14 : decode cX12_heapOf 14 = .ok (.aload_n 0, 1) := by decide +kernel
theorem dX12_heapOf_15 : decode cX12_heapOf 15 = .ok (.getfield 7, 3) := by decide +kernel
theorem dX12_heapOf_18 : decode cX12_heapOf 18 = .ok (.bipush 21, 2) := by decide +kernel
theorem dX12_heapOf_20 : decode cX12_heapOf 20 = .ok (.aload_n 0, 1) := by decide +kernel
theorem dX12_heapOf_21 : decode cX12_heapOf 21 = .ok (.iload_n 1, 1) := by decide +kernel
theorem dX12_heapOf_22 : decode cX12_heapOf 22 = .ok (.invokevirtual 107, 3) := by decide +kernel
theorem dX12_heapOf_25 : decode cX12_heapOf 25 = .ok (.iadd, 1) := by decide +kernel
theorem dX12_heapOf_26 : decode cX12_heapOf 26 = .ok (.iaload, 1) := by decide +kernel
theorem dX12_heapOf_27 : decode cX12_heapOf 27 = .ok (.iconst 0, 1) := by decide +kernel
theorem dX12_heapOf_28 : decode cX12_heapOf 28 = .ok (.invokevirtual 405, 3) := by decide +kernel
theorem dX12_heapOf_31 : decode cX12_heapOf 31 = .ok (.ireturn, 1) := by decide +kernel
theorem dX12_game_0 : decode cX12_game 0 = .ok (.aload_n 0, 1) := by decide +kernel
theorem dX12_game_1 : decode cX12_game 1 = .ok (.iconst 0, 1) := by decide +kernel
theorem dX12_game_2 : decode cX12_game 2 = .ok (.putfield 89, 3) := by decide +kernel
theorem dX12_game_5 : decode cX12_game 5 = .ok (.aload_n 0, 1) := by decide +kernel
theorem dX12_game_6 : decode cX12_game 6 = .ok (.iload_n 1, 1) := by decide +kernel
theorem dX12_game_7 : decode cX12_game 7 = .ok (.iconst 0, 1) := by decide +kernel
theorem dX12_game_8 : decode cX12_game 8 = .ok (.iconst 1, 1) := by decide +kernel
theorem dX12_game_9 : decode cX12_game 9 = .ok (.invokevirtual 122, 3) := by decide +kernel
theorem dX12_game_12 : decode cX12_game 12 = .ok (.ifCond .ne 5, 3) := by decide +kernel
theorem dX12_game_15 : decode cX12_game 15 = .ok (.iconst (-1), 1) := by decide +kernel
theorem dX12_game_16 : decode cX12_game 16 = .ok (.ireturn, 1) := by decide +kernel
theorem dX12_game_17 : decode cX12_game 17 = .ok (.iconst 0, 1) := by decide +kernel
theorem dX12_game_18 : decode cX12_game 18 = .ok (.istore_n 2, 1) := by decide +kernel
theorem dX12_game_19 : decode cX12_game 19 = .ok (.iconst 0, 1) := by decide +kernel
theorem dX12_game_20 : decode cX12_game 20 = .ok (.istore_n 3, 1) := by decide +kernel
theorem dX12_game_21 : decode cX12_game 21 = .ok (.iload_n 3, 1) := by decide +kernel
theorem dX12_game_22 : decode cX12_game 22 = .ok (.aload_n 0, 1) := by decide +kernel
theorem dX12_game_23 : decode cX12_game 23 = .ok (.getfield 101, 3) := by decide +kernel
theorem dX12_game_26 : decode cX12_game 26 = .ok (.if_icmp .ge 21, 3) := by decide +kernel
theorem dX12_game_29 : decode cX12_game 29 = .ok (.iload_n 2, 1) := by decide +kernel
theorem dX12_game_30 : decode cX12_game 30 = .ok (.aload_n 0, 1) := by decide +kernel
theorem dX12_game_31 : decode cX12_game 31 = .ok (.iload_n 3, 1) := by decide +kernel
theorem dX12_game_32 : decode cX12_game 32 = .ok (.invokevirtual 453, 3) := by decide +kernel
theorem dX12_game_35 : decode cX12_game 35 = .ok (.iload_n 3, 1) := by decide +kernel
theorem dX12_game_36 : decode cX12_game 36 = .ok (.iconst 2, 1) := by decide +kernel
theorem dX12_game_37 : decode cX12_game 37 = .ok (.iadd, 1) := by decide +kernel
theorem dX12_game_38 : decode cX12_game 38 = .ok (.irem, 1) := by decide +kernel
theorem dX12_game_39 : decode cX12_game 39 = .ok (.ixor, 1) := by decide +kernel
theorem dX12_game_40 : decode cX12_game 40 = .ok (.istore_n 2, 1) := by decide +kernel
theorem dX12_game_41 : decode cX12_game 41 = .ok (.iinc 3 1, 3) := by decide +kernel
theorem dX12_game_44 : decode cX12_game 44 = .ok (.goto (-23), 3) := by decide +kernel
theorem dX12_game_47 : decode cX12_game 47 = .ok (.iconst 0, 1) := by decide +kernel
theorem dX12_game_48 : decode cX12_game 48 = .ok (.istore_n 3, 1) := by decide +kernel
theorem dX12_game_49 : decode cX12_game 49 = .ok (.iload_n 3, 1) := by decide +kernel
theorem dX12_game_50 : decode cX12_game 50 = .ok (.aload_n 0, 1) := by decide +kernel
theorem dX12_game_51 : decode cX12_game 51 = .ok (.getfield 101, 3) := by decide +kernel
theorem dX12_game_54 : decode cX12_game 54 = .ok (.if_icmp .ge 74, 3) := by decide +kernel
theorem dX12_game_57 : decode cX12_game 57 = .ok (.aload_n 0, 1) := by decide +kernel
theorem dX12_game_58 : decode cX12_game 58 = .ok (.iload_n 3, 1) := by decide +kernel
theorem dX12_game_59 : decode cX12_game 59 = .ok (.invokevirtual 453, 3) := by decide +kernel
theorem dX12_game_62 : decode cX12_game 62 = .ok (.istore 4, 2) := by decide +kernel
theorem dX12_game_64 : decode cX12_game 64 = .ok (.iload_n 2, 1) := by decide +kernel
theorem dX12_game_65 : decode cX12_game 65 = .ok (.iload 4, 2) := by decide +kernel
theorem dX12_game_67 : decode cX12_game 67 = .ok (.iload_n 3, 1) := by decide +kernel
theorem dX12_game_68 : decode cX12_game 68 = .ok (.iconst 2, 1) := by decide +kernel
theorem dX12_game_69 : decode cX12_game 69 = .ok (.iadd, 1) := by decide +kernel
theorem dX12_game_70 : decode cX12_game 70 = .ok (.irem, 1) := by decide +kernel
theorem dX12_game_71 : decode cX12_game 71 = .ok (.ixor, 1) := by decide +kernel
theorem dX12_game_72 : decode cX12_game 72 = .ok (.istore 5, 2) := by decide +kernel
theorem dX12_game_74 : decode cX12_game 74 = .ok (.iconst 1, 1) := by decide +kernel
theorem dX12_game_75 : decode cX12_game 75 = .ok (.istore 6, 2) := by decide +kernel
theorem dX12_game_77 : decode cX12_game 77 = .ok (.iload 6, 2) := by decide +kernel
theorem dX12_game_79 : decode cX12_game 79 = .ok (.aload_n 0, 1) := by decide +kernel
theorem dX12_game_80 : decode cX12_game 80 = .ok (.iload 4, 2) := by decide +kernel
theorem dX12_game_82 : decode cX12_game 82 = .ok (.iload_n 3, 1) := by decide +kernel
theorem dX12_game_83 : decode cX12_game 83 = .ok (.iconst 1, 1) := by decide +kernel
theorem dX12_game_84 : decode cX12_game 84 = .ok (.iadd, 1) := by decide +kernel
theorem dX12_game_85 : decode cX12_game 85 = .ok (.invokevirtual 328, 3) := by decide +kernel
theorem dX12_game_88 : decode cX12_game 88 = .ok (.if_icmp .gt 34, 3) := by decide +kernel
theorem dX12_game_91 : decode cX12_game 91 = .ok (.iload 4, 2) := by decide +kernel
theorem dX12_game_93 : decode cX12_game 93 = .ok (.iload 6, 2) := by decide +kernel
theorem dX12_game_95 : decode cX12_game 95 = .ok (.isub, 1) := by decide +kernel
theorem dX12_game_96 : decode cX12_game 96 = .ok (.iload_n 3, 1) := by decide +kernel
theorem dX12_game_97 : decode cX12_game 97 = .ok (.iconst 2, 1) := by decide +kernel
theorem dX12_game_98 : decode cX12_game 98 = .ok (.iadd, 1) := by decide +kernel
theorem dX12_game_99 : decode cX12_game 99 = .ok (.irem, 1) := by decide +kernel
theorem dX12_game_100 : decode cX12_game 100 = .ok (.iload 5, 2) := by decide +kernel
theorem dX12_game_102 : decode cX12_game 102 = .ok (.if_icmp .ne 14, 3) := by decide +kernel
theorem dX12_game_105 : decode cX12_game 105 = .ok (.iload_n 1, 1) := by decide +kernel
theorem dX12_game_106 : decode cX12_game 106 = .ok (.ifCond .ne 7, 3) := by decide +kernel
theorem dX12_game_109 : decode cX12_game 109 = .ok (.iload_n 3, 1) := by decide +kernel
theorem dX12_game_110 : decode cX12_game 110 = .ok (.goto 5, 3) := by decide +kernel
theorem dX12_game_113 : decode cX12_game 113 = .ok (.iload 6, 2) := by decide +kernel
theorem dX12_game_115 : decode cX12_game 115 = .ok (.ireturn, 1) := by decide +kernel
theorem dX12_game_116 : decode cX12_game 116 = .ok (.iinc 6 1, 3) := by decide +kernel
theorem dX12_game_119 : decode cX12_game 119 = .ok (.goto (-42), 3) := by decide +kernel
theorem dX12_game_122 : decode cX12_game 122 = .ok (.iinc 3 1, 3) := by decide +kernel
theorem dX12_game_125 : decode cX12_game 125 = .ok (.goto (-76), 3) := by decide +kernel
theorem dX12_game_128 : decode cX12_game 128 = .ok (.iconst (-1), 1) := by decide +kernel
theorem dX12_game_129 : decode cX12_game 129 = .ok (.ireturn, 1) := by decide +kernel
theorem dX12_keeps_0 : decode cX12_keeps 0 = .ok (.aload_n 0, 1) := by decide +kernel
theorem dX12_keeps_1 : decode cX12_keeps 1 = .ok (.aload_n 0, 1) := by decide +kernel
theorem dX12_keeps_2 : decode cX12_keeps 2 = .ok (.getfield 456, 3) := by decide +kernel
theorem dX12_keeps_5 : decode cX12_keeps 5 = .ok (.iconst 1, 1) := by decide +kernel
theorem dX12_keeps_6 : decode cX12_keeps 6 = .ok (.iadd, 1) := by decide +kernel
theorem dX12_keeps_7 : decode cX12_keeps 7 = .ok (.putfield 456, 3) := by decide +kernel
theorem dX12_keeps_10 : decode cX12_keeps 10 = .ok (.aload_n 0, 1) := by decide +kernel
theorem dX12_keeps_11 : decode cX12_keeps 11 = .ok (.getfield 459, 3) := by decide +kernel
theorem dX12_keeps_14 : decode cX12_keeps 14 = .ok (.ifCond .ne 15, 3) := by decide +kernel
theorem dX12_keeps_17 : decode cX12_keeps 17 = .ok (.aload_n 0, 1) := by decide +kernel
theorem dX12_keeps_18 : decode cX12_keeps 18 = .ok (.getfield 86, 3) := by decide +kernel
theorem dX12_keeps_21 : decode cX12_keeps 21 = .ok (.aload_n 0, 1) := by decide +kernel
theorem dX12_keeps_22 : decode cX12_keeps 22 = .ok (.getfield 456, 3) := by decide +kernel
theorem dX12_keeps_25 : decode cX12_keeps 25 = .ok (.iconst 1, 1) := by decide +kernel
theorem dX12_keeps_26 : decode cX12_keeps 26 = .ok (.isub, 1) := by decide +kernel
theorem dX12_keeps_27 : decode cX12_keeps 27 = .ok (.iaload, 1) := by decide +kernel
theorem dX12_keeps_28 : decode cX12_keeps 28 = .ok (.ireturn, 1) := by decide +kernel
theorem dX12_keeps_29 : decode cX12_keeps 29 = .ok (.aload_n 0, 1) := by decide +kernel
theorem dX12_keeps_30 : decode cX12_keeps 30 = .ok (.getfield 86, 3) := by decide +kernel
theorem dX12_keeps_33 : decode cX12_keeps 33 = .ok (.aload_n 0, 1) := by decide +kernel
theorem dX12_keeps_34 : decode cX12_keeps 34 = .ok (.getfield 456, 3) := by decide +kernel
theorem dX12_keeps_37 : decode cX12_keeps 37 = .ok (.iconst 1, 1) := by decide +kernel
theorem dX12_keeps_38 : decode cX12_keeps 38 = .ok (.isub, 1) := by decide +kernel
theorem dX12_keeps_39 : decode cX12_keeps 39 = .ok (.iload_n 1, 1) := by decide +kernel
theorem dX12_keeps_40 : decode cX12_keeps 40 = .ok (.iastore, 1) := by decide +kernel
theorem dX12_keeps_41 : decode cX12_keeps 41 = .ok (.iload_n 1, 1) := by decide +kernel
theorem dX12_keeps_42 : decode cX12_keeps 42 = .ok (.ireturn, 1) := by decide +kernel
theorem dX12_keepsLaw_0 : decode cX12_keepsLaw 0 = .ok (.aload_n 0, 1) := by decide +kernel
theorem dX12_keepsLaw_1 : decode cX12_keepsLaw 1 = .ok (.getfield 31, 3) := by decide +kernel
theorem dX12_keepsLaw_4 : decode cX12_keepsLaw 4 = .ok (.iconst 0, 1) := by decide +kernel
theorem dX12_keepsLaw_5 : decode cX12_keepsLaw 5 = .ok (.aload_n 0, 1) := by decide +kernel
theorem dX12_keepsLaw_6 : decode cX12_keepsLaw 6 = .ok (.aload_n 0, 1) := by decide +kernel
theorem dX12_keepsLaw_7 : decode cX12_keepsLaw 7 = .ok (.getfield 31, 3) := by decide +kernel
theorem dX12_keepsLaw_10 : decode cX12_keepsLaw 10 = .ok (.iconst 0, 1) := by decide +kernel
theorem dX12_keepsLaw_11 : decode cX12_keepsLaw 11 = .ok (.iaload, 1) := by decide +kernel
theorem dX12_keepsLaw_12 : decode cX12_keepsLaw 12 = .ok (.invokevirtual 462, 3) := by decide +kernel
theorem dX12_keepsLaw_15 : decode cX12_keepsLaw 15 = .ok (.iastore, 1) := by decide +kernel
theorem dX12_keepsLaw_16 : decode cX12_keepsLaw 16 = .ok (.iconst 0, 1) := by decide +kernel
theorem dX12_keepsLaw_17 : decode cX12_keepsLaw 17 = .ok (.istore_n 1, 1) := by decide +kernel
theorem dX12_keepsLaw_18 : decode cX12_keepsLaw 18 = .ok (.iload_n 1, 1) := by decide +kernel
theorem dX12_keepsLaw_19 : decode cX12_keepsLaw 19 = .ok (.bipush 16, 2) := by decide +kernel
theorem dX12_keepsLaw_21 : decode cX12_keepsLaw 21 = .ok (.if_icmp .ge 73, 3) := by decide +kernel
theorem dX12_keepsLaw_24 : decode cX12_keepsLaw 24 = .ok (.aload_n 0, 1) := by decide +kernel
theorem dX12_keepsLaw_25 : decode cX12_keepsLaw 25 = .ok (.getfield 34, 3) := by decide +kernel
theorem dX12_keepsLaw_28 : decode cX12_keepsLaw 28 = .ok (.iload_n 1, 1) := by decide +kernel
theorem dX12_keepsLaw_29 : decode cX12_keepsLaw 29 = .ok (.aload_n 0, 1) := by decide +kernel
theorem dX12_keepsLaw_30 : decode cX12_keepsLaw 30 = .ok (.aload_n 0, 1) := by decide +kernel
theorem dX12_keepsLaw_31 : decode cX12_keepsLaw 31 = .ok (.getfield 34, 3) := by decide +kernel
theorem dX12_keepsLaw_34 : decode cX12_keepsLaw 34 = .ok (.iload_n 1, 1) := by decide +kernel
theorem dX12_keepsLaw_35 : decode cX12_keepsLaw 35 = .ok (.iaload, 1) := by decide +kernel
theorem dX12_keepsLaw_36 : decode cX12_keepsLaw 36 = .ok (.invokevirtual 462, 3) := by decide +kernel
theorem dX12_keepsLaw_39 : decode cX12_keepsLaw 39 = .ok (.iastore, 1) := by decide +kernel
theorem dX12_keepsLaw_40 : decode cX12_keepsLaw 40 = .ok (.aload_n 0, 1) := by decide +kernel
theorem dX12_keepsLaw_41 : decode cX12_keepsLaw 41 = .ok (.getfield 37, 3) := by decide +kernel
theorem dX12_keepsLaw_44 : decode cX12_keepsLaw 44 = .ok (.iload_n 1, 1) := by decide +kernel
theorem dX12_keepsLaw_45 : decode cX12_keepsLaw 45 = .ok (.aload_n 0, 1) := by decide +kernel
theorem dX12_keepsLaw_46 : decode cX12_keepsLaw 46 = .ok (.aload_n 0, 1) := by decide +kernel
theorem dX12_keepsLaw_47 : decode cX12_keepsLaw 47 = .ok (.getfield 37, 3) := by decide +kernel
theorem dX12_keepsLaw_50 : decode cX12_keepsLaw 50 = .ok (.iload_n 1, 1) := by decide +kernel
theorem dX12_keepsLaw_51 : decode cX12_keepsLaw 51 = .ok (.iaload, 1) := by decide +kernel
theorem dX12_keepsLaw_52 : decode cX12_keepsLaw 52 = .ok (.invokevirtual 462, 3) := by decide +kernel
theorem dX12_keepsLaw_55 : decode cX12_keepsLaw 55 = .ok (.iastore, 1) := by decide +kernel
theorem dX12_keepsLaw_56 : decode cX12_keepsLaw 56 = .ok (.aload_n 0, 1) := by decide +kernel
theorem dX12_keepsLaw_57 : decode cX12_keepsLaw 57 = .ok (.getfield 40, 3) := by decide +kernel
theorem dX12_keepsLaw_60 : decode cX12_keepsLaw 60 = .ok (.iload_n 1, 1) := by decide +kernel
theorem dX12_keepsLaw_61 : decode cX12_keepsLaw 61 = .ok (.aload_n 0, 1) := by decide +kernel
theorem dX12_keepsLaw_62 : decode cX12_keepsLaw 62 = .ok (.aload_n 0, 1) := by decide +kernel
theorem dX12_keepsLaw_63 : decode cX12_keepsLaw 63 = .ok (.getfield 40, 3) := by decide +kernel
theorem dX12_keepsLaw_66 : decode cX12_keepsLaw 66 = .ok (.iload_n 1, 1) := by decide +kernel
theorem dX12_keepsLaw_67 : decode cX12_keepsLaw 67 = .ok (.iaload, 1) := by decide +kernel
theorem dX12_keepsLaw_68 : decode cX12_keepsLaw 68 = .ok (.invokevirtual 462, 3) := by decide +kernel
theorem dX12_keepsLaw_71 : decode cX12_keepsLaw 71 = .ok (.iastore, 1) := by decide +kernel
theorem dX12_keepsLaw_72 : decode cX12_keepsLaw 72 = .ok (.aload_n 0, 1) := by decide +kernel
theorem dX12_keepsLaw_73 : decode cX12_keepsLaw 73 = .ok (.getfield 43, 3) := by decide +kernel
theorem dX12_keepsLaw_76 : decode cX12_keepsLaw 76 = .ok (.iload_n 1, 1) := by decide +kernel
theorem dX12_keepsLaw_77 : decode cX12_keepsLaw 77 = .ok (.aload_n 0, 1) := by decide +kernel
theorem dX12_keepsLaw_78 : decode cX12_keepsLaw 78 = .ok (.aload_n 0, 1) := by decide +kernel
theorem dX12_keepsLaw_79 : decode cX12_keepsLaw 79 = .ok (.getfield 43, 3) := by decide +kernel
theorem dX12_keepsLaw_82 : decode cX12_keepsLaw 82 = .ok (.iload_n 1, 1) := by decide +kernel
theorem dX12_keepsLaw_83 : decode cX12_keepsLaw 83 = .ok (.iaload, 1) := by decide +kernel
theorem dX12_keepsLaw_84 : decode cX12_keepsLaw 84 = .ok (.invokevirtual 462, 3) := by decide +kernel
theorem dX12_keepsLaw_87 : decode cX12_keepsLaw 87 = .ok (.iastore, 1) := by decide +kernel
theorem dX12_keepsLaw_88 : decode cX12_keepsLaw 88 = .ok (.iinc 1 1, 3) := by decide +kernel
theorem dX12_keepsLaw_91 : decode cX12_keepsLaw 91 = .ok (.goto (-73), 3) := by decide +kernel
theorem dX12_keepsLaw_94 : decode cX12_keepsLaw 94 = .ok (.iconst 0, 1) := by decide +kernel
theorem dX12_keepsLaw_95 : decode cX12_keepsLaw 95 = .ok (.istore_n 1, 1) := by decide +kernel
theorem dX12_keepsLaw_96 : decode cX12_keepsLaw 96 = .ok (.iload_n 1, 1) := by decide +kernel
theorem dX12_keepsLaw_97 : decode cX12_keepsLaw 97 = .ok (.sipush 400, 3) := by decide +kernel
theorem dX12_keepsLaw_100 : decode cX12_keepsLaw 100 = .ok (.if_icmp .ge 41, 3) := by decide +kernel
theorem dX12_keepsLaw_103 : decode cX12_keepsLaw 103 = .ok (.aload_n 0, 1) := by decide +kernel
theorem dX12_keepsLaw_104 : decode cX12_keepsLaw 104 = .ok (.getfield 46, 3) := by decide +kernel
theorem dX12_keepsLaw_107 : decode cX12_keepsLaw 107 = .ok (.iload_n 1, 1) := by decide +kernel
theorem dX12_keepsLaw_108 : decode cX12_keepsLaw 108 = .ok (.aload_n 0, 1) := by decide +kernel
theorem dX12_keepsLaw_109 : decode cX12_keepsLaw 109 = .ok (.aload_n 0, 1) := by decide +kernel
theorem dX12_keepsLaw_110 : decode cX12_keepsLaw 110 = .ok (.getfield 46, 3) := by decide +kernel
theorem dX12_keepsLaw_113 : decode cX12_keepsLaw 113 = .ok (.iload_n 1, 1) := by decide +kernel
theorem dX12_keepsLaw_114 : decode cX12_keepsLaw 114 = .ok (.iaload, 1) := by decide +kernel
theorem dX12_keepsLaw_115 : decode cX12_keepsLaw 115 = .ok (.invokevirtual 462, 3) := by decide +kernel
theorem dX12_keepsLaw_118 : decode cX12_keepsLaw 118 = .ok (.iastore, 1) := by decide +kernel
theorem dX12_keepsLaw_119 : decode cX12_keepsLaw 119 = .ok (.aload_n 0, 1) := by decide +kernel
theorem dX12_keepsLaw_120 : decode cX12_keepsLaw 120 = .ok (.getfield 49, 3) := by decide +kernel
theorem dX12_keepsLaw_123 : decode cX12_keepsLaw 123 = .ok (.iload_n 1, 1) := by decide +kernel
theorem dX12_keepsLaw_124 : decode cX12_keepsLaw 124 = .ok (.aload_n 0, 1) := by decide +kernel
theorem dX12_keepsLaw_125 : decode cX12_keepsLaw 125 = .ok (.aload_n 0, 1) := by decide +kernel
theorem dX12_keepsLaw_126 : decode cX12_keepsLaw 126 = .ok (.getfield 49, 3) := by decide +kernel
theorem dX12_keepsLaw_129 : decode cX12_keepsLaw 129 = .ok (.iload_n 1, 1) := by decide +kernel
theorem dX12_keepsLaw_130 : decode cX12_keepsLaw 130 = .ok (.iaload, 1) := by decide +kernel
theorem dX12_keepsLaw_131 : decode cX12_keepsLaw 131 = .ok (.invokevirtual 462, 3) := by decide +kernel
theorem dX12_keepsLaw_134 : decode cX12_keepsLaw 134 = .ok (.iastore, 1) := by decide +kernel
theorem dX12_keepsLaw_135 : decode cX12_keepsLaw 135 = .ok (.iinc 1 1, 3) := by decide +kernel
theorem dX12_keepsLaw_138 : decode cX12_keepsLaw 138 = .ok (.goto (-42), 3) := by decide +kernel
theorem dX12_keepsLaw_141 : decode cX12_keepsLaw 141 = .ok (.return_, 1) := by decide +kernel
theorem dX12_keepsTold_0 : decode cX12_keepsTold 0 = .ok (.aload_n 0, 1) := by decide +kernel
theorem dX12_keepsTold_1 : decode cX12_keepsTold 1 = .ok (.aload_n 0, 1) := by decide +kernel
theorem dX12_keepsTold_2 : decode cX12_keepsTold 2 = .ok (.aload_n 0, 1) := by decide +kernel
theorem dX12_keepsTold_3 : decode cX12_keepsTold 3 = .ok (.getfield 101, 3) := by decide +kernel
theorem dX12_keepsTold_6 : decode cX12_keepsTold 6 = .ok (.invokevirtual 462, 3) := by decide +kernel
theorem dX12_keepsTold_9 : decode cX12_keepsTold 9 = .ok (.putfield 101, 3) := by decide +kernel
theorem dX12_keepsTold_12 : decode cX12_keepsTold 12 = .ok (.aload_n 0, 1) := by decide +kernel
theorem dX12_keepsTold_13 : decode cX12_keepsTold 13 = .ok (.aload_n 0, 1) := by decide +kernel
theorem dX12_keepsTold_14 : decode cX12_keepsTold 14 = .ok (.aload_n 0, 1) := by decide +kernel
theorem dX12_keepsTold_15 : decode cX12_keepsTold 15 = .ok (.getfield 104, 3) := by decide +kernel
theorem dX12_keepsTold_18 : decode cX12_keepsTold 18 = .ok (.invokevirtual 462, 3) := by decide +kernel
theorem dX12_keepsTold_21 : decode cX12_keepsTold 21 = .ok (.putfield 104, 3) := by decide +kernel
theorem dX12_keepsTold_24 : decode cX12_keepsTold 24 = .ok (.aload_n 0, 1) := by decide +kernel
theorem dX12_keepsTold_25 : decode cX12_keepsTold 25 = .ok (.aload_n 0, 1) := by decide +kernel
theorem dX12_keepsTold_26 : decode cX12_keepsTold 26 = .ok (.aload_n 0, 1) := by decide +kernel
theorem dX12_keepsTold_27 : decode cX12_keepsTold 27 = .ok (.getfield 267, 3) := by decide +kernel
theorem dX12_keepsTold_30 : decode cX12_keepsTold 30 = .ok (.invokevirtual 462, 3) := by decide +kernel
theorem dX12_keepsTold_33 : decode cX12_keepsTold 33 = .ok (.putfield 267, 3) := by decide +kernel
theorem dX12_keepsTold_36 : decode cX12_keepsTold 36 = .ok (.aload_n 0, 1) := by decide +kernel
theorem dX12_keepsTold_37 : decode cX12_keepsTold 37 = .ok (.aload_n 0, 1) := by decide +kernel
theorem dX12_keepsTold_38 : decode cX12_keepsTold 38 = .ok (.aload_n 0, 1) := by decide +kernel
theorem dX12_keepsTold_39 : decode cX12_keepsTold 39 = .ok (.getfield 270, 3) := by decide +kernel
theorem dX12_keepsTold_42 : decode cX12_keepsTold 42 = .ok (.invokevirtual 462, 3) := by decide +kernel
theorem dX12_keepsTold_45 : decode cX12_keepsTold 45 = .ok (.putfield 270, 3) := by decide +kernel
theorem dX12_keepsTold_48 : decode cX12_keepsTold 48 = .ok (.aload_n 0, 1) := by decide +kernel
theorem dX12_keepsTold_49 : decode cX12_keepsTold 49 = .ok (.aload_n 0, 1) := by decide +kernel
theorem dX12_keepsTold_50 : decode cX12_keepsTold 50 = .ok (.aload_n 0, 1) := by decide +kernel
theorem dX12_keepsTold_51 : decode cX12_keepsTold 51 = .ok (.getfield 273, 3) := by decide +kernel
theorem dX12_keepsTold_54 : decode cX12_keepsTold 54 = .ok (.invokevirtual 462, 3) := by decide +kernel
theorem dX12_keepsTold_57 : decode cX12_keepsTold 57 = .ok (.putfield 273, 3) := by decide +kernel
theorem dX12_keepsTold_60 : decode cX12_keepsTold 60 = .ok (.aload_n 0, 1) := by decide +kernel
theorem dX12_keepsTold_61 : decode cX12_keepsTold 61 = .ok (.aload_n 0, 1) := by decide +kernel
theorem dX12_keepsTold_62 : decode cX12_keepsTold 62 = .ok (.aload_n 0, 1) := by decide +kernel
theorem dX12_keepsTold_63 : decode cX12_keepsTold 63 = .ok (.getfield 433, 3) := by decide +kernel
theorem dX12_keepsTold_66 : decode cX12_keepsTold 66 = .ok (.invokevirtual 462, 3) := by decide +kernel
theorem dX12_keepsTold_69 : decode cX12_keepsTold 69 = .ok (.putfield 433, 3) := by decide +kernel
theorem dX12_keepsTold_72 : decode cX12_keepsTold 72 = .ok (.iconst 0, 1) := by decide +kernel
theorem dX12_keepsTold_73 : decode cX12_keepsTold 73 = .ok (.istore_n 1, 1) := by decide +kernel
theorem dX12_keepsTold_74 : decode cX12_keepsTold 74 = .ok (.iload_n 1, 1) := by decide +kernel
theorem dX12_keepsTold_75 : decode cX12_keepsTold 75 = .ok (.bipush 14, 2) := by decide +kernel
theorem dX12_keepsTold_77 : decode cX12_keepsTold 77 = .ok (.if_icmp .ge 25, 3) := by decide +kernel
theorem dX12_keepsTold_80 : decode cX12_keepsTold 80 = .ok (.aload_n 0, 1) := by decide +kernel
theorem dX12_keepsTold_81 : decode cX12_keepsTold 81 = .ok (.getfield 19, 3) := by decide +kernel
theorem dX12_keepsTold_84 : decode cX12_keepsTold 84 = .ok (.iload_n 1, 1) := by decide +kernel
theorem dX12_keepsTold_85 : decode cX12_keepsTold 85 = .ok (.aload_n 0, 1) := by decide +kernel
theorem dX12_keepsTold_86 : decode cX12_keepsTold 86 = .ok (.aload_n 0, 1) := by decide +kernel
theorem dX12_keepsTold_87 : decode cX12_keepsTold 87 = .ok (.getfield 19, 3) := by decide +kernel
theorem dX12_keepsTold_90 : decode cX12_keepsTold 90 = .ok (.iload_n 1, 1) := by decide +kernel
theorem dX12_keepsTold_91 : decode cX12_keepsTold 91 = .ok (.iaload, 1) := by decide +kernel
theorem dX12_keepsTold_92 : decode cX12_keepsTold 92 = .ok (.invokevirtual 462, 3) := by decide +kernel
theorem dX12_keepsTold_95 : decode cX12_keepsTold 95 = .ok (.iastore, 1) := by decide +kernel
theorem dX12_keepsTold_96 : decode cX12_keepsTold 96 = .ok (.iinc 1 1, 3) := by decide +kernel
theorem dX12_keepsTold_99 : decode cX12_keepsTold 99 = .ok (.goto (-25), 3) := by decide +kernel
theorem dX12_keepsTold_102 : decode cX12_keepsTold 102 = .ok (.iconst 0, 1) := by decide +kernel
theorem dX12_keepsTold_103 : decode cX12_keepsTold 103 = .ok (.istore_n 1, 1) := by decide +kernel
theorem dX12_keepsTold_104 : decode cX12_keepsTold 104 = .ok (.iload_n 1, 1) := by decide +kernel
theorem dX12_keepsTold_105 : decode cX12_keepsTold 105 = .ok (.bipush 7, 2) := by decide +kernel
theorem dX12_keepsTold_107 : decode cX12_keepsTold 107 = .ok (.if_icmp .ge 41, 3) := by decide +kernel
theorem dX12_keepsTold_110 : decode cX12_keepsTold 110 = .ok (.aload_n 0, 1) := by decide +kernel
theorem dX12_keepsTold_111 : decode cX12_keepsTold 111 = .ok (.getfield 74, 3) := by decide +kernel
theorem dX12_keepsTold_114 : decode cX12_keepsTold 114 = .ok (.iload_n 1, 1) := by decide +kernel
theorem dX12_keepsTold_115 : decode cX12_keepsTold 115 = .ok (.aload_n 0, 1) := by decide +kernel
theorem dX12_keepsTold_116 : decode cX12_keepsTold 116 = .ok (.aload_n 0, 1) := by decide +kernel
theorem dX12_keepsTold_117 : decode cX12_keepsTold 117 = .ok (.getfield 74, 3) := by decide +kernel
theorem dX12_keepsTold_120 : decode cX12_keepsTold 120 = .ok (.iload_n 1, 1) := by decide +kernel
theorem dX12_keepsTold_121 : decode cX12_keepsTold 121 = .ok (.iaload, 1) := by decide +kernel
theorem dX12_keepsTold_122 : decode cX12_keepsTold 122 = .ok (.invokevirtual 462, 3) := by decide +kernel
theorem dX12_keepsTold_125 : decode cX12_keepsTold 125 = .ok (.iastore, 1) := by decide +kernel
theorem dX12_keepsTold_126 : decode cX12_keepsTold 126 = .ok (.aload_n 0, 1) := by decide +kernel
theorem dX12_keepsTold_127 : decode cX12_keepsTold 127 = .ok (.getfield 77, 3) := by decide +kernel
theorem dX12_keepsTold_130 : decode cX12_keepsTold 130 = .ok (.iload_n 1, 1) := by decide +kernel
theorem dX12_keepsTold_131 : decode cX12_keepsTold 131 = .ok (.aload_n 0, 1) := by decide +kernel
theorem dX12_keepsTold_132 : decode cX12_keepsTold 132 = .ok (.aload_n 0, 1) := by decide +kernel
theorem dX12_keepsTold_133 : decode cX12_keepsTold 133 = .ok (.getfield 77, 3) := by decide +kernel
theorem dX12_keepsTold_136 : decode cX12_keepsTold 136 = .ok (.iload_n 1, 1) := by decide +kernel
theorem dX12_keepsTold_137 : decode cX12_keepsTold 137 = .ok (.iaload, 1) := by decide +kernel
theorem dX12_keepsTold_138 : decode cX12_keepsTold 138 = .ok (.invokevirtual 462, 3) := by decide +kernel
theorem dX12_keepsTold_141 : decode cX12_keepsTold 141 = .ok (.iastore, 1) := by decide +kernel
theorem dX12_keepsTold_142 : decode cX12_keepsTold 142 = .ok (.iinc 1 1, 3) := by decide +kernel
theorem dX12_keepsTold_145 : decode cX12_keepsTold 145 = .ok (.goto (-41), 3) := by decide +kernel
theorem dX12_keepsTold_148 : decode cX12_keepsTold 148 = .ok (.iconst 0, 1) := by decide +kernel
theorem dX12_keepsTold_149 : decode cX12_keepsTold 149 = .ok (.istore_n 1, 1) := by decide +kernel
theorem dX12_keepsTold_150 : decode cX12_keepsTold 150 = .ok (.iload_n 1, 1) := by decide +kernel
theorem dX12_keepsTold_151 : decode cX12_keepsTold 151 = .ok (.bipush 32, 2) := by decide +kernel
theorem dX12_keepsTold_153 : decode cX12_keepsTold 153 = .ok (.if_icmp .ge 41, 3) := by decide +kernel
theorem dX12_keepsTold_156 : decode cX12_keepsTold 156 = .ok (.aload_n 0, 1) := by decide +kernel
theorem dX12_keepsTold_157 : decode cX12_keepsTold 157 = .ok (.getfield 59, 3) := by decide +kernel
theorem dX12_keepsTold_160 : decode cX12_keepsTold 160 = .ok (.iload_n 1, 1) := by decide +kernel
theorem dX12_keepsTold_161 : decode cX12_keepsTold 161 = .ok (.aload_n 0, 1) := by decide +kernel
theorem dX12_keepsTold_162 : decode cX12_keepsTold 162 = .ok (.aload_n 0, 1) := by decide +kernel
theorem dX12_keepsTold_163 : decode cX12_keepsTold 163 = .ok (.getfield 59, 3) := by decide +kernel
theorem dX12_keepsTold_166 : decode cX12_keepsTold 166 = .ok (.iload_n 1, 1) := by decide +kernel
theorem dX12_keepsTold_167 : decode cX12_keepsTold 167 = .ok (.iaload, 1) := by decide +kernel
theorem dX12_keepsTold_168 : decode cX12_keepsTold 168 = .ok (.invokevirtual 462, 3) := by decide +kernel
theorem dX12_keepsTold_171 : decode cX12_keepsTold 171 = .ok (.iastore, 1) := by decide +kernel
theorem dX12_keepsTold_172 : decode cX12_keepsTold 172 = .ok (.aload_n 0, 1) := by decide +kernel
theorem dX12_keepsTold_173 : decode cX12_keepsTold 173 = .ok (.getfield 65, 3) := by decide +kernel
theorem dX12_keepsTold_176 : decode cX12_keepsTold 176 = .ok (.iload_n 1, 1) := by decide +kernel
theorem dX12_keepsTold_177 : decode cX12_keepsTold 177 = .ok (.aload_n 0, 1) := by decide +kernel
theorem dX12_keepsTold_178 : decode cX12_keepsTold 178 = .ok (.aload_n 0, 1) := by decide +kernel
theorem dX12_keepsTold_179 : decode cX12_keepsTold 179 = .ok (.getfield 65, 3) := by decide +kernel
theorem dX12_keepsTold_182 : decode cX12_keepsTold 182 = .ok (.iload_n 1, 1) := by decide +kernel
theorem dX12_keepsTold_183 : decode cX12_keepsTold 183 = .ok (.iaload, 1) := by decide +kernel
theorem dX12_keepsTold_184 : decode cX12_keepsTold 184 = .ok (.invokevirtual 462, 3) := by decide +kernel
theorem dX12_keepsTold_187 : decode cX12_keepsTold 187 = .ok (.iastore, 1) := by decide +kernel
theorem dX12_keepsTold_188 : decode cX12_keepsTold 188 = .ok (.iinc 1 1, 3) := by decide +kernel
theorem dX12_keepsTold_191 : decode cX12_keepsTold 191 = .ok (.goto (-41), 3) := by decide +kernel
theorem dX12_keepsTold_194 : decode cX12_keepsTold 194 = .ok (.iconst 0, 1) := by decide +kernel
theorem dX12_keepsTold_195 : decode cX12_keepsTold 195 = .ok (.istore_n 1, 1) := by decide +kernel
theorem dX12_keepsTold_196 : decode cX12_keepsTold 196 = .ok (.iload_n 1, 1) := by decide +kernel
theorem dX12_keepsTold_197 : decode cX12_keepsTold 197 = .ok (.bipush 64, 2) := by decide +kernel
theorem dX12_keepsTold_199 : decode cX12_keepsTold 199 = .ok (.if_icmp .ge 25, 3) := by decide +kernel
theorem dX12_keepsTold_202 : decode cX12_keepsTold 202 = .ok (.aload_n 0, 1) := by decide +kernel
theorem dX12_keepsTold_203 : decode cX12_keepsTold 203 = .ok (.getfield 62, 3) := by decide +kernel
theorem dX12_keepsTold_206 : decode cX12_keepsTold 206 = .ok (.iload_n 1, 1) := by decide +kernel
theorem dX12_keepsTold_207 : decode cX12_keepsTold 207 = .ok (.aload_n 0, 1) := by decide +kernel
theorem dX12_keepsTold_208 : decode cX12_keepsTold 208 = .ok (.aload_n 0, 1) := by decide +kernel
theorem dX12_keepsTold_209 : decode cX12_keepsTold 209 = .ok (.getfield 62, 3) := by decide +kernel
theorem dX12_keepsTold_212 : decode cX12_keepsTold 212 = .ok (.iload_n 1, 1) := by decide +kernel
theorem dX12_keepsTold_213 : decode cX12_keepsTold 213 = .ok (.iaload, 1) := by decide +kernel
theorem dX12_keepsTold_214 : decode cX12_keepsTold 214 = .ok (.invokevirtual 462, 3) := by decide +kernel
theorem dX12_keepsTold_217 : decode cX12_keepsTold 217 = .ok (.iastore, 1) := by decide +kernel
theorem dX12_keepsTold_218 : decode cX12_keepsTold 218 = .ok (.iinc 1 1, 3) := by decide +kernel
theorem dX12_keepsTold_221 : decode cX12_keepsTold 221 = .ok (.goto (-25), 3) := by decide +kernel
theorem dX12_keepsTold_224 : decode cX12_keepsTold 224 = .ok (.return_, 1) := by decide +kernel
theorem dX12_image_0 : decode cX12_image 0 = .ok (.aload_n 0, 1) := by decide +kernel
theorem dX12_image_1 : decode cX12_image 1 = .ok (.iconst 0, 1) := by decide +kernel
theorem dX12_image_2 : decode cX12_image 2 = .ok (.putfield 89, 3) := by decide +kernel
theorem dX12_image_5 : decode cX12_image 5 = .ok (.iload_n 1, 1) := by decide +kernel
theorem dX12_image_6 : decode cX12_image 6 = .ok (.ifCond .ne 12, 3) := by decide +kernel
theorem dX12_image_9 : decode cX12_image 9 = .ok (.aload_n 0, 1) := by decide +kernel
theorem dX12_image_10 : decode cX12_image 10 = .ok (.getfield 465, 3) := by decide +kernel
theorem dX12_image_13 : decode cX12_image 13 = .ok (.ifCond .ne 5, 3) := by decide +kernel
theorem dX12_image_16 : decode cX12_image 16 = .ok (.iconst 0, 1) := by decide +kernel
theorem dX12_image_17 : decode cX12_image 17 = .ok (.ireturn, 1) := by decide +kernel
theorem dX12_image_18 : decode cX12_image 18 = .ok (.aload_n 0, 1) := by decide +kernel
theorem dX12_image_19 : decode cX12_image 19 = .ok (.iload_n 1, 1) := by decide +kernel
theorem dX12_image_20 : decode cX12_image 20 = .ok (.putfield 459, 3) := by decide +kernel
theorem dX12_image_23 : decode cX12_image 23 = .ok (.aload_n 0, 1) := by decide +kernel
theorem dX12_image_24 : decode cX12_image 24 = .ok (.iconst 1, 1) := by decide +kernel
theorem dX12_image_25 : decode cX12_image 25 = .ok (.putfield 465, 3) := by decide +kernel
theorem dX12_image_28 : decode cX12_image 28 = .ok (.aload_n 0, 1) := by decide +kernel
theorem dX12_image_29 : decode cX12_image 29 = .ok (.iconst 0, 1) := by decide +kernel
theorem dX12_image_30 : decode cX12_image 30 = .ok (.putfield 456, 3) := by decide +kernel
theorem dX12_image_33 : decode cX12_image 33 = .ok (.iconst 0, 1) := by decide +kernel
theorem dX12_image_34 : decode cX12_image 34 = .ok (.istore_n 2, 1) := by decide +kernel
theorem dX12_image_35 : decode cX12_image 35 = .ok (.iload_n 2, 1) := by decide +kernel
theorem dX12_image_36 : decode cX12_image 36 = .ok (.bipush 107, 2) := by decide +kernel
theorem dX12_image_38 : decode cX12_image 38 = .ok (.if_icmp .ge 25, 3) := by decide +kernel
theorem dX12_image_41 : decode cX12_image 41 = .ok (.aload_n 0, 1) := by decide +kernel
theorem dX12_image_42 : decode cX12_image 42 = .ok (.getfield 7, 3) := by decide +kernel
theorem dX12_image_45 : decode cX12_image 45 = .ok (.iload_n 2, 1) := by decide +kernel
theorem dX12_image_46 : decode cX12_image 46 = .ok (.aload_n 0, 1) := by decide +kernel
theorem dX12_image_47 : decode cX12_image 47 = .ok (.aload_n 0, 1) := by decide +kernel
theorem dX12_image_48 : decode cX12_image 48 = .ok (.getfield 7, 3) := by decide +kernel
theorem dX12_image_51 : decode cX12_image 51 = .ok (.iload_n 2, 1) := by decide +kernel
theorem dX12_image_52 : decode cX12_image 52 = .ok (.iaload, 1) := by decide +kernel
theorem dX12_image_53 : decode cX12_image 53 = .ok (.invokevirtual 462, 3) := by decide +kernel
theorem dX12_image_56 : decode cX12_image 56 = .ok (.iastore, 1) := by decide +kernel
theorem dX12_image_57 : decode cX12_image 57 = .ok (.iinc 2 1, 3) := by decide +kernel
theorem dX12_image_60 : decode cX12_image 60 = .ok (.goto (-25), 3) := by decide +kernel
theorem dX12_image_63 : decode cX12_image 63 = .ok (.aload_n 0, 1) := by decide +kernel
theorem dX12_image_64 : decode cX12_image 64 = .ok (.invokevirtual 468, 3) := by decide +kernel
theorem dX12_image_67 : decode cX12_image 67 = .ok (.iconst 0, 1) := by decide +kernel
theorem dX12_image_68 : decode cX12_image 68 = .ok (.istore_n 2, 1) := by decide +kernel
theorem dX12_image_69 : decode cX12_image 69 = .ok (.iload_n 2, 1) := by decide +kernel
theorem dX12_image_70 : decode cX12_image 70 = .ok (.sipush 600, 3) := by decide +kernel
theorem dX12_image_73 : decode cX12_image 73 = .ok (.if_icmp .ge 25, 3) := by decide +kernel
theorem dX12_image_76 : decode cX12_image 76 = .ok (.aload_n 0, 1) := by decide +kernel
theorem dX12_image_77 : decode cX12_image 77 = .ok (.getfield 22, 3) := by decide +kernel
theorem dX12_image_80 : decode cX12_image 80 = .ok (.iload_n 2, 1) := by decide +kernel
theorem dX12_image_81 : decode cX12_image 81 = .ok (.aload_n 0, 1) := by decide +kernel
theorem dX12_image_82 : decode cX12_image 82 = .ok (.aload_n 0, 1) := by decide +kernel
theorem dX12_image_83 : decode cX12_image 83 = .ok (.getfield 22, 3) := by decide +kernel
theorem dX12_image_86 : decode cX12_image 86 = .ok (.iload_n 2, 1) := by decide +kernel
theorem dX12_image_87 : decode cX12_image 87 = .ok (.iaload, 1) := by decide +kernel
theorem dX12_image_88 : decode cX12_image 88 = .ok (.invokevirtual 462, 3) := by decide +kernel
theorem dX12_image_91 : decode cX12_image 91 = .ok (.iastore, 1) := by decide +kernel
theorem dX12_image_92 : decode cX12_image 92 = .ok (.iinc 2 1, 3) := by decide +kernel
theorem dX12_image_95 : decode cX12_image 95 = .ok (.goto (-26), 3) := by decide +kernel
theorem dX12_image_98 : decode cX12_image 98 = .ok (.aload_n 0, 1) := by decide +kernel
theorem dX12_image_99 : decode cX12_image 99 = .ok (.invokevirtual 471, 3) := by decide +kernel
theorem dX12_image_102 : decode cX12_image 102 = .ok (.iload_n 1, 1) := by decide +kernel
theorem dX12_image_103 : decode cX12_image 103 = .ok (.ifCond .ne 8, 3) := by decide +kernel
theorem dX12_image_106 : decode cX12_image 106 = .ok (.aload_n 0, 1) := by decide +kernel
theorem dX12_image_107 : decode cX12_image 107 = .ok (.iconst 0, 1) := by decide +kernel
theorem dX12_image_108 : decode cX12_image 108 = .ok (.putfield 92, 3) := by decide +kernel
theorem dX12_image_111 : decode cX12_image 111 = .ok (.iconst 1, 1) := by decide +kernel
theorem dX12_image_112 : decode cX12_image 112 = .ok (.ireturn, 1) := by decide +kernel
theorem dX12_look_0 : decode cX12_look 0 = .ok (.aload_n 0, 1) := by decide +kernel
theorem dX12_look_1 : decode cX12_look 1 = .ok (.iconst 0, 1) := by decide +kernel
theorem dX12_look_2 : decode cX12_look 2 = .ok (.putfield 89, 3) := by decide +kernel
theorem dX12_look_5 : decode cX12_look 5 = .ok (.iload_n 1, 1) := by decide +kernel
theorem dX12_look_6 : decode cX12_look 6 = .ok (.ifCond .ne 8, 3) := by decide +kernel
theorem dX12_look_9 : decode cX12_look 9 = .ok (.aload_n 0, 1) := by decide +kernel
theorem dX12_look_10 : decode cX12_look 10 = .ok (.getfield 101, 3) := by decide +kernel
theorem dX12_look_13 : decode cX12_look 13 = .ok (.ireturn, 1) := by decide +kernel
theorem dX12_look_14 : decode cX12_look 14 = .ok (.iload_n 1, 1) := by decide +kernel
theorem dX12_look_15 : decode cX12_look 15 = .ok (.iconst 1, 1) := by decide +kernel
theorem dX12_look_16 : decode cX12_look 16 = .ok (.if_icmp .ne 8, 3) := by decide +kernel
theorem dX12_look_19 : decode cX12_look 19 = .ok (.aload_n 0, 1) := by decide +kernel
theorem dX12_look_20 : decode cX12_look 20 = .ok (.getfield 104, 3) := by decide +kernel
theorem dX12_look_23 : decode cX12_look 23 = .ok (.ireturn, 1) := by decide +kernel
theorem dX12_look_24 : decode cX12_look 24 = .ok (.iload_n 1, 1) := by decide +kernel
theorem dX12_look_25 : decode cX12_look 25 = .ok (.iconst 2, 1) := by decide +kernel
theorem dX12_look_26 : decode cX12_look 26 = .ok (.if_icmp .ne 10, 3) := by decide +kernel
theorem dX12_look_29 : decode cX12_look 29 = .ok (.aload_n 0, 1) := by decide +kernel
theorem dX12_look_30 : decode cX12_look 30 = .ok (.getfield 7, 3) := by decide +kernel
theorem dX12_look_33 : decode cX12_look 33 = .ok (.iconst 0, 1) := by decide +kernel
theorem dX12_look_34 : decode cX12_look 34 = .ok (.iaload, 1) := by decide +kernel
theorem dX12_look_35 : decode cX12_look 35 = .ok (.ireturn, 1) := by decide +kernel
theorem dX12_look_36 : decode cX12_look 36 = .ok (.iload_n 1, 1) := by decide +kernel
theorem dX12_look_37 : decode cX12_look 37 = .ok (.iconst 3, 1) := by decide +kernel
theorem dX12_look_38 : decode cX12_look 38 = .ok (.if_icmp .ne 10, 3) := by decide +kernel
theorem dX12_look_41 : decode cX12_look 41 = .ok (.aload_n 0, 1) := by decide +kernel
theorem dX12_look_42 : decode cX12_look 42 = .ok (.getfield 7, 3) := by decide +kernel
theorem dX12_look_45 : decode cX12_look 45 = .ok (.iconst 3, 1) := by decide +kernel
theorem dX12_look_46 : decode cX12_look 46 = .ok (.iaload, 1) := by decide +kernel
theorem dX12_look_47 : decode cX12_look 47 = .ok (.ireturn, 1) := by decide +kernel
theorem dX12_look_48 : decode cX12_look 48 = .ok (.iload_n 1, 1) := by decide +kernel
theorem dX12_look_49 : decode cX12_look 49 = .ok (.iconst 4, 1) := by decide +kernel
theorem dX12_look_50 : decode cX12_look 50 = .ok (.if_icmp .ne 10, 3) := by decide +kernel
theorem dX12_look_53 : decode cX12_look 53 = .ok (.aload_n 0, 1) := by decide +kernel
theorem dX12_look_54 : decode cX12_look 54 = .ok (.getfield 7, 3) := by decide +kernel
theorem dX12_look_57 : decode cX12_look 57 = .ok (.iconst 4, 1) := by decide +kernel
theorem dX12_look_58 : decode cX12_look 58 = .ok (.iaload, 1) := by decide +kernel
theorem dX12_look_59 : decode cX12_look 59 = .ok (.ireturn, 1) := by decide +kernel
theorem dX12_look_60 : decode cX12_look 60 = .ok (.iload_n 1, 1) := by decide +kernel
theorem dX12_look_61 : decode cX12_look 61 = .ok (.iconst 5, 1) := by decide +kernel
theorem dX12_look_62 : decode cX12_look 62 = .ok (.if_icmp .ne 10, 3) := by decide +kernel
theorem dX12_look_65 : decode cX12_look 65 = .ok (.aload_n 0, 1) := by decide +kernel
theorem dX12_look_66 : decode cX12_look 66 = .ok (.getfield 7, 3) := by decide +kernel
theorem dX12_look_69 : decode cX12_look 69 = .ok (.iconst 5, 1) := by decide +kernel
theorem dX12_look_70 : decode cX12_look 70 = .ok (.iaload, 1) := by decide +kernel
theorem dX12_look_71 : decode cX12_look 71 = .ok (.ireturn, 1) := by decide +kernel
theorem dX12_look_72 : decode cX12_look 72 = .ok (.iload_n 1, 1) := by decide +kernel
theorem dX12_look_73 : decode cX12_look 73 = .ok (.bipush 6, 2) := by decide +kernel
theorem dX12_look_75 : decode cX12_look 75 = .ok (.if_icmp .ne 8, 3) := by decide +kernel
theorem dX12_look_78 : decode cX12_look 78 = .ok (.aload_n 0, 1) := by decide +kernel
theorem dX12_look_79 : decode cX12_look 79 = .ok (.invokevirtual 388, 3) := by decide +kernel
theorem dX12_look_82 : decode cX12_look 82 = .ok (.ireturn, 1) := by decide +kernel
theorem dX12_look_83 : decode cX12_look 83 = .ok (.iload_n 1, 1) := by decide +kernel
theorem dX12_look_84 : decode cX12_look 84 = .ok (.bipush 7, 2) := by decide +kernel
theorem dX12_look_86 : decode cX12_look 86 = .ok (.if_icmp .ne 11, 3) := by decide +kernel
theorem dX12_look_89 : decode cX12_look 89 = .ok (.aload_n 0, 1) := by decide +kernel
theorem dX12_look_90 : decode cX12_look 90 = .ok (.getfield 7, 3) := by decide +kernel
theorem dX12_look_93 : decode cX12_look 93 = .ok (.bipush 6, 2) := by decide +kernel
theorem dX12_look_95 : decode cX12_look 95 = .ok (.iaload, 1) := by decide +kernel
theorem dX12_look_96 : decode cX12_look 96 = .ok (.ireturn, 1) := by decide +kernel
theorem dX12_look_97 : decode cX12_look 97 = .ok (.iload_n 1, 1) := by decide +kernel
theorem dX12_look_98 : decode cX12_look 98 = .ok (.bipush 8, 2) := by decide +kernel
theorem dX12_look_100 : decode cX12_look 100 = .ok (.if_icmp .ne 10, 3) := by decide +kernel
theorem dX12_look_103 : decode cX12_look 103 = .ok (.aload_n 0, 1) := by decide +kernel
theorem dX12_look_104 : decode cX12_look 104 = .ok (.getfield 7, 3) := by decide +kernel
theorem dX12_look_107 : decode cX12_look 107 = .ok (.iconst 2, 1) := by decide +kernel
theorem dX12_look_108 : decode cX12_look 108 = .ok (.iaload, 1) := by decide +kernel
theorem dX12_look_109 : decode cX12_look 109 = .ok (.ireturn, 1) := by decide +kernel
theorem dX12_look_110 : decode cX12_look 110 = .ok (.iload_n 1, 1) := by decide +kernel
theorem dX12_look_111 : decode cX12_look 111 = .ok (.bipush 9, 2) := by decide +kernel
theorem dX12_look_113 : decode cX12_look 113 = .ok (.if_icmp .ne 10, 3) := by decide +kernel
theorem dX12_look_116 : decode cX12_look 116 = .ok (.aload_n 0, 1) := by decide +kernel
theorem dX12_look_117 : decode cX12_look 117 = .ok (.getfield 7, 3) := by decide +kernel
theorem dX12_look_120 : decode cX12_look 120 = .ok (.iconst 1, 1) := by decide +kernel
theorem dX12_look_121 : decode cX12_look 121 = .ok (.iaload, 1) := by decide +kernel
theorem dX12_look_122 : decode cX12_look 122 = .ok (.ireturn, 1) := by decide +kernel
theorem dX12_look_123 : decode cX12_look 123 = .ok (.iload_n 1, 1) := by decide +kernel
theorem dX12_look_124 : decode cX12_look 124 = .ok (.bipush 10, 2) := by decide +kernel
theorem dX12_look_126 : decode cX12_look 126 = .ok (.if_icmp .ne 10, 3) := by decide +kernel
theorem dX12_look_129 : decode cX12_look 129 = .ok (.aload_n 0, 1) := by decide +kernel
theorem dX12_look_130 : decode cX12_look 130 = .ok (.getfield 31, 3) := by decide +kernel
theorem dX12_look_133 : decode cX12_look 133 = .ok (.iconst 0, 1) := by decide +kernel
theorem dX12_look_134 : decode cX12_look 134 = .ok (.iaload, 1) := by decide +kernel
theorem dX12_look_135 : decode cX12_look 135 = .ok (.ireturn, 1) := by decide +kernel
theorem dX12_look_136 : decode cX12_look 136 = .ok (.iload_n 1, 1) := by decide +kernel
theorem dX12_look_137 : decode cX12_look 137 = .ok (.bipush 11, 2) := by decide +kernel
theorem dX12_look_139 : decode cX12_look 139 = .ok (.if_icmp .ne 8, 3) := by decide +kernel
theorem dX12_look_142 : decode cX12_look 142 = .ok (.aload_n 0, 1) := by decide +kernel
theorem dX12_look_143 : decode cX12_look 143 = .ok (.getfield 267, 3) := by decide +kernel
theorem dX12_look_146 : decode cX12_look 146 = .ok (.ireturn, 1) := by decide +kernel
theorem dX12_look_147 : decode cX12_look 147 = .ok (.iload_n 1, 1) := by decide +kernel
theorem dX12_look_148 : decode cX12_look 148 = .ok (.bipush 12, 2) := by decide +kernel
theorem dX12_look_150 : decode cX12_look 150 = .ok (.if_icmp .ne 8, 3) := by decide +kernel
theorem dX12_look_153 : decode cX12_look 153 = .ok (.aload_n 0, 1) := by decide +kernel
theorem dX12_look_154 : decode cX12_look 154 = .ok (.getfield 270, 3) := by decide +kernel
theorem dX12_look_157 : decode cX12_look 157 = .ok (.ireturn, 1) := by decide +kernel
theorem dX12_look_158 : decode cX12_look 158 = .ok (.iload_n 1, 1) := by decide +kernel
theorem dX12_look_159 : decode cX12_look 159 = .ok (.bipush 13, 2) := by decide +kernel
theorem dX12_look_161 : decode cX12_look 161 = .ok (.if_icmp .ne 8, 3) := by decide +kernel
theorem dX12_look_164 : decode cX12_look 164 = .ok (.aload_n 0, 1) := by decide +kernel
theorem dX12_look_165 : decode cX12_look 165 = .ok (.getfield 273, 3) := by decide +kernel
theorem dX12_look_168 : decode cX12_look 168 = .ok (.ireturn, 1) := by decide +kernel
theorem dX12_look_169 : decode cX12_look 169 = .ok (.iload_n 1, 1) := by decide +kernel
theorem dX12_look_170 : decode cX12_look 170 = .ok (.bipush 14, 2) := by decide +kernel
theorem dX12_look_172 : decode cX12_look 172 = .ok (.if_icmp .ne 8, 3) := by decide +kernel
theorem dX12_look_175 : decode cX12_look 175 = .ok (.aload_n 0, 1) := by decide +kernel
theorem dX12_look_176 : decode cX12_look 176 = .ok (.getfield 433, 3) := by decide +kernel
theorem dX12_look_179 : decode cX12_look 179 = .ok (.ireturn, 1) := by decide +kernel
theorem dX12_look_180 : decode cX12_look 180 = .ok (.iload_n 1, 1) := by decide +kernel
theorem dX12_look_181 : decode cX12_look 181 = .ok (.bipush 15, 2) := by decide +kernel
theorem dX12_look_183 : decode cX12_look 183 = .ok (.if_icmp .ne 10, 3) := by decide +kernel
theorem dX12_look_186 : decode cX12_look 186 = .ok (.aload_n 0, 1) := by decide +kernel
theorem dX12_look_187 : decode cX12_look 187 = .ok (.getfield 92, 3) := by decide +kernel
theorem dX12_look_190 : decode cX12_look 190 = .ok (.goto 4, 3) := by decide +kernel
theorem dX12_look_193 : decode cX12_look 193 = .ok (.iconst (-1), 1) := by decide +kernel
theorem dX12_look_194 : decode cX12_look 194 = .ok (.ireturn, 1) := by decide +kernel
theorem dJ6_bitCount_0f7a4_0 : decode cJ6_bitCount_0f7a4 0 = .ok (.iload_n 0, 1) := by decide +kernel
theorem dJ6_bitCount_0f7a4_1 : decode cJ6_bitCount_0f7a4 1 = .ok (.iload_n 0, 1) := by decide +kernel
theorem dJ6_bitCount_0f7a4_2 : decode cJ6_bitCount_0f7a4 2 = .ok (.iconst 1, 1) := by decide +kernel
theorem dJ6_bitCount_0f7a4_3 : decode cJ6_bitCount_0f7a4 3 = .ok (.iushr, 1) := by decide +kernel
theorem dJ6_bitCount_0f7a4_4 : decode cJ6_bitCount_0f7a4 4 = .ok (.ldc_w 265, 3) := by decide +kernel
theorem dJ6_bitCount_0f7a4_7 : decode cJ6_bitCount_0f7a4 7 = .ok (.iand, 1) := by decide +kernel
theorem dJ6_bitCount_0f7a4_8 : decode cJ6_bitCount_0f7a4 8 = .ok (.isub, 1) := by decide +kernel
theorem dJ6_bitCount_0f7a4_9 : decode cJ6_bitCount_0f7a4 9 = .ok (.istore_n 0, 1) := by decide +kernel
theorem dJ6_bitCount_0f7a4_10 : decode cJ6_bitCount_0f7a4 10 = .ok (.iload_n 0, 1) := by decide +kernel
theorem dJ6_bitCount_0f7a4_11 : decode cJ6_bitCount_0f7a4 11 = .ok (.ldc_w 266, 3) := by decide +kernel
theorem dJ6_bitCount_0f7a4_14 : decode cJ6_bitCount_0f7a4 14 = .ok (.iand, 1) := by decide +kernel
theorem dJ6_bitCount_0f7a4_15 : decode cJ6_bitCount_0f7a4 15 = .ok (.iload_n 0, 1) := by decide +kernel
theorem dJ6_bitCount_0f7a4_16 : decode cJ6_bitCount_0f7a4 16 = .ok (.iconst 2, 1) := by decide +kernel
theorem dJ6_bitCount_0f7a4_17 : decode cJ6_bitCount_0f7a4 17 = .ok (.iushr, 1) := by decide +kernel
theorem dJ6_bitCount_0f7a4_18 : decode cJ6_bitCount_0f7a4 18 = .ok (.ldc_w 266, 3) := by decide +kernel
theorem dJ6_bitCount_0f7a4_21 : decode cJ6_bitCount_0f7a4 21 = .ok (.iand, 1) := by decide +kernel
theorem dJ6_bitCount_0f7a4_22 : decode cJ6_bitCount_0f7a4 22 = .ok (.iadd, 1) := by decide +kernel
theorem dJ6_bitCount_0f7a4_23 : decode cJ6_bitCount_0f7a4 23 = .ok (.istore_n 0, 1) := by decide +kernel
theorem dJ6_bitCount_0f7a4_24 : decode cJ6_bitCount_0f7a4 24 = .ok (.iload_n 0, 1) := by decide +kernel
theorem dJ6_bitCount_0f7a4_25 : decode cJ6_bitCount_0f7a4 25 = .ok (.iload_n 0, 1) := by decide +kernel
theorem dJ6_bitCount_0f7a4_26 : decode cJ6_bitCount_0f7a4 26 = .ok (.iconst 4, 1) := by decide +kernel
theorem dJ6_bitCount_0f7a4_27 : decode cJ6_bitCount_0f7a4 27 = .ok (.iushr, 1) := by decide +kernel
theorem dJ6_bitCount_0f7a4_28 : decode cJ6_bitCount_0f7a4 28 = .ok (.iadd, 1) := by decide +kernel
theorem dJ6_bitCount_0f7a4_29 : decode cJ6_bitCount_0f7a4 29 = .ok (.ldc_w 267, 3) := by decide +kernel
theorem dJ6_bitCount_0f7a4_32 : decode cJ6_bitCount_0f7a4 32 = .ok (.iand, 1) := by decide +kernel
theorem dJ6_bitCount_0f7a4_33 : decode cJ6_bitCount_0f7a4 33 = .ok (.istore_n 0, 1) := by decide +kernel
theorem dJ6_bitCount_0f7a4_34 : decode cJ6_bitCount_0f7a4 34 = .ok (.iload_n 0, 1) := by decide +kernel
theorem dJ6_bitCount_0f7a4_35 : decode cJ6_bitCount_0f7a4 35 = .ok (.iload_n 0, 1) := by decide +kernel
theorem dJ6_bitCount_0f7a4_36 : decode cJ6_bitCount_0f7a4 36 = .ok (.bipush 8, 2) := by decide +kernel
theorem dJ6_bitCount_0f7a4_38 : decode cJ6_bitCount_0f7a4 38 = .ok (.iushr, 1) := by decide +kernel
theorem dJ6_bitCount_0f7a4_39 : decode cJ6_bitCount_0f7a4 39 = .ok (.iadd, 1) := by decide +kernel
theorem dJ6_bitCount_0f7a4_40 : decode cJ6_bitCount_0f7a4 40 = .ok (.istore_n 0, 1) := by decide +kernel
theorem dJ6_bitCount_0f7a4_41 : decode cJ6_bitCount_0f7a4 41 = .ok (.iload_n 0, 1) := by decide +kernel
theorem dJ6_bitCount_0f7a4_42 : decode cJ6_bitCount_0f7a4 42 = .ok (.iload_n 0, 1) := by decide +kernel
theorem dJ6_bitCount_0f7a4_43 : decode cJ6_bitCount_0f7a4 43 = .ok (.bipush 16, 2) := by decide +kernel
theorem dJ6_bitCount_0f7a4_45 : decode cJ6_bitCount_0f7a4 45 = .ok (.iushr, 1) := by decide +kernel
theorem dJ6_bitCount_0f7a4_46 : decode cJ6_bitCount_0f7a4 46 = .ok (.iadd, 1) := by decide +kernel
theorem dJ6_bitCount_0f7a4_47 : decode cJ6_bitCount_0f7a4 47 = .ok (.istore_n 0, 1) := by decide +kernel
theorem dJ6_bitCount_0f7a4_48 : decode cJ6_bitCount_0f7a4 48 = .ok (.iload_n 0, 1) := by decide +kernel
theorem dJ6_bitCount_0f7a4_49 : decode cJ6_bitCount_0f7a4 49 = .ok (.bipush 63, 2) := by decide +kernel
theorem dJ6_bitCount_0f7a4_51 : decode cJ6_bitCount_0f7a4 51 = .ok (.iand, 1) := by decide +kernel
theorem dJ6_bitCount_0f7a4_52 : decode cJ6_bitCount_0f7a4 52 = .ok (.ireturn, 1) := by decide +kernel
theorem dJ9_floorDiv_7cf53_0 : decode cJ9_floorDiv_7cf53 0 = .ok (.iload_n 0, 1) := by decide +kernel
theorem dJ9_floorDiv_7cf53_1 : decode cJ9_floorDiv_7cf53 1 = .ok (.iload_n 1, 1) := by decide +kernel
theorem dJ9_floorDiv_7cf53_2 : decode cJ9_floorDiv_7cf53 2 = .ok (.idiv, 1) := by decide +kernel
theorem dJ9_floorDiv_7cf53_3 : decode cJ9_floorDiv_7cf53 3 = .ok (.istore_n 2, 1) := by decide +kernel
theorem dJ9_floorDiv_7cf53_4 : decode cJ9_floorDiv_7cf53 4 = .ok (.iload_n 0, 1) := by decide +kernel
theorem dJ9_floorDiv_7cf53_5 : decode cJ9_floorDiv_7cf53 5 = .ok (.iload_n 1, 1) := by decide +kernel
theorem dJ9_floorDiv_7cf53_6 : decode cJ9_floorDiv_7cf53 6 = .ok (.ixor, 1) := by decide +kernel
theorem dJ9_floorDiv_7cf53_7 : decode cJ9_floorDiv_7cf53 7 = .ok (.ifCond .ge 14, 3) := by decide +kernel
theorem dJ9_floorDiv_7cf53_10 : decode cJ9_floorDiv_7cf53 10 = .ok (.iload_n 2, 1) := by decide +kernel
theorem dJ9_floorDiv_7cf53_11 : decode cJ9_floorDiv_7cf53 11 = .ok (.iload_n 1, 1) := by decide +kernel
theorem dJ9_floorDiv_7cf53_12 : decode cJ9_floorDiv_7cf53 12 = .ok (.imul, 1) := by decide +kernel
theorem dJ9_floorDiv_7cf53_13 : decode cJ9_floorDiv_7cf53 13 = .ok (.iload_n 0, 1) := by decide +kernel
theorem dJ9_floorDiv_7cf53_14 : decode cJ9_floorDiv_7cf53 14 = .ok (.if_icmp .eq 7, 3) := by decide +kernel
theorem dJ9_floorDiv_7cf53_17 : decode cJ9_floorDiv_7cf53 17 = .ok (.iload_n 2, 1) := by decide +kernel
theorem dJ9_floorDiv_7cf53_18 : decode cJ9_floorDiv_7cf53 18 = .ok (.iconst 1, 1) := by decide +kernel
theorem dJ9_floorDiv_7cf53_19 : decode cJ9_floorDiv_7cf53 19 = .ok (.isub, 1) := by decide +kernel
theorem dJ9_floorDiv_7cf53_20 : decode cJ9_floorDiv_7cf53 20 = .ok (.ireturn, 1) := by decide +kernel
theorem dJ9_floorDiv_7cf53_21 : decode cJ9_floorDiv_7cf53 21 = .ok (.iload_n 2, 1) := by decide +kernel
theorem dJ9_floorDiv_7cf53_22 : decode cJ9_floorDiv_7cf53 22 = .ok (.ireturn, 1) := by decide +kernel
theorem dJ9_abs_0f7a4_0 : decode cJ9_abs_0f7a4 0 = .ok (.iload_n 0, 1) := by decide +kernel
theorem dJ9_abs_0f7a4_1 : decode cJ9_abs_0f7a4 1 = .ok (.ifCond .ge 8, 3) := by decide +kernel
theorem dJ9_abs_0f7a4_4 : decode cJ9_abs_0f7a4 4 = .ok (.iload_n 0, 1) := by decide +kernel
theorem dJ9_abs_0f7a4_5 : decode cJ9_abs_0f7a4 5 = .ok (.ineg, 1) := by decide +kernel
theorem dJ9_abs_0f7a4_6 : decode cJ9_abs_0f7a4 6 = .ok (.goto 4, 3) := by decide +kernel
theorem dJ9_abs_0f7a4_9 : decode cJ9_abs_0f7a4 9 = .ok (.iload_n 0, 1) := by decide +kernel
theorem dJ9_abs_0f7a4_10 : decode cJ9_abs_0f7a4 10 = .ok (.ireturn, 1) := by decide +kernel
theorem dJ9_max_7cf53_0 : decode cJ9_max_7cf53 0 = .ok (.iload_n 0, 1) := by decide +kernel
theorem dJ9_max_7cf53_1 : decode cJ9_max_7cf53 1 = .ok (.iload_n 1, 1) := by decide +kernel
theorem dJ9_max_7cf53_2 : decode cJ9_max_7cf53 2 = .ok (.if_icmp .lt 7, 3) := by decide +kernel
theorem dJ9_max_7cf53_5 : decode cJ9_max_7cf53 5 = .ok (.iload_n 0, 1) := by decide +kernel
theorem dJ9_max_7cf53_6 : decode cJ9_max_7cf53 6 = .ok (.goto 4, 3) := by decide +kernel
theorem dJ9_max_7cf53_9 : decode cJ9_max_7cf53 9 = .ok (.iload_n 1, 1) := by decide +kernel
theorem dJ9_max_7cf53_10 : decode cJ9_max_7cf53 10 = .ok (.ireturn, 1) := by decide +kernel
theorem dJ9_min_7cf53_0 : decode cJ9_min_7cf53 0 = .ok (.iload_n 0, 1) := by decide +kernel
theorem dJ9_min_7cf53_1 : decode cJ9_min_7cf53 1 = .ok (.iload_n 1, 1) := by decide +kernel
theorem dJ9_min_7cf53_2 : decode cJ9_min_7cf53 2 = .ok (.if_icmp .gt 7, 3) := by decide +kernel
theorem dJ9_min_7cf53_5 : decode cJ9_min_7cf53 5 = .ok (.iload_n 0, 1) := by decide +kernel
theorem dJ9_min_7cf53_6 : decode cJ9_min_7cf53 6 = .ok (.goto 4, 3) := by decide +kernel
theorem dJ9_min_7cf53_9 : decode cJ9_min_7cf53 9 = .ok (.iload_n 1, 1) := by decide +kernel
theorem dJ9_min_7cf53_10 : decode cJ9_min_7cf53 10 = .ok (.ireturn, 1) := by decide +kernel
theorem dJ0_length_8abf5_0 : decode cJ0_length_8abf5 0 = .ok (.aload_n 0, 1) := by decide +kernel
theorem dJ0_length_8abf5_1 : decode cJ0_length_8abf5 1 = .ok (.getfield 9, 3) := by decide +kernel
theorem dJ0_length_8abf5_4 : decode cJ0_length_8abf5 4 = .ok (.arraylength, 1) := by decide +kernel
theorem dJ0_length_8abf5_5 : decode cJ0_length_8abf5 5 = .ok (.aload_n 0, 1) := by decide +kernel
theorem dJ0_length_8abf5_6 : decode cJ0_length_8abf5 6 = .ok (.invokevirtual 335, 3) := by decide +kernel
theorem dJ0_length_8abf5_9 : decode cJ0_length_8abf5 9 = .ok (.ishr, 1) := by decide +kernel
theorem dJ0_length_8abf5_10 : decode cJ0_length_8abf5 10 = .ok (.ireturn, 1) := by decide +kernel
theorem dJ0_charAt_5068e_0 : decode cJ0_charAt_5068e 0 = .ok (.aload_n 0, 1) := by decide +kernel
theorem dJ0_charAt_5068e_1 : decode cJ0_charAt_5068e 1 = .ok (.invokevirtual 492, 3) := by decide +kernel
theorem dJ0_charAt_5068e_4 : decode cJ0_charAt_5068e 4 = .ok (.ifCond .eq 12, 3) := by decide +kernel
theorem dJ0_charAt_5068e_7 : decode cJ0_charAt_5068e 7 = .ok (.aload_n 0, 1) := by decide +kernel
theorem dJ0_charAt_5068e_8 : decode cJ0_charAt_5068e 8 = .ok (.getfield 9, 3) := by decide +kernel
theorem dJ0_charAt_5068e_11 : decode cJ0_charAt_5068e 11 = .ok (.iload_n 1, 1) := by decide +kernel
theorem dJ0_charAt_5068e_12 : decode cJ0_charAt_5068e 12 = .ok (.invokestatic 495, 3) := by decide +kernel
theorem dJ0_charAt_5068e_15 : decode cJ0_charAt_5068e 15 = .ok (.ireturn, 1) := by decide +kernel
theorem dJ0_charAt_5068e_16 : decode cJ0_charAt_5068e 16 = .ok (.aload_n 0, 1) := by decide +kernel
theorem dJ0_charAt_5068e_17 : decode cJ0_charAt_5068e 17 = .ok (.getfield 9, 3) := by decide +kernel
theorem dJ0_charAt_5068e_20 : decode cJ0_charAt_5068e 20 = .ok (.iload_n 1, 1) := by decide +kernel
theorem dJ0_charAt_5068e_21 : decode cJ0_charAt_5068e 21 = .ok (.invokestatic 498, 3) := by decide +kernel
theorem dJ0_charAt_5068e_24 : decode cJ0_charAt_5068e 24 = .ok (.ireturn, 1) := by decide +kernel
theorem dJ0_coder_7d493_0 : decode cJ0_coder_7d493 0 = .ok (.getstatic 38, 3) := by decide +kernel
theorem dJ0_coder_7d493_3 : decode cJ0_coder_7d493 3 = .ok (.ifCond .eq 10, 3) := by decide +kernel
theorem dJ0_coder_7d493_6 : decode cJ0_coder_7d493 6 = .ok (.aload_n 0, 1) := by decide +kernel
theorem dJ0_coder_7d493_7 : decode cJ0_coder_7d493 7 = .ok (.getfield 15, 3) := by decide +kernel
theorem dJ0_coder_7d493_10 : decode cJ0_coder_7d493 10 = .ok (.goto 4, 3) := by decide +kernel
theorem dJ0_coder_7d493_13 : decode cJ0_coder_7d493 13 = .ok (.iconst 1, 1) := by decide +kernel
theorem dJ0_coder_7d493_14 : decode cJ0_coder_7d493 14 = .ok (.ireturn, 1) := by decide +kernel
theorem dJ0_isLatin1_aae02_0 : decode cJ0_isLatin1_aae02 0 = .ok (.getstatic 38, 3) := by decide +kernel
theorem dJ0_isLatin1_aae02_3 : decode cJ0_isLatin1_aae02 3 = .ok (.ifCond .eq 14, 3) := by decide +kernel
theorem dJ0_isLatin1_aae02_6 : decode cJ0_isLatin1_aae02 6 = .ok (.aload_n 0, 1) := by decide +kernel
theorem dJ0_isLatin1_aae02_7 : decode cJ0_isLatin1_aae02 7 = .ok (.getfield 15, 3) := by decide +kernel
theorem dJ0_isLatin1_aae02_10 : decode cJ0_isLatin1_aae02 10 = .ok (.ifCond .ne 7, 3) := by decide +kernel
theorem dJ0_isLatin1_aae02_13 : decode cJ0_isLatin1_aae02 13 = .ok (.iconst 1, 1) := by decide +kernel
theorem dJ0_isLatin1_aae02_14 : decode cJ0_isLatin1_aae02 14 = .ok (.goto 4, 3) := by decide +kernel
theorem dJ0_isLatin1_aae02_17 : decode cJ0_isLatin1_aae02 17 = .ok (.iconst 0, 1) := by decide +kernel
theorem dJ0_isLatin1_aae02_18 : decode cJ0_isLatin1_aae02 18 = .ok (.ireturn, 1) := by decide +kernel
theorem dJ0_checkIndex_df160_0 : decode cJ0_checkIndex_df160 0 = .ok (.iload_n 0, 1) := by decide +kernel
theorem dJ0_checkIndex_df160_1 : decode cJ0_checkIndex_df160 1 = .ok (.iload_n 1, 1) := by decide +kernel
theorem dJ0_checkIndex_df160_2 : decode cJ0_checkIndex_df160 2 = .ok (.getstatic 1053, 3) := by decide +kernel
theorem dJ0_checkIndex_df160_5 : decode cJ0_checkIndex_df160 5 = .ok (.invokestatic 1059, 3) := by decide +kernel
theorem dJ0_checkIndex_df160_8 : decode cJ0_checkIndex_df160 8 = .ok (.pop, 1) := by decide +kernel
theorem dJ0_checkIndex_df160_9 : decode cJ0_checkIndex_df160 9 = .ok (.return_, 1) := by decide +kernel
theorem dJ1_charAt_3b067_0 : decode cJ1_charAt_3b067 0 = .ok (.iload_n 1, 1) := by decide +kernel
theorem dJ1_charAt_3b067_1 : decode cJ1_charAt_3b067 1 = .ok (.aload_n 0, 1) := by decide +kernel
theorem dJ1_charAt_3b067_2 : decode cJ1_charAt_3b067 2 = .ok (.arraylength, 1) := by decide +kernel
theorem dJ1_charAt_3b067_3 : decode cJ1_charAt_3b067 3 = .ok (.invokestatic 9, 3) := by decide +kernel
theorem dJ1_charAt_3b067_6 : decode cJ1_charAt_3b067 6 = .ok (.aload_n 0, 1) := by decide +kernel
theorem dJ1_charAt_3b067_7 : decode cJ1_charAt_3b067 7 = .ok (.iload_n 1, 1) := by decide +kernel
theorem dJ1_charAt_3b067_8 : decode cJ1_charAt_3b067 8 = .ok (.baload, 1) := by decide +kernel
theorem dJ1_charAt_3b067_9 : decode cJ1_charAt_3b067 9 = .ok (.sipush 255, 3) := by decide +kernel
theorem dJ1_charAt_3b067_12 : decode cJ1_charAt_3b067 12 = .ok (.iand, 1) := by decide +kernel
theorem dJ1_charAt_3b067_13 : decode cJ1_charAt_3b067 13 = .ok (.i2c, 1) := by decide +kernel
theorem dJ1_charAt_3b067_14 : decode cJ1_charAt_3b067 14 = .ok (.ireturn, 1) := by decide +kernel
theorem dJ2_getChar_3b067_0 : decode cJ2_getChar_3b067 0 = .ok (.getstatic 44, 3) := by decide +kernel
theorem dJ2_getChar_3b067_3 : decode cJ2_getChar_3b067 3 = .ok (.ifCond .ne 25, 3) := by decide +kernel
theorem dJ2_getChar_3b067_6 : decode cJ2_getChar_3b067 6 = .ok (.iload_n 1, 1) := by decide +kernel
theorem dJ2_getChar_3b067_7 : decode cJ2_getChar_3b067 7 = .ok (.ifCond .lt 11, 3) := by decide +kernel
theorem dJ2_getChar_3b067_10 : decode cJ2_getChar_3b067 10 = .ok (.iload_n 1, 1) := by decide +kernel
theorem dJ2_getChar_3b067_11 : decode cJ2_getChar_3b067 11 = .ok (.aload_n 0, 1) := by decide +kernel
theorem dJ2_getChar_3b067_12 : decode cJ2_getChar_3b067 12 = .ok (.invokestatic 48, 3) := by decide +kernel
theorem dJ2_getChar_3b067_15 : decode cJ2_getChar_3b067 15 = .ok (.if_icmp .lt 13, 3) := by decide +kernel
theorem dJ2_getChar_3b067_18 : decode cJ2_getChar_3b067 18 = .ok (.new 52, 3) := by decide +kernel
theorem dJ2_getChar_3b067_21 : decode cJ2_getChar_3b067 21 = .ok (.dup, 1) := by decide +kernel
theorem dJ2_getChar_3b067_22 : decode cJ2_getChar_3b067 22 = .ok (.ldc 54, 2) := by decide +kernel
theorem dJ2_getChar_3b067_24 : decode cJ2_getChar_3b067 24 = .ok (.invokespecial 56, 3) := by decide +kernel
theorem dJ2_getChar_3b067_27 : decode cJ2_getChar_3b067 27 = .ok (.athrow, 1) := by decide +kernel
theorem dJ2_getChar_3b067_28 : decode cJ2_getChar_3b067 28 = .ok (.iload_n 1, 1) := by decide +kernel
theorem dJ2_getChar_3b067_29 : decode cJ2_getChar_3b067 29 = .ok (.iconst 1, 1) := by decide +kernel
theorem dJ2_getChar_3b067_30 : decode cJ2_getChar_3b067 30 = .ok (.ishl, 1) := by decide +kernel
theorem dJ2_getChar_3b067_31 : decode cJ2_getChar_3b067 31 = .ok (.istore_n 1, 1) := by decide +kernel
theorem dJ2_getChar_3b067_32 : decode cJ2_getChar_3b067 32 = .ok (.aload_n 0, 1) := by decide +kernel
theorem dJ2_getChar_3b067_33 : decode cJ2_getChar_3b067 33 = .ok (.iload_n 1, 1) := by decide +kernel
theorem dJ2_getChar_3b067_34 : decode cJ2_getChar_3b067 34 = .ok (.iinc 1 1, 3) := by decide +kernel
theorem dJ2_getChar_3b067_37 : decode cJ2_getChar_3b067 37 = .ok (.baload, 1) := by decide +kernel
theorem dJ2_getChar_3b067_38 : decode cJ2_getChar_3b067 38 = .ok (.sipush 255, 3) := by decide +kernel
theorem dJ2_getChar_3b067_41 : decode cJ2_getChar_3b067 41 = .ok (.iand, 1) := by decide +kernel
theorem dJ2_getChar_3b067_42 : decode cJ2_getChar_3b067 42 = .ok (.getstatic 59, 3) := by decide +kernel
theorem dJ2_getChar_3b067_45 : decode cJ2_getChar_3b067 45 = .ok (.ishl, 1) := by decide +kernel
theorem dJ2_getChar_3b067_46 : decode cJ2_getChar_3b067 46 = .ok (.aload_n 0, 1) := by decide +kernel
theorem dJ2_getChar_3b067_47 : decode cJ2_getChar_3b067 47 = .ok (.iload_n 1, 1) := by decide +kernel
theorem dJ2_getChar_3b067_48 : decode cJ2_getChar_3b067 48 = .ok (.baload, 1) := by decide +kernel
theorem dJ2_getChar_3b067_49 : decode cJ2_getChar_3b067 49 = .ok (.sipush 255, 3) := by decide +kernel
theorem dJ2_getChar_3b067_52 : decode cJ2_getChar_3b067 52 = .ok (.iand, 1) := by decide +kernel
theorem dJ2_getChar_3b067_53 : decode cJ2_getChar_3b067 53 = .ok (.getstatic 63, 3) := by decide +kernel
theorem dJ2_getChar_3b067_56 : decode cJ2_getChar_3b067 56 = .ok (.ishl, 1) := by decide +kernel
theorem dJ2_getChar_3b067_57 : decode cJ2_getChar_3b067 57 = .ok (.ior, 1) := by decide +kernel
theorem dJ2_getChar_3b067_58 : decode cJ2_getChar_3b067 58 = .ok (.i2c, 1) := by decide +kernel
theorem dJ2_getChar_3b067_59 : decode cJ2_getChar_3b067 59 = .ok (.ireturn, 1) := by decide +kernel
theorem dJ2_length_9d52b_0 : decode cJ2_length_9d52b 0 = .ok (.aload_n 0, 1) := by decide +kernel
theorem dJ2_length_9d52b_1 : decode cJ2_length_9d52b 1 = .ok (.arraylength, 1) := by decide +kernel
theorem dJ2_length_9d52b_2 : decode cJ2_length_9d52b 2 = .ok (.iconst 1, 1) := by decide +kernel
theorem dJ2_length_9d52b_3 : decode cJ2_length_9d52b 3 = .ok (.ishr, 1) := by decide +kernel
theorem dJ2_length_9d52b_4 : decode cJ2_length_9d52b 4 = .ok (.ireturn, 1) := by decide +kernel
theorem dJ2_charAt_3b067_0 : decode cJ2_charAt_3b067 0 = .ok (.iload_n 1, 1) := by decide +kernel
theorem dJ2_charAt_3b067_1 : decode cJ2_charAt_3b067 1 = .ok (.aload_n 0, 1) := by decide +kernel
theorem dJ2_charAt_3b067_2 : decode cJ2_charAt_3b067 2 = .ok (.invokestatic 67, 3) := by decide +kernel
theorem dJ2_charAt_3b067_5 : decode cJ2_charAt_3b067 5 = .ok (.aload_n 0, 1) := by decide +kernel
theorem dJ2_charAt_3b067_6 : decode cJ2_charAt_3b067 6 = .ok (.iload_n 1, 1) := by decide +kernel
theorem dJ2_charAt_3b067_7 : decode cJ2_charAt_3b067 7 = .ok (.invokestatic 71, 3) := by decide +kernel
theorem dJ2_charAt_3b067_10 : decode cJ2_charAt_3b067 10 = .ok (.ireturn, 1) := by decide +kernel
theorem dJ2_checkIndex_2214a_0 : decode cJ2_checkIndex_2214a 0 = .ok (.iload_n 0, 1) := by decide +kernel
theorem dJ2_checkIndex_2214a_1 : decode cJ2_checkIndex_2214a 1 = .ok (.aload_n 1, 1) := by decide +kernel
theorem dJ2_checkIndex_2214a_2 : decode cJ2_checkIndex_2214a 2 = .ok (.invokestatic 48, 3) := by decide +kernel
theorem dJ2_checkIndex_2214a_5 : decode cJ2_checkIndex_2214a 5 = .ok (.invokestatic 414, 3) := by decide +kernel
theorem dJ2_checkIndex_2214a_8 : decode cJ2_checkIndex_2214a 8 = .ok (.return_, 1) := by decide +kernel
theorem dJ7_fill_53178_0 : decode cJ7_fill_53178 0 = .ok (.iconst 0, 1) := by decide +kernel
theorem dJ7_fill_53178_1 : decode cJ7_fill_53178 1 = .ok (.istore_n 2, 1) := by decide +kernel
theorem dJ7_fill_53178_2 : decode cJ7_fill_53178 2 = .ok (.aload_n 0, 1) := by decide +kernel
theorem dJ7_fill_53178_3 : decode cJ7_fill_53178 3 = .ok (.arraylength, 1) := by decide +kernel
theorem dJ7_fill_53178_4 : decode cJ7_fill_53178 4 = .ok (.istore_n 3, 1) := by decide +kernel
theorem dJ7_fill_53178_5 : decode cJ7_fill_53178 5 = .ok (.iload_n 2, 1) := by decide +kernel
theorem dJ7_fill_53178_6 : decode cJ7_fill_53178 6 = .ok (.iload_n 3, 1) := by decide +kernel
theorem dJ7_fill_53178_7 : decode cJ7_fill_53178 7 = .ok (.if_icmp .ge 13, 3) := by decide +kernel
theorem dJ7_fill_53178_10 : decode cJ7_fill_53178 10 = .ok (.aload_n 0, 1) := by decide +kernel
theorem dJ7_fill_53178_11 : decode cJ7_fill_53178 11 = .ok (.iload_n 2, 1) := by decide +kernel
theorem dJ7_fill_53178_12 : decode cJ7_fill_53178 12 = .ok (.iload_n 1, 1) := by decide +kernel
theorem dJ7_fill_53178_13 : decode cJ7_fill_53178 13 = .ok (.iastore, 1) := by decide +kernel
theorem dJ7_fill_53178_14 : decode cJ7_fill_53178 14 = .ok (.iinc 2 1, 3) := by decide +kernel
theorem dJ7_fill_53178_17 : decode cJ7_fill_53178 17 = .ok (.goto (-12), 3) := by decide +kernel
theorem dJ7_fill_53178_20 : decode cJ7_fill_53178 20 = .ok (.return_, 1) := by decide +kernel
theorem dJ3_checkIndex_8e157_0 : decode cJ3_checkIndex_8e157 0 = .ok (.iload_n 0, 1) := by decide +kernel
theorem dJ3_checkIndex_8e157_1 : decode cJ3_checkIndex_8e157 1 = .ok (.ifCond .lt 8, 3) := by decide +kernel
theorem dJ3_checkIndex_8e157_4 : decode cJ3_checkIndex_8e157 4 = .ok (.iload_n 0, 1) := by decide +kernel
theorem dJ3_checkIndex_8e157_5 : decode cJ3_checkIndex_8e157 5 = .ok (.iload_n 1, 1) := by decide +kernel
theorem dJ3_checkIndex_8e157_6 : decode cJ3_checkIndex_8e157 6 = .ok (.if_icmp .lt 10, 3) := by decide +kernel
theorem dJ3_checkIndex_8e157_9 : decode cJ3_checkIndex_8e157 9 = .ok (.aload_n 2, 1) := by decide +kernel
theorem dJ3_checkIndex_8e157_10 : decode cJ3_checkIndex_8e157 10 = .ok (.iload_n 0, 1) := by decide +kernel
theorem dJ3_checkIndex_8e157_11 : decode cJ3_checkIndex_8e157 11 = .ok (.iload_n 1, 1) := by decide +kernel
theorem dJ3_checkIndex_8e157_12 : decode cJ3_checkIndex_8e157 12 = .ok (.invokestatic 95, 3) := by decide +kernel
theorem dJ3_checkIndex_8e157_15 : decode cJ3_checkIndex_8e157 15 = .ok (.athrow, 1) := by decide +kernel
theorem dJ3_checkIndex_8e157_16 : decode cJ3_checkIndex_8e157 16 = .ok (.iload_n 0, 1) := by decide +kernel
theorem dJ3_checkIndex_8e157_17 : decode cJ3_checkIndex_8e157 17 = .ok (.ireturn, 1) := by decide +kernel
theorem dL_law_0 : decode cL_law 0 = .ok (.new 7, 3) := by decide +kernel
theorem dL_law_3 : decode cL_law 3 = .ok (.dup, 1) := by decide +kernel
theorem dL_law_4 : decode cL_law 4 = .ok (.invokespecial 9, 3) := by decide +kernel
theorem dL_law_7 : decode cL_law 7 = .ok (.astore_n 1, 1) := by decide +kernel
theorem dL_law_8 : decode cL_law 8 = .ok (.new 10, 3) := by decide +kernel
theorem dL_law_11 : decode cL_law 11 = .ok (.dup, 1) := by decide +kernel
theorem dL_law_12 : decode cL_law 12 = .ok (.invokespecial 12, 3) := by decide +kernel
theorem dL_law_15 : decode cL_law 15 = .ok (.astore_n 2, 1) := by decide +kernel
theorem dL_law_16 : decode cL_law 16 = .ok (.iconst 0, 1) := by decide +kernel
theorem dL_law_17 : decode cL_law 17 = .ok (.istore_n 3, 1) := by decide +kernel
theorem dL_law_18 : decode cL_law 18 = .ok (.iload_n 3, 1) := by decide +kernel
theorem dL_law_19 : decode cL_law 19 = .ok (.aload_n 0, 1) := by decide +kernel
theorem dL_law_20 : decode cL_law 20 = .ok (.arraylength, 1) := by decide +kernel
theorem dL_law_21 : decode cL_law 21 = .ok (.bipush 6, 2) := by decide +kernel
theorem dL_law_23 : decode cL_law 23 = .ok (.isub, 1) := by decide +kernel
theorem dL_law_24 : decode cL_law 24 = .ok (.if_icmp .gt 1120, 3) := by decide +kernel
theorem dL_law_27 : decode cL_law 27 = .ok (.aload_n 0, 1) := by decide +kernel
theorem dL_law_28 : decode cL_law 28 = .ok (.iload_n 3, 1) := by decide +kernel
theorem dL_law_29 : decode cL_law 29 = .ok (.iaload, 1) := by decide +kernel
theorem dL_law_30 : decode cL_law 30 = .ok (.bipush 31, 2) := by decide +kernel
theorem dL_law_32 : decode cL_law 32 = .ok (.iand, 1) := by decide +kernel
theorem dL_law_33 : decode cL_law 33 = .ok (.tableswitch 1105 0 31 #[143, 166, 189, 232, 275, 318, 341, 404, 427, 450, 473, 506, 539, 562, 595, 628, 641, 664, 697, 720, 743, 766, 799, 822, 855, 888, 911, 954, 1007, 1030, 1043, 1082], 143) := by decide +kernel
theorem dL_law_176 : decode cL_law 176 = .ok (.aload_n 1, 1) := by decide +kernel
theorem dL_law_177 : decode cL_law 177 = .ok (.aload_n 0, 1) := by decide +kernel
theorem dL_law_178 : decode cL_law 178 = .ok (.iload_n 3, 1) := by decide +kernel
theorem dL_law_179 : decode cL_law 179 = .ok (.iconst 1, 1) := by decide +kernel
theorem dL_law_180 : decode cL_law 180 = .ok (.iadd, 1) := by decide +kernel
theorem dL_law_181 : decode cL_law 181 = .ok (.iaload, 1) := by decide +kernel
theorem dL_law_182 : decode cL_law 182 = .ok (.invokevirtual 13, 3) := by decide +kernel
theorem dL_law_185 : decode cL_law 185 = .ok (.aload_n 2, 1) := by decide +kernel
theorem dL_law_186 : decode cL_law 186 = .ok (.aload_n 0, 1) := by decide +kernel
theorem dL_law_187 : decode cL_law 187 = .ok (.iload_n 3, 1) := by decide +kernel
theorem dL_law_188 : decode cL_law 188 = .ok (.iconst 1, 1) := by decide +kernel
theorem dL_law_189 : decode cL_law 189 = .ok (.iadd, 1) := by decide +kernel
theorem dL_law_190 : decode cL_law 190 = .ok (.iaload, 1) := by decide +kernel
theorem dL_law_191 : decode cL_law 191 = .ok (.invokevirtual 17, 3) := by decide +kernel
theorem dL_law_194 : decode cL_law 194 = .ok (.if_icmp .eq 944, 3) := by decide +kernel
theorem dL_law_197 : decode cL_law 197 = .ok (.iconst 0, 1) := by decide +kernel
theorem dL_law_198 : decode cL_law 198 = .ok (.ireturn, 1) := by decide +kernel
theorem dL_law_199 : decode cL_law 199 = .ok (.aload_n 1, 1) := by decide +kernel
theorem dL_law_200 : decode cL_law 200 = .ok (.aload_n 0, 1) := by decide +kernel
theorem dL_law_201 : decode cL_law 201 = .ok (.iload_n 3, 1) := by decide +kernel
theorem dL_law_202 : decode cL_law 202 = .ok (.iconst 1, 1) := by decide +kernel
theorem dL_law_203 : decode cL_law 203 = .ok (.iadd, 1) := by decide +kernel
theorem dL_law_204 : decode cL_law 204 = .ok (.iaload, 1) := by decide +kernel
theorem dL_law_205 : decode cL_law 205 = .ok (.invokevirtual 18, 3) := by decide +kernel
theorem dL_law_208 : decode cL_law 208 = .ok (.aload_n 2, 1) := by decide +kernel
theorem dL_law_209 : decode cL_law 209 = .ok (.aload_n 0, 1) := by decide +kernel
theorem dL_law_210 : decode cL_law 210 = .ok (.iload_n 3, 1) := by decide +kernel
theorem dL_law_211 : decode cL_law 211 = .ok (.iconst 1, 1) := by decide +kernel
theorem dL_law_212 : decode cL_law 212 = .ok (.iadd, 1) := by decide +kernel
theorem dL_law_213 : decode cL_law 213 = .ok (.iaload, 1) := by decide +kernel
theorem dL_law_214 : decode cL_law 214 = .ok (.invokevirtual 21, 3) := by decide +kernel
theorem dL_law_217 : decode cL_law 217 = .ok (.if_icmp .eq 921, 3) := by decide +kernel
theorem dL_law_220 : decode cL_law 220 = .ok (.iconst 0, 1) := by decide +kernel
theorem dL_law_221 : decode cL_law 221 = .ok (.ireturn, 1) := by decide +kernel
theorem dL_law_222 : decode cL_law 222 = .ok (.aload_n 1, 1) := by decide +kernel
theorem dL_law_223 : decode cL_law 223 = .ok (.aload_n 0, 1) := by decide +kernel
theorem dL_law_224 : decode cL_law 224 = .ok (.iload_n 3, 1) := by decide +kernel
theorem dL_law_225 : decode cL_law 225 = .ok (.iconst 1, 1) := by decide +kernel
theorem dL_law_226 : decode cL_law 226 = .ok (.iadd, 1) := by decide +kernel
theorem dL_law_227 : decode cL_law 227 = .ok (.iaload, 1) := by decide +kernel
theorem dL_law_228 : decode cL_law 228 = .ok (.aload_n 0, 1) := by decide +kernel
theorem dL_law_229 : decode cL_law 229 = .ok (.iload_n 3, 1) := by decide +kernel
theorem dL_law_230 : decode cL_law 230 = .ok (.iconst 2, 1) := by decide +kernel
theorem dL_law_231 : decode cL_law 231 = .ok (.iadd, 1) := by decide +kernel
theorem dL_law_232 : decode cL_law 232 = .ok (.iaload, 1) := by decide +kernel
theorem dL_law_233 : decode cL_law 233 = .ok (.aload_n 0, 1) := by decide +kernel
theorem dL_law_234 : decode cL_law 234 = .ok (.iload_n 3, 1) := by decide +kernel
theorem dL_law_235 : decode cL_law 235 = .ok (.iconst 3, 1) := by decide +kernel
theorem dL_law_236 : decode cL_law 236 = .ok (.iadd, 1) := by decide +kernel
theorem dL_law_237 : decode cL_law 237 = .ok (.iaload, 1) := by decide +kernel
theorem dL_law_238 : decode cL_law 238 = .ok (.invokevirtual 22, 3) := by decide +kernel
theorem dL_law_241 : decode cL_law 241 = .ok (.aload_n 2, 1) := by decide +kernel
theorem dL_law_242 : decode cL_law 242 = .ok (.aload_n 0, 1) := by decide +kernel
theorem dL_law_243 : decode cL_law 243 = .ok (.iload_n 3, 1) := by decide +kernel
theorem dL_law_244 : decode cL_law 244 = .ok (.iconst 1, 1) := by decide +kernel
theorem dL_law_245 : decode cL_law 245 = .ok (.iadd, 1) := by decide +kernel
theorem dL_law_246 : decode cL_law 246 = .ok (.iaload, 1) := by decide +kernel
theorem dL_law_247 : decode cL_law 247 = .ok (.aload_n 0, 1) := by decide +kernel
theorem dL_law_248 : decode cL_law 248 = .ok (.iload_n 3, 1) := by decide +kernel
theorem dL_law_249 : decode cL_law 249 = .ok (.iconst 2, 1) := by decide +kernel
theorem dL_law_250 : decode cL_law 250 = .ok (.iadd, 1) := by decide +kernel
theorem dL_law_251 : decode cL_law 251 = .ok (.iaload, 1) := by decide +kernel
theorem dL_law_252 : decode cL_law 252 = .ok (.aload_n 0, 1) := by decide +kernel
theorem dL_law_253 : decode cL_law 253 = .ok (.iload_n 3, 1) := by decide +kernel
theorem dL_law_254 : decode cL_law 254 = .ok (.iconst 3, 1) := by decide +kernel
theorem dL_law_255 : decode cL_law 255 = .ok (.iadd, 1) := by decide +kernel
theorem dL_law_256 : decode cL_law 256 = .ok (.iaload, 1) := by decide +kernel
theorem dL_law_257 : decode cL_law 257 = .ok (.invokevirtual 26, 3) := by decide +kernel
theorem dL_law_260 : decode cL_law 260 = .ok (.if_icmp .eq 878, 3) := by decide +kernel
theorem dL_law_263 : decode cL_law 263 = .ok (.iconst 0, 1) := by decide +kernel
theorem dL_law_264 : decode cL_law 264 = .ok (.ireturn, 1) := by decide +kernel
theorem dL_law_265 : decode cL_law 265 = .ok (.aload_n 1, 1) := by decide +kernel
theorem dL_law_266 : decode cL_law 266 = .ok (.aload_n 0, 1) := by decide +kernel
theorem dL_law_267 : decode cL_law 267 = .ok (.iload_n 3, 1) := by decide +kernel
theorem dL_law_268 : decode cL_law 268 = .ok (.iconst 1, 1) := by decide +kernel
theorem dL_law_269 : decode cL_law 269 = .ok (.iadd, 1) := by decide +kernel
theorem dL_law_270 : decode cL_law 270 = .ok (.iaload, 1) := by decide +kernel
theorem dL_law_271 : decode cL_law 271 = .ok (.aload_n 0, 1) := by decide +kernel
theorem dL_law_272 : decode cL_law 272 = .ok (.iload_n 3, 1) := by decide +kernel
theorem dL_law_273 : decode cL_law 273 = .ok (.iconst 2, 1) := by decide +kernel
theorem dL_law_274 : decode cL_law 274 = .ok (.iadd, 1) := by decide +kernel
theorem dL_law_275 : decode cL_law 275 = .ok (.iaload, 1) := by decide +kernel
theorem dL_law_276 : decode cL_law 276 = .ok (.aload_n 0, 1) := by decide +kernel
theorem dL_law_277 : decode cL_law 277 = .ok (.iload_n 3, 1) := by decide +kernel
theorem dL_law_278 : decode cL_law 278 = .ok (.iconst 3, 1) := by decide +kernel
theorem dL_law_279 : decode cL_law 279 = .ok (.iadd, 1) := by decide +kernel
theorem dL_law_280 : decode cL_law 280 = .ok (.iaload, 1) := by decide +kernel
theorem dL_law_281 : decode cL_law 281 = .ok (.invokevirtual 27, 3) := by decide +kernel
theorem dL_law_284 : decode cL_law 284 = .ok (.aload_n 2, 1) := by decide +kernel
theorem dL_law_285 : decode cL_law 285 = .ok (.aload_n 0, 1) := by decide +kernel
theorem dL_law_286 : decode cL_law 286 = .ok (.iload_n 3, 1) := by decide +kernel
theorem dL_law_287 : decode cL_law 287 = .ok (.iconst 1, 1) := by decide +kernel
theorem dL_law_288 : decode cL_law 288 = .ok (.iadd, 1) := by decide +kernel
theorem dL_law_289 : decode cL_law 289 = .ok (.iaload, 1) := by decide +kernel
theorem dL_law_290 : decode cL_law 290 = .ok (.aload_n 0, 1) := by decide +kernel
theorem dL_law_291 : decode cL_law 291 = .ok (.iload_n 3, 1) := by decide +kernel
theorem dL_law_292 : decode cL_law 292 = .ok (.iconst 2, 1) := by decide +kernel
theorem dL_law_293 : decode cL_law 293 = .ok (.iadd, 1) := by decide +kernel
theorem dL_law_294 : decode cL_law 294 = .ok (.iaload, 1) := by decide +kernel
theorem dL_law_295 : decode cL_law 295 = .ok (.aload_n 0, 1) := by decide +kernel
theorem dL_law_296 : decode cL_law 296 = .ok (.iload_n 3, 1) := by decide +kernel
theorem dL_law_297 : decode cL_law 297 = .ok (.iconst 3, 1) := by decide +kernel
theorem dL_law_298 : decode cL_law 298 = .ok (.iadd, 1) := by decide +kernel
theorem dL_law_299 : decode cL_law 299 = .ok (.iaload, 1) := by decide +kernel
theorem dL_law_300 : decode cL_law 300 = .ok (.invokevirtual 31, 3) := by decide +kernel
theorem dL_law_303 : decode cL_law 303 = .ok (.if_icmp .eq 835, 3) := by decide +kernel
theorem dL_law_306 : decode cL_law 306 = .ok (.iconst 0, 1) := by decide +kernel
theorem dL_law_307 : decode cL_law 307 = .ok (.ireturn, 1) := by decide +kernel
theorem dL_law_308 : decode cL_law 308 = .ok (.aload_n 1, 1) := by decide +kernel
theorem dL_law_309 : decode cL_law 309 = .ok (.aload_n 0, 1) := by decide +kernel
theorem dL_law_310 : decode cL_law 310 = .ok (.iload_n 3, 1) := by decide +kernel
theorem dL_law_311 : decode cL_law 311 = .ok (.iconst 1, 1) := by decide +kernel
theorem dL_law_312 : decode cL_law 312 = .ok (.iadd, 1) := by decide +kernel
theorem dL_law_313 : decode cL_law 313 = .ok (.iaload, 1) := by decide +kernel
theorem dL_law_314 : decode cL_law 314 = .ok (.aload_n 0, 1) := by decide +kernel
theorem dL_law_315 : decode cL_law 315 = .ok (.iload_n 3, 1) := by decide +kernel
theorem dL_law_316 : decode cL_law 316 = .ok (.iconst 2, 1) := by decide +kernel
theorem dL_law_317 : decode cL_law 317 = .ok (.iadd, 1) := by decide +kernel
theorem dL_law_318 : decode cL_law 318 = .ok (.iaload, 1) := by decide +kernel
theorem dL_law_319 : decode cL_law 319 = .ok (.aload_n 0, 1) := by decide +kernel
theorem dL_law_320 : decode cL_law 320 = .ok (.iload_n 3, 1) := by decide +kernel
theorem dL_law_321 : decode cL_law 321 = .ok (.iconst 3, 1) := by decide +kernel
theorem dL_law_322 : decode cL_law 322 = .ok (.iadd, 1) := by decide +kernel
theorem dL_law_323 : decode cL_law 323 = .ok (.iaload, 1) := by decide +kernel
theorem dL_law_324 : decode cL_law 324 = .ok (.invokevirtual 32, 3) := by decide +kernel
theorem dL_law_327 : decode cL_law 327 = .ok (.aload_n 2, 1) := by decide +kernel
theorem dL_law_328 : decode cL_law 328 = .ok (.aload_n 0, 1) := by decide +kernel
theorem dL_law_329 : decode cL_law 329 = .ok (.iload_n 3, 1) := by decide +kernel
theorem dL_law_330 : decode cL_law 330 = .ok (.iconst 1, 1) := by decide +kernel
theorem dL_law_331 : decode cL_law 331 = .ok (.iadd, 1) := by decide +kernel
theorem dL_law_332 : decode cL_law 332 = .ok (.iaload, 1) := by decide +kernel
theorem dL_law_333 : decode cL_law 333 = .ok (.aload_n 0, 1) := by decide +kernel
theorem dL_law_334 : decode cL_law 334 = .ok (.iload_n 3, 1) := by decide +kernel
theorem dL_law_335 : decode cL_law 335 = .ok (.iconst 2, 1) := by decide +kernel
theorem dL_law_336 : decode cL_law 336 = .ok (.iadd, 1) := by decide +kernel
theorem dL_law_337 : decode cL_law 337 = .ok (.iaload, 1) := by decide +kernel
theorem dL_law_338 : decode cL_law 338 = .ok (.aload_n 0, 1) := by decide +kernel
theorem dL_law_339 : decode cL_law 339 = .ok (.iload_n 3, 1) := by decide +kernel
theorem dL_law_340 : decode cL_law 340 = .ok (.iconst 3, 1) := by decide +kernel
theorem dL_law_341 : decode cL_law 341 = .ok (.iadd, 1) := by decide +kernel
theorem dL_law_342 : decode cL_law 342 = .ok (.iaload, 1) := by decide +kernel
theorem dL_law_343 : decode cL_law 343 = .ok (.invokevirtual 35, 3) := by decide +kernel
theorem dL_law_346 : decode cL_law 346 = .ok (.if_icmp .eq 792, 3) := by decide +kernel
theorem dL_law_349 : decode cL_law 349 = .ok (.iconst 0, 1) := by decide +kernel
theorem dL_law_350 : decode cL_law 350 = .ok (.ireturn, 1) := by decide +kernel
theorem dL_law_351 : decode cL_law 351 = .ok (.aload_n 1, 1) := by decide +kernel
theorem dL_law_352 : decode cL_law 352 = .ok (.aload_n 0, 1) := by decide +kernel
theorem dL_law_353 : decode cL_law 353 = .ok (.iload_n 3, 1) := by decide +kernel
theorem dL_law_354 : decode cL_law 354 = .ok (.iconst 1, 1) := by decide +kernel
theorem dL_law_355 : decode cL_law 355 = .ok (.iadd, 1) := by decide +kernel
theorem dL_law_356 : decode cL_law 356 = .ok (.iaload, 1) := by decide +kernel
theorem dL_law_357 : decode cL_law 357 = .ok (.invokevirtual 36, 3) := by decide +kernel
theorem dL_law_360 : decode cL_law 360 = .ok (.aload_n 2, 1) := by decide +kernel
theorem dL_law_361 : decode cL_law 361 = .ok (.aload_n 0, 1) := by decide +kernel
theorem dL_law_362 : decode cL_law 362 = .ok (.iload_n 3, 1) := by decide +kernel
theorem dL_law_363 : decode cL_law 363 = .ok (.iconst 1, 1) := by decide +kernel
theorem dL_law_364 : decode cL_law 364 = .ok (.iadd, 1) := by decide +kernel
theorem dL_law_365 : decode cL_law 365 = .ok (.iaload, 1) := by decide +kernel
theorem dL_law_366 : decode cL_law 366 = .ok (.invokevirtual 39, 3) := by decide +kernel
theorem dL_law_369 : decode cL_law 369 = .ok (.if_icmp .eq 769, 3) := by decide +kernel
theorem dL_law_372 : decode cL_law 372 = .ok (.iconst 0, 1) := by decide +kernel
theorem dL_law_373 : decode cL_law 373 = .ok (.ireturn, 1) := by decide +kernel
theorem dL_law_374 : decode cL_law 374 = .ok (.aload_n 1, 1) := by decide +kernel
theorem dL_law_375 : decode cL_law 375 = .ok (.aload_n 0, 1) := by decide +kernel
theorem dL_law_376 : decode cL_law 376 = .ok (.iload_n 3, 1) := by decide +kernel
theorem dL_law_377 : decode cL_law 377 = .ok (.iconst 1, 1) := by decide +kernel
theorem dL_law_378 : decode cL_law 378 = .ok (.iadd, 1) := by decide +kernel
theorem dL_law_379 : decode cL_law 379 = .ok (.iaload, 1) := by decide +kernel
theorem dL_law_380 : decode cL_law 380 = .ok (.aload_n 0, 1) := by decide +kernel
theorem dL_law_381 : decode cL_law 381 = .ok (.iload_n 3, 1) := by decide +kernel
theorem dL_law_382 : decode cL_law 382 = .ok (.iconst 2, 1) := by decide +kernel
theorem dL_law_383 : decode cL_law 383 = .ok (.iadd, 1) := by decide +kernel
theorem dL_law_384 : decode cL_law 384 = .ok (.iaload, 1) := by decide +kernel
theorem dL_law_385 : decode cL_law 385 = .ok (.aload_n 0, 1) := by decide +kernel
theorem dL_law_386 : decode cL_law 386 = .ok (.iload_n 3, 1) := by decide +kernel
theorem dL_law_387 : decode cL_law 387 = .ok (.iconst 3, 1) := by decide +kernel
theorem dL_law_388 : decode cL_law 388 = .ok (.iadd, 1) := by decide +kernel
theorem dL_law_389 : decode cL_law 389 = .ok (.iaload, 1) := by decide +kernel
theorem dL_law_390 : decode cL_law 390 = .ok (.aload_n 0, 1) := by decide +kernel
theorem dL_law_391 : decode cL_law 391 = .ok (.iload_n 3, 1) := by decide +kernel
theorem dL_law_392 : decode cL_law 392 = .ok (.iconst 4, 1) := by decide +kernel
theorem dL_law_393 : decode cL_law 393 = .ok (.iadd, 1) := by decide +kernel
theorem dL_law_394 : decode cL_law 394 = .ok (.iaload, 1) := by decide +kernel
theorem dL_law_395 : decode cL_law 395 = .ok (.aload_n 0, 1) := by decide +kernel
theorem dL_law_396 : decode cL_law 396 = .ok (.iload_n 3, 1) := by decide +kernel
theorem dL_law_397 : decode cL_law 397 = .ok (.iconst 5, 1) := by decide +kernel
theorem dL_law_398 : decode cL_law 398 = .ok (.iadd, 1) := by decide +kernel
theorem dL_law_399 : decode cL_law 399 = .ok (.iaload, 1) := by decide +kernel
theorem dL_law_400 : decode cL_law 400 = .ok (.invokevirtual 40, 3) := by decide +kernel
theorem dL_law_403 : decode cL_law 403 = .ok (.aload_n 2, 1) := by decide +kernel
theorem dL_law_404 : decode cL_law 404 = .ok (.aload_n 0, 1) := by decide +kernel
theorem dL_law_405 : decode cL_law 405 = .ok (.iload_n 3, 1) := by decide +kernel
theorem dL_law_406 : decode cL_law 406 = .ok (.iconst 1, 1) := by decide +kernel
theorem dL_law_407 : decode cL_law 407 = .ok (.iadd, 1) := by decide +kernel
theorem dL_law_408 : decode cL_law 408 = .ok (.iaload, 1) := by decide +kernel
theorem dL_law_409 : decode cL_law 409 = .ok (.aload_n 0, 1) := by decide +kernel
theorem dL_law_410 : decode cL_law 410 = .ok (.iload_n 3, 1) := by decide +kernel
theorem dL_law_411 : decode cL_law 411 = .ok (.iconst 2, 1) := by decide +kernel
theorem dL_law_412 : decode cL_law 412 = .ok (.iadd, 1) := by decide +kernel
theorem dL_law_413 : decode cL_law 413 = .ok (.iaload, 1) := by decide +kernel
theorem dL_law_414 : decode cL_law 414 = .ok (.aload_n 0, 1) := by decide +kernel
theorem dL_law_415 : decode cL_law 415 = .ok (.iload_n 3, 1) := by decide +kernel
theorem dL_law_416 : decode cL_law 416 = .ok (.iconst 3, 1) := by decide +kernel
theorem dL_law_417 : decode cL_law 417 = .ok (.iadd, 1) := by decide +kernel
theorem dL_law_418 : decode cL_law 418 = .ok (.iaload, 1) := by decide +kernel
theorem dL_law_419 : decode cL_law 419 = .ok (.aload_n 0, 1) := by decide +kernel
theorem dL_law_420 : decode cL_law 420 = .ok (.iload_n 3, 1) := by decide +kernel
theorem dL_law_421 : decode cL_law 421 = .ok (.iconst 4, 1) := by decide +kernel
theorem dL_law_422 : decode cL_law 422 = .ok (.iadd, 1) := by decide +kernel
theorem dL_law_423 : decode cL_law 423 = .ok (.iaload, 1) := by decide +kernel
theorem dL_law_424 : decode cL_law 424 = .ok (.aload_n 0, 1) := by decide +kernel
theorem dL_law_425 : decode cL_law 425 = .ok (.iload_n 3, 1) := by decide +kernel
theorem dL_law_426 : decode cL_law 426 = .ok (.iconst 5, 1) := by decide +kernel
theorem dL_law_427 : decode cL_law 427 = .ok (.iadd, 1) := by decide +kernel
theorem dL_law_428 : decode cL_law 428 = .ok (.iaload, 1) := by decide +kernel
theorem dL_law_429 : decode cL_law 429 = .ok (.invokevirtual 44, 3) := by decide +kernel
theorem dL_law_432 : decode cL_law 432 = .ok (.if_icmp .eq 706, 3) := by decide +kernel
theorem dL_law_435 : decode cL_law 435 = .ok (.iconst 0, 1) := by decide +kernel
theorem dL_law_436 : decode cL_law 436 = .ok (.ireturn, 1) := by decide +kernel
theorem dL_law_437 : decode cL_law 437 = .ok (.aload_n 1, 1) := by decide +kernel
theorem dL_law_438 : decode cL_law 438 = .ok (.aload_n 0, 1) := by decide +kernel
theorem dL_law_439 : decode cL_law 439 = .ok (.iload_n 3, 1) := by decide +kernel
theorem dL_law_440 : decode cL_law 440 = .ok (.iconst 1, 1) := by decide +kernel
theorem dL_law_441 : decode cL_law 441 = .ok (.iadd, 1) := by decide +kernel
theorem dL_law_442 : decode cL_law 442 = .ok (.iaload, 1) := by decide +kernel
theorem dL_law_443 : decode cL_law 443 = .ok (.invokevirtual 45, 3) := by decide +kernel
theorem dL_law_446 : decode cL_law 446 = .ok (.aload_n 2, 1) := by decide +kernel
theorem dL_law_447 : decode cL_law 447 = .ok (.aload_n 0, 1) := by decide +kernel
theorem dL_law_448 : decode cL_law 448 = .ok (.iload_n 3, 1) := by decide +kernel
theorem dL_law_449 : decode cL_law 449 = .ok (.iconst 1, 1) := by decide +kernel
theorem dL_law_450 : decode cL_law 450 = .ok (.iadd, 1) := by decide +kernel
theorem dL_law_451 : decode cL_law 451 = .ok (.iaload, 1) := by decide +kernel
theorem dL_law_452 : decode cL_law 452 = .ok (.invokevirtual 49, 3) := by decide +kernel
theorem dL_law_455 : decode cL_law 455 = .ok (.if_icmp .eq 683, 3) := by decide +kernel
theorem dL_law_458 : decode cL_law 458 = .ok (.iconst 0, 1) := by decide +kernel
theorem dL_law_459 : decode cL_law 459 = .ok (.ireturn, 1) := by decide +kernel
theorem dL_law_460 : decode cL_law 460 = .ok (.aload_n 1, 1) := by decide +kernel
theorem dL_law_461 : decode cL_law 461 = .ok (.aload_n 0, 1) := by decide +kernel
theorem dL_law_462 : decode cL_law 462 = .ok (.iload_n 3, 1) := by decide +kernel
theorem dL_law_463 : decode cL_law 463 = .ok (.iconst 1, 1) := by decide +kernel
theorem dL_law_464 : decode cL_law 464 = .ok (.iadd, 1) := by decide +kernel
theorem dL_law_465 : decode cL_law 465 = .ok (.iaload, 1) := by decide +kernel
theorem dL_law_466 : decode cL_law 466 = .ok (.invokevirtual 50, 3) := by decide +kernel
theorem dL_law_469 : decode cL_law 469 = .ok (.aload_n 2, 1) := by decide +kernel
theorem dL_law_470 : decode cL_law 470 = .ok (.aload_n 0, 1) := by decide +kernel
theorem dL_law_471 : decode cL_law 471 = .ok (.iload_n 3, 1) := by decide +kernel
theorem dL_law_472 : decode cL_law 472 = .ok (.iconst 1, 1) := by decide +kernel
theorem dL_law_473 : decode cL_law 473 = .ok (.iadd, 1) := by decide +kernel
theorem dL_law_474 : decode cL_law 474 = .ok (.iaload, 1) := by decide +kernel
theorem dL_law_475 : decode cL_law 475 = .ok (.invokevirtual 53, 3) := by decide +kernel
theorem dL_law_478 : decode cL_law 478 = .ok (.if_icmp .eq 660, 3) := by decide +kernel
theorem dL_law_481 : decode cL_law 481 = .ok (.iconst 0, 1) := by decide +kernel
theorem dL_law_482 : decode cL_law 482 = .ok (.ireturn, 1) := by decide +kernel
theorem dL_law_483 : decode cL_law 483 = .ok (.aload_n 1, 1) := by decide +kernel
theorem dL_law_484 : decode cL_law 484 = .ok (.aload_n 0, 1) := by decide +kernel
theorem dL_law_485 : decode cL_law 485 = .ok (.iload_n 3, 1) := by decide +kernel
theorem dL_law_486 : decode cL_law 486 = .ok (.iconst 1, 1) := by decide +kernel
theorem dL_law_487 : decode cL_law 487 = .ok (.iadd, 1) := by decide +kernel
theorem dL_law_488 : decode cL_law 488 = .ok (.iaload, 1) := by decide +kernel
theorem dL_law_489 : decode cL_law 489 = .ok (.invokevirtual 54, 3) := by decide +kernel
theorem dL_law_492 : decode cL_law 492 = .ok (.aload_n 2, 1) := by decide +kernel
theorem dL_law_493 : decode cL_law 493 = .ok (.aload_n 0, 1) := by decide +kernel
theorem dL_law_494 : decode cL_law 494 = .ok (.iload_n 3, 1) := by decide +kernel
theorem dL_law_495 : decode cL_law 495 = .ok (.iconst 1, 1) := by decide +kernel
theorem dL_law_496 : decode cL_law 496 = .ok (.iadd, 1) := by decide +kernel
theorem dL_law_497 : decode cL_law 497 = .ok (.iaload, 1) := by decide +kernel
theorem dL_law_498 : decode cL_law 498 = .ok (.invokevirtual 57, 3) := by decide +kernel
theorem dL_law_501 : decode cL_law 501 = .ok (.if_icmp .eq 637, 3) := by decide +kernel
theorem dL_law_504 : decode cL_law 504 = .ok (.iconst 0, 1) := by decide +kernel
theorem dL_law_505 : decode cL_law 505 = .ok (.ireturn, 1) := by decide +kernel
theorem dL_law_506 : decode cL_law 506 = .ok (.aload_n 1, 1) := by decide +kernel
theorem dL_law_507 : decode cL_law 507 = .ok (.aload_n 0, 1) := by decide +kernel
theorem dL_law_508 : decode cL_law 508 = .ok (.iload_n 3, 1) := by decide +kernel
theorem dL_law_509 : decode cL_law 509 = .ok (.iconst 1, 1) := by decide +kernel
theorem dL_law_510 : decode cL_law 510 = .ok (.iadd, 1) := by decide +kernel
theorem dL_law_511 : decode cL_law 511 = .ok (.iaload, 1) := by decide +kernel
theorem dL_law_512 : decode cL_law 512 = .ok (.aload_n 0, 1) := by decide +kernel
theorem dL_law_513 : decode cL_law 513 = .ok (.iload_n 3, 1) := by decide +kernel
theorem dL_law_514 : decode cL_law 514 = .ok (.iconst 2, 1) := by decide +kernel
theorem dL_law_515 : decode cL_law 515 = .ok (.iadd, 1) := by decide +kernel
theorem dL_law_516 : decode cL_law 516 = .ok (.iaload, 1) := by decide +kernel
theorem dL_law_517 : decode cL_law 517 = .ok (.invokevirtual 58, 3) := by decide +kernel
theorem dL_law_520 : decode cL_law 520 = .ok (.aload_n 2, 1) := by decide +kernel
theorem dL_law_521 : decode cL_law 521 = .ok (.aload_n 0, 1) := by decide +kernel
theorem dL_law_522 : decode cL_law 522 = .ok (.iload_n 3, 1) := by decide +kernel
theorem dL_law_523 : decode cL_law 523 = .ok (.iconst 1, 1) := by decide +kernel
theorem dL_law_524 : decode cL_law 524 = .ok (.iadd, 1) := by decide +kernel
theorem dL_law_525 : decode cL_law 525 = .ok (.iaload, 1) := by decide +kernel
theorem dL_law_526 : decode cL_law 526 = .ok (.aload_n 0, 1) := by decide +kernel
theorem dL_law_527 : decode cL_law 527 = .ok (.iload_n 3, 1) := by decide +kernel
theorem dL_law_528 : decode cL_law 528 = .ok (.iconst 2, 1) := by decide +kernel
theorem dL_law_529 : decode cL_law 529 = .ok (.iadd, 1) := by decide +kernel
theorem dL_law_530 : decode cL_law 530 = .ok (.iaload, 1) := by decide +kernel
theorem dL_law_531 : decode cL_law 531 = .ok (.invokevirtual 62, 3) := by decide +kernel
theorem dL_law_534 : decode cL_law 534 = .ok (.if_icmp .eq 604, 3) := by decide +kernel
theorem dL_law_537 : decode cL_law 537 = .ok (.iconst 0, 1) := by decide +kernel
theorem dL_law_538 : decode cL_law 538 = .ok (.ireturn, 1) := by decide +kernel
theorem dL_law_539 : decode cL_law 539 = .ok (.aload_n 1, 1) := by decide +kernel
theorem dL_law_540 : decode cL_law 540 = .ok (.aload_n 0, 1) := by decide +kernel
theorem dL_law_541 : decode cL_law 541 = .ok (.iload_n 3, 1) := by decide +kernel
theorem dL_law_542 : decode cL_law 542 = .ok (.iconst 1, 1) := by decide +kernel
theorem dL_law_543 : decode cL_law 543 = .ok (.iadd, 1) := by decide +kernel
theorem dL_law_544 : decode cL_law 544 = .ok (.iaload, 1) := by decide +kernel
theorem dL_law_545 : decode cL_law 545 = .ok (.aload_n 0, 1) := by decide +kernel
theorem dL_law_546 : decode cL_law 546 = .ok (.iload_n 3, 1) := by decide +kernel
theorem dL_law_547 : decode cL_law 547 = .ok (.iconst 2, 1) := by decide +kernel
theorem dL_law_548 : decode cL_law 548 = .ok (.iadd, 1) := by decide +kernel
theorem dL_law_549 : decode cL_law 549 = .ok (.iaload, 1) := by decide +kernel
theorem dL_law_550 : decode cL_law 550 = .ok (.invokevirtual 63, 3) := by decide +kernel
theorem dL_law_553 : decode cL_law 553 = .ok (.aload_n 2, 1) := by decide +kernel
theorem dL_law_554 : decode cL_law 554 = .ok (.aload_n 0, 1) := by decide +kernel
theorem dL_law_555 : decode cL_law 555 = .ok (.iload_n 3, 1) := by decide +kernel
theorem dL_law_556 : decode cL_law 556 = .ok (.iconst 1, 1) := by decide +kernel
theorem dL_law_557 : decode cL_law 557 = .ok (.iadd, 1) := by decide +kernel
theorem dL_law_558 : decode cL_law 558 = .ok (.iaload, 1) := by decide +kernel
theorem dL_law_559 : decode cL_law 559 = .ok (.aload_n 0, 1) := by decide +kernel
theorem dL_law_560 : decode cL_law 560 = .ok (.iload_n 3, 1) := by decide +kernel
theorem dL_law_561 : decode cL_law 561 = .ok (.iconst 2, 1) := by decide +kernel
theorem dL_law_562 : decode cL_law 562 = .ok (.iadd, 1) := by decide +kernel
theorem dL_law_563 : decode cL_law 563 = .ok (.iaload, 1) := by decide +kernel
theorem dL_law_564 : decode cL_law 564 = .ok (.invokevirtual 66, 3) := by decide +kernel
theorem dL_law_567 : decode cL_law 567 = .ok (.if_icmp .eq 571, 3) := by decide +kernel
theorem dL_law_570 : decode cL_law 570 = .ok (.iconst 0, 1) := by decide +kernel
theorem dL_law_571 : decode cL_law 571 = .ok (.ireturn, 1) := by decide +kernel
theorem dL_law_572 : decode cL_law 572 = .ok (.aload_n 1, 1) := by decide +kernel
theorem dL_law_573 : decode cL_law 573 = .ok (.aload_n 0, 1) := by decide +kernel
theorem dL_law_574 : decode cL_law 574 = .ok (.iload_n 3, 1) := by decide +kernel
theorem dL_law_575 : decode cL_law 575 = .ok (.iconst 1, 1) := by decide +kernel
theorem dL_law_576 : decode cL_law 576 = .ok (.iadd, 1) := by decide +kernel
theorem dL_law_577 : decode cL_law 577 = .ok (.iaload, 1) := by decide +kernel
theorem dL_law_578 : decode cL_law 578 = .ok (.invokevirtual 67, 3) := by decide +kernel
theorem dL_law_581 : decode cL_law 581 = .ok (.aload_n 2, 1) := by decide +kernel
theorem dL_law_582 : decode cL_law 582 = .ok (.aload_n 0, 1) := by decide +kernel
theorem dL_law_583 : decode cL_law 583 = .ok (.iload_n 3, 1) := by decide +kernel
theorem dL_law_584 : decode cL_law 584 = .ok (.iconst 1, 1) := by decide +kernel
theorem dL_law_585 : decode cL_law 585 = .ok (.iadd, 1) := by decide +kernel
theorem dL_law_586 : decode cL_law 586 = .ok (.iaload, 1) := by decide +kernel
theorem dL_law_587 : decode cL_law 587 = .ok (.invokevirtual 70, 3) := by decide +kernel
theorem dL_law_590 : decode cL_law 590 = .ok (.if_icmp .eq 548, 3) := by decide +kernel
theorem dL_law_593 : decode cL_law 593 = .ok (.iconst 0, 1) := by decide +kernel
theorem dL_law_594 : decode cL_law 594 = .ok (.ireturn, 1) := by decide +kernel
theorem dL_law_595 : decode cL_law 595 = .ok (.aload_n 1, 1) := by decide +kernel
theorem dL_law_596 : decode cL_law 596 = .ok (.aload_n 0, 1) := by decide +kernel
theorem dL_law_597 : decode cL_law 597 = .ok (.iload_n 3, 1) := by decide +kernel
theorem dL_law_598 : decode cL_law 598 = .ok (.iconst 1, 1) := by decide +kernel
theorem dL_law_599 : decode cL_law 599 = .ok (.iadd, 1) := by decide +kernel
theorem dL_law_600 : decode cL_law 600 = .ok (.iaload, 1) := by decide +kernel
theorem dL_law_601 : decode cL_law 601 = .ok (.aload_n 0, 1) := by decide +kernel
theorem dL_law_602 : decode cL_law 602 = .ok (.iload_n 3, 1) := by decide +kernel
theorem dL_law_603 : decode cL_law 603 = .ok (.iconst 2, 1) := by decide +kernel
theorem dL_law_604 : decode cL_law 604 = .ok (.iadd, 1) := by decide +kernel
theorem dL_law_605 : decode cL_law 605 = .ok (.iaload, 1) := by decide +kernel
theorem dL_law_606 : decode cL_law 606 = .ok (.invokevirtual 71, 3) := by decide +kernel
theorem dL_law_609 : decode cL_law 609 = .ok (.aload_n 2, 1) := by decide +kernel
theorem dL_law_610 : decode cL_law 610 = .ok (.aload_n 0, 1) := by decide +kernel
theorem dL_law_611 : decode cL_law 611 = .ok (.iload_n 3, 1) := by decide +kernel
theorem dL_law_612 : decode cL_law 612 = .ok (.iconst 1, 1) := by decide +kernel
theorem dL_law_613 : decode cL_law 613 = .ok (.iadd, 1) := by decide +kernel
theorem dL_law_614 : decode cL_law 614 = .ok (.iaload, 1) := by decide +kernel
theorem dL_law_615 : decode cL_law 615 = .ok (.aload_n 0, 1) := by decide +kernel
theorem dL_law_616 : decode cL_law 616 = .ok (.iload_n 3, 1) := by decide +kernel
theorem dL_law_617 : decode cL_law 617 = .ok (.iconst 2, 1) := by decide +kernel
theorem dL_law_618 : decode cL_law 618 = .ok (.iadd, 1) := by decide +kernel
theorem dL_law_619 : decode cL_law 619 = .ok (.iaload, 1) := by decide +kernel
theorem dL_law_620 : decode cL_law 620 = .ok (.invokevirtual 74, 3) := by decide +kernel
theorem dL_law_623 : decode cL_law 623 = .ok (.if_icmp .eq 515, 3) := by decide +kernel
theorem dL_law_626 : decode cL_law 626 = .ok (.iconst 0, 1) := by decide +kernel
theorem dL_law_627 : decode cL_law 627 = .ok (.ireturn, 1) := by decide +kernel
theorem dL_law_628 : decode cL_law 628 = .ok (.aload_n 1, 1) := by decide +kernel
theorem dL_law_629 : decode cL_law 629 = .ok (.aload_n 0, 1) := by decide +kernel
theorem dL_law_630 : decode cL_law 630 = .ok (.iload_n 3, 1) := by decide +kernel
theorem dL_law_631 : decode cL_law 631 = .ok (.iconst 1, 1) := by decide +kernel
theorem dL_law_632 : decode cL_law 632 = .ok (.iadd, 1) := by decide +kernel
theorem dL_law_633 : decode cL_law 633 = .ok (.iaload, 1) := by decide +kernel
theorem dL_law_634 : decode cL_law 634 = .ok (.aload_n 0, 1) := by decide +kernel
theorem dL_law_635 : decode cL_law 635 = .ok (.iload_n 3, 1) := by decide +kernel
theorem dL_law_636 : decode cL_law 636 = .ok (.iconst 2, 1) := by decide +kernel
theorem dL_law_637 : decode cL_law 637 = .ok (.iadd, 1) := by decide +kernel
theorem dL_law_638 : decode cL_law 638 = .ok (.iaload, 1) := by decide +kernel
theorem dL_law_639 : decode cL_law 639 = .ok (.invokevirtual 75, 3) := by decide +kernel
theorem dL_law_642 : decode cL_law 642 = .ok (.aload_n 2, 1) := by decide +kernel
theorem dL_law_643 : decode cL_law 643 = .ok (.aload_n 0, 1) := by decide +kernel
theorem dL_law_644 : decode cL_law 644 = .ok (.iload_n 3, 1) := by decide +kernel
theorem dL_law_645 : decode cL_law 645 = .ok (.iconst 1, 1) := by decide +kernel
theorem dL_law_646 : decode cL_law 646 = .ok (.iadd, 1) := by decide +kernel
theorem dL_law_647 : decode cL_law 647 = .ok (.iaload, 1) := by decide +kernel
theorem dL_law_648 : decode cL_law 648 = .ok (.aload_n 0, 1) := by decide +kernel
theorem dL_law_649 : decode cL_law 649 = .ok (.iload_n 3, 1) := by decide +kernel
theorem dL_law_650 : decode cL_law 650 = .ok (.iconst 2, 1) := by decide +kernel
theorem dL_law_651 : decode cL_law 651 = .ok (.iadd, 1) := by decide +kernel
theorem dL_law_652 : decode cL_law 652 = .ok (.iaload, 1) := by decide +kernel
theorem dL_law_653 : decode cL_law 653 = .ok (.invokevirtual 78, 3) := by decide +kernel
theorem dL_law_656 : decode cL_law 656 = .ok (.if_icmp .eq 482, 3) := by decide +kernel
theorem dL_law_659 : decode cL_law 659 = .ok (.iconst 0, 1) := by decide +kernel
theorem dL_law_660 : decode cL_law 660 = .ok (.ireturn, 1) := by decide +kernel
theorem dL_law_661 : decode cL_law 661 = .ok (.aload_n 1, 1) := by decide +kernel
theorem dL_law_662 : decode cL_law 662 = .ok (.invokevirtual 79, 3) := by decide +kernel
theorem dL_law_665 : decode cL_law 665 = .ok (.aload_n 2, 1) := by decide +kernel
theorem dL_law_666 : decode cL_law 666 = .ok (.invokevirtual 83, 3) := by decide +kernel
theorem dL_law_669 : decode cL_law 669 = .ok (.if_icmp .eq 469, 3) := by decide +kernel
theorem dL_law_672 : decode cL_law 672 = .ok (.iconst 0, 1) := by decide +kernel
theorem dL_law_673 : decode cL_law 673 = .ok (.ireturn, 1) := by decide +kernel
theorem dL_law_674 : decode cL_law 674 = .ok (.aload_n 1, 1) := by decide +kernel
theorem dL_law_675 : decode cL_law 675 = .ok (.aload_n 0, 1) := by decide +kernel
theorem dL_law_676 : decode cL_law 676 = .ok (.iload_n 3, 1) := by decide +kernel
theorem dL_law_677 : decode cL_law 677 = .ok (.iconst 1, 1) := by decide +kernel
theorem dL_law_678 : decode cL_law 678 = .ok (.iadd, 1) := by decide +kernel
theorem dL_law_679 : decode cL_law 679 = .ok (.iaload, 1) := by decide +kernel
theorem dL_law_680 : decode cL_law 680 = .ok (.invokevirtual 84, 3) := by decide +kernel
theorem dL_law_683 : decode cL_law 683 = .ok (.aload_n 2, 1) := by decide +kernel
theorem dL_law_684 : decode cL_law 684 = .ok (.aload_n 0, 1) := by decide +kernel
theorem dL_law_685 : decode cL_law 685 = .ok (.iload_n 3, 1) := by decide +kernel
theorem dL_law_686 : decode cL_law 686 = .ok (.iconst 1, 1) := by decide +kernel
theorem dL_law_687 : decode cL_law 687 = .ok (.iadd, 1) := by decide +kernel
theorem dL_law_688 : decode cL_law 688 = .ok (.iaload, 1) := by decide +kernel
theorem dL_law_689 : decode cL_law 689 = .ok (.invokevirtual 87, 3) := by decide +kernel
theorem dL_law_692 : decode cL_law 692 = .ok (.if_icmp .eq 446, 3) := by decide +kernel
theorem dL_law_695 : decode cL_law 695 = .ok (.iconst 0, 1) := by decide +kernel
theorem dL_law_696 : decode cL_law 696 = .ok (.ireturn, 1) := by decide +kernel
theorem dL_law_697 : decode cL_law 697 = .ok (.aload_n 1, 1) := by decide +kernel
theorem dL_law_698 : decode cL_law 698 = .ok (.aload_n 0, 1) := by decide +kernel
theorem dL_law_699 : decode cL_law 699 = .ok (.iload_n 3, 1) := by decide +kernel
theorem dL_law_700 : decode cL_law 700 = .ok (.iconst 1, 1) := by decide +kernel
theorem dL_law_701 : decode cL_law 701 = .ok (.iadd, 1) := by decide +kernel
theorem dL_law_702 : decode cL_law 702 = .ok (.iaload, 1) := by decide +kernel
theorem dL_law_703 : decode cL_law 703 = .ok (.aload_n 0, 1) := by decide +kernel
theorem dL_law_704 : decode cL_law 704 = .ok (.iload_n 3, 1) := by decide +kernel
theorem dL_law_705 : decode cL_law 705 = .ok (.iconst 2, 1) := by decide +kernel
theorem dL_law_706 : decode cL_law 706 = .ok (.iadd, 1) := by decide +kernel
theorem dL_law_707 : decode cL_law 707 = .ok (.iaload, 1) := by decide +kernel
theorem dL_law_708 : decode cL_law 708 = .ok (.invokevirtual 88, 3) := by decide +kernel
theorem dL_law_711 : decode cL_law 711 = .ok (.aload_n 2, 1) := by decide +kernel
theorem dL_law_712 : decode cL_law 712 = .ok (.aload_n 0, 1) := by decide +kernel
theorem dL_law_713 : decode cL_law 713 = .ok (.iload_n 3, 1) := by decide +kernel
theorem dL_law_714 : decode cL_law 714 = .ok (.iconst 1, 1) := by decide +kernel
theorem dL_law_715 : decode cL_law 715 = .ok (.iadd, 1) := by decide +kernel
theorem dL_law_716 : decode cL_law 716 = .ok (.iaload, 1) := by decide +kernel
theorem dL_law_717 : decode cL_law 717 = .ok (.aload_n 0, 1) := by decide +kernel
theorem dL_law_718 : decode cL_law 718 = .ok (.iload_n 3, 1) := by decide +kernel
theorem dL_law_719 : decode cL_law 719 = .ok (.iconst 2, 1) := by decide +kernel
theorem dL_law_720 : decode cL_law 720 = .ok (.iadd, 1) := by decide +kernel
theorem dL_law_721 : decode cL_law 721 = .ok (.iaload, 1) := by decide +kernel
theorem dL_law_722 : decode cL_law 722 = .ok (.invokevirtual 91, 3) := by decide +kernel
theorem dL_law_725 : decode cL_law 725 = .ok (.if_icmp .eq 413, 3) := by decide +kernel
theorem dL_law_728 : decode cL_law 728 = .ok (.iconst 0, 1) := by decide +kernel
theorem dL_law_729 : decode cL_law 729 = .ok (.ireturn, 1) := by decide +kernel
theorem dL_law_730 : decode cL_law 730 = .ok (.aload_n 1, 1) := by decide +kernel
theorem dL_law_731 : decode cL_law 731 = .ok (.aload_n 0, 1) := by decide +kernel
theorem dL_law_732 : decode cL_law 732 = .ok (.iload_n 3, 1) := by decide +kernel
theorem dL_law_733 : decode cL_law 733 = .ok (.iconst 1, 1) := by decide +kernel
theorem dL_law_734 : decode cL_law 734 = .ok (.iadd, 1) := by decide +kernel
theorem dL_law_735 : decode cL_law 735 = .ok (.iaload, 1) := by decide +kernel
theorem dL_law_736 : decode cL_law 736 = .ok (.invokevirtual 92, 3) := by decide +kernel
theorem dL_law_739 : decode cL_law 739 = .ok (.aload_n 2, 1) := by decide +kernel
theorem dL_law_740 : decode cL_law 740 = .ok (.aload_n 0, 1) := by decide +kernel
theorem dL_law_741 : decode cL_law 741 = .ok (.iload_n 3, 1) := by decide +kernel
theorem dL_law_742 : decode cL_law 742 = .ok (.iconst 1, 1) := by decide +kernel
theorem dL_law_743 : decode cL_law 743 = .ok (.iadd, 1) := by decide +kernel
theorem dL_law_744 : decode cL_law 744 = .ok (.iaload, 1) := by decide +kernel
theorem dL_law_745 : decode cL_law 745 = .ok (.invokevirtual 95, 3) := by decide +kernel
theorem dL_law_748 : decode cL_law 748 = .ok (.if_icmp .eq 390, 3) := by decide +kernel
theorem dL_law_751 : decode cL_law 751 = .ok (.iconst 0, 1) := by decide +kernel
theorem dL_law_752 : decode cL_law 752 = .ok (.ireturn, 1) := by decide +kernel
theorem dL_law_753 : decode cL_law 753 = .ok (.aload_n 1, 1) := by decide +kernel
theorem dL_law_754 : decode cL_law 754 = .ok (.aload_n 0, 1) := by decide +kernel
theorem dL_law_755 : decode cL_law 755 = .ok (.iload_n 3, 1) := by decide +kernel
theorem dL_law_756 : decode cL_law 756 = .ok (.iconst 1, 1) := by decide +kernel
theorem dL_law_757 : decode cL_law 757 = .ok (.iadd, 1) := by decide +kernel
theorem dL_law_758 : decode cL_law 758 = .ok (.iaload, 1) := by decide +kernel
theorem dL_law_759 : decode cL_law 759 = .ok (.invokevirtual 96, 3) := by decide +kernel
theorem dL_law_762 : decode cL_law 762 = .ok (.aload_n 2, 1) := by decide +kernel
theorem dL_law_763 : decode cL_law 763 = .ok (.aload_n 0, 1) := by decide +kernel
theorem dL_law_764 : decode cL_law 764 = .ok (.iload_n 3, 1) := by decide +kernel
theorem dL_law_765 : decode cL_law 765 = .ok (.iconst 1, 1) := by decide +kernel
theorem dL_law_766 : decode cL_law 766 = .ok (.iadd, 1) := by decide +kernel
theorem dL_law_767 : decode cL_law 767 = .ok (.iaload, 1) := by decide +kernel
theorem dL_law_768 : decode cL_law 768 = .ok (.invokevirtual 99, 3) := by decide +kernel
theorem dL_law_771 : decode cL_law 771 = .ok (.if_icmp .eq 367, 3) := by decide +kernel
theorem dL_law_774 : decode cL_law 774 = .ok (.iconst 0, 1) := by decide +kernel
theorem dL_law_775 : decode cL_law 775 = .ok (.ireturn, 1) := by decide +kernel
theorem dL_law_776 : decode cL_law 776 = .ok (.aload_n 1, 1) := by decide +kernel
theorem dL_law_777 : decode cL_law 777 = .ok (.aload_n 0, 1) := by decide +kernel
theorem dL_law_778 : decode cL_law 778 = .ok (.iload_n 3, 1) := by decide +kernel
theorem dL_law_779 : decode cL_law 779 = .ok (.iconst 1, 1) := by decide +kernel
theorem dL_law_780 : decode cL_law 780 = .ok (.iadd, 1) := by decide +kernel
theorem dL_law_781 : decode cL_law 781 = .ok (.iaload, 1) := by decide +kernel
theorem dL_law_782 : decode cL_law 782 = .ok (.invokevirtual 100, 3) := by decide +kernel
theorem dL_law_785 : decode cL_law 785 = .ok (.aload_n 2, 1) := by decide +kernel
theorem dL_law_786 : decode cL_law 786 = .ok (.aload_n 0, 1) := by decide +kernel
theorem dL_law_787 : decode cL_law 787 = .ok (.iload_n 3, 1) := by decide +kernel
theorem dL_law_788 : decode cL_law 788 = .ok (.iconst 1, 1) := by decide +kernel
theorem dL_law_789 : decode cL_law 789 = .ok (.iadd, 1) := by decide +kernel
theorem dL_law_790 : decode cL_law 790 = .ok (.iaload, 1) := by decide +kernel
theorem dL_law_791 : decode cL_law 791 = .ok (.invokevirtual 103, 3) := by decide +kernel
theorem dL_law_794 : decode cL_law 794 = .ok (.if_icmp .eq 344, 3) := by decide +kernel
theorem dL_law_797 : decode cL_law 797 = .ok (.iconst 0, 1) := by decide +kernel
theorem dL_law_798 : decode cL_law 798 = .ok (.ireturn, 1) := by decide +kernel
theorem dL_law_799 : decode cL_law 799 = .ok (.aload_n 1, 1) := by decide +kernel
theorem dL_law_800 : decode cL_law 800 = .ok (.aload_n 0, 1) := by decide +kernel
theorem dL_law_801 : decode cL_law 801 = .ok (.iload_n 3, 1) := by decide +kernel
theorem dL_law_802 : decode cL_law 802 = .ok (.iconst 1, 1) := by decide +kernel
theorem dL_law_803 : decode cL_law 803 = .ok (.iadd, 1) := by decide +kernel
theorem dL_law_804 : decode cL_law 804 = .ok (.iaload, 1) := by decide +kernel
theorem dL_law_805 : decode cL_law 805 = .ok (.aload_n 0, 1) := by decide +kernel
theorem dL_law_806 : decode cL_law 806 = .ok (.iload_n 3, 1) := by decide +kernel
theorem dL_law_807 : decode cL_law 807 = .ok (.iconst 2, 1) := by decide +kernel
theorem dL_law_808 : decode cL_law 808 = .ok (.iadd, 1) := by decide +kernel
theorem dL_law_809 : decode cL_law 809 = .ok (.iaload, 1) := by decide +kernel
theorem dL_law_810 : decode cL_law 810 = .ok (.invokevirtual 104, 3) := by decide +kernel
theorem dL_law_813 : decode cL_law 813 = .ok (.aload_n 2, 1) := by decide +kernel
theorem dL_law_814 : decode cL_law 814 = .ok (.aload_n 0, 1) := by decide +kernel
theorem dL_law_815 : decode cL_law 815 = .ok (.iload_n 3, 1) := by decide +kernel
theorem dL_law_816 : decode cL_law 816 = .ok (.iconst 1, 1) := by decide +kernel
theorem dL_law_817 : decode cL_law 817 = .ok (.iadd, 1) := by decide +kernel
theorem dL_law_818 : decode cL_law 818 = .ok (.iaload, 1) := by decide +kernel
theorem dL_law_819 : decode cL_law 819 = .ok (.aload_n 0, 1) := by decide +kernel
theorem dL_law_820 : decode cL_law 820 = .ok (.iload_n 3, 1) := by decide +kernel
theorem dL_law_821 : decode cL_law 821 = .ok (.iconst 2, 1) := by decide +kernel
theorem dL_law_822 : decode cL_law 822 = .ok (.iadd, 1) := by decide +kernel
theorem dL_law_823 : decode cL_law 823 = .ok (.iaload, 1) := by decide +kernel
theorem dL_law_824 : decode cL_law 824 = .ok (.invokevirtual 107, 3) := by decide +kernel
theorem dL_law_827 : decode cL_law 827 = .ok (.if_icmp .eq 311, 3) := by decide +kernel
theorem dL_law_830 : decode cL_law 830 = .ok (.iconst 0, 1) := by decide +kernel
theorem dL_law_831 : decode cL_law 831 = .ok (.ireturn, 1) := by decide +kernel
theorem dL_law_832 : decode cL_law 832 = .ok (.aload_n 1, 1) := by decide +kernel
theorem dL_law_833 : decode cL_law 833 = .ok (.aload_n 0, 1) := by decide +kernel
theorem dL_law_834 : decode cL_law 834 = .ok (.iload_n 3, 1) := by decide +kernel
theorem dL_law_835 : decode cL_law 835 = .ok (.iconst 1, 1) := by decide +kernel
theorem dL_law_836 : decode cL_law 836 = .ok (.iadd, 1) := by decide +kernel
theorem dL_law_837 : decode cL_law 837 = .ok (.iaload, 1) := by decide +kernel
theorem dL_law_838 : decode cL_law 838 = .ok (.invokevirtual 108, 3) := by decide +kernel
theorem dL_law_841 : decode cL_law 841 = .ok (.aload_n 2, 1) := by decide +kernel
theorem dL_law_842 : decode cL_law 842 = .ok (.aload_n 0, 1) := by decide +kernel
theorem dL_law_843 : decode cL_law 843 = .ok (.iload_n 3, 1) := by decide +kernel
theorem dL_law_844 : decode cL_law 844 = .ok (.iconst 1, 1) := by decide +kernel
theorem dL_law_845 : decode cL_law 845 = .ok (.iadd, 1) := by decide +kernel
theorem dL_law_846 : decode cL_law 846 = .ok (.iaload, 1) := by decide +kernel
theorem dL_law_847 : decode cL_law 847 = .ok (.invokevirtual 111, 3) := by decide +kernel
theorem dL_law_850 : decode cL_law 850 = .ok (.if_icmp .eq 288, 3) := by decide +kernel
theorem dL_law_853 : decode cL_law 853 = .ok (.iconst 0, 1) := by decide +kernel
theorem dL_law_854 : decode cL_law 854 = .ok (.ireturn, 1) := by decide +kernel
theorem dL_law_855 : decode cL_law 855 = .ok (.aload_n 1, 1) := by decide +kernel
theorem dL_law_856 : decode cL_law 856 = .ok (.aload_n 0, 1) := by decide +kernel
theorem dL_law_857 : decode cL_law 857 = .ok (.iload_n 3, 1) := by decide +kernel
theorem dL_law_858 : decode cL_law 858 = .ok (.iconst 1, 1) := by decide +kernel
theorem dL_law_859 : decode cL_law 859 = .ok (.iadd, 1) := by decide +kernel
theorem dL_law_860 : decode cL_law 860 = .ok (.iaload, 1) := by decide +kernel
theorem dL_law_861 : decode cL_law 861 = .ok (.aload_n 0, 1) := by decide +kernel
theorem dL_law_862 : decode cL_law 862 = .ok (.iload_n 3, 1) := by decide +kernel
theorem dL_law_863 : decode cL_law 863 = .ok (.iconst 2, 1) := by decide +kernel
theorem dL_law_864 : decode cL_law 864 = .ok (.iadd, 1) := by decide +kernel
theorem dL_law_865 : decode cL_law 865 = .ok (.iaload, 1) := by decide +kernel
theorem dL_law_866 : decode cL_law 866 = .ok (.invokevirtual 112, 3) := by decide +kernel
theorem dL_law_869 : decode cL_law 869 = .ok (.aload_n 2, 1) := by decide +kernel
theorem dL_law_870 : decode cL_law 870 = .ok (.aload_n 0, 1) := by decide +kernel
theorem dL_law_871 : decode cL_law 871 = .ok (.iload_n 3, 1) := by decide +kernel
theorem dL_law_872 : decode cL_law 872 = .ok (.iconst 1, 1) := by decide +kernel
theorem dL_law_873 : decode cL_law 873 = .ok (.iadd, 1) := by decide +kernel
theorem dL_law_874 : decode cL_law 874 = .ok (.iaload, 1) := by decide +kernel
theorem dL_law_875 : decode cL_law 875 = .ok (.aload_n 0, 1) := by decide +kernel
theorem dL_law_876 : decode cL_law 876 = .ok (.iload_n 3, 1) := by decide +kernel
theorem dL_law_877 : decode cL_law 877 = .ok (.iconst 2, 1) := by decide +kernel
theorem dL_law_878 : decode cL_law 878 = .ok (.iadd, 1) := by decide +kernel
theorem dL_law_879 : decode cL_law 879 = .ok (.iaload, 1) := by decide +kernel
theorem dL_law_880 : decode cL_law 880 = .ok (.invokevirtual 115, 3) := by decide +kernel
theorem dL_law_883 : decode cL_law 883 = .ok (.if_icmp .eq 255, 3) := by decide +kernel
theorem dL_law_886 : decode cL_law 886 = .ok (.iconst 0, 1) := by decide +kernel
theorem dL_law_887 : decode cL_law 887 = .ok (.ireturn, 1) := by decide +kernel
theorem dL_law_888 : decode cL_law 888 = .ok (.aload_n 1, 1) := by decide +kernel
theorem dL_law_889 : decode cL_law 889 = .ok (.aload_n 0, 1) := by decide +kernel
theorem dL_law_890 : decode cL_law 890 = .ok (.iload_n 3, 1) := by decide +kernel
theorem dL_law_891 : decode cL_law 891 = .ok (.iconst 1, 1) := by decide +kernel
theorem dL_law_892 : decode cL_law 892 = .ok (.iadd, 1) := by decide +kernel
theorem dL_law_893 : decode cL_law 893 = .ok (.iaload, 1) := by decide +kernel
theorem dL_law_894 : decode cL_law 894 = .ok (.aload_n 0, 1) := by decide +kernel
theorem dL_law_895 : decode cL_law 895 = .ok (.iload_n 3, 1) := by decide +kernel
theorem dL_law_896 : decode cL_law 896 = .ok (.iconst 2, 1) := by decide +kernel
theorem dL_law_897 : decode cL_law 897 = .ok (.iadd, 1) := by decide +kernel
theorem dL_law_898 : decode cL_law 898 = .ok (.iaload, 1) := by decide +kernel
theorem dL_law_899 : decode cL_law 899 = .ok (.invokevirtual 116, 3) := by decide +kernel
theorem dL_law_902 : decode cL_law 902 = .ok (.aload_n 2, 1) := by decide +kernel
theorem dL_law_903 : decode cL_law 903 = .ok (.aload_n 0, 1) := by decide +kernel
theorem dL_law_904 : decode cL_law 904 = .ok (.iload_n 3, 1) := by decide +kernel
theorem dL_law_905 : decode cL_law 905 = .ok (.iconst 1, 1) := by decide +kernel
theorem dL_law_906 : decode cL_law 906 = .ok (.iadd, 1) := by decide +kernel
theorem dL_law_907 : decode cL_law 907 = .ok (.iaload, 1) := by decide +kernel
theorem dL_law_908 : decode cL_law 908 = .ok (.aload_n 0, 1) := by decide +kernel
theorem dL_law_909 : decode cL_law 909 = .ok (.iload_n 3, 1) := by decide +kernel
theorem dL_law_910 : decode cL_law 910 = .ok (.iconst 2, 1) := by decide +kernel
theorem dL_law_911 : decode cL_law 911 = .ok (.iadd, 1) := by decide +kernel
theorem dL_law_912 : decode cL_law 912 = .ok (.iaload, 1) := by decide +kernel
theorem dL_law_913 : decode cL_law 913 = .ok (.invokevirtual 119, 3) := by decide +kernel
theorem dL_law_916 : decode cL_law 916 = .ok (.if_icmp .eq 222, 3) := by decide +kernel
theorem dL_law_919 : decode cL_law 919 = .ok (.iconst 0, 1) := by decide +kernel
theorem dL_law_920 : decode cL_law 920 = .ok (.ireturn, 1) := by decide +kernel
theorem dL_law_921 : decode cL_law 921 = .ok (.aload_n 1, 1) := by decide +kernel
theorem dL_law_922 : decode cL_law 922 = .ok (.aload_n 0, 1) := by decide +kernel
theorem dL_law_923 : decode cL_law 923 = .ok (.iload_n 3, 1) := by decide +kernel
theorem dL_law_924 : decode cL_law 924 = .ok (.iconst 1, 1) := by decide +kernel
theorem dL_law_925 : decode cL_law 925 = .ok (.iadd, 1) := by decide +kernel
theorem dL_law_926 : decode cL_law 926 = .ok (.iaload, 1) := by decide +kernel
theorem dL_law_927 : decode cL_law 927 = .ok (.invokevirtual 120, 3) := by decide +kernel
theorem dL_law_930 : decode cL_law 930 = .ok (.aload_n 2, 1) := by decide +kernel
theorem dL_law_931 : decode cL_law 931 = .ok (.aload_n 0, 1) := by decide +kernel
theorem dL_law_932 : decode cL_law 932 = .ok (.iload_n 3, 1) := by decide +kernel
theorem dL_law_933 : decode cL_law 933 = .ok (.iconst 1, 1) := by decide +kernel
theorem dL_law_934 : decode cL_law 934 = .ok (.iadd, 1) := by decide +kernel
theorem dL_law_935 : decode cL_law 935 = .ok (.iaload, 1) := by decide +kernel
theorem dL_law_936 : decode cL_law 936 = .ok (.invokevirtual 123, 3) := by decide +kernel
theorem dL_law_939 : decode cL_law 939 = .ok (.if_icmp .eq 199, 3) := by decide +kernel
theorem dL_law_942 : decode cL_law 942 = .ok (.iconst 0, 1) := by decide +kernel
theorem dL_law_943 : decode cL_law 943 = .ok (.ireturn, 1) := by decide +kernel
theorem dL_law_944 : decode cL_law 944 = .ok (.aload_n 1, 1) := by decide +kernel
theorem dL_law_945 : decode cL_law 945 = .ok (.aload_n 0, 1) := by decide +kernel
theorem dL_law_946 : decode cL_law 946 = .ok (.iload_n 3, 1) := by decide +kernel
theorem dL_law_947 : decode cL_law 947 = .ok (.iconst 1, 1) := by decide +kernel
theorem dL_law_948 : decode cL_law 948 = .ok (.iadd, 1) := by decide +kernel
theorem dL_law_949 : decode cL_law 949 = .ok (.iaload, 1) := by decide +kernel
theorem dL_law_950 : decode cL_law 950 = .ok (.aload_n 0, 1) := by decide +kernel
theorem dL_law_951 : decode cL_law 951 = .ok (.iload_n 3, 1) := by decide +kernel
theorem dL_law_952 : decode cL_law 952 = .ok (.iconst 2, 1) := by decide +kernel
theorem dL_law_953 : decode cL_law 953 = .ok (.iadd, 1) := by decide +kernel
theorem dL_law_954 : decode cL_law 954 = .ok (.iaload, 1) := by decide +kernel
theorem dL_law_955 : decode cL_law 955 = .ok (.aload_n 0, 1) := by decide +kernel
theorem dL_law_956 : decode cL_law 956 = .ok (.iload_n 3, 1) := by decide +kernel
theorem dL_law_957 : decode cL_law 957 = .ok (.iconst 3, 1) := by decide +kernel
theorem dL_law_958 : decode cL_law 958 = .ok (.iadd, 1) := by decide +kernel
theorem dL_law_959 : decode cL_law 959 = .ok (.iaload, 1) := by decide +kernel
theorem dL_law_960 : decode cL_law 960 = .ok (.invokevirtual 124, 3) := by decide +kernel
theorem dL_law_963 : decode cL_law 963 = .ok (.aload_n 2, 1) := by decide +kernel
theorem dL_law_964 : decode cL_law 964 = .ok (.aload_n 0, 1) := by decide +kernel
theorem dL_law_965 : decode cL_law 965 = .ok (.iload_n 3, 1) := by decide +kernel
theorem dL_law_966 : decode cL_law 966 = .ok (.iconst 1, 1) := by decide +kernel
theorem dL_law_967 : decode cL_law 967 = .ok (.iadd, 1) := by decide +kernel
theorem dL_law_968 : decode cL_law 968 = .ok (.iaload, 1) := by decide +kernel
theorem dL_law_969 : decode cL_law 969 = .ok (.aload_n 0, 1) := by decide +kernel
theorem dL_law_970 : decode cL_law 970 = .ok (.iload_n 3, 1) := by decide +kernel
theorem dL_law_971 : decode cL_law 971 = .ok (.iconst 2, 1) := by decide +kernel
theorem dL_law_972 : decode cL_law 972 = .ok (.iadd, 1) := by decide +kernel
theorem dL_law_973 : decode cL_law 973 = .ok (.iaload, 1) := by decide +kernel
theorem dL_law_974 : decode cL_law 974 = .ok (.aload_n 0, 1) := by decide +kernel
theorem dL_law_975 : decode cL_law 975 = .ok (.iload_n 3, 1) := by decide +kernel
theorem dL_law_976 : decode cL_law 976 = .ok (.iconst 3, 1) := by decide +kernel
theorem dL_law_977 : decode cL_law 977 = .ok (.iadd, 1) := by decide +kernel
theorem dL_law_978 : decode cL_law 978 = .ok (.iaload, 1) := by decide +kernel
theorem dL_law_979 : decode cL_law 979 = .ok (.invokevirtual 127, 3) := by decide +kernel
theorem dL_law_982 : decode cL_law 982 = .ok (.if_icmp .eq 156, 3) := by decide +kernel
theorem dL_law_985 : decode cL_law 985 = .ok (.iconst 0, 1) := by decide +kernel
theorem dL_law_986 : decode cL_law 986 = .ok (.ireturn, 1) := by decide +kernel
theorem dL_law_987 : decode cL_law 987 = .ok (.aload_n 1, 1) := by decide +kernel
theorem dL_law_988 : decode cL_law 988 = .ok (.aload_n 0, 1) := by decide +kernel
theorem dL_law_989 : decode cL_law 989 = .ok (.iload_n 3, 1) := by decide +kernel
theorem dL_law_990 : decode cL_law 990 = .ok (.iconst 1, 1) := by decide +kernel
theorem dL_law_991 : decode cL_law 991 = .ok (.iadd, 1) := by decide +kernel
theorem dL_law_992 : decode cL_law 992 = .ok (.iaload, 1) := by decide +kernel
theorem dL_law_993 : decode cL_law 993 = .ok (.aload_n 0, 1) := by decide +kernel
theorem dL_law_994 : decode cL_law 994 = .ok (.iload_n 3, 1) := by decide +kernel
theorem dL_law_995 : decode cL_law 995 = .ok (.iconst 2, 1) := by decide +kernel
theorem dL_law_996 : decode cL_law 996 = .ok (.iadd, 1) := by decide +kernel
theorem dL_law_997 : decode cL_law 997 = .ok (.iaload, 1) := by decide +kernel
theorem dL_law_998 : decode cL_law 998 = .ok (.aload_n 0, 1) := by decide +kernel
theorem dL_law_999 : decode cL_law 999 = .ok (.iload_n 3, 1) := by decide +kernel
theorem dL_law_1000 : decode cL_law 1000 = .ok (.iconst 3, 1) := by decide +kernel
theorem dL_law_1001 : decode cL_law 1001 = .ok (.iadd, 1) := by decide +kernel
theorem dL_law_1002 : decode cL_law 1002 = .ok (.iaload, 1) := by decide +kernel
theorem dL_law_1003 : decode cL_law 1003 = .ok (.aload_n 0, 1) := by decide +kernel
theorem dL_law_1004 : decode cL_law 1004 = .ok (.iload_n 3, 1) := by decide +kernel
theorem dL_law_1005 : decode cL_law 1005 = .ok (.iconst 4, 1) := by decide +kernel
theorem dL_law_1006 : decode cL_law 1006 = .ok (.iadd, 1) := by decide +kernel
theorem dL_law_1007 : decode cL_law 1007 = .ok (.iaload, 1) := by decide +kernel
theorem dL_law_1008 : decode cL_law 1008 = .ok (.invokevirtual 128, 3) := by decide +kernel
theorem dL_law_1011 : decode cL_law 1011 = .ok (.aload_n 2, 1) := by decide +kernel
theorem dL_law_1012 : decode cL_law 1012 = .ok (.aload_n 0, 1) := by decide +kernel
theorem dL_law_1013 : decode cL_law 1013 = .ok (.iload_n 3, 1) := by decide +kernel
theorem dL_law_1014 : decode cL_law 1014 = .ok (.iconst 1, 1) := by decide +kernel
theorem dL_law_1015 : decode cL_law 1015 = .ok (.iadd, 1) := by decide +kernel
theorem dL_law_1016 : decode cL_law 1016 = .ok (.iaload, 1) := by decide +kernel
theorem dL_law_1017 : decode cL_law 1017 = .ok (.aload_n 0, 1) := by decide +kernel
theorem dL_law_1018 : decode cL_law 1018 = .ok (.iload_n 3, 1) := by decide +kernel
theorem dL_law_1019 : decode cL_law 1019 = .ok (.iconst 2, 1) := by decide +kernel
theorem dL_law_1020 : decode cL_law 1020 = .ok (.iadd, 1) := by decide +kernel
theorem dL_law_1021 : decode cL_law 1021 = .ok (.iaload, 1) := by decide +kernel
theorem dL_law_1022 : decode cL_law 1022 = .ok (.aload_n 0, 1) := by decide +kernel
theorem dL_law_1023 : decode cL_law 1023 = .ok (.iload_n 3, 1) := by decide +kernel
theorem dL_law_1024 : decode cL_law 1024 = .ok (.iconst 3, 1) := by decide +kernel
theorem dL_law_1025 : decode cL_law 1025 = .ok (.iadd, 1) := by decide +kernel
theorem dL_law_1026 : decode cL_law 1026 = .ok (.iaload, 1) := by decide +kernel
theorem dL_law_1027 : decode cL_law 1027 = .ok (.aload_n 0, 1) := by decide +kernel
theorem dL_law_1028 : decode cL_law 1028 = .ok (.iload_n 3, 1) := by decide +kernel
theorem dL_law_1029 : decode cL_law 1029 = .ok (.iconst 4, 1) := by decide +kernel
theorem dL_law_1030 : decode cL_law 1030 = .ok (.iadd, 1) := by decide +kernel
theorem dL_law_1031 : decode cL_law 1031 = .ok (.iaload, 1) := by decide +kernel
theorem dL_law_1032 : decode cL_law 1032 = .ok (.invokevirtual 132, 3) := by decide +kernel
theorem dL_law_1035 : decode cL_law 1035 = .ok (.if_icmp .eq 103, 3) := by decide +kernel
theorem dL_law_1038 : decode cL_law 1038 = .ok (.iconst 0, 1) := by decide +kernel
theorem dL_law_1039 : decode cL_law 1039 = .ok (.ireturn, 1) := by decide +kernel
theorem dL_law_1040 : decode cL_law 1040 = .ok (.aload_n 1, 1) := by decide +kernel
theorem dL_law_1041 : decode cL_law 1041 = .ok (.aload_n 0, 1) := by decide +kernel
theorem dL_law_1042 : decode cL_law 1042 = .ok (.iload_n 3, 1) := by decide +kernel
theorem dL_law_1043 : decode cL_law 1043 = .ok (.iconst 1, 1) := by decide +kernel
theorem dL_law_1044 : decode cL_law 1044 = .ok (.iadd, 1) := by decide +kernel
theorem dL_law_1045 : decode cL_law 1045 = .ok (.iaload, 1) := by decide +kernel
theorem dL_law_1046 : decode cL_law 1046 = .ok (.invokevirtual 133, 3) := by decide +kernel
theorem dL_law_1049 : decode cL_law 1049 = .ok (.aload_n 2, 1) := by decide +kernel
theorem dL_law_1050 : decode cL_law 1050 = .ok (.aload_n 0, 1) := by decide +kernel
theorem dL_law_1051 : decode cL_law 1051 = .ok (.iload_n 3, 1) := by decide +kernel
theorem dL_law_1052 : decode cL_law 1052 = .ok (.iconst 1, 1) := by decide +kernel
theorem dL_law_1053 : decode cL_law 1053 = .ok (.iadd, 1) := by decide +kernel
theorem dL_law_1054 : decode cL_law 1054 = .ok (.iaload, 1) := by decide +kernel
theorem dL_law_1055 : decode cL_law 1055 = .ok (.invokevirtual 136, 3) := by decide +kernel
theorem dL_law_1058 : decode cL_law 1058 = .ok (.if_icmp .eq 80, 3) := by decide +kernel
theorem dL_law_1061 : decode cL_law 1061 = .ok (.iconst 0, 1) := by decide +kernel
theorem dL_law_1062 : decode cL_law 1062 = .ok (.ireturn, 1) := by decide +kernel
