theorem dX0_init_0 : decode cX0_init 0 = .ok (.aload_n 0, 1) := by decide +kernel
theorem dX0_init_1 : decode cX0_init 1 = .ok (.invokespecial 3, 3) := by decide +kernel
theorem dX0_init_4 : decode cX0_init 4 = .ok (.aload_n 0, 1) := by decide +kernel
theorem dX0_init_5 : decode cX0_init 5 = .ok (.new 9, 3) := by decide +kernel
theorem dX0_init_8 : decode cX0_init 8 = .ok (.dup, 1) := by decide +kernel
theorem dX0_init_9 : decode cX0_init 9 = .ok (.iconst 1, 1) := by decide +kernel
theorem dX0_init_10 : decode cX0_init 10 = .ok (.invokespecial 11, 3) := by decide +kernel
theorem dX0_init_13 : decode cX0_init 13 = .ok (.putfield 14, 3) := by decide +kernel
theorem dX0_init_16 : decode cX0_init 16 = .ok (.aload_n 0, 1) := by decide +kernel
theorem dX0_init_17 : decode cX0_init 17 = .ok (.new 20, 3) := by decide +kernel
theorem dX0_init_20 : decode cX0_init 20 = .ok (.dup, 1) := by decide +kernel
theorem dX0_init_21 : decode cX0_init 21 = .ok (.invokespecial 22, 3) := by decide +kernel
theorem dX0_init_24 : decode cX0_init 24 = .ok (.putfield 23, 3) := by decide +kernel
theorem dX0_init_27 : decode cX0_init 27 = .ok (.aload_n 0, 1) := by decide +kernel
theorem dX0_init_28 : decode cX0_init 28 = .ok (.new 27, 3) := by decide +kernel
theorem dX0_init_31 : decode cX0_init 31 = .ok (.dup, 1) := by decide +kernel
theorem dX0_init_32 : decode cX0_init 32 = .ok (.invokespecial 29, 3) := by decide +kernel
theorem dX0_init_35 : decode cX0_init 35 = .ok (.putfield 30, 3) := by decide +kernel
theorem dX0_init_38 : decode cX0_init 38 = .ok (.aload_n 0, 1) := by decide +kernel
theorem dX0_init_39 : decode cX0_init 39 = .ok (.new 34, 3) := by decide +kernel
theorem dX0_init_42 : decode cX0_init 42 = .ok (.dup, 1) := by decide +kernel
theorem dX0_init_43 : decode cX0_init 43 = .ok (.invokespecial 36, 3) := by decide +kernel
theorem dX0_init_46 : decode cX0_init 46 = .ok (.putfield 37, 3) := by decide +kernel
theorem dX0_init_49 : decode cX0_init 49 = .ok (.aload_n 0, 1) := by decide +kernel
theorem dX0_init_50 : decode cX0_init 50 = .ok (.new 41, 3) := by decide +kernel
theorem dX0_init_53 : decode cX0_init 53 = .ok (.dup, 1) := by decide +kernel
theorem dX0_init_54 : decode cX0_init 54 = .ok (.invokespecial 43, 3) := by decide +kernel
theorem dX0_init_57 : decode cX0_init 57 = .ok (.putfield 44, 3) := by decide +kernel
theorem dX0_init_60 : decode cX0_init 60 = .ok (.aload_n 0, 1) := by decide +kernel
theorem dX0_init_61 : decode cX0_init 61 = .ok (.new 48, 3) := by decide +kernel
theorem dX0_init_64 : decode cX0_init 64 = .ok (.dup, 1) := by decide +kernel
theorem dX0_init_65 : decode cX0_init 65 = .ok (.invokespecial 50, 3) := by decide +kernel
theorem dX0_init_68 : decode cX0_init 68 = .ok (.putfield 51, 3) := by decide +kernel
theorem dX0_init_71 : decode cX0_init 71 = .ok (.return_, 1) := by decide +kernel
theorem dX0_copyFrom_0 : decode cX0_copyFrom 0 = .ok (.aload_n 0, 1) := by decide +kernel
theorem dX0_copyFrom_1 : decode cX0_copyFrom 1 = .ok (.getfield 14, 3) := by decide +kernel
theorem dX0_copyFrom_4 : decode cX0_copyFrom 4 = .ok (.aload_n 1, 1) := by decide +kernel
theorem dX0_copyFrom_5 : decode cX0_copyFrom 5 = .ok (.getfield 14, 3) := by decide +kernel
theorem dX0_copyFrom_8 : decode cX0_copyFrom 8 = .ok (.invokevirtual 55, 3) := by decide +kernel
theorem dX0_copyFrom_11 : decode cX0_copyFrom 11 = .ok (.aload_n 0, 1) := by decide +kernel
theorem dX0_copyFrom_12 : decode cX0_copyFrom 12 = .ok (.getfield 23, 3) := by decide +kernel
theorem dX0_copyFrom_15 : decode cX0_copyFrom 15 = .ok (.aload_n 1, 1) := by decide +kernel
theorem dX0_copyFrom_16 : decode cX0_copyFrom 16 = .ok (.getfield 23, 3) := by decide +kernel
theorem dX0_copyFrom_19 : decode cX0_copyFrom 19 = .ok (.invokevirtual 59, 3) := by decide +kernel
theorem dX0_copyFrom_22 : decode cX0_copyFrom 22 = .ok (.aload_n 0, 1) := by decide +kernel
theorem dX0_copyFrom_23 : decode cX0_copyFrom 23 = .ok (.getfield 30, 3) := by decide +kernel
theorem dX0_copyFrom_26 : decode cX0_copyFrom 26 = .ok (.aload_n 1, 1) := by decide +kernel
theorem dX0_copyFrom_27 : decode cX0_copyFrom 27 = .ok (.getfield 30, 3) := by decide +kernel
theorem dX0_copyFrom_30 : decode cX0_copyFrom 30 = .ok (.invokevirtual 62, 3) := by decide +kernel
theorem dX0_copyFrom_33 : decode cX0_copyFrom 33 = .ok (.aload_n 0, 1) := by decide +kernel
theorem dX0_copyFrom_34 : decode cX0_copyFrom 34 = .ok (.getfield 37, 3) := by decide +kernel
theorem dX0_copyFrom_37 : decode cX0_copyFrom 37 = .ok (.aload_n 1, 1) := by decide +kernel
theorem dX0_copyFrom_38 : decode cX0_copyFrom 38 = .ok (.getfield 37, 3) := by decide +kernel
theorem dX0_copyFrom_41 : decode cX0_copyFrom 41 = .ok (.invokevirtual 65, 3) := by decide +kernel
theorem dX0_copyFrom_44 : decode cX0_copyFrom 44 = .ok (.aload_n 0, 1) := by decide +kernel
theorem dX0_copyFrom_45 : decode cX0_copyFrom 45 = .ok (.getfield 44, 3) := by decide +kernel
theorem dX0_copyFrom_48 : decode cX0_copyFrom 48 = .ok (.aload_n 1, 1) := by decide +kernel
theorem dX0_copyFrom_49 : decode cX0_copyFrom 49 = .ok (.getfield 44, 3) := by decide +kernel
theorem dX0_copyFrom_52 : decode cX0_copyFrom 52 = .ok (.invokevirtual 68, 3) := by decide +kernel
theorem dX0_copyFrom_55 : decode cX0_copyFrom 55 = .ok (.aload_n 0, 1) := by decide +kernel
theorem dX0_copyFrom_56 : decode cX0_copyFrom 56 = .ok (.getfield 51, 3) := by decide +kernel
theorem dX0_copyFrom_59 : decode cX0_copyFrom 59 = .ok (.aload_n 1, 1) := by decide +kernel
theorem dX0_copyFrom_60 : decode cX0_copyFrom 60 = .ok (.getfield 51, 3) := by decide +kernel
theorem dX0_copyFrom_63 : decode cX0_copyFrom 63 = .ok (.invokevirtual 71, 3) := by decide +kernel
theorem dX0_copyFrom_66 : decode cX0_copyFrom 66 = .ok (.return_, 1) := by decide +kernel
theorem dX0_takeText_0 : decode cX0_takeText 0 = .ok (.iload_n 1, 1) := by decide +kernel
theorem dX0_takeText_1 : decode cX0_takeText 1 = .ok (.tableswitch 69 0 2 #[27, 41, 55], 27) := by decide +kernel
theorem dX0_takeText_28 : decode cX0_takeText 28 = .ok (.aload_n 0, 1) := by decide +kernel
theorem dX0_takeText_29 : decode cX0_takeText 29 = .ok (.getfield 23, 3) := by decide +kernel
theorem dX0_takeText_32 : decode cX0_takeText 32 = .ok (.aload_n 2, 1) := by decide +kernel
theorem dX0_takeText_33 : decode cX0_takeText 33 = .ok (.getfield 74, 3) := by decide +kernel
theorem dX0_takeText_36 : decode cX0_takeText 36 = .ok (.invokevirtual 59, 3) := by decide +kernel
theorem dX0_takeText_39 : decode cX0_takeText 39 = .ok (.goto 42, 3) := by decide +kernel
theorem dX0_takeText_42 : decode cX0_takeText 42 = .ok (.aload_n 0, 1) := by decide +kernel
theorem dX0_takeText_43 : decode cX0_takeText 43 = .ok (.getfield 30, 3) := by decide +kernel
theorem dX0_takeText_46 : decode cX0_takeText 46 = .ok (.aload_n 2, 1) := by decide +kernel
theorem dX0_takeText_47 : decode cX0_takeText 47 = .ok (.getfield 77, 3) := by decide +kernel
theorem dX0_takeText_50 : decode cX0_takeText 50 = .ok (.invokevirtual 62, 3) := by decide +kernel
theorem dX0_takeText_53 : decode cX0_takeText 53 = .ok (.goto 28, 3) := by decide +kernel
theorem dX0_takeText_56 : decode cX0_takeText 56 = .ok (.aload_n 0, 1) := by decide +kernel
theorem dX0_takeText_57 : decode cX0_takeText 57 = .ok (.getfield 37, 3) := by decide +kernel
theorem dX0_takeText_60 : decode cX0_takeText 60 = .ok (.aload_n 2, 1) := by decide +kernel
theorem dX0_takeText_61 : decode cX0_takeText 61 = .ok (.getfield 78, 3) := by decide +kernel
theorem dX0_takeText_64 : decode cX0_takeText 64 = .ok (.invokevirtual 65, 3) := by decide +kernel
theorem dX0_takeText_67 : decode cX0_takeText 67 = .ok (.goto 14, 3) := by decide +kernel
theorem dX0_takeText_70 : decode cX0_takeText 70 = .ok (.aload_n 0, 1) := by decide +kernel
theorem dX0_takeText_71 : decode cX0_takeText 71 = .ok (.getfield 44, 3) := by decide +kernel
theorem dX0_takeText_74 : decode cX0_takeText 74 = .ok (.aload_n 2, 1) := by decide +kernel
theorem dX0_takeText_75 : decode cX0_takeText 75 = .ok (.getfield 79, 3) := by decide +kernel
theorem dX0_takeText_78 : decode cX0_takeText 78 = .ok (.invokevirtual 68, 3) := by decide +kernel
theorem dX0_takeText_81 : decode cX0_takeText 81 = .ok (.return_, 1) := by decide +kernel
theorem dX0_passDay_0 : decode cX0_passDay 0 = .ok (.aload_n 0, 1) := by decide +kernel
theorem dX0_passDay_1 : decode cX0_passDay 1 = .ok (.getfield 37, 3) := by decide +kernel
theorem dX0_passDay_4 : decode cX0_passDay 4 = .ok (.aload_n 1, 1) := by decide +kernel
theorem dX0_passDay_5 : decode cX0_passDay 5 = .ok (.invokevirtual 80, 3) := by decide +kernel
theorem dX0_passDay_8 : decode cX0_passDay 8 = .ok (.aload_n 0, 1) := by decide +kernel
theorem dX0_passDay_9 : decode cX0_passDay 9 = .ok (.getfield 30, 3) := by decide +kernel
theorem dX0_passDay_12 : decode cX0_passDay 12 = .ok (.aload_n 1, 1) := by decide +kernel
theorem dX0_passDay_13 : decode cX0_passDay 13 = .ok (.getfield 83, 3) := by decide +kernel
theorem dX0_passDay_16 : decode cX0_passDay 16 = .ok (.invokevirtual 87, 3) := by decide +kernel
theorem dX0_passDay_19 : decode cX0_passDay 19 = .ok (.istore_n 3, 1) := by decide +kernel
theorem dX0_passDay_20 : decode cX0_passDay 20 = .ok (.iload_n 3, 1) := by decide +kernel
theorem dX0_passDay_21 : decode cX0_passDay 21 = .ok (.iconst (-1), 1) := by decide +kernel
theorem dX0_passDay_22 : decode cX0_passDay 22 = .ok (.if_icmp .eq 8, 3) := by decide +kernel
theorem dX0_passDay_25 : decode cX0_passDay 25 = .ok (.aload_n 1, 1) := by decide +kernel
theorem dX0_passDay_26 : decode cX0_passDay 26 = .ok (.iload_n 3, 1) := by decide +kernel
theorem dX0_passDay_27 : decode cX0_passDay 27 = .ok (.putfield 91, 3) := by decide +kernel
theorem dX0_passDay_30 : decode cX0_passDay 30 = .ok (.aload_n 0, 1) := by decide +kernel
theorem dX0_passDay_31 : decode cX0_passDay 31 = .ok (.aload_n 1, 1) := by decide +kernel
theorem dX0_passDay_32 : decode cX0_passDay 32 = .ok (.invokevirtual 94, 3) := by decide +kernel
theorem dX0_passDay_35 : decode cX0_passDay 35 = .ok (.aload_n 1, 1) := by decide +kernel
theorem dX0_passDay_36 : decode cX0_passDay 36 = .ok (.invokevirtual 97, 3) := by decide +kernel
theorem dX0_passDay_39 : decode cX0_passDay 39 = .ok (.aload_n 0, 1) := by decide +kernel
theorem dX0_passDay_40 : decode cX0_passDay 40 = .ok (.aload_n 1, 1) := by decide +kernel
theorem dX0_passDay_41 : decode cX0_passDay 41 = .ok (.invokevirtual 100, 3) := by decide +kernel
theorem dX0_passDay_44 : decode cX0_passDay 44 = .ok (.aload_n 0, 1) := by decide +kernel
theorem dX0_passDay_45 : decode cX0_passDay 45 = .ok (.aload_n 1, 1) := by decide +kernel
theorem dX0_passDay_46 : decode cX0_passDay 46 = .ok (.invokevirtual 103, 3) := by decide +kernel
theorem dX0_passDay_49 : decode cX0_passDay 49 = .ok (.aload_n 0, 1) := by decide +kernel
theorem dX0_passDay_50 : decode cX0_passDay 50 = .ok (.aload_n 1, 1) := by decide +kernel
theorem dX0_passDay_51 : decode cX0_passDay 51 = .ok (.iload_n 2, 1) := by decide +kernel
theorem dX0_passDay_52 : decode cX0_passDay 52 = .ok (.invokevirtual 106, 3) := by decide +kernel
theorem dX0_passDay_55 : decode cX0_passDay 55 = .ok (.istore 4, 2) := by decide +kernel
theorem dX0_passDay_57 : decode cX0_passDay 57 = .ok (.aload_n 1, 1) := by decide +kernel
theorem dX0_passDay_58 : decode cX0_passDay 58 = .ok (.invokevirtual 110, 3) := by decide +kernel
theorem dX0_passDay_61 : decode cX0_passDay 61 = .ok (.aload_n 1, 1) := by decide +kernel
theorem dX0_passDay_62 : decode cX0_passDay 62 = .ok (.dup, 1) := by decide +kernel
theorem dX0_passDay_63 : decode cX0_passDay 63 = .ok (.getfield 83, 3) := by decide +kernel
theorem dX0_passDay_66 : decode cX0_passDay 66 = .ok (.iconst 1, 1) := by decide +kernel
theorem dX0_passDay_67 : decode cX0_passDay 67 = .ok (.iadd, 1) := by decide +kernel
theorem dX0_passDay_68 : decode cX0_passDay 68 = .ok (.putfield 83, 3) := by decide +kernel
theorem dX0_passDay_71 : decode cX0_passDay 71 = .ok (.iload 4, 2) := by decide +kernel
theorem dX0_passDay_73 : decode cX0_passDay 73 = .ok (.ireturn, 1) := by decide +kernel
theorem dX0_lowerBasket_0 : decode cX0_lowerBasket 0 = .ok (.aload_n 1, 1) := by decide +kernel
theorem dX0_lowerBasket_1 : decode cX0_lowerBasket 1 = .ok (.getfield 113, 3) := by decide +kernel
theorem dX0_lowerBasket_4 : decode cX0_lowerBasket 4 = .ok (.iconst 1, 1) := by decide +kernel
theorem dX0_lowerBasket_5 : decode cX0_lowerBasket 5 = .ok (.isub, 1) := by decide +kernel
theorem dX0_lowerBasket_6 : decode cX0_lowerBasket 6 = .ok (.istore_n 2, 1) := by decide +kernel
theorem dX0_lowerBasket_7 : decode cX0_lowerBasket 7 = .ok (.iload_n 2, 1) := by decide +kernel
theorem dX0_lowerBasket_8 : decode cX0_lowerBasket 8 = .ok (.ifCond .lt 35, 3) := by decide +kernel
theorem dX0_lowerBasket_11 : decode cX0_lowerBasket 11 = .ok (.aload_n 1, 1) := by decide +kernel
theorem dX0_lowerBasket_12 : decode cX0_lowerBasket 12 = .ok (.iload_n 2, 1) := by decide +kernel
theorem dX0_lowerBasket_13 : decode cX0_lowerBasket 13 = .ok (.invokevirtual 116, 3) := by decide +kernel
theorem dX0_lowerBasket_16 : decode cX0_lowerBasket 16 = .ok (.istore_n 3, 1) := by decide +kernel
theorem dX0_lowerBasket_17 : decode cX0_lowerBasket 17 = .ok (.iload_n 3, 1) := by decide +kernel
theorem dX0_lowerBasket_18 : decode cX0_lowerBasket 18 = .ok (.iconst (-1), 1) := by decide +kernel
theorem dX0_lowerBasket_19 : decode cX0_lowerBasket 19 = .ok (.if_icmp .eq 18, 3) := by decide +kernel
theorem dX0_lowerBasket_22 : decode cX0_lowerBasket 22 = .ok (.aload_n 1, 1) := by decide +kernel
theorem dX0_lowerBasket_23 : decode cX0_lowerBasket 23 = .ok (.iload_n 3, 1) := by decide +kernel
theorem dX0_lowerBasket_24 : decode cX0_lowerBasket 24 = .ok (.aload_n 0, 1) := by decide +kernel
theorem dX0_lowerBasket_25 : decode cX0_lowerBasket 25 = .ok (.getfield 23, 3) := by decide +kernel
theorem dX0_lowerBasket_28 : decode cX0_lowerBasket 28 = .ok (.iconst 0, 1) := by decide +kernel
theorem dX0_lowerBasket_29 : decode cX0_lowerBasket 29 = .ok (.aload_n 1, 1) := by decide +kernel
theorem dX0_lowerBasket_30 : decode cX0_lowerBasket 30 = .ok (.iload_n 3, 1) := by decide +kernel
theorem dX0_lowerBasket_31 : decode cX0_lowerBasket 31 = .ok (.invokevirtual 119, 3) := by decide +kernel
theorem dX0_lowerBasket_34 : decode cX0_lowerBasket 34 = .ok (.invokevirtual 123, 3) := by decide +kernel
theorem dX0_lowerBasket_37 : decode cX0_lowerBasket 37 = .ok (.iinc 2 (-1), 3) := by decide +kernel
theorem dX0_lowerBasket_40 : decode cX0_lowerBasket 40 = .ok (.goto (-33), 3) := by decide +kernel
theorem dX0_lowerBasket_43 : decode cX0_lowerBasket 43 = .ok (.aload_n 1, 1) := by decide +kernel
theorem dX0_lowerBasket_44 : decode cX0_lowerBasket 44 = .ok (.dup, 1) := by decide +kernel
theorem dX0_lowerBasket_45 : decode cX0_lowerBasket 45 = .ok (.getfield 127, 3) := by decide +kernel
theorem dX0_lowerBasket_48 : decode cX0_lowerBasket 48 = .ok (.aload_n 1, 1) := by decide +kernel
theorem dX0_lowerBasket_49 : decode cX0_lowerBasket 49 = .ok (.getfield 130, 3) := by decide +kernel
theorem dX0_lowerBasket_52 : decode cX0_lowerBasket 52 = .ok (.iadd, 1) := by decide +kernel
theorem dX0_lowerBasket_53 : decode cX0_lowerBasket 53 = .ok (.putfield 127, 3) := by decide +kernel
theorem dX0_lowerBasket_56 : decode cX0_lowerBasket 56 = .ok (.aload_n 1, 1) := by decide +kernel
theorem dX0_lowerBasket_57 : decode cX0_lowerBasket 57 = .ok (.iconst 0, 1) := by decide +kernel
theorem dX0_lowerBasket_58 : decode cX0_lowerBasket 58 = .ok (.putfield 130, 3) := by decide +kernel
theorem dX0_lowerBasket_61 : decode cX0_lowerBasket 61 = .ok (.return_, 1) := by decide +kernel
theorem dX0_lowerAdvice_0 : decode cX0_lowerAdvice 0 = .ok (.aload_n 1, 1) := by decide +kernel
theorem dX0_lowerAdvice_1 : decode cX0_lowerAdvice 1 = .ok (.getfield 113, 3) := by decide +kernel
theorem dX0_lowerAdvice_4 : decode cX0_lowerAdvice 4 = .ok (.ifCond .le 11, 3) := by decide +kernel
theorem dX0_lowerAdvice_7 : decode cX0_lowerAdvice 7 = .ok (.aload_n 1, 1) := by decide +kernel
theorem dX0_lowerAdvice_8 : decode cX0_lowerAdvice 8 = .ok (.getfield 133, 3) := by decide +kernel
theorem dX0_lowerAdvice_11 : decode cX0_lowerAdvice 11 = .ok (.iconst 0, 1) := by decide +kernel
theorem dX0_lowerAdvice_12 : decode cX0_lowerAdvice 12 = .ok (.bipush (-100), 2) := by decide +kernel
theorem dX0_lowerAdvice_14 : decode cX0_lowerAdvice 14 = .ok (.iastore, 1) := by decide +kernel
theorem dX0_lowerAdvice_15 : decode cX0_lowerAdvice 15 = .ok (.iconst 0, 1) := by decide +kernel
theorem dX0_lowerAdvice_16 : decode cX0_lowerAdvice 16 = .ok (.istore_n 2, 1) := by decide +kernel
theorem dX0_lowerAdvice_17 : decode cX0_lowerAdvice 17 = .ok (.iload_n 2, 1) := by decide +kernel
theorem dX0_lowerAdvice_18 : decode cX0_lowerAdvice 18 = .ok (.iconst 1, 1) := by decide +kernel
theorem dX0_lowerAdvice_19 : decode cX0_lowerAdvice 19 = .ok (.iadd, 1) := by decide +kernel
theorem dX0_lowerAdvice_20 : decode cX0_lowerAdvice 20 = .ok (.aload_n 1, 1) := by decide +kernel
theorem dX0_lowerAdvice_21 : decode cX0_lowerAdvice 21 = .ok (.getfield 113, 3) := by decide +kernel
theorem dX0_lowerAdvice_24 : decode cX0_lowerAdvice 24 = .ok (.if_icmp .ge 59, 3) := by decide +kernel
theorem dX0_lowerAdvice_27 : decode cX0_lowerAdvice 27 = .ok (.aload_n 1, 1) := by decide +kernel
theorem dX0_lowerAdvice_28 : decode cX0_lowerAdvice 28 = .ok (.getfield 133, 3) := by decide +kernel
theorem dX0_lowerAdvice_31 : decode cX0_lowerAdvice 31 = .ok (.iload_n 2, 1) := by decide +kernel
theorem dX0_lowerAdvice_32 : decode cX0_lowerAdvice 32 = .ok (.iconst 1, 1) := by decide +kernel
theorem dX0_lowerAdvice_33 : decode cX0_lowerAdvice 33 = .ok (.iadd, 1) := by decide +kernel
theorem dX0_lowerAdvice_34 : decode cX0_lowerAdvice 34 = .ok (.iaload, 1) := by decide +kernel
theorem dX0_lowerAdvice_35 : decode cX0_lowerAdvice 35 = .ok (.istore_n 3, 1) := by decide +kernel
theorem dX0_lowerAdvice_36 : decode cX0_lowerAdvice 36 = .ok (.iload_n 3, 1) := by decide +kernel
theorem dX0_lowerAdvice_37 : decode cX0_lowerAdvice 37 = .ok (.bipush (-100), 2) := by decide +kernel
theorem dX0_lowerAdvice_39 : decode cX0_lowerAdvice 39 = .ok (.if_icmp .eq 38, 3) := by decide +kernel
theorem dX0_lowerAdvice_42 : decode cX0_lowerAdvice 42 = .ok (.aload_n 1, 1) := by decide +kernel
theorem dX0_lowerAdvice_43 : decode cX0_lowerAdvice 43 = .ok (.getfield 133, 3) := by decide +kernel
theorem dX0_lowerAdvice_46 : decode cX0_lowerAdvice 46 = .ok (.iload_n 2, 1) := by decide +kernel
theorem dX0_lowerAdvice_47 : decode cX0_lowerAdvice 47 = .ok (.aload_n 0, 1) := by decide +kernel
theorem dX0_lowerAdvice_48 : decode cX0_lowerAdvice 48 = .ok (.aload_n 1, 1) := by decide +kernel
theorem dX0_lowerAdvice_49 : decode cX0_lowerAdvice 49 = .ok (.iload_n 2, 1) := by decide +kernel
theorem dX0_lowerAdvice_50 : decode cX0_lowerAdvice 50 = .ok (.iload_n 3, 1) := by decide +kernel
theorem dX0_lowerAdvice_51 : decode cX0_lowerAdvice 51 = .ok (.invokevirtual 137, 3) := by decide +kernel
theorem dX0_lowerAdvice_54 : decode cX0_lowerAdvice 54 = .ok (.iastore, 1) := by decide +kernel
theorem dX0_lowerAdvice_55 : decode cX0_lowerAdvice 55 = .ok (.aload_n 1, 1) := by decide +kernel
theorem dX0_lowerAdvice_56 : decode cX0_lowerAdvice 56 = .ok (.getfield 133, 3) := by decide +kernel
theorem dX0_lowerAdvice_59 : decode cX0_lowerAdvice 59 = .ok (.iload_n 2, 1) := by decide +kernel
theorem dX0_lowerAdvice_60 : decode cX0_lowerAdvice 60 = .ok (.iconst 1, 1) := by decide +kernel
theorem dX0_lowerAdvice_61 : decode cX0_lowerAdvice 61 = .ok (.iadd, 1) := by decide +kernel
theorem dX0_lowerAdvice_62 : decode cX0_lowerAdvice 62 = .ok (.bipush (-100), 2) := by decide +kernel
theorem dX0_lowerAdvice_64 : decode cX0_lowerAdvice 64 = .ok (.iastore, 1) := by decide +kernel
theorem dX0_lowerAdvice_65 : decode cX0_lowerAdvice 65 = .ok (.aload_n 1, 1) := by decide +kernel
theorem dX0_lowerAdvice_66 : decode cX0_lowerAdvice 66 = .ok (.iconst 4, 1) := by decide +kernel
theorem dX0_lowerAdvice_67 : decode cX0_lowerAdvice 67 = .ok (.iload_n 2, 1) := by decide +kernel
theorem dX0_lowerAdvice_68 : decode cX0_lowerAdvice 68 = .ok (.aload_n 1, 1) := by decide +kernel
theorem dX0_lowerAdvice_69 : decode cX0_lowerAdvice 69 = .ok (.getfield 133, 3) := by decide +kernel
theorem dX0_lowerAdvice_72 : decode cX0_lowerAdvice 72 = .ok (.iload_n 2, 1) := by decide +kernel
theorem dX0_lowerAdvice_73 : decode cX0_lowerAdvice 73 = .ok (.iaload, 1) := by decide +kernel
theorem dX0_lowerAdvice_74 : decode cX0_lowerAdvice 74 = .ok (.invokevirtual 141, 3) := by decide +kernel
theorem dX0_lowerAdvice_77 : decode cX0_lowerAdvice 77 = .ok (.iinc 2 1, 3) := by decide +kernel
theorem dX0_lowerAdvice_80 : decode cX0_lowerAdvice 80 = .ok (.goto (-63), 3) := by decide +kernel
theorem dX0_lowerAdvice_83 : decode cX0_lowerAdvice 83 = .ok (.return_, 1) := by decide +kernel
theorem dX0_adviceAt_0 : decode cX0_adviceAt 0 = .ok (.aload_n 1, 1) := by decide +kernel
theorem dX0_adviceAt_1 : decode cX0_adviceAt 1 = .ok (.iload_n 2, 1) := by decide +kernel
theorem dX0_adviceAt_2 : decode cX0_adviceAt 2 = .ok (.invokevirtual 116, 3) := by decide +kernel
theorem dX0_adviceAt_5 : decode cX0_adviceAt 5 = .ok (.istore 4, 2) := by decide +kernel
theorem dX0_adviceAt_7 : decode cX0_adviceAt 7 = .ok (.iload 4, 2) := by decide +kernel
theorem dX0_adviceAt_9 : decode cX0_adviceAt 9 = .ok (.iconst (-1), 1) := by decide +kernel
theorem dX0_adviceAt_10 : decode cX0_adviceAt 10 = .ok (.if_icmp .ne 5, 3) := by decide +kernel
theorem dX0_adviceAt_13 : decode cX0_adviceAt 13 = .ok (.iload_n 3, 1) := by decide +kernel
theorem dX0_adviceAt_14 : decode cX0_adviceAt 14 = .ok (.ireturn, 1) := by decide +kernel
theorem dX0_adviceAt_15 : decode cX0_adviceAt 15 = .ok (.aload_n 0, 1) := by decide +kernel
theorem dX0_adviceAt_16 : decode cX0_adviceAt 16 = .ok (.getfield 23, 3) := by decide +kernel
theorem dX0_adviceAt_19 : decode cX0_adviceAt 19 = .ok (.iconst 2, 1) := by decide +kernel
theorem dX0_adviceAt_20 : decode cX0_adviceAt 20 = .ok (.aload_n 1, 1) := by decide +kernel
theorem dX0_adviceAt_21 : decode cX0_adviceAt 21 = .ok (.iload 4, 2) := by decide +kernel
theorem dX0_adviceAt_23 : decode cX0_adviceAt 23 = .ok (.invokevirtual 119, 3) := by decide +kernel
theorem dX0_adviceAt_26 : decode cX0_adviceAt 26 = .ok (.bipush 9, 2) := by decide +kernel
theorem dX0_adviceAt_28 : decode cX0_adviceAt 28 = .ok (.invokestatic 145, 3) := by decide +kernel
theorem dX0_adviceAt_31 : decode cX0_adviceAt 31 = .ok (.istore 5, 2) := by decide +kernel
theorem dX0_adviceAt_33 : decode cX0_adviceAt 33 = .ok (.iload_n 3, 1) := by decide +kernel
theorem dX0_adviceAt_34 : decode cX0_adviceAt 34 = .ok (.iload 5, 2) := by decide +kernel
theorem dX0_adviceAt_36 : decode cX0_adviceAt 36 = .ok (.iadd, 1) := by decide +kernel
theorem dX0_adviceAt_37 : decode cX0_adviceAt 37 = .ok (.bipush (-99), 2) := by decide +kernel
theorem dX0_adviceAt_39 : decode cX0_adviceAt 39 = .ok (.bipush 99, 2) := by decide +kernel
theorem dX0_adviceAt_41 : decode cX0_adviceAt 41 = .ok (.invokestatic 151, 3) := by decide +kernel
theorem dX0_adviceAt_44 : decode cX0_adviceAt 44 = .ok (.ireturn, 1) := by decide +kernel
theorem dX0_leanAll_0 : decode cX0_leanAll 0 = .ok (.iconst 0, 1) := by decide +kernel
theorem dX0_leanAll_1 : decode cX0_leanAll 1 = .ok (.istore_n 2, 1) := by decide +kernel
theorem dX0_leanAll_2 : decode cX0_leanAll 2 = .ok (.iload_n 2, 1) := by decide +kernel
theorem dX0_leanAll_3 : decode cX0_leanAll 3 = .ok (.aload_n 1, 1) := by decide +kernel
theorem dX0_leanAll_4 : decode cX0_leanAll 4 = .ok (.getfield 113, 3) := by decide +kernel
theorem dX0_leanAll_7 : decode cX0_leanAll 7 = .ok (.if_icmp .ge 57, 3) := by decide +kernel
theorem dX0_leanAll_10 : decode cX0_leanAll 10 = .ok (.aload_n 1, 1) := by decide +kernel
theorem dX0_leanAll_11 : decode cX0_leanAll 11 = .ok (.iload_n 2, 1) := by decide +kernel
theorem dX0_leanAll_12 : decode cX0_leanAll 12 = .ok (.invokevirtual 116, 3) := by decide +kernel
theorem dX0_leanAll_15 : decode cX0_leanAll 15 = .ok (.istore_n 3, 1) := by decide +kernel
theorem dX0_leanAll_16 : decode cX0_leanAll 16 = .ok (.aload_n 1, 1) := by decide +kernel
theorem dX0_leanAll_17 : decode cX0_leanAll 17 = .ok (.iload_n 3, 1) := by decide +kernel
theorem dX0_leanAll_18 : decode cX0_leanAll 18 = .ok (.invokevirtual 155, 3) := by decide +kernel
theorem dX0_leanAll_21 : decode cX0_leanAll 21 = .ok (.ifCond .eq 37, 3) := by decide +kernel
theorem dX0_leanAll_24 : decode cX0_leanAll 24 = .ok (.aload_n 1, 1) := by decide +kernel
theorem dX0_leanAll_25 : decode cX0_leanAll 25 = .ok (.getfield 159, 3) := by decide +kernel
theorem dX0_leanAll_28 : decode cX0_leanAll 28 = .ok (.iload_n 3, 1) := by decide +kernel
theorem dX0_leanAll_29 : decode cX0_leanAll 29 = .ok (.iaload, 1) := by decide +kernel
theorem dX0_leanAll_30 : decode cX0_leanAll 30 = .ok (.aload_n 0, 1) := by decide +kernel
theorem dX0_leanAll_31 : decode cX0_leanAll 31 = .ok (.getfield 23, 3) := by decide +kernel
theorem dX0_leanAll_34 : decode cX0_leanAll 34 = .ok (.iconst 2, 1) := by decide +kernel
theorem dX0_leanAll_35 : decode cX0_leanAll 35 = .ok (.aload_n 1, 1) := by decide +kernel
theorem dX0_leanAll_36 : decode cX0_leanAll 36 = .ok (.iload_n 3, 1) := by decide +kernel
theorem dX0_leanAll_37 : decode cX0_leanAll 37 = .ok (.invokevirtual 119, 3) := by decide +kernel
theorem dX0_leanAll_40 : decode cX0_leanAll 40 = .ok (.iadd, 1) := by decide +kernel
theorem dX0_leanAll_41 : decode cX0_leanAll 41 = .ok (.istore 4, 2) := by decide +kernel
theorem dX0_leanAll_43 : decode cX0_leanAll 43 = .ok (.aload_n 1, 1) := by decide +kernel
theorem dX0_leanAll_44 : decode cX0_leanAll 44 = .ok (.getfield 159, 3) := by decide +kernel
theorem dX0_leanAll_47 : decode cX0_leanAll 47 = .ok (.iload_n 3, 1) := by decide +kernel
theorem dX0_leanAll_48 : decode cX0_leanAll 48 = .ok (.iload 4, 2) := by decide +kernel
theorem dX0_leanAll_50 : decode cX0_leanAll 50 = .ok (.bipush (-99), 2) := by decide +kernel
theorem dX0_leanAll_52 : decode cX0_leanAll 52 = .ok (.bipush 99, 2) := by decide +kernel
theorem dX0_leanAll_54 : decode cX0_leanAll 54 = .ok (.invokestatic 151, 3) := by decide +kernel
theorem dX0_leanAll_57 : decode cX0_leanAll 57 = .ok (.iastore, 1) := by decide +kernel
theorem dX0_leanAll_58 : decode cX0_leanAll 58 = .ok (.iinc 2 1, 3) := by decide +kernel
theorem dX0_leanAll_61 : decode cX0_leanAll 61 = .ok (.goto (-59), 3) := by decide +kernel
theorem dX0_leanAll_64 : decode cX0_leanAll 64 = .ok (.return_, 1) := by decide +kernel
theorem dX0_letDie_0 : decode cX0_letDie 0 = .ok (.iconst 0, 1) := by decide +kernel
theorem dX0_letDie_1 : decode cX0_letDie 1 = .ok (.istore_n 3, 1) := by decide +kernel
theorem dX0_letDie_2 : decode cX0_letDie 2 = .ok (.iconst 0, 1) := by decide +kernel
theorem dX0_letDie_3 : decode cX0_letDie 3 = .ok (.istore 4, 2) := by decide +kernel
theorem dX0_letDie_5 : decode cX0_letDie 5 = .ok (.iload 4, 2) := by decide +kernel
theorem dX0_letDie_7 : decode cX0_letDie 7 = .ok (.aload_n 1, 1) := by decide +kernel
theorem dX0_letDie_8 : decode cX0_letDie 8 = .ok (.getfield 162, 3) := by decide +kernel
theorem dX0_letDie_11 : decode cX0_letDie 11 = .ok (.if_icmp .ge 127, 3) := by decide +kernel
theorem dX0_letDie_14 : decode cX0_letDie 14 = .ok (.aload_n 1, 1) := by decide +kernel
theorem dX0_letDie_15 : decode cX0_letDie 15 = .ok (.iload 4, 2) := by decide +kernel
theorem dX0_letDie_17 : decode cX0_letDie 17 = .ok (.invokevirtual 165, 3) := by decide +kernel
theorem dX0_letDie_20 : decode cX0_letDie 20 = .ok (.ifCond .eq 6, 3) := by decide +kernel
theorem dX0_letDie_23 : decode cX0_letDie 23 = .ok (.goto 109, 3) := by decide +kernel
theorem dX0_letDie_26 : decode cX0_letDie 26 = .ok (.aload_n 1, 1) := by decide +kernel
theorem dX0_letDie_27 : decode cX0_letDie 27 = .ok (.getfield 168, 3) := by decide +kernel
theorem dX0_letDie_30 : decode cX0_letDie 30 = .ok (.iload 4, 2) := by decide +kernel
theorem dX0_letDie_32 : decode cX0_letDie 32 = .ok (.bipush 120, 2) := by decide +kernel
theorem dX0_letDie_34 : decode cX0_letDie 34 = .ok (.aload_n 1, 1) := by decide +kernel
theorem dX0_letDie_35 : decode cX0_letDie 35 = .ok (.getfield 168, 3) := by decide +kernel
theorem dX0_letDie_38 : decode cX0_letDie 38 = .ok (.iload 4, 2) := by decide +kernel
theorem dX0_letDie_40 : decode cX0_letDie 40 = .ok (.iaload, 1) := by decide +kernel
theorem dX0_letDie_41 : decode cX0_letDie 41 = .ok (.iconst 1, 1) := by decide +kernel
theorem dX0_letDie_42 : decode cX0_letDie 42 = .ok (.iadd, 1) := by decide +kernel
theorem dX0_letDie_43 : decode cX0_letDie 43 = .ok (.invokestatic 171, 3) := by decide +kernel
theorem dX0_letDie_46 : decode cX0_letDie 46 = .ok (.iastore, 1) := by decide +kernel
theorem dX0_letDie_47 : decode cX0_letDie 47 = .ok (.aload_n 0, 1) := by decide +kernel
theorem dX0_letDie_48 : decode cX0_letDie 48 = .ok (.getfield 23, 3) := by decide +kernel
theorem dX0_letDie_51 : decode cX0_letDie 51 = .ok (.iconst 1, 1) := by decide +kernel
theorem dX0_letDie_52 : decode cX0_letDie 52 = .ok (.aload_n 1, 1) := by decide +kernel
theorem dX0_letDie_53 : decode cX0_letDie 53 = .ok (.iload 4, 2) := by decide +kernel
theorem dX0_letDie_55 : decode cX0_letDie 55 = .ok (.invokevirtual 119, 3) := by decide +kernel
theorem dX0_letDie_58 : decode cX0_letDie 58 = .ok (.istore 5, 2) := by decide +kernel
theorem dX0_letDie_60 : decode cX0_letDie 60 = .ok (.iload_n 2, 1) := by decide +kernel
theorem dX0_letDie_61 : decode cX0_letDie 61 = .ok (.ifCond .eq 19, 3) := by decide +kernel
theorem dX0_letDie_64 : decode cX0_letDie 64 = .ok (.iload 5, 2) := by decide +kernel
theorem dX0_letDie_66 : decode cX0_letDie 66 = .ok (.sipush 500, 3) := by decide +kernel
theorem dX0_letDie_69 : decode cX0_letDie 69 = .ok (.if_icmp .lt 7, 3) := by decide +kernel
theorem dX0_letDie_72 : decode cX0_letDie 72 = .ok (.iconst 1, 1) := by decide +kernel
theorem dX0_letDie_73 : decode cX0_letDie 73 = .ok (.goto 29, 3) := by decide +kernel
theorem dX0_letDie_76 : decode cX0_letDie 76 = .ok (.iconst 0, 1) := by decide +kernel
theorem dX0_letDie_77 : decode cX0_letDie 77 = .ok (.goto 25, 3) := by decide +kernel
theorem dX0_letDie_80 : decode cX0_letDie 80 = .ok (.iload 5, 2) := by decide +kernel
theorem dX0_letDie_82 : decode cX0_letDie 82 = .ok (.ifCond .le 19, 3) := by decide +kernel
theorem dX0_letDie_85 : decode cX0_letDie 85 = .ok (.aload_n 1, 1) := by decide +kernel
theorem dX0_letDie_86 : decode cX0_letDie 86 = .ok (.sipush 1000, 3) := by decide +kernel
theorem dX0_letDie_89 : decode cX0_letDie 89 = .ok (.invokevirtual 174, 3) := by decide +kernel
theorem dX0_letDie_92 : decode cX0_letDie 92 = .ok (.iload 5, 2) := by decide +kernel
theorem dX0_letDie_94 : decode cX0_letDie 94 = .ok (.if_icmp .ge 7, 3) := by decide +kernel
theorem dX0_letDie_97 : decode cX0_letDie 97 = .ok (.iconst 1, 1) := by decide +kernel
theorem dX0_letDie_98 : decode cX0_letDie 98 = .ok (.goto 4, 3) := by decide +kernel
theorem dX0_letDie_101 : decode cX0_letDie 101 = .ok (.iconst 0, 1) := by decide +kernel
theorem dX0_letDie_102 : decode cX0_letDie 102 = .ok (.istore 6, 2) := by decide +kernel
theorem dX0_letDie_104 : decode cX0_letDie 104 = .ok (.iload 6, 2) := by decide +kernel
theorem dX0_letDie_106 : decode cX0_letDie 106 = .ok (.ifCond .eq 26, 3) := by decide +kernel
theorem dX0_letDie_109 : decode cX0_letDie 109 = .ok (.aload_n 1, 1) := by decide +kernel
theorem dX0_letDie_110 : decode cX0_letDie 110 = .ok (.iconst 1, 1) := by decide +kernel
theorem dX0_letDie_111 : decode cX0_letDie 111 = .ok (.iload 4, 2) := by decide +kernel
theorem dX0_letDie_113 : decode cX0_letDie 113 = .ok (.aload_n 1, 1) := by decide +kernel
theorem dX0_letDie_114 : decode cX0_letDie 114 = .ok (.getfield 168, 3) := by decide +kernel
theorem dX0_letDie_117 : decode cX0_letDie 117 = .ok (.iload 4, 2) := by decide +kernel
theorem dX0_letDie_119 : decode cX0_letDie 119 = .ok (.iaload, 1) := by decide +kernel
theorem dX0_letDie_120 : decode cX0_letDie 120 = .ok (.invokevirtual 141, 3) := by decide +kernel
theorem dX0_letDie_123 : decode cX0_letDie 123 = .ok (.aload_n 1, 1) := by decide +kernel
theorem dX0_letDie_124 : decode cX0_letDie 124 = .ok (.iload 4, 2) := by decide +kernel
theorem dX0_letDie_126 : decode cX0_letDie 126 = .ok (.invokevirtual 177, 3) := by decide +kernel
theorem dX0_letDie_129 : decode cX0_letDie 129 = .ok (.iinc 3 1, 3) := by decide +kernel
theorem dX0_letDie_132 : decode cX0_letDie 132 = .ok (.iinc 4 1, 3) := by decide +kernel
theorem dX0_letDie_135 : decode cX0_letDie 135 = .ok (.goto (-130), 3) := by decide +kernel
theorem dX0_letDie_138 : decode cX0_letDie 138 = .ok (.iload_n 3, 1) := by decide +kernel
theorem dX0_letDie_139 : decode cX0_letDie 139 = .ok (.ireturn, 1) := by decide +kernel
theorem dX1_init_0 : decode cX1_init 0 = .ok (.aload_n 0, 1) := by decide +kernel
theorem dX1_init_1 : decode cX1_init 1 = .ok (.invokespecial 3, 3) := by decide +kernel
theorem dX1_init_4 : decode cX1_init 4 = .ok (.aload_n 0, 1) := by decide +kernel
theorem dX1_init_5 : decode cX1_init 5 = .ok (.bipush 10, 2) := by decide +kernel
theorem dX1_init_7 : decode cX1_init 7 = .ok (.newarray .int, 2) := by decide +kernel
theorem dX1_init_9 : decode cX1_init 9 = .ok (.putfield 9, 3) := by decide +kernel
theorem dX1_init_12 : decode cX1_init 12 = .ok (.aload_n 0, 1) := by decide +kernel
theorem dX1_init_13 : decode cX1_init 13 = .ok (.bipush 10, 2) := by decide +kernel
theorem dX1_init_15 : decode cX1_init 15 = .ok (.newarray .int, 2) := by decide +kernel
theorem dX1_init_17 : decode cX1_init 17 = .ok (.putfield 15, 3) := by decide +kernel
theorem dX1_init_20 : decode cX1_init 20 = .ok (.return_, 1) := by decide +kernel
theorem dX1_walk_0 : decode cX1_walk 0 = .ok (.aload_n 0, 1) := by decide +kernel
theorem dX1_walk_1 : decode cX1_walk 1 = .ok (.getfield 9, 3) := by decide +kernel
theorem dX1_walk_4 : decode cX1_walk 4 = .ok (.iconst (-1), 1) := by decide +kernel
theorem dX1_walk_5 : decode cX1_walk 5 = .ok (.invokestatic 18, 3) := by decide +kernel
theorem dX1_walk_8 : decode cX1_walk 8 = .ok (.aload_n 0, 1) := by decide +kernel
theorem dX1_walk_9 : decode cX1_walk 9 = .ok (.getfield 15, 3) := by decide +kernel
theorem dX1_walk_12 : decode cX1_walk 12 = .ok (.iconst 0, 1) := by decide +kernel
theorem dX1_walk_13 : decode cX1_walk 13 = .ok (.invokestatic 18, 3) := by decide +kernel
theorem dX1_walk_16 : decode cX1_walk 16 = .ok (.aload_n 1, 1) := by decide +kernel
theorem dX1_walk_17 : decode cX1_walk 17 = .ok (.iload_n 2, 1) := by decide +kernel
theorem dX1_walk_18 : decode cX1_walk 18 = .ok (.invokevirtual 24, 3) := by decide +kernel
theorem dX1_walk_21 : decode cX1_walk 21 = .ok (.ifCond .ne 4, 3) := by decide +kernel
theorem dX1_walk_24 : decode cX1_walk 24 = .ok (.return_, 1) := by decide +kernel
theorem dX1_walk_25 : decode cX1_walk 25 = .ok (.aload_n 0, 1) := by decide +kernel
theorem dX1_walk_26 : decode cX1_walk 26 = .ok (.getfield 9, 3) := by decide +kernel
theorem dX1_walk_29 : decode cX1_walk 29 = .ok (.iload_n 2, 1) := by decide +kernel
theorem dX1_walk_30 : decode cX1_walk 30 = .ok (.iconst 0, 1) := by decide +kernel
theorem dX1_walk_31 : decode cX1_walk 31 = .ok (.iastore, 1) := by decide +kernel
theorem dX1_walk_32 : decode cX1_walk 32 = .ok (.aload_n 0, 1) := by decide +kernel
theorem dX1_walk_33 : decode cX1_walk 33 = .ok (.getfield 15, 3) := by decide +kernel
theorem dX1_walk_36 : decode cX1_walk 36 = .ok (.iload_n 2, 1) := by decide +kernel
theorem dX1_walk_37 : decode cX1_walk 37 = .ok (.iconst 1, 1) := by decide +kernel
theorem dX1_walk_38 : decode cX1_walk 38 = .ok (.iastore, 1) := by decide +kernel
theorem dX1_walk_39 : decode cX1_walk 39 = .ok (.iconst 0, 1) := by decide +kernel
theorem dX1_walk_40 : decode cX1_walk 40 = .ok (.istore 4, 2) := by decide +kernel
theorem dX1_walk_42 : decode cX1_walk 42 = .ok (.iload 4, 2) := by decide +kernel
theorem dX1_walk_44 : decode cX1_walk 44 = .ok (.bipush 10, 2) := by decide +kernel
theorem dX1_walk_46 : decode cX1_walk 46 = .ok (.if_icmp .ge 47, 3) := by decide +kernel
theorem dX1_walk_49 : decode cX1_walk 49 = .ok (.iconst 0, 1) := by decide +kernel
theorem dX1_walk_50 : decode cX1_walk 50 = .ok (.istore 5, 2) := by decide +kernel
theorem dX1_walk_52 : decode cX1_walk 52 = .ok (.iload 5, 2) := by decide +kernel
theorem dX1_walk_54 : decode cX1_walk 54 = .ok (.aload_n 1, 1) := by decide +kernel
theorem dX1_walk_55 : decode cX1_walk 55 = .ok (.getfield 30, 3) := by decide +kernel
theorem dX1_walk_58 : decode cX1_walk 58 = .ok (.if_icmp .ge 29, 3) := by decide +kernel
theorem dX1_walk_61 : decode cX1_walk 61 = .ok (.aload_n 0, 1) := by decide +kernel
theorem dX1_walk_62 : decode cX1_walk 62 = .ok (.getfield 9, 3) := by decide +kernel
theorem dX1_walk_65 : decode cX1_walk 65 = .ok (.iload 5, 2) := by decide +kernel
theorem dX1_walk_67 : decode cX1_walk 67 = .ok (.iaload, 1) := by decide +kernel
theorem dX1_walk_68 : decode cX1_walk 68 = .ok (.iload 4, 2) := by decide +kernel
theorem dX1_walk_70 : decode cX1_walk 70 = .ok (.if_icmp .ne 11, 3) := by decide +kernel
theorem dX1_walk_73 : decode cX1_walk 73 = .ok (.aload_n 0, 1) := by decide +kernel
theorem dX1_walk_74 : decode cX1_walk 74 = .ok (.aload_n 1, 1) := by decide +kernel
theorem dX1_walk_75 : decode cX1_walk 75 = .ok (.iload 5, 2) := by decide +kernel
theorem dX1_walk_77 : decode cX1_walk 77 = .ok (.iload_n 3, 1) := by decide +kernel
theorem dX1_walk_78 : decode cX1_walk 78 = .ok (.invokevirtual 34, 3) := by decide +kernel
theorem dX1_walk_81 : decode cX1_walk 81 = .ok (.iinc 5 1, 3) := by decide +kernel
theorem dX1_walk_84 : decode cX1_walk 84 = .ok (.goto (-32), 3) := by decide +kernel
theorem dX1_walk_87 : decode cX1_walk 87 = .ok (.iinc 4 1, 3) := by decide +kernel
theorem dX1_walk_90 : decode cX1_walk 90 = .ok (.goto (-48), 3) := by decide +kernel
theorem dX1_walk_93 : decode cX1_walk 93 = .ok (.return_, 1) := by decide +kernel
theorem dX1_spread_0 : decode cX1_spread 0 = .ok (.iload_n 2, 1) := by decide +kernel
theorem dX1_spread_1 : decode cX1_spread 1 = .ok (.iconst 2, 1) := by decide +kernel
theorem dX1_spread_2 : decode cX1_spread 2 = .ok (.isub, 1) := by decide +kernel
theorem dX1_spread_3 : decode cX1_spread 3 = .ok (.istore 4, 2) := by decide +kernel
theorem dX1_spread_5 : decode cX1_spread 5 = .ok (.iload 4, 2) := by decide +kernel
theorem dX1_spread_7 : decode cX1_spread 7 = .ok (.iload_n 2, 1) := by decide +kernel
theorem dX1_spread_8 : decode cX1_spread 8 = .ok (.iconst 2, 1) := by decide +kernel
theorem dX1_spread_9 : decode cX1_spread 9 = .ok (.iadd, 1) := by decide +kernel
theorem dX1_spread_10 : decode cX1_spread 10 = .ok (.if_icmp .gt 120, 3) := by decide +kernel
theorem dX1_spread_13 : decode cX1_spread 13 = .ok (.iload 4, 2) := by decide +kernel
theorem dX1_spread_15 : decode cX1_spread 15 = .ok (.iload_n 2, 1) := by decide +kernel
theorem dX1_spread_16 : decode cX1_spread 16 = .ok (.if_icmp .eq 108, 3) := by decide +kernel
theorem dX1_spread_19 : decode cX1_spread 19 = .ok (.aload_n 1, 1) := by decide +kernel
theorem dX1_spread_20 : decode cX1_spread 20 = .ok (.iload 4, 2) := by decide +kernel
theorem dX1_spread_22 : decode cX1_spread 22 = .ok (.invokevirtual 24, 3) := by decide +kernel
theorem dX1_spread_25 : decode cX1_spread 25 = .ok (.ifCond .eq 99, 3) := by decide +kernel
theorem dX1_spread_28 : decode cX1_spread 28 = .ok (.aload_n 1, 1) := by decide +kernel
theorem dX1_spread_29 : decode cX1_spread 29 = .ok (.getfield 38, 3) := by decide +kernel
theorem dX1_spread_32 : decode cX1_spread 32 = .ok (.iload_n 2, 1) := by decide +kernel
theorem dX1_spread_33 : decode cX1_spread 33 = .ok (.iaload, 1) := by decide +kernel
theorem dX1_spread_34 : decode cX1_spread 34 = .ok (.aload_n 1, 1) := by decide +kernel
theorem dX1_spread_35 : decode cX1_spread 35 = .ok (.getfield 38, 3) := by decide +kernel
theorem dX1_spread_38 : decode cX1_spread 38 = .ok (.iload 4, 2) := by decide +kernel
theorem dX1_spread_40 : decode cX1_spread 40 = .ok (.iaload, 1) := by decide +kernel
theorem dX1_spread_41 : decode cX1_spread 41 = .ok (.isub, 1) := by decide +kernel
theorem dX1_spread_42 : decode cX1_spread 42 = .ok (.invokestatic 41, 3) := by decide +kernel
theorem dX1_spread_45 : decode cX1_spread 45 = .ok (.iload_n 3, 1) := by decide +kernel
theorem dX1_spread_46 : decode cX1_spread 46 = .ok (.if_icmp .le 6, 3) := by decide +kernel
theorem dX1_spread_49 : decode cX1_spread 49 = .ok (.goto 75, 3) := by decide +kernel
theorem dX1_spread_52 : decode cX1_spread 52 = .ok (.aload_n 0, 1) := by decide +kernel
theorem dX1_spread_53 : decode cX1_spread 53 = .ok (.getfield 9, 3) := by decide +kernel
theorem dX1_spread_56 : decode cX1_spread 56 = .ok (.iload 4, 2) := by decide +kernel
theorem dX1_spread_58 : decode cX1_spread 58 = .ok (.iaload, 1) := by decide +kernel
theorem dX1_spread_59 : decode cX1_spread 59 = .ok (.iconst (-1), 1) := by decide +kernel
theorem dX1_spread_60 : decode cX1_spread 60 = .ok (.if_icmp .ne 18, 3) := by decide +kernel
theorem dX1_spread_63 : decode cX1_spread 63 = .ok (.aload_n 0, 1) := by decide +kernel
theorem dX1_spread_64 : decode cX1_spread 64 = .ok (.getfield 9, 3) := by decide +kernel
theorem dX1_spread_67 : decode cX1_spread 67 = .ok (.iload 4, 2) := by decide +kernel
theorem dX1_spread_69 : decode cX1_spread 69 = .ok (.aload_n 0, 1) := by decide +kernel
theorem dX1_spread_70 : decode cX1_spread 70 = .ok (.getfield 9, 3) := by decide +kernel
theorem dX1_spread_73 : decode cX1_spread 73 = .ok (.iload_n 2, 1) := by decide +kernel
theorem dX1_spread_74 : decode cX1_spread 74 = .ok (.iaload, 1) := by decide +kernel
theorem dX1_spread_75 : decode cX1_spread 75 = .ok (.iconst 1, 1) := by decide +kernel
theorem dX1_spread_76 : decode cX1_spread 76 = .ok (.iadd, 1) := by decide +kernel
theorem dX1_spread_77 : decode cX1_spread 77 = .ok (.iastore, 1) := by decide +kernel
theorem dX1_spread_78 : decode cX1_spread 78 = .ok (.aload_n 0, 1) := by decide +kernel
theorem dX1_spread_79 : decode cX1_spread 79 = .ok (.getfield 9, 3) := by decide +kernel
theorem dX1_spread_82 : decode cX1_spread 82 = .ok (.iload 4, 2) := by decide +kernel
theorem dX1_spread_84 : decode cX1_spread 84 = .ok (.iaload, 1) := by decide +kernel
theorem dX1_spread_85 : decode cX1_spread 85 = .ok (.aload_n 0, 1) := by decide +kernel
theorem dX1_spread_86 : decode cX1_spread 86 = .ok (.getfield 9, 3) := by decide +kernel
theorem dX1_spread_89 : decode cX1_spread 89 = .ok (.iload_n 2, 1) := by decide +kernel
theorem dX1_spread_90 : decode cX1_spread 90 = .ok (.iaload, 1) := by decide +kernel
theorem dX1_spread_91 : decode cX1_spread 91 = .ok (.iconst 1, 1) := by decide +kernel
theorem dX1_spread_92 : decode cX1_spread 92 = .ok (.iadd, 1) := by decide +kernel
theorem dX1_spread_93 : decode cX1_spread 93 = .ok (.if_icmp .ne 31, 3) := by decide +kernel
theorem dX1_spread_96 : decode cX1_spread 96 = .ok (.aload_n 0, 1) := by decide +kernel
theorem dX1_spread_97 : decode cX1_spread 97 = .ok (.getfield 15, 3) := by decide +kernel
theorem dX1_spread_100 : decode cX1_spread 100 = .ok (.iload 4, 2) := by decide +kernel
theorem dX1_spread_102 : decode cX1_spread 102 = .ok (.aload_n 0, 1) := by decide +kernel
theorem dX1_spread_103 : decode cX1_spread 103 = .ok (.getfield 15, 3) := by decide +kernel
theorem dX1_spread_106 : decode cX1_spread 106 = .ok (.iload 4, 2) := by decide +kernel
theorem dX1_spread_108 : decode cX1_spread 108 = .ok (.iaload, 1) := by decide +kernel
theorem dX1_spread_109 : decode cX1_spread 109 = .ok (.i2l, 1) := by decide +kernel
theorem dX1_spread_110 : decode cX1_spread 110 = .ok (.aload_n 0, 1) := by decide +kernel
theorem dX1_spread_111 : decode cX1_spread 111 = .ok (.getfield 15, 3) := by decide +kernel
theorem dX1_spread_114 : decode cX1_spread 114 = .ok (.iload_n 2, 1) := by decide +kernel
theorem dX1_spread_115 : decode cX1_spread 115 = .ok (.iaload, 1) := by decide +kernel
theorem dX1_spread_116 : decode cX1_spread 116 = .ok (.i2l, 1) := by decide +kernel
theorem dX1_spread_117 : decode cX1_spread 117 = .ok (.ladd, 1) := by decide +kernel
theorem dX1_spread_118 : decode cX1_spread 118 = .ok (.ldc2_w 47, 3) := by decide +kernel
theorem dX1_spread_121 : decode cX1_spread 121 = .ok (.lrem, 1) := by decide +kernel
theorem dX1_spread_122 : decode cX1_spread 122 = .ok (.l2i, 1) := by decide +kernel
theorem dX1_spread_123 : decode cX1_spread 123 = .ok (.iastore, 1) := by decide +kernel
theorem dX1_spread_124 : decode cX1_spread 124 = .ok (.iinc 4 1, 3) := by decide +kernel
theorem dX1_spread_127 : decode cX1_spread 127 = .ok (.goto (-122), 3) := by decide +kernel
theorem dX1_spread_130 : decode cX1_spread 130 = .ok (.return_, 1) := by decide +kernel
theorem dX2_init_0 : decode cX2_init 0 = .ok (.aload_n 0, 1) := by decide +kernel
theorem dX2_init_1 : decode cX2_init 1 = .ok (.invokespecial 3, 3) := by decide +kernel
theorem dX2_init_4 : decode cX2_init 4 = .ok (.aload_n 0, 1) := by decide +kernel
theorem dX2_init_5 : decode cX2_init 5 = .ok (.sipush 400, 3) := by decide +kernel
theorem dX2_init_8 : decode cX2_init 8 = .ok (.newarray .int, 2) := by decide +kernel
theorem dX2_init_10 : decode cX2_init 10 = .ok (.putfield 9, 3) := by decide +kernel
theorem dX2_init_13 : decode cX2_init 13 = .ok (.aload_n 0, 1) := by decide +kernel
theorem dX2_init_14 : decode cX2_init 14 = .ok (.bipush 16, 2) := by decide +kernel
theorem dX2_init_16 : decode cX2_init 16 = .ok (.newarray .int, 2) := by decide +kernel
theorem dX2_init_18 : decode cX2_init 18 = .ok (.putfield 15, 3) := by decide +kernel
theorem dX2_init_21 : decode cX2_init 21 = .ok (.aload_n 0, 1) := by decide +kernel
theorem dX2_init_22 : decode cX2_init 22 = .ok (.bipush 16, 2) := by decide +kernel
theorem dX2_init_24 : decode cX2_init 24 = .ok (.newarray .int, 2) := by decide +kernel
theorem dX2_init_26 : decode cX2_init 26 = .ok (.putfield 18, 3) := by decide +kernel
theorem dX2_init_29 : decode cX2_init 29 = .ok (.aload_n 0, 1) := by decide +kernel
theorem dX2_init_30 : decode cX2_init 30 = .ok (.bipush 16, 2) := by decide +kernel
theorem dX2_init_32 : decode cX2_init 32 = .ok (.newarray .int, 2) := by decide +kernel
theorem dX2_init_34 : decode cX2_init 34 = .ok (.putfield 21, 3) := by decide +kernel
theorem dX2_init_37 : decode cX2_init 37 = .ok (.aload_n 0, 1) := by decide +kernel
theorem dX2_init_38 : decode cX2_init 38 = .ok (.bipush 16, 2) := by decide +kernel
theorem dX2_init_40 : decode cX2_init 40 = .ok (.newarray .int, 2) := by decide +kernel
theorem dX2_init_42 : decode cX2_init 42 = .ok (.putfield 24, 3) := by decide +kernel
theorem dX2_init_45 : decode cX2_init 45 = .ok (.aload_n 0, 1) := by decide +kernel
theorem dX2_init_46 : decode cX2_init 46 = .ok (.bipush 32, 2) := by decide +kernel
theorem dX2_init_48 : decode cX2_init 48 = .ok (.newarray .int, 2) := by decide +kernel
theorem dX2_init_50 : decode cX2_init 50 = .ok (.putfield 27, 3) := by decide +kernel
theorem dX2_init_53 : decode cX2_init 53 = .ok (.return_, 1) := by decide +kernel
theorem dX2_clear_0 : decode cX2_clear 0 = .ok (.aload_n 0, 1) := by decide +kernel
theorem dX2_clear_1 : decode cX2_clear 1 = .ok (.iconst 0, 1) := by decide +kernel
theorem dX2_clear_2 : decode cX2_clear 2 = .ok (.putfield 30, 3) := by decide +kernel
theorem dX2_clear_5 : decode cX2_clear 5 = .ok (.aload_n 0, 1) := by decide +kernel
theorem dX2_clear_6 : decode cX2_clear 6 = .ok (.iconst 0, 1) := by decide +kernel
theorem dX2_clear_7 : decode cX2_clear 7 = .ok (.putfield 34, 3) := by decide +kernel
theorem dX2_clear_10 : decode cX2_clear 10 = .ok (.return_, 1) := by decide +kernel
theorem dX2_copyFrom_0 : decode cX2_copyFrom 0 = .ok (.aload_n 1, 1) := by decide +kernel
theorem dX2_copyFrom_1 : decode cX2_copyFrom 1 = .ok (.getfield 9, 3) := by decide +kernel
theorem dX2_copyFrom_4 : decode cX2_copyFrom 4 = .ok (.iconst 0, 1) := by decide +kernel
theorem dX2_copyFrom_5 : decode cX2_copyFrom 5 = .ok (.aload_n 0, 1) := by decide +kernel
theorem dX2_copyFrom_6 : decode cX2_copyFrom 6 = .ok (.getfield 9, 3) := by decide +kernel
theorem dX2_copyFrom_9 : decode cX2_copyFrom 9 = .ok (.iconst 0, 1) := by decide +kernel
theorem dX2_copyFrom_10 : decode cX2_copyFrom 10 = .ok (.sipush 400, 3) := by decide +kernel
theorem dX2_copyFrom_13 : decode cX2_copyFrom 13 = .ok (.invokestatic 37, 3) := by decide +kernel
theorem dX2_copyFrom_16 : decode cX2_copyFrom 16 = .ok (.aload_n 1, 1) := by decide +kernel
theorem dX2_copyFrom_17 : decode cX2_copyFrom 17 = .ok (.getfield 15, 3) := by decide +kernel
theorem dX2_copyFrom_20 : decode cX2_copyFrom 20 = .ok (.iconst 0, 1) := by decide +kernel
theorem dX2_copyFrom_21 : decode cX2_copyFrom 21 = .ok (.aload_n 0, 1) := by decide +kernel
theorem dX2_copyFrom_22 : decode cX2_copyFrom 22 = .ok (.getfield 15, 3) := by decide +kernel
theorem dX2_copyFrom_25 : decode cX2_copyFrom 25 = .ok (.iconst 0, 1) := by decide +kernel
theorem dX2_copyFrom_26 : decode cX2_copyFrom 26 = .ok (.bipush 16, 2) := by decide +kernel
theorem dX2_copyFrom_28 : decode cX2_copyFrom 28 = .ok (.invokestatic 37, 3) := by decide +kernel
theorem dX2_copyFrom_31 : decode cX2_copyFrom 31 = .ok (.aload_n 1, 1) := by decide +kernel
theorem dX2_copyFrom_32 : decode cX2_copyFrom 32 = .ok (.getfield 18, 3) := by decide +kernel
theorem dX2_copyFrom_35 : decode cX2_copyFrom 35 = .ok (.iconst 0, 1) := by decide +kernel
theorem dX2_copyFrom_36 : decode cX2_copyFrom 36 = .ok (.aload_n 0, 1) := by decide +kernel
theorem dX2_copyFrom_37 : decode cX2_copyFrom 37 = .ok (.getfield 18, 3) := by decide +kernel
theorem dX2_copyFrom_40 : decode cX2_copyFrom 40 = .ok (.iconst 0, 1) := by decide +kernel
theorem dX2_copyFrom_41 : decode cX2_copyFrom 41 = .ok (.bipush 16, 2) := by decide +kernel
theorem dX2_copyFrom_43 : decode cX2_copyFrom 43 = .ok (.invokestatic 37, 3) := by decide +kernel
theorem dX2_copyFrom_46 : decode cX2_copyFrom 46 = .ok (.aload_n 1, 1) := by decide +kernel
theorem dX2_copyFrom_47 : decode cX2_copyFrom 47 = .ok (.getfield 21, 3) := by decide +kernel
theorem dX2_copyFrom_50 : decode cX2_copyFrom 50 = .ok (.iconst 0, 1) := by decide +kernel
theorem dX2_copyFrom_51 : decode cX2_copyFrom 51 = .ok (.aload_n 0, 1) := by decide +kernel
theorem dX2_copyFrom_52 : decode cX2_copyFrom 52 = .ok (.getfield 21, 3) := by decide +kernel
theorem dX2_copyFrom_55 : decode cX2_copyFrom 55 = .ok (.iconst 0, 1) := by decide +kernel
theorem dX2_copyFrom_56 : decode cX2_copyFrom 56 = .ok (.bipush 16, 2) := by decide +kernel
theorem dX2_copyFrom_58 : decode cX2_copyFrom 58 = .ok (.invokestatic 37, 3) := by decide +kernel
theorem dX2_copyFrom_61 : decode cX2_copyFrom 61 = .ok (.aload_n 1, 1) := by decide +kernel
theorem dX2_copyFrom_62 : decode cX2_copyFrom 62 = .ok (.getfield 24, 3) := by decide +kernel
theorem dX2_copyFrom_65 : decode cX2_copyFrom 65 = .ok (.iconst 0, 1) := by decide +kernel
theorem dX2_copyFrom_66 : decode cX2_copyFrom 66 = .ok (.aload_n 0, 1) := by decide +kernel
theorem dX2_copyFrom_67 : decode cX2_copyFrom 67 = .ok (.getfield 24, 3) := by decide +kernel
theorem dX2_copyFrom_70 : decode cX2_copyFrom 70 = .ok (.iconst 0, 1) := by decide +kernel
theorem dX2_copyFrom_71 : decode cX2_copyFrom 71 = .ok (.bipush 16, 2) := by decide +kernel
theorem dX2_copyFrom_73 : decode cX2_copyFrom 73 = .ok (.invokestatic 37, 3) := by decide +kernel
theorem dX2_copyFrom_76 : decode cX2_copyFrom 76 = .ok (.aload_n 0, 1) := by decide +kernel
theorem dX2_copyFrom_77 : decode cX2_copyFrom 77 = .ok (.aload_n 1, 1) := by decide +kernel
theorem dX2_copyFrom_78 : decode cX2_copyFrom 78 = .ok (.getfield 34, 3) := by decide +kernel
theorem dX2_copyFrom_81 : decode cX2_copyFrom 81 = .ok (.putfield 34, 3) := by decide +kernel
theorem dX2_copyFrom_84 : decode cX2_copyFrom 84 = .ok (.aload_n 0, 1) := by decide +kernel
theorem dX2_copyFrom_85 : decode cX2_copyFrom 85 = .ok (.aload_n 1, 1) := by decide +kernel
theorem dX2_copyFrom_86 : decode cX2_copyFrom 86 = .ok (.getfield 30, 3) := by decide +kernel
theorem dX2_copyFrom_89 : decode cX2_copyFrom 89 = .ok (.putfield 30, 3) := by decide +kernel
theorem dX2_copyFrom_92 : decode cX2_copyFrom 92 = .ok (.return_, 1) := by decide +kernel
theorem dX2_openLine_0 : decode cX2_openLine 0 = .ok (.aload_n 0, 1) := by decide +kernel
theorem dX2_openLine_1 : decode cX2_openLine 1 = .ok (.getfield 30, 3) := by decide +kernel
theorem dX2_openLine_4 : decode cX2_openLine 4 = .ok (.bipush 16, 2) := by decide +kernel
theorem dX2_openLine_6 : decode cX2_openLine 6 = .ok (.if_icmp .ge 26, 3) := by decide +kernel
theorem dX2_openLine_9 : decode cX2_openLine 9 = .ok (.aload_n 0, 1) := by decide +kernel
theorem dX2_openLine_10 : decode cX2_openLine 10 = .ok (.getfield 15, 3) := by decide +kernel
theorem dX2_openLine_13 : decode cX2_openLine 13 = .ok (.aload_n 0, 1) := by decide +kernel
theorem dX2_openLine_14 : decode cX2_openLine 14 = .ok (.getfield 30, 3) := by decide +kernel
theorem dX2_openLine_17 : decode cX2_openLine 17 = .ok (.iload_n 1, 1) := by decide +kernel
theorem dX2_openLine_18 : decode cX2_openLine 18 = .ok (.iastore, 1) := by decide +kernel
theorem dX2_openLine_19 : decode cX2_openLine 19 = .ok (.aload_n 0, 1) := by decide +kernel
theorem dX2_openLine_20 : decode cX2_openLine 20 = .ok (.getfield 18, 3) := by decide +kernel
theorem dX2_openLine_23 : decode cX2_openLine 23 = .ok (.aload_n 0, 1) := by decide +kernel
theorem dX2_openLine_24 : decode cX2_openLine 24 = .ok (.getfield 30, 3) := by decide +kernel
theorem dX2_openLine_27 : decode cX2_openLine 27 = .ok (.aload_n 0, 1) := by decide +kernel
theorem dX2_openLine_28 : decode cX2_openLine 28 = .ok (.getfield 34, 3) := by decide +kernel
theorem dX2_openLine_31 : decode cX2_openLine 31 = .ok (.iastore, 1) := by decide +kernel
theorem dX2_openLine_32 : decode cX2_openLine 32 = .ok (.return_, 1) := by decide +kernel
theorem dX2_markWhen_0 : decode cX2_markWhen 0 = .ok (.aload_n 0, 1) := by decide +kernel
theorem dX2_markWhen_1 : decode cX2_markWhen 1 = .ok (.getfield 30, 3) := by decide +kernel
theorem dX2_markWhen_4 : decode cX2_markWhen 4 = .ok (.bipush 16, 2) := by decide +kernel
theorem dX2_markWhen_6 : decode cX2_markWhen 6 = .ok (.if_icmp .ge 16, 3) := by decide +kernel
theorem dX2_markWhen_9 : decode cX2_markWhen 9 = .ok (.aload_n 0, 1) := by decide +kernel
theorem dX2_markWhen_10 : decode cX2_markWhen 10 = .ok (.getfield 21, 3) := by decide +kernel
theorem dX2_markWhen_13 : decode cX2_markWhen 13 = .ok (.aload_n 0, 1) := by decide +kernel
theorem dX2_markWhen_14 : decode cX2_markWhen 14 = .ok (.getfield 30, 3) := by decide +kernel
theorem dX2_markWhen_17 : decode cX2_markWhen 17 = .ok (.aload_n 0, 1) := by decide +kernel
theorem dX2_markWhen_18 : decode cX2_markWhen 18 = .ok (.getfield 34, 3) := by decide +kernel
theorem dX2_markWhen_21 : decode cX2_markWhen 21 = .ok (.iastore, 1) := by decide +kernel
theorem dX2_markWhen_22 : decode cX2_markWhen 22 = .ok (.return_, 1) := by decide +kernel
theorem dX2_closeLine_0 : decode cX2_closeLine 0 = .ok (.aload_n 0, 1) := by decide +kernel
theorem dX2_closeLine_1 : decode cX2_closeLine 1 = .ok (.getfield 30, 3) := by decide +kernel
theorem dX2_closeLine_4 : decode cX2_closeLine 4 = .ok (.bipush 16, 2) := by decide +kernel
theorem dX2_closeLine_6 : decode cX2_closeLine 6 = .ok (.if_icmp .ge 26, 3) := by decide +kernel
theorem dX2_closeLine_9 : decode cX2_closeLine 9 = .ok (.aload_n 0, 1) := by decide +kernel
theorem dX2_closeLine_10 : decode cX2_closeLine 10 = .ok (.getfield 24, 3) := by decide +kernel
theorem dX2_closeLine_13 : decode cX2_closeLine 13 = .ok (.aload_n 0, 1) := by decide +kernel
theorem dX2_closeLine_14 : decode cX2_closeLine 14 = .ok (.getfield 30, 3) := by decide +kernel
theorem dX2_closeLine_17 : decode cX2_closeLine 17 = .ok (.aload_n 0, 1) := by decide +kernel
theorem dX2_closeLine_18 : decode cX2_closeLine 18 = .ok (.getfield 34, 3) := by decide +kernel
theorem dX2_closeLine_21 : decode cX2_closeLine 21 = .ok (.iastore, 1) := by decide +kernel
theorem dX2_closeLine_22 : decode cX2_closeLine 22 = .ok (.aload_n 0, 1) := by decide +kernel
theorem dX2_closeLine_23 : decode cX2_closeLine 23 = .ok (.dup, 1) := by decide +kernel
theorem dX2_closeLine_24 : decode cX2_closeLine 24 = .ok (.getfield 30, 3) := by decide +kernel
theorem dX2_closeLine_27 : decode cX2_closeLine 27 = .ok (.iconst 1, 1) := by decide +kernel
theorem dX2_closeLine_28 : decode cX2_closeLine 28 = .ok (.iadd, 1) := by decide +kernel
theorem dX2_closeLine_29 : decode cX2_closeLine 29 = .ok (.putfield 30, 3) := by decide +kernel
theorem dX2_closeLine_32 : decode cX2_closeLine 32 = .ok (.return_, 1) := by decide +kernel
theorem dX2_emit_0 : decode cX2_emit 0 = .ok (.aload_n 0, 1) := by decide +kernel
theorem dX2_emit_1 : decode cX2_emit 1 = .ok (.getfield 34, 3) := by decide +kernel
theorem dX2_emit_4 : decode cX2_emit 4 = .ok (.sipush 400, 3) := by decide +kernel
theorem dX2_emit_7 : decode cX2_emit 7 = .ok (.if_icmp .ge 23, 3) := by decide +kernel
theorem dX2_emit_10 : decode cX2_emit 10 = .ok (.aload_n 0, 1) := by decide +kernel
theorem dX2_emit_11 : decode cX2_emit 11 = .ok (.getfield 9, 3) := by decide +kernel
theorem dX2_emit_14 : decode cX2_emit 14 = .ok (.aload_n 0, 1) := by decide +kernel
theorem dX2_emit_15 : decode cX2_emit 15 = .ok (.getfield 34, 3) := by decide +kernel
theorem dX2_emit_18 : decode cX2_emit 18 = .ok (.iload_n 1, 1) := by decide +kernel
theorem dX2_emit_19 : decode cX2_emit 19 = .ok (.iastore, 1) := by decide +kernel
theorem dX2_emit_20 : decode cX2_emit 20 = .ok (.aload_n 0, 1) := by decide +kernel
theorem dX2_emit_21 : decode cX2_emit 21 = .ok (.dup, 1) := by decide +kernel
theorem dX2_emit_22 : decode cX2_emit 22 = .ok (.getfield 34, 3) := by decide +kernel
theorem dX2_emit_25 : decode cX2_emit 25 = .ok (.iconst 1, 1) := by decide +kernel
theorem dX2_emit_26 : decode cX2_emit 26 = .ok (.iadd, 1) := by decide +kernel
theorem dX2_emit_27 : decode cX2_emit 27 = .ok (.putfield 34, 3) := by decide +kernel
theorem dX2_emit_30 : decode cX2_emit 30 = .ok (.return_, 1) := by decide +kernel
theorem dX2_tells_0 : decode cX2_tells 0 = .ok (.aload_n 2, 1) := by decide +kernel
theorem dX2_tells_1 : decode cX2_tells 1 = .ok (.iload_n 3, 1) := by decide +kernel
theorem dX2_tells_2 : decode cX2_tells 2 = .ok (.invokevirtual 43, 3) := by decide +kernel
theorem dX2_tells_5 : decode cX2_tells 5 = .ok (.ifCond .ne 5, 3) := by decide +kernel
theorem dX2_tells_8 : decode cX2_tells 8 = .ok (.iconst 0, 1) := by decide +kernel
theorem dX2_tells_9 : decode cX2_tells 9 = .ok (.ireturn, 1) := by decide +kernel
theorem dX2_tells_10 : decode cX2_tells 10 = .ok (.iconst 0, 1) := by decide +kernel
theorem dX2_tells_11 : decode cX2_tells 11 = .ok (.istore 4, 2) := by decide +kernel
theorem dX2_tells_13 : decode cX2_tells 13 = .ok (.iload 4, 2) := by decide +kernel
theorem dX2_tells_15 : decode cX2_tells 15 = .ok (.aload_n 0, 1) := by decide +kernel
theorem dX2_tells_16 : decode cX2_tells 16 = .ok (.getfield 30, 3) := by decide +kernel
theorem dX2_tells_19 : decode cX2_tells 19 = .ok (.if_icmp .ge 85, 3) := by decide +kernel
theorem dX2_tells_22 : decode cX2_tells 22 = .ok (.aload_n 0, 1) := by decide +kernel
theorem dX2_tells_23 : decode cX2_tells 23 = .ok (.getfield 15, 3) := by decide +kernel
theorem dX2_tells_26 : decode cX2_tells 26 = .ok (.iload 4, 2) := by decide +kernel
theorem dX2_tells_28 : decode cX2_tells 28 = .ok (.iaload, 1) := by decide +kernel
theorem dX2_tells_29 : decode cX2_tells 29 = .ok (.iload_n 1, 1) := by decide +kernel
theorem dX2_tells_30 : decode cX2_tells 30 = .ok (.if_icmp .ne 68, 3) := by decide +kernel
theorem dX2_tells_33 : decode cX2_tells 33 = .ok (.aload_n 0, 1) := by decide +kernel
theorem dX2_tells_34 : decode cX2_tells 34 = .ok (.getfield 21, 3) := by decide +kernel
theorem dX2_tells_37 : decode cX2_tells 37 = .ok (.iload 4, 2) := by decide +kernel
theorem dX2_tells_39 : decode cX2_tells 39 = .ok (.iaload, 1) := by decide +kernel
theorem dX2_tells_40 : decode cX2_tells 40 = .ok (.aload_n 0, 1) := by decide +kernel
theorem dX2_tells_41 : decode cX2_tells 41 = .ok (.getfield 24, 3) := by decide +kernel
theorem dX2_tells_44 : decode cX2_tells 44 = .ok (.iload 4, 2) := by decide +kernel
theorem dX2_tells_46 : decode cX2_tells 46 = .ok (.iaload, 1) := by decide +kernel
theorem dX2_tells_47 : decode cX2_tells 47 = .ok (.if_icmp .eq 26, 3) := by decide +kernel
theorem dX2_tells_50 : decode cX2_tells 50 = .ok (.aload_n 0, 1) := by decide +kernel
theorem dX2_tells_51 : decode cX2_tells 51 = .ok (.aload_n 0, 1) := by decide +kernel
theorem dX2_tells_52 : decode cX2_tells 52 = .ok (.getfield 21, 3) := by decide +kernel
theorem dX2_tells_55 : decode cX2_tells 55 = .ok (.iload 4, 2) := by decide +kernel
theorem dX2_tells_57 : decode cX2_tells 57 = .ok (.iaload, 1) := by decide +kernel
theorem dX2_tells_58 : decode cX2_tells 58 = .ok (.aload_n 0, 1) := by decide +kernel
theorem dX2_tells_59 : decode cX2_tells 59 = .ok (.getfield 24, 3) := by decide +kernel
theorem dX2_tells_62 : decode cX2_tells 62 = .ok (.iload 4, 2) := by decide +kernel
theorem dX2_tells_64 : decode cX2_tells 64 = .ok (.iaload, 1) := by decide +kernel
theorem dX2_tells_65 : decode cX2_tells 65 = .ok (.aload_n 2, 1) := by decide +kernel
theorem dX2_tells_66 : decode cX2_tells 66 = .ok (.iload_n 3, 1) := by decide +kernel
theorem dX2_tells_67 : decode cX2_tells 67 = .ok (.invokevirtual 49, 3) := by decide +kernel
theorem dX2_tells_70 : decode cX2_tells 70 = .ok (.ifCond .eq 28, 3) := by decide +kernel
theorem dX2_tells_73 : decode cX2_tells 73 = .ok (.iload_n 1, 1) := by decide +kernel
theorem dX2_tells_74 : decode cX2_tells 74 = .ok (.aload_n 0, 1) := by decide +kernel
theorem dX2_tells_75 : decode cX2_tells 75 = .ok (.aload_n 0, 1) := by decide +kernel
theorem dX2_tells_76 : decode cX2_tells 76 = .ok (.getfield 18, 3) := by decide +kernel
theorem dX2_tells_79 : decode cX2_tells 79 = .ok (.iload 4, 2) := by decide +kernel
theorem dX2_tells_81 : decode cX2_tells 81 = .ok (.iaload, 1) := by decide +kernel
theorem dX2_tells_82 : decode cX2_tells 82 = .ok (.aload_n 0, 1) := by decide +kernel
theorem dX2_tells_83 : decode cX2_tells 83 = .ok (.getfield 21, 3) := by decide +kernel
theorem dX2_tells_86 : decode cX2_tells 86 = .ok (.iload 4, 2) := by decide +kernel
theorem dX2_tells_88 : decode cX2_tells 88 = .ok (.iaload, 1) := by decide +kernel
theorem dX2_tells_89 : decode cX2_tells 89 = .ok (.aload_n 2, 1) := by decide +kernel
theorem dX2_tells_90 : decode cX2_tells 90 = .ok (.iload_n 3, 1) := by decide +kernel
theorem dX2_tells_91 : decode cX2_tells 91 = .ok (.invokevirtual 49, 3) := by decide +kernel
theorem dX2_tells_94 : decode cX2_tells 94 = .ok (.invokestatic 53, 3) := by decide +kernel
theorem dX2_tells_97 : decode cX2_tells 97 = .ok (.ireturn, 1) := by decide +kernel
theorem dX2_tells_98 : decode cX2_tells 98 = .ok (.iinc 4 1, 3) := by decide +kernel
theorem dX2_tells_101 : decode cX2_tells 101 = .ok (.goto (-88), 3) := by decide +kernel
theorem dX2_tells_104 : decode cX2_tells 104 = .ok (.iload_n 1, 1) := by decide +kernel
theorem dX2_tells_105 : decode cX2_tells 105 = .ok (.iload_n 1, 1) := by decide +kernel
theorem dX2_tells_106 : decode cX2_tells 106 = .ok (.aload_n 2, 1) := by decide +kernel
theorem dX2_tells_107 : decode cX2_tells 107 = .ok (.iload_n 3, 1) := by decide +kernel
theorem dX2_tells_108 : decode cX2_tells 108 = .ok (.invokestatic 57, 3) := by decide +kernel
theorem dX2_tells_111 : decode cX2_tells 111 = .ok (.invokestatic 53, 3) := by decide +kernel
theorem dX2_tells_114 : decode cX2_tells 114 = .ok (.ireturn, 1) := by decide +kernel
theorem dX2_bounded_0 : decode cX2_bounded 0 = .ok (.iload_n 0, 1) := by decide +kernel
theorem dX2_bounded_1 : decode cX2_bounded 1 = .ok (.lookupswitch 44 #[(0, 27), (1, 35)], 27) := by decide +kernel
theorem dX2_bounded_28 : decode cX2_bounded 28 = .ok (.iload_n 1, 1) := by decide +kernel
theorem dX2_bounded_29 : decode cX2_bounded 29 = .ok (.iconst 0, 1) := by decide +kernel
theorem dX2_bounded_30 : decode cX2_bounded 30 = .ok (.bipush 99, 2) := by decide +kernel
theorem dX2_bounded_32 : decode cX2_bounded 32 = .ok (.invokestatic 61, 3) := by decide +kernel
theorem dX2_bounded_35 : decode cX2_bounded 35 = .ok (.ireturn, 1) := by decide +kernel
theorem dX2_bounded_36 : decode cX2_bounded 36 = .ok (.iload_n 1, 1) := by decide +kernel
theorem dX2_bounded_37 : decode cX2_bounded 37 = .ok (.iconst 0, 1) := by decide +kernel
theorem dX2_bounded_38 : decode cX2_bounded 38 = .ok (.sipush 1000, 3) := by decide +kernel
theorem dX2_bounded_41 : decode cX2_bounded 41 = .ok (.invokestatic 61, 3) := by decide +kernel
theorem dX2_bounded_44 : decode cX2_bounded 44 = .ok (.ireturn, 1) := by decide +kernel
theorem dX2_bounded_45 : decode cX2_bounded 45 = .ok (.iload_n 1, 1) := by decide +kernel
theorem dX2_bounded_46 : decode cX2_bounded 46 = .ok (.bipush (-99), 2) := by decide +kernel
theorem dX2_bounded_48 : decode cX2_bounded 48 = .ok (.bipush 99, 2) := by decide +kernel
theorem dX2_bounded_50 : decode cX2_bounded 50 = .ok (.invokestatic 61, 3) := by decide +kernel
theorem dX2_bounded_53 : decode cX2_bounded 53 = .ok (.ireturn, 1) := by decide +kernel
theorem dX2_usual_0 : decode cX2_usual 0 = .ok (.aload_n 1, 1) := by decide +kernel
theorem dX2_usual_1 : decode cX2_usual 1 = .ok (.iload_n 2, 1) := by decide +kernel
theorem dX2_usual_2 : decode cX2_usual 2 = .ok (.invokevirtual 43, 3) := by decide +kernel
theorem dX2_usual_5 : decode cX2_usual 5 = .ok (.ifCond .ne 5, 3) := by decide +kernel
theorem dX2_usual_8 : decode cX2_usual 8 = .ok (.iconst 0, 1) := by decide +kernel
theorem dX2_usual_9 : decode cX2_usual 9 = .ok (.ireturn, 1) := by decide +kernel
theorem dX2_usual_10 : decode cX2_usual 10 = .ok (.iload_n 0, 1) := by decide +kernel
theorem dX2_usual_11 : decode cX2_usual 11 = .ok (.lookupswitch 70 #[(0, 25), (1, 37)], 25) := by decide +kernel
theorem dX2_usual_36 : decode cX2_usual 36 = .ok (.iconst 1, 1) := by decide +kernel
theorem dX2_usual_37 : decode cX2_usual 37 = .ok (.aload_n 1, 1) := by decide +kernel
theorem dX2_usual_38 : decode cX2_usual 38 = .ok (.getfield 65, 3) := by decide +kernel
theorem dX2_usual_41 : decode cX2_usual 41 = .ok (.iload_n 2, 1) := by decide +kernel
theorem dX2_usual_42 : decode cX2_usual 42 = .ok (.iaload, 1) := by decide +kernel
theorem dX2_usual_43 : decode cX2_usual 43 = .ok (.bipush 20, 2) := by decide +kernel
theorem dX2_usual_45 : decode cX2_usual 45 = .ok (.idiv, 1) := by decide +kernel
theorem dX2_usual_46 : decode cX2_usual 46 = .ok (.iadd, 1) := by decide +kernel
theorem dX2_usual_47 : decode cX2_usual 47 = .ok (.ireturn, 1) := by decide +kernel
theorem dX2_usual_48 : decode cX2_usual 48 = .ok (.iconst 0, 1) := by decide +kernel
theorem dX2_usual_49 : decode cX2_usual 49 = .ok (.aload_n 1, 1) := by decide +kernel
theorem dX2_usual_50 : decode cX2_usual 50 = .ok (.getfield 68, 3) := by decide +kernel
theorem dX2_usual_53 : decode cX2_usual 53 = .ok (.iload_n 2, 1) := by decide +kernel
theorem dX2_usual_54 : decode cX2_usual 54 = .ok (.iaload, 1) := by decide +kernel
theorem dX2_usual_55 : decode cX2_usual 55 = .ok (.bipush 70, 2) := by decide +kernel
theorem dX2_usual_57 : decode cX2_usual 57 = .ok (.isub, 1) := by decide +kernel
theorem dX2_usual_58 : decode cX2_usual 58 = .ok (.invokestatic 71, 3) := by decide +kernel
theorem dX2_usual_61 : decode cX2_usual 61 = .ok (.iconst 5, 1) := by decide +kernel
theorem dX2_usual_62 : decode cX2_usual 62 = .ok (.imul, 1) := by decide +kernel
theorem dX2_usual_63 : decode cX2_usual 63 = .ok (.iconst 0, 1) := by decide +kernel
theorem dX2_usual_64 : decode cX2_usual 64 = .ok (.aload_n 1, 1) := by decide +kernel
theorem dX2_usual_65 : decode cX2_usual 65 = .ok (.getfield 65, 3) := by decide +kernel
theorem dX2_usual_68 : decode cX2_usual 68 = .ok (.iload_n 2, 1) := by decide +kernel
theorem dX2_usual_69 : decode cX2_usual 69 = .ok (.iaload, 1) := by decide +kernel
theorem dX2_usual_70 : decode cX2_usual 70 = .ok (.bipush 80, 2) := by decide +kernel
theorem dX2_usual_72 : decode cX2_usual 72 = .ok (.isub, 1) := by decide +kernel
theorem dX2_usual_73 : decode cX2_usual 73 = .ok (.invokestatic 71, 3) := by decide +kernel
theorem dX2_usual_76 : decode cX2_usual 76 = .ok (.bipush 20, 2) := by decide +kernel
theorem dX2_usual_78 : decode cX2_usual 78 = .ok (.imul, 1) := by decide +kernel
theorem dX2_usual_79 : decode cX2_usual 79 = .ok (.iadd, 1) := by decide +kernel
theorem dX2_usual_80 : decode cX2_usual 80 = .ok (.ireturn, 1) := by decide +kernel
theorem dX2_usual_81 : decode cX2_usual 81 = .ok (.aload_n 1, 1) := by decide +kernel
theorem dX2_usual_82 : decode cX2_usual 82 = .ok (.iload_n 2, 1) := by decide +kernel
theorem dX2_usual_83 : decode cX2_usual 83 = .ok (.invokevirtual 76, 3) := by decide +kernel
theorem dX2_usual_86 : decode cX2_usual 86 = .ok (.aload_n 1, 1) := by decide +kernel
theorem dX2_usual_87 : decode cX2_usual 87 = .ok (.getfield 80, 3) := by decide +kernel
theorem dX2_usual_90 : decode cX2_usual 90 = .ok (.iload_n 2, 1) := by decide +kernel
theorem dX2_usual_91 : decode cX2_usual 91 = .ok (.iaload, 1) := by decide +kernel
theorem dX2_usual_92 : decode cX2_usual 92 = .ok (.isub, 1) := by decide +kernel
theorem dX2_usual_93 : decode cX2_usual 93 = .ok (.iconst 4, 1) := by decide +kernel
theorem dX2_usual_94 : decode cX2_usual 94 = .ok (.invokestatic 83, 3) := by decide +kernel
theorem dX2_usual_97 : decode cX2_usual 97 = .ok (.ireturn, 1) := by decide +kernel
theorem dX2_run_0 : decode cX2_run 0 = .ok (.iconst 0, 1) := by decide +kernel
theorem dX2_run_1 : decode cX2_run 1 = .ok (.istore 5, 2) := by decide +kernel
theorem dX2_run_3 : decode cX2_run 3 = .ok (.iconst 0, 1) := by decide +kernel
theorem dX2_run_4 : decode cX2_run 4 = .ok (.iload_n 1, 1) := by decide +kernel
theorem dX2_run_5 : decode cX2_run 5 = .ok (.invokestatic 71, 3) := by decide +kernel
theorem dX2_run_8 : decode cX2_run 8 = .ok (.istore 6, 2) := by decide +kernel
theorem dX2_run_10 : decode cX2_run 10 = .ok (.iload 6, 2) := by decide +kernel
theorem dX2_run_12 : decode cX2_run 12 = .ok (.iload_n 2, 1) := by decide +kernel
theorem dX2_run_13 : decode cX2_run 13 = .ok (.if_icmp .ge 177, 3) := by decide +kernel
theorem dX2_run_16 : decode cX2_run 16 = .ok (.iload 6, 2) := by decide +kernel
theorem dX2_run_18 : decode cX2_run 18 = .ok (.sipush 400, 3) := by decide +kernel
theorem dX2_run_21 : decode cX2_run 21 = .ok (.if_icmp .ge 169, 3) := by decide +kernel
theorem dX2_run_24 : decode cX2_run 24 = .ok (.aload_n 0, 1) := by decide +kernel
theorem dX2_run_25 : decode cX2_run 25 = .ok (.getfield 9, 3) := by decide +kernel
theorem dX2_run_28 : decode cX2_run 28 = .ok (.iload 6, 2) := by decide +kernel
theorem dX2_run_30 : decode cX2_run 30 = .ok (.iaload, 1) := by decide +kernel
theorem dX2_run_31 : decode cX2_run 31 = .ok (.istore 7, 2) := by decide +kernel
theorem dX2_run_33 : decode cX2_run 33 = .ok (.iload 7, 2) := by decide +kernel
theorem dX2_run_35 : decode cX2_run 35 = .ok (.ifCond .ge 10, 3) := by decide +kernel
theorem dX2_run_38 : decode cX2_run 38 = .ok (.iload 7, 2) := by decide +kernel
theorem dX2_run_40 : decode cX2_run 40 = .ok (.bipush (-100), 2) := by decide +kernel
theorem dX2_run_42 : decode cX2_run 42 = .ok (.if_icmp .gt 47, 3) := by decide +kernel
theorem dX2_run_45 : decode cX2_run 45 = .ok (.iload 5, 2) := by decide +kernel
theorem dX2_run_47 : decode cX2_run 47 = .ok (.aload_n 0, 1) := by decide +kernel
theorem dX2_run_48 : decode cX2_run 48 = .ok (.getfield 27, 3) := by decide +kernel
theorem dX2_run_51 : decode cX2_run 51 = .ok (.arraylength, 1) := by decide +kernel
theorem dX2_run_52 : decode cX2_run 52 = .ok (.if_icmp .ge 132, 3) := by decide +kernel
theorem dX2_run_55 : decode cX2_run 55 = .ok (.aload_n 0, 1) := by decide +kernel
theorem dX2_run_56 : decode cX2_run 56 = .ok (.getfield 27, 3) := by decide +kernel
theorem dX2_run_59 : decode cX2_run 59 = .ok (.iload 5, 2) := by decide +kernel
theorem dX2_run_61 : decode cX2_run 61 = .ok (.iload 7, 2) := by decide +kernel
theorem dX2_run_63 : decode cX2_run 63 = .ok (.ifCond .lt 8, 3) := by decide +kernel
theorem dX2_run_66 : decode cX2_run 66 = .ok (.iload 7, 2) := by decide +kernel
theorem dX2_run_68 : decode cX2_run 68 = .ok (.goto 14, 3) := by decide +kernel
theorem dX2_run_71 : decode cX2_run 71 = .ok (.bipush (-100), 2) := by decide +kernel
theorem dX2_run_73 : decode cX2_run 73 = .ok (.iload 7, 2) := by decide +kernel
theorem dX2_run_75 : decode cX2_run 75 = .ok (.isub, 1) := by decide +kernel
theorem dX2_run_76 : decode cX2_run 76 = .ok (.aload_n 3, 1) := by decide +kernel
theorem dX2_run_77 : decode cX2_run 77 = .ok (.iload 4, 2) := by decide +kernel
theorem dX2_run_79 : decode cX2_run 79 = .ok (.invokestatic 86, 3) := by decide +kernel
theorem dX2_run_82 : decode cX2_run 82 = .ok (.iastore, 1) := by decide +kernel
theorem dX2_run_83 : decode cX2_run 83 = .ok (.iinc 5 1, 3) := by decide +kernel
theorem dX2_run_86 : decode cX2_run 86 = .ok (.goto 98, 3) := by decide +kernel
theorem dX2_run_89 : decode cX2_run 89 = .ok (.iload 7, 2) := by decide +kernel
theorem dX2_run_91 : decode cX2_run 91 = .ok (.bipush (-10), 2) := by decide +kernel
theorem dX2_run_93 : decode cX2_run 93 = .ok (.if_icmp .ne 42, 3) := by decide +kernel
theorem dX2_run_96 : decode cX2_run 96 = .ok (.iload 5, 2) := by decide +kernel
theorem dX2_run_98 : decode cX2_run 98 = .ok (.iconst 1, 1) := by decide +kernel
theorem dX2_run_99 : decode cX2_run 99 = .ok (.if_icmp .lt 85, 3) := by decide +kernel
theorem dX2_run_102 : decode cX2_run 102 = .ok (.iload 5, 2) := by decide +kernel
theorem dX2_run_104 : decode cX2_run 104 = .ok (.aload_n 0, 1) := by decide +kernel
theorem dX2_run_105 : decode cX2_run 105 = .ok (.getfield 27, 3) := by decide +kernel
theorem dX2_run_108 : decode cX2_run 108 = .ok (.arraylength, 1) := by decide +kernel
theorem dX2_run_109 : decode cX2_run 109 = .ok (.if_icmp .gt 75, 3) := by decide +kernel
theorem dX2_run_112 : decode cX2_run 112 = .ok (.aload_n 0, 1) := by decide +kernel
theorem dX2_run_113 : decode cX2_run 113 = .ok (.getfield 27, 3) := by decide +kernel
theorem dX2_run_116 : decode cX2_run 116 = .ok (.iload 5, 2) := by decide +kernel
theorem dX2_run_118 : decode cX2_run 118 = .ok (.iconst 1, 1) := by decide +kernel
theorem dX2_run_119 : decode cX2_run 119 = .ok (.isub, 1) := by decide +kernel
theorem dX2_run_120 : decode cX2_run 120 = .ok (.iconst 1, 1) := by decide +kernel
theorem dX2_run_121 : decode cX2_run 121 = .ok (.aload_n 0, 1) := by decide +kernel
theorem dX2_run_122 : decode cX2_run 122 = .ok (.getfield 27, 3) := by decide +kernel
theorem dX2_run_125 : decode cX2_run 125 = .ok (.iload 5, 2) := by decide +kernel
theorem dX2_run_127 : decode cX2_run 127 = .ok (.iconst 1, 1) := by decide +kernel
theorem dX2_run_128 : decode cX2_run 128 = .ok (.isub, 1) := by decide +kernel
theorem dX2_run_129 : decode cX2_run 129 = .ok (.iaload, 1) := by decide +kernel
theorem dX2_run_130 : decode cX2_run 130 = .ok (.isub, 1) := by decide +kernel
theorem dX2_run_131 : decode cX2_run 131 = .ok (.iastore, 1) := by decide +kernel
theorem dX2_run_132 : decode cX2_run 132 = .ok (.goto 52, 3) := by decide +kernel
theorem dX2_run_135 : decode cX2_run 135 = .ok (.iload 5, 2) := by decide +kernel
theorem dX2_run_137 : decode cX2_run 137 = .ok (.iconst 2, 1) := by decide +kernel
theorem dX2_run_138 : decode cX2_run 138 = .ok (.if_icmp .lt 46, 3) := by decide +kernel
theorem dX2_run_141 : decode cX2_run 141 = .ok (.iload 5, 2) := by decide +kernel
theorem dX2_run_143 : decode cX2_run 143 = .ok (.aload_n 0, 1) := by decide +kernel
theorem dX2_run_144 : decode cX2_run 144 = .ok (.getfield 27, 3) := by decide +kernel
theorem dX2_run_147 : decode cX2_run 147 = .ok (.arraylength, 1) := by decide +kernel
theorem dX2_run_148 : decode cX2_run 148 = .ok (.if_icmp .gt 36, 3) := by decide +kernel
theorem dX2_run_151 : decode cX2_run 151 = .ok (.iinc 5 (-1), 3) := by decide +kernel
theorem dX2_run_154 : decode cX2_run 154 = .ok (.aload_n 0, 1) := by decide +kernel
theorem dX2_run_155 : decode cX2_run 155 = .ok (.getfield 27, 3) := by decide +kernel
theorem dX2_run_158 : decode cX2_run 158 = .ok (.iload 5, 2) := by decide +kernel
theorem dX2_run_160 : decode cX2_run 160 = .ok (.iconst 1, 1) := by decide +kernel
theorem dX2_run_161 : decode cX2_run 161 = .ok (.isub, 1) := by decide +kernel
theorem dX2_run_162 : decode cX2_run 162 = .ok (.iload 7, 2) := by decide +kernel
theorem dX2_run_164 : decode cX2_run 164 = .ok (.aload_n 0, 1) := by decide +kernel
theorem dX2_run_165 : decode cX2_run 165 = .ok (.getfield 27, 3) := by decide +kernel
theorem dX2_run_168 : decode cX2_run 168 = .ok (.iload 5, 2) := by decide +kernel
theorem dX2_run_170 : decode cX2_run 170 = .ok (.iconst 1, 1) := by decide +kernel
theorem dX2_run_171 : decode cX2_run 171 = .ok (.isub, 1) := by decide +kernel
theorem dX2_run_172 : decode cX2_run 172 = .ok (.iaload, 1) := by decide +kernel
theorem dX2_run_173 : decode cX2_run 173 = .ok (.aload_n 0, 1) := by decide +kernel
theorem dX2_run_174 : decode cX2_run 174 = .ok (.getfield 27, 3) := by decide +kernel
theorem dX2_run_177 : decode cX2_run 177 = .ok (.iload 5, 2) := by decide +kernel
theorem dX2_run_179 : decode cX2_run 179 = .ok (.iaload, 1) := by decide +kernel
theorem dX2_run_180 : decode cX2_run 180 = .ok (.invokestatic 89, 3) := by decide +kernel
theorem dX2_run_183 : decode cX2_run 183 = .ok (.iastore, 1) := by decide +kernel
theorem dX2_run_184 : decode cX2_run 184 = .ok (.iinc 6 1, 3) := by decide +kernel
theorem dX2_run_187 : decode cX2_run 187 = .ok (.goto (-177), 3) := by decide +kernel
theorem dX2_run_190 : decode cX2_run 190 = .ok (.iload 5, 2) := by decide +kernel
theorem dX2_run_192 : decode cX2_run 192 = .ok (.ifCond .le 12, 3) := by decide +kernel
theorem dX2_run_195 : decode cX2_run 195 = .ok (.aload_n 0, 1) := by decide +kernel
theorem dX2_run_196 : decode cX2_run 196 = .ok (.getfield 27, 3) := by decide +kernel
theorem dX2_run_199 : decode cX2_run 199 = .ok (.iconst 0, 1) := by decide +kernel
theorem dX2_run_200 : decode cX2_run 200 = .ok (.iaload, 1) := by decide +kernel
theorem dX2_run_201 : decode cX2_run 201 = .ok (.goto 4, 3) := by decide +kernel
theorem dX2_run_204 : decode cX2_run 204 = .ok (.iconst 0, 1) := by decide +kernel
theorem dX2_run_205 : decode cX2_run 205 = .ok (.ireturn, 1) := by decide +kernel
theorem dX2_joined_0 : decode cX2_joined 0 = .ok (.iload_n 0, 1) := by decide +kernel
theorem dX2_joined_1 : decode cX2_joined 1 = .ok (.tableswitch 108 (-8) (-1) #[104, 93, 82, 71, 59, 55, 51, 47], 47) := by decide +kernel
theorem dX2_joined_48 : decode cX2_joined 48 = .ok (.iload_n 1, 1) := by decide +kernel
theorem dX2_joined_49 : decode cX2_joined 49 = .ok (.iload_n 2, 1) := by decide +kernel
theorem dX2_joined_50 : decode cX2_joined 50 = .ok (.iadd, 1) := by decide +kernel
theorem dX2_joined_51 : decode cX2_joined 51 = .ok (.ireturn, 1) := by decide +kernel
theorem dX2_joined_52 : decode cX2_joined 52 = .ok (.iload_n 1, 1) := by decide +kernel
theorem dX2_joined_53 : decode cX2_joined 53 = .ok (.iload_n 2, 1) := by decide +kernel
theorem dX2_joined_54 : decode cX2_joined 54 = .ok (.isub, 1) := by decide +kernel
theorem dX2_joined_55 : decode cX2_joined 55 = .ok (.ireturn, 1) := by decide +kernel
theorem dX2_joined_56 : decode cX2_joined 56 = .ok (.iload_n 1, 1) := by decide +kernel
theorem dX2_joined_57 : decode cX2_joined 57 = .ok (.iload_n 2, 1) := by decide +kernel
theorem dX2_joined_58 : decode cX2_joined 58 = .ok (.imul, 1) := by decide +kernel
theorem dX2_joined_59 : decode cX2_joined 59 = .ok (.ireturn, 1) := by decide +kernel
theorem dX2_joined_60 : decode cX2_joined 60 = .ok (.iload_n 2, 1) := by decide +kernel
theorem dX2_joined_61 : decode cX2_joined 61 = .ok (.ifCond .ne 7, 3) := by decide +kernel
theorem dX2_joined_64 : decode cX2_joined 64 = .ok (.iconst 0, 1) := by decide +kernel
theorem dX2_joined_65 : decode cX2_joined 65 = .ok (.goto 6, 3) := by decide +kernel
theorem dX2_joined_68 : decode cX2_joined 68 = .ok (.iload_n 1, 1) := by decide +kernel
theorem dX2_joined_69 : decode cX2_joined 69 = .ok (.iload_n 2, 1) := by decide +kernel
theorem dX2_joined_70 : decode cX2_joined 70 = .ok (.idiv, 1) := by decide +kernel
theorem dX2_joined_71 : decode cX2_joined 71 = .ok (.ireturn, 1) := by decide +kernel
theorem dX2_joined_72 : decode cX2_joined 72 = .ok (.iload_n 1, 1) := by decide +kernel
theorem dX2_joined_73 : decode cX2_joined 73 = .ok (.iload_n 2, 1) := by decide +kernel
theorem dX2_joined_74 : decode cX2_joined 74 = .ok (.if_icmp .ge 7, 3) := by decide +kernel
theorem dX2_joined_77 : decode cX2_joined 77 = .ok (.iconst 1, 1) := by decide +kernel
theorem dX2_joined_78 : decode cX2_joined 78 = .ok (.goto 4, 3) := by decide +kernel
theorem dX2_joined_81 : decode cX2_joined 81 = .ok (.iconst 0, 1) := by decide +kernel
theorem dX2_joined_82 : decode cX2_joined 82 = .ok (.ireturn, 1) := by decide +kernel
theorem dX2_joined_83 : decode cX2_joined 83 = .ok (.iload_n 1, 1) := by decide +kernel
theorem dX2_joined_84 : decode cX2_joined 84 = .ok (.iload_n 2, 1) := by decide +kernel
theorem dX2_joined_85 : decode cX2_joined 85 = .ok (.if_icmp .ne 7, 3) := by decide +kernel
theorem dX2_joined_88 : decode cX2_joined 88 = .ok (.iconst 1, 1) := by decide +kernel
theorem dX2_joined_89 : decode cX2_joined 89 = .ok (.goto 4, 3) := by decide +kernel
theorem dX2_joined_92 : decode cX2_joined 92 = .ok (.iconst 0, 1) := by decide +kernel
theorem dX2_joined_93 : decode cX2_joined 93 = .ok (.ireturn, 1) := by decide +kernel
theorem dX2_joined_94 : decode cX2_joined 94 = .ok (.iload_n 1, 1) := by decide +kernel
theorem dX2_joined_95 : decode cX2_joined 95 = .ok (.iload_n 2, 1) := by decide +kernel
theorem dX2_joined_96 : decode cX2_joined 96 = .ok (.if_icmp .le 7, 3) := by decide +kernel
theorem dX2_joined_99 : decode cX2_joined 99 = .ok (.iconst 1, 1) := by decide +kernel
theorem dX2_joined_100 : decode cX2_joined 100 = .ok (.goto 4, 3) := by decide +kernel
theorem dX2_joined_103 : decode cX2_joined 103 = .ok (.iconst 0, 1) := by decide +kernel
theorem dX2_joined_104 : decode cX2_joined 104 = .ok (.ireturn, 1) := by decide +kernel
theorem dX2_joined_105 : decode cX2_joined 105 = .ok (.iload_n 1, 1) := by decide +kernel
theorem dX2_joined_106 : decode cX2_joined 106 = .ok (.iload_n 2, 1) := by decide +kernel
theorem dX2_joined_107 : decode cX2_joined 107 = .ok (.iand, 1) := by decide +kernel
theorem dX2_joined_108 : decode cX2_joined 108 = .ok (.ireturn, 1) := by decide +kernel
theorem dX2_joined_109 : decode cX2_joined 109 = .ok (.iload_n 1, 1) := by decide +kernel
theorem dX2_joined_110 : decode cX2_joined 110 = .ok (.iload_n 2, 1) := by decide +kernel
theorem dX2_joined_111 : decode cX2_joined 111 = .ok (.ior, 1) := by decide +kernel
theorem dX2_joined_112 : decode cX2_joined 112 = .ok (.ireturn, 1) := by decide +kernel
theorem dX2_named_0 : decode cX2_named 0 = .ok (.aload_n 1, 1) := by decide +kernel
theorem dX2_named_1 : decode cX2_named 1 = .ok (.iload_n 2, 1) := by decide +kernel
theorem dX2_named_2 : decode cX2_named 2 = .ok (.invokevirtual 43, 3) := by decide +kernel
theorem dX2_named_5 : decode cX2_named 5 = .ok (.ifCond .ne 5, 3) := by decide +kernel
theorem dX2_named_8 : decode cX2_named 8 = .ok (.iconst 0, 1) := by decide +kernel
theorem dX2_named_9 : decode cX2_named 9 = .ok (.ireturn, 1) := by decide +kernel
theorem dX2_named_10 : decode cX2_named 10 = .ok (.aload_n 1, 1) := by decide +kernel
theorem dX2_named_11 : decode cX2_named 11 = .ok (.iload_n 2, 1) := by decide +kernel
theorem dX2_named_12 : decode cX2_named 12 = .ok (.invokevirtual 92, 3) := by decide +kernel
theorem dX2_named_15 : decode cX2_named 15 = .ok (.istore_n 3, 1) := by decide +kernel
theorem dX2_named_16 : decode cX2_named 16 = .ok (.iload_n 0, 1) := by decide +kernel
theorem dX2_named_17 : decode cX2_named 17 = .ok (.tableswitch 106 7 14 #[47, 54, 61, 68, 75, 79, 95, 100], 47) := by decide +kernel
theorem dX2_named_64 : decode cX2_named 64 = .ok (.aload_n 1, 1) := by decide +kernel
theorem dX2_named_65 : decode cX2_named 65 = .ok (.getfield 68, 3) := by decide +kernel
theorem dX2_named_68 : decode cX2_named 68 = .ok (.iload_n 2, 1) := by decide +kernel
theorem dX2_named_69 : decode cX2_named 69 = .ok (.iaload, 1) := by decide +kernel
theorem dX2_named_70 : decode cX2_named 70 = .ok (.ireturn, 1) := by decide +kernel
theorem dX2_named_71 : decode cX2_named 71 = .ok (.aload_n 1, 1) := by decide +kernel
theorem dX2_named_72 : decode cX2_named 72 = .ok (.getfield 95, 3) := by decide +kernel
theorem dX2_named_75 : decode cX2_named 75 = .ok (.iload_n 2, 1) := by decide +kernel
theorem dX2_named_76 : decode cX2_named 76 = .ok (.iaload, 1) := by decide +kernel
theorem dX2_named_77 : decode cX2_named 77 = .ok (.ireturn, 1) := by decide +kernel
theorem dX2_named_78 : decode cX2_named 78 = .ok (.aload_n 1, 1) := by decide +kernel
theorem dX2_named_79 : decode cX2_named 79 = .ok (.getfield 80, 3) := by decide +kernel
theorem dX2_named_82 : decode cX2_named 82 = .ok (.iload_n 2, 1) := by decide +kernel
theorem dX2_named_83 : decode cX2_named 83 = .ok (.iaload, 1) := by decide +kernel
theorem dX2_named_84 : decode cX2_named 84 = .ok (.ireturn, 1) := by decide +kernel
theorem dX2_named_85 : decode cX2_named 85 = .ok (.aload_n 1, 1) := by decide +kernel
theorem dX2_named_86 : decode cX2_named 86 = .ok (.getfield 65, 3) := by decide +kernel
theorem dX2_named_89 : decode cX2_named 89 = .ok (.iload_n 2, 1) := by decide +kernel
theorem dX2_named_90 : decode cX2_named 90 = .ok (.iaload, 1) := by decide +kernel
theorem dX2_named_91 : decode cX2_named 91 = .ok (.ireturn, 1) := by decide +kernel
theorem dX2_named_92 : decode cX2_named 92 = .ok (.iload_n 3, 1) := by decide +kernel
theorem dX2_named_93 : decode cX2_named 93 = .ok (.iconst 1, 1) := by decide +kernel
theorem dX2_named_94 : decode cX2_named 94 = .ok (.iadd, 1) := by decide +kernel
theorem dX2_named_95 : decode cX2_named 95 = .ok (.ireturn, 1) := by decide +kernel
theorem dX2_named_96 : decode cX2_named 96 = .ok (.iload_n 3, 1) := by decide +kernel
theorem dX2_named_97 : decode cX2_named 97 = .ok (.iconst (-1), 1) := by decide +kernel
theorem dX2_named_98 : decode cX2_named 98 = .ok (.if_icmp .ne 7, 3) := by decide +kernel
theorem dX2_named_101 : decode cX2_named 101 = .ok (.iconst 0, 1) := by decide +kernel
theorem dX2_named_102 : decode cX2_named 102 = .ok (.goto 9, 3) := by decide +kernel
theorem dX2_named_105 : decode cX2_named 105 = .ok (.aload_n 1, 1) := by decide +kernel
theorem dX2_named_106 : decode cX2_named 106 = .ok (.getfield 98, 3) := by decide +kernel
theorem dX2_named_109 : decode cX2_named 109 = .ok (.iload_n 3, 1) := by decide +kernel
theorem dX2_named_110 : decode cX2_named 110 = .ok (.iaload, 1) := by decide +kernel
theorem dX2_named_111 : decode cX2_named 111 = .ok (.ireturn, 1) := by decide +kernel
theorem dX2_named_112 : decode cX2_named 112 = .ok (.aload_n 1, 1) := by decide +kernel
theorem dX2_named_113 : decode cX2_named 113 = .ok (.getfield 101, 3) := by decide +kernel
theorem dX2_named_116 : decode cX2_named 116 = .ok (.ireturn, 1) := by decide +kernel
theorem dX2_named_117 : decode cX2_named 117 = .ok (.aload_n 1, 1) := by decide +kernel
theorem dX2_named_118 : decode cX2_named 118 = .ok (.iload_n 2, 1) := by decide +kernel
theorem dX2_named_119 : decode cX2_named 119 = .ok (.invokevirtual 76, 3) := by decide +kernel
theorem dX2_named_122 : decode cX2_named 122 = .ok (.ireturn, 1) := by decide +kernel
theorem dX2_named_123 : decode cX2_named 123 = .ok (.aload_n 1, 1) := by decide +kernel
theorem dX2_named_124 : decode cX2_named 124 = .ok (.getfield 104, 3) := by decide +kernel
theorem dX2_named_127 : decode cX2_named 127 = .ok (.ireturn, 1) := by decide +kernel
theorem dX3_init_0 : decode cX3_init 0 = .ok (.aload_n 0, 1) := by decide +kernel
theorem dX3_init_1 : decode cX3_init 1 = .ok (.invokespecial 3, 3) := by decide +kernel
theorem dX3_init_4 : decode cX3_init 4 = .ok (.aload_n 0, 1) := by decide +kernel
theorem dX3_init_5 : decode cX3_init 5 = .ok (.bipush 6, 2) := by decide +kernel
theorem dX3_init_7 : decode cX3_init 7 = .ok (.anewarray 9, 3) := by decide +kernel
theorem dX3_init_10 : decode cX3_init 10 = .ok (.putfield 11, 3) := by decide +kernel
theorem dX3_init_13 : decode cX3_init 13 = .ok (.iconst 0, 1) := by decide +kernel
theorem dX3_init_14 : decode cX3_init 14 = .ok (.istore_n 1, 1) := by decide +kernel
theorem dX3_init_15 : decode cX3_init 15 = .ok (.iload_n 1, 1) := by decide +kernel
theorem dX3_init_16 : decode cX3_init 16 = .ok (.bipush 6, 2) := by decide +kernel
theorem dX3_init_18 : decode cX3_init 18 = .ok (.if_icmp .ge 23, 3) := by decide +kernel
theorem dX3_init_21 : decode cX3_init 21 = .ok (.aload_n 0, 1) := by decide +kernel
theorem dX3_init_22 : decode cX3_init 22 = .ok (.getfield 11, 3) := by decide +kernel
theorem dX3_init_25 : decode cX3_init 25 = .ok (.iload_n 1, 1) := by decide +kernel
theorem dX3_init_26 : decode cX3_init 26 = .ok (.new 9, 3) := by decide +kernel
theorem dX3_init_29 : decode cX3_init 29 = .ok (.dup, 1) := by decide +kernel
theorem dX3_init_30 : decode cX3_init 30 = .ok (.iconst 0, 1) := by decide +kernel
theorem dX3_init_31 : decode cX3_init 31 = .ok (.invokespecial 17, 3) := by decide +kernel
theorem dX3_init_34 : decode cX3_init 34 = .ok (.aastore, 1) := by decide +kernel
theorem dX3_init_35 : decode cX3_init 35 = .ok (.iinc 1 1, 3) := by decide +kernel
theorem dX3_init_38 : decode cX3_init 38 = .ok (.goto (-23), 3) := by decide +kernel
theorem dX3_init_41 : decode cX3_init 41 = .ok (.return_, 1) := by decide +kernel
theorem dX3_keep_0 : decode cX3_keep 0 = .ok (.aload_n 0, 1) := by decide +kernel
theorem dX3_keep_1 : decode cX3_keep 1 = .ok (.getfield 20, 3) := by decide +kernel
theorem dX3_keep_4 : decode cX3_keep 4 = .ok (.bipush 6, 2) := by decide +kernel
theorem dX3_keep_6 : decode cX3_keep 6 = .ok (.if_icmp .lt 7, 3) := by decide +kernel
theorem dX3_keep_9 : decode cX3_keep 9 = .ok (.aload_n 0, 1) := by decide +kernel
theorem dX3_keep_10 : decode cX3_keep 10 = .ok (.invokevirtual 24, 3) := by decide +kernel
theorem dX3_keep_13 : decode cX3_keep 13 = .ok (.aload_n 0, 1) := by decide +kernel
theorem dX3_keep_14 : decode cX3_keep 14 = .ok (.getfield 11, 3) := by decide +kernel
theorem dX3_keep_17 : decode cX3_keep 17 = .ok (.aload_n 0, 1) := by decide +kernel
theorem dX3_keep_18 : decode cX3_keep 18 = .ok (.getfield 20, 3) := by decide +kernel
theorem dX3_keep_21 : decode cX3_keep 21 = .ok (.aaload, 1) := by decide +kernel
theorem dX3_keep_22 : decode cX3_keep 22 = .ok (.astore_n 2, 1) := by decide +kernel
theorem dX3_keep_23 : decode cX3_keep 23 = .ok (.aload_n 2, 1) := by decide +kernel
theorem dX3_keep_24 : decode cX3_keep 24 = .ok (.ifnull 18, 3) := by decide +kernel
theorem dX3_keep_27 : decode cX3_keep 27 = .ok (.aload_n 2, 1) := by decide +kernel
theorem dX3_keep_28 : decode cX3_keep 28 = .ok (.aload_n 1, 1) := by decide +kernel
theorem dX3_keep_29 : decode cX3_keep 29 = .ok (.invokevirtual 27, 3) := by decide +kernel
theorem dX3_keep_32 : decode cX3_keep 32 = .ok (.aload_n 0, 1) := by decide +kernel
theorem dX3_keep_33 : decode cX3_keep 33 = .ok (.dup, 1) := by decide +kernel
theorem dX3_keep_34 : decode cX3_keep 34 = .ok (.getfield 20, 3) := by decide +kernel
theorem dX3_keep_37 : decode cX3_keep 37 = .ok (.iconst 1, 1) := by decide +kernel
theorem dX3_keep_38 : decode cX3_keep 38 = .ok (.iadd, 1) := by decide +kernel
theorem dX3_keep_39 : decode cX3_keep 39 = .ok (.putfield 20, 3) := by decide +kernel
theorem dX3_keep_42 : decode cX3_keep 42 = .ok (.return_, 1) := by decide +kernel
theorem dX3_forgetOldest_0 : decode cX3_forgetOldest 0 = .ok (.aload_n 0, 1) := by decide +kernel
theorem dX3_forgetOldest_1 : decode cX3_forgetOldest 1 = .ok (.getfield 11, 3) := by decide +kernel
theorem dX3_forgetOldest_4 : decode cX3_forgetOldest 4 = .ok (.iconst 0, 1) := by decide +kernel
theorem dX3_forgetOldest_5 : decode cX3_forgetOldest 5 = .ok (.aaload, 1) := by decide +kernel
theorem dX3_forgetOldest_6 : decode cX3_forgetOldest 6 = .ok (.astore_n 1, 1) := by decide +kernel
theorem dX3_forgetOldest_7 : decode cX3_forgetOldest 7 = .ok (.iconst 0, 1) := by decide +kernel
theorem dX3_forgetOldest_8 : decode cX3_forgetOldest 8 = .ok (.istore_n 2, 1) := by decide +kernel
theorem dX3_forgetOldest_9 : decode cX3_forgetOldest 9 = .ok (.iload_n 2, 1) := by decide +kernel
theorem dX3_forgetOldest_10 : decode cX3_forgetOldest 10 = .ok (.iconst 1, 1) := by decide +kernel
theorem dX3_forgetOldest_11 : decode cX3_forgetOldest 11 = .ok (.iadd, 1) := by decide +kernel
theorem dX3_forgetOldest_12 : decode cX3_forgetOldest 12 = .ok (.bipush 6, 2) := by decide +kernel
theorem dX3_forgetOldest_14 : decode cX3_forgetOldest 14 = .ok (.if_icmp .ge 23, 3) := by decide +kernel
theorem dX3_forgetOldest_17 : decode cX3_forgetOldest 17 = .ok (.aload_n 0, 1) := by decide +kernel
theorem dX3_forgetOldest_18 : decode cX3_forgetOldest 18 = .ok (.getfield 11, 3) := by decide +kernel
theorem dX3_forgetOldest_21 : decode cX3_forgetOldest 21 = .ok (.iload_n 2, 1) := by decide +kernel
theorem dX3_forgetOldest_22 : decode cX3_forgetOldest 22 = .ok (.aload_n 0, 1) := by decide +kernel
theorem dX3_forgetOldest_23 : decode cX3_forgetOldest 23 = .ok (.getfield 11, 3) := by decide +kernel
theorem dX3_forgetOldest_26 : decode cX3_forgetOldest 26 = .ok (.iload_n 2, 1) := by decide +kernel
theorem dX3_forgetOldest_27 : decode cX3_forgetOldest 27 = .ok (.iconst 1, 1) := by decide +kernel
theorem dX3_forgetOldest_28 : decode cX3_forgetOldest 28 = .ok (.iadd, 1) := by decide +kernel
theorem dX3_forgetOldest_29 : decode cX3_forgetOldest 29 = .ok (.aaload, 1) := by decide +kernel
theorem dX3_forgetOldest_30 : decode cX3_forgetOldest 30 = .ok (.aastore, 1) := by decide +kernel
theorem dX3_forgetOldest_31 : decode cX3_forgetOldest 31 = .ok (.iinc 2 1, 3) := by decide +kernel
theorem dX3_forgetOldest_34 : decode cX3_forgetOldest 34 = .ok (.goto (-25), 3) := by decide +kernel
theorem dX3_forgetOldest_37 : decode cX3_forgetOldest 37 = .ok (.aload_n 0, 1) := by decide +kernel
theorem dX3_forgetOldest_38 : decode cX3_forgetOldest 38 = .ok (.getfield 11, 3) := by decide +kernel
theorem dX3_forgetOldest_41 : decode cX3_forgetOldest 41 = .ok (.iconst 5, 1) := by decide +kernel
theorem dX3_forgetOldest_42 : decode cX3_forgetOldest 42 = .ok (.aload_n 1, 1) := by decide +kernel
theorem dX3_forgetOldest_43 : decode cX3_forgetOldest 43 = .ok (.aastore, 1) := by decide +kernel
theorem dX3_forgetOldest_44 : decode cX3_forgetOldest 44 = .ok (.aload_n 0, 1) := by decide +kernel
theorem dX3_forgetOldest_45 : decode cX3_forgetOldest 45 = .ok (.iconst 5, 1) := by decide +kernel
theorem dX3_forgetOldest_46 : decode cX3_forgetOldest 46 = .ok (.putfield 20, 3) := by decide +kernel
theorem dX3_forgetOldest_49 : decode cX3_forgetOldest 49 = .ok (.return_, 1) := by decide +kernel
theorem dX3_forget_0 : decode cX3_forget 0 = .ok (.aload_n 0, 1) := by decide +kernel
theorem dX3_forget_1 : decode cX3_forget 1 = .ok (.iconst 0, 1) := by decide +kernel
theorem dX3_forget_2 : decode cX3_forget 2 = .ok (.putfield 20, 3) := by decide +kernel
theorem dX3_forget_5 : decode cX3_forget 5 = .ok (.return_, 1) := by decide +kernel
theorem dX3_goBack_0 : decode cX3_goBack 0 = .ok (.aload_n 0, 1) := by decide +kernel
theorem dX3_goBack_1 : decode cX3_goBack 1 = .ok (.getfield 20, 3) := by decide +kernel
theorem dX3_goBack_4 : decode cX3_goBack 4 = .ok (.ifCond .gt 5, 3) := by decide +kernel
theorem dX3_goBack_7 : decode cX3_goBack 7 = .ok (.iconst 0, 1) := by decide +kernel
theorem dX3_goBack_8 : decode cX3_goBack 8 = .ok (.ireturn, 1) := by decide +kernel
theorem dX3_goBack_9 : decode cX3_goBack 9 = .ok (.aload_n 0, 1) := by decide +kernel
theorem dX3_goBack_10 : decode cX3_goBack 10 = .ok (.dup, 1) := by decide +kernel
theorem dX3_goBack_11 : decode cX3_goBack 11 = .ok (.getfield 20, 3) := by decide +kernel
theorem dX3_goBack_14 : decode cX3_goBack 14 = .ok (.iconst 1, 1) := by decide +kernel
theorem dX3_goBack_15 : decode cX3_goBack 15 = .ok (.isub, 1) := by decide +kernel
theorem dX3_goBack_16 : decode cX3_goBack 16 = .ok (.putfield 20, 3) := by decide +kernel
theorem dX3_goBack_19 : decode cX3_goBack 19 = .ok (.aload_n 0, 1) := by decide +kernel
theorem dX3_goBack_20 : decode cX3_goBack 20 = .ok (.getfield 11, 3) := by decide +kernel
theorem dX3_goBack_23 : decode cX3_goBack 23 = .ok (.aload_n 0, 1) := by decide +kernel
theorem dX3_goBack_24 : decode cX3_goBack 24 = .ok (.getfield 20, 3) := by decide +kernel
theorem dX3_goBack_27 : decode cX3_goBack 27 = .ok (.aaload, 1) := by decide +kernel
theorem dX3_goBack_28 : decode cX3_goBack 28 = .ok (.astore_n 2, 1) := by decide +kernel
theorem dX3_goBack_29 : decode cX3_goBack 29 = .ok (.aload_n 2, 1) := by decide +kernel
theorem dX3_goBack_30 : decode cX3_goBack 30 = .ok (.ifnull 8, 3) := by decide +kernel
theorem dX3_goBack_33 : decode cX3_goBack 33 = .ok (.aload_n 1, 1) := by decide +kernel
theorem dX3_goBack_34 : decode cX3_goBack 34 = .ok (.aload_n 2, 1) := by decide +kernel
theorem dX3_goBack_35 : decode cX3_goBack 35 = .ok (.invokevirtual 27, 3) := by decide +kernel
theorem dX3_goBack_38 : decode cX3_goBack 38 = .ok (.iconst 1, 1) := by decide +kernel
theorem dX3_goBack_39 : decode cX3_goBack 39 = .ok (.ireturn, 1) := by decide +kernel
theorem dX4_init_0 : decode cX4_init 0 = .ok (.aload_n 0, 1) := by decide +kernel
theorem dX4_init_1 : decode cX4_init 1 = .ok (.invokespecial 3, 3) := by decide +kernel
theorem dX4_init_4 : decode cX4_init 4 = .ok (.aload_n 0, 1) := by decide +kernel
theorem dX4_init_5 : decode cX4_init 5 = .ok (.bipush 16, 2) := by decide +kernel
theorem dX4_init_7 : decode cX4_init 7 = .ok (.newarray .int, 2) := by decide +kernel
theorem dX4_init_9 : decode cX4_init 9 = .ok (.putfield 9, 3) := by decide +kernel
theorem dX4_init_12 : decode cX4_init 12 = .ok (.aload_n 0, 1) := by decide +kernel
theorem dX4_init_13 : decode cX4_init 13 = .ok (.bipush 16, 2) := by decide +kernel
theorem dX4_init_15 : decode cX4_init 15 = .ok (.newarray .int, 2) := by decide +kernel
theorem dX4_init_17 : decode cX4_init 17 = .ok (.putfield 15, 3) := by decide +kernel
theorem dX4_init_20 : decode cX4_init 20 = .ok (.aload_n 0, 1) := by decide +kernel
theorem dX4_init_21 : decode cX4_init 21 = .ok (.bipush 16, 2) := by decide +kernel
theorem dX4_init_23 : decode cX4_init 23 = .ok (.newarray .int, 2) := by decide +kernel
theorem dX4_init_25 : decode cX4_init 25 = .ok (.putfield 18, 3) := by decide +kernel
theorem dX4_init_28 : decode cX4_init 28 = .ok (.aload_n 0, 1) := by decide +kernel
theorem dX4_init_29 : decode cX4_init 29 = .ok (.bipush 16, 2) := by decide +kernel
theorem dX4_init_31 : decode cX4_init 31 = .ok (.newarray .int, 2) := by decide +kernel
theorem dX4_init_33 : decode cX4_init 33 = .ok (.putfield 21, 3) := by decide +kernel
theorem dX4_init_36 : decode cX4_init 36 = .ok (.return_, 1) := by decide +kernel
theorem dX4_copyFrom_0 : decode cX4_copyFrom 0 = .ok (.aload_n 1, 1) := by decide +kernel
theorem dX4_copyFrom_1 : decode cX4_copyFrom 1 = .ok (.getfield 9, 3) := by decide +kernel
theorem dX4_copyFrom_4 : decode cX4_copyFrom 4 = .ok (.iconst 0, 1) := by decide +kernel
theorem dX4_copyFrom_5 : decode cX4_copyFrom 5 = .ok (.aload_n 0, 1) := by decide +kernel
theorem dX4_copyFrom_6 : decode cX4_copyFrom 6 = .ok (.getfield 9, 3) := by decide +kernel
theorem dX4_copyFrom_9 : decode cX4_copyFrom 9 = .ok (.iconst 0, 1) := by decide +kernel
theorem dX4_copyFrom_10 : decode cX4_copyFrom 10 = .ok (.bipush 16, 2) := by decide +kernel
theorem dX4_copyFrom_12 : decode cX4_copyFrom 12 = .ok (.invokestatic 24, 3) := by decide +kernel
theorem dX4_copyFrom_15 : decode cX4_copyFrom 15 = .ok (.aload_n 1, 1) := by decide +kernel
theorem dX4_copyFrom_16 : decode cX4_copyFrom 16 = .ok (.getfield 15, 3) := by decide +kernel
theorem dX4_copyFrom_19 : decode cX4_copyFrom 19 = .ok (.iconst 0, 1) := by decide +kernel
theorem dX4_copyFrom_20 : decode cX4_copyFrom 20 = .ok (.aload_n 0, 1) := by decide +kernel
theorem dX4_copyFrom_21 : decode cX4_copyFrom 21 = .ok (.getfield 15, 3) := by decide +kernel
theorem dX4_copyFrom_24 : decode cX4_copyFrom 24 = .ok (.iconst 0, 1) := by decide +kernel
theorem dX4_copyFrom_25 : decode cX4_copyFrom 25 = .ok (.bipush 16, 2) := by decide +kernel
theorem dX4_copyFrom_27 : decode cX4_copyFrom 27 = .ok (.invokestatic 24, 3) := by decide +kernel
theorem dX4_copyFrom_30 : decode cX4_copyFrom 30 = .ok (.aload_n 1, 1) := by decide +kernel
theorem dX4_copyFrom_31 : decode cX4_copyFrom 31 = .ok (.getfield 18, 3) := by decide +kernel
theorem dX4_copyFrom_34 : decode cX4_copyFrom 34 = .ok (.iconst 0, 1) := by decide +kernel
theorem dX4_copyFrom_35 : decode cX4_copyFrom 35 = .ok (.aload_n 0, 1) := by decide +kernel
theorem dX4_copyFrom_36 : decode cX4_copyFrom 36 = .ok (.getfield 18, 3) := by decide +kernel
theorem dX4_copyFrom_39 : decode cX4_copyFrom 39 = .ok (.iconst 0, 1) := by decide +kernel
theorem dX4_copyFrom_40 : decode cX4_copyFrom 40 = .ok (.bipush 16, 2) := by decide +kernel
theorem dX4_copyFrom_42 : decode cX4_copyFrom 42 = .ok (.invokestatic 24, 3) := by decide +kernel
theorem dX4_copyFrom_45 : decode cX4_copyFrom 45 = .ok (.aload_n 1, 1) := by decide +kernel
theorem dX4_copyFrom_46 : decode cX4_copyFrom 46 = .ok (.getfield 21, 3) := by decide +kernel
theorem dX4_copyFrom_49 : decode cX4_copyFrom 49 = .ok (.iconst 0, 1) := by decide +kernel
theorem dX4_copyFrom_50 : decode cX4_copyFrom 50 = .ok (.aload_n 0, 1) := by decide +kernel
theorem dX4_copyFrom_51 : decode cX4_copyFrom 51 = .ok (.getfield 21, 3) := by decide +kernel
theorem dX4_copyFrom_54 : decode cX4_copyFrom 54 = .ok (.iconst 0, 1) := by decide +kernel
theorem dX4_copyFrom_55 : decode cX4_copyFrom 55 = .ok (.bipush 16, 2) := by decide +kernel
theorem dX4_copyFrom_57 : decode cX4_copyFrom 57 = .ok (.invokestatic 24, 3) := by decide +kernel
theorem dX4_copyFrom_60 : decode cX4_copyFrom 60 = .ok (.aload_n 0, 1) := by decide +kernel
theorem dX4_copyFrom_61 : decode cX4_copyFrom 61 = .ok (.aload_n 1, 1) := by decide +kernel
theorem dX4_copyFrom_62 : decode cX4_copyFrom 62 = .ok (.getfield 30, 3) := by decide +kernel
theorem dX4_copyFrom_65 : decode cX4_copyFrom 65 = .ok (.putfield 30, 3) := by decide +kernel
theorem dX4_copyFrom_68 : decode cX4_copyFrom 68 = .ok (.return_, 1) := by decide +kernel
theorem dX4_add_0 : decode cX4_add 0 = .ok (.aload_n 0, 1) := by decide +kernel
theorem dX4_add_1 : decode cX4_add 1 = .ok (.getfield 30, 3) := by decide +kernel
theorem dX4_add_4 : decode cX4_add 4 = .ok (.bipush 16, 2) := by decide +kernel
theorem dX4_add_6 : decode cX4_add 6 = .ok (.if_icmp .ge 54, 3) := by decide +kernel
theorem dX4_add_9 : decode cX4_add 9 = .ok (.aload_n 0, 1) := by decide +kernel
theorem dX4_add_10 : decode cX4_add 10 = .ok (.getfield 9, 3) := by decide +kernel
theorem dX4_add_13 : decode cX4_add 13 = .ok (.aload_n 0, 1) := by decide +kernel
theorem dX4_add_14 : decode cX4_add 14 = .ok (.getfield 30, 3) := by decide +kernel
theorem dX4_add_17 : decode cX4_add 17 = .ok (.iload_n 1, 1) := by decide +kernel
theorem dX4_add_18 : decode cX4_add 18 = .ok (.iastore, 1) := by decide +kernel
theorem dX4_add_19 : decode cX4_add 19 = .ok (.aload_n 0, 1) := by decide +kernel
theorem dX4_add_20 : decode cX4_add 20 = .ok (.getfield 15, 3) := by decide +kernel
theorem dX4_add_23 : decode cX4_add 23 = .ok (.aload_n 0, 1) := by decide +kernel
theorem dX4_add_24 : decode cX4_add 24 = .ok (.getfield 30, 3) := by decide +kernel
theorem dX4_add_27 : decode cX4_add 27 = .ok (.iload_n 2, 1) := by decide +kernel
theorem dX4_add_28 : decode cX4_add 28 = .ok (.iastore, 1) := by decide +kernel
theorem dX4_add_29 : decode cX4_add 29 = .ok (.aload_n 0, 1) := by decide +kernel
theorem dX4_add_30 : decode cX4_add 30 = .ok (.getfield 18, 3) := by decide +kernel
theorem dX4_add_33 : decode cX4_add 33 = .ok (.aload_n 0, 1) := by decide +kernel
theorem dX4_add_34 : decode cX4_add 34 = .ok (.getfield 30, 3) := by decide +kernel
theorem dX4_add_37 : decode cX4_add 37 = .ok (.iload_n 3, 1) := by decide +kernel
theorem dX4_add_38 : decode cX4_add 38 = .ok (.iastore, 1) := by decide +kernel
theorem dX4_add_39 : decode cX4_add 39 = .ok (.aload_n 0, 1) := by decide +kernel
theorem dX4_add_40 : decode cX4_add 40 = .ok (.getfield 21, 3) := by decide +kernel
theorem dX4_add_43 : decode cX4_add 43 = .ok (.aload_n 0, 1) := by decide +kernel
theorem dX4_add_44 : decode cX4_add 44 = .ok (.getfield 30, 3) := by decide +kernel
theorem dX4_add_47 : decode cX4_add 47 = .ok (.iload 4, 2) := by decide +kernel
theorem dX4_add_49 : decode cX4_add 49 = .ok (.iastore, 1) := by decide +kernel
theorem dX4_add_50 : decode cX4_add 50 = .ok (.aload_n 0, 1) := by decide +kernel
theorem dX4_add_51 : decode cX4_add 51 = .ok (.dup, 1) := by decide +kernel
theorem dX4_add_52 : decode cX4_add 52 = .ok (.getfield 30, 3) := by decide +kernel
theorem dX4_add_55 : decode cX4_add 55 = .ok (.iconst 1, 1) := by decide +kernel
theorem dX4_add_56 : decode cX4_add 56 = .ok (.iadd, 1) := by decide +kernel
theorem dX4_add_57 : decode cX4_add 57 = .ok (.putfield 30, 3) := by decide +kernel
theorem dX4_add_60 : decode cX4_add 60 = .ok (.return_, 1) := by decide +kernel
theorem dX4_carryOut_0 : decode cX4_carryOut 0 = .ok (.aload_n 1, 1) := by decide +kernel
theorem dX4_carryOut_1 : decode cX4_carryOut 1 = .ok (.getfield 34, 3) := by decide +kernel
theorem dX4_carryOut_4 : decode cX4_carryOut 4 = .ok (.istore_n 2, 1) := by decide +kernel
theorem dX4_carryOut_5 : decode cX4_carryOut 5 = .ok (.iconst 0, 1) := by decide +kernel
theorem dX4_carryOut_6 : decode cX4_carryOut 6 = .ok (.istore_n 3, 1) := by decide +kernel
theorem dX4_carryOut_7 : decode cX4_carryOut 7 = .ok (.iload_n 3, 1) := by decide +kernel
theorem dX4_carryOut_8 : decode cX4_carryOut 8 = .ok (.aload_n 0, 1) := by decide +kernel
theorem dX4_carryOut_9 : decode cX4_carryOut 9 = .ok (.getfield 30, 3) := by decide +kernel
theorem dX4_carryOut_12 : decode cX4_carryOut 12 = .ok (.if_icmp .ge 25, 3) := by decide +kernel
theorem dX4_carryOut_15 : decode cX4_carryOut 15 = .ok (.aload_n 0, 1) := by decide +kernel
theorem dX4_carryOut_16 : decode cX4_carryOut 16 = .ok (.getfield 9, 3) := by decide +kernel
theorem dX4_carryOut_19 : decode cX4_carryOut 19 = .ok (.iload_n 3, 1) := by decide +kernel
theorem dX4_carryOut_20 : decode cX4_carryOut 20 = .ok (.iaload, 1) := by decide +kernel
theorem dX4_carryOut_21 : decode cX4_carryOut 21 = .ok (.iload_n 2, 1) := by decide +kernel
theorem dX4_carryOut_22 : decode cX4_carryOut 22 = .ok (.if_icmp .ne 9, 3) := by decide +kernel
theorem dX4_carryOut_25 : decode cX4_carryOut 25 = .ok (.aload_n 0, 1) := by decide +kernel
theorem dX4_carryOut_26 : decode cX4_carryOut 26 = .ok (.iload_n 3, 1) := by decide +kernel
theorem dX4_carryOut_27 : decode cX4_carryOut 27 = .ok (.aload_n 1, 1) := by decide +kernel
theorem dX4_carryOut_28 : decode cX4_carryOut 28 = .ok (.invokevirtual 38, 3) := by decide +kernel
theorem dX4_carryOut_31 : decode cX4_carryOut 31 = .ok (.iinc 3 1, 3) := by decide +kernel
theorem dX4_carryOut_34 : decode cX4_carryOut 34 = .ok (.goto (-27), 3) := by decide +kernel
theorem dX4_carryOut_37 : decode cX4_carryOut 37 = .ok (.return_, 1) := by decide +kernel
theorem dX4_carryOutLine_0 : decode cX4_carryOutLine 0 = .ok (.iload_n 1, 1) := by decide +kernel
theorem dX4_carryOutLine_1 : decode cX4_carryOutLine 1 = .ok (.ifCond .lt 9, 3) := by decide +kernel
theorem dX4_carryOutLine_4 : decode cX4_carryOutLine 4 = .ok (.iload_n 1, 1) := by decide +kernel
theorem dX4_carryOutLine_5 : decode cX4_carryOutLine 5 = .ok (.bipush 16, 2) := by decide +kernel
theorem dX4_carryOutLine_7 : decode cX4_carryOutLine 7 = .ok (.if_icmp .lt 4, 3) := by decide +kernel
theorem dX4_carryOutLine_10 : decode cX4_carryOutLine 10 = .ok (.return_, 1) := by decide +kernel
theorem dX4_carryOutLine_11 : decode cX4_carryOutLine 11 = .ok (.aload_n 0, 1) := by decide +kernel
theorem dX4_carryOutLine_12 : decode cX4_carryOutLine 12 = .ok (.getfield 15, 3) := by decide +kernel
theorem dX4_carryOutLine_15 : decode cX4_carryOutLine 15 = .ok (.iload_n 1, 1) := by decide +kernel
theorem dX4_carryOutLine_16 : decode cX4_carryOutLine 16 = .ok (.iaload, 1) := by decide +kernel
theorem dX4_carryOutLine_17 : decode cX4_carryOutLine 17 = .ok (.tableswitch 89 1 4 #[31, 44, 57, 70], 31) := by decide +kernel
theorem dX4_carryOutLine_48 : decode cX4_carryOutLine 48 = .ok (.aload_n 2, 1) := by decide +kernel
theorem dX4_carryOutLine_49 : decode cX4_carryOutLine 49 = .ok (.aload_n 0, 1) := by decide +kernel
theorem dX4_carryOutLine_50 : decode cX4_carryOutLine 50 = .ok (.getfield 21, 3) := by decide +kernel
theorem dX4_carryOutLine_53 : decode cX4_carryOutLine 53 = .ok (.iload_n 1, 1) := by decide +kernel
theorem dX4_carryOutLine_54 : decode cX4_carryOutLine 54 = .ok (.iaload, 1) := by decide +kernel
theorem dX4_carryOutLine_55 : decode cX4_carryOutLine 55 = .ok (.putfield 42, 3) := by decide +kernel
theorem dX4_carryOutLine_58 : decode cX4_carryOutLine 58 = .ok (.goto 58, 3) := by decide +kernel
theorem dX4_carryOutLine_61 : decode cX4_carryOutLine 61 = .ok (.aload_n 2, 1) := by decide +kernel
theorem dX4_carryOutLine_62 : decode cX4_carryOutLine 62 = .ok (.aload_n 0, 1) := by decide +kernel
theorem dX4_carryOutLine_63 : decode cX4_carryOutLine 63 = .ok (.getfield 21, 3) := by decide +kernel
theorem dX4_carryOutLine_66 : decode cX4_carryOutLine 66 = .ok (.iload_n 1, 1) := by decide +kernel
theorem dX4_carryOutLine_67 : decode cX4_carryOutLine 67 = .ok (.iaload, 1) := by decide +kernel
theorem dX4_carryOutLine_68 : decode cX4_carryOutLine 68 = .ok (.invokevirtual 45, 3) := by decide +kernel
theorem dX4_carryOutLine_71 : decode cX4_carryOutLine 71 = .ok (.goto 45, 3) := by decide +kernel
theorem dX4_carryOutLine_74 : decode cX4_carryOutLine 74 = .ok (.aload_n 2, 1) := by decide +kernel
theorem dX4_carryOutLine_75 : decode cX4_carryOutLine 75 = .ok (.aload_n 0, 1) := by decide +kernel
theorem dX4_carryOutLine_76 : decode cX4_carryOutLine 76 = .ok (.getfield 18, 3) := by decide +kernel
theorem dX4_carryOutLine_79 : decode cX4_carryOutLine 79 = .ok (.iload_n 1, 1) := by decide +kernel
theorem dX4_carryOutLine_80 : decode cX4_carryOutLine 80 = .ok (.iaload, 1) := by decide +kernel
theorem dX4_carryOutLine_81 : decode cX4_carryOutLine 81 = .ok (.invokevirtual 49, 3) := by decide +kernel
theorem dX4_carryOutLine_84 : decode cX4_carryOutLine 84 = .ok (.goto 32, 3) := by decide +kernel
theorem dX4_carryOutLine_87 : decode cX4_carryOutLine 87 = .ok (.aload_n 2, 1) := by decide +kernel
theorem dX4_carryOutLine_88 : decode cX4_carryOutLine 88 = .ok (.aload_n 0, 1) := by decide +kernel
theorem dX4_carryOutLine_89 : decode cX4_carryOutLine 89 = .ok (.getfield 18, 3) := by decide +kernel
theorem dX4_carryOutLine_92 : decode cX4_carryOutLine 92 = .ok (.iload_n 1, 1) := by decide +kernel
theorem dX4_carryOutLine_93 : decode cX4_carryOutLine 93 = .ok (.iaload, 1) := by decide +kernel
theorem dX4_carryOutLine_94 : decode cX4_carryOutLine 94 = .ok (.aload_n 0, 1) := by decide +kernel
theorem dX4_carryOutLine_95 : decode cX4_carryOutLine 95 = .ok (.getfield 21, 3) := by decide +kernel
theorem dX4_carryOutLine_98 : decode cX4_carryOutLine 98 = .ok (.iload_n 1, 1) := by decide +kernel
theorem dX4_carryOutLine_99 : decode cX4_carryOutLine 99 = .ok (.iaload, 1) := by decide +kernel
theorem dX4_carryOutLine_100 : decode cX4_carryOutLine 100 = .ok (.invokevirtual 52, 3) := by decide +kernel
theorem dX4_carryOutLine_103 : decode cX4_carryOutLine 103 = .ok (.goto 13, 3) := by decide +kernel
theorem dX4_carryOutLine_106 : decode cX4_carryOutLine 106 = .ok (.aload_n 2, 1) := by decide +kernel
theorem dX4_carryOutLine_107 : decode cX4_carryOutLine 107 = .ok (.aload_n 0, 1) := by decide +kernel
theorem dX4_carryOutLine_108 : decode cX4_carryOutLine 108 = .ok (.getfield 18, 3) := by decide +kernel
theorem dX4_carryOutLine_111 : decode cX4_carryOutLine 111 = .ok (.iload_n 1, 1) := by decide +kernel
theorem dX4_carryOutLine_112 : decode cX4_carryOutLine 112 = .ok (.iaload, 1) := by decide +kernel
theorem dX4_carryOutLine_113 : decode cX4_carryOutLine 113 = .ok (.invokevirtual 56, 3) := by decide +kernel
theorem dX4_carryOutLine_116 : decode cX4_carryOutLine 116 = .ok (.return_, 1) := by decide +kernel
theorem dX5_init_0 : decode cX5_init 0 = .ok (.aload_n 0, 1) := by decide +kernel
theorem dX5_init_1 : decode cX5_init 1 = .ok (.invokespecial 3, 3) := by decide +kernel
theorem dX5_init_4 : decode cX5_init 4 = .ok (.aload_n 0, 1) := by decide +kernel
theorem dX5_init_5 : decode cX5_init 5 = .ok (.new 9, 3) := by decide +kernel
theorem dX5_init_8 : decode cX5_init 8 = .ok (.dup, 1) := by decide +kernel
theorem dX5_init_9 : decode cX5_init 9 = .ok (.invokespecial 11, 3) := by decide +kernel
theorem dX5_init_12 : decode cX5_init 12 = .ok (.putfield 12, 3) := by decide +kernel
theorem dX5_init_15 : decode cX5_init 15 = .ok (.aload_n 0, 1) := by decide +kernel
theorem dX5_init_16 : decode cX5_init 16 = .ok (.new 18, 3) := by decide +kernel
theorem dX5_init_19 : decode cX5_init 19 = .ok (.dup, 1) := by decide +kernel
theorem dX5_init_20 : decode cX5_init 20 = .ok (.invokespecial 20, 3) := by decide +kernel
theorem dX5_init_23 : decode cX5_init 23 = .ok (.putfield 21, 3) := by decide +kernel
theorem dX5_init_26 : decode cX5_init 26 = .ok (.aload_n 0, 1) := by decide +kernel
theorem dX5_init_27 : decode cX5_init 27 = .ok (.new 25, 3) := by decide +kernel
theorem dX5_init_30 : decode cX5_init 30 = .ok (.dup, 1) := by decide +kernel
theorem dX5_init_31 : decode cX5_init 31 = .ok (.invokespecial 27, 3) := by decide +kernel
theorem dX5_init_34 : decode cX5_init 34 = .ok (.putfield 28, 3) := by decide +kernel
theorem dX5_init_37 : decode cX5_init 37 = .ok (.aload_n 0, 1) := by decide +kernel
theorem dX5_init_38 : decode cX5_init 38 = .ok (.new 32, 3) := by decide +kernel
theorem dX5_init_41 : decode cX5_init 41 = .ok (.dup, 1) := by decide +kernel
theorem dX5_init_42 : decode cX5_init 42 = .ok (.invokespecial 34, 3) := by decide +kernel
theorem dX5_init_45 : decode cX5_init 45 = .ok (.putfield 35, 3) := by decide +kernel
theorem dX5_init_48 : decode cX5_init 48 = .ok (.aload_n 0, 1) := by decide +kernel
theorem dX5_init_49 : decode cX5_init 49 = .ok (.new 39, 3) := by decide +kernel
theorem dX5_init_52 : decode cX5_init 52 = .ok (.dup, 1) := by decide +kernel
theorem dX5_init_53 : decode cX5_init 53 = .ok (.invokespecial 41, 3) := by decide +kernel
theorem dX5_init_56 : decode cX5_init 56 = .ok (.putfield 42, 3) := by decide +kernel
theorem dX5_init_59 : decode cX5_init 59 = .ok (.aload_n 0, 1) := by decide +kernel
theorem dX5_init_60 : decode cX5_init 60 = .ok (.iconst (-1), 1) := by decide +kernel
theorem dX5_init_61 : decode cX5_init 61 = .ok (.putfield 46, 3) := by decide +kernel
theorem dX5_init_64 : decode cX5_init 64 = .ok (.return_, 1) := by decide +kernel
theorem dX5_forgetFault_0 : decode cX5_forgetFault 0 = .ok (.aload_n 0, 1) := by decide +kernel
theorem dX5_forgetFault_1 : decode cX5_forgetFault 1 = .ok (.iconst 0, 1) := by decide +kernel
theorem dX5_forgetFault_2 : decode cX5_forgetFault 2 = .ok (.putfield 50, 3) := by decide +kernel
theorem dX5_forgetFault_5 : decode cX5_forgetFault 5 = .ok (.aload_n 0, 1) := by decide +kernel
theorem dX5_forgetFault_6 : decode cX5_forgetFault 6 = .ok (.iconst (-1), 1) := by decide +kernel
theorem dX5_forgetFault_7 : decode cX5_forgetFault 7 = .ok (.putfield 46, 3) := by decide +kernel
theorem dX5_forgetFault_10 : decode cX5_forgetFault 10 = .ok (.return_, 1) := by decide +kernel
theorem dX5_read_0 : decode cX5_read 0 = .ok (.aload_n 0, 1) := by decide +kernel
theorem dX5_read_1 : decode cX5_read 1 = .ok (.invokevirtual 53, 3) := by decide +kernel
theorem dX5_read_4 : decode cX5_read 4 = .ok (.aload_n 0, 1) := by decide +kernel
theorem dX5_read_5 : decode cX5_read 5 = .ok (.getfield 42, 3) := by decide +kernel
theorem dX5_read_8 : decode cX5_read 8 = .ok (.aload_n 2, 1) := by decide +kernel
theorem dX5_read_9 : decode cX5_read 9 = .ok (.iload_n 3, 1) := by decide +kernel
theorem dX5_read_10 : decode cX5_read 10 = .ok (.iload_n 1, 1) := by decide +kernel
theorem dX5_read_11 : decode cX5_read 11 = .ok (.invokestatic 56, 3) := by decide +kernel
theorem dX5_read_14 : decode cX5_read 14 = .ok (.invokevirtual 60, 3) := by decide +kernel
theorem dX5_read_17 : decode cX5_read 17 = .ok (.aload_n 0, 1) := by decide +kernel
theorem dX5_read_18 : decode cX5_read 18 = .ok (.iconst 0, 1) := by decide +kernel
theorem dX5_read_19 : decode cX5_read 19 = .ok (.putfield 64, 3) := by decide +kernel
theorem dX5_read_22 : decode cX5_read 22 = .ok (.aload_n 0, 1) := by decide +kernel
theorem dX5_read_23 : decode cX5_read 23 = .ok (.iconst 0, 1) := by decide +kernel
theorem dX5_read_24 : decode cX5_read 24 = .ok (.putfield 67, 3) := by decide +kernel
theorem dX5_read_27 : decode cX5_read 27 = .ok (.aload_n 0, 1) := by decide +kernel
theorem dX5_read_28 : decode cX5_read 28 = .ok (.aload 4, 2) := by decide +kernel
theorem dX5_read_30 : decode cX5_read 30 = .ok (.getfield 70, 3) := by decide +kernel
theorem dX5_read_33 : decode cX5_read 33 = .ok (.putfield 75, 3) := by decide +kernel
theorem dX5_read_36 : decode cX5_read 36 = .ok (.aload_n 0, 1) := by decide +kernel
theorem dX5_read_37 : decode cX5_read 37 = .ok (.aload 4, 2) := by decide +kernel
theorem dX5_read_39 : decode cX5_read 39 = .ok (.getfield 76, 3) := by decide +kernel
theorem dX5_read_42 : decode cX5_read 42 = .ok (.putfield 79, 3) := by decide +kernel
theorem dX5_read_45 : decode cX5_read 45 = .ok (.aload_n 0, 1) := by decide +kernel
theorem dX5_read_46 : decode cX5_read 46 = .ok (.getfield 12, 3) := by decide +kernel
theorem dX5_read_49 : decode cX5_read 49 = .ok (.invokevirtual 80, 3) := by decide +kernel
theorem dX5_read_52 : decode cX5_read 52 = .ok (.aload_n 0, 1) := by decide +kernel
theorem dX5_read_53 : decode cX5_read 53 = .ok (.getfield 21, 3) := by decide +kernel
theorem dX5_read_56 : decode cX5_read 56 = .ok (.iconst 0, 1) := by decide +kernel
theorem dX5_read_57 : decode cX5_read 57 = .ok (.putfield 83, 3) := by decide +kernel
theorem dX5_read_60 : decode cX5_read 60 = .ok (.aload_n 0, 1) := by decide +kernel
theorem dX5_read_61 : decode cX5_read 61 = .ok (.getfield 28, 3) := by decide +kernel
theorem dX5_read_64 : decode cX5_read 64 = .ok (.iconst 0, 1) := by decide +kernel
theorem dX5_read_65 : decode cX5_read 65 = .ok (.putfield 86, 3) := by decide +kernel
theorem dX5_read_68 : decode cX5_read 68 = .ok (.aload_n 0, 1) := by decide +kernel
theorem dX5_read_69 : decode cX5_read 69 = .ok (.getfield 35, 3) := by decide +kernel
theorem dX5_read_72 : decode cX5_read 72 = .ok (.iconst 0, 1) := by decide +kernel
theorem dX5_read_73 : decode cX5_read 73 = .ok (.putfield 87, 3) := by decide +kernel
theorem dX5_read_76 : decode cX5_read 76 = .ok (.iconst 0, 1) := by decide +kernel
theorem dX5_read_77 : decode cX5_read 77 = .ok (.istore 5, 2) := by decide +kernel
theorem dX5_read_79 : decode cX5_read 79 = .ok (.iload 5, 2) := by decide +kernel
theorem dX5_read_81 : decode cX5_read 81 = .ok (.sipush 400, 3) := by decide +kernel
theorem dX5_read_84 : decode cX5_read 84 = .ok (.if_icmp .ge 77, 3) := by decide +kernel
theorem dX5_read_87 : decode cX5_read 87 = .ok (.aload_n 0, 1) := by decide +kernel
theorem dX5_read_88 : decode cX5_read 88 = .ok (.invokevirtual 88, 3) := by decide +kernel
theorem dX5_read_91 : decode cX5_read 91 = .ok (.sipush 200, 3) := by decide +kernel
theorem dX5_read_94 : decode cX5_read 94 = .ok (.if_icmp .eq 67, 3) := by decide +kernel
theorem dX5_read_97 : decode cX5_read 97 = .ok (.iload_n 1, 1) := by decide +kernel
theorem dX5_read_98 : decode cX5_read 98 = .ok (.ifCond .ne 10, 3) := by decide +kernel
theorem dX5_read_101 : decode cX5_read 101 = .ok (.aload_n 0, 1) := by decide +kernel
theorem dX5_read_102 : decode cX5_read 102 = .ok (.invokevirtual 92, 3) := by decide +kernel
theorem dX5_read_105 : decode cX5_read 105 = .ok (.goto 31, 3) := by decide +kernel
theorem dX5_read_108 : decode cX5_read 108 = .ok (.iload_n 1, 1) := by decide +kernel
theorem dX5_read_109 : decode cX5_read 109 = .ok (.iconst 1, 1) := by decide +kernel
theorem dX5_read_110 : decode cX5_read 110 = .ok (.if_icmp .ne 10, 3) := by decide +kernel
theorem dX5_read_113 : decode cX5_read 113 = .ok (.aload_n 0, 1) := by decide +kernel
theorem dX5_read_114 : decode cX5_read 114 = .ok (.invokevirtual 96, 3) := by decide +kernel
theorem dX5_read_117 : decode cX5_read 117 = .ok (.goto 19, 3) := by decide +kernel
theorem dX5_read_120 : decode cX5_read 120 = .ok (.iload_n 1, 1) := by decide +kernel
theorem dX5_read_121 : decode cX5_read 121 = .ok (.iconst 2, 1) := by decide +kernel
theorem dX5_read_122 : decode cX5_read 122 = .ok (.if_icmp .ne 10, 3) := by decide +kernel
theorem dX5_read_125 : decode cX5_read 125 = .ok (.aload_n 0, 1) := by decide +kernel
theorem dX5_read_126 : decode cX5_read 126 = .ok (.invokevirtual 99, 3) := by decide +kernel
theorem dX5_read_129 : decode cX5_read 129 = .ok (.goto 7, 3) := by decide +kernel
theorem dX5_read_132 : decode cX5_read 132 = .ok (.aload_n 0, 1) := by decide +kernel
theorem dX5_read_133 : decode cX5_read 133 = .ok (.invokevirtual 102, 3) := by decide +kernel
theorem dX5_read_136 : decode cX5_read 136 = .ok (.istore 6, 2) := by decide +kernel
theorem dX5_read_138 : decode cX5_read 138 = .ok (.iload 6, 2) := by decide +kernel
theorem dX5_read_140 : decode cX5_read 140 = .ok (.ifCond .ne 5, 3) := by decide +kernel
theorem dX5_read_143 : decode cX5_read 143 = .ok (.iconst (-1), 1) := by decide +kernel
theorem dX5_read_144 : decode cX5_read 144 = .ok (.ireturn, 1) := by decide +kernel
theorem dX5_read_145 : decode cX5_read 145 = .ok (.aload_n 0, 1) := by decide +kernel
theorem dX5_read_146 : decode cX5_read 146 = .ok (.dup, 1) := by decide +kernel
theorem dX5_read_147 : decode cX5_read 147 = .ok (.getfield 67, 3) := by decide +kernel
theorem dX5_read_150 : decode cX5_read 150 = .ok (.iconst 1, 1) := by decide +kernel
theorem dX5_read_151 : decode cX5_read 151 = .ok (.iadd, 1) := by decide +kernel
theorem dX5_read_152 : decode cX5_read 152 = .ok (.putfield 67, 3) := by decide +kernel
theorem dX5_read_155 : decode cX5_read 155 = .ok (.iinc 5 1, 3) := by decide +kernel
theorem dX5_read_158 : decode cX5_read 158 = .ok (.goto (-79), 3) := by decide +kernel
theorem dX5_read_161 : decode cX5_read 161 = .ok (.aload_n 0, 1) := by decide +kernel
theorem dX5_read_162 : decode cX5_read 162 = .ok (.getfield 67, 3) := by decide +kernel
theorem dX5_read_165 : decode cX5_read 165 = .ok (.ireturn, 1) := by decide +kernel
theorem dX5_wordsOf_0 : decode cX5_wordsOf 0 = .ok (.iload_n 0, 1) := by decide +kernel
theorem dX5_wordsOf_1 : decode cX5_wordsOf 1 = .ok (.tableswitch 36 0 2 #[27, 30, 33], 27) := by decide +kernel
theorem dX5_wordsOf_28 : decode cX5_wordsOf 28 = .ok (.ldc 105, 2) := by decide +kernel
theorem dX5_wordsOf_30 : decode cX5_wordsOf 30 = .ok (.areturn, 1) := by decide +kernel
theorem dX5_wordsOf_31 : decode cX5_wordsOf 31 = .ok (.ldc 107, 2) := by decide +kernel
theorem dX5_wordsOf_33 : decode cX5_wordsOf 33 = .ok (.areturn, 1) := by decide +kernel
theorem dX5_wordsOf_34 : decode cX5_wordsOf 34 = .ok (.ldc 109, 2) := by decide +kernel
theorem dX5_wordsOf_36 : decode cX5_wordsOf 36 = .ok (.areturn, 1) := by decide +kernel
theorem dX5_wordsOf_37 : decode cX5_wordsOf 37 = .ok (.ldc 111, 2) := by decide +kernel
theorem dX5_wordsOf_39 : decode cX5_wordsOf 39 = .ok (.areturn, 1) := by decide +kernel
theorem dX5_kind_0 : decode cX5_kind 0 = .ok (.aload_n 0, 1) := by decide +kernel
theorem dX5_kind_1 : decode cX5_kind 1 = .ok (.getfield 64, 3) := by decide +kernel
theorem dX5_kind_4 : decode cX5_kind 4 = .ok (.aload_n 0, 1) := by decide +kernel
theorem dX5_kind_5 : decode cX5_kind 5 = .ok (.getfield 42, 3) := by decide +kernel
theorem dX5_kind_8 : decode cX5_kind 8 = .ok (.getfield 113, 3) := by decide +kernel
theorem dX5_kind_11 : decode cX5_kind 11 = .ok (.if_icmp .ge 33, 3) := by decide +kernel
theorem dX5_kind_14 : decode cX5_kind 14 = .ok (.aload_n 0, 1) := by decide +kernel
theorem dX5_kind_15 : decode cX5_kind 15 = .ok (.getfield 64, 3) := by decide +kernel
theorem dX5_kind_18 : decode cX5_kind 18 = .ok (.aload_n 0, 1) := by decide +kernel
theorem dX5_kind_19 : decode cX5_kind 19 = .ok (.getfield 42, 3) := by decide +kernel
theorem dX5_kind_22 : decode cX5_kind 22 = .ok (.getfield 114, 3) := by decide +kernel
theorem dX5_kind_25 : decode cX5_kind 25 = .ok (.arraylength, 1) := by decide +kernel
theorem dX5_kind_26 : decode cX5_kind 26 = .ok (.if_icmp .ge 18, 3) := by decide +kernel
theorem dX5_kind_29 : decode cX5_kind 29 = .ok (.aload_n 0, 1) := by decide +kernel
theorem dX5_kind_30 : decode cX5_kind 30 = .ok (.getfield 42, 3) := by decide +kernel
theorem dX5_kind_33 : decode cX5_kind 33 = .ok (.getfield 114, 3) := by decide +kernel
theorem dX5_kind_36 : decode cX5_kind 36 = .ok (.aload_n 0, 1) := by decide +kernel
theorem dX5_kind_37 : decode cX5_kind 37 = .ok (.getfield 64, 3) := by decide +kernel
theorem dX5_kind_40 : decode cX5_kind 40 = .ok (.iaload, 1) := by decide +kernel
theorem dX5_kind_41 : decode cX5_kind 41 = .ok (.goto 6, 3) := by decide +kernel
theorem dX5_kind_44 : decode cX5_kind 44 = .ok (.sipush 200, 3) := by decide +kernel
theorem dX5_kind_47 : decode cX5_kind 47 = .ok (.ireturn, 1) := by decide +kernel
theorem dX5_isWord_0 : decode cX5_isWord 0 = .ok (.aload_n 0, 1) := by decide +kernel
theorem dX5_isWord_1 : decode cX5_isWord 1 = .ok (.invokevirtual 88, 3) := by decide +kernel
theorem dX5_isWord_4 : decode cX5_isWord 4 = .ok (.sipush 300, 3) := by decide +kernel
theorem dX5_isWord_7 : decode cX5_isWord 7 = .ok (.iload_n 1, 1) := by decide +kernel
theorem dX5_isWord_8 : decode cX5_isWord 8 = .ok (.iadd, 1) := by decide +kernel
theorem dX5_isWord_9 : decode cX5_isWord 9 = .ok (.if_icmp .ne 7, 3) := by decide +kernel
theorem dX5_isWord_12 : decode cX5_isWord 12 = .ok (.iconst 1, 1) := by decide +kernel
theorem dX5_isWord_13 : decode cX5_isWord 13 = .ok (.goto 4, 3) := by decide +kernel
theorem dX5_isWord_16 : decode cX5_isWord 16 = .ok (.iconst 0, 1) := by decide +kernel
theorem dX5_isWord_17 : decode cX5_isWord 17 = .ok (.ireturn, 1) := by decide +kernel
theorem dX5_refuse_0 : decode cX5_refuse 0 = .ok (.aload_n 0, 1) := by decide +kernel
theorem dX5_refuse_1 : decode cX5_refuse 1 = .ok (.iload_n 1, 1) := by decide +kernel
theorem dX5_refuse_2 : decode cX5_refuse 2 = .ok (.putfield 50, 3) := by decide +kernel
theorem dX5_refuse_5 : decode cX5_refuse 5 = .ok (.aload_n 0, 1) := by decide +kernel
theorem dX5_refuse_6 : decode cX5_refuse 6 = .ok (.aload_n 0, 1) := by decide +kernel
theorem dX5_refuse_7 : decode cX5_refuse 7 = .ok (.getfield 64, 3) := by decide +kernel
theorem dX5_refuse_10 : decode cX5_refuse 10 = .ok (.aload_n 0, 1) := by decide +kernel
theorem dX5_refuse_11 : decode cX5_refuse 11 = .ok (.getfield 42, 3) := by decide +kernel
theorem dX5_refuse_14 : decode cX5_refuse 14 = .ok (.getfield 113, 3) := by decide +kernel
theorem dX5_refuse_17 : decode cX5_refuse 17 = .ok (.if_icmp .ge 33, 3) := by decide +kernel
theorem dX5_refuse_20 : decode cX5_refuse 20 = .ok (.aload_n 0, 1) := by decide +kernel
theorem dX5_refuse_21 : decode cX5_refuse 21 = .ok (.getfield 64, 3) := by decide +kernel
theorem dX5_refuse_24 : decode cX5_refuse 24 = .ok (.aload_n 0, 1) := by decide +kernel
theorem dX5_refuse_25 : decode cX5_refuse 25 = .ok (.getfield 42, 3) := by decide +kernel
theorem dX5_refuse_28 : decode cX5_refuse 28 = .ok (.getfield 117, 3) := by decide +kernel
theorem dX5_refuse_31 : decode cX5_refuse 31 = .ok (.arraylength, 1) := by decide +kernel
theorem dX5_refuse_32 : decode cX5_refuse 32 = .ok (.if_icmp .ge 18, 3) := by decide +kernel
theorem dX5_refuse_35 : decode cX5_refuse 35 = .ok (.aload_n 0, 1) := by decide +kernel
theorem dX5_refuse_36 : decode cX5_refuse 36 = .ok (.getfield 42, 3) := by decide +kernel
theorem dX5_refuse_39 : decode cX5_refuse 39 = .ok (.getfield 117, 3) := by decide +kernel
theorem dX5_refuse_42 : decode cX5_refuse 42 = .ok (.aload_n 0, 1) := by decide +kernel
theorem dX5_refuse_43 : decode cX5_refuse 43 = .ok (.getfield 64, 3) := by decide +kernel
theorem dX5_refuse_46 : decode cX5_refuse 46 = .ok (.iaload, 1) := by decide +kernel
theorem dX5_refuse_47 : decode cX5_refuse 47 = .ok (.goto 4, 3) := by decide +kernel
theorem dX5_refuse_50 : decode cX5_refuse 50 = .ok (.iconst (-1), 1) := by decide +kernel
theorem dX5_refuse_51 : decode cX5_refuse 51 = .ok (.putfield 46, 3) := by decide +kernel
theorem dX5_refuse_54 : decode cX5_refuse 54 = .ok (.iconst 0, 1) := by decide +kernel
theorem dX5_refuse_55 : decode cX5_refuse 55 = .ok (.ireturn, 1) := by decide +kernel
theorem dX5_take_0 : decode cX5_take 0 = .ok (.aload_n 0, 1) := by decide +kernel
theorem dX5_take_1 : decode cX5_take 1 = .ok (.invokevirtual 88, 3) := by decide +kernel
theorem dX5_take_4 : decode cX5_take 4 = .ok (.iload_n 1, 1) := by decide +kernel
theorem dX5_take_5 : decode cX5_take 5 = .ok (.if_icmp .eq 9, 3) := by decide +kernel
theorem dX5_take_8 : decode cX5_take 8 = .ok (.aload_n 0, 1) := by decide +kernel
theorem dX5_take_9 : decode cX5_take 9 = .ok (.iconst 1, 1) := by decide +kernel
theorem dX5_take_10 : decode cX5_take 10 = .ok (.invokevirtual 120, 3) := by decide +kernel
theorem dX5_take_13 : decode cX5_take 13 = .ok (.ireturn, 1) := by decide +kernel
theorem dX5_take_14 : decode cX5_take 14 = .ok (.aload_n 0, 1) := by decide +kernel
theorem dX5_take_15 : decode cX5_take 15 = .ok (.dup, 1) := by decide +kernel
theorem dX5_take_16 : decode cX5_take 16 = .ok (.getfield 64, 3) := by decide +kernel
theorem dX5_take_19 : decode cX5_take 19 = .ok (.iconst 1, 1) := by decide +kernel
theorem dX5_take_20 : decode cX5_take 20 = .ok (.iadd, 1) := by decide +kernel
theorem dX5_take_21 : decode cX5_take 21 = .ok (.putfield 64, 3) := by decide +kernel
theorem dX5_take_24 : decode cX5_take 24 = .ok (.iconst 1, 1) := by decide +kernel
theorem dX5_take_25 : decode cX5_take 25 = .ok (.ireturn, 1) := by decide +kernel
theorem dX5_numberHere_0 : decode cX5_numberHere 0 = .ok (.aload_n 0, 1) := by decide +kernel
theorem dX5_numberHere_1 : decode cX5_numberHere 1 = .ok (.getfield 64, 3) := by decide +kernel
theorem dX5_numberHere_4 : decode cX5_numberHere 4 = .ok (.aload_n 0, 1) := by decide +kernel
theorem dX5_numberHere_5 : decode cX5_numberHere 5 = .ok (.getfield 42, 3) := by decide +kernel
theorem dX5_numberHere_8 : decode cX5_numberHere 8 = .ok (.getfield 113, 3) := by decide +kernel
theorem dX5_numberHere_11 : decode cX5_numberHere 11 = .ok (.if_icmp .ge 33, 3) := by decide +kernel
theorem dX5_numberHere_14 : decode cX5_numberHere 14 = .ok (.aload_n 0, 1) := by decide +kernel
theorem dX5_numberHere_15 : decode cX5_numberHere 15 = .ok (.getfield 64, 3) := by decide +kernel
theorem dX5_numberHere_18 : decode cX5_numberHere 18 = .ok (.aload_n 0, 1) := by decide +kernel
theorem dX5_numberHere_19 : decode cX5_numberHere 19 = .ok (.getfield 42, 3) := by decide +kernel
theorem dX5_numberHere_22 : decode cX5_numberHere 22 = .ok (.getfield 124, 3) := by decide +kernel
theorem dX5_numberHere_25 : decode cX5_numberHere 25 = .ok (.arraylength, 1) := by decide +kernel
theorem dX5_numberHere_26 : decode cX5_numberHere 26 = .ok (.if_icmp .ge 18, 3) := by decide +kernel
theorem dX5_numberHere_29 : decode cX5_numberHere 29 = .ok (.aload_n 0, 1) := by decide +kernel
theorem dX5_numberHere_30 : decode cX5_numberHere 30 = .ok (.getfield 42, 3) := by decide +kernel
theorem dX5_numberHere_33 : decode cX5_numberHere 33 = .ok (.getfield 124, 3) := by decide +kernel
theorem dX5_numberHere_36 : decode cX5_numberHere 36 = .ok (.aload_n 0, 1) := by decide +kernel
theorem dX5_numberHere_37 : decode cX5_numberHere 37 = .ok (.getfield 64, 3) := by decide +kernel
theorem dX5_numberHere_40 : decode cX5_numberHere 40 = .ok (.iaload, 1) := by decide +kernel
theorem dX5_numberHere_41 : decode cX5_numberHere 41 = .ok (.goto 4, 3) := by decide +kernel
theorem dX5_numberHere_44 : decode cX5_numberHere 44 = .ok (.iconst (-1), 1) := by decide +kernel
theorem dX5_numberHere_45 : decode cX5_numberHere 45 = .ok (.ireturn, 1) := by decide +kernel
theorem dX5_number_0 : decode cX5_number 0 = .ok (.aload_n 0, 1) := by decide +kernel
theorem dX5_number_1 : decode cX5_number 1 = .ok (.invokevirtual 88, 3) := by decide +kernel
theorem dX5_number_4 : decode cX5_number 4 = .ok (.sipush 201, 3) := by decide +kernel
theorem dX5_number_7 : decode cX5_number 7 = .ok (.if_icmp .eq 9, 3) := by decide +kernel
theorem dX5_number_10 : decode cX5_number 10 = .ok (.aload_n 0, 1) := by decide +kernel
theorem dX5_number_11 : decode cX5_number 11 = .ok (.iconst 1, 1) := by decide +kernel
theorem dX5_number_12 : decode cX5_number 12 = .ok (.invokevirtual 120, 3) := by decide +kernel
theorem dX5_number_15 : decode cX5_number 15 = .ok (.ireturn, 1) := by decide +kernel
theorem dX5_number_16 : decode cX5_number 16 = .ok (.aload_n 0, 1) := by decide +kernel
theorem dX5_number_17 : decode cX5_number 17 = .ok (.aload_n 0, 1) := by decide +kernel
theorem dX5_number_18 : decode cX5_number 18 = .ok (.invokevirtual 127, 3) := by decide +kernel
theorem dX5_number_21 : decode cX5_number 21 = .ok (.putfield 130, 3) := by decide +kernel
theorem dX5_number_24 : decode cX5_number 24 = .ok (.aload_n 0, 1) := by decide +kernel
theorem dX5_number_25 : decode cX5_number 25 = .ok (.getfield 130, 3) := by decide +kernel
theorem dX5_number_28 : decode cX5_number 28 = .ok (.iload_n 1, 1) := by decide +kernel
theorem dX5_number_29 : decode cX5_number 29 = .ok (.if_icmp .lt 11, 3) := by decide +kernel
theorem dX5_number_32 : decode cX5_number 32 = .ok (.aload_n 0, 1) := by decide +kernel
theorem dX5_number_33 : decode cX5_number 33 = .ok (.getfield 130, 3) := by decide +kernel
theorem dX5_number_36 : decode cX5_number 36 = .ok (.iload_n 2, 1) := by decide +kernel
theorem dX5_number_37 : decode cX5_number 37 = .ok (.if_icmp .le 9, 3) := by decide +kernel
theorem dX5_number_40 : decode cX5_number 40 = .ok (.aload_n 0, 1) := by decide +kernel
theorem dX5_number_41 : decode cX5_number 41 = .ok (.iconst 2, 1) := by decide +kernel
theorem dX5_number_42 : decode cX5_number 42 = .ok (.invokevirtual 120, 3) := by decide +kernel
theorem dX5_number_45 : decode cX5_number 45 = .ok (.ireturn, 1) := by decide +kernel
theorem dX5_number_46 : decode cX5_number 46 = .ok (.aload_n 0, 1) := by decide +kernel
theorem dX5_number_47 : decode cX5_number 47 = .ok (.dup, 1) := by decide +kernel
theorem dX5_number_48 : decode cX5_number 48 = .ok (.getfield 64, 3) := by decide +kernel
theorem dX5_number_51 : decode cX5_number 51 = .ok (.iconst 1, 1) := by decide +kernel
theorem dX5_number_52 : decode cX5_number 52 = .ok (.iadd, 1) := by decide +kernel
theorem dX5_number_53 : decode cX5_number 53 = .ok (.putfield 64, 3) := by decide +kernel
theorem dX5_number_56 : decode cX5_number 56 = .ok (.iconst 1, 1) := by decide +kernel
theorem dX5_number_57 : decode cX5_number 57 = .ok (.ireturn, 1) := by decide +kernel
theorem dX5_begin_0 : decode cX5_begin 0 = .ok (.aload_n 0, 1) := by decide +kernel
theorem dX5_begin_1 : decode cX5_begin 1 = .ok (.iload_n 1, 1) := by decide +kernel
theorem dX5_begin_2 : decode cX5_begin 2 = .ok (.invokevirtual 133, 3) := by decide +kernel
theorem dX5_begin_5 : decode cX5_begin 5 = .ok (.ifCond .ne 9, 3) := by decide +kernel
theorem dX5_begin_8 : decode cX5_begin 8 = .ok (.aload_n 0, 1) := by decide +kernel
theorem dX5_begin_9 : decode cX5_begin 9 = .ok (.iconst 1, 1) := by decide +kernel
theorem dX5_begin_10 : decode cX5_begin 10 = .ok (.invokevirtual 120, 3) := by decide +kernel
theorem dX5_begin_13 : decode cX5_begin 13 = .ok (.ireturn, 1) := by decide +kernel
theorem dX5_begin_14 : decode cX5_begin 14 = .ok (.aload_n 0, 1) := by decide +kernel
theorem dX5_begin_15 : decode cX5_begin 15 = .ok (.getfield 67, 3) := by decide +kernel
theorem dX5_begin_18 : decode cX5_begin 18 = .ok (.bipush 16, 2) := by decide +kernel
theorem dX5_begin_20 : decode cX5_begin 20 = .ok (.if_icmp .lt 9, 3) := by decide +kernel
theorem dX5_begin_23 : decode cX5_begin 23 = .ok (.aload_n 0, 1) := by decide +kernel
theorem dX5_begin_24 : decode cX5_begin 24 = .ok (.iconst 3, 1) := by decide +kernel
theorem dX5_begin_25 : decode cX5_begin 25 = .ok (.invokevirtual 120, 3) := by decide +kernel
theorem dX5_begin_28 : decode cX5_begin 28 = .ok (.ireturn, 1) := by decide +kernel
theorem dX5_begin_29 : decode cX5_begin 29 = .ok (.aload_n 0, 1) := by decide +kernel
theorem dX5_begin_30 : decode cX5_begin 30 = .ok (.dup, 1) := by decide +kernel
theorem dX5_begin_31 : decode cX5_begin 31 = .ok (.getfield 64, 3) := by decide +kernel
theorem dX5_begin_34 : decode cX5_begin 34 = .ok (.iconst 1, 1) := by decide +kernel
theorem dX5_begin_35 : decode cX5_begin 35 = .ok (.iadd, 1) := by decide +kernel
theorem dX5_begin_36 : decode cX5_begin 36 = .ok (.putfield 64, 3) := by decide +kernel
theorem dX5_begin_39 : decode cX5_begin 39 = .ok (.iconst 1, 1) := by decide +kernel
theorem dX5_begin_40 : decode cX5_begin 40 = .ok (.ireturn, 1) := by decide +kernel
theorem dX5_lawLine_0 : decode cX5_lawLine 0 = .ok (.aload_n 0, 1) := by decide +kernel
theorem dX5_lawLine_1 : decode cX5_lawLine 1 = .ok (.iconst 0, 1) := by decide +kernel
theorem dX5_lawLine_2 : decode cX5_lawLine 2 = .ok (.invokevirtual 133, 3) := by decide +kernel
theorem dX5_lawLine_5 : decode cX5_lawLine 5 = .ok (.ifCond .eq 7, 3) := by decide +kernel
theorem dX5_lawLine_8 : decode cX5_lawLine 8 = .ok (.iconst 0, 1) := by decide +kernel
theorem dX5_lawLine_9 : decode cX5_lawLine 9 = .ok (.goto 16, 3) := by decide +kernel
theorem dX5_lawLine_12 : decode cX5_lawLine 12 = .ok (.aload_n 0, 1) := by decide +kernel
theorem dX5_lawLine_13 : decode cX5_lawLine 13 = .ok (.iconst 1, 1) := by decide +kernel
theorem dX5_lawLine_14 : decode cX5_lawLine 14 = .ok (.invokevirtual 133, 3) := by decide +kernel
theorem dX5_lawLine_17 : decode cX5_lawLine 17 = .ok (.ifCond .eq 7, 3) := by decide +kernel
theorem dX5_lawLine_20 : decode cX5_lawLine 20 = .ok (.iconst 1, 1) := by decide +kernel
theorem dX5_lawLine_21 : decode cX5_lawLine 21 = .ok (.goto 4, 3) := by decide +kernel
theorem dX5_lawLine_24 : decode cX5_lawLine 24 = .ok (.iconst 2, 1) := by decide +kernel
theorem dX5_lawLine_25 : decode cX5_lawLine 25 = .ok (.istore_n 1, 1) := by decide +kernel
theorem dX5_lawLine_26 : decode cX5_lawLine 26 = .ok (.aload_n 0, 1) := by decide +kernel
theorem dX5_lawLine_27 : decode cX5_lawLine 27 = .ok (.iload_n 1, 1) := by decide +kernel
theorem dX5_lawLine_28 : decode cX5_lawLine 28 = .ok (.invokevirtual 136, 3) := by decide +kernel
theorem dX5_lawLine_31 : decode cX5_lawLine 31 = .ok (.ifCond .ne 5, 3) := by decide +kernel
theorem dX5_lawLine_34 : decode cX5_lawLine 34 = .ok (.iconst 0, 1) := by decide +kernel
theorem dX5_lawLine_35 : decode cX5_lawLine 35 = .ok (.ireturn, 1) := by decide +kernel
theorem dX5_lawLine_36 : decode cX5_lawLine 36 = .ok (.aload_n 0, 1) := by decide +kernel
theorem dX5_lawLine_37 : decode cX5_lawLine 37 = .ok (.getfield 12, 3) := by decide +kernel
theorem dX5_lawLine_40 : decode cX5_lawLine 40 = .ok (.iload_n 1, 1) := by decide +kernel
theorem dX5_lawLine_41 : decode cX5_lawLine 41 = .ok (.invokevirtual 139, 3) := by decide +kernel
theorem dX5_lawLine_44 : decode cX5_lawLine 44 = .ok (.aload_n 0, 1) := by decide +kernel
theorem dX5_lawLine_45 : decode cX5_lawLine 45 = .ok (.invokevirtual 143, 3) := by decide +kernel
theorem dX5_lawLine_48 : decode cX5_lawLine 48 = .ok (.ifCond .ne 5, 3) := by decide +kernel
theorem dX5_lawLine_51 : decode cX5_lawLine 51 = .ok (.iconst 0, 1) := by decide +kernel
theorem dX5_lawLine_52 : decode cX5_lawLine 52 = .ok (.ireturn, 1) := by decide +kernel
theorem dX5_lawLine_53 : decode cX5_lawLine 53 = .ok (.aload_n 0, 1) := by decide +kernel
theorem dX5_lawLine_54 : decode cX5_lawLine 54 = .ok (.getfield 12, 3) := by decide +kernel
theorem dX5_lawLine_57 : decode cX5_lawLine 57 = .ok (.invokevirtual 146, 3) := by decide +kernel
theorem dX5_lawLine_60 : decode cX5_lawLine 60 = .ok (.aload_n 0, 1) := by decide +kernel
theorem dX5_lawLine_61 : decode cX5_lawLine 61 = .ok (.iconst 3, 1) := by decide +kernel
theorem dX5_lawLine_62 : decode cX5_lawLine 62 = .ok (.invokevirtual 133, 3) := by decide +kernel
theorem dX5_lawLine_65 : decode cX5_lawLine 65 = .ok (.ifCond .eq 23, 3) := by decide +kernel
theorem dX5_lawLine_68 : decode cX5_lawLine 68 = .ok (.aload_n 0, 1) := by decide +kernel
theorem dX5_lawLine_69 : decode cX5_lawLine 69 = .ok (.dup, 1) := by decide +kernel
theorem dX5_lawLine_70 : decode cX5_lawLine 70 = .ok (.getfield 64, 3) := by decide +kernel
theorem dX5_lawLine_73 : decode cX5_lawLine 73 = .ok (.iconst 1, 1) := by decide +kernel
theorem dX5_lawLine_74 : decode cX5_lawLine 74 = .ok (.iadd, 1) := by decide +kernel
theorem dX5_lawLine_75 : decode cX5_lawLine 75 = .ok (.putfield 64, 3) := by decide +kernel
theorem dX5_lawLine_78 : decode cX5_lawLine 78 = .ok (.aload_n 0, 1) := by decide +kernel
theorem dX5_lawLine_79 : decode cX5_lawLine 79 = .ok (.iconst 0, 1) := by decide +kernel
theorem dX5_lawLine_80 : decode cX5_lawLine 80 = .ok (.invokevirtual 149, 3) := by decide +kernel
theorem dX5_lawLine_83 : decode cX5_lawLine 83 = .ok (.ifCond .ne 5, 3) := by decide +kernel
theorem dX5_lawLine_86 : decode cX5_lawLine 86 = .ok (.iconst 0, 1) := by decide +kernel
theorem dX5_lawLine_87 : decode cX5_lawLine 87 = .ok (.ireturn, 1) := by decide +kernel
theorem dX5_lawLine_88 : decode cX5_lawLine 88 = .ok (.aload_n 0, 1) := by decide +kernel
theorem dX5_lawLine_89 : decode cX5_lawLine 89 = .ok (.getfield 12, 3) := by decide +kernel
theorem dX5_lawLine_92 : decode cX5_lawLine 92 = .ok (.invokevirtual 152, 3) := by decide +kernel
theorem dX5_lawLine_95 : decode cX5_lawLine 95 = .ok (.aload_n 0, 1) := by decide +kernel
theorem dX5_lawLine_96 : decode cX5_lawLine 96 = .ok (.bipush 59, 2) := by decide +kernel
theorem dX5_lawLine_98 : decode cX5_lawLine 98 = .ok (.invokevirtual 155, 3) := by decide +kernel
theorem dX5_lawLine_101 : decode cX5_lawLine 101 = .ok (.ireturn, 1) := by decide +kernel
theorem dX5_condition_0 : decode cX5_condition 0 = .ok (.aload_n 0, 1) := by decide +kernel
theorem dX5_condition_1 : decode cX5_condition 1 = .ok (.iload_n 1, 1) := by decide +kernel
theorem dX5_condition_2 : decode cX5_condition 2 = .ok (.invokevirtual 158, 3) := by decide +kernel
theorem dX5_condition_5 : decode cX5_condition 5 = .ok (.ifCond .ne 5, 3) := by decide +kernel
theorem dX5_condition_8 : decode cX5_condition 8 = .ok (.iconst 0, 1) := by decide +kernel
theorem dX5_condition_9 : decode cX5_condition 9 = .ok (.ireturn, 1) := by decide +kernel
theorem dX5_condition_10 : decode cX5_condition 10 = .ok (.iconst 0, 1) := by decide +kernel
theorem dX5_condition_11 : decode cX5_condition 11 = .ok (.istore_n 2, 1) := by decide +kernel
theorem dX5_condition_12 : decode cX5_condition 12 = .ok (.iconst 0, 1) := by decide +kernel
theorem dX5_condition_13 : decode cX5_condition 13 = .ok (.istore_n 3, 1) := by decide +kernel
theorem dX5_condition_14 : decode cX5_condition 14 = .ok (.iload_n 3, 1) := by decide +kernel
theorem dX5_condition_15 : decode cX5_condition 15 = .ok (.sipush 400, 3) := by decide +kernel
theorem dX5_condition_18 : decode cX5_condition 18 = .ok (.if_icmp .ge 98, 3) := by decide +kernel
theorem dX5_condition_21 : decode cX5_condition 21 = .ok (.aload_n 0, 1) := by decide +kernel
theorem dX5_condition_22 : decode cX5_condition 22 = .ok (.iconst 5, 1) := by decide +kernel
theorem dX5_condition_23 : decode cX5_condition 23 = .ok (.invokevirtual 133, 3) := by decide +kernel
theorem dX5_condition_26 : decode cX5_condition 26 = .ok (.istore 4, 2) := by decide +kernel
theorem dX5_condition_28 : decode cX5_condition 28 = .ok (.iload 4, 2) := by decide +kernel
theorem dX5_condition_30 : decode cX5_condition 30 = .ok (.ifCond .ne 16, 3) := by decide +kernel
theorem dX5_condition_33 : decode cX5_condition 33 = .ok (.iload_n 2, 1) := by decide +kernel
theorem dX5_condition_34 : decode cX5_condition 34 = .ok (.ifCond .eq 12, 3) := by decide +kernel
theorem dX5_condition_37 : decode cX5_condition 37 = .ok (.aload_n 0, 1) := by decide +kernel
theorem dX5_condition_38 : decode cX5_condition 38 = .ok (.getfield 12, 3) := by decide +kernel
theorem dX5_condition_41 : decode cX5_condition 41 = .ok (.bipush (-9), 2) := by decide +kernel
theorem dX5_condition_43 : decode cX5_condition 43 = .ok (.invokevirtual 161, 3) := by decide +kernel
theorem dX5_condition_46 : decode cX5_condition 46 = .ok (.iload 4, 2) := by decide +kernel
theorem dX5_condition_48 : decode cX5_condition 48 = .ok (.ifCond .ne 13, 3) := by decide +kernel
theorem dX5_condition_51 : decode cX5_condition 51 = .ok (.aload_n 0, 1) := by decide +kernel
theorem dX5_condition_52 : decode cX5_condition 52 = .ok (.iconst 4, 1) := by decide +kernel
theorem dX5_condition_53 : decode cX5_condition 53 = .ok (.invokevirtual 133, 3) := by decide +kernel
theorem dX5_condition_56 : decode cX5_condition 56 = .ok (.ifCond .ne 5, 3) := by decide +kernel
theorem dX5_condition_59 : decode cX5_condition 59 = .ok (.iconst 1, 1) := by decide +kernel
theorem dX5_condition_60 : decode cX5_condition 60 = .ok (.ireturn, 1) := by decide +kernel
theorem dX5_condition_61 : decode cX5_condition 61 = .ok (.iload_n 2, 1) := by decide +kernel
theorem dX5_condition_62 : decode cX5_condition 62 = .ok (.ifCond .ne 8, 3) := by decide +kernel
theorem dX5_condition_65 : decode cX5_condition 65 = .ok (.iload 4, 2) := by decide +kernel
theorem dX5_condition_67 : decode cX5_condition 67 = .ok (.ifCond .ne 7, 3) := by decide +kernel
theorem dX5_condition_70 : decode cX5_condition 70 = .ok (.iconst 1, 1) := by decide +kernel
theorem dX5_condition_71 : decode cX5_condition 71 = .ok (.goto 4, 3) := by decide +kernel
theorem dX5_condition_74 : decode cX5_condition 74 = .ok (.iconst 0, 1) := by decide +kernel
theorem dX5_condition_75 : decode cX5_condition 75 = .ok (.istore_n 2, 1) := by decide +kernel
theorem dX5_condition_76 : decode cX5_condition 76 = .ok (.aload_n 0, 1) := by decide +kernel
theorem dX5_condition_77 : decode cX5_condition 77 = .ok (.dup, 1) := by decide +kernel
theorem dX5_condition_78 : decode cX5_condition 78 = .ok (.getfield 64, 3) := by decide +kernel
theorem dX5_condition_81 : decode cX5_condition 81 = .ok (.iconst 1, 1) := by decide +kernel
theorem dX5_condition_82 : decode cX5_condition 82 = .ok (.iadd, 1) := by decide +kernel
theorem dX5_condition_83 : decode cX5_condition 83 = .ok (.putfield 64, 3) := by decide +kernel
theorem dX5_condition_86 : decode cX5_condition 86 = .ok (.aload_n 0, 1) := by decide +kernel
theorem dX5_condition_87 : decode cX5_condition 87 = .ok (.iload_n 1, 1) := by decide +kernel
theorem dX5_condition_88 : decode cX5_condition 88 = .ok (.invokevirtual 158, 3) := by decide +kernel
theorem dX5_condition_91 : decode cX5_condition 91 = .ok (.ifCond .ne 5, 3) := by decide +kernel
theorem dX5_condition_94 : decode cX5_condition 94 = .ok (.iconst 0, 1) := by decide +kernel
theorem dX5_condition_95 : decode cX5_condition 95 = .ok (.ireturn, 1) := by decide +kernel
theorem dX5_condition_96 : decode cX5_condition 96 = .ok (.iload 4, 2) := by decide +kernel
theorem dX5_condition_98 : decode cX5_condition 98 = .ok (.ifCond .eq 12, 3) := by decide +kernel
theorem dX5_condition_101 : decode cX5_condition 101 = .ok (.aload_n 0, 1) := by decide +kernel
theorem dX5_condition_102 : decode cX5_condition 102 = .ok (.getfield 12, 3) := by decide +kernel
theorem dX5_condition_105 : decode cX5_condition 105 = .ok (.bipush (-8), 2) := by decide +kernel
theorem dX5_condition_107 : decode cX5_condition 107 = .ok (.invokevirtual 161, 3) := by decide +kernel
theorem dX5_condition_110 : decode cX5_condition 110 = .ok (.iinc 3 1, 3) := by decide +kernel
theorem dX5_condition_113 : decode cX5_condition 113 = .ok (.goto (-99), 3) := by decide +kernel
theorem dX5_condition_116 : decode cX5_condition 116 = .ok (.iconst 1, 1) := by decide +kernel
theorem dX5_condition_117 : decode cX5_condition 117 = .ok (.ireturn, 1) := by decide +kernel
theorem dX5_comparison_0 : decode cX5_comparison 0 = .ok (.aload_n 0, 1) := by decide +kernel
theorem dX5_comparison_1 : decode cX5_comparison 1 = .ok (.bipush 6, 2) := by decide +kernel
theorem dX5_comparison_3 : decode cX5_comparison 3 = .ok (.invokevirtual 133, 3) := by decide +kernel
theorem dX5_comparison_6 : decode cX5_comparison 6 = .ok (.istore_n 2, 1) := by decide +kernel
theorem dX5_comparison_7 : decode cX5_comparison 7 = .ok (.iload_n 2, 1) := by decide +kernel
theorem dX5_comparison_8 : decode cX5_comparison 8 = .ok (.ifCond .ne 12, 3) := by decide +kernel
theorem dX5_comparison_11 : decode cX5_comparison 11 = .ok (.aload_n 0, 1) := by decide +kernel
theorem dX5_comparison_12 : decode cX5_comparison 12 = .ok (.invokevirtual 88, 3) := by decide +kernel
theorem dX5_comparison_15 : decode cX5_comparison 15 = .ok (.bipush 40, 2) := by decide +kernel
theorem dX5_comparison_17 : decode cX5_comparison 17 = .ok (.if_icmp .ne 77, 3) := by decide +kernel
theorem dX5_comparison_20 : decode cX5_comparison 20 = .ok (.iload_n 1, 1) := by decide +kernel
theorem dX5_comparison_21 : decode cX5_comparison 21 = .ok (.bipush 8, 2) := by decide +kernel
theorem dX5_comparison_23 : decode cX5_comparison 23 = .ok (.if_icmp .lt 9, 3) := by decide +kernel
theorem dX5_comparison_26 : decode cX5_comparison 26 = .ok (.aload_n 0, 1) := by decide +kernel
theorem dX5_comparison_27 : decode cX5_comparison 27 = .ok (.iconst 3, 1) := by decide +kernel
theorem dX5_comparison_28 : decode cX5_comparison 28 = .ok (.invokevirtual 120, 3) := by decide +kernel
theorem dX5_comparison_31 : decode cX5_comparison 31 = .ok (.ireturn, 1) := by decide +kernel
theorem dX5_comparison_32 : decode cX5_comparison 32 = .ok (.aload_n 0, 1) := by decide +kernel
theorem dX5_comparison_33 : decode cX5_comparison 33 = .ok (.dup, 1) := by decide +kernel
theorem dX5_comparison_34 : decode cX5_comparison 34 = .ok (.getfield 64, 3) := by decide +kernel
theorem dX5_comparison_37 : decode cX5_comparison 37 = .ok (.iconst 1, 1) := by decide +kernel
theorem dX5_comparison_38 : decode cX5_comparison 38 = .ok (.iadd, 1) := by decide +kernel
theorem dX5_comparison_39 : decode cX5_comparison 39 = .ok (.putfield 64, 3) := by decide +kernel
theorem dX5_comparison_42 : decode cX5_comparison 42 = .ok (.iload_n 2, 1) := by decide +kernel
theorem dX5_comparison_43 : decode cX5_comparison 43 = .ok (.ifCond .ne 28, 3) := by decide +kernel
theorem dX5_comparison_46 : decode cX5_comparison 46 = .ok (.aload_n 0, 1) := by decide +kernel
theorem dX5_comparison_47 : decode cX5_comparison 47 = .ok (.iload_n 1, 1) := by decide +kernel
theorem dX5_comparison_48 : decode cX5_comparison 48 = .ok (.iconst 1, 1) := by decide +kernel
theorem dX5_comparison_49 : decode cX5_comparison 49 = .ok (.iadd, 1) := by decide +kernel
theorem dX5_comparison_50 : decode cX5_comparison 50 = .ok (.invokevirtual 149, 3) := by decide +kernel
theorem dX5_comparison_53 : decode cX5_comparison 53 = .ok (.ifCond .eq 16, 3) := by decide +kernel
theorem dX5_comparison_56 : decode cX5_comparison 56 = .ok (.aload_n 0, 1) := by decide +kernel
theorem dX5_comparison_57 : decode cX5_comparison 57 = .ok (.bipush 41, 2) := by decide +kernel
theorem dX5_comparison_59 : decode cX5_comparison 59 = .ok (.invokevirtual 155, 3) := by decide +kernel
theorem dX5_comparison_62 : decode cX5_comparison 62 = .ok (.ifCond .eq 7, 3) := by decide +kernel
theorem dX5_comparison_65 : decode cX5_comparison 65 = .ok (.iconst 1, 1) := by decide +kernel
theorem dX5_comparison_66 : decode cX5_comparison 66 = .ok (.goto 4, 3) := by decide +kernel
theorem dX5_comparison_69 : decode cX5_comparison 69 = .ok (.iconst 0, 1) := by decide +kernel
theorem dX5_comparison_70 : decode cX5_comparison 70 = .ok (.ireturn, 1) := by decide +kernel
theorem dX5_comparison_71 : decode cX5_comparison 71 = .ok (.aload_n 0, 1) := by decide +kernel
theorem dX5_comparison_72 : decode cX5_comparison 72 = .ok (.iload_n 1, 1) := by decide +kernel
theorem dX5_comparison_73 : decode cX5_comparison 73 = .ok (.iconst 1, 1) := by decide +kernel
theorem dX5_comparison_74 : decode cX5_comparison 74 = .ok (.iadd, 1) := by decide +kernel
theorem dX5_comparison_75 : decode cX5_comparison 75 = .ok (.invokevirtual 158, 3) := by decide +kernel
theorem dX5_comparison_78 : decode cX5_comparison 78 = .ok (.ifCond .ne 5, 3) := by decide +kernel
theorem dX5_comparison_81 : decode cX5_comparison 81 = .ok (.iconst 0, 1) := by decide +kernel
theorem dX5_comparison_82 : decode cX5_comparison 82 = .ok (.ireturn, 1) := by decide +kernel
theorem dX5_comparison_83 : decode cX5_comparison 83 = .ok (.aload_n 0, 1) := by decide +kernel
theorem dX5_comparison_84 : decode cX5_comparison 84 = .ok (.getfield 12, 3) := by decide +kernel
theorem dX5_comparison_87 : decode cX5_comparison 87 = .ok (.bipush (-10), 2) := by decide +kernel
theorem dX5_comparison_89 : decode cX5_comparison 89 = .ok (.invokevirtual 161, 3) := by decide +kernel
theorem dX5_comparison_92 : decode cX5_comparison 92 = .ok (.iconst 1, 1) := by decide +kernel
theorem dX5_comparison_93 : decode cX5_comparison 93 = .ok (.ireturn, 1) := by decide +kernel
theorem dX5_comparison_94 : decode cX5_comparison 94 = .ok (.aload_n 0, 1) := by decide +kernel
theorem dX5_comparison_95 : decode cX5_comparison 95 = .ok (.invokevirtual 143, 3) := by decide +kernel
theorem dX5_comparison_98 : decode cX5_comparison 98 = .ok (.ifCond .ne 5, 3) := by decide +kernel
theorem dX5_comparison_101 : decode cX5_comparison 101 = .ok (.iconst 0, 1) := by decide +kernel
theorem dX5_comparison_102 : decode cX5_comparison 102 = .ok (.ireturn, 1) := by decide +kernel
theorem dX5_comparison_103 : decode cX5_comparison 103 = .ok (.aload_n 0, 1) := by decide +kernel
theorem dX5_comparison_104 : decode cX5_comparison 104 = .ok (.invokevirtual 88, 3) := by decide +kernel
theorem dX5_comparison_107 : decode cX5_comparison 107 = .ok (.istore_n 3, 1) := by decide +kernel
theorem dX5_comparison_108 : decode cX5_comparison 108 = .ok (.iload_n 3, 1) := by decide +kernel
theorem dX5_comparison_109 : decode cX5_comparison 109 = .ok (.bipush 60, 2) := by decide +kernel
theorem dX5_comparison_111 : decode cX5_comparison 111 = .ok (.if_icmp .eq 21, 3) := by decide +kernel
theorem dX5_comparison_114 : decode cX5_comparison 114 = .ok (.iload_n 3, 1) := by decide +kernel
theorem dX5_comparison_115 : decode cX5_comparison 115 = .ok (.bipush 61, 2) := by decide +kernel
theorem dX5_comparison_117 : decode cX5_comparison 117 = .ok (.if_icmp .eq 15, 3) := by decide +kernel
theorem dX5_comparison_120 : decode cX5_comparison 120 = .ok (.iload_n 3, 1) := by decide +kernel
theorem dX5_comparison_121 : decode cX5_comparison 121 = .ok (.bipush 62, 2) := by decide +kernel
theorem dX5_comparison_123 : decode cX5_comparison 123 = .ok (.if_icmp .eq 9, 3) := by decide +kernel
theorem dX5_comparison_126 : decode cX5_comparison 126 = .ok (.aload_n 0, 1) := by decide +kernel
theorem dX5_comparison_127 : decode cX5_comparison 127 = .ok (.iconst 1, 1) := by decide +kernel
theorem dX5_comparison_128 : decode cX5_comparison 128 = .ok (.invokevirtual 120, 3) := by decide +kernel
theorem dX5_comparison_131 : decode cX5_comparison 131 = .ok (.ireturn, 1) := by decide +kernel
theorem dX5_comparison_132 : decode cX5_comparison 132 = .ok (.aload_n 0, 1) := by decide +kernel
theorem dX5_comparison_133 : decode cX5_comparison 133 = .ok (.dup, 1) := by decide +kernel
theorem dX5_comparison_134 : decode cX5_comparison 134 = .ok (.getfield 64, 3) := by decide +kernel
theorem dX5_comparison_137 : decode cX5_comparison 137 = .ok (.iconst 1, 1) := by decide +kernel
theorem dX5_comparison_138 : decode cX5_comparison 138 = .ok (.iadd, 1) := by decide +kernel
theorem dX5_comparison_139 : decode cX5_comparison 139 = .ok (.putfield 64, 3) := by decide +kernel
theorem dX5_comparison_142 : decode cX5_comparison 142 = .ok (.aload_n 0, 1) := by decide +kernel
theorem dX5_comparison_143 : decode cX5_comparison 143 = .ok (.invokevirtual 143, 3) := by decide +kernel
theorem dX5_comparison_146 : decode cX5_comparison 146 = .ok (.ifCond .ne 5, 3) := by decide +kernel
theorem dX5_comparison_149 : decode cX5_comparison 149 = .ok (.iconst 0, 1) := by decide +kernel
theorem dX5_comparison_150 : decode cX5_comparison 150 = .ok (.ireturn, 1) := by decide +kernel
theorem dX5_comparison_151 : decode cX5_comparison 151 = .ok (.aload_n 0, 1) := by decide +kernel
theorem dX5_comparison_152 : decode cX5_comparison 152 = .ok (.getfield 12, 3) := by decide +kernel
theorem dX5_comparison_155 : decode cX5_comparison 155 = .ok (.iload_n 3, 1) := by decide +kernel
theorem dX5_comparison_156 : decode cX5_comparison 156 = .ok (.bipush 60, 2) := by decide +kernel
theorem dX5_comparison_158 : decode cX5_comparison 158 = .ok (.if_icmp .ne 8, 3) := by decide +kernel
theorem dX5_comparison_161 : decode cX5_comparison 161 = .ok (.bipush (-5), 2) := by decide +kernel
theorem dX5_comparison_163 : decode cX5_comparison 163 = .ok (.goto 16, 3) := by decide +kernel
theorem dX5_comparison_166 : decode cX5_comparison 166 = .ok (.iload_n 3, 1) := by decide +kernel
theorem dX5_comparison_167 : decode cX5_comparison 167 = .ok (.bipush 61, 2) := by decide +kernel
theorem dX5_comparison_169 : decode cX5_comparison 169 = .ok (.if_icmp .ne 8, 3) := by decide +kernel
theorem dX5_comparison_172 : decode cX5_comparison 172 = .ok (.bipush (-6), 2) := by decide +kernel
theorem dX5_comparison_174 : decode cX5_comparison 174 = .ok (.goto 5, 3) := by decide +kernel
theorem dX5_comparison_177 : decode cX5_comparison 177 = .ok (.bipush (-7), 2) := by decide +kernel
theorem dX5_comparison_179 : decode cX5_comparison 179 = .ok (.invokevirtual 161, 3) := by decide +kernel
theorem dX5_comparison_182 : decode cX5_comparison 182 = .ok (.iconst 1, 1) := by decide +kernel
theorem dX5_comparison_183 : decode cX5_comparison 183 = .ok (.ireturn, 1) := by decide +kernel
theorem dX5_sum_0 : decode cX5_sum 0 = .ok (.aload_n 0, 1) := by decide +kernel
theorem dX5_sum_1 : decode cX5_sum 1 = .ok (.invokevirtual 164, 3) := by decide +kernel
theorem dX5_sum_4 : decode cX5_sum 4 = .ok (.ifCond .ne 5, 3) := by decide +kernel
theorem dX5_sum_7 : decode cX5_sum 7 = .ok (.iconst 0, 1) := by decide +kernel
theorem dX5_sum_8 : decode cX5_sum 8 = .ok (.ireturn, 1) := by decide +kernel
theorem dX5_sum_9 : decode cX5_sum 9 = .ok (.iconst 0, 1) := by decide +kernel
theorem dX5_sum_10 : decode cX5_sum 10 = .ok (.istore_n 1, 1) := by decide +kernel
theorem dX5_sum_11 : decode cX5_sum 11 = .ok (.iconst 0, 1) := by decide +kernel
theorem dX5_sum_12 : decode cX5_sum 12 = .ok (.istore_n 2, 1) := by decide +kernel
theorem dX5_sum_13 : decode cX5_sum 13 = .ok (.iload_n 2, 1) := by decide +kernel
theorem dX5_sum_14 : decode cX5_sum 14 = .ok (.sipush 400, 3) := by decide +kernel
theorem dX5_sum_17 : decode cX5_sum 17 = .ok (.if_icmp .ge 163, 3) := by decide +kernel
theorem dX5_sum_20 : decode cX5_sum 20 = .ok (.aload_n 0, 1) := by decide +kernel
theorem dX5_sum_21 : decode cX5_sum 21 = .ok (.invokevirtual 88, 3) := by decide +kernel
theorem dX5_sum_24 : decode cX5_sum 24 = .ok (.istore_n 3, 1) := by decide +kernel
theorem dX5_sum_25 : decode cX5_sum 25 = .ok (.iload_n 3, 1) := by decide +kernel
theorem dX5_sum_26 : decode cX5_sum 26 = .ok (.bipush 42, 2) := by decide +kernel
theorem dX5_sum_28 : decode cX5_sum 28 = .ok (.if_icmp .eq 21, 3) := by decide +kernel
theorem dX5_sum_31 : decode cX5_sum 31 = .ok (.iload_n 3, 1) := by decide +kernel
theorem dX5_sum_32 : decode cX5_sum 32 = .ok (.bipush 47, 2) := by decide +kernel
theorem dX5_sum_34 : decode cX5_sum 34 = .ok (.if_icmp .eq 15, 3) := by decide +kernel
theorem dX5_sum_37 : decode cX5_sum 37 = .ok (.iload_n 1, 1) := by decide +kernel
theorem dX5_sum_38 : decode cX5_sum 38 = .ok (.ifCond .eq 11, 3) := by decide +kernel
theorem dX5_sum_41 : decode cX5_sum 41 = .ok (.aload_n 0, 1) := by decide +kernel
theorem dX5_sum_42 : decode cX5_sum 42 = .ok (.getfield 12, 3) := by decide +kernel
theorem dX5_sum_45 : decode cX5_sum 45 = .ok (.iload_n 1, 1) := by decide +kernel
theorem dX5_sum_46 : decode cX5_sum 46 = .ok (.invokevirtual 161, 3) := by decide +kernel
theorem dX5_sum_49 : decode cX5_sum 49 = .ok (.iload_n 3, 1) := by decide +kernel
theorem dX5_sum_50 : decode cX5_sum 50 = .ok (.bipush 42, 2) := by decide +kernel
theorem dX5_sum_52 : decode cX5_sum 52 = .ok (.if_icmp .eq 23, 3) := by decide +kernel
theorem dX5_sum_55 : decode cX5_sum 55 = .ok (.iload_n 3, 1) := by decide +kernel
theorem dX5_sum_56 : decode cX5_sum 56 = .ok (.bipush 47, 2) := by decide +kernel
theorem dX5_sum_58 : decode cX5_sum 58 = .ok (.if_icmp .eq 17, 3) := by decide +kernel
theorem dX5_sum_61 : decode cX5_sum 61 = .ok (.iload_n 3, 1) := by decide +kernel
theorem dX5_sum_62 : decode cX5_sum 62 = .ok (.bipush 43, 2) := by decide +kernel
theorem dX5_sum_64 : decode cX5_sum 64 = .ok (.if_icmp .eq 11, 3) := by decide +kernel
theorem dX5_sum_67 : decode cX5_sum 67 = .ok (.iload_n 3, 1) := by decide +kernel
theorem dX5_sum_68 : decode cX5_sum 68 = .ok (.bipush 45, 2) := by decide +kernel
theorem dX5_sum_70 : decode cX5_sum 70 = .ok (.if_icmp .eq 5, 3) := by decide +kernel
theorem dX5_sum_73 : decode cX5_sum 73 = .ok (.iconst 1, 1) := by decide +kernel
theorem dX5_sum_74 : decode cX5_sum 74 = .ok (.ireturn, 1) := by decide +kernel
theorem dX5_sum_75 : decode cX5_sum 75 = .ok (.aload_n 0, 1) := by decide +kernel
theorem dX5_sum_76 : decode cX5_sum 76 = .ok (.dup, 1) := by decide +kernel
theorem dX5_sum_77 : decode cX5_sum 77 = .ok (.getfield 64, 3) := by decide +kernel
theorem dX5_sum_80 : decode cX5_sum 80 = .ok (.iconst 1, 1) := by decide +kernel
theorem dX5_sum_81 : decode cX5_sum 81 = .ok (.iadd, 1) := by decide +kernel
theorem dX5_sum_82 : decode cX5_sum 82 = .ok (.putfield 64, 3) := by decide +kernel
theorem dX5_sum_85 : decode cX5_sum 85 = .ok (.iload_n 3, 1) := by decide +kernel
theorem dX5_sum_86 : decode cX5_sum 86 = .ok (.bipush 47, 2) := by decide +kernel
theorem dX5_sum_88 : decode cX5_sum 88 = .ok (.if_icmp .ne 17, 3) := by decide +kernel
theorem dX5_sum_91 : decode cX5_sum 91 = .ok (.aload_n 0, 1) := by decide +kernel
theorem dX5_sum_92 : decode cX5_sum 92 = .ok (.iconst 1, 1) := by decide +kernel
theorem dX5_sum_93 : decode cX5_sum 93 = .ok (.sipush 9999, 3) := by decide +kernel
theorem dX5_sum_96 : decode cX5_sum 96 = .ok (.invokevirtual 167, 3) := by decide +kernel
theorem dX5_sum_99 : decode cX5_sum 99 = .ok (.ifCond .ne 15, 3) := by decide +kernel
theorem dX5_sum_102 : decode cX5_sum 102 = .ok (.goto 10, 3) := by decide +kernel
theorem dX5_sum_105 : decode cX5_sum 105 = .ok (.aload_n 0, 1) := by decide +kernel
theorem dX5_sum_106 : decode cX5_sum 106 = .ok (.invokevirtual 164, 3) := by decide +kernel
theorem dX5_sum_109 : decode cX5_sum 109 = .ok (.ifCond .ne 5, 3) := by decide +kernel
theorem dX5_sum_112 : decode cX5_sum 112 = .ok (.iconst 0, 1) := by decide +kernel
theorem dX5_sum_113 : decode cX5_sum 113 = .ok (.ireturn, 1) := by decide +kernel
theorem dX5_sum_114 : decode cX5_sum 114 = .ok (.iload_n 3, 1) := by decide +kernel
theorem dX5_sum_115 : decode cX5_sum 115 = .ok (.bipush 47, 2) := by decide +kernel
theorem dX5_sum_117 : decode cX5_sum 117 = .ok (.if_icmp .ne 26, 3) := by decide +kernel
theorem dX5_sum_120 : decode cX5_sum 120 = .ok (.aload_n 0, 1) := by decide +kernel
theorem dX5_sum_121 : decode cX5_sum 121 = .ok (.getfield 12, 3) := by decide +kernel
theorem dX5_sum_124 : decode cX5_sum 124 = .ok (.aload_n 0, 1) := by decide +kernel
theorem dX5_sum_125 : decode cX5_sum 125 = .ok (.getfield 130, 3) := by decide +kernel
theorem dX5_sum_128 : decode cX5_sum 128 = .ok (.invokevirtual 161, 3) := by decide +kernel
theorem dX5_sum_131 : decode cX5_sum 131 = .ok (.aload_n 0, 1) := by decide +kernel
theorem dX5_sum_132 : decode cX5_sum 132 = .ok (.getfield 12, 3) := by decide +kernel
theorem dX5_sum_135 : decode cX5_sum 135 = .ok (.bipush (-4), 2) := by decide +kernel
theorem dX5_sum_137 : decode cX5_sum 137 = .ok (.invokevirtual 161, 3) := by decide +kernel
theorem dX5_sum_140 : decode cX5_sum 140 = .ok (.goto 34, 3) := by decide +kernel
theorem dX5_sum_143 : decode cX5_sum 143 = .ok (.iload_n 3, 1) := by decide +kernel
theorem dX5_sum_144 : decode cX5_sum 144 = .ok (.bipush 42, 2) := by decide +kernel
theorem dX5_sum_146 : decode cX5_sum 146 = .ok (.if_icmp .ne 15, 3) := by decide +kernel
theorem dX5_sum_149 : decode cX5_sum 149 = .ok (.aload_n 0, 1) := by decide +kernel
theorem dX5_sum_150 : decode cX5_sum 150 = .ok (.getfield 12, 3) := by decide +kernel
theorem dX5_sum_153 : decode cX5_sum 153 = .ok (.bipush (-3), 2) := by decide +kernel
theorem dX5_sum_155 : decode cX5_sum 155 = .ok (.invokevirtual 161, 3) := by decide +kernel
theorem dX5_sum_158 : decode cX5_sum 158 = .ok (.goto 16, 3) := by decide +kernel
theorem dX5_sum_161 : decode cX5_sum 161 = .ok (.iload_n 3, 1) := by decide +kernel
theorem dX5_sum_162 : decode cX5_sum 162 = .ok (.bipush 43, 2) := by decide +kernel
theorem dX5_sum_164 : decode cX5_sum 164 = .ok (.if_icmp .ne 7, 3) := by decide +kernel
theorem dX5_sum_167 : decode cX5_sum 167 = .ok (.iconst (-1), 1) := by decide +kernel
theorem dX5_sum_168 : decode cX5_sum 168 = .ok (.goto 5, 3) := by decide +kernel
theorem dX5_sum_171 : decode cX5_sum 171 = .ok (.bipush (-2), 2) := by decide +kernel
theorem dX5_sum_173 : decode cX5_sum 173 = .ok (.istore_n 1, 1) := by decide +kernel
theorem dX5_sum_174 : decode cX5_sum 174 = .ok (.iinc 2 1, 3) := by decide +kernel
theorem dX5_sum_177 : decode cX5_sum 177 = .ok (.goto (-164), 3) := by decide +kernel
theorem dX5_sum_180 : decode cX5_sum 180 = .ok (.iconst 1, 1) := by decide +kernel
theorem dX5_sum_181 : decode cX5_sum 181 = .ok (.ireturn, 1) := by decide +kernel
theorem dX5_unit_0 : decode cX5_unit 0 = .ok (.aload_n 0, 1) := by decide +kernel
theorem dX5_unit_1 : decode cX5_unit 1 = .ok (.invokevirtual 88, 3) := by decide +kernel
theorem dX5_unit_4 : decode cX5_unit 4 = .ok (.istore_n 1, 1) := by decide +kernel
theorem dX5_unit_5 : decode cX5_unit 5 = .ok (.iload_n 1, 1) := by decide +kernel
theorem dX5_unit_6 : decode cX5_unit 6 = .ok (.sipush 307, 3) := by decide +kernel
theorem dX5_unit_9 : decode cX5_unit 9 = .ok (.if_icmp .lt 14, 3) := by decide +kernel
theorem dX5_unit_12 : decode cX5_unit 12 = .ok (.iload_n 1, 1) := by decide +kernel
theorem dX5_unit_13 : decode cX5_unit 13 = .ok (.sipush 315, 3) := by decide +kernel
theorem dX5_unit_16 : decode cX5_unit 16 = .ok (.if_icmp .gt 7, 3) := by decide +kernel
theorem dX5_unit_19 : decode cX5_unit 19 = .ok (.iconst 1, 1) := by decide +kernel
theorem dX5_unit_20 : decode cX5_unit 20 = .ok (.goto 4, 3) := by decide +kernel
theorem dX5_unit_23 : decode cX5_unit 23 = .ok (.iconst 0, 1) := by decide +kernel
theorem dX5_unit_24 : decode cX5_unit 24 = .ok (.istore_n 2, 1) := by decide +kernel
theorem dX5_unit_25 : decode cX5_unit 25 = .ok (.iload_n 2, 1) := by decide +kernel
theorem dX5_unit_26 : decode cX5_unit 26 = .ok (.ifCond .ne 16, 3) := by decide +kernel
theorem dX5_unit_29 : decode cX5_unit 29 = .ok (.iload_n 1, 1) := by decide +kernel
theorem dX5_unit_30 : decode cX5_unit 30 = .ok (.sipush 201, 3) := by decide +kernel
theorem dX5_unit_33 : decode cX5_unit 33 = .ok (.if_icmp .eq 9, 3) := by decide +kernel
theorem dX5_unit_36 : decode cX5_unit 36 = .ok (.aload_n 0, 1) := by decide +kernel
theorem dX5_unit_37 : decode cX5_unit 37 = .ok (.iconst 1, 1) := by decide +kernel
theorem dX5_unit_38 : decode cX5_unit 38 = .ok (.invokevirtual 120, 3) := by decide +kernel
theorem dX5_unit_41 : decode cX5_unit 41 = .ok (.ireturn, 1) := by decide +kernel
theorem dX5_unit_42 : decode cX5_unit 42 = .ok (.aload_n 0, 1) := by decide +kernel
theorem dX5_unit_43 : decode cX5_unit 43 = .ok (.getfield 12, 3) := by decide +kernel
theorem dX5_unit_46 : decode cX5_unit 46 = .ok (.iload_n 2, 1) := by decide +kernel
theorem dX5_unit_47 : decode cX5_unit 47 = .ok (.ifCond .eq 14, 3) := by decide +kernel
theorem dX5_unit_50 : decode cX5_unit 50 = .ok (.bipush (-100), 2) := by decide +kernel
theorem dX5_unit_52 : decode cX5_unit 52 = .ok (.iload_n 1, 1) := by decide +kernel
theorem dX5_unit_53 : decode cX5_unit 53 = .ok (.sipush 300, 3) := by decide +kernel
theorem dX5_unit_56 : decode cX5_unit 56 = .ok (.isub, 1) := by decide +kernel
theorem dX5_unit_57 : decode cX5_unit 57 = .ok (.isub, 1) := by decide +kernel
theorem dX5_unit_58 : decode cX5_unit 58 = .ok (.goto 7, 3) := by decide +kernel
theorem dX5_unit_61 : decode cX5_unit 61 = .ok (.aload_n 0, 1) := by decide +kernel
theorem dX5_unit_62 : decode cX5_unit 62 = .ok (.invokevirtual 127, 3) := by decide +kernel
theorem dX5_unit_65 : decode cX5_unit 65 = .ok (.invokevirtual 161, 3) := by decide +kernel
theorem dX5_unit_68 : decode cX5_unit 68 = .ok (.aload_n 0, 1) := by decide +kernel
theorem dX5_unit_69 : decode cX5_unit 69 = .ok (.dup, 1) := by decide +kernel
theorem dX5_unit_70 : decode cX5_unit 70 = .ok (.getfield 64, 3) := by decide +kernel
theorem dX5_unit_73 : decode cX5_unit 73 = .ok (.iconst 1, 1) := by decide +kernel
theorem dX5_unit_74 : decode cX5_unit 74 = .ok (.iadd, 1) := by decide +kernel
theorem dX5_unit_75 : decode cX5_unit 75 = .ok (.putfield 64, 3) := by decide +kernel
theorem dX5_unit_78 : decode cX5_unit 78 = .ok (.iconst 1, 1) := by decide +kernel
theorem dX5_unit_79 : decode cX5_unit 79 = .ok (.ireturn, 1) := by decide +kernel
theorem dX5_skyLine_0 : decode cX5_skyLine 0 = .ok (.aload_n 0, 1) := by decide +kernel
theorem dX5_skyLine_1 : decode cX5_skyLine 1 = .ok (.iconst 0, 1) := by decide +kernel
theorem dX5_skyLine_2 : decode cX5_skyLine 2 = .ok (.invokevirtual 136, 3) := by decide +kernel
theorem dX5_skyLine_5 : decode cX5_skyLine 5 = .ok (.ifCond .eq 14, 3) := by decide +kernel
theorem dX5_skyLine_8 : decode cX5_skyLine 8 = .ok (.aload_n 0, 1) := by decide +kernel
theorem dX5_skyLine_9 : decode cX5_skyLine 9 = .ok (.iconst 0, 1) := by decide +kernel
theorem dX5_skyLine_10 : decode cX5_skyLine 10 = .ok (.sipush 999, 3) := by decide +kernel
theorem dX5_skyLine_13 : decode cX5_skyLine 13 = .ok (.invokevirtual 167, 3) := by decide +kernel
theorem dX5_skyLine_16 : decode cX5_skyLine 16 = .ok (.ifCond .ne 5, 3) := by decide +kernel
theorem dX5_skyLine_19 : decode cX5_skyLine 19 = .ok (.iconst 0, 1) := by decide +kernel
theorem dX5_skyLine_20 : decode cX5_skyLine 20 = .ok (.ireturn, 1) := by decide +kernel
theorem dX5_skyLine_21 : decode cX5_skyLine 21 = .ok (.aload_n 0, 1) := by decide +kernel
theorem dX5_skyLine_22 : decode cX5_skyLine 22 = .ok (.getfield 130, 3) := by decide +kernel
theorem dX5_skyLine_25 : decode cX5_skyLine 25 = .ok (.istore_n 1, 1) := by decide +kernel
theorem dX5_skyLine_26 : decode cX5_skyLine 26 = .ok (.aload_n 0, 1) := by decide +kernel
theorem dX5_skyLine_27 : decode cX5_skyLine 27 = .ok (.sipush 301, 3) := by decide +kernel
theorem dX5_skyLine_30 : decode cX5_skyLine 30 = .ok (.invokevirtual 155, 3) := by decide +kernel
theorem dX5_skyLine_33 : decode cX5_skyLine 33 = .ok (.ifCond .eq 13, 3) := by decide +kernel
theorem dX5_skyLine_36 : decode cX5_skyLine 36 = .ok (.aload_n 0, 1) := by decide +kernel
theorem dX5_skyLine_37 : decode cX5_skyLine 37 = .ok (.iconst 0, 1) := by decide +kernel
theorem dX5_skyLine_38 : decode cX5_skyLine 38 = .ok (.bipush 9, 2) := by decide +kernel
theorem dX5_skyLine_40 : decode cX5_skyLine 40 = .ok (.invokevirtual 167, 3) := by decide +kernel
theorem dX5_skyLine_43 : decode cX5_skyLine 43 = .ok (.ifCond .ne 5, 3) := by decide +kernel
theorem dX5_skyLine_46 : decode cX5_skyLine 46 = .ok (.iconst 0, 1) := by decide +kernel
theorem dX5_skyLine_47 : decode cX5_skyLine 47 = .ok (.ireturn, 1) := by decide +kernel
theorem dX5_skyLine_48 : decode cX5_skyLine 48 = .ok (.aload_n 0, 1) := by decide +kernel
theorem dX5_skyLine_49 : decode cX5_skyLine 49 = .ok (.getfield 21, 3) := by decide +kernel
theorem dX5_skyLine_52 : decode cX5_skyLine 52 = .ok (.iload_n 1, 1) := by decide +kernel
theorem dX5_skyLine_53 : decode cX5_skyLine 53 = .ok (.aload_n 0, 1) := by decide +kernel
theorem dX5_skyLine_54 : decode cX5_skyLine 54 = .ok (.getfield 130, 3) := by decide +kernel
theorem dX5_skyLine_57 : decode cX5_skyLine 57 = .ok (.invokevirtual 170, 3) := by decide +kernel
theorem dX5_skyLine_60 : decode cX5_skyLine 60 = .ok (.aload_n 0, 1) := by decide +kernel
theorem dX5_skyLine_61 : decode cX5_skyLine 61 = .ok (.bipush 59, 2) := by decide +kernel
theorem dX5_skyLine_63 : decode cX5_skyLine 63 = .ok (.invokevirtual 155, 3) := by decide +kernel
theorem dX5_skyLine_66 : decode cX5_skyLine 66 = .ok (.ireturn, 1) := by decide +kernel
theorem dX5_planLine_0 : decode cX5_planLine 0 = .ok (.aload_n 0, 1) := by decide +kernel
theorem dX5_planLine_1 : decode cX5_planLine 1 = .ok (.iconst 0, 1) := by decide +kernel
theorem dX5_planLine_2 : decode cX5_planLine 2 = .ok (.invokevirtual 136, 3) := by decide +kernel
theorem dX5_planLine_5 : decode cX5_planLine 5 = .ok (.ifCond .eq 14, 3) := by decide +kernel
theorem dX5_planLine_8 : decode cX5_planLine 8 = .ok (.aload_n 0, 1) := by decide +kernel
theorem dX5_planLine_9 : decode cX5_planLine 9 = .ok (.iconst 0, 1) := by decide +kernel
theorem dX5_planLine_10 : decode cX5_planLine 10 = .ok (.sipush 999, 3) := by decide +kernel
theorem dX5_planLine_13 : decode cX5_planLine 13 = .ok (.invokevirtual 167, 3) := by decide +kernel
theorem dX5_planLine_16 : decode cX5_planLine 16 = .ok (.ifCond .ne 5, 3) := by decide +kernel
theorem dX5_planLine_19 : decode cX5_planLine 19 = .ok (.iconst 0, 1) := by decide +kernel
theorem dX5_planLine_20 : decode cX5_planLine 20 = .ok (.ireturn, 1) := by decide +kernel
theorem dX5_planLine_21 : decode cX5_planLine 21 = .ok (.aload_n 0, 1) := by decide +kernel
theorem dX5_planLine_22 : decode cX5_planLine 22 = .ok (.getfield 130, 3) := by decide +kernel
theorem dX5_planLine_25 : decode cX5_planLine 25 = .ok (.istore_n 1, 1) := by decide +kernel
theorem dX5_planLine_26 : decode cX5_planLine 26 = .ok (.aload_n 0, 1) := by decide +kernel
theorem dX5_planLine_27 : decode cX5_planLine 27 = .ok (.invokevirtual 88, 3) := by decide +kernel
theorem dX5_planLine_30 : decode cX5_planLine 30 = .ok (.sipush 300, 3) := by decide +kernel
theorem dX5_planLine_33 : decode cX5_planLine 33 = .ok (.isub, 1) := by decide +kernel
theorem dX5_planLine_34 : decode cX5_planLine 34 = .ok (.istore_n 2, 1) := by decide +kernel
theorem dX5_planLine_35 : decode cX5_planLine 35 = .ok (.iload_n 2, 1) := by decide +kernel
theorem dX5_planLine_36 : decode cX5_planLine 36 = .ok (.iconst 1, 1) := by decide +kernel
theorem dX5_planLine_37 : decode cX5_planLine 37 = .ok (.if_icmp .lt 8, 3) := by decide +kernel
theorem dX5_planLine_40 : decode cX5_planLine 40 = .ok (.iload_n 2, 1) := by decide +kernel
theorem dX5_planLine_41 : decode cX5_planLine 41 = .ok (.iconst 5, 1) := by decide +kernel
theorem dX5_planLine_42 : decode cX5_planLine 42 = .ok (.if_icmp .le 9, 3) := by decide +kernel
theorem dX5_planLine_45 : decode cX5_planLine 45 = .ok (.aload_n 0, 1) := by decide +kernel
theorem dX5_planLine_46 : decode cX5_planLine 46 = .ok (.iconst 1, 1) := by decide +kernel
theorem dX5_planLine_47 : decode cX5_planLine 47 = .ok (.invokevirtual 120, 3) := by decide +kernel
theorem dX5_planLine_50 : decode cX5_planLine 50 = .ok (.ireturn, 1) := by decide +kernel
theorem dX5_planLine_51 : decode cX5_planLine 51 = .ok (.aload_n 0, 1) := by decide +kernel
theorem dX5_planLine_52 : decode cX5_planLine 52 = .ok (.dup, 1) := by decide +kernel
theorem dX5_planLine_53 : decode cX5_planLine 53 = .ok (.getfield 64, 3) := by decide +kernel
theorem dX5_planLine_56 : decode cX5_planLine 56 = .ok (.iconst 1, 1) := by decide +kernel
theorem dX5_planLine_57 : decode cX5_planLine 57 = .ok (.iadd, 1) := by decide +kernel
theorem dX5_planLine_58 : decode cX5_planLine 58 = .ok (.putfield 64, 3) := by decide +kernel
theorem dX5_planLine_61 : decode cX5_planLine 61 = .ok (.iconst (-1), 1) := by decide +kernel
theorem dX5_planLine_62 : decode cX5_planLine 62 = .ok (.istore_n 3, 1) := by decide +kernel
theorem dX5_planLine_63 : decode cX5_planLine 63 = .ok (.iload_n 2, 1) := by decide +kernel
theorem dX5_planLine_64 : decode cX5_planLine 64 = .ok (.iconst 1, 1) := by decide +kernel
theorem dX5_planLine_65 : decode cX5_planLine 65 = .ok (.if_icmp .eq 41, 3) := by decide +kernel
theorem dX5_planLine_68 : decode cX5_planLine 68 = .ok (.iload_n 2, 1) := by decide +kernel
theorem dX5_planLine_69 : decode cX5_planLine 69 = .ok (.iconst 2, 1) := by decide +kernel
theorem dX5_planLine_70 : decode cX5_planLine 70 = .ok (.if_icmp .eq 36, 3) := by decide +kernel
theorem dX5_planLine_73 : decode cX5_planLine 73 = .ok (.aload_n 0, 1) := by decide +kernel
theorem dX5_planLine_74 : decode cX5_planLine 74 = .ok (.iconst 0, 1) := by decide +kernel
theorem dX5_planLine_75 : decode cX5_planLine 75 = .ok (.iload_n 2, 1) := by decide +kernel
theorem dX5_planLine_76 : decode cX5_planLine 76 = .ok (.iconst 4, 1) := by decide +kernel
theorem dX5_planLine_77 : decode cX5_planLine 77 = .ok (.if_icmp .ne 10, 3) := by decide +kernel
theorem dX5_planLine_80 : decode cX5_planLine 80 = .ok (.aload_n 0, 1) := by decide +kernel
theorem dX5_planLine_81 : decode cX5_planLine 81 = .ok (.getfield 75, 3) := by decide +kernel
theorem dX5_planLine_84 : decode cX5_planLine 84 = .ok (.goto 7, 3) := by decide +kernel
theorem dX5_planLine_87 : decode cX5_planLine 87 = .ok (.aload_n 0, 1) := by decide +kernel
theorem dX5_planLine_88 : decode cX5_planLine 88 = .ok (.getfield 79, 3) := by decide +kernel
theorem dX5_planLine_91 : decode cX5_planLine 91 = .ok (.iconst 1, 1) := by decide +kernel
theorem dX5_planLine_92 : decode cX5_planLine 92 = .ok (.isub, 1) := by decide +kernel
theorem dX5_planLine_93 : decode cX5_planLine 93 = .ok (.invokevirtual 167, 3) := by decide +kernel
theorem dX5_planLine_96 : decode cX5_planLine 96 = .ok (.ifCond .ne 5, 3) := by decide +kernel
theorem dX5_planLine_99 : decode cX5_planLine 99 = .ok (.iconst 0, 1) := by decide +kernel
theorem dX5_planLine_100 : decode cX5_planLine 100 = .ok (.ireturn, 1) := by decide +kernel
theorem dX5_planLine_101 : decode cX5_planLine 101 = .ok (.aload_n 0, 1) := by decide +kernel
theorem dX5_planLine_102 : decode cX5_planLine 102 = .ok (.getfield 130, 3) := by decide +kernel
theorem dX5_planLine_105 : decode cX5_planLine 105 = .ok (.istore_n 3, 1) := by decide +kernel
theorem dX5_planLine_106 : decode cX5_planLine 106 = .ok (.iload_n 2, 1) := by decide +kernel
theorem dX5_planLine_107 : decode cX5_planLine 107 = .ok (.iconst 3, 1) := by decide +kernel
theorem dX5_planLine_108 : decode cX5_planLine 108 = .ok (.if_icmp .eq 12, 3) := by decide +kernel
theorem dX5_planLine_111 : decode cX5_planLine 111 = .ok (.iload_n 2, 1) := by decide +kernel
theorem dX5_planLine_112 : decode cX5_planLine 112 = .ok (.iconst 5, 1) := by decide +kernel
theorem dX5_planLine_113 : decode cX5_planLine 113 = .ok (.if_icmp .eq 7, 3) := by decide +kernel
theorem dX5_planLine_116 : decode cX5_planLine 116 = .ok (.iconst 1, 1) := by decide +kernel
theorem dX5_planLine_117 : decode cX5_planLine 117 = .ok (.goto 4, 3) := by decide +kernel
theorem dX5_planLine_120 : decode cX5_planLine 120 = .ok (.iconst 0, 1) := by decide +kernel
theorem dX5_planLine_121 : decode cX5_planLine 121 = .ok (.istore 4, 2) := by decide +kernel
theorem dX5_planLine_123 : decode cX5_planLine 123 = .ok (.iload 4, 2) := by decide +kernel
theorem dX5_planLine_125 : decode cX5_planLine 125 = .ok (.ifCond .eq 35, 3) := by decide +kernel
theorem dX5_planLine_128 : decode cX5_planLine 128 = .ok (.aload_n 0, 1) := by decide +kernel
theorem dX5_planLine_129 : decode cX5_planLine 129 = .ok (.iload_n 2, 1) := by decide +kernel
theorem dX5_planLine_130 : decode cX5_planLine 130 = .ok (.iconst 4, 1) := by decide +kernel
theorem dX5_planLine_131 : decode cX5_planLine 131 = .ok (.if_icmp .ne 7, 3) := by decide +kernel
theorem dX5_planLine_134 : decode cX5_planLine 134 = .ok (.iconst 1, 1) := by decide +kernel
theorem dX5_planLine_135 : decode cX5_planLine 135 = .ok (.goto 4, 3) := by decide +kernel
theorem dX5_planLine_138 : decode cX5_planLine 138 = .ok (.iconst 0, 1) := by decide +kernel
theorem dX5_planLine_139 : decode cX5_planLine 139 = .ok (.iload_n 2, 1) := by decide +kernel
theorem dX5_planLine_140 : decode cX5_planLine 140 = .ok (.iconst 1, 1) := by decide +kernel
theorem dX5_planLine_141 : decode cX5_planLine 141 = .ok (.if_icmp .ne 9, 3) := by decide +kernel
theorem dX5_planLine_144 : decode cX5_planLine 144 = .ok (.sipush 999, 3) := by decide +kernel
theorem dX5_planLine_147 : decode cX5_planLine 147 = .ok (.goto 5, 3) := by decide +kernel
theorem dX5_planLine_150 : decode cX5_planLine 150 = .ok (.bipush 99, 2) := by decide +kernel
theorem dX5_planLine_152 : decode cX5_planLine 152 = .ok (.invokevirtual 167, 3) := by decide +kernel
theorem dX5_planLine_155 : decode cX5_planLine 155 = .ok (.ifCond .ne 5, 3) := by decide +kernel
theorem dX5_planLine_158 : decode cX5_planLine 158 = .ok (.iconst 0, 1) := by decide +kernel
theorem dX5_planLine_159 : decode cX5_planLine 159 = .ok (.ireturn, 1) := by decide +kernel
theorem dX5_planLine_160 : decode cX5_planLine 160 = .ok (.aload_n 0, 1) := by decide +kernel
theorem dX5_planLine_161 : decode cX5_planLine 161 = .ok (.getfield 28, 3) := by decide +kernel
theorem dX5_planLine_164 : decode cX5_planLine 164 = .ok (.iload_n 1, 1) := by decide +kernel
theorem dX5_planLine_165 : decode cX5_planLine 165 = .ok (.iload_n 2, 1) := by decide +kernel
theorem dX5_planLine_166 : decode cX5_planLine 166 = .ok (.iload_n 3, 1) := by decide +kernel
theorem dX5_planLine_167 : decode cX5_planLine 167 = .ok (.iload 4, 2) := by decide +kernel
theorem dX5_planLine_169 : decode cX5_planLine 169 = .ok (.ifCond .eq 10, 3) := by decide +kernel
theorem dX5_planLine_172 : decode cX5_planLine 172 = .ok (.aload_n 0, 1) := by decide +kernel
theorem dX5_planLine_173 : decode cX5_planLine 173 = .ok (.getfield 130, 3) := by decide +kernel
theorem dX5_planLine_176 : decode cX5_planLine 176 = .ok (.goto 4, 3) := by decide +kernel
theorem dX5_planLine_179 : decode cX5_planLine 179 = .ok (.iconst 0, 1) := by decide +kernel
theorem dX5_planLine_180 : decode cX5_planLine 180 = .ok (.invokevirtual 174, 3) := by decide +kernel
theorem dX5_planLine_183 : decode cX5_planLine 183 = .ok (.aload_n 0, 1) := by decide +kernel
theorem dX5_planLine_184 : decode cX5_planLine 184 = .ok (.bipush 59, 2) := by decide +kernel
theorem dX5_planLine_186 : decode cX5_planLine 186 = .ok (.invokevirtual 155, 3) := by decide +kernel
theorem dX5_planLine_189 : decode cX5_planLine 189 = .ok (.ireturn, 1) := by decide +kernel
theorem dX5_tenetLine_0 : decode cX5_tenetLine 0 = .ok (.aload_n 0, 1) := by decide +kernel
theorem dX5_tenetLine_1 : decode cX5_tenetLine 1 = .ok (.getfield 67, 3) := by decide +kernel
theorem dX5_tenetLine_4 : decode cX5_tenetLine 4 = .ok (.bipush 16, 2) := by decide +kernel
theorem dX5_tenetLine_6 : decode cX5_tenetLine 6 = .ok (.if_icmp .lt 28, 3) := by decide +kernel
theorem dX5_tenetLine_9 : decode cX5_tenetLine 9 = .ok (.aload_n 0, 1) := by decide +kernel
theorem dX5_tenetLine_10 : decode cX5_tenetLine 10 = .ok (.invokevirtual 88, 3) := by decide +kernel
theorem dX5_tenetLine_13 : decode cX5_tenetLine 13 = .ok (.sipush 201, 3) := by decide +kernel
theorem dX5_tenetLine_16 : decode cX5_tenetLine 16 = .ok (.if_icmp .ne 18, 3) := by decide +kernel
theorem dX5_tenetLine_19 : decode cX5_tenetLine 19 = .ok (.aload_n 0, 1) := by decide +kernel
theorem dX5_tenetLine_20 : decode cX5_tenetLine 20 = .ok (.invokevirtual 127, 3) := by decide +kernel
theorem dX5_tenetLine_23 : decode cX5_tenetLine 23 = .ok (.bipush 16, 2) := by decide +kernel
theorem dX5_tenetLine_25 : decode cX5_tenetLine 25 = .ok (.if_icmp .ge 9, 3) := by decide +kernel
theorem dX5_tenetLine_28 : decode cX5_tenetLine 28 = .ok (.aload_n 0, 1) := by decide +kernel
theorem dX5_tenetLine_29 : decode cX5_tenetLine 29 = .ok (.iconst 3, 1) := by decide +kernel
theorem dX5_tenetLine_30 : decode cX5_tenetLine 30 = .ok (.invokevirtual 120, 3) := by decide +kernel
theorem dX5_tenetLine_33 : decode cX5_tenetLine 33 = .ok (.ireturn, 1) := by decide +kernel
theorem dX5_tenetLine_34 : decode cX5_tenetLine 34 = .ok (.aload_n 0, 1) := by decide +kernel
theorem dX5_tenetLine_35 : decode cX5_tenetLine 35 = .ok (.iconst 0, 1) := by decide +kernel
theorem dX5_tenetLine_36 : decode cX5_tenetLine 36 = .ok (.bipush 15, 2) := by decide +kernel
theorem dX5_tenetLine_38 : decode cX5_tenetLine 38 = .ok (.invokevirtual 167, 3) := by decide +kernel
theorem dX5_tenetLine_41 : decode cX5_tenetLine 41 = .ok (.ifCond .ne 5, 3) := by decide +kernel
theorem dX5_tenetLine_44 : decode cX5_tenetLine 44 = .ok (.iconst 0, 1) := by decide +kernel
theorem dX5_tenetLine_45 : decode cX5_tenetLine 45 = .ok (.ireturn, 1) := by decide +kernel
theorem dX5_tenetLine_46 : decode cX5_tenetLine 46 = .ok (.iconst 1, 1) := by decide +kernel
theorem dX5_tenetLine_47 : decode cX5_tenetLine 47 = .ok (.aload_n 0, 1) := by decide +kernel
theorem dX5_tenetLine_48 : decode cX5_tenetLine 48 = .ok (.getfield 130, 3) := by decide +kernel
theorem dX5_tenetLine_51 : decode cX5_tenetLine 51 = .ok (.ishl, 1) := by decide +kernel
theorem dX5_tenetLine_52 : decode cX5_tenetLine 52 = .ok (.istore_n 1, 1) := by decide +kernel
theorem dX5_tenetLine_53 : decode cX5_tenetLine 53 = .ok (.iconst 0, 1) := by decide +kernel
theorem dX5_tenetLine_54 : decode cX5_tenetLine 54 = .ok (.istore_n 2, 1) := by decide +kernel
theorem dX5_tenetLine_55 : decode cX5_tenetLine 55 = .ok (.iload_n 2, 1) := by decide +kernel
theorem dX5_tenetLine_56 : decode cX5_tenetLine 56 = .ok (.sipush 400, 3) := by decide +kernel
theorem dX5_tenetLine_59 : decode cX5_tenetLine 59 = .ok (.if_icmp .ge 48, 3) := by decide +kernel
theorem dX5_tenetLine_62 : decode cX5_tenetLine 62 = .ok (.aload_n 0, 1) := by decide +kernel
theorem dX5_tenetLine_63 : decode cX5_tenetLine 63 = .ok (.iconst 0, 1) := by decide +kernel
theorem dX5_tenetLine_64 : decode cX5_tenetLine 64 = .ok (.invokevirtual 133, 3) := by decide +kernel
theorem dX5_tenetLine_67 : decode cX5_tenetLine 67 = .ok (.ifCond .eq 40, 3) := by decide +kernel
theorem dX5_tenetLine_70 : decode cX5_tenetLine 70 = .ok (.aload_n 0, 1) := by decide +kernel
theorem dX5_tenetLine_71 : decode cX5_tenetLine 71 = .ok (.dup, 1) := by decide +kernel
theorem dX5_tenetLine_72 : decode cX5_tenetLine 72 = .ok (.getfield 64, 3) := by decide +kernel
theorem dX5_tenetLine_75 : decode cX5_tenetLine 75 = .ok (.iconst 1, 1) := by decide +kernel
theorem dX5_tenetLine_76 : decode cX5_tenetLine 76 = .ok (.iadd, 1) := by decide +kernel
theorem dX5_tenetLine_77 : decode cX5_tenetLine 77 = .ok (.putfield 64, 3) := by decide +kernel
theorem dX5_tenetLine_80 : decode cX5_tenetLine 80 = .ok (.aload_n 0, 1) := by decide +kernel
theorem dX5_tenetLine_81 : decode cX5_tenetLine 81 = .ok (.iconst 0, 1) := by decide +kernel
theorem dX5_tenetLine_82 : decode cX5_tenetLine 82 = .ok (.bipush 15, 2) := by decide +kernel
theorem dX5_tenetLine_84 : decode cX5_tenetLine 84 = .ok (.invokevirtual 167, 3) := by decide +kernel
theorem dX5_tenetLine_87 : decode cX5_tenetLine 87 = .ok (.ifCond .ne 5, 3) := by decide +kernel
theorem dX5_tenetLine_90 : decode cX5_tenetLine 90 = .ok (.iconst 0, 1) := by decide +kernel
theorem dX5_tenetLine_91 : decode cX5_tenetLine 91 = .ok (.ireturn, 1) := by decide +kernel
theorem dX5_tenetLine_92 : decode cX5_tenetLine 92 = .ok (.iload_n 1, 1) := by decide +kernel
theorem dX5_tenetLine_93 : decode cX5_tenetLine 93 = .ok (.iconst 1, 1) := by decide +kernel
theorem dX5_tenetLine_94 : decode cX5_tenetLine 94 = .ok (.aload_n 0, 1) := by decide +kernel
theorem dX5_tenetLine_95 : decode cX5_tenetLine 95 = .ok (.getfield 130, 3) := by decide +kernel
theorem dX5_tenetLine_98 : decode cX5_tenetLine 98 = .ok (.ishl, 1) := by decide +kernel
theorem dX5_tenetLine_99 : decode cX5_tenetLine 99 = .ok (.ior, 1) := by decide +kernel
theorem dX5_tenetLine_100 : decode cX5_tenetLine 100 = .ok (.istore_n 1, 1) := by decide +kernel
theorem dX5_tenetLine_101 : decode cX5_tenetLine 101 = .ok (.iinc 2 1, 3) := by decide +kernel
theorem dX5_tenetLine_104 : decode cX5_tenetLine 104 = .ok (.goto (-49), 3) := by decide +kernel
theorem dX5_tenetLine_107 : decode cX5_tenetLine 107 = .ok (.aload_n 0, 1) := by decide +kernel
theorem dX5_tenetLine_108 : decode cX5_tenetLine 108 = .ok (.sipush 301, 3) := by decide +kernel
theorem dX5_tenetLine_111 : decode cX5_tenetLine 111 = .ok (.invokevirtual 155, 3) := by decide +kernel
theorem dX5_tenetLine_114 : decode cX5_tenetLine 114 = .ok (.ifCond .eq 13, 3) := by decide +kernel
theorem dX5_tenetLine_117 : decode cX5_tenetLine 117 = .ok (.aload_n 0, 1) := by decide +kernel
theorem dX5_tenetLine_118 : decode cX5_tenetLine 118 = .ok (.iconst 0, 1) := by decide +kernel
theorem dX5_tenetLine_119 : decode cX5_tenetLine 119 = .ok (.bipush 15, 2) := by decide +kernel
theorem dX5_tenetLine_121 : decode cX5_tenetLine 121 = .ok (.invokevirtual 167, 3) := by decide +kernel
theorem dX5_tenetLine_124 : decode cX5_tenetLine 124 = .ok (.ifCond .ne 5, 3) := by decide +kernel
theorem dX5_tenetLine_127 : decode cX5_tenetLine 127 = .ok (.iconst 0, 1) := by decide +kernel
theorem dX5_tenetLine_128 : decode cX5_tenetLine 128 = .ok (.ireturn, 1) := by decide +kernel
theorem dX5_tenetLine_129 : decode cX5_tenetLine 129 = .ok (.aload_n 0, 1) := by decide +kernel
theorem dX5_tenetLine_130 : decode cX5_tenetLine 130 = .ok (.getfield 35, 3) := by decide +kernel
theorem dX5_tenetLine_133 : decode cX5_tenetLine 133 = .ok (.iload_n 1, 1) := by decide +kernel
theorem dX5_tenetLine_134 : decode cX5_tenetLine 134 = .ok (.iconst 1, 1) := by decide +kernel
theorem dX5_tenetLine_135 : decode cX5_tenetLine 135 = .ok (.aload_n 0, 1) := by decide +kernel
theorem dX5_tenetLine_136 : decode cX5_tenetLine 136 = .ok (.getfield 130, 3) := by decide +kernel
theorem dX5_tenetLine_139 : decode cX5_tenetLine 139 = .ok (.ishl, 1) := by decide +kernel
theorem dX5_tenetLine_140 : decode cX5_tenetLine 140 = .ok (.invokevirtual 177, 3) := by decide +kernel
theorem dX5_tenetLine_143 : decode cX5_tenetLine 143 = .ok (.aload_n 0, 1) := by decide +kernel
theorem dX5_tenetLine_144 : decode cX5_tenetLine 144 = .ok (.bipush 59, 2) := by decide +kernel
theorem dX5_tenetLine_146 : decode cX5_tenetLine 146 = .ok (.invokevirtual 155, 3) := by decide +kernel
theorem dX5_tenetLine_149 : decode cX5_tenetLine 149 = .ok (.ireturn, 1) := by decide +kernel
theorem dX6_init_0 : decode cX6_init 0 = .ok (.aload_n 0, 1) := by decide +kernel
theorem dX6_init_1 : decode cX6_init 1 = .ok (.invokespecial 3, 3) := by decide +kernel
theorem dX6_init_4 : decode cX6_init 4 = .ok (.aload_n 0, 1) := by decide +kernel
theorem dX6_init_5 : decode cX6_init 5 = .ok (.bipush 16, 2) := by decide +kernel
theorem dX6_init_7 : decode cX6_init 7 = .ok (.newarray .int, 2) := by decide +kernel
theorem dX6_init_9 : decode cX6_init 9 = .ok (.putfield 9, 3) := by decide +kernel
theorem dX6_init_12 : decode cX6_init 12 = .ok (.aload_n 0, 1) := by decide +kernel
theorem dX6_init_13 : decode cX6_init 13 = .ok (.bipush 16, 2) := by decide +kernel
theorem dX6_init_15 : decode cX6_init 15 = .ok (.newarray .int, 2) := by decide +kernel
theorem dX6_init_17 : decode cX6_init 17 = .ok (.putfield 15, 3) := by decide +kernel
theorem dX6_init_20 : decode cX6_init 20 = .ok (.return_, 1) := by decide +kernel
theorem dX6_copyFrom_0 : decode cX6_copyFrom 0 = .ok (.aload_n 1, 1) := by decide +kernel
theorem dX6_copyFrom_1 : decode cX6_copyFrom 1 = .ok (.getfield 9, 3) := by decide +kernel
theorem dX6_copyFrom_4 : decode cX6_copyFrom 4 = .ok (.iconst 0, 1) := by decide +kernel
theorem dX6_copyFrom_5 : decode cX6_copyFrom 5 = .ok (.aload_n 0, 1) := by decide +kernel
theorem dX6_copyFrom_6 : decode cX6_copyFrom 6 = .ok (.getfield 9, 3) := by decide +kernel
theorem dX6_copyFrom_9 : decode cX6_copyFrom 9 = .ok (.iconst 0, 1) := by decide +kernel
theorem dX6_copyFrom_10 : decode cX6_copyFrom 10 = .ok (.bipush 16, 2) := by decide +kernel
theorem dX6_copyFrom_12 : decode cX6_copyFrom 12 = .ok (.invokestatic 18, 3) := by decide +kernel
theorem dX6_copyFrom_15 : decode cX6_copyFrom 15 = .ok (.aload_n 1, 1) := by decide +kernel
theorem dX6_copyFrom_16 : decode cX6_copyFrom 16 = .ok (.getfield 15, 3) := by decide +kernel
theorem dX6_copyFrom_19 : decode cX6_copyFrom 19 = .ok (.iconst 0, 1) := by decide +kernel
theorem dX6_copyFrom_20 : decode cX6_copyFrom 20 = .ok (.aload_n 0, 1) := by decide +kernel
theorem dX6_copyFrom_21 : decode cX6_copyFrom 21 = .ok (.getfield 15, 3) := by decide +kernel
theorem dX6_copyFrom_24 : decode cX6_copyFrom 24 = .ok (.iconst 0, 1) := by decide +kernel
theorem dX6_copyFrom_25 : decode cX6_copyFrom 25 = .ok (.bipush 16, 2) := by decide +kernel
theorem dX6_copyFrom_27 : decode cX6_copyFrom 27 = .ok (.invokestatic 18, 3) := by decide +kernel
theorem dX6_copyFrom_30 : decode cX6_copyFrom 30 = .ok (.aload_n 0, 1) := by decide +kernel
theorem dX6_copyFrom_31 : decode cX6_copyFrom 31 = .ok (.aload_n 1, 1) := by decide +kernel
theorem dX6_copyFrom_32 : decode cX6_copyFrom 32 = .ok (.getfield 24, 3) := by decide +kernel
theorem dX6_copyFrom_35 : decode cX6_copyFrom 35 = .ok (.putfield 24, 3) := by decide +kernel
theorem dX6_copyFrom_38 : decode cX6_copyFrom 38 = .ok (.return_, 1) := by decide +kernel
theorem dX6_add_0 : decode cX6_add 0 = .ok (.aload_n 0, 1) := by decide +kernel
theorem dX6_add_1 : decode cX6_add 1 = .ok (.getfield 24, 3) := by decide +kernel
theorem dX6_add_4 : decode cX6_add 4 = .ok (.bipush 16, 2) := by decide +kernel
theorem dX6_add_6 : decode cX6_add 6 = .ok (.if_icmp .ge 33, 3) := by decide +kernel
theorem dX6_add_9 : decode cX6_add 9 = .ok (.aload_n 0, 1) := by decide +kernel
theorem dX6_add_10 : decode cX6_add 10 = .ok (.getfield 9, 3) := by decide +kernel
theorem dX6_add_13 : decode cX6_add 13 = .ok (.aload_n 0, 1) := by decide +kernel
theorem dX6_add_14 : decode cX6_add 14 = .ok (.getfield 24, 3) := by decide +kernel
theorem dX6_add_17 : decode cX6_add 17 = .ok (.iload_n 1, 1) := by decide +kernel
theorem dX6_add_18 : decode cX6_add 18 = .ok (.iastore, 1) := by decide +kernel
theorem dX6_add_19 : decode cX6_add 19 = .ok (.aload_n 0, 1) := by decide +kernel
theorem dX6_add_20 : decode cX6_add 20 = .ok (.getfield 15, 3) := by decide +kernel
theorem dX6_add_23 : decode cX6_add 23 = .ok (.aload_n 0, 1) := by decide +kernel
theorem dX6_add_24 : decode cX6_add 24 = .ok (.getfield 24, 3) := by decide +kernel
theorem dX6_add_27 : decode cX6_add 27 = .ok (.iload_n 2, 1) := by decide +kernel
theorem dX6_add_28 : decode cX6_add 28 = .ok (.iastore, 1) := by decide +kernel
theorem dX6_add_29 : decode cX6_add 29 = .ok (.aload_n 0, 1) := by decide +kernel
theorem dX6_add_30 : decode cX6_add 30 = .ok (.dup, 1) := by decide +kernel
theorem dX6_add_31 : decode cX6_add 31 = .ok (.getfield 24, 3) := by decide +kernel
theorem dX6_add_34 : decode cX6_add 34 = .ok (.iconst 1, 1) := by decide +kernel
theorem dX6_add_35 : decode cX6_add 35 = .ok (.iadd, 1) := by decide +kernel
theorem dX6_add_36 : decode cX6_add 36 = .ok (.putfield 24, 3) := by decide +kernel
theorem dX6_add_39 : decode cX6_add 39 = .ok (.return_, 1) := by decide +kernel
theorem dX6_weatherOn_0 : decode cX6_weatherOn 0 = .ok (.aload_n 0, 1) := by decide +kernel
theorem dX6_weatherOn_1 : decode cX6_weatherOn 1 = .ok (.getfield 24, 3) := by decide +kernel
theorem dX6_weatherOn_4 : decode cX6_weatherOn 4 = .ok (.iconst 1, 1) := by decide +kernel
theorem dX6_weatherOn_5 : decode cX6_weatherOn 5 = .ok (.isub, 1) := by decide +kernel
theorem dX6_weatherOn_6 : decode cX6_weatherOn 6 = .ok (.istore_n 2, 1) := by decide +kernel
theorem dX6_weatherOn_7 : decode cX6_weatherOn 7 = .ok (.iload_n 2, 1) := by decide +kernel
theorem dX6_weatherOn_8 : decode cX6_weatherOn 8 = .ok (.ifCond .lt 26, 3) := by decide +kernel
theorem dX6_weatherOn_11 : decode cX6_weatherOn 11 = .ok (.aload_n 0, 1) := by decide +kernel
theorem dX6_weatherOn_12 : decode cX6_weatherOn 12 = .ok (.getfield 9, 3) := by decide +kernel
theorem dX6_weatherOn_15 : decode cX6_weatherOn 15 = .ok (.iload_n 2, 1) := by decide +kernel
theorem dX6_weatherOn_16 : decode cX6_weatherOn 16 = .ok (.iaload, 1) := by decide +kernel
theorem dX6_weatherOn_17 : decode cX6_weatherOn 17 = .ok (.iload_n 1, 1) := by decide +kernel
theorem dX6_weatherOn_18 : decode cX6_weatherOn 18 = .ok (.if_icmp .ne 10, 3) := by decide +kernel
theorem dX6_weatherOn_21 : decode cX6_weatherOn 21 = .ok (.aload_n 0, 1) := by decide +kernel
theorem dX6_weatherOn_22 : decode cX6_weatherOn 22 = .ok (.getfield 15, 3) := by decide +kernel
theorem dX6_weatherOn_25 : decode cX6_weatherOn 25 = .ok (.iload_n 2, 1) := by decide +kernel
theorem dX6_weatherOn_26 : decode cX6_weatherOn 26 = .ok (.iaload, 1) := by decide +kernel
theorem dX6_weatherOn_27 : decode cX6_weatherOn 27 = .ok (.ireturn, 1) := by decide +kernel
theorem dX6_weatherOn_28 : decode cX6_weatherOn 28 = .ok (.iinc 2 (-1), 3) := by decide +kernel
theorem dX6_weatherOn_31 : decode cX6_weatherOn 31 = .ok (.goto (-24), 3) := by decide +kernel
theorem dX6_weatherOn_34 : decode cX6_weatherOn 34 = .ok (.iconst (-1), 1) := by decide +kernel
theorem dX6_weatherOn_35 : decode cX6_weatherOn 35 = .ok (.ireturn, 1) := by decide +kernel
theorem dX7_init_0 : decode cX7_init 0 = .ok (.aload_n 0, 1) := by decide +kernel
theorem dX7_init_1 : decode cX7_init 1 = .ok (.invokespecial 3, 3) := by decide +kernel
theorem dX7_init_4 : decode cX7_init 4 = .ok (.aload_n 0, 1) := by decide +kernel
theorem dX7_init_5 : decode cX7_init 5 = .ok (.bipush 16, 2) := by decide +kernel
theorem dX7_init_7 : decode cX7_init 7 = .ok (.newarray .int, 2) := by decide +kernel
theorem dX7_init_9 : decode cX7_init 9 = .ok (.putfield 9, 3) := by decide +kernel
theorem dX7_init_12 : decode cX7_init 12 = .ok (.aload_n 0, 1) := by decide +kernel
theorem dX7_init_13 : decode cX7_init 13 = .ok (.bipush 16, 2) := by decide +kernel
theorem dX7_init_15 : decode cX7_init 15 = .ok (.newarray .int, 2) := by decide +kernel
theorem dX7_init_17 : decode cX7_init 17 = .ok (.putfield 15, 3) := by decide +kernel
theorem dX7_init_20 : decode cX7_init 20 = .ok (.return_, 1) := by decide +kernel
theorem dX7_copyFrom_0 : decode cX7_copyFrom 0 = .ok (.aload_n 1, 1) := by decide +kernel
theorem dX7_copyFrom_1 : decode cX7_copyFrom 1 = .ok (.getfield 9, 3) := by decide +kernel
theorem dX7_copyFrom_4 : decode cX7_copyFrom 4 = .ok (.iconst 0, 1) := by decide +kernel
theorem dX7_copyFrom_5 : decode cX7_copyFrom 5 = .ok (.aload_n 0, 1) := by decide +kernel
theorem dX7_copyFrom_6 : decode cX7_copyFrom 6 = .ok (.getfield 9, 3) := by decide +kernel
theorem dX7_copyFrom_9 : decode cX7_copyFrom 9 = .ok (.iconst 0, 1) := by decide +kernel
theorem dX7_copyFrom_10 : decode cX7_copyFrom 10 = .ok (.bipush 16, 2) := by decide +kernel
theorem dX7_copyFrom_12 : decode cX7_copyFrom 12 = .ok (.invokestatic 18, 3) := by decide +kernel
theorem dX7_copyFrom_15 : decode cX7_copyFrom 15 = .ok (.aload_n 1, 1) := by decide +kernel
theorem dX7_copyFrom_16 : decode cX7_copyFrom 16 = .ok (.getfield 15, 3) := by decide +kernel
theorem dX7_copyFrom_19 : decode cX7_copyFrom 19 = .ok (.iconst 0, 1) := by decide +kernel
theorem dX7_copyFrom_20 : decode cX7_copyFrom 20 = .ok (.aload_n 0, 1) := by decide +kernel
theorem dX7_copyFrom_21 : decode cX7_copyFrom 21 = .ok (.getfield 15, 3) := by decide +kernel
theorem dX7_copyFrom_24 : decode cX7_copyFrom 24 = .ok (.iconst 0, 1) := by decide +kernel
theorem dX7_copyFrom_25 : decode cX7_copyFrom 25 = .ok (.bipush 16, 2) := by decide +kernel
theorem dX7_copyFrom_27 : decode cX7_copyFrom 27 = .ok (.invokestatic 18, 3) := by decide +kernel
theorem dX7_copyFrom_30 : decode cX7_copyFrom 30 = .ok (.aload_n 0, 1) := by decide +kernel
theorem dX7_copyFrom_31 : decode cX7_copyFrom 31 = .ok (.aload_n 1, 1) := by decide +kernel
theorem dX7_copyFrom_32 : decode cX7_copyFrom 32 = .ok (.getfield 24, 3) := by decide +kernel
theorem dX7_copyFrom_35 : decode cX7_copyFrom 35 = .ok (.putfield 24, 3) := by decide +kernel
theorem dX7_copyFrom_38 : decode cX7_copyFrom 38 = .ok (.return_, 1) := by decide +kernel
theorem dX7_add_0 : decode cX7_add 0 = .ok (.aload_n 0, 1) := by decide +kernel
theorem dX7_add_1 : decode cX7_add 1 = .ok (.getfield 24, 3) := by decide +kernel
theorem dX7_add_4 : decode cX7_add 4 = .ok (.bipush 16, 2) := by decide +kernel
theorem dX7_add_6 : decode cX7_add 6 = .ok (.if_icmp .ge 33, 3) := by decide +kernel
theorem dX7_add_9 : decode cX7_add 9 = .ok (.aload_n 0, 1) := by decide +kernel
theorem dX7_add_10 : decode cX7_add 10 = .ok (.getfield 9, 3) := by decide +kernel
theorem dX7_add_13 : decode cX7_add 13 = .ok (.aload_n 0, 1) := by decide +kernel
theorem dX7_add_14 : decode cX7_add 14 = .ok (.getfield 24, 3) := by decide +kernel
theorem dX7_add_17 : decode cX7_add 17 = .ok (.iload_n 1, 1) := by decide +kernel
theorem dX7_add_18 : decode cX7_add 18 = .ok (.iastore, 1) := by decide +kernel
theorem dX7_add_19 : decode cX7_add 19 = .ok (.aload_n 0, 1) := by decide +kernel
theorem dX7_add_20 : decode cX7_add 20 = .ok (.getfield 15, 3) := by decide +kernel
theorem dX7_add_23 : decode cX7_add 23 = .ok (.aload_n 0, 1) := by decide +kernel
theorem dX7_add_24 : decode cX7_add 24 = .ok (.getfield 24, 3) := by decide +kernel
theorem dX7_add_27 : decode cX7_add 27 = .ok (.iload_n 2, 1) := by decide +kernel
theorem dX7_add_28 : decode cX7_add 28 = .ok (.iastore, 1) := by decide +kernel
theorem dX7_add_29 : decode cX7_add 29 = .ok (.aload_n 0, 1) := by decide +kernel
theorem dX7_add_30 : decode cX7_add 30 = .ok (.dup, 1) := by decide +kernel
theorem dX7_add_31 : decode cX7_add 31 = .ok (.getfield 24, 3) := by decide +kernel
theorem dX7_add_34 : decode cX7_add 34 = .ok (.iconst 1, 1) := by decide +kernel
theorem dX7_add_35 : decode cX7_add 35 = .ok (.iadd, 1) := by decide +kernel
theorem dX7_add_36 : decode cX7_add 36 = .ok (.putfield 24, 3) := by decide +kernel
theorem dX7_add_39 : decode cX7_add 39 = .ok (.return_, 1) := by decide +kernel
theorem dX7_closure_0 : decode cX7_closure 0 = .ok (.iload_n 1, 1) := by decide +kernel
theorem dX7_closure_1 : decode cX7_closure 1 = .ok (.istore_n 3, 1) := by decide +kernel
theorem dX7_closure_2 : decode cX7_closure 2 = .ok (.iconst 1, 1) := by decide +kernel
theorem dX7_closure_3 : decode cX7_closure 3 = .ok (.istore 4, 2) := by decide +kernel
theorem dX7_closure_5 : decode cX7_closure 5 = .ok (.iconst 0, 1) := by decide +kernel
theorem dX7_closure_6 : decode cX7_closure 6 = .ok (.istore 5, 2) := by decide +kernel
theorem dX7_closure_8 : decode cX7_closure 8 = .ok (.iload 5, 2) := by decide +kernel
theorem dX7_closure_10 : decode cX7_closure 10 = .ok (.bipush 16, 2) := by decide +kernel
theorem dX7_closure_12 : decode cX7_closure 12 = .ok (.if_icmp .gt 78, 3) := by decide +kernel
theorem dX7_closure_15 : decode cX7_closure 15 = .ok (.iload 4, 2) := by decide +kernel
theorem dX7_closure_17 : decode cX7_closure 17 = .ok (.ifCond .eq 73, 3) := by decide +kernel
theorem dX7_closure_20 : decode cX7_closure 20 = .ok (.iload_n 3, 1) := by decide +kernel
theorem dX7_closure_21 : decode cX7_closure 21 = .ok (.istore 6, 2) := by decide +kernel
theorem dX7_closure_23 : decode cX7_closure 23 = .ok (.iconst 0, 1) := by decide +kernel
theorem dX7_closure_24 : decode cX7_closure 24 = .ok (.istore 7, 2) := by decide +kernel
theorem dX7_closure_26 : decode cX7_closure 26 = .ok (.iload 7, 2) := by decide +kernel
theorem dX7_closure_28 : decode cX7_closure 28 = .ok (.aload_n 0, 1) := by decide +kernel
theorem dX7_closure_29 : decode cX7_closure 29 = .ok (.getfield 24, 3) := by decide +kernel
theorem dX7_closure_32 : decode cX7_closure 32 = .ok (.if_icmp .ge 39, 3) := by decide +kernel
theorem dX7_closure_35 : decode cX7_closure 35 = .ok (.iload 7, 2) := by decide +kernel
theorem dX7_closure_37 : decode cX7_closure 37 = .ok (.iload_n 2, 1) := by decide +kernel
theorem dX7_closure_38 : decode cX7_closure 38 = .ok (.if_icmp .eq 27, 3) := by decide +kernel
theorem dX7_closure_41 : decode cX7_closure 41 = .ok (.aload_n 0, 1) := by decide +kernel
theorem dX7_closure_42 : decode cX7_closure 42 = .ok (.getfield 9, 3) := by decide +kernel
theorem dX7_closure_45 : decode cX7_closure 45 = .ok (.iload 7, 2) := by decide +kernel
theorem dX7_closure_47 : decode cX7_closure 47 = .ok (.iaload, 1) := by decide +kernel
theorem dX7_closure_48 : decode cX7_closure 48 = .ok (.iload_n 3, 1) := by decide +kernel
theorem dX7_closure_49 : decode cX7_closure 49 = .ok (.iconst (-1), 1) := by decide +kernel
theorem dX7_closure_50 : decode cX7_closure 50 = .ok (.ixor, 1) := by decide +kernel
theorem dX7_closure_51 : decode cX7_closure 51 = .ok (.iand, 1) := by decide +kernel
theorem dX7_closure_52 : decode cX7_closure 52 = .ok (.ifCond .ne 13, 3) := by decide +kernel
theorem dX7_closure_55 : decode cX7_closure 55 = .ok (.iload_n 3, 1) := by decide +kernel
theorem dX7_closure_56 : decode cX7_closure 56 = .ok (.aload_n 0, 1) := by decide +kernel
theorem dX7_closure_57 : decode cX7_closure 57 = .ok (.getfield 15, 3) := by decide +kernel
theorem dX7_closure_60 : decode cX7_closure 60 = .ok (.iload 7, 2) := by decide +kernel
theorem dX7_closure_62 : decode cX7_closure 62 = .ok (.iaload, 1) := by decide +kernel
theorem dX7_closure_63 : decode cX7_closure 63 = .ok (.ior, 1) := by decide +kernel
theorem dX7_closure_64 : decode cX7_closure 64 = .ok (.istore_n 3, 1) := by decide +kernel
theorem dX7_closure_65 : decode cX7_closure 65 = .ok (.iinc 7 1, 3) := by decide +kernel
theorem dX7_closure_68 : decode cX7_closure 68 = .ok (.goto (-42), 3) := by decide +kernel
theorem dX7_closure_71 : decode cX7_closure 71 = .ok (.iload_n 3, 1) := by decide +kernel
theorem dX7_closure_72 : decode cX7_closure 72 = .ok (.iload 6, 2) := by decide +kernel
theorem dX7_closure_74 : decode cX7_closure 74 = .ok (.if_icmp .eq 7, 3) := by decide +kernel
theorem dX7_closure_77 : decode cX7_closure 77 = .ok (.iconst 1, 1) := by decide +kernel
theorem dX7_closure_78 : decode cX7_closure 78 = .ok (.goto 4, 3) := by decide +kernel
theorem dX7_closure_81 : decode cX7_closure 81 = .ok (.iconst 0, 1) := by decide +kernel
theorem dX7_closure_82 : decode cX7_closure 82 = .ok (.istore 4, 2) := by decide +kernel
theorem dX7_closure_84 : decode cX7_closure 84 = .ok (.iinc 5 1, 3) := by decide +kernel
theorem dX7_closure_87 : decode cX7_closure 87 = .ok (.goto (-79), 3) := by decide +kernel
theorem dX7_closure_90 : decode cX7_closure 90 = .ok (.iload_n 3, 1) := by decide +kernel
theorem dX7_closure_91 : decode cX7_closure 91 = .ok (.ireturn, 1) := by decide +kernel
theorem dX7_idle_0 : decode cX7_idle 0 = .ok (.iconst 0, 1) := by decide +kernel
theorem dX7_idle_1 : decode cX7_idle 1 = .ok (.istore_n 1, 1) := by decide +kernel
theorem dX7_idle_2 : decode cX7_idle 2 = .ok (.iconst 0, 1) := by decide +kernel
theorem dX7_idle_3 : decode cX7_idle 3 = .ok (.istore_n 2, 1) := by decide +kernel
theorem dX7_idle_4 : decode cX7_idle 4 = .ok (.iload_n 2, 1) := by decide +kernel
theorem dX7_idle_5 : decode cX7_idle 5 = .ok (.aload_n 0, 1) := by decide +kernel
theorem dX7_idle_6 : decode cX7_idle 6 = .ok (.getfield 24, 3) := by decide +kernel
theorem dX7_idle_9 : decode cX7_idle 9 = .ok (.if_icmp .ge 33, 3) := by decide +kernel
theorem dX7_idle_12 : decode cX7_idle 12 = .ok (.aload_n 0, 1) := by decide +kernel
theorem dX7_idle_13 : decode cX7_idle 13 = .ok (.aload_n 0, 1) := by decide +kernel
theorem dX7_idle_14 : decode cX7_idle 14 = .ok (.getfield 9, 3) := by decide +kernel
theorem dX7_idle_17 : decode cX7_idle 17 = .ok (.iload_n 2, 1) := by decide +kernel
theorem dX7_idle_18 : decode cX7_idle 18 = .ok (.iaload, 1) := by decide +kernel
theorem dX7_idle_19 : decode cX7_idle 19 = .ok (.iload_n 2, 1) := by decide +kernel
theorem dX7_idle_20 : decode cX7_idle 20 = .ok (.invokevirtual 28, 3) := by decide +kernel
theorem dX7_idle_23 : decode cX7_idle 23 = .ok (.aload_n 0, 1) := by decide +kernel
theorem dX7_idle_24 : decode cX7_idle 24 = .ok (.getfield 15, 3) := by decide +kernel
theorem dX7_idle_27 : decode cX7_idle 27 = .ok (.iload_n 2, 1) := by decide +kernel
theorem dX7_idle_28 : decode cX7_idle 28 = .ok (.iaload, 1) := by decide +kernel
theorem dX7_idle_29 : decode cX7_idle 29 = .ok (.iand, 1) := by decide +kernel
theorem dX7_idle_30 : decode cX7_idle 30 = .ok (.ifCond .eq 6, 3) := by decide +kernel
theorem dX7_idle_33 : decode cX7_idle 33 = .ok (.iinc 1 1, 3) := by decide +kernel
theorem dX7_idle_36 : decode cX7_idle 36 = .ok (.iinc 2 1, 3) := by decide +kernel
theorem dX7_idle_39 : decode cX7_idle 39 = .ok (.goto (-35), 3) := by decide +kernel
theorem dX7_idle_42 : decode cX7_idle 42 = .ok (.iload_n 1, 1) := by decide +kernel
theorem dX7_idle_43 : decode cX7_idle 43 = .ok (.ireturn, 1) := by decide +kernel
theorem dX7_fewestFor_0 : decode cX7_fewestFor 0 = .ok (.iconst 1, 1) := by decide +kernel
theorem dX7_fewestFor_1 : decode cX7_fewestFor 1 = .ok (.iload_n 1, 1) := by decide +kernel
theorem dX7_fewestFor_2 : decode cX7_fewestFor 2 = .ok (.ishl, 1) := by decide +kernel
theorem dX7_fewestFor_3 : decode cX7_fewestFor 3 = .ok (.istore_n 2, 1) := by decide +kernel
theorem dX7_fewestFor_4 : decode cX7_fewestFor 4 = .ok (.aload_n 0, 1) := by decide +kernel
theorem dX7_fewestFor_5 : decode cX7_fewestFor 5 = .ok (.iload_n 2, 1) := by decide +kernel
theorem dX7_fewestFor_6 : decode cX7_fewestFor 6 = .ok (.invokevirtual 32, 3) := by decide +kernel
theorem dX7_fewestFor_9 : decode cX7_fewestFor 9 = .ok (.iload_n 2, 1) := by decide +kernel
theorem dX7_fewestFor_10 : decode cX7_fewestFor 10 = .ok (.iconst (-1), 1) := by decide +kernel
theorem dX7_fewestFor_11 : decode cX7_fewestFor 11 = .ok (.ixor, 1) := by decide +kernel
theorem dX7_fewestFor_12 : decode cX7_fewestFor 12 = .ok (.iand, 1) := by decide +kernel
theorem dX7_fewestFor_13 : decode cX7_fewestFor 13 = .ok (.istore_n 3, 1) := by decide +kernel
theorem dX7_fewestFor_14 : decode cX7_fewestFor 14 = .ok (.aload_n 0, 1) := by decide +kernel
theorem dX7_fewestFor_15 : decode cX7_fewestFor 15 = .ok (.iload_n 3, 1) := by decide +kernel
theorem dX7_fewestFor_16 : decode cX7_fewestFor 16 = .ok (.iconst (-1), 1) := by decide +kernel
theorem dX7_fewestFor_17 : decode cX7_fewestFor 17 = .ok (.invokevirtual 28, 3) := by decide +kernel
theorem dX7_fewestFor_20 : decode cX7_fewestFor 20 = .ok (.iload_n 2, 1) := by decide +kernel
theorem dX7_fewestFor_21 : decode cX7_fewestFor 21 = .ok (.iand, 1) := by decide +kernel
theorem dX7_fewestFor_22 : decode cX7_fewestFor 22 = .ok (.ifCond .ne 5, 3) := by decide +kernel
theorem dX7_fewestFor_25 : decode cX7_fewestFor 25 = .ok (.iconst 0, 1) := by decide +kernel
theorem dX7_fewestFor_26 : decode cX7_fewestFor 26 = .ok (.ireturn, 1) := by decide +kernel
theorem dX7_fewestFor_27 : decode cX7_fewestFor 27 = .ok (.aload_n 0, 1) := by decide +kernel
theorem dX7_fewestFor_28 : decode cX7_fewestFor 28 = .ok (.iload_n 3, 1) := by decide +kernel
theorem dX7_fewestFor_29 : decode cX7_fewestFor 29 = .ok (.iload_n 2, 1) := by decide +kernel
theorem dX7_fewestFor_30 : decode cX7_fewestFor 30 = .ok (.invokevirtual 36, 3) := by decide +kernel
theorem dX7_fewestFor_33 : decode cX7_fewestFor 33 = .ok (.istore 4, 2) := by decide +kernel
theorem dX7_fewestFor_35 : decode cX7_fewestFor 35 = .ok (.iload_n 3, 1) := by decide +kernel
theorem dX7_fewestFor_36 : decode cX7_fewestFor 36 = .ok (.iload 4, 2) := by decide +kernel
theorem dX7_fewestFor_38 : decode cX7_fewestFor 38 = .ok (.iconst (-1), 1) := by decide +kernel
theorem dX7_fewestFor_39 : decode cX7_fewestFor 39 = .ok (.ixor, 1) := by decide +kernel
theorem dX7_fewestFor_40 : decode cX7_fewestFor 40 = .ok (.iand, 1) := by decide +kernel
theorem dX7_fewestFor_41 : decode cX7_fewestFor 41 = .ok (.istore 5, 2) := by decide +kernel
theorem dX7_fewestFor_43 : decode cX7_fewestFor 43 = .ok (.iload_n 3, 1) := by decide +kernel
theorem dX7_fewestFor_44 : decode cX7_fewestFor 44 = .ok (.istore 6, 2) := by decide +kernel
theorem dX7_fewestFor_46 : decode cX7_fewestFor 46 = .ok (.iconst 0, 1) := by decide +kernel
theorem dX7_fewestFor_47 : decode cX7_fewestFor 47 = .ok (.istore 7, 2) := by decide +kernel
theorem dX7_fewestFor_49 : decode cX7_fewestFor 49 = .ok (.iconst 0, 1) := by decide +kernel
theorem dX7_fewestFor_50 : decode cX7_fewestFor 50 = .ok (.istore 8, 2) := by decide +kernel
theorem dX7_fewestFor_52 : decode cX7_fewestFor 52 = .ok (.iload 8, 2) := by decide +kernel
theorem dX7_fewestFor_54 : decode cX7_fewestFor 54 = .ok (.ldc 39, 2) := by decide +kernel
theorem dX7_fewestFor_56 : decode cX7_fewestFor 56 = .ok (.if_icmp .ge 77, 3) := by decide +kernel
theorem dX7_fewestFor_59 : decode cX7_fewestFor 59 = .ok (.iload 4, 2) := by decide +kernel
theorem dX7_fewestFor_61 : decode cX7_fewestFor 61 = .ok (.iload 7, 2) := by decide +kernel
theorem dX7_fewestFor_63 : decode cX7_fewestFor 63 = .ok (.ior, 1) := by decide +kernel
theorem dX7_fewestFor_64 : decode cX7_fewestFor 64 = .ok (.istore 9, 2) := by decide +kernel
theorem dX7_fewestFor_66 : decode cX7_fewestFor 66 = .ok (.iload 9, 2) := by decide +kernel
theorem dX7_fewestFor_68 : decode cX7_fewestFor 68 = .ok (.invokestatic 40, 3) := by decide +kernel
theorem dX7_fewestFor_71 : decode cX7_fewestFor 71 = .ok (.iload 6, 2) := by decide +kernel
theorem dX7_fewestFor_73 : decode cX7_fewestFor 73 = .ok (.invokestatic 40, 3) := by decide +kernel
theorem dX7_fewestFor_76 : decode cX7_fewestFor 76 = .ok (.if_icmp .ge 7, 3) := by decide +kernel
theorem dX7_fewestFor_79 : decode cX7_fewestFor 79 = .ok (.iconst 1, 1) := by decide +kernel
theorem dX7_fewestFor_80 : decode cX7_fewestFor 80 = .ok (.goto 4, 3) := by decide +kernel
theorem dX7_fewestFor_83 : decode cX7_fewestFor 83 = .ok (.iconst 0, 1) := by decide +kernel
theorem dX7_fewestFor_84 : decode cX7_fewestFor 84 = .ok (.istore 10, 2) := by decide +kernel
theorem dX7_fewestFor_86 : decode cX7_fewestFor 86 = .ok (.iload 10, 2) := by decide +kernel
theorem dX7_fewestFor_88 : decode cX7_fewestFor 88 = .ok (.ifCond .eq 19, 3) := by decide +kernel
theorem dX7_fewestFor_91 : decode cX7_fewestFor 91 = .ok (.aload_n 0, 1) := by decide +kernel
theorem dX7_fewestFor_92 : decode cX7_fewestFor 92 = .ok (.iload 9, 2) := by decide +kernel
theorem dX7_fewestFor_94 : decode cX7_fewestFor 94 = .ok (.iconst (-1), 1) := by decide +kernel
theorem dX7_fewestFor_95 : decode cX7_fewestFor 95 = .ok (.invokevirtual 28, 3) := by decide +kernel
theorem dX7_fewestFor_98 : decode cX7_fewestFor 98 = .ok (.iload_n 2, 1) := by decide +kernel
theorem dX7_fewestFor_99 : decode cX7_fewestFor 99 = .ok (.iand, 1) := by decide +kernel
theorem dX7_fewestFor_100 : decode cX7_fewestFor 100 = .ok (.ifCond .eq 7, 3) := by decide +kernel
theorem dX7_fewestFor_103 : decode cX7_fewestFor 103 = .ok (.iload 9, 2) := by decide +kernel
theorem dX7_fewestFor_105 : decode cX7_fewestFor 105 = .ok (.istore 6, 2) := by decide +kernel
theorem dX7_fewestFor_107 : decode cX7_fewestFor 107 = .ok (.iload 7, 2) := by decide +kernel
theorem dX7_fewestFor_109 : decode cX7_fewestFor 109 = .ok (.iload 5, 2) := by decide +kernel
theorem dX7_fewestFor_111 : decode cX7_fewestFor 111 = .ok (.if_icmp .ne 6, 3) := by decide +kernel
theorem dX7_fewestFor_114 : decode cX7_fewestFor 114 = .ok (.goto 19, 3) := by decide +kernel
theorem dX7_fewestFor_117 : decode cX7_fewestFor 117 = .ok (.iload 7, 2) := by decide +kernel
theorem dX7_fewestFor_119 : decode cX7_fewestFor 119 = .ok (.iload 5, 2) := by decide +kernel
theorem dX7_fewestFor_121 : decode cX7_fewestFor 121 = .ok (.isub, 1) := by decide +kernel
theorem dX7_fewestFor_122 : decode cX7_fewestFor 122 = .ok (.iload 5, 2) := by decide +kernel
theorem dX7_fewestFor_124 : decode cX7_fewestFor 124 = .ok (.iand, 1) := by decide +kernel
theorem dX7_fewestFor_125 : decode cX7_fewestFor 125 = .ok (.istore 7, 2) := by decide +kernel
theorem dX7_fewestFor_127 : decode cX7_fewestFor 127 = .ok (.iinc 8 1, 3) := by decide +kernel
theorem dX7_fewestFor_130 : decode cX7_fewestFor 130 = .ok (.goto (-78), 3) := by decide +kernel
theorem dX7_fewestFor_133 : decode cX7_fewestFor 133 = .ok (.iload 6, 2) := by decide +kernel
theorem dX7_fewestFor_135 : decode cX7_fewestFor 135 = .ok (.ireturn, 1) := by decide +kernel
theorem dX7_leadingTo_0 : decode cX7_leadingTo 0 = .ok (.iload_n 1, 1) := by decide +kernel
theorem dX7_leadingTo_1 : decode cX7_leadingTo 1 = .ok (.istore_n 2, 1) := by decide +kernel
theorem dX7_leadingTo_2 : decode cX7_leadingTo 2 = .ok (.iconst 1, 1) := by decide +kernel
theorem dX7_leadingTo_3 : decode cX7_leadingTo 3 = .ok (.istore_n 3, 1) := by decide +kernel
theorem dX7_leadingTo_4 : decode cX7_leadingTo 4 = .ok (.iconst 0, 1) := by decide +kernel
theorem dX7_leadingTo_5 : decode cX7_leadingTo 5 = .ok (.istore 4, 2) := by decide +kernel
theorem dX7_leadingTo_7 : decode cX7_leadingTo 7 = .ok (.iload 4, 2) := by decide +kernel
theorem dX7_leadingTo_9 : decode cX7_leadingTo 9 = .ok (.bipush 16, 2) := by decide +kernel
theorem dX7_leadingTo_11 : decode cX7_leadingTo 11 = .ok (.if_icmp .gt 68, 3) := by decide +kernel
theorem dX7_leadingTo_14 : decode cX7_leadingTo 14 = .ok (.iload_n 3, 1) := by decide +kernel
theorem dX7_leadingTo_15 : decode cX7_leadingTo 15 = .ok (.ifCond .eq 64, 3) := by decide +kernel
theorem dX7_leadingTo_18 : decode cX7_leadingTo 18 = .ok (.iload_n 2, 1) := by decide +kernel
theorem dX7_leadingTo_19 : decode cX7_leadingTo 19 = .ok (.istore 5, 2) := by decide +kernel
theorem dX7_leadingTo_21 : decode cX7_leadingTo 21 = .ok (.iconst 0, 1) := by decide +kernel
theorem dX7_leadingTo_22 : decode cX7_leadingTo 22 = .ok (.istore 6, 2) := by decide +kernel
theorem dX7_leadingTo_24 : decode cX7_leadingTo 24 = .ok (.iload 6, 2) := by decide +kernel
theorem dX7_leadingTo_26 : decode cX7_leadingTo 26 = .ok (.aload_n 0, 1) := by decide +kernel
theorem dX7_leadingTo_27 : decode cX7_leadingTo 27 = .ok (.getfield 24, 3) := by decide +kernel
theorem dX7_leadingTo_30 : decode cX7_leadingTo 30 = .ok (.if_icmp .ge 31, 3) := by decide +kernel
theorem dX7_leadingTo_33 : decode cX7_leadingTo 33 = .ok (.aload_n 0, 1) := by decide +kernel
theorem dX7_leadingTo_34 : decode cX7_leadingTo 34 = .ok (.getfield 15, 3) := by decide +kernel
theorem dX7_leadingTo_37 : decode cX7_leadingTo 37 = .ok (.iload 6, 2) := by decide +kernel
theorem dX7_leadingTo_39 : decode cX7_leadingTo 39 = .ok (.iaload, 1) := by decide +kernel
theorem dX7_leadingTo_40 : decode cX7_leadingTo 40 = .ok (.iload_n 2, 1) := by decide +kernel
theorem dX7_leadingTo_41 : decode cX7_leadingTo 41 = .ok (.iand, 1) := by decide +kernel
theorem dX7_leadingTo_42 : decode cX7_leadingTo 42 = .ok (.ifCond .eq 13, 3) := by decide +kernel
theorem dX7_leadingTo_45 : decode cX7_leadingTo 45 = .ok (.iload_n 2, 1) := by decide +kernel
theorem dX7_leadingTo_46 : decode cX7_leadingTo 46 = .ok (.aload_n 0, 1) := by decide +kernel
theorem dX7_leadingTo_47 : decode cX7_leadingTo 47 = .ok (.getfield 9, 3) := by decide +kernel
theorem dX7_leadingTo_50 : decode cX7_leadingTo 50 = .ok (.iload 6, 2) := by decide +kernel
theorem dX7_leadingTo_52 : decode cX7_leadingTo 52 = .ok (.iaload, 1) := by decide +kernel
theorem dX7_leadingTo_53 : decode cX7_leadingTo 53 = .ok (.ior, 1) := by decide +kernel
theorem dX7_leadingTo_54 : decode cX7_leadingTo 54 = .ok (.istore_n 2, 1) := by decide +kernel
theorem dX7_leadingTo_55 : decode cX7_leadingTo 55 = .ok (.iinc 6 1, 3) := by decide +kernel
theorem dX7_leadingTo_58 : decode cX7_leadingTo 58 = .ok (.goto (-34), 3) := by decide +kernel
theorem dX7_leadingTo_61 : decode cX7_leadingTo 61 = .ok (.iload_n 2, 1) := by decide +kernel
theorem dX7_leadingTo_62 : decode cX7_leadingTo 62 = .ok (.iload 5, 2) := by decide +kernel
theorem dX7_leadingTo_64 : decode cX7_leadingTo 64 = .ok (.if_icmp .eq 7, 3) := by decide +kernel
theorem dX7_leadingTo_67 : decode cX7_leadingTo 67 = .ok (.iconst 1, 1) := by decide +kernel
theorem dX7_leadingTo_68 : decode cX7_leadingTo 68 = .ok (.goto 4, 3) := by decide +kernel
theorem dX7_leadingTo_71 : decode cX7_leadingTo 71 = .ok (.iconst 0, 1) := by decide +kernel
theorem dX7_leadingTo_72 : decode cX7_leadingTo 72 = .ok (.istore_n 3, 1) := by decide +kernel
theorem dX7_leadingTo_73 : decode cX7_leadingTo 73 = .ok (.iinc 4 1, 3) := by decide +kernel
theorem dX7_leadingTo_76 : decode cX7_leadingTo 76 = .ok (.goto (-69), 3) := by decide +kernel
theorem dX7_leadingTo_79 : decode cX7_leadingTo 79 = .ok (.iload_n 2, 1) := by decide +kernel
theorem dX7_leadingTo_80 : decode cX7_leadingTo 80 = .ok (.ireturn, 1) := by decide +kernel
theorem dX7_neededOf_0 : decode cX7_neededOf 0 = .ok (.iconst 0, 1) := by decide +kernel
theorem dX7_neededOf_1 : decode cX7_neededOf 1 = .ok (.istore_n 3, 1) := by decide +kernel
theorem dX7_neededOf_2 : decode cX7_neededOf 2 = .ok (.iconst 0, 1) := by decide +kernel
theorem dX7_neededOf_3 : decode cX7_neededOf 3 = .ok (.istore 4, 2) := by decide +kernel
theorem dX7_neededOf_5 : decode cX7_neededOf 5 = .ok (.iload 4, 2) := by decide +kernel
theorem dX7_neededOf_7 : decode cX7_neededOf 7 = .ok (.bipush 16, 2) := by decide +kernel
theorem dX7_neededOf_9 : decode cX7_neededOf 9 = .ok (.if_icmp .ge 43, 3) := by decide +kernel
theorem dX7_neededOf_12 : decode cX7_neededOf 12 = .ok (.iconst 1, 1) := by decide +kernel
theorem dX7_neededOf_13 : decode cX7_neededOf 13 = .ok (.iload 4, 2) := by decide +kernel
theorem dX7_neededOf_15 : decode cX7_neededOf 15 = .ok (.ishl, 1) := by decide +kernel
theorem dX7_neededOf_16 : decode cX7_neededOf 16 = .ok (.istore 5, 2) := by decide +kernel
theorem dX7_neededOf_18 : decode cX7_neededOf 18 = .ok (.iload_n 1, 1) := by decide +kernel
theorem dX7_neededOf_19 : decode cX7_neededOf 19 = .ok (.iload 5, 2) := by decide +kernel
theorem dX7_neededOf_21 : decode cX7_neededOf 21 = .ok (.iand, 1) := by decide +kernel
theorem dX7_neededOf_22 : decode cX7_neededOf 22 = .ok (.ifCond .eq 24, 3) := by decide +kernel
theorem dX7_neededOf_25 : decode cX7_neededOf 25 = .ok (.aload_n 0, 1) := by decide +kernel
theorem dX7_neededOf_26 : decode cX7_neededOf 26 = .ok (.iload_n 1, 1) := by decide +kernel
theorem dX7_neededOf_27 : decode cX7_neededOf 27 = .ok (.iload 5, 2) := by decide +kernel
theorem dX7_neededOf_29 : decode cX7_neededOf 29 = .ok (.iconst (-1), 1) := by decide +kernel
theorem dX7_neededOf_30 : decode cX7_neededOf 30 = .ok (.ixor, 1) := by decide +kernel
theorem dX7_neededOf_31 : decode cX7_neededOf 31 = .ok (.iand, 1) := by decide +kernel
theorem dX7_neededOf_32 : decode cX7_neededOf 32 = .ok (.iconst (-1), 1) := by decide +kernel
theorem dX7_neededOf_33 : decode cX7_neededOf 33 = .ok (.invokevirtual 28, 3) := by decide +kernel
theorem dX7_neededOf_36 : decode cX7_neededOf 36 = .ok (.iload_n 2, 1) := by decide +kernel
theorem dX7_neededOf_37 : decode cX7_neededOf 37 = .ok (.iand, 1) := by decide +kernel
theorem dX7_neededOf_38 : decode cX7_neededOf 38 = .ok (.ifCond .ne 8, 3) := by decide +kernel
theorem dX7_neededOf_41 : decode cX7_neededOf 41 = .ok (.iload_n 3, 1) := by decide +kernel
theorem dX7_neededOf_42 : decode cX7_neededOf 42 = .ok (.iload 5, 2) := by decide +kernel
theorem dX7_neededOf_44 : decode cX7_neededOf 44 = .ok (.ior, 1) := by decide +kernel
theorem dX7_neededOf_45 : decode cX7_neededOf 45 = .ok (.istore_n 3, 1) := by decide +kernel
theorem dX7_neededOf_46 : decode cX7_neededOf 46 = .ok (.iinc 4 1, 3) := by decide +kernel
theorem dX7_neededOf_49 : decode cX7_neededOf 49 = .ok (.goto (-44), 3) := by decide +kernel
theorem dX7_neededOf_52 : decode cX7_neededOf 52 = .ok (.iload_n 3, 1) := by decide +kernel
theorem dX7_neededOf_53 : decode cX7_neededOf 53 = .ok (.ireturn, 1) := by decide +kernel
theorem dX8_init_0 : decode cX8_init 0 = .ok (.aload_n 0, 1) := by decide +kernel
theorem dX8_init_1 : decode cX8_init 1 = .ok (.invokespecial 3, 3) := by decide +kernel
theorem dX8_init_4 : decode cX8_init 4 = .ok (.aload_n 0, 1) := by decide +kernel
theorem dX8_init_5 : decode cX8_init 5 = .ok (.sipush 401, 3) := by decide +kernel
theorem dX8_init_8 : decode cX8_init 8 = .ok (.newarray .int, 2) := by decide +kernel
theorem dX8_init_10 : decode cX8_init 10 = .ok (.putfield 9, 3) := by decide +kernel
theorem dX8_init_13 : decode cX8_init 13 = .ok (.aload_n 0, 1) := by decide +kernel
theorem dX8_init_14 : decode cX8_init 14 = .ok (.sipush 401, 3) := by decide +kernel
theorem dX8_init_17 : decode cX8_init 17 = .ok (.newarray .int, 2) := by decide +kernel
theorem dX8_init_19 : decode cX8_init 19 = .ok (.putfield 15, 3) := by decide +kernel
theorem dX8_init_22 : decode cX8_init 22 = .ok (.aload_n 0, 1) := by decide +kernel
theorem dX8_init_23 : decode cX8_init 23 = .ok (.sipush 401, 3) := by decide +kernel
theorem dX8_init_26 : decode cX8_init 26 = .ok (.newarray .int, 2) := by decide +kernel
theorem dX8_init_28 : decode cX8_init 28 = .ok (.putfield 18, 3) := by decide +kernel
