theorem dX1_init_0 : decode cX1_init 0 = .ok (.aload_n 0, 1) := by decide +kernel
theorem dX1_init_1 : decode cX1_init 1 = .ok (.invokespecial 3, 3) := by decide +kernel
theorem dX1_init_4 : decode cX1_init 4 = .ok (.aload_n 0, 1) := by decide +kernel
theorem dX1_init_5 : decode cX1_init 5 = .ok (.bipush 12, 2) := by decide +kernel
theorem dX1_init_7 : decode cX1_init 7 = .ok (.newarray .int, 2) := by decide +kernel
theorem dX1_init_9 : decode cX1_init 9 = .ok (.putfield 9, 3) := by decide +kernel
theorem dX1_init_12 : decode cX1_init 12 = .ok (.aload_n 0, 1) := by decide +kernel
theorem dX1_init_13 : decode cX1_init 13 = .ok (.bipush 12, 2) := by decide +kernel
theorem dX1_init_15 : decode cX1_init 15 = .ok (.newarray .int, 2) := by decide +kernel
theorem dX1_init_17 : decode cX1_init 17 = .ok (.putfield 15, 3) := by decide +kernel
theorem dX1_init_20 : decode cX1_init 20 = .ok (.aload_n 0, 1) := by decide +kernel
theorem dX1_init_21 : decode cX1_init 21 = .ok (.bipush 12, 2) := by decide +kernel
theorem dX1_init_23 : decode cX1_init 23 = .ok (.newarray .int, 2) := by decide +kernel
theorem dX1_init_25 : decode cX1_init 25 = .ok (.putfield 18, 3) := by decide +kernel
theorem dX1_init_28 : decode cX1_init 28 = .ok (.return_, 1) := by decide +kernel
theorem dX1_copyFrom_0 : decode cX1_copyFrom 0 = .ok (.aload_n 0, 1) := by decide +kernel
theorem dX1_copyFrom_1 : decode cX1_copyFrom 1 = .ok (.aload_n 1, 1) := by decide +kernel
theorem dX1_copyFrom_2 : decode cX1_copyFrom 2 = .ok (.getfield 21, 3) := by decide +kernel
theorem dX1_copyFrom_5 : decode cX1_copyFrom 5 = .ok (.putfield 21, 3) := by decide +kernel
theorem dX1_copyFrom_8 : decode cX1_copyFrom 8 = .ok (.iconst 0, 1) := by decide +kernel
theorem dX1_copyFrom_9 : decode cX1_copyFrom 9 = .ok (.istore_n 2, 1) := by decide +kernel
theorem dX1_copyFrom_10 : decode cX1_copyFrom 10 = .ok (.iload_n 2, 1) := by decide +kernel
theorem dX1_copyFrom_11 : decode cX1_copyFrom 11 = .ok (.bipush 12, 2) := by decide +kernel
theorem dX1_copyFrom_13 : decode cX1_copyFrom 13 = .ok (.if_icmp .ge 32, 3) := by decide +kernel
theorem dX1_copyFrom_16 : decode cX1_copyFrom 16 = .ok (.aload_n 0, 1) := by decide +kernel
theorem dX1_copyFrom_17 : decode cX1_copyFrom 17 = .ok (.iload_n 2, 1) := by decide +kernel
theorem dX1_copyFrom_18 : decode cX1_copyFrom 18 = .ok (.aload_n 1, 1) := by decide +kernel
theorem dX1_copyFrom_19 : decode cX1_copyFrom 19 = .ok (.getfield 9, 3) := by decide +kernel
theorem dX1_copyFrom_22 : decode cX1_copyFrom 22 = .ok (.iload_n 2, 1) := by decide +kernel
theorem dX1_copyFrom_23 : decode cX1_copyFrom 23 = .ok (.iaload, 1) := by decide +kernel
theorem dX1_copyFrom_24 : decode cX1_copyFrom 24 = .ok (.aload_n 1, 1) := by decide +kernel
theorem dX1_copyFrom_25 : decode cX1_copyFrom 25 = .ok (.getfield 15, 3) := by decide +kernel
theorem dX1_copyFrom_28 : decode cX1_copyFrom 28 = .ok (.iload_n 2, 1) := by decide +kernel
theorem dX1_copyFrom_29 : decode cX1_copyFrom 29 = .ok (.iaload, 1) := by decide +kernel
theorem dX1_copyFrom_30 : decode cX1_copyFrom 30 = .ok (.aload_n 1, 1) := by decide +kernel
theorem dX1_copyFrom_31 : decode cX1_copyFrom 31 = .ok (.getfield 18, 3) := by decide +kernel
theorem dX1_copyFrom_34 : decode cX1_copyFrom 34 = .ok (.iload_n 2, 1) := by decide +kernel
theorem dX1_copyFrom_35 : decode cX1_copyFrom 35 = .ok (.iaload, 1) := by decide +kernel
theorem dX1_copyFrom_36 : decode cX1_copyFrom 36 = .ok (.invokevirtual 25, 3) := by decide +kernel
theorem dX1_copyFrom_39 : decode cX1_copyFrom 39 = .ok (.iinc 2 1, 3) := by decide +kernel
theorem dX1_copyFrom_42 : decode cX1_copyFrom 42 = .ok (.goto (-32), 3) := by decide +kernel
theorem dX1_copyFrom_45 : decode cX1_copyFrom 45 = .ok (.return_, 1) := by decide +kernel
theorem dX1_put_0 : decode cX1_put 0 = .ok (.aload_n 0, 1) := by decide +kernel
theorem dX1_put_1 : decode cX1_put 1 = .ok (.getfield 9, 3) := by decide +kernel
theorem dX1_put_4 : decode cX1_put 4 = .ok (.iload_n 1, 1) := by decide +kernel
theorem dX1_put_5 : decode cX1_put 5 = .ok (.iload_n 2, 1) := by decide +kernel
theorem dX1_put_6 : decode cX1_put 6 = .ok (.iastore, 1) := by decide +kernel
theorem dX1_put_7 : decode cX1_put 7 = .ok (.aload_n 0, 1) := by decide +kernel
theorem dX1_put_8 : decode cX1_put 8 = .ok (.getfield 15, 3) := by decide +kernel
theorem dX1_put_11 : decode cX1_put 11 = .ok (.iload_n 1, 1) := by decide +kernel
theorem dX1_put_12 : decode cX1_put 12 = .ok (.iload_n 3, 1) := by decide +kernel
theorem dX1_put_13 : decode cX1_put 13 = .ok (.iastore, 1) := by decide +kernel
theorem dX1_put_14 : decode cX1_put 14 = .ok (.aload_n 0, 1) := by decide +kernel
theorem dX1_put_15 : decode cX1_put 15 = .ok (.getfield 18, 3) := by decide +kernel
theorem dX1_put_18 : decode cX1_put 18 = .ok (.iload_n 1, 1) := by decide +kernel
theorem dX1_put_19 : decode cX1_put 19 = .ok (.iload 4, 2) := by decide +kernel
theorem dX1_put_21 : decode cX1_put 21 = .ok (.iastore, 1) := by decide +kernel
theorem dX1_put_22 : decode cX1_put 22 = .ok (.return_, 1) := by decide +kernel
theorem dX1_earliest_0 : decode cX1_earliest 0 = .ok (.iconst (-1), 1) := by decide +kernel
theorem dX1_earliest_1 : decode cX1_earliest 1 = .ok (.istore_n 1, 1) := by decide +kernel
theorem dX1_earliest_2 : decode cX1_earliest 2 = .ok (.iconst 0, 1) := by decide +kernel
theorem dX1_earliest_3 : decode cX1_earliest 3 = .ok (.istore_n 2, 1) := by decide +kernel
theorem dX1_earliest_4 : decode cX1_earliest 4 = .ok (.iload_n 2, 1) := by decide +kernel
theorem dX1_earliest_5 : decode cX1_earliest 5 = .ok (.aload_n 0, 1) := by decide +kernel
theorem dX1_earliest_6 : decode cX1_earliest 6 = .ok (.getfield 21, 3) := by decide +kernel
theorem dX1_earliest_9 : decode cX1_earliest 9 = .ok (.if_icmp .ge 31, 3) := by decide +kernel
theorem dX1_earliest_12 : decode cX1_earliest 12 = .ok (.iload_n 1, 1) := by decide +kernel
theorem dX1_earliest_13 : decode cX1_earliest 13 = .ok (.iconst (-1), 1) := by decide +kernel
theorem dX1_earliest_14 : decode cX1_earliest 14 = .ok (.if_icmp .eq 13, 3) := by decide +kernel
theorem dX1_earliest_17 : decode cX1_earliest 17 = .ok (.aload_n 0, 1) := by decide +kernel
theorem dX1_earliest_18 : decode cX1_earliest 18 = .ok (.getfield 15, 3) := by decide +kernel
theorem dX1_earliest_21 : decode cX1_earliest 21 = .ok (.iload_n 2, 1) := by decide +kernel
theorem dX1_earliest_22 : decode cX1_earliest 22 = .ok (.iaload, 1) := by decide +kernel
theorem dX1_earliest_23 : decode cX1_earliest 23 = .ok (.iload_n 1, 1) := by decide +kernel
theorem dX1_earliest_24 : decode cX1_earliest 24 = .ok (.if_icmp .ge 10, 3) := by decide +kernel
theorem dX1_earliest_27 : decode cX1_earliest 27 = .ok (.aload_n 0, 1) := by decide +kernel
theorem dX1_earliest_28 : decode cX1_earliest 28 = .ok (.getfield 15, 3) := by decide +kernel
theorem dX1_earliest_31 : decode cX1_earliest 31 = .ok (.iload_n 2, 1) := by decide +kernel
theorem dX1_earliest_32 : decode cX1_earliest 32 = .ok (.iaload, 1) := by decide +kernel
theorem dX1_earliest_33 : decode cX1_earliest 33 = .ok (.istore_n 1, 1) := by decide +kernel
theorem dX1_earliest_34 : decode cX1_earliest 34 = .ok (.iinc 2 1, 3) := by decide +kernel
theorem dX1_earliest_37 : decode cX1_earliest 37 = .ok (.goto (-33), 3) := by decide +kernel
theorem dX1_earliest_40 : decode cX1_earliest 40 = .ok (.iload_n 1, 1) := by decide +kernel
theorem dX1_earliest_41 : decode cX1_earliest 41 = .ok (.ireturn, 1) := by decide +kernel
theorem dX1_fire_0 : decode cX1_fire 0 = .ok (.iconst 0, 1) := by decide +kernel
theorem dX1_fire_1 : decode cX1_fire 1 = .ok (.istore_n 3, 1) := by decide +kernel
theorem dX1_fire_2 : decode cX1_fire 2 = .ok (.iconst 0, 1) := by decide +kernel
theorem dX1_fire_3 : decode cX1_fire 3 = .ok (.istore 4, 2) := by decide +kernel
theorem dX1_fire_5 : decode cX1_fire 5 = .ok (.iload 4, 2) := by decide +kernel
theorem dX1_fire_7 : decode cX1_fire 7 = .ok (.aload_n 0, 1) := by decide +kernel
theorem dX1_fire_8 : decode cX1_fire 8 = .ok (.getfield 21, 3) := by decide +kernel
theorem dX1_fire_11 : decode cX1_fire 11 = .ok (.if_icmp .ge 71, 3) := by decide +kernel
theorem dX1_fire_14 : decode cX1_fire 14 = .ok (.aload_n 0, 1) := by decide +kernel
theorem dX1_fire_15 : decode cX1_fire 15 = .ok (.getfield 15, 3) := by decide +kernel
theorem dX1_fire_18 : decode cX1_fire 18 = .ok (.iload 4, 2) := by decide +kernel
theorem dX1_fire_20 : decode cX1_fire 20 = .ok (.iaload, 1) := by decide +kernel
theorem dX1_fire_21 : decode cX1_fire 21 = .ok (.iload_n 1, 1) := by decide +kernel
theorem dX1_fire_22 : decode cX1_fire 22 = .ok (.if_icmp .ne 25, 3) := by decide +kernel
theorem dX1_fire_25 : decode cX1_fire 25 = .ok (.aload_n 2, 1) := by decide +kernel
theorem dX1_fire_26 : decode cX1_fire 26 = .ok (.getfield 29, 3) := by decide +kernel
theorem dX1_fire_29 : decode cX1_fire 29 = .ok (.aload_n 0, 1) := by decide +kernel
theorem dX1_fire_30 : decode cX1_fire 30 = .ok (.getfield 9, 3) := by decide +kernel
theorem dX1_fire_33 : decode cX1_fire 33 = .ok (.iload 4, 2) := by decide +kernel
theorem dX1_fire_35 : decode cX1_fire 35 = .ok (.iaload, 1) := by decide +kernel
theorem dX1_fire_36 : decode cX1_fire 36 = .ok (.aload_n 0, 1) := by decide +kernel
theorem dX1_fire_37 : decode cX1_fire 37 = .ok (.getfield 18, 3) := by decide +kernel
theorem dX1_fire_40 : decode cX1_fire 40 = .ok (.iload 4, 2) := by decide +kernel
theorem dX1_fire_42 : decode cX1_fire 42 = .ok (.iaload, 1) := by decide +kernel
theorem dX1_fire_43 : decode cX1_fire 43 = .ok (.iastore, 1) := by decide +kernel
theorem dX1_fire_44 : decode cX1_fire 44 = .ok (.goto 32, 3) := by decide +kernel
theorem dX1_fire_47 : decode cX1_fire 47 = .ok (.aload_n 0, 1) := by decide +kernel
theorem dX1_fire_48 : decode cX1_fire 48 = .ok (.iload_n 3, 1) := by decide +kernel
theorem dX1_fire_49 : decode cX1_fire 49 = .ok (.aload_n 0, 1) := by decide +kernel
theorem dX1_fire_50 : decode cX1_fire 50 = .ok (.getfield 9, 3) := by decide +kernel
theorem dX1_fire_53 : decode cX1_fire 53 = .ok (.iload 4, 2) := by decide +kernel
theorem dX1_fire_55 : decode cX1_fire 55 = .ok (.iaload, 1) := by decide +kernel
theorem dX1_fire_56 : decode cX1_fire 56 = .ok (.aload_n 0, 1) := by decide +kernel
theorem dX1_fire_57 : decode cX1_fire 57 = .ok (.getfield 15, 3) := by decide +kernel
theorem dX1_fire_60 : decode cX1_fire 60 = .ok (.iload 4, 2) := by decide +kernel
theorem dX1_fire_62 : decode cX1_fire 62 = .ok (.iaload, 1) := by decide +kernel
theorem dX1_fire_63 : decode cX1_fire 63 = .ok (.aload_n 0, 1) := by decide +kernel
theorem dX1_fire_64 : decode cX1_fire 64 = .ok (.getfield 18, 3) := by decide +kernel
theorem dX1_fire_67 : decode cX1_fire 67 = .ok (.iload 4, 2) := by decide +kernel
theorem dX1_fire_69 : decode cX1_fire 69 = .ok (.iaload, 1) := by decide +kernel
theorem dX1_fire_70 : decode cX1_fire 70 = .ok (.invokevirtual 25, 3) := by decide +kernel
theorem dX1_fire_73 : decode cX1_fire 73 = .ok (.iinc 3 1, 3) := by decide +kernel
theorem dX1_fire_76 : decode cX1_fire 76 = .ok (.iinc 4 1, 3) := by decide +kernel
theorem dX1_fire_79 : decode cX1_fire 79 = .ok (.goto (-74), 3) := by decide +kernel
theorem dX1_fire_82 : decode cX1_fire 82 = .ok (.aload_n 0, 1) := by decide +kernel
theorem dX1_fire_83 : decode cX1_fire 83 = .ok (.iload_n 3, 1) := by decide +kernel
theorem dX1_fire_84 : decode cX1_fire 84 = .ok (.putfield 21, 3) := by decide +kernel
theorem dX1_fire_87 : decode cX1_fire 87 = .ok (.return_, 1) := by decide +kernel
theorem dX2_init_0 : decode cX2_init 0 = .ok (.aload_n 0, 1) := by decide +kernel
theorem dX2_init_1 : decode cX2_init 1 = .ok (.invokespecial 3, 3) := by decide +kernel
theorem dX2_init_4 : decode cX2_init 4 = .ok (.aload_n 0, 1) := by decide +kernel
theorem dX2_init_5 : decode cX2_init 5 = .ok (.bipush 10, 2) := by decide +kernel
theorem dX2_init_7 : decode cX2_init 7 = .ok (.newarray .int, 2) := by decide +kernel
theorem dX2_init_9 : decode cX2_init 9 = .ok (.putfield 9, 3) := by decide +kernel
theorem dX2_init_12 : decode cX2_init 12 = .ok (.aload_n 0, 1) := by decide +kernel
theorem dX2_init_13 : decode cX2_init 13 = .ok (.bipush 10, 2) := by decide +kernel
theorem dX2_init_15 : decode cX2_init 15 = .ok (.newarray .int, 2) := by decide +kernel
theorem dX2_init_17 : decode cX2_init 17 = .ok (.putfield 15, 3) := by decide +kernel
theorem dX2_init_20 : decode cX2_init 20 = .ok (.aload_n 0, 1) := by decide +kernel
theorem dX2_init_21 : decode cX2_init 21 = .ok (.bipush 10, 2) := by decide +kernel
theorem dX2_init_23 : decode cX2_init 23 = .ok (.newarray .int, 2) := by decide +kernel
theorem dX2_init_25 : decode cX2_init 25 = .ok (.putfield 18, 3) := by decide +kernel
theorem dX2_init_28 : decode cX2_init 28 = .ok (.aload_n 0, 1) := by decide +kernel
theorem dX2_init_29 : decode cX2_init 29 = .ok (.bipush 10, 2) := by decide +kernel
theorem dX2_init_31 : decode cX2_init 31 = .ok (.newarray .int, 2) := by decide +kernel
theorem dX2_init_33 : decode cX2_init 33 = .ok (.putfield 21, 3) := by decide +kernel
theorem dX2_init_36 : decode cX2_init 36 = .ok (.aload_n 0, 1) := by decide +kernel
theorem dX2_init_37 : decode cX2_init 37 = .ok (.bipush 10, 2) := by decide +kernel
theorem dX2_init_39 : decode cX2_init 39 = .ok (.newarray .boolean, 2) := by decide +kernel
theorem dX2_init_41 : decode cX2_init 41 = .ok (.putfield 24, 3) := by decide +kernel
theorem dX2_init_44 : decode cX2_init 44 = .ok (.aload_n 0, 1) := by decide +kernel
theorem dX2_init_45 : decode cX2_init 45 = .ok (.bipush 10, 2) := by decide +kernel
theorem dX2_init_47 : decode cX2_init 47 = .ok (.newarray .boolean, 2) := by decide +kernel
theorem dX2_init_49 : decode cX2_init 49 = .ok (.putfield 28, 3) := by decide +kernel
theorem dX2_init_52 : decode cX2_init 52 = .ok (.return_, 1) := by decide +kernel
theorem dX2_copyFrom_0 : decode cX2_copyFrom 0 = .ok (.aload_n 0, 1) := by decide +kernel
theorem dX2_copyFrom_1 : decode cX2_copyFrom 1 = .ok (.aload_n 1, 1) := by decide +kernel
theorem dX2_copyFrom_2 : decode cX2_copyFrom 2 = .ok (.getfield 31, 3) := by decide +kernel
theorem dX2_copyFrom_5 : decode cX2_copyFrom 5 = .ok (.putfield 31, 3) := by decide +kernel
theorem dX2_copyFrom_8 : decode cX2_copyFrom 8 = .ok (.iconst 0, 1) := by decide +kernel
theorem dX2_copyFrom_9 : decode cX2_copyFrom 9 = .ok (.istore_n 2, 1) := by decide +kernel
theorem dX2_copyFrom_10 : decode cX2_copyFrom 10 = .ok (.iload_n 2, 1) := by decide +kernel
theorem dX2_copyFrom_11 : decode cX2_copyFrom 11 = .ok (.bipush 10, 2) := by decide +kernel
theorem dX2_copyFrom_13 : decode cX2_copyFrom 13 = .ok (.if_icmp .ge 81, 3) := by decide +kernel
theorem dX2_copyFrom_16 : decode cX2_copyFrom 16 = .ok (.aload_n 0, 1) := by decide +kernel
theorem dX2_copyFrom_17 : decode cX2_copyFrom 17 = .ok (.getfield 9, 3) := by decide +kernel
theorem dX2_copyFrom_20 : decode cX2_copyFrom 20 = .ok (.iload_n 2, 1) := by decide +kernel
theorem dX2_copyFrom_21 : decode cX2_copyFrom 21 = .ok (.aload_n 1, 1) := by decide +kernel
theorem dX2_copyFrom_22 : decode cX2_copyFrom 22 = .ok (.getfield 9, 3) := by decide +kernel
theorem dX2_copyFrom_25 : decode cX2_copyFrom 25 = .ok (.iload_n 2, 1) := by decide +kernel
theorem dX2_copyFrom_26 : decode cX2_copyFrom 26 = .ok (.iaload, 1) := by decide +kernel
theorem dX2_copyFrom_27 : decode cX2_copyFrom 27 = .ok (.iastore, 1) := by decide +kernel
theorem dX2_copyFrom_28 : decode cX2_copyFrom 28 = .ok (.aload_n 0, 1) := by decide +kernel
theorem dX2_copyFrom_29 : decode cX2_copyFrom 29 = .ok (.getfield 15, 3) := by decide +kernel
theorem dX2_copyFrom_32 : decode cX2_copyFrom 32 = .ok (.iload_n 2, 1) := by decide +kernel
theorem dX2_copyFrom_33 : decode cX2_copyFrom 33 = .ok (.aload_n 1, 1) := by decide +kernel
theorem dX2_copyFrom_34 : decode cX2_copyFrom 34 = .ok (.getfield 15, 3) := by decide +kernel
theorem dX2_copyFrom_37 : decode cX2_copyFrom 37 = .ok (.iload_n 2, 1) := by decide +kernel
theorem dX2_copyFrom_38 : decode cX2_copyFrom 38 = .ok (.iaload, 1) := by decide +kernel
theorem dX2_copyFrom_39 : decode cX2_copyFrom 39 = .ok (.iastore, 1) := by decide +kernel
theorem dX2_copyFrom_40 : decode cX2_copyFrom 40 = .ok (.aload_n 0, 1) := by decide +kernel
theorem dX2_copyFrom_41 : decode cX2_copyFrom 41 = .ok (.getfield 18, 3) := by decide +kernel
theorem dX2_copyFrom_44 : decode cX2_copyFrom 44 = .ok (.iload_n 2, 1) := by decide +kernel
theorem dX2_copyFrom_45 : decode cX2_copyFrom 45 = .ok (.aload_n 1, 1) := by decide +kernel
theorem dX2_copyFrom_46 : decode cX2_copyFrom 46 = .ok (.getfield 18, 3) := by decide +kernel
theorem dX2_copyFrom_49 : decode cX2_copyFrom 49 = .ok (.iload_n 2, 1) := by decide +kernel
theorem dX2_copyFrom_50 : decode cX2_copyFrom 50 = .ok (.iaload, 1) := by decide +kernel
theorem dX2_copyFrom_51 : decode cX2_copyFrom 51 = .ok (.iastore, 1) := by decide +kernel
theorem dX2_copyFrom_52 : decode cX2_copyFrom 52 = .ok (.aload_n 0, 1) := by decide +kernel
theorem dX2_copyFrom_53 : decode cX2_copyFrom 53 = .ok (.getfield 21, 3) := by decide +kernel
theorem dX2_copyFrom_56 : decode cX2_copyFrom 56 = .ok (.iload_n 2, 1) := by decide +kernel
theorem dX2_copyFrom_57 : decode cX2_copyFrom 57 = .ok (.aload_n 1, 1) := by decide +kernel
theorem dX2_copyFrom_58 : decode cX2_copyFrom 58 = .ok (.getfield 21, 3) := by decide +kernel
theorem dX2_copyFrom_61 : decode cX2_copyFrom 61 = .ok (.iload_n 2, 1) := by decide +kernel
theorem dX2_copyFrom_62 : decode cX2_copyFrom 62 = .ok (.iaload, 1) := by decide +kernel
theorem dX2_copyFrom_63 : decode cX2_copyFrom 63 = .ok (.iastore, 1) := by decide +kernel
theorem dX2_copyFrom_64 : decode cX2_copyFrom 64 = .ok (.aload_n 0, 1) := by decide +kernel
theorem dX2_copyFrom_65 : decode cX2_copyFrom 65 = .ok (.getfield 24, 3) := by decide +kernel
theorem dX2_copyFrom_68 : decode cX2_copyFrom 68 = .ok (.iload_n 2, 1) := by decide +kernel
theorem dX2_copyFrom_69 : decode cX2_copyFrom 69 = .ok (.aload_n 1, 1) := by decide +kernel
theorem dX2_copyFrom_70 : decode cX2_copyFrom 70 = .ok (.getfield 24, 3) := by decide +kernel
theorem dX2_copyFrom_73 : decode cX2_copyFrom 73 = .ok (.iload_n 2, 1) := by decide +kernel
theorem dX2_copyFrom_74 : decode cX2_copyFrom 74 = .ok (.baload, 1) := by decide +kernel
theorem dX2_copyFrom_75 : decode cX2_copyFrom 75 = .ok (.bastore, 1) := by decide +kernel
theorem dX2_copyFrom_76 : decode cX2_copyFrom 76 = .ok (.aload_n 0, 1) := by decide +kernel
theorem dX2_copyFrom_77 : decode cX2_copyFrom 77 = .ok (.getfield 28, 3) := by decide +kernel
theorem dX2_copyFrom_80 : decode cX2_copyFrom 80 = .ok (.iload_n 2, 1) := by decide +kernel
theorem dX2_copyFrom_81 : decode cX2_copyFrom 81 = .ok (.aload_n 1, 1) := by decide +kernel
theorem dX2_copyFrom_82 : decode cX2_copyFrom 82 = .ok (.getfield 28, 3) := by decide +kernel
theorem dX2_copyFrom_85 : decode cX2_copyFrom 85 = .ok (.iload_n 2, 1) := by decide +kernel
theorem dX2_copyFrom_86 : decode cX2_copyFrom 86 = .ok (.baload, 1) := by decide +kernel
theorem dX2_copyFrom_87 : decode cX2_copyFrom 87 = .ok (.bastore, 1) := by decide +kernel
theorem dX2_copyFrom_88 : decode cX2_copyFrom 88 = .ok (.iinc 2 1, 3) := by decide +kernel
theorem dX2_copyFrom_91 : decode cX2_copyFrom 91 = .ok (.goto (-81), 3) := by decide +kernel
theorem dX2_copyFrom_94 : decode cX2_copyFrom 94 = .ok (.return_, 1) := by decide +kernel
theorem dX2_has_0 : decode cX2_has 0 = .ok (.iload_n 1, 1) := by decide +kernel
theorem dX2_has_1 : decode cX2_has 1 = .ok (.ifCond .lt 15, 3) := by decide +kernel
theorem dX2_has_4 : decode cX2_has 4 = .ok (.iload_n 1, 1) := by decide +kernel
theorem dX2_has_5 : decode cX2_has 5 = .ok (.aload_n 0, 1) := by decide +kernel
theorem dX2_has_6 : decode cX2_has 6 = .ok (.getfield 31, 3) := by decide +kernel
theorem dX2_has_9 : decode cX2_has 9 = .ok (.if_icmp .ge 7, 3) := by decide +kernel
theorem dX2_has_12 : decode cX2_has 12 = .ok (.iconst 1, 1) := by decide +kernel
theorem dX2_has_13 : decode cX2_has 13 = .ok (.goto 4, 3) := by decide +kernel
theorem dX2_has_16 : decode cX2_has 16 = .ok (.iconst 0, 1) := by decide +kernel
theorem dX2_has_17 : decode cX2_has 17 = .ok (.ireturn, 1) := by decide +kernel
theorem dX2_occupant_0 : decode cX2_occupant 0 = .ok (.iconst 0, 1) := by decide +kernel
theorem dX2_occupant_1 : decode cX2_occupant 1 = .ok (.istore_n 2, 1) := by decide +kernel
theorem dX2_occupant_2 : decode cX2_occupant 2 = .ok (.iload_n 2, 1) := by decide +kernel
theorem dX2_occupant_3 : decode cX2_occupant 3 = .ok (.aload_n 0, 1) := by decide +kernel
theorem dX2_occupant_4 : decode cX2_occupant 4 = .ok (.getfield 31, 3) := by decide +kernel
theorem dX2_occupant_7 : decode cX2_occupant 7 = .ok (.if_icmp .ge 21, 3) := by decide +kernel
theorem dX2_occupant_10 : decode cX2_occupant 10 = .ok (.aload_n 0, 1) := by decide +kernel
theorem dX2_occupant_11 : decode cX2_occupant 11 = .ok (.getfield 9, 3) := by decide +kernel
theorem dX2_occupant_14 : decode cX2_occupant 14 = .ok (.iload_n 2, 1) := by decide +kernel
theorem dX2_occupant_15 : decode cX2_occupant 15 = .ok (.iaload, 1) := by decide +kernel
theorem dX2_occupant_16 : decode cX2_occupant 16 = .ok (.iload_n 1, 1) := by decide +kernel
theorem dX2_occupant_17 : decode cX2_occupant 17 = .ok (.if_icmp .ne 5, 3) := by decide +kernel
theorem dX2_occupant_20 : decode cX2_occupant 20 = .ok (.iload_n 2, 1) := by decide +kernel
theorem dX2_occupant_21 : decode cX2_occupant 21 = .ok (.ireturn, 1) := by decide +kernel
theorem dX2_occupant_22 : decode cX2_occupant 22 = .ok (.iinc 2 1, 3) := by decide +kernel
theorem dX2_occupant_25 : decode cX2_occupant 25 = .ok (.goto (-23), 3) := by decide +kernel
theorem dX2_occupant_28 : decode cX2_occupant 28 = .ok (.iconst (-1), 1) := by decide +kernel
theorem dX2_occupant_29 : decode cX2_occupant 29 = .ok (.ireturn, 1) := by decide +kernel
theorem dX2_ground_0 : decode cX2_ground 0 = .ok (.aload_n 0, 1) := by decide +kernel
theorem dX2_ground_1 : decode cX2_ground 1 = .ok (.getfield 24, 3) := by decide +kernel
theorem dX2_ground_4 : decode cX2_ground 4 = .ok (.iload_n 1, 1) := by decide +kernel
theorem dX2_ground_5 : decode cX2_ground 5 = .ok (.iconst 0, 1) := by decide +kernel
theorem dX2_ground_6 : decode cX2_ground 6 = .ok (.bastore, 1) := by decide +kernel
theorem dX2_ground_7 : decode cX2_ground 7 = .ok (.aload_n 0, 1) := by decide +kernel
theorem dX2_ground_8 : decode cX2_ground 8 = .ok (.getfield 28, 3) := by decide +kernel
theorem dX2_ground_11 : decode cX2_ground 11 = .ok (.iload_n 1, 1) := by decide +kernel
theorem dX2_ground_12 : decode cX2_ground 12 = .ok (.iconst 0, 1) := by decide +kernel
theorem dX2_ground_13 : decode cX2_ground 13 = .ok (.bastore, 1) := by decide +kernel
theorem dX2_ground_14 : decode cX2_ground 14 = .ok (.aload_n 0, 1) := by decide +kernel
theorem dX2_ground_15 : decode cX2_ground 15 = .ok (.getfield 18, 3) := by decide +kernel
theorem dX2_ground_18 : decode cX2_ground 18 = .ok (.iload_n 1, 1) := by decide +kernel
theorem dX2_ground_19 : decode cX2_ground 19 = .ok (.iconst (-1), 1) := by decide +kernel
theorem dX2_ground_20 : decode cX2_ground 20 = .ok (.iastore, 1) := by decide +kernel
theorem dX2_ground_21 : decode cX2_ground 21 = .ok (.return_, 1) := by decide +kernel
theorem dX2_flyingCount_0 : decode cX2_flyingCount 0 = .ok (.iconst 0, 1) := by decide +kernel
theorem dX2_flyingCount_1 : decode cX2_flyingCount 1 = .ok (.istore_n 1, 1) := by decide +kernel
theorem dX2_flyingCount_2 : decode cX2_flyingCount 2 = .ok (.iconst 0, 1) := by decide +kernel
theorem dX2_flyingCount_3 : decode cX2_flyingCount 3 = .ok (.istore_n 2, 1) := by decide +kernel
theorem dX2_flyingCount_4 : decode cX2_flyingCount 4 = .ok (.iload_n 2, 1) := by decide +kernel
theorem dX2_flyingCount_5 : decode cX2_flyingCount 5 = .ok (.aload_n 0, 1) := by decide +kernel
theorem dX2_flyingCount_6 : decode cX2_flyingCount 6 = .ok (.getfield 31, 3) := by decide +kernel
theorem dX2_flyingCount_9 : decode cX2_flyingCount 9 = .ok (.if_icmp .ge 21, 3) := by decide +kernel
theorem dX2_flyingCount_12 : decode cX2_flyingCount 12 = .ok (.aload_n 0, 1) := by decide +kernel
theorem dX2_flyingCount_13 : decode cX2_flyingCount 13 = .ok (.getfield 24, 3) := by decide +kernel
theorem dX2_flyingCount_16 : decode cX2_flyingCount 16 = .ok (.iload_n 2, 1) := by decide +kernel
theorem dX2_flyingCount_17 : decode cX2_flyingCount 17 = .ok (.baload, 1) := by decide +kernel
theorem dX2_flyingCount_18 : decode cX2_flyingCount 18 = .ok (.ifCond .eq 6, 3) := by decide +kernel
theorem dX2_flyingCount_21 : decode cX2_flyingCount 21 = .ok (.iinc 1 1, 3) := by decide +kernel
theorem dX2_flyingCount_24 : decode cX2_flyingCount 24 = .ok (.iinc 2 1, 3) := by decide +kernel
theorem dX2_flyingCount_27 : decode cX2_flyingCount 27 = .ok (.goto (-23), 3) := by decide +kernel
theorem dX2_flyingCount_30 : decode cX2_flyingCount 30 = .ok (.iload_n 1, 1) := by decide +kernel
theorem dX2_flyingCount_31 : decode cX2_flyingCount 31 = .ok (.ireturn, 1) := by decide +kernel
theorem dX2_allCells_0 : decode cX2_allCells 0 = .ok (.lconst 0, 1) := by decide +kernel
theorem dX2_allCells_1 : decode cX2_allCells 1 = .ok (.lstore_n 1, 1) := by decide +kernel
theorem dX2_allCells_2 : decode cX2_allCells 2 = .ok (.iconst 0, 1) := by decide +kernel
theorem dX2_allCells_3 : decode cX2_allCells 3 = .ok (.istore_n 3, 1) := by decide +kernel
theorem dX2_allCells_4 : decode cX2_allCells 4 = .ok (.iload_n 3, 1) := by decide +kernel
theorem dX2_allCells_5 : decode cX2_allCells 5 = .ok (.aload_n 0, 1) := by decide +kernel
theorem dX2_allCells_6 : decode cX2_allCells 6 = .ok (.getfield 31, 3) := by decide +kernel
theorem dX2_allCells_9 : decode cX2_allCells 9 = .ok (.if_icmp .ge 20, 3) := by decide +kernel
theorem dX2_allCells_12 : decode cX2_allCells 12 = .ok (.lload_n 1, 1) := by decide +kernel
theorem dX2_allCells_13 : decode cX2_allCells 13 = .ok (.lconst 1, 1) := by decide +kernel
theorem dX2_allCells_14 : decode cX2_allCells 14 = .ok (.aload_n 0, 1) := by decide +kernel
theorem dX2_allCells_15 : decode cX2_allCells 15 = .ok (.getfield 9, 3) := by decide +kernel
theorem dX2_allCells_18 : decode cX2_allCells 18 = .ok (.iload_n 3, 1) := by decide +kernel
theorem dX2_allCells_19 : decode cX2_allCells 19 = .ok (.iaload, 1) := by decide +kernel
theorem dX2_allCells_20 : decode cX2_allCells 20 = .ok (.lshl, 1) := by decide +kernel
theorem dX2_allCells_21 : decode cX2_allCells 21 = .ok (.lor, 1) := by decide +kernel
theorem dX2_allCells_22 : decode cX2_allCells 22 = .ok (.lstore_n 1, 1) := by decide +kernel
theorem dX2_allCells_23 : decode cX2_allCells 23 = .ok (.iinc 3 1, 3) := by decide +kernel
theorem dX2_allCells_26 : decode cX2_allCells 26 = .ok (.goto (-22), 3) := by decide +kernel
theorem dX2_allCells_29 : decode cX2_allCells 29 = .ok (.lload_n 1, 1) := by decide +kernel
theorem dX2_allCells_30 : decode cX2_allCells 30 = .ok (.lreturn, 1) := by decide +kernel
theorem dX2_flyingCells_0 : decode cX2_flyingCells 0 = .ok (.lconst 0, 1) := by decide +kernel
theorem dX2_flyingCells_1 : decode cX2_flyingCells 1 = .ok (.lstore_n 1, 1) := by decide +kernel
theorem dX2_flyingCells_2 : decode cX2_flyingCells 2 = .ok (.iconst 0, 1) := by decide +kernel
theorem dX2_flyingCells_3 : decode cX2_flyingCells 3 = .ok (.istore_n 3, 1) := by decide +kernel
theorem dX2_flyingCells_4 : decode cX2_flyingCells 4 = .ok (.iload_n 3, 1) := by decide +kernel
theorem dX2_flyingCells_5 : decode cX2_flyingCells 5 = .ok (.aload_n 0, 1) := by decide +kernel
theorem dX2_flyingCells_6 : decode cX2_flyingCells 6 = .ok (.getfield 31, 3) := by decide +kernel
theorem dX2_flyingCells_9 : decode cX2_flyingCells 9 = .ok (.if_icmp .ge 29, 3) := by decide +kernel
theorem dX2_flyingCells_12 : decode cX2_flyingCells 12 = .ok (.aload_n 0, 1) := by decide +kernel
theorem dX2_flyingCells_13 : decode cX2_flyingCells 13 = .ok (.getfield 24, 3) := by decide +kernel
theorem dX2_flyingCells_16 : decode cX2_flyingCells 16 = .ok (.iload_n 3, 1) := by decide +kernel
theorem dX2_flyingCells_17 : decode cX2_flyingCells 17 = .ok (.baload, 1) := by decide +kernel
theorem dX2_flyingCells_18 : decode cX2_flyingCells 18 = .ok (.ifCond .eq 14, 3) := by decide +kernel
theorem dX2_flyingCells_21 : decode cX2_flyingCells 21 = .ok (.lload_n 1, 1) := by decide +kernel
theorem dX2_flyingCells_22 : decode cX2_flyingCells 22 = .ok (.lconst 1, 1) := by decide +kernel
theorem dX2_flyingCells_23 : decode cX2_flyingCells 23 = .ok (.aload_n 0, 1) := by decide +kernel
theorem dX2_flyingCells_24 : decode cX2_flyingCells 24 = .ok (.getfield 9, 3) := by decide +kernel
theorem dX2_flyingCells_27 : decode cX2_flyingCells 27 = .ok (.iload_n 3, 1) := by decide +kernel
theorem dX2_flyingCells_28 : decode cX2_flyingCells 28 = .ok (.iaload, 1) := by decide +kernel
theorem dX2_flyingCells_29 : decode cX2_flyingCells 29 = .ok (.lshl, 1) := by decide +kernel
theorem dX2_flyingCells_30 : decode cX2_flyingCells 30 = .ok (.lor, 1) := by decide +kernel
theorem dX2_flyingCells_31 : decode cX2_flyingCells 31 = .ok (.lstore_n 1, 1) := by decide +kernel
theorem dX2_flyingCells_32 : decode cX2_flyingCells 32 = .ok (.iinc 3 1, 3) := by decide +kernel
theorem dX2_flyingCells_35 : decode cX2_flyingCells 35 = .ok (.goto (-31), 3) := by decide +kernel
theorem dX2_flyingCells_38 : decode cX2_flyingCells 38 = .ok (.lload_n 1, 1) := by decide +kernel
theorem dX2_flyingCells_39 : decode cX2_flyingCells 39 = .ok (.lreturn, 1) := by decide +kernel
theorem dX2_wish_0 : decode cX2_wish 0 = .ok (.aload_n 0, 1) := by decide +kernel
theorem dX2_wish_1 : decode cX2_wish 1 = .ok (.getfield 24, 3) := by decide +kernel
theorem dX2_wish_4 : decode cX2_wish 4 = .ok (.iload_n 1, 1) := by decide +kernel
theorem dX2_wish_5 : decode cX2_wish 5 = .ok (.baload, 1) := by decide +kernel
theorem dX2_wish_6 : decode cX2_wish 6 = .ok (.ifCond .eq 13, 3) := by decide +kernel
theorem dX2_wish_9 : decode cX2_wish 9 = .ok (.aload_n 0, 1) := by decide +kernel
theorem dX2_wish_10 : decode cX2_wish 10 = .ok (.getfield 18, 3) := by decide +kernel
theorem dX2_wish_13 : decode cX2_wish 13 = .ok (.iload_n 1, 1) := by decide +kernel
theorem dX2_wish_14 : decode cX2_wish 14 = .ok (.iaload, 1) := by decide +kernel
theorem dX2_wish_15 : decode cX2_wish 15 = .ok (.iconst (-1), 1) := by decide +kernel
theorem dX2_wish_16 : decode cX2_wish 16 = .ok (.if_icmp .ne 5, 3) := by decide +kernel
theorem dX2_wish_19 : decode cX2_wish 19 = .ok (.iconst (-1), 1) := by decide +kernel
theorem dX2_wish_20 : decode cX2_wish 20 = .ok (.ireturn, 1) := by decide +kernel
theorem dX2_wish_21 : decode cX2_wish 21 = .ok (.aload_n 0, 1) := by decide +kernel
theorem dX2_wish_22 : decode cX2_wish 22 = .ok (.getfield 9, 3) := by decide +kernel
theorem dX2_wish_25 : decode cX2_wish 25 = .ok (.iload_n 1, 1) := by decide +kernel
theorem dX2_wish_26 : decode cX2_wish 26 = .ok (.iaload, 1) := by decide +kernel
theorem dX2_wish_27 : decode cX2_wish 27 = .ok (.aload_n 0, 1) := by decide +kernel
theorem dX2_wish_28 : decode cX2_wish 28 = .ok (.getfield 18, 3) := by decide +kernel
theorem dX2_wish_31 : decode cX2_wish 31 = .ok (.iload_n 1, 1) := by decide +kernel
theorem dX2_wish_32 : decode cX2_wish 32 = .ok (.iaload, 1) := by decide +kernel
theorem dX2_wish_33 : decode cX2_wish 33 = .ok (.invokestatic 35, 3) := by decide +kernel
theorem dX2_wish_36 : decode cX2_wish 36 = .ok (.istore_n 2, 1) := by decide +kernel
theorem dX2_wish_37 : decode cX2_wish 37 = .ok (.iload_n 2, 1) := by decide +kernel
theorem dX2_wish_38 : decode cX2_wish 38 = .ok (.iconst (-1), 1) := by decide +kernel
theorem dX2_wish_39 : decode cX2_wish 39 = .ok (.if_icmp .eq 7, 3) := by decide +kernel
theorem dX2_wish_42 : decode cX2_wish 42 = .ok (.iload_n 2, 1) := by decide +kernel
theorem dX2_wish_43 : decode cX2_wish 43 = .ok (.goto 18, 3) := by decide +kernel
theorem dX2_wish_46 : decode cX2_wish 46 = .ok (.aload_n 0, 1) := by decide +kernel
theorem dX2_wish_47 : decode cX2_wish 47 = .ok (.getfield 9, 3) := by decide +kernel
theorem dX2_wish_50 : decode cX2_wish 50 = .ok (.iload_n 1, 1) := by decide +kernel
theorem dX2_wish_51 : decode cX2_wish 51 = .ok (.iaload, 1) := by decide +kernel
theorem dX2_wish_52 : decode cX2_wish 52 = .ok (.aload_n 0, 1) := by decide +kernel
theorem dX2_wish_53 : decode cX2_wish 53 = .ok (.getfield 18, 3) := by decide +kernel
theorem dX2_wish_56 : decode cX2_wish 56 = .ok (.iload_n 1, 1) := by decide +kernel
theorem dX2_wish_57 : decode cX2_wish 57 = .ok (.iaload, 1) := by decide +kernel
theorem dX2_wish_58 : decode cX2_wish 58 = .ok (.invokestatic 39, 3) := by decide +kernel
theorem dX2_wish_61 : decode cX2_wish 61 = .ok (.ireturn, 1) := by decide +kernel
theorem dX2_freeStep_0 : decode cX2_freeStep 0 = .ok (.aload_n 0, 1) := by decide +kernel
theorem dX2_freeStep_1 : decode cX2_freeStep 1 = .ok (.getfield 9, 3) := by decide +kernel
theorem dX2_freeStep_4 : decode cX2_freeStep 4 = .ok (.iload_n 1, 1) := by decide +kernel
theorem dX2_freeStep_5 : decode cX2_freeStep 5 = .ok (.iaload, 1) := by decide +kernel
theorem dX2_freeStep_6 : decode cX2_freeStep 6 = .ok (.aload_n 0, 1) := by decide +kernel
theorem dX2_freeStep_7 : decode cX2_freeStep 7 = .ok (.getfield 18, 3) := by decide +kernel
theorem dX2_freeStep_10 : decode cX2_freeStep 10 = .ok (.iload_n 1, 1) := by decide +kernel
theorem dX2_freeStep_11 : decode cX2_freeStep 11 = .ok (.iaload, 1) := by decide +kernel
theorem dX2_freeStep_12 : decode cX2_freeStep 12 = .ok (.invokestatic 35, 3) := by decide +kernel
theorem dX2_freeStep_15 : decode cX2_freeStep 15 = .ok (.istore_n 2, 1) := by decide +kernel
theorem dX2_freeStep_16 : decode cX2_freeStep 16 = .ok (.iload_n 2, 1) := by decide +kernel
theorem dX2_freeStep_17 : decode cX2_freeStep 17 = .ok (.iconst (-1), 1) := by decide +kernel
theorem dX2_freeStep_18 : decode cX2_freeStep 18 = .ok (.if_icmp .eq 14, 3) := by decide +kernel
theorem dX2_freeStep_21 : decode cX2_freeStep 21 = .ok (.aload_n 0, 1) := by decide +kernel
theorem dX2_freeStep_22 : decode cX2_freeStep 22 = .ok (.iload_n 2, 1) := by decide +kernel
theorem dX2_freeStep_23 : decode cX2_freeStep 23 = .ok (.invokevirtual 42, 3) := by decide +kernel
theorem dX2_freeStep_26 : decode cX2_freeStep 26 = .ok (.iconst (-1), 1) := by decide +kernel
theorem dX2_freeStep_27 : decode cX2_freeStep 27 = .ok (.if_icmp .ne 5, 3) := by decide +kernel
theorem dX2_freeStep_30 : decode cX2_freeStep 30 = .ok (.iload_n 2, 1) := by decide +kernel
theorem dX2_freeStep_31 : decode cX2_freeStep 31 = .ok (.ireturn, 1) := by decide +kernel
theorem dX2_freeStep_32 : decode cX2_freeStep 32 = .ok (.aload_n 0, 1) := by decide +kernel
theorem dX2_freeStep_33 : decode cX2_freeStep 33 = .ok (.getfield 9, 3) := by decide +kernel
theorem dX2_freeStep_36 : decode cX2_freeStep 36 = .ok (.iload_n 1, 1) := by decide +kernel
theorem dX2_freeStep_37 : decode cX2_freeStep 37 = .ok (.iaload, 1) := by decide +kernel
theorem dX2_freeStep_38 : decode cX2_freeStep 38 = .ok (.aload_n 0, 1) := by decide +kernel
theorem dX2_freeStep_39 : decode cX2_freeStep 39 = .ok (.getfield 18, 3) := by decide +kernel
theorem dX2_freeStep_42 : decode cX2_freeStep 42 = .ok (.iload_n 1, 1) := by decide +kernel
theorem dX2_freeStep_43 : decode cX2_freeStep 43 = .ok (.iaload, 1) := by decide +kernel
theorem dX2_freeStep_44 : decode cX2_freeStep 44 = .ok (.invokestatic 39, 3) := by decide +kernel
theorem dX2_freeStep_47 : decode cX2_freeStep 47 = .ok (.istore_n 3, 1) := by decide +kernel
theorem dX2_freeStep_48 : decode cX2_freeStep 48 = .ok (.iload_n 3, 1) := by decide +kernel
theorem dX2_freeStep_49 : decode cX2_freeStep 49 = .ok (.iconst (-1), 1) := by decide +kernel
theorem dX2_freeStep_50 : decode cX2_freeStep 50 = .ok (.if_icmp .eq 16, 3) := by decide +kernel
theorem dX2_freeStep_53 : decode cX2_freeStep 53 = .ok (.aload_n 0, 1) := by decide +kernel
theorem dX2_freeStep_54 : decode cX2_freeStep 54 = .ok (.iload_n 3, 1) := by decide +kernel
theorem dX2_freeStep_55 : decode cX2_freeStep 55 = .ok (.invokevirtual 42, 3) := by decide +kernel
theorem dX2_freeStep_58 : decode cX2_freeStep 58 = .ok (.iconst (-1), 1) := by decide +kernel
theorem dX2_freeStep_59 : decode cX2_freeStep 59 = .ok (.if_icmp .ne 7, 3) := by decide +kernel
theorem dX2_freeStep_62 : decode cX2_freeStep 62 = .ok (.iload_n 3, 1) := by decide +kernel
theorem dX2_freeStep_63 : decode cX2_freeStep 63 = .ok (.goto 4, 3) := by decide +kernel
theorem dX2_freeStep_66 : decode cX2_freeStep 66 = .ok (.iconst (-1), 1) := by decide +kernel
theorem dX2_freeStep_67 : decode cX2_freeStep 67 = .ok (.ireturn, 1) := by decide +kernel
theorem dX2_conflictingPairs_0 : decode cX2_conflictingPairs 0 = .ok (.iconst 0, 1) := by decide +kernel
theorem dX2_conflictingPairs_1 : decode cX2_conflictingPairs 1 = .ok (.istore_n 1, 1) := by decide +kernel
theorem dX2_conflictingPairs_2 : decode cX2_conflictingPairs 2 = .ok (.iconst 0, 1) := by decide +kernel
theorem dX2_conflictingPairs_3 : decode cX2_conflictingPairs 3 = .ok (.istore_n 2, 1) := by decide +kernel
theorem dX2_conflictingPairs_4 : decode cX2_conflictingPairs 4 = .ok (.iload_n 2, 1) := by decide +kernel
theorem dX2_conflictingPairs_5 : decode cX2_conflictingPairs 5 = .ok (.aload_n 0, 1) := by decide +kernel
theorem dX2_conflictingPairs_6 : decode cX2_conflictingPairs 6 = .ok (.getfield 31, 3) := by decide +kernel
theorem dX2_conflictingPairs_9 : decode cX2_conflictingPairs 9 = .ok (.if_icmp .ge 53, 3) := by decide +kernel
theorem dX2_conflictingPairs_12 : decode cX2_conflictingPairs 12 = .ok (.aload_n 0, 1) := by decide +kernel
theorem dX2_conflictingPairs_13 : decode cX2_conflictingPairs 13 = .ok (.iload_n 2, 1) := by decide +kernel
theorem dX2_conflictingPairs_14 : decode cX2_conflictingPairs 14 = .ok (.invokevirtual 46, 3) := by decide +kernel
theorem dX2_conflictingPairs_17 : decode cX2_conflictingPairs 17 = .ok (.istore_n 3, 1) := by decide +kernel
theorem dX2_conflictingPairs_18 : decode cX2_conflictingPairs 18 = .ok (.iload_n 2, 1) := by decide +kernel
theorem dX2_conflictingPairs_19 : decode cX2_conflictingPairs 19 = .ok (.iconst 1, 1) := by decide +kernel
theorem dX2_conflictingPairs_20 : decode cX2_conflictingPairs 20 = .ok (.iadd, 1) := by decide +kernel
theorem dX2_conflictingPairs_21 : decode cX2_conflictingPairs 21 = .ok (.istore 4, 2) := by decide +kernel
theorem dX2_conflictingPairs_23 : decode cX2_conflictingPairs 23 = .ok (.iload 4, 2) := by decide +kernel
theorem dX2_conflictingPairs_25 : decode cX2_conflictingPairs 25 = .ok (.aload_n 0, 1) := by decide +kernel
theorem dX2_conflictingPairs_26 : decode cX2_conflictingPairs 26 = .ok (.getfield 31, 3) := by decide +kernel
theorem dX2_conflictingPairs_29 : decode cX2_conflictingPairs 29 = .ok (.if_icmp .ge 27, 3) := by decide +kernel
theorem dX2_conflictingPairs_32 : decode cX2_conflictingPairs 32 = .ok (.iload_n 3, 1) := by decide +kernel
theorem dX2_conflictingPairs_33 : decode cX2_conflictingPairs 33 = .ok (.iconst (-1), 1) := by decide +kernel
theorem dX2_conflictingPairs_34 : decode cX2_conflictingPairs 34 = .ok (.if_icmp .eq 16, 3) := by decide +kernel
theorem dX2_conflictingPairs_37 : decode cX2_conflictingPairs 37 = .ok (.iload_n 3, 1) := by decide +kernel
theorem dX2_conflictingPairs_38 : decode cX2_conflictingPairs 38 = .ok (.aload_n 0, 1) := by decide +kernel
theorem dX2_conflictingPairs_39 : decode cX2_conflictingPairs 39 = .ok (.iload 4, 2) := by decide +kernel
theorem dX2_conflictingPairs_41 : decode cX2_conflictingPairs 41 = .ok (.invokevirtual 46, 3) := by decide +kernel
theorem dX2_conflictingPairs_44 : decode cX2_conflictingPairs 44 = .ok (.if_icmp .ne 6, 3) := by decide +kernel
theorem dX2_conflictingPairs_47 : decode cX2_conflictingPairs 47 = .ok (.iinc 1 1, 3) := by decide +kernel
theorem dX2_conflictingPairs_50 : decode cX2_conflictingPairs 50 = .ok (.iinc 4 1, 3) := by decide +kernel
theorem dX2_conflictingPairs_53 : decode cX2_conflictingPairs 53 = .ok (.goto (-30), 3) := by decide +kernel
theorem dX2_conflictingPairs_56 : decode cX2_conflictingPairs 56 = .ok (.iinc 2 1, 3) := by decide +kernel
theorem dX2_conflictingPairs_59 : decode cX2_conflictingPairs 59 = .ok (.goto (-55), 3) := by decide +kernel
theorem dX2_conflictingPairs_62 : decode cX2_conflictingPairs 62 = .ok (.iload_n 1, 1) := by decide +kernel
theorem dX2_conflictingPairs_63 : decode cX2_conflictingPairs 63 = .ok (.ireturn, 1) := by decide +kernel
theorem dX2_ranked_0 : decode cX2_ranked 0 = .ok (.iconst 0, 1) := by decide +kernel
theorem dX2_ranked_1 : decode cX2_ranked 1 = .ok (.istore_n 2, 1) := by decide +kernel
theorem dX2_ranked_2 : decode cX2_ranked 2 = .ok (.iload_n 2, 1) := by decide +kernel
theorem dX2_ranked_3 : decode cX2_ranked 3 = .ok (.aload_n 0, 1) := by decide +kernel
theorem dX2_ranked_4 : decode cX2_ranked 4 = .ok (.getfield 31, 3) := by decide +kernel
theorem dX2_ranked_7 : decode cX2_ranked 7 = .ok (.if_icmp .ge 20, 3) := by decide +kernel
theorem dX2_ranked_10 : decode cX2_ranked 10 = .ok (.aload_n 0, 1) := by decide +kernel
theorem dX2_ranked_11 : decode cX2_ranked 11 = .ok (.iload_n 2, 1) := by decide +kernel
theorem dX2_ranked_12 : decode cX2_ranked 12 = .ok (.invokevirtual 49, 3) := by decide +kernel
theorem dX2_ranked_15 : decode cX2_ranked 15 = .ok (.iload_n 1, 1) := by decide +kernel
theorem dX2_ranked_16 : decode cX2_ranked 16 = .ok (.if_icmp .ne 5, 3) := by decide +kernel
theorem dX2_ranked_19 : decode cX2_ranked 19 = .ok (.iload_n 2, 1) := by decide +kernel
theorem dX2_ranked_20 : decode cX2_ranked 20 = .ok (.ireturn, 1) := by decide +kernel
theorem dX2_ranked_21 : decode cX2_ranked 21 = .ok (.iinc 2 1, 3) := by decide +kernel
theorem dX2_ranked_24 : decode cX2_ranked 24 = .ok (.goto (-22), 3) := by decide +kernel
theorem dX2_ranked_27 : decode cX2_ranked 27 = .ok (.iconst (-1), 1) := by decide +kernel
theorem dX2_ranked_28 : decode cX2_ranked 28 = .ok (.ireturn, 1) := by decide +kernel
theorem dX2_rankOf_0 : decode cX2_rankOf 0 = .ok (.iconst 0, 1) := by decide +kernel
theorem dX2_rankOf_1 : decode cX2_rankOf 1 = .ok (.istore_n 2, 1) := by decide +kernel
theorem dX2_rankOf_2 : decode cX2_rankOf 2 = .ok (.iconst 0, 1) := by decide +kernel
theorem dX2_rankOf_3 : decode cX2_rankOf 3 = .ok (.istore_n 3, 1) := by decide +kernel
theorem dX2_rankOf_4 : decode cX2_rankOf 4 = .ok (.iload_n 3, 1) := by decide +kernel
theorem dX2_rankOf_5 : decode cX2_rankOf 5 = .ok (.aload_n 0, 1) := by decide +kernel
theorem dX2_rankOf_6 : decode cX2_rankOf 6 = .ok (.getfield 31, 3) := by decide +kernel
theorem dX2_rankOf_9 : decode cX2_rankOf 9 = .ok (.if_icmp .ge 21, 3) := by decide +kernel
theorem dX2_rankOf_12 : decode cX2_rankOf 12 = .ok (.aload_n 0, 1) := by decide +kernel
theorem dX2_rankOf_13 : decode cX2_rankOf 13 = .ok (.iload_n 3, 1) := by decide +kernel
theorem dX2_rankOf_14 : decode cX2_rankOf 14 = .ok (.iload_n 1, 1) := by decide +kernel
theorem dX2_rankOf_15 : decode cX2_rankOf 15 = .ok (.invokevirtual 52, 3) := by decide +kernel
theorem dX2_rankOf_18 : decode cX2_rankOf 18 = .ok (.ifCond .eq 6, 3) := by decide +kernel
theorem dX2_rankOf_21 : decode cX2_rankOf 21 = .ok (.iinc 2 1, 3) := by decide +kernel
theorem dX2_rankOf_24 : decode cX2_rankOf 24 = .ok (.iinc 3 1, 3) := by decide +kernel
theorem dX2_rankOf_27 : decode cX2_rankOf 27 = .ok (.goto (-23), 3) := by decide +kernel
theorem dX2_rankOf_30 : decode cX2_rankOf 30 = .ok (.iload_n 2, 1) := by decide +kernel
theorem dX2_rankOf_31 : decode cX2_rankOf 31 = .ok (.ireturn, 1) := by decide +kernel
theorem dX2_precedes_0 : decode cX2_precedes 0 = .ok (.aload_n 0, 1) := by decide +kernel
theorem dX2_precedes_1 : decode cX2_precedes 1 = .ok (.getfield 15, 3) := by decide +kernel
theorem dX2_precedes_4 : decode cX2_precedes 4 = .ok (.iload_n 1, 1) := by decide +kernel
theorem dX2_precedes_5 : decode cX2_precedes 5 = .ok (.iaload, 1) := by decide +kernel
theorem dX2_precedes_6 : decode cX2_precedes 6 = .ok (.aload_n 0, 1) := by decide +kernel
theorem dX2_precedes_7 : decode cX2_precedes 7 = .ok (.getfield 15, 3) := by decide +kernel
theorem dX2_precedes_10 : decode cX2_precedes 10 = .ok (.iload_n 2, 1) := by decide +kernel
theorem dX2_precedes_11 : decode cX2_precedes 11 = .ok (.iaload, 1) := by decide +kernel
theorem dX2_precedes_12 : decode cX2_precedes 12 = .ok (.if_icmp .eq 24, 3) := by decide +kernel
theorem dX2_precedes_15 : decode cX2_precedes 15 = .ok (.aload_n 0, 1) := by decide +kernel
theorem dX2_precedes_16 : decode cX2_precedes 16 = .ok (.getfield 15, 3) := by decide +kernel
theorem dX2_precedes_19 : decode cX2_precedes 19 = .ok (.iload_n 1, 1) := by decide +kernel
theorem dX2_precedes_20 : decode cX2_precedes 20 = .ok (.iaload, 1) := by decide +kernel
theorem dX2_precedes_21 : decode cX2_precedes 21 = .ok (.aload_n 0, 1) := by decide +kernel
theorem dX2_precedes_22 : decode cX2_precedes 22 = .ok (.getfield 15, 3) := by decide +kernel
theorem dX2_precedes_25 : decode cX2_precedes 25 = .ok (.iload_n 2, 1) := by decide +kernel
theorem dX2_precedes_26 : decode cX2_precedes 26 = .ok (.iaload, 1) := by decide +kernel
theorem dX2_precedes_27 : decode cX2_precedes 27 = .ok (.if_icmp .ge 7, 3) := by decide +kernel
theorem dX2_precedes_30 : decode cX2_precedes 30 = .ok (.iconst 1, 1) := by decide +kernel
theorem dX2_precedes_31 : decode cX2_precedes 31 = .ok (.goto 4, 3) := by decide +kernel
theorem dX2_precedes_34 : decode cX2_precedes 34 = .ok (.iconst 0, 1) := by decide +kernel
theorem dX2_precedes_35 : decode cX2_precedes 35 = .ok (.ireturn, 1) := by decide +kernel
theorem dX2_precedes_36 : decode cX2_precedes 36 = .ok (.aload_n 0, 1) := by decide +kernel
theorem dX2_precedes_37 : decode cX2_precedes 37 = .ok (.getfield 24, 3) := by decide +kernel
theorem dX2_precedes_40 : decode cX2_precedes 40 = .ok (.iload_n 1, 1) := by decide +kernel
theorem dX2_precedes_41 : decode cX2_precedes 41 = .ok (.baload, 1) := by decide +kernel
theorem dX2_precedes_42 : decode cX2_precedes 42 = .ok (.aload_n 0, 1) := by decide +kernel
theorem dX2_precedes_43 : decode cX2_precedes 43 = .ok (.getfield 24, 3) := by decide +kernel
theorem dX2_precedes_46 : decode cX2_precedes 46 = .ok (.iload_n 2, 1) := by decide +kernel
theorem dX2_precedes_47 : decode cX2_precedes 47 = .ok (.baload, 1) := by decide +kernel
theorem dX2_precedes_48 : decode cX2_precedes 48 = .ok (.if_icmp .eq 10, 3) := by decide +kernel
theorem dX2_precedes_51 : decode cX2_precedes 51 = .ok (.aload_n 0, 1) := by decide +kernel
theorem dX2_precedes_52 : decode cX2_precedes 52 = .ok (.getfield 24, 3) := by decide +kernel
theorem dX2_precedes_55 : decode cX2_precedes 55 = .ok (.iload_n 1, 1) := by decide +kernel
theorem dX2_precedes_56 : decode cX2_precedes 56 = .ok (.baload, 1) := by decide +kernel
theorem dX2_precedes_57 : decode cX2_precedes 57 = .ok (.ireturn, 1) := by decide +kernel
theorem dX2_precedes_58 : decode cX2_precedes 58 = .ok (.iload_n 1, 1) := by decide +kernel
theorem dX2_precedes_59 : decode cX2_precedes 59 = .ok (.iload_n 2, 1) := by decide +kernel
theorem dX2_precedes_60 : decode cX2_precedes 60 = .ok (.if_icmp .ge 7, 3) := by decide +kernel
theorem dX2_precedes_63 : decode cX2_precedes 63 = .ok (.iconst 1, 1) := by decide +kernel
theorem dX2_precedes_64 : decode cX2_precedes 64 = .ok (.goto 4, 3) := by decide +kernel
theorem dX2_precedes_67 : decode cX2_precedes 67 = .ok (.iconst 0, 1) := by decide +kernel
theorem dX2_precedes_68 : decode cX2_precedes 68 = .ok (.ireturn, 1) := by decide +kernel
theorem dX2_isAssignable_0 : decode cX2_isAssignable 0 = .ok (.aload_n 0, 1) := by decide +kernel
theorem dX2_isAssignable_1 : decode cX2_isAssignable 1 = .ok (.getfield 24, 3) := by decide +kernel
theorem dX2_isAssignable_4 : decode cX2_isAssignable 4 = .ok (.iload_n 1, 1) := by decide +kernel
theorem dX2_isAssignable_5 : decode cX2_isAssignable 5 = .ok (.baload, 1) := by decide +kernel
theorem dX2_isAssignable_6 : decode cX2_isAssignable 6 = .ok (.ifCond .eq 16, 3) := by decide +kernel
theorem dX2_isAssignable_9 : decode cX2_isAssignable 9 = .ok (.aload_n 0, 1) := by decide +kernel
theorem dX2_isAssignable_10 : decode cX2_isAssignable 10 = .ok (.getfield 28, 3) := by decide +kernel
theorem dX2_isAssignable_13 : decode cX2_isAssignable 13 = .ok (.iload_n 1, 1) := by decide +kernel
theorem dX2_isAssignable_14 : decode cX2_isAssignable 14 = .ok (.baload, 1) := by decide +kernel
theorem dX2_isAssignable_15 : decode cX2_isAssignable 15 = .ok (.ifCond .ne 7, 3) := by decide +kernel
theorem dX2_isAssignable_18 : decode cX2_isAssignable 18 = .ok (.iconst 1, 1) := by decide +kernel
theorem dX2_isAssignable_19 : decode cX2_isAssignable 19 = .ok (.goto 4, 3) := by decide +kernel
theorem dX2_isAssignable_22 : decode cX2_isAssignable 22 = .ok (.iconst 0, 1) := by decide +kernel
theorem dX2_isAssignable_23 : decode cX2_isAssignable 23 = .ok (.ireturn, 1) := by decide +kernel
theorem dX2_dropTargets_0 : decode cX2_dropTargets 0 = .ok (.iconst 0, 1) := by decide +kernel
theorem dX2_dropTargets_1 : decode cX2_dropTargets 1 = .ok (.istore_n 1, 1) := by decide +kernel
theorem dX2_dropTargets_2 : decode cX2_dropTargets 2 = .ok (.iload_n 1, 1) := by decide +kernel
theorem dX2_dropTargets_3 : decode cX2_dropTargets 3 = .ok (.aload_n 0, 1) := by decide +kernel
theorem dX2_dropTargets_4 : decode cX2_dropTargets 4 = .ok (.getfield 31, 3) := by decide +kernel
theorem dX2_dropTargets_7 : decode cX2_dropTargets 7 = .ok (.if_icmp .ge 24, 3) := by decide +kernel
theorem dX2_dropTargets_10 : decode cX2_dropTargets 10 = .ok (.aload_n 0, 1) := by decide +kernel
theorem dX2_dropTargets_11 : decode cX2_dropTargets 11 = .ok (.iload_n 1, 1) := by decide +kernel
theorem dX2_dropTargets_12 : decode cX2_dropTargets 12 = .ok (.invokevirtual 56, 3) := by decide +kernel
theorem dX2_dropTargets_15 : decode cX2_dropTargets 15 = .ok (.ifCond .eq 10, 3) := by decide +kernel
theorem dX2_dropTargets_18 : decode cX2_dropTargets 18 = .ok (.aload_n 0, 1) := by decide +kernel
theorem dX2_dropTargets_19 : decode cX2_dropTargets 19 = .ok (.getfield 18, 3) := by decide +kernel
theorem dX2_dropTargets_22 : decode cX2_dropTargets 22 = .ok (.iload_n 1, 1) := by decide +kernel
theorem dX2_dropTargets_23 : decode cX2_dropTargets 23 = .ok (.iconst (-1), 1) := by decide +kernel
theorem dX2_dropTargets_24 : decode cX2_dropTargets 24 = .ok (.iastore, 1) := by decide +kernel
theorem dX2_dropTargets_25 : decode cX2_dropTargets 25 = .ok (.iinc 1 1, 3) := by decide +kernel
theorem dX2_dropTargets_28 : decode cX2_dropTargets 28 = .ok (.goto (-26), 3) := by decide +kernel
theorem dX2_dropTargets_31 : decode cX2_dropTargets 31 = .ok (.return_, 1) := by decide +kernel
theorem dX2_nearestIdle_0 : decode cX2_nearestIdle 0 = .ok (.iconst (-1), 1) := by decide +kernel
theorem dX2_nearestIdle_1 : decode cX2_nearestIdle 1 = .ok (.istore_n 2, 1) := by decide +kernel
theorem dX2_nearestIdle_2 : decode cX2_nearestIdle 2 = .ok (.iconst 0, 1) := by decide +kernel
theorem dX2_nearestIdle_3 : decode cX2_nearestIdle 3 = .ok (.istore_n 3, 1) := by decide +kernel
theorem dX2_nearestIdle_4 : decode cX2_nearestIdle 4 = .ok (.iload_n 3, 1) := by decide +kernel
theorem dX2_nearestIdle_5 : decode cX2_nearestIdle 5 = .ok (.aload_n 0, 1) := by decide +kernel
theorem dX2_nearestIdle_6 : decode cX2_nearestIdle 6 = .ok (.getfield 31, 3) := by decide +kernel
theorem dX2_nearestIdle_9 : decode cX2_nearestIdle 9 = .ok (.if_icmp .ge 57, 3) := by decide +kernel
theorem dX2_nearestIdle_12 : decode cX2_nearestIdle 12 = .ok (.aload_n 0, 1) := by decide +kernel
theorem dX2_nearestIdle_13 : decode cX2_nearestIdle 13 = .ok (.iload_n 3, 1) := by decide +kernel
theorem dX2_nearestIdle_14 : decode cX2_nearestIdle 14 = .ok (.invokevirtual 56, 3) := by decide +kernel
theorem dX2_nearestIdle_17 : decode cX2_nearestIdle 17 = .ok (.ifCond .eq 43, 3) := by decide +kernel
theorem dX2_nearestIdle_20 : decode cX2_nearestIdle 20 = .ok (.aload_n 0, 1) := by decide +kernel
theorem dX2_nearestIdle_21 : decode cX2_nearestIdle 21 = .ok (.getfield 18, 3) := by decide +kernel
theorem dX2_nearestIdle_24 : decode cX2_nearestIdle 24 = .ok (.iload_n 3, 1) := by decide +kernel
theorem dX2_nearestIdle_25 : decode cX2_nearestIdle 25 = .ok (.iaload, 1) := by decide +kernel
theorem dX2_nearestIdle_26 : decode cX2_nearestIdle 26 = .ok (.iconst (-1), 1) := by decide +kernel
theorem dX2_nearestIdle_27 : decode cX2_nearestIdle 27 = .ok (.if_icmp .ne 33, 3) := by decide +kernel
theorem dX2_nearestIdle_30 : decode cX2_nearestIdle 30 = .ok (.iload_n 2, 1) := by decide +kernel
theorem dX2_nearestIdle_31 : decode cX2_nearestIdle 31 = .ok (.iconst (-1), 1) := by decide +kernel
theorem dX2_nearestIdle_32 : decode cX2_nearestIdle 32 = .ok (.if_icmp .eq 26, 3) := by decide +kernel
theorem dX2_nearestIdle_35 : decode cX2_nearestIdle 35 = .ok (.aload_n 0, 1) := by decide +kernel
theorem dX2_nearestIdle_36 : decode cX2_nearestIdle 36 = .ok (.getfield 9, 3) := by decide +kernel
theorem dX2_nearestIdle_39 : decode cX2_nearestIdle 39 = .ok (.iload_n 3, 1) := by decide +kernel
theorem dX2_nearestIdle_40 : decode cX2_nearestIdle 40 = .ok (.iaload, 1) := by decide +kernel
theorem dX2_nearestIdle_41 : decode cX2_nearestIdle 41 = .ok (.iload_n 1, 1) := by decide +kernel
theorem dX2_nearestIdle_42 : decode cX2_nearestIdle 42 = .ok (.invokestatic 60, 3) := by decide +kernel
theorem dX2_nearestIdle_45 : decode cX2_nearestIdle 45 = .ok (.aload_n 0, 1) := by decide +kernel
theorem dX2_nearestIdle_46 : decode cX2_nearestIdle 46 = .ok (.getfield 9, 3) := by decide +kernel
theorem dX2_nearestIdle_49 : decode cX2_nearestIdle 49 = .ok (.iload_n 2, 1) := by decide +kernel
theorem dX2_nearestIdle_50 : decode cX2_nearestIdle 50 = .ok (.iaload, 1) := by decide +kernel
theorem dX2_nearestIdle_51 : decode cX2_nearestIdle 51 = .ok (.iload_n 1, 1) := by decide +kernel
theorem dX2_nearestIdle_52 : decode cX2_nearestIdle 52 = .ok (.invokestatic 60, 3) := by decide +kernel
theorem dX2_nearestIdle_55 : decode cX2_nearestIdle 55 = .ok (.if_icmp .ge 5, 3) := by decide +kernel
theorem dX2_nearestIdle_58 : decode cX2_nearestIdle 58 = .ok (.iload_n 3, 1) := by decide +kernel
theorem dX2_nearestIdle_59 : decode cX2_nearestIdle 59 = .ok (.istore_n 2, 1) := by decide +kernel
theorem dX2_nearestIdle_60 : decode cX2_nearestIdle 60 = .ok (.iinc 3 1, 3) := by decide +kernel
theorem dX2_nearestIdle_63 : decode cX2_nearestIdle 63 = .ok (.goto (-59), 3) := by decide +kernel
theorem dX2_nearestIdle_66 : decode cX2_nearestIdle 66 = .ok (.iload_n 2, 1) := by decide +kernel
theorem dX2_nearestIdle_67 : decode cX2_nearestIdle 67 = .ok (.ireturn, 1) := by decide +kernel
theorem dX2_batterySum_0 : decode cX2_batterySum 0 = .ok (.iconst 0, 1) := by decide +kernel
theorem dX2_batterySum_1 : decode cX2_batterySum 1 = .ok (.istore_n 1, 1) := by decide +kernel
theorem dX2_batterySum_2 : decode cX2_batterySum 2 = .ok (.iconst 0, 1) := by decide +kernel
theorem dX2_batterySum_3 : decode cX2_batterySum 3 = .ok (.istore_n 2, 1) := by decide +kernel
theorem dX2_batterySum_4 : decode cX2_batterySum 4 = .ok (.iload_n 2, 1) := by decide +kernel
theorem dX2_batterySum_5 : decode cX2_batterySum 5 = .ok (.aload_n 0, 1) := by decide +kernel
theorem dX2_batterySum_6 : decode cX2_batterySum 6 = .ok (.getfield 31, 3) := by decide +kernel
theorem dX2_batterySum_9 : decode cX2_batterySum 9 = .ok (.if_icmp .ge 18, 3) := by decide +kernel
theorem dX2_batterySum_12 : decode cX2_batterySum 12 = .ok (.iload_n 1, 1) := by decide +kernel
theorem dX2_batterySum_13 : decode cX2_batterySum 13 = .ok (.aload_n 0, 1) := by decide +kernel
theorem dX2_batterySum_14 : decode cX2_batterySum 14 = .ok (.getfield 15, 3) := by decide +kernel
theorem dX2_batterySum_17 : decode cX2_batterySum 17 = .ok (.iload_n 2, 1) := by decide +kernel
theorem dX2_batterySum_18 : decode cX2_batterySum 18 = .ok (.iaload, 1) := by decide +kernel
theorem dX2_batterySum_19 : decode cX2_batterySum 19 = .ok (.iadd, 1) := by decide +kernel
theorem dX2_batterySum_20 : decode cX2_batterySum 20 = .ok (.istore_n 1, 1) := by decide +kernel
theorem dX2_batterySum_21 : decode cX2_batterySum 21 = .ok (.iinc 2 1, 3) := by decide +kernel
theorem dX2_batterySum_24 : decode cX2_batterySum 24 = .ok (.goto (-20), 3) := by decide +kernel
theorem dX2_batterySum_27 : decode cX2_batterySum 27 = .ok (.iload_n 1, 1) := by decide +kernel
theorem dX2_batterySum_28 : decode cX2_batterySum 28 = .ok (.ireturn, 1) := by decide +kernel
theorem dX2_targetCount_0 : decode cX2_targetCount 0 = .ok (.iconst 0, 1) := by decide +kernel
theorem dX2_targetCount_1 : decode cX2_targetCount 1 = .ok (.istore_n 1, 1) := by decide +kernel
theorem dX2_targetCount_2 : decode cX2_targetCount 2 = .ok (.iconst 0, 1) := by decide +kernel
theorem dX2_targetCount_3 : decode cX2_targetCount 3 = .ok (.istore_n 2, 1) := by decide +kernel
theorem dX2_targetCount_4 : decode cX2_targetCount 4 = .ok (.iload_n 2, 1) := by decide +kernel
theorem dX2_targetCount_5 : decode cX2_targetCount 5 = .ok (.aload_n 0, 1) := by decide +kernel
theorem dX2_targetCount_6 : decode cX2_targetCount 6 = .ok (.getfield 31, 3) := by decide +kernel
theorem dX2_targetCount_9 : decode cX2_targetCount 9 = .ok (.if_icmp .ge 22, 3) := by decide +kernel
theorem dX2_targetCount_12 : decode cX2_targetCount 12 = .ok (.aload_n 0, 1) := by decide +kernel
theorem dX2_targetCount_13 : decode cX2_targetCount 13 = .ok (.getfield 18, 3) := by decide +kernel
theorem dX2_targetCount_16 : decode cX2_targetCount 16 = .ok (.iload_n 2, 1) := by decide +kernel
theorem dX2_targetCount_17 : decode cX2_targetCount 17 = .ok (.iaload, 1) := by decide +kernel
theorem dX2_targetCount_18 : decode cX2_targetCount 18 = .ok (.iconst (-1), 1) := by decide +kernel
theorem dX2_targetCount_19 : decode cX2_targetCount 19 = .ok (.if_icmp .eq 6, 3) := by decide +kernel
theorem dX2_targetCount_22 : decode cX2_targetCount 22 = .ok (.iinc 1 1, 3) := by decide +kernel
theorem dX2_targetCount_25 : decode cX2_targetCount 25 = .ok (.iinc 2 1, 3) := by decide +kernel
theorem dX2_targetCount_28 : decode cX2_targetCount 28 = .ok (.goto (-24), 3) := by decide +kernel
theorem dX2_targetCount_31 : decode cX2_targetCount 31 = .ok (.iload_n 1, 1) := by decide +kernel
theorem dX2_targetCount_32 : decode cX2_targetCount 32 = .ok (.ireturn, 1) := by decide +kernel
theorem dX2_targetDistanceSum_0 : decode cX2_targetDistanceSum 0 = .ok (.iconst 0, 1) := by decide +kernel
theorem dX2_targetDistanceSum_1 : decode cX2_targetDistanceSum 1 = .ok (.istore_n 1, 1) := by decide +kernel
theorem dX2_targetDistanceSum_2 : decode cX2_targetDistanceSum 2 = .ok (.iconst 0, 1) := by decide +kernel
theorem dX2_targetDistanceSum_3 : decode cX2_targetDistanceSum 3 = .ok (.istore_n 2, 1) := by decide +kernel
theorem dX2_targetDistanceSum_4 : decode cX2_targetDistanceSum 4 = .ok (.iload_n 2, 1) := by decide +kernel
theorem dX2_targetDistanceSum_5 : decode cX2_targetDistanceSum 5 = .ok (.aload_n 0, 1) := by decide +kernel
theorem dX2_targetDistanceSum_6 : decode cX2_targetDistanceSum 6 = .ok (.getfield 31, 3) := by decide +kernel
theorem dX2_targetDistanceSum_9 : decode cX2_targetDistanceSum 9 = .ok (.if_icmp .ge 37, 3) := by decide +kernel
theorem dX2_targetDistanceSum_12 : decode cX2_targetDistanceSum 12 = .ok (.aload_n 0, 1) := by decide +kernel
theorem dX2_targetDistanceSum_13 : decode cX2_targetDistanceSum 13 = .ok (.getfield 18, 3) := by decide +kernel
theorem dX2_targetDistanceSum_16 : decode cX2_targetDistanceSum 16 = .ok (.iload_n 2, 1) := by decide +kernel
theorem dX2_targetDistanceSum_17 : decode cX2_targetDistanceSum 17 = .ok (.iaload, 1) := by decide +kernel
theorem dX2_targetDistanceSum_18 : decode cX2_targetDistanceSum 18 = .ok (.iconst (-1), 1) := by decide +kernel
theorem dX2_targetDistanceSum_19 : decode cX2_targetDistanceSum 19 = .ok (.if_icmp .eq 21, 3) := by decide +kernel
theorem dX2_targetDistanceSum_22 : decode cX2_targetDistanceSum 22 = .ok (.iload_n 1, 1) := by decide +kernel
theorem dX2_targetDistanceSum_23 : decode cX2_targetDistanceSum 23 = .ok (.aload_n 0, 1) := by decide +kernel
theorem dX2_targetDistanceSum_24 : decode cX2_targetDistanceSum 24 = .ok (.getfield 9, 3) := by decide +kernel
theorem dX2_targetDistanceSum_27 : decode cX2_targetDistanceSum 27 = .ok (.iload_n 2, 1) := by decide +kernel
theorem dX2_targetDistanceSum_28 : decode cX2_targetDistanceSum 28 = .ok (.iaload, 1) := by decide +kernel
theorem dX2_targetDistanceSum_29 : decode cX2_targetDistanceSum 29 = .ok (.aload_n 0, 1) := by decide +kernel
theorem dX2_targetDistanceSum_30 : decode cX2_targetDistanceSum 30 = .ok (.getfield 18, 3) := by decide +kernel
theorem dX2_targetDistanceSum_33 : decode cX2_targetDistanceSum 33 = .ok (.iload_n 2, 1) := by decide +kernel
theorem dX2_targetDistanceSum_34 : decode cX2_targetDistanceSum 34 = .ok (.iaload, 1) := by decide +kernel
theorem dX2_targetDistanceSum_35 : decode cX2_targetDistanceSum 35 = .ok (.invokestatic 60, 3) := by decide +kernel
theorem dX2_targetDistanceSum_38 : decode cX2_targetDistanceSum 38 = .ok (.iadd, 1) := by decide +kernel
theorem dX2_targetDistanceSum_39 : decode cX2_targetDistanceSum 39 = .ok (.istore_n 1, 1) := by decide +kernel
theorem dX2_targetDistanceSum_40 : decode cX2_targetDistanceSum 40 = .ok (.iinc 2 1, 3) := by decide +kernel
theorem dX2_targetDistanceSum_43 : decode cX2_targetDistanceSum 43 = .ok (.goto (-39), 3) := by decide +kernel
theorem dX2_targetDistanceSum_46 : decode cX2_targetDistanceSum 46 = .ok (.iload_n 1, 1) := by decide +kernel
theorem dX2_targetDistanceSum_47 : decode cX2_targetDistanceSum 47 = .ok (.ireturn, 1) := by decide +kernel
theorem dX3_init_0 : decode cX3_init 0 = .ok (.aload_n 0, 1) := by decide +kernel
theorem dX3_init_1 : decode cX3_init 1 = .ok (.invokespecial 3, 3) := by decide +kernel
theorem dX3_init_4 : decode cX3_init 4 = .ok (.aload_n 0, 1) := by decide +kernel
theorem dX3_init_5 : decode cX3_init 5 = .ok (.bipush 8, 2) := by decide +kernel
theorem dX3_init_7 : decode cX3_init 7 = .ok (.anewarray 9, 3) := by decide +kernel
theorem dX3_init_10 : decode cX3_init 10 = .ok (.putfield 11, 3) := by decide +kernel
theorem dX3_init_13 : decode cX3_init 13 = .ok (.iconst 0, 1) := by decide +kernel
theorem dX3_init_14 : decode cX3_init 14 = .ok (.istore_n 1, 1) := by decide +kernel
theorem dX3_init_15 : decode cX3_init 15 = .ok (.iload_n 1, 1) := by decide +kernel
theorem dX3_init_16 : decode cX3_init 16 = .ok (.bipush 8, 2) := by decide +kernel
theorem dX3_init_18 : decode cX3_init 18 = .ok (.if_icmp .ge 22, 3) := by decide +kernel
theorem dX3_init_21 : decode cX3_init 21 = .ok (.aload_n 0, 1) := by decide +kernel
theorem dX3_init_22 : decode cX3_init 22 = .ok (.getfield 11, 3) := by decide +kernel
theorem dX3_init_25 : decode cX3_init 25 = .ok (.iload_n 1, 1) := by decide +kernel
theorem dX3_init_26 : decode cX3_init 26 = .ok (.new 9, 3) := by decide +kernel
theorem dX3_init_29 : decode cX3_init 29 = .ok (.dup, 1) := by decide +kernel
theorem dX3_init_30 : decode cX3_init 30 = .ok (.invokespecial 17, 3) := by decide +kernel
theorem dX3_init_33 : decode cX3_init 33 = .ok (.aastore, 1) := by decide +kernel
theorem dX3_init_34 : decode cX3_init 34 = .ok (.iinc 1 1, 3) := by decide +kernel
theorem dX3_init_37 : decode cX3_init 37 = .ok (.goto (-22), 3) := by decide +kernel
theorem dX3_init_40 : decode cX3_init 40 = .ok (.return_, 1) := by decide +kernel
theorem dX3_keep_0 : decode cX3_keep 0 = .ok (.aload_n 0, 1) := by decide +kernel
theorem dX3_keep_1 : decode cX3_keep 1 = .ok (.getfield 18, 3) := by decide +kernel
theorem dX3_keep_4 : decode cX3_keep 4 = .ok (.bipush 8, 2) := by decide +kernel
theorem dX3_keep_6 : decode cX3_keep 6 = .ok (.if_icmp .ne 26, 3) := by decide +kernel
theorem dX3_keep_9 : decode cX3_keep 9 = .ok (.aload_n 0, 1) := by decide +kernel
theorem dX3_keep_10 : decode cX3_keep 10 = .ok (.aload_n 0, 1) := by decide +kernel
theorem dX3_keep_11 : decode cX3_keep 11 = .ok (.getfield 22, 3) := by decide +kernel
theorem dX3_keep_14 : decode cX3_keep 14 = .ok (.iconst 1, 1) := by decide +kernel
theorem dX3_keep_15 : decode cX3_keep 15 = .ok (.iadd, 1) := by decide +kernel
theorem dX3_keep_16 : decode cX3_keep 16 = .ok (.bipush 8, 2) := by decide +kernel
theorem dX3_keep_18 : decode cX3_keep 18 = .ok (.irem, 1) := by decide +kernel
theorem dX3_keep_19 : decode cX3_keep 19 = .ok (.putfield 22, 3) := by decide +kernel
theorem dX3_keep_22 : decode cX3_keep 22 = .ok (.aload_n 0, 1) := by decide +kernel
theorem dX3_keep_23 : decode cX3_keep 23 = .ok (.dup, 1) := by decide +kernel
theorem dX3_keep_24 : decode cX3_keep 24 = .ok (.getfield 18, 3) := by decide +kernel
theorem dX3_keep_27 : decode cX3_keep 27 = .ok (.iconst 1, 1) := by decide +kernel
theorem dX3_keep_28 : decode cX3_keep 28 = .ok (.isub, 1) := by decide +kernel
theorem dX3_keep_29 : decode cX3_keep 29 = .ok (.putfield 18, 3) := by decide +kernel
theorem dX3_keep_32 : decode cX3_keep 32 = .ok (.aload_n 0, 1) := by decide +kernel
theorem dX3_keep_33 : decode cX3_keep 33 = .ok (.getfield 11, 3) := by decide +kernel
theorem dX3_keep_36 : decode cX3_keep 36 = .ok (.aload_n 0, 1) := by decide +kernel
theorem dX3_keep_37 : decode cX3_keep 37 = .ok (.getfield 22, 3) := by decide +kernel
theorem dX3_keep_40 : decode cX3_keep 40 = .ok (.aload_n 0, 1) := by decide +kernel
theorem dX3_keep_41 : decode cX3_keep 41 = .ok (.getfield 18, 3) := by decide +kernel
theorem dX3_keep_44 : decode cX3_keep 44 = .ok (.iadd, 1) := by decide +kernel
theorem dX3_keep_45 : decode cX3_keep 45 = .ok (.bipush 8, 2) := by decide +kernel
theorem dX3_keep_47 : decode cX3_keep 47 = .ok (.irem, 1) := by decide +kernel
theorem dX3_keep_48 : decode cX3_keep 48 = .ok (.aaload, 1) := by decide +kernel
theorem dX3_keep_49 : decode cX3_keep 49 = .ok (.aload_n 1, 1) := by decide +kernel
theorem dX3_keep_50 : decode cX3_keep 50 = .ok (.invokevirtual 25, 3) := by decide +kernel
theorem dX3_keep_53 : decode cX3_keep 53 = .ok (.aload_n 0, 1) := by decide +kernel
theorem dX3_keep_54 : decode cX3_keep 54 = .ok (.dup, 1) := by decide +kernel
theorem dX3_keep_55 : decode cX3_keep 55 = .ok (.getfield 18, 3) := by decide +kernel
theorem dX3_keep_58 : decode cX3_keep 58 = .ok (.iconst 1, 1) := by decide +kernel
theorem dX3_keep_59 : decode cX3_keep 59 = .ok (.iadd, 1) := by decide +kernel
theorem dX3_keep_60 : decode cX3_keep 60 = .ok (.putfield 18, 3) := by decide +kernel
theorem dX3_keep_63 : decode cX3_keep 63 = .ok (.return_, 1) := by decide +kernel
theorem dX3_takeBack_0 : decode cX3_takeBack 0 = .ok (.aload_n 0, 1) := by decide +kernel
theorem dX3_takeBack_1 : decode cX3_takeBack 1 = .ok (.dup, 1) := by decide +kernel
theorem dX3_takeBack_2 : decode cX3_takeBack 2 = .ok (.getfield 18, 3) := by decide +kernel
theorem dX3_takeBack_5 : decode cX3_takeBack 5 = .ok (.iconst 1, 1) := by decide +kernel
theorem dX3_takeBack_6 : decode cX3_takeBack 6 = .ok (.isub, 1) := by decide +kernel
theorem dX3_takeBack_7 : decode cX3_takeBack 7 = .ok (.putfield 18, 3) := by decide +kernel
theorem dX3_takeBack_10 : decode cX3_takeBack 10 = .ok (.aload_n 1, 1) := by decide +kernel
theorem dX3_takeBack_11 : decode cX3_takeBack 11 = .ok (.aload_n 0, 1) := by decide +kernel
theorem dX3_takeBack_12 : decode cX3_takeBack 12 = .ok (.getfield 11, 3) := by decide +kernel
theorem dX3_takeBack_15 : decode cX3_takeBack 15 = .ok (.aload_n 0, 1) := by decide +kernel
theorem dX3_takeBack_16 : decode cX3_takeBack 16 = .ok (.getfield 22, 3) := by decide +kernel
theorem dX3_takeBack_19 : decode cX3_takeBack 19 = .ok (.aload_n 0, 1) := by decide +kernel
theorem dX3_takeBack_20 : decode cX3_takeBack 20 = .ok (.getfield 18, 3) := by decide +kernel
theorem dX3_takeBack_23 : decode cX3_takeBack 23 = .ok (.iadd, 1) := by decide +kernel
theorem dX3_takeBack_24 : decode cX3_takeBack 24 = .ok (.bipush 8, 2) := by decide +kernel
theorem dX3_takeBack_26 : decode cX3_takeBack 26 = .ok (.irem, 1) := by decide +kernel
theorem dX3_takeBack_27 : decode cX3_takeBack 27 = .ok (.aaload, 1) := by decide +kernel
theorem dX3_takeBack_28 : decode cX3_takeBack 28 = .ok (.invokevirtual 25, 3) := by decide +kernel
theorem dX3_takeBack_31 : decode cX3_takeBack 31 = .ok (.return_, 1) := by decide +kernel
theorem dX4_init_0 : decode cX4_init 0 = .ok (.aload_n 0, 1) := by decide +kernel
theorem dX4_init_1 : decode cX4_init 1 = .ok (.invokespecial 3, 3) := by decide +kernel
theorem dX4_init_4 : decode cX4_init 4 = .ok (.aload_n 0, 1) := by decide +kernel
theorem dX4_init_5 : decode cX4_init 5 = .ok (.new 9, 3) := by decide +kernel
theorem dX4_init_8 : decode cX4_init 8 = .ok (.dup, 1) := by decide +kernel
theorem dX4_init_9 : decode cX4_init 9 = .ok (.invokespecial 11, 3) := by decide +kernel
theorem dX4_init_12 : decode cX4_init 12 = .ok (.putfield 12, 3) := by decide +kernel
theorem dX4_init_15 : decode cX4_init 15 = .ok (.aload_n 0, 1) := by decide +kernel
theorem dX4_init_16 : decode cX4_init 16 = .ok (.new 18, 3) := by decide +kernel
theorem dX4_init_19 : decode cX4_init 19 = .ok (.dup, 1) := by decide +kernel
theorem dX4_init_20 : decode cX4_init 20 = .ok (.invokespecial 20, 3) := by decide +kernel
theorem dX4_init_23 : decode cX4_init 23 = .ok (.putfield 21, 3) := by decide +kernel
theorem dX4_init_26 : decode cX4_init 26 = .ok (.aload_n 0, 1) := by decide +kernel
theorem dX4_init_27 : decode cX4_init 27 = .ok (.iconst 4, 1) := by decide +kernel
theorem dX4_init_28 : decode cX4_init 28 = .ok (.newarray .long, 2) := by decide +kernel
theorem dX4_init_30 : decode cX4_init 30 = .ok (.putfield 25, 3) := by decide +kernel
theorem dX4_init_33 : decode cX4_init 33 = .ok (.aload_n 0, 1) := by decide +kernel
theorem dX4_init_34 : decode cX4_init 34 = .ok (.bipush 10, 2) := by decide +kernel
theorem dX4_init_36 : decode cX4_init 36 = .ok (.putfield 29, 3) := by decide +kernel
theorem dX4_init_39 : decode cX4_init 39 = .ok (.return_, 1) := by decide +kernel
theorem dX4_copyFrom_0 : decode cX4_copyFrom 0 = .ok (.aload_n 0, 1) := by decide +kernel
theorem dX4_copyFrom_1 : decode cX4_copyFrom 1 = .ok (.getfield 12, 3) := by decide +kernel
theorem dX4_copyFrom_4 : decode cX4_copyFrom 4 = .ok (.aload_n 1, 1) := by decide +kernel
theorem dX4_copyFrom_5 : decode cX4_copyFrom 5 = .ok (.getfield 12, 3) := by decide +kernel
theorem dX4_copyFrom_8 : decode cX4_copyFrom 8 = .ok (.invokevirtual 33, 3) := by decide +kernel
theorem dX4_copyFrom_11 : decode cX4_copyFrom 11 = .ok (.aload_n 0, 1) := by decide +kernel
theorem dX4_copyFrom_12 : decode cX4_copyFrom 12 = .ok (.getfield 21, 3) := by decide +kernel
theorem dX4_copyFrom_15 : decode cX4_copyFrom 15 = .ok (.aload_n 1, 1) := by decide +kernel
theorem dX4_copyFrom_16 : decode cX4_copyFrom 16 = .ok (.getfield 21, 3) := by decide +kernel
theorem dX4_copyFrom_19 : decode cX4_copyFrom 19 = .ok (.invokevirtual 37, 3) := by decide +kernel
theorem dX4_copyFrom_22 : decode cX4_copyFrom 22 = .ok (.iconst 0, 1) := by decide +kernel
theorem dX4_copyFrom_23 : decode cX4_copyFrom 23 = .ok (.istore_n 2, 1) := by decide +kernel
theorem dX4_copyFrom_24 : decode cX4_copyFrom 24 = .ok (.iload_n 2, 1) := by decide +kernel
theorem dX4_copyFrom_25 : decode cX4_copyFrom 25 = .ok (.iconst 4, 1) := by decide +kernel
theorem dX4_copyFrom_26 : decode cX4_copyFrom 26 = .ok (.if_icmp .ge 21, 3) := by decide +kernel
theorem dX4_copyFrom_29 : decode cX4_copyFrom 29 = .ok (.aload_n 0, 1) := by decide +kernel
theorem dX4_copyFrom_30 : decode cX4_copyFrom 30 = .ok (.getfield 25, 3) := by decide +kernel
theorem dX4_copyFrom_33 : decode cX4_copyFrom 33 = .ok (.iload_n 2, 1) := by decide +kernel
theorem dX4_copyFrom_34 : decode cX4_copyFrom 34 = .ok (.aload_n 1, 1) := by decide +kernel
theorem dX4_copyFrom_35 : decode cX4_copyFrom 35 = .ok (.getfield 25, 3) := by decide +kernel
theorem dX4_copyFrom_38 : decode cX4_copyFrom 38 = .ok (.iload_n 2, 1) := by decide +kernel
theorem dX4_copyFrom_39 : decode cX4_copyFrom 39 = .ok (.laload, 1) := by decide +kernel
theorem dX4_copyFrom_40 : decode cX4_copyFrom 40 = .ok (.lastore, 1) := by decide +kernel
theorem dX4_copyFrom_41 : decode cX4_copyFrom 41 = .ok (.iinc 2 1, 3) := by decide +kernel
theorem dX4_copyFrom_44 : decode cX4_copyFrom 44 = .ok (.goto (-20), 3) := by decide +kernel
theorem dX4_copyFrom_47 : decode cX4_copyFrom 47 = .ok (.aload_n 0, 1) := by decide +kernel
theorem dX4_copyFrom_48 : decode cX4_copyFrom 48 = .ok (.aload_n 1, 1) := by decide +kernel
theorem dX4_copyFrom_49 : decode cX4_copyFrom 49 = .ok (.getfield 40, 3) := by decide +kernel
theorem dX4_copyFrom_52 : decode cX4_copyFrom 52 = .ok (.putfield 40, 3) := by decide +kernel
theorem dX4_copyFrom_55 : decode cX4_copyFrom 55 = .ok (.aload_n 0, 1) := by decide +kernel
theorem dX4_copyFrom_56 : decode cX4_copyFrom 56 = .ok (.aload_n 1, 1) := by decide +kernel
theorem dX4_copyFrom_57 : decode cX4_copyFrom 57 = .ok (.getfield 29, 3) := by decide +kernel
theorem dX4_copyFrom_60 : decode cX4_copyFrom 60 = .ok (.putfield 29, 3) := by decide +kernel
theorem dX4_copyFrom_63 : decode cX4_copyFrom 63 = .ok (.aload_n 0, 1) := by decide +kernel
theorem dX4_copyFrom_64 : decode cX4_copyFrom 64 = .ok (.aload_n 1, 1) := by decide +kernel
theorem dX4_copyFrom_65 : decode cX4_copyFrom 65 = .ok (.getfield 44, 3) := by decide +kernel
theorem dX4_copyFrom_68 : decode cX4_copyFrom 68 = .ok (.putfield 44, 3) := by decide +kernel
theorem dX4_copyFrom_71 : decode cX4_copyFrom 71 = .ok (.aload_n 0, 1) := by decide +kernel
theorem dX4_copyFrom_72 : decode cX4_copyFrom 72 = .ok (.aload_n 1, 1) := by decide +kernel
theorem dX4_copyFrom_73 : decode cX4_copyFrom 73 = .ok (.getfield 47, 3) := by decide +kernel
theorem dX4_copyFrom_76 : decode cX4_copyFrom 76 = .ok (.putfield 47, 3) := by decide +kernel
theorem dX4_copyFrom_79 : decode cX4_copyFrom 79 = .ok (.aload_n 0, 1) := by decide +kernel
theorem dX4_copyFrom_80 : decode cX4_copyFrom 80 = .ok (.aload_n 1, 1) := by decide +kernel
theorem dX4_copyFrom_81 : decode cX4_copyFrom 81 = .ok (.getfield 50, 3) := by decide +kernel
theorem dX4_copyFrom_84 : decode cX4_copyFrom 84 = .ok (.putfield 50, 3) := by decide +kernel
theorem dX4_copyFrom_87 : decode cX4_copyFrom 87 = .ok (.aload_n 0, 1) := by decide +kernel
theorem dX4_copyFrom_88 : decode cX4_copyFrom 88 = .ok (.aload_n 1, 1) := by decide +kernel
theorem dX4_copyFrom_89 : decode cX4_copyFrom 89 = .ok (.getfield 53, 3) := by decide +kernel
theorem dX4_copyFrom_92 : decode cX4_copyFrom 92 = .ok (.putfield 53, 3) := by decide +kernel
theorem dX4_copyFrom_95 : decode cX4_copyFrom 95 = .ok (.aload_n 0, 1) := by decide +kernel
theorem dX4_copyFrom_96 : decode cX4_copyFrom 96 = .ok (.aload_n 1, 1) := by decide +kernel
theorem dX4_copyFrom_97 : decode cX4_copyFrom 97 = .ok (.getfield 56, 3) := by decide +kernel
theorem dX4_copyFrom_100 : decode cX4_copyFrom 100 = .ok (.putfield 56, 3) := by decide +kernel
theorem dX4_copyFrom_103 : decode cX4_copyFrom 103 = .ok (.return_, 1) := by decide +kernel
theorem dX4_carryOut_0 : decode cX4_carryOut 0 = .ok (.aload_n 1, 1) := by decide +kernel
theorem dX4_carryOut_1 : decode cX4_carryOut 1 = .ok (.ifnull 13, 3) := by decide +kernel
theorem dX4_carryOut_4 : decode cX4_carryOut 4 = .ok (.aload_n 2, 1) := by decide +kernel
theorem dX4_carryOut_5 : decode cX4_carryOut 5 = .ok (.ifnull 9, 3) := by decide +kernel
theorem dX4_carryOut_8 : decode cX4_carryOut 8 = .ok (.aload_n 2, 1) := by decide +kernel
theorem dX4_carryOut_9 : decode cX4_carryOut 9 = .ok (.arraylength, 1) := by decide +kernel
theorem dX4_carryOut_10 : decode cX4_carryOut 10 = .ok (.iconst 3, 1) := by decide +kernel
theorem dX4_carryOut_11 : decode cX4_carryOut 11 = .ok (.if_icmp .ge 6, 3) := by decide +kernel
theorem dX4_carryOut_14 : decode cX4_carryOut 14 = .ok (.bipush (-2), 2) := by decide +kernel
theorem dX4_carryOut_16 : decode cX4_carryOut 16 = .ok (.ireturn, 1) := by decide +kernel
theorem dX4_carryOut_17 : decode cX4_carryOut 17 = .ok (.getstatic 59, 3) := by decide +kernel
theorem dX4_carryOut_20 : decode cX4_carryOut 20 = .ok (.aload_n 1, 1) := by decide +kernel
theorem dX4_carryOut_21 : decode cX4_carryOut 21 = .ok (.invokevirtual 65, 3) := by decide +kernel
theorem dX4_carryOut_24 : decode cX4_carryOut 24 = .ok (.iaload, 1) := by decide +kernel
theorem dX4_carryOut_25 : decode cX4_carryOut 25 = .ok (.tableswitch 141 1 10 #[55, 63, 71, 79, 87, 98, 106, 117, 125, 133], 55) := by decide +kernel
theorem dX4_carryOut_80 : decode cX4_carryOut 80 = .ok (.aload_n 0, 1) := by decide +kernel
theorem dX4_carryOut_81 : decode cX4_carryOut 81 = .ok (.aload_n 2, 1) := by decide +kernel
theorem dX4_carryOut_82 : decode cX4_carryOut 82 = .ok (.iconst 0, 1) := by decide +kernel
theorem dX4_carryOut_83 : decode cX4_carryOut 83 = .ok (.iaload, 1) := by decide +kernel
theorem dX4_carryOut_84 : decode cX4_carryOut 84 = .ok (.invokevirtual 71, 3) := by decide +kernel
theorem dX4_carryOut_87 : decode cX4_carryOut 87 = .ok (.ireturn, 1) := by decide +kernel
theorem dX4_carryOut_88 : decode cX4_carryOut 88 = .ok (.aload_n 0, 1) := by decide +kernel
theorem dX4_carryOut_89 : decode cX4_carryOut 89 = .ok (.aload_n 2, 1) := by decide +kernel
theorem dX4_carryOut_90 : decode cX4_carryOut 90 = .ok (.iconst 0, 1) := by decide +kernel
theorem dX4_carryOut_91 : decode cX4_carryOut 91 = .ok (.iaload, 1) := by decide +kernel
theorem dX4_carryOut_92 : decode cX4_carryOut 92 = .ok (.invokevirtual 75, 3) := by decide +kernel
theorem dX4_carryOut_95 : decode cX4_carryOut 95 = .ok (.ireturn, 1) := by decide +kernel
theorem dX4_carryOut_96 : decode cX4_carryOut 96 = .ok (.aload_n 0, 1) := by decide +kernel
theorem dX4_carryOut_97 : decode cX4_carryOut 97 = .ok (.aload_n 2, 1) := by decide +kernel
theorem dX4_carryOut_98 : decode cX4_carryOut 98 = .ok (.iconst 0, 1) := by decide +kernel
theorem dX4_carryOut_99 : decode cX4_carryOut 99 = .ok (.iaload, 1) := by decide +kernel
theorem dX4_carryOut_100 : decode cX4_carryOut 100 = .ok (.invokevirtual 78, 3) := by decide +kernel
theorem dX4_carryOut_103 : decode cX4_carryOut 103 = .ok (.ireturn, 1) := by decide +kernel
theorem dX4_carryOut_104 : decode cX4_carryOut 104 = .ok (.aload_n 0, 1) := by decide +kernel
theorem dX4_carryOut_105 : decode cX4_carryOut 105 = .ok (.aload_n 2, 1) := by decide +kernel
theorem dX4_carryOut_106 : decode cX4_carryOut 106 = .ok (.iconst 0, 1) := by decide +kernel
theorem dX4_carryOut_107 : decode cX4_carryOut 107 = .ok (.iaload, 1) := by decide +kernel
theorem dX4_carryOut_108 : decode cX4_carryOut 108 = .ok (.invokevirtual 81, 3) := by decide +kernel
theorem dX4_carryOut_111 : decode cX4_carryOut 111 = .ok (.ireturn, 1) := by decide +kernel
theorem dX4_carryOut_112 : decode cX4_carryOut 112 = .ok (.aload_n 0, 1) := by decide +kernel
theorem dX4_carryOut_113 : decode cX4_carryOut 113 = .ok (.aload_n 2, 1) := by decide +kernel
theorem dX4_carryOut_114 : decode cX4_carryOut 114 = .ok (.iconst 0, 1) := by decide +kernel
theorem dX4_carryOut_115 : decode cX4_carryOut 115 = .ok (.iaload, 1) := by decide +kernel
theorem dX4_carryOut_116 : decode cX4_carryOut 116 = .ok (.aload_n 2, 1) := by decide +kernel
theorem dX4_carryOut_117 : decode cX4_carryOut 117 = .ok (.iconst 1, 1) := by decide +kernel
theorem dX4_carryOut_118 : decode cX4_carryOut 118 = .ok (.iaload, 1) := by decide +kernel
theorem dX4_carryOut_119 : decode cX4_carryOut 119 = .ok (.invokevirtual 84, 3) := by decide +kernel
theorem dX4_carryOut_122 : decode cX4_carryOut 122 = .ok (.ireturn, 1) := by decide +kernel
theorem dX4_carryOut_123 : decode cX4_carryOut 123 = .ok (.aload_n 0, 1) := by decide +kernel
theorem dX4_carryOut_124 : decode cX4_carryOut 124 = .ok (.aload_n 2, 1) := by decide +kernel
theorem dX4_carryOut_125 : decode cX4_carryOut 125 = .ok (.iconst 0, 1) := by decide +kernel
theorem dX4_carryOut_126 : decode cX4_carryOut 126 = .ok (.iaload, 1) := by decide +kernel
theorem dX4_carryOut_127 : decode cX4_carryOut 127 = .ok (.invokevirtual 88, 3) := by decide +kernel
theorem dX4_carryOut_130 : decode cX4_carryOut 130 = .ok (.ireturn, 1) := by decide +kernel
theorem dX4_carryOut_131 : decode cX4_carryOut 131 = .ok (.aload_n 0, 1) := by decide +kernel
theorem dX4_carryOut_132 : decode cX4_carryOut 132 = .ok (.aload_n 2, 1) := by decide +kernel
theorem dX4_carryOut_133 : decode cX4_carryOut 133 = .ok (.iconst 0, 1) := by decide +kernel
theorem dX4_carryOut_134 : decode cX4_carryOut 134 = .ok (.iaload, 1) := by decide +kernel
theorem dX4_carryOut_135 : decode cX4_carryOut 135 = .ok (.aload_n 2, 1) := by decide +kernel
theorem dX4_carryOut_136 : decode cX4_carryOut 136 = .ok (.iconst 1, 1) := by decide +kernel
theorem dX4_carryOut_137 : decode cX4_carryOut 137 = .ok (.iaload, 1) := by decide +kernel
theorem dX4_carryOut_138 : decode cX4_carryOut 138 = .ok (.invokevirtual 91, 3) := by decide +kernel
theorem dX4_carryOut_141 : decode cX4_carryOut 141 = .ok (.ireturn, 1) := by decide +kernel
theorem dX4_carryOut_142 : decode cX4_carryOut 142 = .ok (.aload_n 0, 1) := by decide +kernel
theorem dX4_carryOut_143 : decode cX4_carryOut 143 = .ok (.aload_n 2, 1) := by decide +kernel
theorem dX4_carryOut_144 : decode cX4_carryOut 144 = .ok (.iconst 0, 1) := by decide +kernel
theorem dX4_carryOut_145 : decode cX4_carryOut 145 = .ok (.iaload, 1) := by decide +kernel
theorem dX4_carryOut_146 : decode cX4_carryOut 146 = .ok (.invokevirtual 94, 3) := by decide +kernel
theorem dX4_carryOut_149 : decode cX4_carryOut 149 = .ok (.ireturn, 1) := by decide +kernel
theorem dX4_carryOut_150 : decode cX4_carryOut 150 = .ok (.aload_n 0, 1) := by decide +kernel
theorem dX4_carryOut_151 : decode cX4_carryOut 151 = .ok (.aload_n 2, 1) := by decide +kernel
theorem dX4_carryOut_152 : decode cX4_carryOut 152 = .ok (.iconst 0, 1) := by decide +kernel
theorem dX4_carryOut_153 : decode cX4_carryOut 153 = .ok (.iaload, 1) := by decide +kernel
theorem dX4_carryOut_154 : decode cX4_carryOut 154 = .ok (.invokevirtual 97, 3) := by decide +kernel
theorem dX4_carryOut_157 : decode cX4_carryOut 157 = .ok (.ireturn, 1) := by decide +kernel
theorem dX4_carryOut_158 : decode cX4_carryOut 158 = .ok (.aload_n 0, 1) := by decide +kernel
theorem dX4_carryOut_159 : decode cX4_carryOut 159 = .ok (.aload_n 2, 1) := by decide +kernel
theorem dX4_carryOut_160 : decode cX4_carryOut 160 = .ok (.iconst 0, 1) := by decide +kernel
theorem dX4_carryOut_161 : decode cX4_carryOut 161 = .ok (.iaload, 1) := by decide +kernel
theorem dX4_carryOut_162 : decode cX4_carryOut 162 = .ok (.invokevirtual 100, 3) := by decide +kernel
theorem dX4_carryOut_165 : decode cX4_carryOut 165 = .ok (.ireturn, 1) := by decide +kernel
theorem dX4_carryOut_166 : decode cX4_carryOut 166 = .ok (.aload_n 0, 1) := by decide +kernel
theorem dX4_carryOut_167 : decode cX4_carryOut 167 = .ok (.aload_n 2, 1) := by decide +kernel
theorem dX4_carryOut_168 : decode cX4_carryOut 168 = .ok (.iconst 0, 1) := by decide +kernel
theorem dX4_carryOut_169 : decode cX4_carryOut 169 = .ok (.iaload, 1) := by decide +kernel
theorem dX4_carryOut_170 : decode cX4_carryOut 170 = .ok (.aload_n 2, 1) := by decide +kernel
theorem dX4_carryOut_171 : decode cX4_carryOut 171 = .ok (.iconst 1, 1) := by decide +kernel
theorem dX4_carryOut_172 : decode cX4_carryOut 172 = .ok (.iaload, 1) := by decide +kernel
theorem dX4_carryOut_173 : decode cX4_carryOut 173 = .ok (.aload_n 2, 1) := by decide +kernel
theorem dX4_carryOut_174 : decode cX4_carryOut 174 = .ok (.iconst 2, 1) := by decide +kernel
theorem dX4_carryOut_175 : decode cX4_carryOut 175 = .ok (.iaload, 1) := by decide +kernel
theorem dX4_carryOut_176 : decode cX4_carryOut 176 = .ok (.invokevirtual 103, 3) := by decide +kernel
theorem dX4_carryOut_179 : decode cX4_carryOut 179 = .ok (.ireturn, 1) := by decide +kernel
theorem dX4_enlist_0 : decode cX4_enlist 0 = .ok (.iload_n 1, 1) := by decide +kernel
theorem dX4_enlist_1 : decode cX4_enlist 1 = .ok (.invokestatic 107, 3) := by decide +kernel
theorem dX4_enlist_4 : decode cX4_enlist 4 = .ok (.ifCond .ne 5, 3) := by decide +kernel
theorem dX4_enlist_7 : decode cX4_enlist 7 = .ok (.iconst (-1), 1) := by decide +kernel
theorem dX4_enlist_8 : decode cX4_enlist 8 = .ok (.ireturn, 1) := by decide +kernel
theorem dX4_enlist_9 : decode cX4_enlist 9 = .ok (.aload_n 0, 1) := by decide +kernel
theorem dX4_enlist_10 : decode cX4_enlist 10 = .ok (.getfield 12, 3) := by decide +kernel
theorem dX4_enlist_13 : decode cX4_enlist 13 = .ok (.getfield 111, 3) := by decide +kernel
theorem dX4_enlist_16 : decode cX4_enlist 16 = .ok (.bipush 10, 2) := by decide +kernel
theorem dX4_enlist_18 : decode cX4_enlist 18 = .ok (.if_icmp .lt 6, 3) := by decide +kernel
theorem dX4_enlist_21 : decode cX4_enlist 21 = .ok (.bipush (-3), 2) := by decide +kernel
theorem dX4_enlist_23 : decode cX4_enlist 23 = .ok (.ireturn, 1) := by decide +kernel
theorem dX4_enlist_24 : decode cX4_enlist 24 = .ok (.aload_n 0, 1) := by decide +kernel
theorem dX4_enlist_25 : decode cX4_enlist 25 = .ok (.getfield 12, 3) := by decide +kernel
theorem dX4_enlist_28 : decode cX4_enlist 28 = .ok (.iload_n 1, 1) := by decide +kernel
theorem dX4_enlist_29 : decode cX4_enlist 29 = .ok (.invokevirtual 114, 3) := by decide +kernel
theorem dX4_enlist_32 : decode cX4_enlist 32 = .ok (.iconst (-1), 1) := by decide +kernel
theorem dX4_enlist_33 : decode cX4_enlist 33 = .ok (.if_icmp .eq 6, 3) := by decide +kernel
theorem dX4_enlist_36 : decode cX4_enlist 36 = .ok (.bipush (-4), 2) := by decide +kernel
theorem dX4_enlist_38 : decode cX4_enlist 38 = .ok (.ireturn, 1) := by decide +kernel
theorem dX4_enlist_39 : decode cX4_enlist 39 = .ok (.aload_n 0, 1) := by decide +kernel
theorem dX4_enlist_40 : decode cX4_enlist 40 = .ok (.getfield 12, 3) := by decide +kernel
theorem dX4_enlist_43 : decode cX4_enlist 43 = .ok (.getfield 111, 3) := by decide +kernel
theorem dX4_enlist_46 : decode cX4_enlist 46 = .ok (.istore_n 2, 1) := by decide +kernel
theorem dX4_enlist_47 : decode cX4_enlist 47 = .ok (.aload_n 0, 1) := by decide +kernel
theorem dX4_enlist_48 : decode cX4_enlist 48 = .ok (.getfield 12, 3) := by decide +kernel
theorem dX4_enlist_51 : decode cX4_enlist 51 = .ok (.getfield 117, 3) := by decide +kernel
theorem dX4_enlist_54 : decode cX4_enlist 54 = .ok (.iload_n 2, 1) := by decide +kernel
theorem dX4_enlist_55 : decode cX4_enlist 55 = .ok (.iload_n 1, 1) := by decide +kernel
theorem dX4_enlist_56 : decode cX4_enlist 56 = .ok (.iastore, 1) := by decide +kernel
theorem dX4_enlist_57 : decode cX4_enlist 57 = .ok (.aload_n 0, 1) := by decide +kernel
theorem dX4_enlist_58 : decode cX4_enlist 58 = .ok (.getfield 12, 3) := by decide +kernel
theorem dX4_enlist_61 : decode cX4_enlist 61 = .ok (.getfield 120, 3) := by decide +kernel
theorem dX4_enlist_64 : decode cX4_enlist 64 = .ok (.iload_n 2, 1) := by decide +kernel
theorem dX4_enlist_65 : decode cX4_enlist 65 = .ok (.bipush 100, 2) := by decide +kernel
theorem dX4_enlist_67 : decode cX4_enlist 67 = .ok (.iastore, 1) := by decide +kernel
theorem dX4_enlist_68 : decode cX4_enlist 68 = .ok (.aload_n 0, 1) := by decide +kernel
theorem dX4_enlist_69 : decode cX4_enlist 69 = .ok (.getfield 12, 3) := by decide +kernel
theorem dX4_enlist_72 : decode cX4_enlist 72 = .ok (.getfield 123, 3) := by decide +kernel
theorem dX4_enlist_75 : decode cX4_enlist 75 = .ok (.iload_n 2, 1) := by decide +kernel
theorem dX4_enlist_76 : decode cX4_enlist 76 = .ok (.iconst 0, 1) := by decide +kernel
theorem dX4_enlist_77 : decode cX4_enlist 77 = .ok (.iastore, 1) := by decide +kernel
theorem dX4_enlist_78 : decode cX4_enlist 78 = .ok (.aload_n 0, 1) := by decide +kernel
theorem dX4_enlist_79 : decode cX4_enlist 79 = .ok (.getfield 12, 3) := by decide +kernel
theorem dX4_enlist_82 : decode cX4_enlist 82 = .ok (.iload_n 2, 1) := by decide +kernel
theorem dX4_enlist_83 : decode cX4_enlist 83 = .ok (.invokevirtual 126, 3) := by decide +kernel
theorem dX4_enlist_86 : decode cX4_enlist 86 = .ok (.aload_n 0, 1) := by decide +kernel
theorem dX4_enlist_87 : decode cX4_enlist 87 = .ok (.getfield 12, 3) := by decide +kernel
theorem dX4_enlist_90 : decode cX4_enlist 90 = .ok (.dup, 1) := by decide +kernel
theorem dX4_enlist_91 : decode cX4_enlist 91 = .ok (.getfield 111, 3) := by decide +kernel
theorem dX4_enlist_94 : decode cX4_enlist 94 = .ok (.iconst 1, 1) := by decide +kernel
theorem dX4_enlist_95 : decode cX4_enlist 95 = .ok (.iadd, 1) := by decide +kernel
theorem dX4_enlist_96 : decode cX4_enlist 96 = .ok (.putfield 111, 3) := by decide +kernel
theorem dX4_enlist_99 : decode cX4_enlist 99 = .ok (.iload_n 2, 1) := by decide +kernel
theorem dX4_enlist_100 : decode cX4_enlist 100 = .ok (.ireturn, 1) := by decide +kernel
theorem dX4_markPad_0 : decode cX4_markPad 0 = .ok (.iload_n 1, 1) := by decide +kernel
theorem dX4_markPad_1 : decode cX4_markPad 1 = .ok (.invokestatic 107, 3) := by decide +kernel
theorem dX4_markPad_4 : decode cX4_markPad 4 = .ok (.ifCond .ne 5, 3) := by decide +kernel
theorem dX4_markPad_7 : decode cX4_markPad 7 = .ok (.iconst (-1), 1) := by decide +kernel
theorem dX4_markPad_8 : decode cX4_markPad 8 = .ok (.ireturn, 1) := by decide +kernel
theorem dX4_markPad_9 : decode cX4_markPad 9 = .ok (.aload_n 0, 1) := by decide +kernel
theorem dX4_markPad_10 : decode cX4_markPad 10 = .ok (.getfield 40, 3) := by decide +kernel
theorem dX4_markPad_13 : decode cX4_markPad 13 = .ok (.iload_n 1, 1) := by decide +kernel
theorem dX4_markPad_14 : decode cX4_markPad 14 = .ok (.invokestatic 130, 3) := by decide +kernel
theorem dX4_markPad_17 : decode cX4_markPad 17 = .ok (.ifCond .eq 6, 3) := by decide +kernel
theorem dX4_markPad_20 : decode cX4_markPad 20 = .ok (.bipush (-2), 2) := by decide +kernel
theorem dX4_markPad_22 : decode cX4_markPad 22 = .ok (.ireturn, 1) := by decide +kernel
theorem dX4_markPad_23 : decode cX4_markPad 23 = .ok (.aload_n 0, 1) := by decide +kernel
theorem dX4_markPad_24 : decode cX4_markPad 24 = .ok (.getfield 40, 3) := by decide +kernel
theorem dX4_markPad_27 : decode cX4_markPad 27 = .ok (.invokestatic 134, 3) := by decide +kernel
theorem dX4_markPad_30 : decode cX4_markPad 30 = .ok (.iconst 4, 1) := by decide +kernel
theorem dX4_markPad_31 : decode cX4_markPad 31 = .ok (.if_icmp .lt 6, 3) := by decide +kernel
theorem dX4_markPad_34 : decode cX4_markPad 34 = .ok (.bipush (-3), 2) := by decide +kernel
theorem dX4_markPad_36 : decode cX4_markPad 36 = .ok (.ireturn, 1) := by decide +kernel
theorem dX4_markPad_37 : decode cX4_markPad 37 = .ok (.aload_n 0, 1) := by decide +kernel
theorem dX4_markPad_38 : decode cX4_markPad 38 = .ok (.dup, 1) := by decide +kernel
theorem dX4_markPad_39 : decode cX4_markPad 39 = .ok (.getfield 40, 3) := by decide +kernel
theorem dX4_markPad_42 : decode cX4_markPad 42 = .ok (.lconst 1, 1) := by decide +kernel
theorem dX4_markPad_43 : decode cX4_markPad 43 = .ok (.iload_n 1, 1) := by decide +kernel
theorem dX4_markPad_44 : decode cX4_markPad 44 = .ok (.lshl, 1) := by decide +kernel
theorem dX4_markPad_45 : decode cX4_markPad 45 = .ok (.lor, 1) := by decide +kernel
theorem dX4_markPad_46 : decode cX4_markPad 46 = .ok (.putfield 40, 3) := by decide +kernel
theorem dX4_markPad_49 : decode cX4_markPad 49 = .ok (.aload_n 0, 1) := by decide +kernel
theorem dX4_markPad_50 : decode cX4_markPad 50 = .ok (.getfield 40, 3) := by decide +kernel
theorem dX4_markPad_53 : decode cX4_markPad 53 = .ok (.invokestatic 134, 3) := by decide +kernel
theorem dX4_markPad_56 : decode cX4_markPad 56 = .ok (.ireturn, 1) := by decide +kernel
theorem dX4_lift_0 : decode cX4_lift 0 = .ok (.aload_n 0, 1) := by decide +kernel
theorem dX4_lift_1 : decode cX4_lift 1 = .ok (.getfield 12, 3) := by decide +kernel
theorem dX4_lift_4 : decode cX4_lift 4 = .ok (.iload_n 1, 1) := by decide +kernel
theorem dX4_lift_5 : decode cX4_lift 5 = .ok (.invokevirtual 140, 3) := by decide +kernel
theorem dX4_lift_8 : decode cX4_lift 8 = .ok (.ifCond .ne 5, 3) := by decide +kernel
theorem dX4_lift_11 : decode cX4_lift 11 = .ok (.iconst (-1), 1) := by decide +kernel
theorem dX4_lift_12 : decode cX4_lift 12 = .ok (.ireturn, 1) := by decide +kernel
theorem dX4_lift_13 : decode cX4_lift 13 = .ok (.aload_n 0, 1) := by decide +kernel
theorem dX4_lift_14 : decode cX4_lift 14 = .ok (.getfield 12, 3) := by decide +kernel
theorem dX4_lift_17 : decode cX4_lift 17 = .ok (.getfield 143, 3) := by decide +kernel
theorem dX4_lift_20 : decode cX4_lift 20 = .ok (.iload_n 1, 1) := by decide +kernel
theorem dX4_lift_21 : decode cX4_lift 21 = .ok (.baload, 1) := by decide +kernel
theorem dX4_lift_22 : decode cX4_lift 22 = .ok (.ifCond .eq 6, 3) := by decide +kernel
theorem dX4_lift_25 : decode cX4_lift 25 = .ok (.bipush (-3), 2) := by decide +kernel
theorem dX4_lift_27 : decode cX4_lift 27 = .ok (.ireturn, 1) := by decide +kernel
theorem dX4_lift_28 : decode cX4_lift 28 = .ok (.aload_n 0, 1) := by decide +kernel
theorem dX4_lift_29 : decode cX4_lift 29 = .ok (.getfield 12, 3) := by decide +kernel
theorem dX4_lift_32 : decode cX4_lift 32 = .ok (.getfield 120, 3) := by decide +kernel
theorem dX4_lift_35 : decode cX4_lift 35 = .ok (.iload_n 1, 1) := by decide +kernel
theorem dX4_lift_36 : decode cX4_lift 36 = .ok (.iaload, 1) := by decide +kernel
theorem dX4_lift_37 : decode cX4_lift 37 = .ok (.aload_n 0, 1) := by decide +kernel
theorem dX4_lift_38 : decode cX4_lift 38 = .ok (.getfield 29, 3) := by decide +kernel
theorem dX4_lift_41 : decode cX4_lift 41 = .ok (.if_icmp .gt 6, 3) := by decide +kernel
theorem dX4_lift_44 : decode cX4_lift 44 = .ok (.bipush (-4), 2) := by decide +kernel
theorem dX4_lift_46 : decode cX4_lift 46 = .ok (.ireturn, 1) := by decide +kernel
theorem dX4_lift_47 : decode cX4_lift 47 = .ok (.aload_n 0, 1) := by decide +kernel
theorem dX4_lift_48 : decode cX4_lift 48 = .ok (.getfield 12, 3) := by decide +kernel
theorem dX4_lift_51 : decode cX4_lift 51 = .ok (.getfield 143, 3) := by decide +kernel
theorem dX4_lift_54 : decode cX4_lift 54 = .ok (.iload_n 1, 1) := by decide +kernel
theorem dX4_lift_55 : decode cX4_lift 55 = .ok (.iconst 1, 1) := by decide +kernel
theorem dX4_lift_56 : decode cX4_lift 56 = .ok (.bastore, 1) := by decide +kernel
theorem dX4_lift_57 : decode cX4_lift 57 = .ok (.aload_n 0, 1) := by decide +kernel
theorem dX4_lift_58 : decode cX4_lift 58 = .ok (.getfield 12, 3) := by decide +kernel
theorem dX4_lift_61 : decode cX4_lift 61 = .ok (.invokevirtual 147, 3) := by decide +kernel
theorem dX4_lift_64 : decode cX4_lift 64 = .ok (.ireturn, 1) := by decide +kernel
theorem dX4_setDown_0 : decode cX4_setDown 0 = .ok (.aload_n 0, 1) := by decide +kernel
theorem dX4_setDown_1 : decode cX4_setDown 1 = .ok (.getfield 12, 3) := by decide +kernel
theorem dX4_setDown_4 : decode cX4_setDown 4 = .ok (.iload_n 1, 1) := by decide +kernel
theorem dX4_setDown_5 : decode cX4_setDown 5 = .ok (.invokevirtual 140, 3) := by decide +kernel
theorem dX4_setDown_8 : decode cX4_setDown 8 = .ok (.ifCond .ne 5, 3) := by decide +kernel
theorem dX4_setDown_11 : decode cX4_setDown 11 = .ok (.iconst (-1), 1) := by decide +kernel
theorem dX4_setDown_12 : decode cX4_setDown 12 = .ok (.ireturn, 1) := by decide +kernel
theorem dX4_setDown_13 : decode cX4_setDown 13 = .ok (.aload_n 0, 1) := by decide +kernel
theorem dX4_setDown_14 : decode cX4_setDown 14 = .ok (.getfield 12, 3) := by decide +kernel
theorem dX4_setDown_17 : decode cX4_setDown 17 = .ok (.getfield 143, 3) := by decide +kernel
theorem dX4_setDown_20 : decode cX4_setDown 20 = .ok (.iload_n 1, 1) := by decide +kernel
theorem dX4_setDown_21 : decode cX4_setDown 21 = .ok (.baload, 1) := by decide +kernel
theorem dX4_setDown_22 : decode cX4_setDown 22 = .ok (.ifCond .ne 6, 3) := by decide +kernel
theorem dX4_setDown_25 : decode cX4_setDown 25 = .ok (.bipush (-3), 2) := by decide +kernel
theorem dX4_setDown_27 : decode cX4_setDown 27 = .ok (.ireturn, 1) := by decide +kernel
theorem dX4_setDown_28 : decode cX4_setDown 28 = .ok (.aload_n 0, 1) := by decide +kernel
theorem dX4_setDown_29 : decode cX4_setDown 29 = .ok (.getfield 40, 3) := by decide +kernel
theorem dX4_setDown_32 : decode cX4_setDown 32 = .ok (.aload_n 0, 1) := by decide +kernel
theorem dX4_setDown_33 : decode cX4_setDown 33 = .ok (.getfield 12, 3) := by decide +kernel
theorem dX4_setDown_36 : decode cX4_setDown 36 = .ok (.getfield 117, 3) := by decide +kernel
theorem dX4_setDown_39 : decode cX4_setDown 39 = .ok (.iload_n 1, 1) := by decide +kernel
theorem dX4_setDown_40 : decode cX4_setDown 40 = .ok (.iaload, 1) := by decide +kernel
theorem dX4_setDown_41 : decode cX4_setDown 41 = .ok (.invokestatic 130, 3) := by decide +kernel
theorem dX4_setDown_44 : decode cX4_setDown 44 = .ok (.ifCond .ne 6, 3) := by decide +kernel
theorem dX4_setDown_47 : decode cX4_setDown 47 = .ok (.bipush (-4), 2) := by decide +kernel
theorem dX4_setDown_49 : decode cX4_setDown 49 = .ok (.ireturn, 1) := by decide +kernel
theorem dX4_setDown_50 : decode cX4_setDown 50 = .ok (.aload_n 0, 1) := by decide +kernel
theorem dX4_setDown_51 : decode cX4_setDown 51 = .ok (.getfield 12, 3) := by decide +kernel
theorem dX4_setDown_54 : decode cX4_setDown 54 = .ok (.iload_n 1, 1) := by decide +kernel
theorem dX4_setDown_55 : decode cX4_setDown 55 = .ok (.invokevirtual 126, 3) := by decide +kernel
theorem dX4_setDown_58 : decode cX4_setDown 58 = .ok (.aload_n 0, 1) := by decide +kernel
theorem dX4_setDown_59 : decode cX4_setDown 59 = .ok (.getfield 12, 3) := by decide +kernel
theorem dX4_setDown_62 : decode cX4_setDown 62 = .ok (.invokevirtual 147, 3) := by decide +kernel
theorem dX4_setDown_65 : decode cX4_setDown 65 = .ok (.ireturn, 1) := by decide +kernel
theorem dX4_aim_0 : decode cX4_aim 0 = .ok (.aload_n 0, 1) := by decide +kernel
theorem dX4_aim_1 : decode cX4_aim 1 = .ok (.getfield 12, 3) := by decide +kernel
theorem dX4_aim_4 : decode cX4_aim 4 = .ok (.iload_n 1, 1) := by decide +kernel
theorem dX4_aim_5 : decode cX4_aim 5 = .ok (.invokevirtual 140, 3) := by decide +kernel
theorem dX4_aim_8 : decode cX4_aim 8 = .ok (.ifCond .eq 10, 3) := by decide +kernel
theorem dX4_aim_11 : decode cX4_aim 11 = .ok (.iload_n 2, 1) := by decide +kernel
theorem dX4_aim_12 : decode cX4_aim 12 = .ok (.invokestatic 107, 3) := by decide +kernel
theorem dX4_aim_15 : decode cX4_aim 15 = .ok (.ifCond .ne 5, 3) := by decide +kernel
theorem dX4_aim_18 : decode cX4_aim 18 = .ok (.iconst (-1), 1) := by decide +kernel
theorem dX4_aim_19 : decode cX4_aim 19 = .ok (.ireturn, 1) := by decide +kernel
theorem dX4_aim_20 : decode cX4_aim 20 = .ok (.aload_n 0, 1) := by decide +kernel
theorem dX4_aim_21 : decode cX4_aim 21 = .ok (.getfield 12, 3) := by decide +kernel
theorem dX4_aim_24 : decode cX4_aim 24 = .ok (.getfield 143, 3) := by decide +kernel
theorem dX4_aim_27 : decode cX4_aim 27 = .ok (.iload_n 1, 1) := by decide +kernel
theorem dX4_aim_28 : decode cX4_aim 28 = .ok (.baload, 1) := by decide +kernel
theorem dX4_aim_29 : decode cX4_aim 29 = .ok (.ifCond .eq 15, 3) := by decide +kernel
theorem dX4_aim_32 : decode cX4_aim 32 = .ok (.aload_n 0, 1) := by decide +kernel
theorem dX4_aim_33 : decode cX4_aim 33 = .ok (.getfield 12, 3) := by decide +kernel
theorem dX4_aim_36 : decode cX4_aim 36 = .ok (.getfield 150, 3) := by decide +kernel
theorem dX4_aim_39 : decode cX4_aim 39 = .ok (.iload_n 1, 1) := by decide +kernel
theorem dX4_aim_40 : decode cX4_aim 40 = .ok (.baload, 1) := by decide +kernel
theorem dX4_aim_41 : decode cX4_aim 41 = .ok (.ifCond .eq 6, 3) := by decide +kernel
theorem dX4_aim_44 : decode cX4_aim 44 = .ok (.bipush (-3), 2) := by decide +kernel
theorem dX4_aim_46 : decode cX4_aim 46 = .ok (.ireturn, 1) := by decide +kernel
theorem dX4_aim_47 : decode cX4_aim 47 = .ok (.aload_n 0, 1) := by decide +kernel
theorem dX4_aim_48 : decode cX4_aim 48 = .ok (.getfield 12, 3) := by decide +kernel
theorem dX4_aim_51 : decode cX4_aim 51 = .ok (.getfield 153, 3) := by decide +kernel
theorem dX4_aim_54 : decode cX4_aim 54 = .ok (.iload_n 1, 1) := by decide +kernel
theorem dX4_aim_55 : decode cX4_aim 55 = .ok (.iload_n 2, 1) := by decide +kernel
theorem dX4_aim_56 : decode cX4_aim 56 = .ok (.iastore, 1) := by decide +kernel
theorem dX4_aim_57 : decode cX4_aim 57 = .ok (.aload_n 0, 1) := by decide +kernel
theorem dX4_aim_58 : decode cX4_aim 58 = .ok (.getfield 12, 3) := by decide +kernel
theorem dX4_aim_61 : decode cX4_aim 61 = .ok (.getfield 117, 3) := by decide +kernel
theorem dX4_aim_64 : decode cX4_aim 64 = .ok (.iload_n 1, 1) := by decide +kernel
theorem dX4_aim_65 : decode cX4_aim 65 = .ok (.iaload, 1) := by decide +kernel
theorem dX4_aim_66 : decode cX4_aim 66 = .ok (.iload_n 2, 1) := by decide +kernel
theorem dX4_aim_67 : decode cX4_aim 67 = .ok (.invokestatic 156, 3) := by decide +kernel
theorem dX4_aim_70 : decode cX4_aim 70 = .ok (.ireturn, 1) := by decide +kernel
theorem dX4_changeReserve_0 : decode cX4_changeReserve 0 = .ok (.iload_n 1, 1) := by decide +kernel
theorem dX4_changeReserve_1 : decode cX4_changeReserve 1 = .ok (.iconst 5, 1) := by decide +kernel
theorem dX4_changeReserve_2 : decode cX4_changeReserve 2 = .ok (.if_icmp .lt 9, 3) := by decide +kernel
theorem dX4_changeReserve_5 : decode cX4_changeReserve 5 = .ok (.iload_n 1, 1) := by decide +kernel
theorem dX4_changeReserve_6 : decode cX4_changeReserve 6 = .ok (.bipush 30, 2) := by decide +kernel
theorem dX4_changeReserve_8 : decode cX4_changeReserve 8 = .ok (.if_icmp .le 6, 3) := by decide +kernel
theorem dX4_changeReserve_11 : decode cX4_changeReserve 11 = .ok (.bipush (-2), 2) := by decide +kernel
theorem dX4_changeReserve_13 : decode cX4_changeReserve 13 = .ok (.ireturn, 1) := by decide +kernel
theorem dX4_changeReserve_14 : decode cX4_changeReserve 14 = .ok (.aload_n 0, 1) := by decide +kernel
theorem dX4_changeReserve_15 : decode cX4_changeReserve 15 = .ok (.getfield 29, 3) := by decide +kernel
theorem dX4_changeReserve_18 : decode cX4_changeReserve 18 = .ok (.istore_n 2, 1) := by decide +kernel
theorem dX4_changeReserve_19 : decode cX4_changeReserve 19 = .ok (.aload_n 0, 1) := by decide +kernel
theorem dX4_changeReserve_20 : decode cX4_changeReserve 20 = .ok (.iload_n 1, 1) := by decide +kernel
theorem dX4_changeReserve_21 : decode cX4_changeReserve 21 = .ok (.putfield 29, 3) := by decide +kernel
theorem dX4_changeReserve_24 : decode cX4_changeReserve 24 = .ok (.iload_n 2, 1) := by decide +kernel
theorem dX4_changeReserve_25 : decode cX4_changeReserve 25 = .ok (.ireturn, 1) := by decide +kernel
theorem dX4_extend_0 : decode cX4_extend 0 = .ok (.iload_n 1, 1) := by decide +kernel
theorem dX4_extend_1 : decode cX4_extend 1 = .ok (.invokestatic 159, 3) := by decide +kernel
theorem dX4_extend_4 : decode cX4_extend 4 = .ok (.ifCond .eq 10, 3) := by decide +kernel
theorem dX4_extend_7 : decode cX4_extend 7 = .ok (.iload_n 2, 1) := by decide +kernel
theorem dX4_extend_8 : decode cX4_extend 8 = .ok (.invokestatic 107, 3) := by decide +kernel
theorem dX4_extend_11 : decode cX4_extend 11 = .ok (.ifCond .ne 5, 3) := by decide +kernel
theorem dX4_extend_14 : decode cX4_extend 14 = .ok (.iconst (-1), 1) := by decide +kernel
theorem dX4_extend_15 : decode cX4_extend 15 = .ok (.ireturn, 1) := by decide +kernel
theorem dX4_extend_16 : decode cX4_extend 16 = .ok (.aload_n 0, 1) := by decide +kernel
theorem dX4_extend_17 : decode cX4_extend 17 = .ok (.getfield 25, 3) := by decide +kernel
theorem dX4_extend_20 : decode cX4_extend 20 = .ok (.iload_n 1, 1) := by decide +kernel
theorem dX4_extend_21 : decode cX4_extend 21 = .ok (.laload, 1) := by decide +kernel
theorem dX4_extend_22 : decode cX4_extend 22 = .ok (.iload_n 2, 1) := by decide +kernel
theorem dX4_extend_23 : decode cX4_extend 23 = .ok (.invokestatic 130, 3) := by decide +kernel
theorem dX4_extend_26 : decode cX4_extend 26 = .ok (.ifCond .eq 6, 3) := by decide +kernel
theorem dX4_extend_29 : decode cX4_extend 29 = .ok (.bipush (-2), 2) := by decide +kernel
theorem dX4_extend_31 : decode cX4_extend 31 = .ok (.ireturn, 1) := by decide +kernel
theorem dX4_extend_32 : decode cX4_extend 32 = .ok (.aload_n 0, 1) := by decide +kernel
theorem dX4_extend_33 : decode cX4_extend 33 = .ok (.getfield 25, 3) := by decide +kernel
theorem dX4_extend_36 : decode cX4_extend 36 = .ok (.iload_n 1, 1) := by decide +kernel
theorem dX4_extend_37 : decode cX4_extend 37 = .ok (.laload, 1) := by decide +kernel
theorem dX4_extend_38 : decode cX4_extend 38 = .ok (.invokestatic 134, 3) := by decide +kernel
theorem dX4_extend_41 : decode cX4_extend 41 = .ok (.bipush 10, 2) := by decide +kernel
theorem dX4_extend_43 : decode cX4_extend 43 = .ok (.if_icmp .lt 6, 3) := by decide +kernel
theorem dX4_extend_46 : decode cX4_extend 46 = .ok (.bipush (-3), 2) := by decide +kernel
theorem dX4_extend_48 : decode cX4_extend 48 = .ok (.ireturn, 1) := by decide +kernel
theorem dX4_extend_49 : decode cX4_extend 49 = .ok (.aload_n 0, 1) := by decide +kernel
theorem dX4_extend_50 : decode cX4_extend 50 = .ok (.getfield 25, 3) := by decide +kernel
theorem dX4_extend_53 : decode cX4_extend 53 = .ok (.iload_n 1, 1) := by decide +kernel
theorem dX4_extend_54 : decode cX4_extend 54 = .ok (.dup2, 1) := by decide +kernel
theorem dX4_extend_55 : decode cX4_extend 55 = .ok (.laload, 1) := by decide +kernel
theorem dX4_extend_56 : decode cX4_extend 56 = .ok (.lconst 1, 1) := by decide +kernel
theorem dX4_extend_57 : decode cX4_extend 57 = .ok (.iload_n 2, 1) := by decide +kernel
theorem dX4_extend_58 : decode cX4_extend 58 = .ok (.lshl, 1) := by decide +kernel
theorem dX4_extend_59 : decode cX4_extend 59 = .ok (.lor, 1) := by decide +kernel
theorem dX4_extend_60 : decode cX4_extend 60 = .ok (.lastore, 1) := by decide +kernel
theorem dX4_extend_61 : decode cX4_extend 61 = .ok (.aload_n 0, 1) := by decide +kernel
theorem dX4_extend_62 : decode cX4_extend 62 = .ok (.getfield 25, 3) := by decide +kernel
theorem dX4_extend_65 : decode cX4_extend 65 = .ok (.iload_n 1, 1) := by decide +kernel
theorem dX4_extend_66 : decode cX4_extend 66 = .ok (.laload, 1) := by decide +kernel
theorem dX4_extend_67 : decode cX4_extend 67 = .ok (.invokestatic 134, 3) := by decide +kernel
theorem dX4_extend_70 : decode cX4_extend 70 = .ok (.ireturn, 1) := by decide +kernel
theorem dX4_empty_0 : decode cX4_empty 0 = .ok (.iload_n 1, 1) := by decide +kernel
theorem dX4_empty_1 : decode cX4_empty 1 = .ok (.invokestatic 159, 3) := by decide +kernel
theorem dX4_empty_4 : decode cX4_empty 4 = .ok (.ifCond .ne 5, 3) := by decide +kernel
theorem dX4_empty_7 : decode cX4_empty 7 = .ok (.iconst (-1), 1) := by decide +kernel
theorem dX4_empty_8 : decode cX4_empty 8 = .ok (.ireturn, 1) := by decide +kernel
theorem dX4_empty_9 : decode cX4_empty 9 = .ok (.aload_n 0, 1) := by decide +kernel
theorem dX4_empty_10 : decode cX4_empty 10 = .ok (.getfield 25, 3) := by decide +kernel
theorem dX4_empty_13 : decode cX4_empty 13 = .ok (.iload_n 1, 1) := by decide +kernel
theorem dX4_empty_14 : decode cX4_empty 14 = .ok (.laload, 1) := by decide +kernel
theorem dX4_empty_15 : decode cX4_empty 15 = .ok (.invokestatic 134, 3) := by decide +kernel
theorem dX4_empty_18 : decode cX4_empty 18 = .ok (.istore_n 2, 1) := by decide +kernel
theorem dX4_empty_19 : decode cX4_empty 19 = .ok (.aload_n 0, 1) := by decide +kernel
theorem dX4_empty_20 : decode cX4_empty 20 = .ok (.getfield 25, 3) := by decide +kernel
theorem dX4_empty_23 : decode cX4_empty 23 = .ok (.iload_n 1, 1) := by decide +kernel
theorem dX4_empty_24 : decode cX4_empty 24 = .ok (.lconst 0, 1) := by decide +kernel
theorem dX4_empty_25 : decode cX4_empty 25 = .ok (.lastore, 1) := by decide +kernel
theorem dX4_empty_26 : decode cX4_empty 26 = .ok (.iload_n 2, 1) := by decide +kernel
theorem dX4_empty_27 : decode cX4_empty 27 = .ok (.ireturn, 1) := by decide +kernel
theorem dX4_distribute_0 : decode cX4_distribute 0 = .ok (.iload_n 1, 1) := by decide +kernel
theorem dX4_distribute_1 : decode cX4_distribute 1 = .ok (.invokestatic 159, 3) := by decide +kernel
theorem dX4_distribute_4 : decode cX4_distribute 4 = .ok (.ifCond .ne 5, 3) := by decide +kernel
theorem dX4_distribute_7 : decode cX4_distribute 7 = .ok (.iconst (-1), 1) := by decide +kernel
theorem dX4_distribute_8 : decode cX4_distribute 8 = .ok (.ireturn, 1) := by decide +kernel
theorem dX4_distribute_9 : decode cX4_distribute 9 = .ok (.aload_n 0, 1) := by decide +kernel
theorem dX4_distribute_10 : decode cX4_distribute 10 = .ok (.getfield 25, 3) := by decide +kernel
theorem dX4_distribute_13 : decode cX4_distribute 13 = .ok (.iload_n 1, 1) := by decide +kernel
theorem dX4_distribute_14 : decode cX4_distribute 14 = .ok (.laload, 1) := by decide +kernel
theorem dX4_distribute_15 : decode cX4_distribute 15 = .ok (.lconst 0, 1) := by decide +kernel
theorem dX4_distribute_16 : decode cX4_distribute 16 = .ok (.lcmp, 1) := by decide +kernel
theorem dX4_distribute_17 : decode cX4_distribute 17 = .ok (.ifCond .ne 6, 3) := by decide +kernel
theorem dX4_distribute_20 : decode cX4_distribute 20 = .ok (.bipush (-3), 2) := by decide +kernel
theorem dX4_distribute_22 : decode cX4_distribute 22 = .ok (.ireturn, 1) := by decide +kernel
theorem dX4_distribute_23 : decode cX4_distribute 23 = .ok (.aload_n 0, 1) := by decide +kernel
theorem dX4_distribute_24 : decode cX4_distribute 24 = .ok (.getfield 12, 3) := by decide +kernel
theorem dX4_distribute_27 : decode cX4_distribute 27 = .ok (.invokevirtual 162, 3) := by decide +kernel
theorem dX4_distribute_30 : decode cX4_distribute 30 = .ok (.iconst 0, 1) := by decide +kernel
theorem dX4_distribute_31 : decode cX4_distribute 31 = .ok (.istore_n 2, 1) := by decide +kernel
theorem dX4_distribute_32 : decode cX4_distribute 32 = .ok (.iconst 0, 1) := by decide +kernel
theorem dX4_distribute_33 : decode cX4_distribute 33 = .ok (.istore_n 3, 1) := by decide +kernel
theorem dX4_distribute_34 : decode cX4_distribute 34 = .ok (.iload_n 3, 1) := by decide +kernel
theorem dX4_distribute_35 : decode cX4_distribute 35 = .ok (.bipush 64, 2) := by decide +kernel
theorem dX4_distribute_37 : decode cX4_distribute 37 = .ok (.if_icmp .ge 56, 3) := by decide +kernel
theorem dX4_distribute_40 : decode cX4_distribute 40 = .ok (.aload_n 0, 1) := by decide +kernel
theorem dX4_distribute_41 : decode cX4_distribute 41 = .ok (.getfield 25, 3) := by decide +kernel
theorem dX4_distribute_44 : decode cX4_distribute 44 = .ok (.iload_n 1, 1) := by decide +kernel
theorem dX4_distribute_45 : decode cX4_distribute 45 = .ok (.laload, 1) := by decide +kernel
theorem dX4_distribute_46 : decode cX4_distribute 46 = .ok (.iload_n 3, 1) := by decide +kernel
theorem dX4_distribute_47 : decode cX4_distribute 47 = .ok (.invokestatic 130, 3) := by decide +kernel
theorem dX4_distribute_50 : decode cX4_distribute 50 = .ok (.ifCond .eq 14, 3) := by decide +kernel
theorem dX4_distribute_53 : decode cX4_distribute 53 = .ok (.aload_n 0, 1) := by decide +kernel
theorem dX4_distribute_54 : decode cX4_distribute 54 = .ok (.getfield 12, 3) := by decide +kernel
theorem dX4_distribute_57 : decode cX4_distribute 57 = .ok (.iload_n 3, 1) := by decide +kernel
theorem dX4_distribute_58 : decode cX4_distribute 58 = .ok (.invokevirtual 165, 3) := by decide +kernel
theorem dX4_distribute_61 : decode cX4_distribute 61 = .ok (.goto 4, 3) := by decide +kernel
theorem dX4_distribute_64 : decode cX4_distribute 64 = .ok (.iconst (-1), 1) := by decide +kernel
theorem dX4_distribute_65 : decode cX4_distribute 65 = .ok (.istore 4, 2) := by decide +kernel
theorem dX4_distribute_67 : decode cX4_distribute 67 = .ok (.iload 4, 2) := by decide +kernel
theorem dX4_distribute_69 : decode cX4_distribute 69 = .ok (.iconst (-1), 1) := by decide +kernel
theorem dX4_distribute_70 : decode cX4_distribute 70 = .ok (.if_icmp .eq 17, 3) := by decide +kernel
theorem dX4_distribute_73 : decode cX4_distribute 73 = .ok (.aload_n 0, 1) := by decide +kernel
theorem dX4_distribute_74 : decode cX4_distribute 74 = .ok (.getfield 12, 3) := by decide +kernel
theorem dX4_distribute_77 : decode cX4_distribute 77 = .ok (.getfield 153, 3) := by decide +kernel
theorem dX4_distribute_80 : decode cX4_distribute 80 = .ok (.iload 4, 2) := by decide +kernel
theorem dX4_distribute_82 : decode cX4_distribute 82 = .ok (.iload_n 3, 1) := by decide +kernel
theorem dX4_distribute_83 : decode cX4_distribute 83 = .ok (.iastore, 1) := by decide +kernel
theorem dX4_distribute_84 : decode cX4_distribute 84 = .ok (.iinc 2 1, 3) := by decide +kernel
theorem dX4_distribute_87 : decode cX4_distribute 87 = .ok (.iinc 3 1, 3) := by decide +kernel
theorem dX4_distribute_90 : decode cX4_distribute 90 = .ok (.goto (-56), 3) := by decide +kernel
theorem dX4_distribute_93 : decode cX4_distribute 93 = .ok (.iload_n 2, 1) := by decide +kernel
theorem dX4_distribute_94 : decode cX4_distribute 94 = .ok (.ireturn, 1) := by decide +kernel
theorem dX4_schedule_0 : decode cX4_schedule 0 = .ok (.aload_n 0, 1) := by decide +kernel
theorem dX4_schedule_1 : decode cX4_schedule 1 = .ok (.getfield 12, 3) := by decide +kernel
theorem dX4_schedule_4 : decode cX4_schedule 4 = .ok (.iload_n 1, 1) := by decide +kernel
theorem dX4_schedule_5 : decode cX4_schedule 5 = .ok (.invokevirtual 140, 3) := by decide +kernel
theorem dX4_schedule_8 : decode cX4_schedule 8 = .ok (.ifCond .ne 5, 3) := by decide +kernel
theorem dX4_schedule_11 : decode cX4_schedule 11 = .ok (.iconst (-1), 1) := by decide +kernel
theorem dX4_schedule_12 : decode cX4_schedule 12 = .ok (.ireturn, 1) := by decide +kernel
theorem dX4_schedule_13 : decode cX4_schedule 13 = .ok (.iload_n 2, 1) := by decide +kernel
theorem dX4_schedule_14 : decode cX4_schedule 14 = .ok (.aload_n 0, 1) := by decide +kernel
theorem dX4_schedule_15 : decode cX4_schedule 15 = .ok (.getfield 44, 3) := by decide +kernel
theorem dX4_schedule_18 : decode cX4_schedule 18 = .ok (.if_icmp .le 20, 3) := by decide +kernel
theorem dX4_schedule_21 : decode cX4_schedule 21 = .ok (.iload_n 2, 1) := by decide +kernel
theorem dX4_schedule_22 : decode cX4_schedule 22 = .ok (.sipush 999, 3) := by decide +kernel
theorem dX4_schedule_25 : decode cX4_schedule 25 = .ok (.if_icmp .gt 13, 3) := by decide +kernel
theorem dX4_schedule_28 : decode cX4_schedule 28 = .ok (.iload_n 3, 1) := by decide +kernel
theorem dX4_schedule_29 : decode cX4_schedule 29 = .ok (.ifCond .lt 9, 3) := by decide +kernel
theorem dX4_schedule_32 : decode cX4_schedule 32 = .ok (.iload_n 3, 1) := by decide +kernel
theorem dX4_schedule_33 : decode cX4_schedule 33 = .ok (.bipush 8, 2) := by decide +kernel
theorem dX4_schedule_35 : decode cX4_schedule 35 = .ok (.if_icmp .lt 6, 3) := by decide +kernel
theorem dX4_schedule_38 : decode cX4_schedule 38 = .ok (.bipush (-2), 2) := by decide +kernel
theorem dX4_schedule_40 : decode cX4_schedule 40 = .ok (.ireturn, 1) := by decide +kernel
theorem dX4_schedule_41 : decode cX4_schedule 41 = .ok (.aload_n 0, 1) := by decide +kernel
theorem dX4_schedule_42 : decode cX4_schedule 42 = .ok (.getfield 21, 3) := by decide +kernel
theorem dX4_schedule_45 : decode cX4_schedule 45 = .ok (.getfield 168, 3) := by decide +kernel
theorem dX4_schedule_48 : decode cX4_schedule 48 = .ok (.bipush 12, 2) := by decide +kernel
theorem dX4_schedule_50 : decode cX4_schedule 50 = .ok (.if_icmp .lt 6, 3) := by decide +kernel
theorem dX4_schedule_53 : decode cX4_schedule 53 = .ok (.bipush (-3), 2) := by decide +kernel
theorem dX4_schedule_55 : decode cX4_schedule 55 = .ok (.ireturn, 1) := by decide +kernel
theorem dX4_schedule_56 : decode cX4_schedule 56 = .ok (.aload_n 0, 1) := by decide +kernel
theorem dX4_schedule_57 : decode cX4_schedule 57 = .ok (.getfield 21, 3) := by decide +kernel
theorem dX4_schedule_60 : decode cX4_schedule 60 = .ok (.aload_n 0, 1) := by decide +kernel
theorem dX4_schedule_61 : decode cX4_schedule 61 = .ok (.getfield 21, 3) := by decide +kernel
theorem dX4_schedule_64 : decode cX4_schedule 64 = .ok (.getfield 168, 3) := by decide +kernel
theorem dX4_schedule_67 : decode cX4_schedule 67 = .ok (.iload_n 1, 1) := by decide +kernel
theorem dX4_schedule_68 : decode cX4_schedule 68 = .ok (.iload_n 2, 1) := by decide +kernel
theorem dX4_schedule_69 : decode cX4_schedule 69 = .ok (.iload_n 3, 1) := by decide +kernel
theorem dX4_schedule_70 : decode cX4_schedule 70 = .ok (.invokevirtual 169, 3) := by decide +kernel
theorem dX4_schedule_73 : decode cX4_schedule 73 = .ok (.aload_n 0, 1) := by decide +kernel
theorem dX4_schedule_74 : decode cX4_schedule 74 = .ok (.getfield 21, 3) := by decide +kernel
theorem dX4_schedule_77 : decode cX4_schedule 77 = .ok (.dup, 1) := by decide +kernel
theorem dX4_schedule_78 : decode cX4_schedule 78 = .ok (.getfield 168, 3) := by decide +kernel
theorem dX4_schedule_81 : decode cX4_schedule 81 = .ok (.iconst 1, 1) := by decide +kernel
theorem dX4_schedule_82 : decode cX4_schedule 82 = .ok (.iadd, 1) := by decide +kernel
theorem dX4_schedule_83 : decode cX4_schedule 83 = .ok (.putfield 168, 3) := by decide +kernel
theorem dX4_schedule_86 : decode cX4_schedule 86 = .ok (.aload_n 0, 1) := by decide +kernel
theorem dX4_schedule_87 : decode cX4_schedule 87 = .ok (.getfield 21, 3) := by decide +kernel
theorem dX4_schedule_90 : decode cX4_schedule 90 = .ok (.getfield 168, 3) := by decide +kernel
theorem dX4_schedule_93 : decode cX4_schedule 93 = .ok (.ireturn, 1) := by decide +kernel
theorem dX4_pass_0 : decode cX4_pass 0 = .ok (.iload_n 1, 1) := by decide +kernel
theorem dX4_pass_1 : decode cX4_pass 1 = .ok (.iconst 1, 1) := by decide +kernel
theorem dX4_pass_2 : decode cX4_pass 2 = .ok (.if_icmp .lt 9, 3) := by decide +kernel
theorem dX4_pass_5 : decode cX4_pass 5 = .ok (.iload_n 1, 1) := by decide +kernel
theorem dX4_pass_6 : decode cX4_pass 6 = .ok (.bipush 30, 2) := by decide +kernel
theorem dX4_pass_8 : decode cX4_pass 8 = .ok (.if_icmp .le 6, 3) := by decide +kernel
theorem dX4_pass_11 : decode cX4_pass 11 = .ok (.bipush (-2), 2) := by decide +kernel
theorem dX4_pass_13 : decode cX4_pass 13 = .ok (.ireturn, 1) := by decide +kernel
theorem dX4_pass_14 : decode cX4_pass 14 = .ok (.aload_n 0, 1) := by decide +kernel
theorem dX4_pass_15 : decode cX4_pass 15 = .ok (.getfield 47, 3) := by decide +kernel
theorem dX4_pass_18 : decode cX4_pass 18 = .ok (.istore_n 2, 1) := by decide +kernel
theorem dX4_pass_19 : decode cX4_pass 19 = .ok (.iconst 0, 1) := by decide +kernel
theorem dX4_pass_20 : decode cX4_pass 20 = .ok (.istore_n 3, 1) := by decide +kernel
theorem dX4_pass_21 : decode cX4_pass 21 = .ok (.iload_n 3, 1) := by decide +kernel
theorem dX4_pass_22 : decode cX4_pass 22 = .ok (.iload_n 1, 1) := by decide +kernel
theorem dX4_pass_23 : decode cX4_pass 23 = .ok (.if_icmp .ge 13, 3) := by decide +kernel
theorem dX4_pass_26 : decode cX4_pass 26 = .ok (.aload_n 0, 1) := by decide +kernel
theorem dX4_pass_27 : decode cX4_pass 27 = .ok (.invokevirtual 173, 3) := by decide +kernel
theorem dX4_pass_30 : decode cX4_pass 30 = .ok (.iinc 3 1, 3) := by decide +kernel
theorem dX4_pass_33 : decode cX4_pass 33 = .ok (.goto (-12), 3) := by decide +kernel
theorem dX4_pass_36 : decode cX4_pass 36 = .ok (.aload_n 0, 1) := by decide +kernel
theorem dX4_pass_37 : decode cX4_pass 37 = .ok (.getfield 47, 3) := by decide +kernel
theorem dX4_pass_40 : decode cX4_pass 40 = .ok (.iload_n 2, 1) := by decide +kernel
theorem dX4_pass_41 : decode cX4_pass 41 = .ok (.isub, 1) := by decide +kernel
theorem dX4_pass_42 : decode cX4_pass 42 = .ok (.ireturn, 1) := by decide +kernel
theorem dX4_tick_0 : decode cX4_tick 0 = .ok (.aload_n 0, 1) := by decide +kernel
theorem dX4_tick_1 : decode cX4_tick 1 = .ok (.dup, 1) := by decide +kernel
theorem dX4_tick_2 : decode cX4_tick 2 = .ok (.getfield 44, 3) := by decide +kernel
theorem dX4_tick_5 : decode cX4_tick 5 = .ok (.iconst 1, 1) := by decide +kernel
theorem dX4_tick_6 : decode cX4_tick 6 = .ok (.iadd, 1) := by decide +kernel
theorem dX4_tick_7 : decode cX4_tick 7 = .ok (.putfield 44, 3) := by decide +kernel
theorem dX4_tick_10 : decode cX4_tick 10 = .ok (.aload_n 0, 1) := by decide +kernel
theorem dX4_tick_11 : decode cX4_tick 11 = .ok (.getfield 21, 3) := by decide +kernel
theorem dX4_tick_14 : decode cX4_tick 14 = .ok (.aload_n 0, 1) := by decide +kernel
theorem dX4_tick_15 : decode cX4_tick 15 = .ok (.getfield 44, 3) := by decide +kernel
theorem dX4_tick_18 : decode cX4_tick 18 = .ok (.aload_n 0, 1) := by decide +kernel
theorem dX4_tick_19 : decode cX4_tick 19 = .ok (.getfield 12, 3) := by decide +kernel
theorem dX4_tick_22 : decode cX4_tick 22 = .ok (.invokevirtual 176, 3) := by decide +kernel
theorem dX4_tick_25 : decode cX4_tick 25 = .ok (.aload_n 0, 1) := by decide +kernel
theorem dX4_tick_26 : decode cX4_tick 26 = .ok (.invokevirtual 180, 3) := by decide +kernel
theorem dX4_tick_29 : decode cX4_tick 29 = .ok (.aload_n 0, 1) := by decide +kernel
theorem dX4_tick_30 : decode cX4_tick 30 = .ok (.invokevirtual 183, 3) := by decide +kernel
theorem dX4_tick_33 : decode cX4_tick 33 = .ok (.aload_n 0, 1) := by decide +kernel
theorem dX4_tick_34 : decode cX4_tick 34 = .ok (.invokevirtual 186, 3) := by decide +kernel
theorem dX4_tick_37 : decode cX4_tick 37 = .ok (.aload_n 0, 1) := by decide +kernel
theorem dX4_tick_38 : decode cX4_tick 38 = .ok (.invokevirtual 189, 3) := by decide +kernel
theorem dX4_tick_41 : decode cX4_tick 41 = .ok (.return_, 1) := by decide +kernel
theorem dX4_moveDrones_0 : decode cX4_moveDrones 0 = .ok (.iconst 0, 1) := by decide +kernel
theorem dX4_moveDrones_1 : decode cX4_moveDrones 1 = .ok (.istore_n 1, 1) := by decide +kernel
theorem dX4_moveDrones_2 : decode cX4_moveDrones 2 = .ok (.iload_n 1, 1) := by decide +kernel
theorem dX4_moveDrones_3 : decode cX4_moveDrones 3 = .ok (.aload_n 0, 1) := by decide +kernel
theorem dX4_moveDrones_4 : decode cX4_moveDrones 4 = .ok (.getfield 12, 3) := by decide +kernel
theorem dX4_moveDrones_7 : decode cX4_moveDrones 7 = .ok (.getfield 111, 3) := by decide +kernel
theorem dX4_moveDrones_10 : decode cX4_moveDrones 10 = .ok (.if_icmp .ge 108, 3) := by decide +kernel
theorem dX4_moveDrones_13 : decode cX4_moveDrones 13 = .ok (.iconst 1, 1) := by decide +kernel
theorem dX4_moveDrones_14 : decode cX4_moveDrones 14 = .ok (.istore_n 2, 1) := by decide +kernel
theorem dX4_moveDrones_15 : decode cX4_moveDrones 15 = .ok (.aload_n 0, 1) := by decide +kernel
theorem dX4_moveDrones_16 : decode cX4_moveDrones 16 = .ok (.getfield 12, 3) := by decide +kernel
theorem dX4_moveDrones_19 : decode cX4_moveDrones 19 = .ok (.iload_n 1, 1) := by decide +kernel
theorem dX4_moveDrones_20 : decode cX4_moveDrones 20 = .ok (.invokevirtual 192, 3) := by decide +kernel
theorem dX4_moveDrones_23 : decode cX4_moveDrones 23 = .ok (.iconst (-1), 1) := by decide +kernel
theorem dX4_moveDrones_24 : decode cX4_moveDrones 24 = .ok (.if_icmp .eq 52, 3) := by decide +kernel
theorem dX4_moveDrones_27 : decode cX4_moveDrones 27 = .ok (.aload_n 0, 1) := by decide +kernel
theorem dX4_moveDrones_28 : decode cX4_moveDrones 28 = .ok (.getfield 12, 3) := by decide +kernel
theorem dX4_moveDrones_31 : decode cX4_moveDrones 31 = .ok (.iload_n 1, 1) := by decide +kernel
theorem dX4_moveDrones_32 : decode cX4_moveDrones 32 = .ok (.invokevirtual 195, 3) := by decide +kernel
theorem dX4_moveDrones_35 : decode cX4_moveDrones 35 = .ok (.istore_n 3, 1) := by decide +kernel
theorem dX4_moveDrones_36 : decode cX4_moveDrones 36 = .ok (.iload_n 3, 1) := by decide +kernel
theorem dX4_moveDrones_37 : decode cX4_moveDrones 37 = .ok (.iconst (-1), 1) := by decide +kernel
theorem dX4_moveDrones_38 : decode cX4_moveDrones 38 = .ok (.if_icmp .ne 16, 3) := by decide +kernel
theorem dX4_moveDrones_41 : decode cX4_moveDrones 41 = .ok (.aload_n 0, 1) := by decide +kernel
theorem dX4_moveDrones_42 : decode cX4_moveDrones 42 = .ok (.dup, 1) := by decide +kernel
theorem dX4_moveDrones_43 : decode cX4_moveDrones 43 = .ok (.getfield 50, 3) := by decide +kernel
theorem dX4_moveDrones_46 : decode cX4_moveDrones 46 = .ok (.iconst 1, 1) := by decide +kernel
theorem dX4_moveDrones_47 : decode cX4_moveDrones 47 = .ok (.iadd, 1) := by decide +kernel
theorem dX4_moveDrones_48 : decode cX4_moveDrones 48 = .ok (.putfield 50, 3) := by decide +kernel
theorem dX4_moveDrones_51 : decode cX4_moveDrones 51 = .ok (.goto 25, 3) := by decide +kernel
theorem dX4_moveDrones_54 : decode cX4_moveDrones 54 = .ok (.aload_n 0, 1) := by decide +kernel
theorem dX4_moveDrones_55 : decode cX4_moveDrones 55 = .ok (.getfield 12, 3) := by decide +kernel
theorem dX4_moveDrones_58 : decode cX4_moveDrones 58 = .ok (.getfield 117, 3) := by decide +kernel
theorem dX4_moveDrones_61 : decode cX4_moveDrones 61 = .ok (.iload_n 1, 1) := by decide +kernel
theorem dX4_moveDrones_62 : decode cX4_moveDrones 62 = .ok (.iload_n 3, 1) := by decide +kernel
theorem dX4_moveDrones_63 : decode cX4_moveDrones 63 = .ok (.iastore, 1) := by decide +kernel
theorem dX4_moveDrones_64 : decode cX4_moveDrones 64 = .ok (.aload_n 0, 1) := by decide +kernel
theorem dX4_moveDrones_65 : decode cX4_moveDrones 65 = .ok (.dup, 1) := by decide +kernel
theorem dX4_moveDrones_66 : decode cX4_moveDrones 66 = .ok (.getfield 47, 3) := by decide +kernel
theorem dX4_moveDrones_69 : decode cX4_moveDrones 69 = .ok (.iconst 1, 1) := by decide +kernel
theorem dX4_moveDrones_70 : decode cX4_moveDrones 70 = .ok (.iadd, 1) := by decide +kernel
theorem dX4_moveDrones_71 : decode cX4_moveDrones 71 = .ok (.putfield 47, 3) := by decide +kernel
theorem dX4_moveDrones_74 : decode cX4_moveDrones 74 = .ok (.iconst 2, 1) := by decide +kernel
theorem dX4_moveDrones_75 : decode cX4_moveDrones 75 = .ok (.istore_n 2, 1) := by decide +kernel
theorem dX4_moveDrones_76 : decode cX4_moveDrones 76 = .ok (.aload_n 0, 1) := by decide +kernel
theorem dX4_moveDrones_77 : decode cX4_moveDrones 77 = .ok (.getfield 12, 3) := by decide +kernel
theorem dX4_moveDrones_80 : decode cX4_moveDrones 80 = .ok (.getfield 143, 3) := by decide +kernel
theorem dX4_moveDrones_83 : decode cX4_moveDrones 83 = .ok (.iload_n 1, 1) := by decide +kernel
theorem dX4_moveDrones_84 : decode cX4_moveDrones 84 = .ok (.baload, 1) := by decide +kernel
theorem dX4_moveDrones_85 : decode cX4_moveDrones 85 = .ok (.ifCond .eq 27, 3) := by decide +kernel
theorem dX4_moveDrones_88 : decode cX4_moveDrones 88 = .ok (.aload_n 0, 1) := by decide +kernel
theorem dX4_moveDrones_89 : decode cX4_moveDrones 89 = .ok (.getfield 12, 3) := by decide +kernel
theorem dX4_moveDrones_92 : decode cX4_moveDrones 92 = .ok (.getfield 120, 3) := by decide +kernel
theorem dX4_moveDrones_95 : decode cX4_moveDrones 95 = .ok (.iload_n 1, 1) := by decide +kernel
theorem dX4_moveDrones_96 : decode cX4_moveDrones 96 = .ok (.iconst 0, 1) := by decide +kernel
theorem dX4_moveDrones_97 : decode cX4_moveDrones 97 = .ok (.aload_n 0, 1) := by decide +kernel
theorem dX4_moveDrones_98 : decode cX4_moveDrones 98 = .ok (.getfield 12, 3) := by decide +kernel
theorem dX4_moveDrones_101 : decode cX4_moveDrones 101 = .ok (.getfield 120, 3) := by decide +kernel
theorem dX4_moveDrones_104 : decode cX4_moveDrones 104 = .ok (.iload_n 1, 1) := by decide +kernel
theorem dX4_moveDrones_105 : decode cX4_moveDrones 105 = .ok (.iaload, 1) := by decide +kernel
theorem dX4_moveDrones_106 : decode cX4_moveDrones 106 = .ok (.iload_n 2, 1) := by decide +kernel
theorem dX4_moveDrones_107 : decode cX4_moveDrones 107 = .ok (.isub, 1) := by decide +kernel
theorem dX4_moveDrones_108 : decode cX4_moveDrones 108 = .ok (.invokestatic 198, 3) := by decide +kernel
theorem dX4_moveDrones_111 : decode cX4_moveDrones 111 = .ok (.iastore, 1) := by decide +kernel
theorem dX4_moveDrones_112 : decode cX4_moveDrones 112 = .ok (.iinc 1 1, 3) := by decide +kernel
theorem dX4_moveDrones_115 : decode cX4_moveDrones 115 = .ok (.goto (-113), 3) := by decide +kernel
theorem dX4_moveDrones_118 : decode cX4_moveDrones 118 = .ok (.return_, 1) := by decide +kernel
theorem dX4_beginEmergencies_0 : decode cX4_beginEmergencies 0 = .ok (.iconst 0, 1) := by decide +kernel
theorem dX4_beginEmergencies_1 : decode cX4_beginEmergencies 1 = .ok (.istore_n 1, 1) := by decide +kernel
theorem dX4_beginEmergencies_2 : decode cX4_beginEmergencies 2 = .ok (.iload_n 1, 1) := by decide +kernel
theorem dX4_beginEmergencies_3 : decode cX4_beginEmergencies 3 = .ok (.aload_n 0, 1) := by decide +kernel
theorem dX4_beginEmergencies_4 : decode cX4_beginEmergencies 4 = .ok (.getfield 12, 3) := by decide +kernel
theorem dX4_beginEmergencies_7 : decode cX4_beginEmergencies 7 = .ok (.getfield 111, 3) := by decide +kernel
theorem dX4_beginEmergencies_10 : decode cX4_beginEmergencies 10 = .ok (.if_icmp .ge 93, 3) := by decide +kernel
theorem dX4_beginEmergencies_13 : decode cX4_beginEmergencies 13 = .ok (.aload_n 0, 1) := by decide +kernel
theorem dX4_beginEmergencies_14 : decode cX4_beginEmergencies 14 = .ok (.getfield 12, 3) := by decide +kernel
theorem dX4_beginEmergencies_17 : decode cX4_beginEmergencies 17 = .ok (.iload_n 1, 1) := by decide +kernel
theorem dX4_beginEmergencies_18 : decode cX4_beginEmergencies 18 = .ok (.invokevirtual 203, 3) := by decide +kernel
theorem dX4_beginEmergencies_21 : decode cX4_beginEmergencies 21 = .ok (.ifCond .eq 76, 3) := by decide +kernel
theorem dX4_beginEmergencies_24 : decode cX4_beginEmergencies 24 = .ok (.aload_n 0, 1) := by decide +kernel
theorem dX4_beginEmergencies_25 : decode cX4_beginEmergencies 25 = .ok (.getfield 12, 3) := by decide +kernel
theorem dX4_beginEmergencies_28 : decode cX4_beginEmergencies 28 = .ok (.getfield 120, 3) := by decide +kernel
theorem dX4_beginEmergencies_31 : decode cX4_beginEmergencies 31 = .ok (.iload_n 1, 1) := by decide +kernel
theorem dX4_beginEmergencies_32 : decode cX4_beginEmergencies 32 = .ok (.iaload, 1) := by decide +kernel
theorem dX4_beginEmergencies_33 : decode cX4_beginEmergencies 33 = .ok (.aload_n 0, 1) := by decide +kernel
theorem dX4_beginEmergencies_34 : decode cX4_beginEmergencies 34 = .ok (.getfield 29, 3) := by decide +kernel
theorem dX4_beginEmergencies_37 : decode cX4_beginEmergencies 37 = .ok (.if_icmp .gt 60, 3) := by decide +kernel
theorem dX4_beginEmergencies_40 : decode cX4_beginEmergencies 40 = .ok (.aload_n 0, 1) := by decide +kernel
theorem dX4_beginEmergencies_41 : decode cX4_beginEmergencies 41 = .ok (.aload_n 0, 1) := by decide +kernel
theorem dX4_beginEmergencies_42 : decode cX4_beginEmergencies 42 = .ok (.getfield 12, 3) := by decide +kernel
theorem dX4_beginEmergencies_45 : decode cX4_beginEmergencies 45 = .ok (.getfield 117, 3) := by decide +kernel
theorem dX4_beginEmergencies_48 : decode cX4_beginEmergencies 48 = .ok (.iload_n 1, 1) := by decide +kernel
theorem dX4_beginEmergencies_49 : decode cX4_beginEmergencies 49 = .ok (.iaload, 1) := by decide +kernel
theorem dX4_beginEmergencies_50 : decode cX4_beginEmergencies 50 = .ok (.invokevirtual 206, 3) := by decide +kernel
theorem dX4_beginEmergencies_53 : decode cX4_beginEmergencies 53 = .ok (.istore_n 2, 1) := by decide +kernel
theorem dX4_beginEmergencies_54 : decode cX4_beginEmergencies 54 = .ok (.iload_n 2, 1) := by decide +kernel
theorem dX4_beginEmergencies_55 : decode cX4_beginEmergencies 55 = .ok (.iconst (-1), 1) := by decide +kernel
theorem dX4_beginEmergencies_56 : decode cX4_beginEmergencies 56 = .ok (.if_icmp .ne 11, 3) := by decide +kernel
theorem dX4_beginEmergencies_59 : decode cX4_beginEmergencies 59 = .ok (.aload_n 0, 1) := by decide +kernel
theorem dX4_beginEmergencies_60 : decode cX4_beginEmergencies 60 = .ok (.iload_n 1, 1) := by decide +kernel
theorem dX4_beginEmergencies_61 : decode cX4_beginEmergencies 61 = .ok (.invokevirtual 209, 3) := by decide +kernel
theorem dX4_beginEmergencies_64 : decode cX4_beginEmergencies 64 = .ok (.goto 33, 3) := by decide +kernel
theorem dX4_beginEmergencies_67 : decode cX4_beginEmergencies 67 = .ok (.aload_n 0, 1) := by decide +kernel
theorem dX4_beginEmergencies_68 : decode cX4_beginEmergencies 68 = .ok (.getfield 12, 3) := by decide +kernel
theorem dX4_beginEmergencies_71 : decode cX4_beginEmergencies 71 = .ok (.getfield 150, 3) := by decide +kernel
theorem dX4_beginEmergencies_74 : decode cX4_beginEmergencies 74 = .ok (.iload_n 1, 1) := by decide +kernel
theorem dX4_beginEmergencies_75 : decode cX4_beginEmergencies 75 = .ok (.iconst 1, 1) := by decide +kernel
theorem dX4_beginEmergencies_76 : decode cX4_beginEmergencies 76 = .ok (.bastore, 1) := by decide +kernel
theorem dX4_beginEmergencies_77 : decode cX4_beginEmergencies 77 = .ok (.aload_n 0, 1) := by decide +kernel
theorem dX4_beginEmergencies_78 : decode cX4_beginEmergencies 78 = .ok (.getfield 12, 3) := by decide +kernel
theorem dX4_beginEmergencies_81 : decode cX4_beginEmergencies 81 = .ok (.getfield 153, 3) := by decide +kernel
theorem dX4_beginEmergencies_84 : decode cX4_beginEmergencies 84 = .ok (.iload_n 1, 1) := by decide +kernel
theorem dX4_beginEmergencies_85 : decode cX4_beginEmergencies 85 = .ok (.iload_n 2, 1) := by decide +kernel
theorem dX4_beginEmergencies_86 : decode cX4_beginEmergencies 86 = .ok (.iastore, 1) := by decide +kernel
theorem dX4_beginEmergencies_87 : decode cX4_beginEmergencies 87 = .ok (.aload_n 0, 1) := by decide +kernel
theorem dX4_beginEmergencies_88 : decode cX4_beginEmergencies 88 = .ok (.dup, 1) := by decide +kernel
theorem dX4_beginEmergencies_89 : decode cX4_beginEmergencies 89 = .ok (.getfield 53, 3) := by decide +kernel
theorem dX4_beginEmergencies_92 : decode cX4_beginEmergencies 92 = .ok (.iconst 1, 1) := by decide +kernel
theorem dX4_beginEmergencies_93 : decode cX4_beginEmergencies 93 = .ok (.iadd, 1) := by decide +kernel
theorem dX4_beginEmergencies_94 : decode cX4_beginEmergencies 94 = .ok (.putfield 53, 3) := by decide +kernel
theorem dX4_beginEmergencies_97 : decode cX4_beginEmergencies 97 = .ok (.iinc 1 1, 3) := by decide +kernel
theorem dX4_beginEmergencies_100 : decode cX4_beginEmergencies 100 = .ok (.goto (-98), 3) := by decide +kernel
theorem dX4_beginEmergencies_103 : decode cX4_beginEmergencies 103 = .ok (.return_, 1) := by decide +kernel
theorem dX4_endFlights_0 : decode cX4_endFlights 0 = .ok (.iconst 0, 1) := by decide +kernel
theorem dX4_endFlights_1 : decode cX4_endFlights 1 = .ok (.istore_n 1, 1) := by decide +kernel
theorem dX4_endFlights_2 : decode cX4_endFlights 2 = .ok (.iload_n 1, 1) := by decide +kernel
theorem dX4_endFlights_3 : decode cX4_endFlights 3 = .ok (.aload_n 0, 1) := by decide +kernel
theorem dX4_endFlights_4 : decode cX4_endFlights 4 = .ok (.getfield 12, 3) := by decide +kernel
theorem dX4_endFlights_7 : decode cX4_endFlights 7 = .ok (.getfield 111, 3) := by decide +kernel
theorem dX4_endFlights_10 : decode cX4_endFlights 10 = .ok (.if_icmp .ge 82, 3) := by decide +kernel
theorem dX4_endFlights_13 : decode cX4_endFlights 13 = .ok (.aload_n 0, 1) := by decide +kernel
theorem dX4_endFlights_14 : decode cX4_endFlights 14 = .ok (.getfield 12, 3) := by decide +kernel
theorem dX4_endFlights_17 : decode cX4_endFlights 17 = .ok (.getfield 150, 3) := by decide +kernel
theorem dX4_endFlights_20 : decode cX4_endFlights 20 = .ok (.iload_n 1, 1) := by decide +kernel
theorem dX4_endFlights_21 : decode cX4_endFlights 21 = .ok (.baload, 1) := by decide +kernel
theorem dX4_endFlights_22 : decode cX4_endFlights 22 = .ok (.ifCond .eq 35, 3) := by decide +kernel
theorem dX4_endFlights_25 : decode cX4_endFlights 25 = .ok (.aload_n 0, 1) := by decide +kernel
theorem dX4_endFlights_26 : decode cX4_endFlights 26 = .ok (.getfield 12, 3) := by decide +kernel
theorem dX4_endFlights_29 : decode cX4_endFlights 29 = .ok (.getfield 117, 3) := by decide +kernel
theorem dX4_endFlights_32 : decode cX4_endFlights 32 = .ok (.iload_n 1, 1) := by decide +kernel
theorem dX4_endFlights_33 : decode cX4_endFlights 33 = .ok (.iaload, 1) := by decide +kernel
theorem dX4_endFlights_34 : decode cX4_endFlights 34 = .ok (.aload_n 0, 1) := by decide +kernel
theorem dX4_endFlights_35 : decode cX4_endFlights 35 = .ok (.getfield 12, 3) := by decide +kernel
theorem dX4_endFlights_38 : decode cX4_endFlights 38 = .ok (.getfield 153, 3) := by decide +kernel
theorem dX4_endFlights_41 : decode cX4_endFlights 41 = .ok (.iload_n 1, 1) := by decide +kernel
theorem dX4_endFlights_42 : decode cX4_endFlights 42 = .ok (.iaload, 1) := by decide +kernel
theorem dX4_endFlights_43 : decode cX4_endFlights 43 = .ok (.if_icmp .ne 14, 3) := by decide +kernel
theorem dX4_endFlights_46 : decode cX4_endFlights 46 = .ok (.aload_n 0, 1) := by decide +kernel
theorem dX4_endFlights_47 : decode cX4_endFlights 47 = .ok (.getfield 12, 3) := by decide +kernel
theorem dX4_endFlights_50 : decode cX4_endFlights 50 = .ok (.iload_n 1, 1) := by decide +kernel
theorem dX4_endFlights_51 : decode cX4_endFlights 51 = .ok (.invokevirtual 126, 3) := by decide +kernel
theorem dX4_endFlights_54 : decode cX4_endFlights 54 = .ok (.goto 32, 3) := by decide +kernel
theorem dX4_endFlights_57 : decode cX4_endFlights 57 = .ok (.aload_n 0, 1) := by decide +kernel
theorem dX4_endFlights_58 : decode cX4_endFlights 58 = .ok (.getfield 12, 3) := by decide +kernel
theorem dX4_endFlights_61 : decode cX4_endFlights 61 = .ok (.getfield 143, 3) := by decide +kernel
theorem dX4_endFlights_64 : decode cX4_endFlights 64 = .ok (.iload_n 1, 1) := by decide +kernel
theorem dX4_endFlights_65 : decode cX4_endFlights 65 = .ok (.baload, 1) := by decide +kernel
theorem dX4_endFlights_66 : decode cX4_endFlights 66 = .ok (.ifCond .eq 20, 3) := by decide +kernel
theorem dX4_endFlights_69 : decode cX4_endFlights 69 = .ok (.aload_n 0, 1) := by decide +kernel
theorem dX4_endFlights_70 : decode cX4_endFlights 70 = .ok (.getfield 12, 3) := by decide +kernel
theorem dX4_endFlights_73 : decode cX4_endFlights 73 = .ok (.getfield 120, 3) := by decide +kernel
theorem dX4_endFlights_76 : decode cX4_endFlights 76 = .ok (.iload_n 1, 1) := by decide +kernel
theorem dX4_endFlights_77 : decode cX4_endFlights 77 = .ok (.iaload, 1) := by decide +kernel
theorem dX4_endFlights_78 : decode cX4_endFlights 78 = .ok (.ifCond .ne 8, 3) := by decide +kernel
theorem dX4_endFlights_81 : decode cX4_endFlights 81 = .ok (.aload_n 0, 1) := by decide +kernel
theorem dX4_endFlights_82 : decode cX4_endFlights 82 = .ok (.iload_n 1, 1) := by decide +kernel
theorem dX4_endFlights_83 : decode cX4_endFlights 83 = .ok (.invokevirtual 209, 3) := by decide +kernel
theorem dX4_endFlights_86 : decode cX4_endFlights 86 = .ok (.iinc 1 1, 3) := by decide +kernel
theorem dX4_endFlights_89 : decode cX4_endFlights 89 = .ok (.goto (-87), 3) := by decide +kernel
theorem dX4_endFlights_92 : decode cX4_endFlights 92 = .ok (.return_, 1) := by decide +kernel
theorem dX4_forceDown_0 : decode cX4_forceDown 0 = .ok (.aload_n 0, 1) := by decide +kernel
theorem dX4_forceDown_1 : decode cX4_forceDown 1 = .ok (.getfield 12, 3) := by decide +kernel
theorem dX4_forceDown_4 : decode cX4_forceDown 4 = .ok (.iload_n 1, 1) := by decide +kernel
theorem dX4_forceDown_5 : decode cX4_forceDown 5 = .ok (.invokevirtual 126, 3) := by decide +kernel
theorem dX4_forceDown_8 : decode cX4_forceDown 8 = .ok (.aload_n 0, 1) := by decide +kernel
theorem dX4_forceDown_9 : decode cX4_forceDown 9 = .ok (.dup, 1) := by decide +kernel
theorem dX4_forceDown_10 : decode cX4_forceDown 10 = .ok (.getfield 56, 3) := by decide +kernel
theorem dX4_forceDown_13 : decode cX4_forceDown 13 = .ok (.iconst 1, 1) := by decide +kernel
theorem dX4_forceDown_14 : decode cX4_forceDown 14 = .ok (.iadd, 1) := by decide +kernel
theorem dX4_forceDown_15 : decode cX4_forceDown 15 = .ok (.putfield 56, 3) := by decide +kernel
theorem dX4_forceDown_18 : decode cX4_forceDown 18 = .ok (.return_, 1) := by decide +kernel
theorem dX4_chargeDrones_0 : decode cX4_chargeDrones 0 = .ok (.iconst 0, 1) := by decide +kernel
theorem dX4_chargeDrones_1 : decode cX4_chargeDrones 1 = .ok (.istore_n 1, 1) := by decide +kernel
theorem dX4_chargeDrones_2 : decode cX4_chargeDrones 2 = .ok (.iload_n 1, 1) := by decide +kernel
theorem dX4_chargeDrones_3 : decode cX4_chargeDrones 3 = .ok (.aload_n 0, 1) := by decide +kernel
theorem dX4_chargeDrones_4 : decode cX4_chargeDrones 4 = .ok (.getfield 12, 3) := by decide +kernel
theorem dX4_chargeDrones_7 : decode cX4_chargeDrones 7 = .ok (.getfield 111, 3) := by decide +kernel
theorem dX4_chargeDrones_10 : decode cX4_chargeDrones 10 = .ok (.if_icmp .ge 65, 3) := by decide +kernel
theorem dX4_chargeDrones_13 : decode cX4_chargeDrones 13 = .ok (.aload_n 0, 1) := by decide +kernel
theorem dX4_chargeDrones_14 : decode cX4_chargeDrones 14 = .ok (.getfield 12, 3) := by decide +kernel
theorem dX4_chargeDrones_17 : decode cX4_chargeDrones 17 = .ok (.getfield 143, 3) := by decide +kernel
theorem dX4_chargeDrones_20 : decode cX4_chargeDrones 20 = .ok (.iload_n 1, 1) := by decide +kernel
theorem dX4_chargeDrones_21 : decode cX4_chargeDrones 21 = .ok (.baload, 1) := by decide +kernel
theorem dX4_chargeDrones_22 : decode cX4_chargeDrones 22 = .ok (.ifCond .ne 47, 3) := by decide +kernel
theorem dX4_chargeDrones_25 : decode cX4_chargeDrones 25 = .ok (.aload_n 0, 1) := by decide +kernel
theorem dX4_chargeDrones_26 : decode cX4_chargeDrones 26 = .ok (.getfield 40, 3) := by decide +kernel
theorem dX4_chargeDrones_29 : decode cX4_chargeDrones 29 = .ok (.aload_n 0, 1) := by decide +kernel
theorem dX4_chargeDrones_30 : decode cX4_chargeDrones 30 = .ok (.getfield 12, 3) := by decide +kernel
theorem dX4_chargeDrones_33 : decode cX4_chargeDrones 33 = .ok (.getfield 117, 3) := by decide +kernel
theorem dX4_chargeDrones_36 : decode cX4_chargeDrones 36 = .ok (.iload_n 1, 1) := by decide +kernel
theorem dX4_chargeDrones_37 : decode cX4_chargeDrones 37 = .ok (.iaload, 1) := by decide +kernel
theorem dX4_chargeDrones_38 : decode cX4_chargeDrones 38 = .ok (.invokestatic 130, 3) := by decide +kernel
theorem dX4_chargeDrones_41 : decode cX4_chargeDrones 41 = .ok (.ifCond .eq 28, 3) := by decide +kernel
theorem dX4_chargeDrones_44 : decode cX4_chargeDrones 44 = .ok (.aload_n 0, 1) := by decide +kernel
theorem dX4_chargeDrones_45 : decode cX4_chargeDrones 45 = .ok (.getfield 12, 3) := by decide +kernel
theorem dX4_chargeDrones_48 : decode cX4_chargeDrones 48 = .ok (.getfield 120, 3) := by decide +kernel
theorem dX4_chargeDrones_51 : decode cX4_chargeDrones 51 = .ok (.iload_n 1, 1) := by decide +kernel
theorem dX4_chargeDrones_52 : decode cX4_chargeDrones 52 = .ok (.bipush 100, 2) := by decide +kernel
theorem dX4_chargeDrones_54 : decode cX4_chargeDrones 54 = .ok (.aload_n 0, 1) := by decide +kernel
theorem dX4_chargeDrones_55 : decode cX4_chargeDrones 55 = .ok (.getfield 12, 3) := by decide +kernel
theorem dX4_chargeDrones_58 : decode cX4_chargeDrones 58 = .ok (.getfield 120, 3) := by decide +kernel
theorem dX4_chargeDrones_61 : decode cX4_chargeDrones 61 = .ok (.iload_n 1, 1) := by decide +kernel
theorem dX4_chargeDrones_62 : decode cX4_chargeDrones 62 = .ok (.iaload, 1) := by decide +kernel
theorem dX4_chargeDrones_63 : decode cX4_chargeDrones 63 = .ok (.iconst 5, 1) := by decide +kernel
theorem dX4_chargeDrones_64 : decode cX4_chargeDrones 64 = .ok (.iadd, 1) := by decide +kernel
theorem dX4_chargeDrones_65 : decode cX4_chargeDrones 65 = .ok (.invokestatic 212, 3) := by decide +kernel
theorem dX4_chargeDrones_68 : decode cX4_chargeDrones 68 = .ok (.iastore, 1) := by decide +kernel
theorem dX4_chargeDrones_69 : decode cX4_chargeDrones 69 = .ok (.iinc 1 1, 3) := by decide +kernel
theorem dX4_chargeDrones_72 : decode cX4_chargeDrones 72 = .ok (.goto (-70), 3) := by decide +kernel
theorem dX4_chargeDrones_75 : decode cX4_chargeDrones 75 = .ok (.return_, 1) := by decide +kernel
theorem dX4_padByDistance_0 : decode cX4_padByDistance 0 = .ok (.iconst (-1), 1) := by decide +kernel
theorem dX4_padByDistance_1 : decode cX4_padByDistance 1 = .ok (.istore_n 2, 1) := by decide +kernel
theorem dX4_padByDistance_2 : decode cX4_padByDistance 2 = .ok (.iconst 0, 1) := by decide +kernel
theorem dX4_padByDistance_3 : decode cX4_padByDistance 3 = .ok (.istore_n 3, 1) := by decide +kernel
theorem dX4_padByDistance_4 : decode cX4_padByDistance 4 = .ok (.iload_n 3, 1) := by decide +kernel
theorem dX4_padByDistance_5 : decode cX4_padByDistance 5 = .ok (.bipush 64, 2) := by decide +kernel
theorem dX4_padByDistance_7 : decode cX4_padByDistance 7 = .ok (.if_icmp .ge 40, 3) := by decide +kernel
theorem dX4_padByDistance_10 : decode cX4_padByDistance 10 = .ok (.aload_n 0, 1) := by decide +kernel
theorem dX4_padByDistance_11 : decode cX4_padByDistance 11 = .ok (.getfield 40, 3) := by decide +kernel
theorem dX4_padByDistance_14 : decode cX4_padByDistance 14 = .ok (.iload_n 3, 1) := by decide +kernel
theorem dX4_padByDistance_15 : decode cX4_padByDistance 15 = .ok (.invokestatic 130, 3) := by decide +kernel
theorem dX4_padByDistance_18 : decode cX4_padByDistance 18 = .ok (.ifCond .eq 23, 3) := by decide +kernel
theorem dX4_padByDistance_21 : decode cX4_padByDistance 21 = .ok (.iload_n 2, 1) := by decide +kernel
theorem dX4_padByDistance_22 : decode cX4_padByDistance 22 = .ok (.iconst (-1), 1) := by decide +kernel
theorem dX4_padByDistance_23 : decode cX4_padByDistance 23 = .ok (.if_icmp .eq 16, 3) := by decide +kernel
theorem dX4_padByDistance_26 : decode cX4_padByDistance 26 = .ok (.iload_n 1, 1) := by decide +kernel
theorem dX4_padByDistance_27 : decode cX4_padByDistance 27 = .ok (.iload_n 3, 1) := by decide +kernel
theorem dX4_padByDistance_28 : decode cX4_padByDistance 28 = .ok (.invokestatic 156, 3) := by decide +kernel
theorem dX4_padByDistance_31 : decode cX4_padByDistance 31 = .ok (.iload_n 1, 1) := by decide +kernel
theorem dX4_padByDistance_32 : decode cX4_padByDistance 32 = .ok (.iload_n 2, 1) := by decide +kernel
theorem dX4_padByDistance_33 : decode cX4_padByDistance 33 = .ok (.invokestatic 156, 3) := by decide +kernel
theorem dX4_padByDistance_36 : decode cX4_padByDistance 36 = .ok (.if_icmp .ge 5, 3) := by decide +kernel
theorem dX4_padByDistance_39 : decode cX4_padByDistance 39 = .ok (.iload_n 3, 1) := by decide +kernel
theorem dX4_padByDistance_40 : decode cX4_padByDistance 40 = .ok (.istore_n 2, 1) := by decide +kernel
theorem dX4_padByDistance_41 : decode cX4_padByDistance 41 = .ok (.iinc 3 1, 3) := by decide +kernel
theorem dX4_padByDistance_44 : decode cX4_padByDistance 44 = .ok (.goto (-40), 3) := by decide +kernel
theorem dX4_padByDistance_47 : decode cX4_padByDistance 47 = .ok (.iload_n 2, 1) := by decide +kernel
theorem dX4_padByDistance_48 : decode cX4_padByDistance 48 = .ok (.ireturn, 1) := by decide +kernel
theorem dX4_padByRings_0 : decode cX4_padByRings 0 = .ok (.iconst 0, 1) := by decide +kernel
theorem dX4_padByRings_1 : decode cX4_padByRings 1 = .ok (.istore_n 2, 1) := by decide +kernel
theorem dX4_padByRings_2 : decode cX4_padByRings 2 = .ok (.iload_n 2, 1) := by decide +kernel
theorem dX4_padByRings_3 : decode cX4_padByRings 3 = .ok (.bipush 14, 2) := by decide +kernel
theorem dX4_padByRings_5 : decode cX4_padByRings 5 = .ok (.if_icmp .gt 23, 3) := by decide +kernel
theorem dX4_padByRings_8 : decode cX4_padByRings 8 = .ok (.aload_n 0, 1) := by decide +kernel
theorem dX4_padByRings_9 : decode cX4_padByRings 9 = .ok (.iload_n 1, 1) := by decide +kernel
theorem dX4_padByRings_10 : decode cX4_padByRings 10 = .ok (.iload_n 2, 1) := by decide +kernel
theorem dX4_padByRings_11 : decode cX4_padByRings 11 = .ok (.invokevirtual 215, 3) := by decide +kernel
theorem dX4_padByRings_14 : decode cX4_padByRings 14 = .ok (.istore_n 3, 1) := by decide +kernel
theorem dX4_padByRings_15 : decode cX4_padByRings 15 = .ok (.iload_n 3, 1) := by decide +kernel
theorem dX4_padByRings_16 : decode cX4_padByRings 16 = .ok (.iconst (-1), 1) := by decide +kernel
theorem dX4_padByRings_17 : decode cX4_padByRings 17 = .ok (.if_icmp .eq 5, 3) := by decide +kernel
theorem dX4_padByRings_20 : decode cX4_padByRings 20 = .ok (.iload_n 3, 1) := by decide +kernel
theorem dX4_padByRings_21 : decode cX4_padByRings 21 = .ok (.ireturn, 1) := by decide +kernel
theorem dX4_padByRings_22 : decode cX4_padByRings 22 = .ok (.iinc 2 1, 3) := by decide +kernel
theorem dX4_padByRings_25 : decode cX4_padByRings 25 = .ok (.goto (-23), 3) := by decide +kernel
theorem dX4_padByRings_28 : decode cX4_padByRings 28 = .ok (.iconst (-1), 1) := by decide +kernel
theorem dX4_padByRings_29 : decode cX4_padByRings 29 = .ok (.ireturn, 1) := by decide +kernel
theorem dX4_padOnRing_0 : decode cX4_padOnRing 0 = .ok (.iconst 0, 1) := by decide +kernel
theorem dX4_padOnRing_1 : decode cX4_padOnRing 1 = .ok (.istore_n 3, 1) := by decide +kernel
theorem dX4_padOnRing_2 : decode cX4_padOnRing 2 = .ok (.iload_n 3, 1) := by decide +kernel
theorem dX4_padOnRing_3 : decode cX4_padOnRing 3 = .ok (.bipush 8, 2) := by decide +kernel
theorem dX4_padOnRing_5 : decode cX4_padOnRing 5 = .ok (.if_icmp .ge 112, 3) := by decide +kernel
theorem dX4_padOnRing_8 : decode cX4_padOnRing 8 = .ok (.iload_n 2, 1) := by decide +kernel
theorem dX4_padOnRing_9 : decode cX4_padOnRing 9 = .ok (.iload_n 3, 1) := by decide +kernel
theorem dX4_padOnRing_10 : decode cX4_padOnRing 10 = .ok (.iload_n 1, 1) := by decide +kernel
theorem dX4_padOnRing_11 : decode cX4_padOnRing 11 = .ok (.bipush 8, 2) := by decide +kernel
theorem dX4_padOnRing_13 : decode cX4_padOnRing 13 = .ok (.idiv, 1) := by decide +kernel
theorem dX4_padOnRing_14 : decode cX4_padOnRing 14 = .ok (.isub, 1) := by decide +kernel
theorem dX4_padOnRing_15 : decode cX4_padOnRing 15 = .ok (.invokestatic 218, 3) := by decide +kernel
theorem dX4_padOnRing_18 : decode cX4_padOnRing 18 = .ok (.isub, 1) := by decide +kernel
theorem dX4_padOnRing_19 : decode cX4_padOnRing 19 = .ok (.istore 4, 2) := by decide +kernel
theorem dX4_padOnRing_21 : decode cX4_padOnRing 21 = .ok (.iload_n 1, 1) := by decide +kernel
theorem dX4_padOnRing_22 : decode cX4_padOnRing 22 = .ok (.bipush 8, 2) := by decide +kernel
theorem dX4_padOnRing_24 : decode cX4_padOnRing 24 = .ok (.irem, 1) := by decide +kernel
theorem dX4_padOnRing_25 : decode cX4_padOnRing 25 = .ok (.iload 4, 2) := by decide +kernel
theorem dX4_padOnRing_27 : decode cX4_padOnRing 27 = .ok (.isub, 1) := by decide +kernel
theorem dX4_padOnRing_28 : decode cX4_padOnRing 28 = .ok (.istore 5, 2) := by decide +kernel
theorem dX4_padOnRing_30 : decode cX4_padOnRing 30 = .ok (.iload_n 1, 1) := by decide +kernel
theorem dX4_padOnRing_31 : decode cX4_padOnRing 31 = .ok (.bipush 8, 2) := by decide +kernel
theorem dX4_padOnRing_33 : decode cX4_padOnRing 33 = .ok (.irem, 1) := by decide +kernel
theorem dX4_padOnRing_34 : decode cX4_padOnRing 34 = .ok (.iload 4, 2) := by decide +kernel
theorem dX4_padOnRing_36 : decode cX4_padOnRing 36 = .ok (.iadd, 1) := by decide +kernel
theorem dX4_padOnRing_37 : decode cX4_padOnRing 37 = .ok (.istore 6, 2) := by decide +kernel
theorem dX4_padOnRing_39 : decode cX4_padOnRing 39 = .ok (.iload 4, 2) := by decide +kernel
theorem dX4_padOnRing_41 : decode cX4_padOnRing 41 = .ok (.ifCond .lt 33, 3) := by decide +kernel
theorem dX4_padOnRing_44 : decode cX4_padOnRing 44 = .ok (.iload 5, 2) := by decide +kernel
theorem dX4_padOnRing_46 : decode cX4_padOnRing 46 = .ok (.ifCond .lt 28, 3) := by decide +kernel
theorem dX4_padOnRing_49 : decode cX4_padOnRing 49 = .ok (.aload_n 0, 1) := by decide +kernel
theorem dX4_padOnRing_50 : decode cX4_padOnRing 50 = .ok (.getfield 40, 3) := by decide +kernel
theorem dX4_padOnRing_53 : decode cX4_padOnRing 53 = .ok (.bipush 8, 2) := by decide +kernel
theorem dX4_padOnRing_55 : decode cX4_padOnRing 55 = .ok (.iload_n 3, 1) := by decide +kernel
theorem dX4_padOnRing_56 : decode cX4_padOnRing 56 = .ok (.imul, 1) := by decide +kernel
theorem dX4_padOnRing_57 : decode cX4_padOnRing 57 = .ok (.iload 5, 2) := by decide +kernel
theorem dX4_padOnRing_59 : decode cX4_padOnRing 59 = .ok (.iadd, 1) := by decide +kernel
theorem dX4_padOnRing_60 : decode cX4_padOnRing 60 = .ok (.invokestatic 130, 3) := by decide +kernel
theorem dX4_padOnRing_63 : decode cX4_padOnRing 63 = .ok (.ifCond .eq 11, 3) := by decide +kernel
theorem dX4_padOnRing_66 : decode cX4_padOnRing 66 = .ok (.bipush 8, 2) := by decide +kernel
theorem dX4_padOnRing_68 : decode cX4_padOnRing 68 = .ok (.iload_n 3, 1) := by decide +kernel
theorem dX4_padOnRing_69 : decode cX4_padOnRing 69 = .ok (.imul, 1) := by decide +kernel
theorem dX4_padOnRing_70 : decode cX4_padOnRing 70 = .ok (.iload 5, 2) := by decide +kernel
theorem dX4_padOnRing_72 : decode cX4_padOnRing 72 = .ok (.iadd, 1) := by decide +kernel
theorem dX4_padOnRing_73 : decode cX4_padOnRing 73 = .ok (.ireturn, 1) := by decide +kernel
theorem dX4_padOnRing_74 : decode cX4_padOnRing 74 = .ok (.iload 4, 2) := by decide +kernel
theorem dX4_padOnRing_76 : decode cX4_padOnRing 76 = .ok (.ifCond .lt 35, 3) := by decide +kernel
theorem dX4_padOnRing_79 : decode cX4_padOnRing 79 = .ok (.iload 6, 2) := by decide +kernel
theorem dX4_padOnRing_81 : decode cX4_padOnRing 81 = .ok (.bipush 8, 2) := by decide +kernel
theorem dX4_padOnRing_83 : decode cX4_padOnRing 83 = .ok (.if_icmp .ge 28, 3) := by decide +kernel
theorem dX4_padOnRing_86 : decode cX4_padOnRing 86 = .ok (.aload_n 0, 1) := by decide +kernel
theorem dX4_padOnRing_87 : decode cX4_padOnRing 87 = .ok (.getfield 40, 3) := by decide +kernel
theorem dX4_padOnRing_90 : decode cX4_padOnRing 90 = .ok (.bipush 8, 2) := by decide +kernel
theorem dX4_padOnRing_92 : decode cX4_padOnRing 92 = .ok (.iload_n 3, 1) := by decide +kernel
theorem dX4_padOnRing_93 : decode cX4_padOnRing 93 = .ok (.imul, 1) := by decide +kernel
theorem dX4_padOnRing_94 : decode cX4_padOnRing 94 = .ok (.iload 6, 2) := by decide +kernel
theorem dX4_padOnRing_96 : decode cX4_padOnRing 96 = .ok (.iadd, 1) := by decide +kernel
theorem dX4_padOnRing_97 : decode cX4_padOnRing 97 = .ok (.invokestatic 130, 3) := by decide +kernel
theorem dX4_padOnRing_100 : decode cX4_padOnRing 100 = .ok (.ifCond .eq 11, 3) := by decide +kernel
theorem dX4_padOnRing_103 : decode cX4_padOnRing 103 = .ok (.bipush 8, 2) := by decide +kernel
theorem dX4_padOnRing_105 : decode cX4_padOnRing 105 = .ok (.iload_n 3, 1) := by decide +kernel
theorem dX4_padOnRing_106 : decode cX4_padOnRing 106 = .ok (.imul, 1) := by decide +kernel
theorem dX4_padOnRing_107 : decode cX4_padOnRing 107 = .ok (.iload 6, 2) := by decide +kernel
theorem dX4_padOnRing_109 : decode cX4_padOnRing 109 = .ok (.iadd, 1) := by decide +kernel
theorem dX4_padOnRing_110 : decode cX4_padOnRing 110 = .ok (.ireturn, 1) := by decide +kernel
theorem dX4_padOnRing_111 : decode cX4_padOnRing 111 = .ok (.iinc 3 1, 3) := by decide +kernel
theorem dX4_padOnRing_114 : decode cX4_padOnRing 114 = .ok (.goto (-112), 3) := by decide +kernel
theorem dX4_padOnRing_117 : decode cX4_padOnRing 117 = .ok (.iconst (-1), 1) := by decide +kernel
theorem dX4_padOnRing_118 : decode cX4_padOnRing 118 = .ok (.ireturn, 1) := by decide +kernel
theorem dX4_matchesByMask_0 : decode cX4_matchesByMask 0 = .ok (.aload_n 0, 1) := by decide +kernel
theorem dX4_matchesByMask_1 : decode cX4_matchesByMask 1 = .ok (.getfield 25, 3) := by decide +kernel
theorem dX4_matchesByMask_4 : decode cX4_matchesByMask 4 = .ok (.iload_n 1, 1) := by decide +kernel
theorem dX4_matchesByMask_5 : decode cX4_matchesByMask 5 = .ok (.laload, 1) := by decide +kernel
theorem dX4_matchesByMask_6 : decode cX4_matchesByMask 6 = .ok (.aload_n 0, 1) := by decide +kernel
theorem dX4_matchesByMask_7 : decode cX4_matchesByMask 7 = .ok (.getfield 12, 3) := by decide +kernel
theorem dX4_matchesByMask_10 : decode cX4_matchesByMask 10 = .ok (.invokevirtual 221, 3) := by decide +kernel
theorem dX4_matchesByMask_13 : decode cX4_matchesByMask 13 = .ok (.land, 1) := by decide +kernel
theorem dX4_matchesByMask_14 : decode cX4_matchesByMask 14 = .ok (.invokestatic 134, 3) := by decide +kernel
theorem dX4_matchesByMask_17 : decode cX4_matchesByMask 17 = .ok (.ireturn, 1) := by decide +kernel
theorem dX4_matchesByScan_0 : decode cX4_matchesByScan 0 = .ok (.iconst 0, 1) := by decide +kernel
theorem dX4_matchesByScan_1 : decode cX4_matchesByScan 1 = .ok (.istore_n 2, 1) := by decide +kernel
theorem dX4_matchesByScan_2 : decode cX4_matchesByScan 2 = .ok (.iconst 0, 1) := by decide +kernel
theorem dX4_matchesByScan_3 : decode cX4_matchesByScan 3 = .ok (.istore_n 3, 1) := by decide +kernel
theorem dX4_matchesByScan_4 : decode cX4_matchesByScan 4 = .ok (.iload_n 3, 1) := by decide +kernel
theorem dX4_matchesByScan_5 : decode cX4_matchesByScan 5 = .ok (.bipush 64, 2) := by decide +kernel
theorem dX4_matchesByScan_7 : decode cX4_matchesByScan 7 = .ok (.if_icmp .ge 54, 3) := by decide +kernel
theorem dX4_matchesByScan_10 : decode cX4_matchesByScan 10 = .ok (.aload_n 0, 1) := by decide +kernel
theorem dX4_matchesByScan_11 : decode cX4_matchesByScan 11 = .ok (.getfield 12, 3) := by decide +kernel
theorem dX4_matchesByScan_14 : decode cX4_matchesByScan 14 = .ok (.iload_n 3, 1) := by decide +kernel
theorem dX4_matchesByScan_15 : decode cX4_matchesByScan 15 = .ok (.invokevirtual 114, 3) := by decide +kernel
theorem dX4_matchesByScan_18 : decode cX4_matchesByScan 18 = .ok (.istore 4, 2) := by decide +kernel
theorem dX4_matchesByScan_20 : decode cX4_matchesByScan 20 = .ok (.aload_n 0, 1) := by decide +kernel
theorem dX4_matchesByScan_21 : decode cX4_matchesByScan 21 = .ok (.getfield 25, 3) := by decide +kernel
theorem dX4_matchesByScan_24 : decode cX4_matchesByScan 24 = .ok (.iload_n 1, 1) := by decide +kernel
theorem dX4_matchesByScan_25 : decode cX4_matchesByScan 25 = .ok (.laload, 1) := by decide +kernel
theorem dX4_matchesByScan_26 : decode cX4_matchesByScan 26 = .ok (.iload_n 3, 1) := by decide +kernel
theorem dX4_matchesByScan_27 : decode cX4_matchesByScan 27 = .ok (.invokestatic 130, 3) := by decide +kernel
theorem dX4_matchesByScan_30 : decode cX4_matchesByScan 30 = .ok (.ifCond .eq 25, 3) := by decide +kernel
theorem dX4_matchesByScan_33 : decode cX4_matchesByScan 33 = .ok (.iload 4, 2) := by decide +kernel
theorem dX4_matchesByScan_35 : decode cX4_matchesByScan 35 = .ok (.iconst (-1), 1) := by decide +kernel
theorem dX4_matchesByScan_36 : decode cX4_matchesByScan 36 = .ok (.if_icmp .eq 19, 3) := by decide +kernel
theorem dX4_matchesByScan_39 : decode cX4_matchesByScan 39 = .ok (.aload_n 0, 1) := by decide +kernel
theorem dX4_matchesByScan_40 : decode cX4_matchesByScan 40 = .ok (.getfield 12, 3) := by decide +kernel
theorem dX4_matchesByScan_43 : decode cX4_matchesByScan 43 = .ok (.getfield 143, 3) := by decide +kernel
theorem dX4_matchesByScan_46 : decode cX4_matchesByScan 46 = .ok (.iload 4, 2) := by decide +kernel
theorem dX4_matchesByScan_48 : decode cX4_matchesByScan 48 = .ok (.baload, 1) := by decide +kernel
theorem dX4_matchesByScan_49 : decode cX4_matchesByScan 49 = .ok (.ifCond .eq 6, 3) := by decide +kernel
theorem dX4_matchesByScan_52 : decode cX4_matchesByScan 52 = .ok (.iinc 2 1, 3) := by decide +kernel
theorem dX4_matchesByScan_55 : decode cX4_matchesByScan 55 = .ok (.iinc 3 1, 3) := by decide +kernel
theorem dX4_matchesByScan_58 : decode cX4_matchesByScan 58 = .ok (.goto (-54), 3) := by decide +kernel
theorem dX4_matchesByScan_61 : decode cX4_matchesByScan 61 = .ok (.iload_n 2, 1) := by decide +kernel
theorem dX4_matchesByScan_62 : decode cX4_matchesByScan 62 = .ok (.ireturn, 1) := by decide +kernel
theorem dX4_picture_0 : decode cX4_picture 0 = .ok (.aload_n 0, 1) := by decide +kernel
theorem dX4_picture_1 : decode cX4_picture 1 = .ok (.getfield 12, 3) := by decide +kernel
theorem dX4_picture_4 : decode cX4_picture 4 = .ok (.iload_n 1, 1) := by decide +kernel
theorem dX4_picture_5 : decode cX4_picture 5 = .ok (.invokevirtual 114, 3) := by decide +kernel
theorem dX4_picture_8 : decode cX4_picture 8 = .ok (.istore_n 2, 1) := by decide +kernel
theorem dX4_picture_9 : decode cX4_picture 9 = .ok (.iload_n 2, 1) := by decide +kernel
theorem dX4_picture_10 : decode cX4_picture 10 = .ok (.iconst (-1), 1) := by decide +kernel
theorem dX4_picture_11 : decode cX4_picture 11 = .ok (.if_icmp .eq 26, 3) := by decide +kernel
theorem dX4_picture_14 : decode cX4_picture 14 = .ok (.aload_n 0, 1) := by decide +kernel
theorem dX4_picture_15 : decode cX4_picture 15 = .ok (.getfield 12, 3) := by decide +kernel
theorem dX4_picture_18 : decode cX4_picture 18 = .ok (.getfield 143, 3) := by decide +kernel
theorem dX4_picture_21 : decode cX4_picture 21 = .ok (.iload_n 2, 1) := by decide +kernel
theorem dX4_picture_22 : decode cX4_picture 22 = .ok (.baload, 1) := by decide +kernel
theorem dX4_picture_23 : decode cX4_picture 23 = .ok (.ifCond .eq 8, 3) := by decide +kernel
theorem dX4_picture_26 : decode cX4_picture 26 = .ok (.bipush 48, 2) := by decide +kernel
theorem dX4_picture_28 : decode cX4_picture 28 = .ok (.goto 5, 3) := by decide +kernel
theorem dX4_picture_31 : decode cX4_picture 31 = .ok (.bipush 97, 2) := by decide +kernel
theorem dX4_picture_33 : decode cX4_picture 33 = .ok (.iload_n 2, 1) := by decide +kernel
theorem dX4_picture_34 : decode cX4_picture 34 = .ok (.iadd, 1) := by decide +kernel
theorem dX4_picture_35 : decode cX4_picture 35 = .ok (.i2c, 1) := by decide +kernel
theorem dX4_picture_36 : decode cX4_picture 36 = .ok (.ireturn, 1) := by decide +kernel
theorem dX4_picture_37 : decode cX4_picture 37 = .ok (.aload_n 0, 1) := by decide +kernel
theorem dX4_picture_38 : decode cX4_picture 38 = .ok (.getfield 40, 3) := by decide +kernel
theorem dX4_picture_41 : decode cX4_picture 41 = .ok (.iload_n 1, 1) := by decide +kernel
theorem dX4_picture_42 : decode cX4_picture 42 = .ok (.invokestatic 130, 3) := by decide +kernel
theorem dX4_picture_45 : decode cX4_picture 45 = .ok (.ifCond .eq 8, 3) := by decide +kernel
theorem dX4_picture_48 : decode cX4_picture 48 = .ok (.bipush 95, 2) := by decide +kernel
theorem dX4_picture_50 : decode cX4_picture 50 = .ok (.goto 5, 3) := by decide +kernel
theorem dX4_picture_53 : decode cX4_picture 53 = .ok (.bipush 46, 2) := by decide +kernel
theorem dX4_picture_55 : decode cX4_picture 55 = .ok (.ireturn, 1) := by decide +kernel
theorem dX5_init_0 : decode cX5_init 0 = .ok (.aload_n 0, 1) := by decide +kernel
theorem dX5_init_1 : decode cX5_init 1 = .ok (.invokespecial 3, 3) := by decide +kernel
theorem dX5_init_4 : decode cX5_init 4 = .ok (.aload_n 0, 1) := by decide +kernel
theorem dX5_init_5 : decode cX5_init 5 = .ok (.bipush 60, 2) := by decide +kernel
theorem dX5_init_7 : decode cX5_init 7 = .ok (.newarray .char, 2) := by decide +kernel
theorem dX5_init_9 : decode cX5_init 9 = .ok (.putfield 9, 3) := by decide +kernel
theorem dX5_init_12 : decode cX5_init 12 = .ok (.aload_n 0, 1) := by decide +kernel
theorem dX5_init_13 : decode cX5_init 13 = .ok (.bipush 12, 2) := by decide +kernel
theorem dX5_init_15 : decode cX5_init 15 = .ok (.anewarray 15, 3) := by decide +kernel
theorem dX5_init_18 : decode cX5_init 18 = .ok (.putfield 17, 3) := by decide +kernel
theorem dX5_init_21 : decode cX5_init 21 = .ok (.aload_n 0, 1) := by decide +kernel
theorem dX5_init_22 : decode cX5_init 22 = .ok (.bipush 12, 2) := by decide +kernel
theorem dX5_init_24 : decode cX5_init 24 = .ok (.iconst 3, 1) := by decide +kernel
theorem dX5_init_25 : decode cX5_init 25 = .ok (.multianewarray 21 2, 4) := by decide +kernel
theorem dX5_init_29 : decode cX5_init 29 = .ok (.putfield 23, 3) := by decide +kernel
theorem dX5_init_32 : decode cX5_init 32 = .ok (.return_, 1) := by decide +kernel
theorem dX5_put_0 : decode cX5_put 0 = .ok (.aload_n 0, 1) := by decide +kernel
theorem dX5_put_1 : decode cX5_put 1 = .ok (.getfield 9, 3) := by decide +kernel
theorem dX5_put_4 : decode cX5_put 4 = .ok (.aload_n 0, 1) := by decide +kernel
theorem dX5_put_5 : decode cX5_put 5 = .ok (.getfield 26, 3) := by decide +kernel
theorem dX5_put_8 : decode cX5_put 8 = .ok (.iload_n 1, 1) := by decide +kernel
theorem dX5_put_9 : decode cX5_put 9 = .ok (.castore, 1) := by decide +kernel
theorem dX5_put_10 : decode cX5_put 10 = .ok (.aload_n 0, 1) := by decide +kernel
theorem dX5_put_11 : decode cX5_put 11 = .ok (.dup, 1) := by decide +kernel
theorem dX5_put_12 : decode cX5_put 12 = .ok (.getfield 26, 3) := by decide +kernel
theorem dX5_put_15 : decode cX5_put 15 = .ok (.iconst 1, 1) := by decide +kernel
theorem dX5_put_16 : decode cX5_put 16 = .ok (.iadd, 1) := by decide +kernel
theorem dX5_put_17 : decode cX5_put 17 = .ok (.putfield 26, 3) := by decide +kernel
theorem dX5_put_20 : decode cX5_put 20 = .ok (.return_, 1) := by decide +kernel
theorem dX5_parse_0 : decode cX5_parse 0 = .ok (.aload_n 0, 1) := by decide +kernel
theorem dX5_parse_1 : decode cX5_parse 1 = .ok (.iconst 0, 1) := by decide +kernel
theorem dX5_parse_2 : decode cX5_parse 2 = .ok (.putfield 30, 3) := by decide +kernel
theorem dX5_parse_5 : decode cX5_parse 5 = .ok (.iconst 0, 1) := by decide +kernel
theorem dX5_parse_6 : decode cX5_parse 6 = .ok (.istore_n 1, 1) := by decide +kernel
theorem dX5_parse_7 : decode cX5_parse 7 = .ok (.iload_n 1, 1) := by decide +kernel
theorem dX5_parse_8 : decode cX5_parse 8 = .ok (.bipush 12, 2) := by decide +kernel
theorem dX5_parse_10 : decode cX5_parse 10 = .ok (.if_icmp .ge 50, 3) := by decide +kernel
theorem dX5_parse_13 : decode cX5_parse 13 = .ok (.aload_n 0, 1) := by decide +kernel
theorem dX5_parse_14 : decode cX5_parse 14 = .ok (.iload_n 1, 1) := by decide +kernel
theorem dX5_parse_15 : decode cX5_parse 15 = .ok (.invokevirtual 33, 3) := by decide +kernel
theorem dX5_parse_18 : decode cX5_parse 18 = .ok (.ifCond .ne 5, 3) := by decide +kernel
theorem dX5_parse_21 : decode cX5_parse 21 = .ok (.iconst 0, 1) := by decide +kernel
theorem dX5_parse_22 : decode cX5_parse 22 = .ok (.ireturn, 1) := by decide +kernel
theorem dX5_parse_23 : decode cX5_parse 23 = .ok (.aload_n 0, 1) := by decide +kernel
theorem dX5_parse_24 : decode cX5_parse 24 = .ok (.iload_n 1, 1) := by decide +kernel
theorem dX5_parse_25 : decode cX5_parse 25 = .ok (.iconst 1, 1) := by decide +kernel
theorem dX5_parse_26 : decode cX5_parse 26 = .ok (.iadd, 1) := by decide +kernel
theorem dX5_parse_27 : decode cX5_parse 27 = .ok (.putfield 37, 3) := by decide +kernel
theorem dX5_parse_30 : decode cX5_parse 30 = .ok (.aload_n 0, 1) := by decide +kernel
theorem dX5_parse_31 : decode cX5_parse 31 = .ok (.getfield 30, 3) := by decide +kernel
theorem dX5_parse_34 : decode cX5_parse 34 = .ok (.aload_n 0, 1) := by decide +kernel
theorem dX5_parse_35 : decode cX5_parse 35 = .ok (.getfield 26, 3) := by decide +kernel
theorem dX5_parse_38 : decode cX5_parse 38 = .ok (.if_icmp .ne 5, 3) := by decide +kernel
theorem dX5_parse_41 : decode cX5_parse 41 = .ok (.iconst 1, 1) := by decide +kernel
theorem dX5_parse_42 : decode cX5_parse 42 = .ok (.ireturn, 1) := by decide +kernel
theorem dX5_parse_43 : decode cX5_parse 43 = .ok (.aload_n 0, 1) := by decide +kernel
theorem dX5_parse_44 : decode cX5_parse 44 = .ok (.bipush 59, 2) := by decide +kernel
theorem dX5_parse_46 : decode cX5_parse 46 = .ok (.invokevirtual 40, 3) := by decide +kernel
theorem dX5_parse_49 : decode cX5_parse 49 = .ok (.ifCond .ne 5, 3) := by decide +kernel
theorem dX5_parse_52 : decode cX5_parse 52 = .ok (.iconst 0, 1) := by decide +kernel
theorem dX5_parse_53 : decode cX5_parse 53 = .ok (.ireturn, 1) := by decide +kernel
theorem dX5_parse_54 : decode cX5_parse 54 = .ok (.iinc 1 1, 3) := by decide +kernel
theorem dX5_parse_57 : decode cX5_parse 57 = .ok (.goto (-50), 3) := by decide +kernel
theorem dX5_parse_60 : decode cX5_parse 60 = .ok (.iconst 0, 1) := by decide +kernel
theorem dX5_parse_61 : decode cX5_parse 61 = .ok (.ireturn, 1) := by decide +kernel
theorem dX5_parseCommand_0 : decode cX5_parseCommand 0 = .ok (.aload_n 0, 1) := by decide +kernel
theorem dX5_parseCommand_1 : decode cX5_parseCommand 1 = .ok (.invokevirtual 44, 3) := by decide +kernel
theorem dX5_parseCommand_4 : decode cX5_parseCommand 4 = .ok (.astore_n 2, 1) := by decide +kernel
theorem dX5_parseCommand_5 : decode cX5_parseCommand 5 = .ok (.aload_n 2, 1) := by decide +kernel
theorem dX5_parseCommand_6 : decode cX5_parseCommand 6 = .ok (.ifnonnull 5, 3) := by decide +kernel
theorem dX5_parseCommand_9 : decode cX5_parseCommand 9 = .ok (.iconst 0, 1) := by decide +kernel
theorem dX5_parseCommand_10 : decode cX5_parseCommand 10 = .ok (.ireturn, 1) := by decide +kernel
theorem dX5_parseCommand_11 : decode cX5_parseCommand 11 = .ok (.aload_n 0, 1) := by decide +kernel
theorem dX5_parseCommand_12 : decode cX5_parseCommand 12 = .ok (.getfield 17, 3) := by decide +kernel
theorem dX5_parseCommand_15 : decode cX5_parseCommand 15 = .ok (.iload_n 1, 1) := by decide +kernel
theorem dX5_parseCommand_16 : decode cX5_parseCommand 16 = .ok (.aload_n 2, 1) := by decide +kernel
theorem dX5_parseCommand_17 : decode cX5_parseCommand 17 = .ok (.aastore, 1) := by decide +kernel
theorem dX5_parseCommand_18 : decode cX5_parseCommand 18 = .ok (.iconst 0, 1) := by decide +kernel
theorem dX5_parseCommand_19 : decode cX5_parseCommand 19 = .ok (.istore_n 3, 1) := by decide +kernel
theorem dX5_parseCommand_20 : decode cX5_parseCommand 20 = .ok (.iload_n 3, 1) := by decide +kernel
theorem dX5_parseCommand_21 : decode cX5_parseCommand 21 = .ok (.aload_n 2, 1) := by decide +kernel
theorem dX5_parseCommand_22 : decode cX5_parseCommand 22 = .ok (.getfield 48, 3) := by decide +kernel
theorem dX5_parseCommand_25 : decode cX5_parseCommand 25 = .ok (.invokevirtual 52, 3) := by decide +kernel
theorem dX5_parseCommand_28 : decode cX5_parseCommand 28 = .ok (.if_icmp .ge 64, 3) := by decide +kernel
theorem dX5_parseCommand_31 : decode cX5_parseCommand 31 = .ok (.iload_n 3, 1) := by decide +kernel
theorem dX5_parseCommand_32 : decode cX5_parseCommand 32 = .ok (.iconst 3, 1) := by decide +kernel
theorem dX5_parseCommand_33 : decode cX5_parseCommand 33 = .ok (.if_icmp .ge 59, 3) := by decide +kernel
theorem dX5_parseCommand_36 : decode cX5_parseCommand 36 = .ok (.iload_n 3, 1) := by decide +kernel
theorem dX5_parseCommand_37 : decode cX5_parseCommand 37 = .ok (.ifCond .le 14, 3) := by decide +kernel
theorem dX5_parseCommand_40 : decode cX5_parseCommand 40 = .ok (.aload_n 0, 1) := by decide +kernel
theorem dX5_parseCommand_41 : decode cX5_parseCommand 41 = .ok (.bipush 32, 2) := by decide +kernel
theorem dX5_parseCommand_43 : decode cX5_parseCommand 43 = .ok (.invokevirtual 40, 3) := by decide +kernel
theorem dX5_parseCommand_46 : decode cX5_parseCommand 46 = .ok (.ifCond .ne 5, 3) := by decide +kernel
theorem dX5_parseCommand_49 : decode cX5_parseCommand 49 = .ok (.iconst 0, 1) := by decide +kernel
theorem dX5_parseCommand_50 : decode cX5_parseCommand 50 = .ok (.ireturn, 1) := by decide +kernel
theorem dX5_parseCommand_51 : decode cX5_parseCommand 51 = .ok (.aload_n 0, 1) := by decide +kernel
theorem dX5_parseCommand_52 : decode cX5_parseCommand 52 = .ok (.aload_n 2, 1) := by decide +kernel
theorem dX5_parseCommand_53 : decode cX5_parseCommand 53 = .ok (.getfield 48, 3) := by decide +kernel
theorem dX5_parseCommand_56 : decode cX5_parseCommand 56 = .ok (.iload_n 3, 1) := by decide +kernel
theorem dX5_parseCommand_57 : decode cX5_parseCommand 57 = .ok (.invokevirtual 57, 3) := by decide +kernel
theorem dX5_parseCommand_60 : decode cX5_parseCommand 60 = .ok (.bipush 48, 2) := by decide +kernel
theorem dX5_parseCommand_62 : decode cX5_parseCommand 62 = .ok (.isub, 1) := by decide +kernel
theorem dX5_parseCommand_63 : decode cX5_parseCommand 63 = .ok (.invokevirtual 61, 3) := by decide +kernel
theorem dX5_parseCommand_66 : decode cX5_parseCommand 66 = .ok (.istore 4, 2) := by decide +kernel
theorem dX5_parseCommand_68 : decode cX5_parseCommand 68 = .ok (.iload 4, 2) := by decide +kernel
theorem dX5_parseCommand_70 : decode cX5_parseCommand 70 = .ok (.iconst (-1), 1) := by decide +kernel
theorem dX5_parseCommand_71 : decode cX5_parseCommand 71 = .ok (.if_icmp .ne 5, 3) := by decide +kernel
theorem dX5_parseCommand_74 : decode cX5_parseCommand 74 = .ok (.iconst 0, 1) := by decide +kernel
theorem dX5_parseCommand_75 : decode cX5_parseCommand 75 = .ok (.ireturn, 1) := by decide +kernel
theorem dX5_parseCommand_76 : decode cX5_parseCommand 76 = .ok (.aload_n 0, 1) := by decide +kernel
theorem dX5_parseCommand_77 : decode cX5_parseCommand 77 = .ok (.getfield 23, 3) := by decide +kernel
theorem dX5_parseCommand_80 : decode cX5_parseCommand 80 = .ok (.iload_n 1, 1) := by decide +kernel
theorem dX5_parseCommand_81 : decode cX5_parseCommand 81 = .ok (.aaload, 1) := by decide +kernel
theorem dX5_parseCommand_82 : decode cX5_parseCommand 82 = .ok (.iload_n 3, 1) := by decide +kernel
theorem dX5_parseCommand_83 : decode cX5_parseCommand 83 = .ok (.iload 4, 2) := by decide +kernel
theorem dX5_parseCommand_85 : decode cX5_parseCommand 85 = .ok (.iastore, 1) := by decide +kernel
theorem dX5_parseCommand_86 : decode cX5_parseCommand 86 = .ok (.iinc 3 1, 3) := by decide +kernel
theorem dX5_parseCommand_89 : decode cX5_parseCommand 89 = .ok (.goto (-69), 3) := by decide +kernel
theorem dX5_parseCommand_92 : decode cX5_parseCommand 92 = .ok (.iconst 1, 1) := by decide +kernel
theorem dX5_parseCommand_93 : decode cX5_parseCommand 93 = .ok (.ireturn, 1) := by decide +kernel
theorem dX5_parseVerb_0 : decode cX5_parseVerb 0 = .ok (.iconst 0, 1) := by decide +kernel
theorem dX5_parseVerb_1 : decode cX5_parseVerb 1 = .ok (.istore_n 1, 1) := by decide +kernel
theorem dX5_parseVerb_2 : decode cX5_parseVerb 2 = .ok (.iconst 0, 1) := by decide +kernel
theorem dX5_parseVerb_3 : decode cX5_parseVerb 3 = .ok (.istore_n 2, 1) := by decide +kernel
theorem dX5_parseVerb_4 : decode cX5_parseVerb 4 = .ok (.iload_n 2, 1) := by decide +kernel
theorem dX5_parseVerb_5 : decode cX5_parseVerb 5 = .ok (.getstatic 65, 3) := by decide +kernel
theorem dX5_parseVerb_8 : decode cX5_parseVerb 8 = .ok (.arraylength, 1) := by decide +kernel
theorem dX5_parseVerb_9 : decode cX5_parseVerb 9 = .ok (.if_icmp .ge 58, 3) := by decide +kernel
theorem dX5_parseVerb_12 : decode cX5_parseVerb 12 = .ok (.getstatic 65, 3) := by decide +kernel
theorem dX5_parseVerb_15 : decode cX5_parseVerb 15 = .ok (.iload_n 2, 1) := by decide +kernel
theorem dX5_parseVerb_16 : decode cX5_parseVerb 16 = .ok (.aaload, 1) := by decide +kernel
theorem dX5_parseVerb_17 : decode cX5_parseVerb 17 = .ok (.getfield 68, 3) := by decide +kernel
theorem dX5_parseVerb_20 : decode cX5_parseVerb 20 = .ok (.astore_n 3, 1) := by decide +kernel
theorem dX5_parseVerb_21 : decode cX5_parseVerb 21 = .ok (.aload_n 0, 1) := by decide +kernel
theorem dX5_parseVerb_22 : decode cX5_parseVerb 22 = .ok (.aload_n 3, 1) := by decide +kernel
theorem dX5_parseVerb_23 : decode cX5_parseVerb 23 = .ok (.invokevirtual 71, 3) := by decide +kernel
theorem dX5_parseVerb_26 : decode cX5_parseVerb 26 = .ok (.istore 4, 2) := by decide +kernel
theorem dX5_parseVerb_28 : decode cX5_parseVerb 28 = .ok (.iload 4, 2) := by decide +kernel
theorem dX5_parseVerb_30 : decode cX5_parseVerb 30 = .ok (.aload_n 3, 1) := by decide +kernel
theorem dX5_parseVerb_31 : decode cX5_parseVerb 31 = .ok (.invokevirtual 52, 3) := by decide +kernel
theorem dX5_parseVerb_34 : decode cX5_parseVerb 34 = .ok (.if_icmp .ne 20, 3) := by decide +kernel
theorem dX5_parseVerb_37 : decode cX5_parseVerb 37 = .ok (.aload_n 0, 1) := by decide +kernel
theorem dX5_parseVerb_38 : decode cX5_parseVerb 38 = .ok (.dup, 1) := by decide +kernel
theorem dX5_parseVerb_39 : decode cX5_parseVerb 39 = .ok (.getfield 30, 3) := by decide +kernel
theorem dX5_parseVerb_42 : decode cX5_parseVerb 42 = .ok (.iload 4, 2) := by decide +kernel
theorem dX5_parseVerb_44 : decode cX5_parseVerb 44 = .ok (.iadd, 1) := by decide +kernel
theorem dX5_parseVerb_45 : decode cX5_parseVerb 45 = .ok (.putfield 30, 3) := by decide +kernel
theorem dX5_parseVerb_48 : decode cX5_parseVerb 48 = .ok (.getstatic 65, 3) := by decide +kernel
theorem dX5_parseVerb_51 : decode cX5_parseVerb 51 = .ok (.iload_n 2, 1) := by decide +kernel
theorem dX5_parseVerb_52 : decode cX5_parseVerb 52 = .ok (.aaload, 1) := by decide +kernel
theorem dX5_parseVerb_53 : decode cX5_parseVerb 53 = .ok (.areturn, 1) := by decide +kernel
theorem dX5_parseVerb_54 : decode cX5_parseVerb 54 = .ok (.iload_n 1, 1) := by decide +kernel
theorem dX5_parseVerb_55 : decode cX5_parseVerb 55 = .ok (.iload 4, 2) := by decide +kernel
theorem dX5_parseVerb_57 : decode cX5_parseVerb 57 = .ok (.invokestatic 75, 3) := by decide +kernel
theorem dX5_parseVerb_60 : decode cX5_parseVerb 60 = .ok (.istore_n 1, 1) := by decide +kernel
theorem dX5_parseVerb_61 : decode cX5_parseVerb 61 = .ok (.iinc 2 1, 3) := by decide +kernel
theorem dX5_parseVerb_64 : decode cX5_parseVerb 64 = .ok (.goto (-60), 3) := by decide +kernel
theorem dX5_parseVerb_67 : decode cX5_parseVerb 67 = .ok (.aload_n 0, 1) := by decide +kernel
theorem dX5_parseVerb_68 : decode cX5_parseVerb 68 = .ok (.dup, 1) := by decide +kernel
theorem dX5_parseVerb_69 : decode cX5_parseVerb 69 = .ok (.getfield 30, 3) := by decide +kernel
theorem dX5_parseVerb_72 : decode cX5_parseVerb 72 = .ok (.iload_n 1, 1) := by decide +kernel
theorem dX5_parseVerb_73 : decode cX5_parseVerb 73 = .ok (.iadd, 1) := by decide +kernel
theorem dX5_parseVerb_74 : decode cX5_parseVerb 74 = .ok (.putfield 30, 3) := by decide +kernel
theorem dX5_parseVerb_77 : decode cX5_parseVerb 77 = .ok (.aconst_null, 1) := by decide +kernel
theorem dX5_parseVerb_78 : decode cX5_parseVerb 78 = .ok (.areturn, 1) := by decide +kernel
theorem dX5_sameCharacters_0 : decode cX5_sameCharacters 0 = .ok (.iconst 0, 1) := by decide +kernel
theorem dX5_sameCharacters_1 : decode cX5_sameCharacters 1 = .ok (.istore_n 2, 1) := by decide +kernel
theorem dX5_sameCharacters_2 : decode cX5_sameCharacters 2 = .ok (.iload_n 2, 1) := by decide +kernel
theorem dX5_sameCharacters_3 : decode cX5_sameCharacters 3 = .ok (.aload_n 1, 1) := by decide +kernel
theorem dX5_sameCharacters_4 : decode cX5_sameCharacters 4 = .ok (.invokevirtual 52, 3) := by decide +kernel
theorem dX5_sameCharacters_7 : decode cX5_sameCharacters 7 = .ok (.if_icmp .ge 41, 3) := by decide +kernel
theorem dX5_sameCharacters_10 : decode cX5_sameCharacters 10 = .ok (.aload_n 0, 1) := by decide +kernel
theorem dX5_sameCharacters_11 : decode cX5_sameCharacters 11 = .ok (.getfield 30, 3) := by decide +kernel
theorem dX5_sameCharacters_14 : decode cX5_sameCharacters 14 = .ok (.iload_n 2, 1) := by decide +kernel
theorem dX5_sameCharacters_15 : decode cX5_sameCharacters 15 = .ok (.iadd, 1) := by decide +kernel
theorem dX5_sameCharacters_16 : decode cX5_sameCharacters 16 = .ok (.aload_n 0, 1) := by decide +kernel
theorem dX5_sameCharacters_17 : decode cX5_sameCharacters 17 = .ok (.getfield 26, 3) := by decide +kernel
theorem dX5_sameCharacters_20 : decode cX5_sameCharacters 20 = .ok (.if_icmp .ge 28, 3) := by decide +kernel
theorem dX5_sameCharacters_23 : decode cX5_sameCharacters 23 = .ok (.aload_n 0, 1) := by decide +kernel
theorem dX5_sameCharacters_24 : decode cX5_sameCharacters 24 = .ok (.getfield 9, 3) := by decide +kernel
theorem dX5_sameCharacters_27 : decode cX5_sameCharacters 27 = .ok (.aload_n 0, 1) := by decide +kernel
theorem dX5_sameCharacters_28 : decode cX5_sameCharacters 28 = .ok (.getfield 30, 3) := by decide +kernel
theorem dX5_sameCharacters_31 : decode cX5_sameCharacters 31 = .ok (.iload_n 2, 1) := by decide +kernel
theorem dX5_sameCharacters_32 : decode cX5_sameCharacters 32 = .ok (.iadd, 1) := by decide +kernel
theorem dX5_sameCharacters_33 : decode cX5_sameCharacters 33 = .ok (.caload, 1) := by decide +kernel
theorem dX5_sameCharacters_34 : decode cX5_sameCharacters 34 = .ok (.aload_n 1, 1) := by decide +kernel
theorem dX5_sameCharacters_35 : decode cX5_sameCharacters 35 = .ok (.iload_n 2, 1) := by decide +kernel
theorem dX5_sameCharacters_36 : decode cX5_sameCharacters 36 = .ok (.invokevirtual 57, 3) := by decide +kernel
theorem dX5_sameCharacters_39 : decode cX5_sameCharacters 39 = .ok (.if_icmp .ne 9, 3) := by decide +kernel
theorem dX5_sameCharacters_42 : decode cX5_sameCharacters 42 = .ok (.iinc 2 1, 3) := by decide +kernel
theorem dX5_sameCharacters_45 : decode cX5_sameCharacters 45 = .ok (.goto (-43), 3) := by decide +kernel
theorem dX5_sameCharacters_48 : decode cX5_sameCharacters 48 = .ok (.iload_n 2, 1) := by decide +kernel
theorem dX5_sameCharacters_49 : decode cX5_sameCharacters 49 = .ok (.ireturn, 1) := by decide +kernel
theorem dX5_parseNumber_0 : decode cX5_parseNumber 0 = .ok (.iconst (-1), 1) := by decide +kernel
theorem dX5_parseNumber_1 : decode cX5_parseNumber 1 = .ok (.istore_n 2, 1) := by decide +kernel
theorem dX5_parseNumber_2 : decode cX5_parseNumber 2 = .ok (.iconst 0, 1) := by decide +kernel
theorem dX5_parseNumber_3 : decode cX5_parseNumber 3 = .ok (.istore_n 3, 1) := by decide +kernel
theorem dX5_parseNumber_4 : decode cX5_parseNumber 4 = .ok (.iload_n 3, 1) := by decide +kernel
theorem dX5_parseNumber_5 : decode cX5_parseNumber 5 = .ok (.iload_n 1, 1) := by decide +kernel
theorem dX5_parseNumber_6 : decode cX5_parseNumber 6 = .ok (.if_icmp .ge 58, 3) := by decide +kernel
theorem dX5_parseNumber_9 : decode cX5_parseNumber 9 = .ok (.aload_n 0, 1) := by decide +kernel
theorem dX5_parseNumber_10 : decode cX5_parseNumber 10 = .ok (.invokevirtual 81, 3) := by decide +kernel
theorem dX5_parseNumber_13 : decode cX5_parseNumber 13 = .ok (.ifCond .eq 51, 3) := by decide +kernel
theorem dX5_parseNumber_16 : decode cX5_parseNumber 16 = .ok (.aload_n 0, 1) := by decide +kernel
theorem dX5_parseNumber_17 : decode cX5_parseNumber 17 = .ok (.getfield 9, 3) := by decide +kernel
theorem dX5_parseNumber_20 : decode cX5_parseNumber 20 = .ok (.aload_n 0, 1) := by decide +kernel
theorem dX5_parseNumber_21 : decode cX5_parseNumber 21 = .ok (.getfield 30, 3) := by decide +kernel
theorem dX5_parseNumber_24 : decode cX5_parseNumber 24 = .ok (.caload, 1) := by decide +kernel
theorem dX5_parseNumber_25 : decode cX5_parseNumber 25 = .ok (.bipush 48, 2) := by decide +kernel
theorem dX5_parseNumber_27 : decode cX5_parseNumber 27 = .ok (.isub, 1) := by decide +kernel
theorem dX5_parseNumber_28 : decode cX5_parseNumber 28 = .ok (.istore 4, 2) := by decide +kernel
theorem dX5_parseNumber_30 : decode cX5_parseNumber 30 = .ok (.iload_n 2, 1) := by decide +kernel
theorem dX5_parseNumber_31 : decode cX5_parseNumber 31 = .ok (.iconst (-1), 1) := by decide +kernel
theorem dX5_parseNumber_32 : decode cX5_parseNumber 32 = .ok (.if_icmp .ne 8, 3) := by decide +kernel
theorem dX5_parseNumber_35 : decode cX5_parseNumber 35 = .ok (.iload 4, 2) := by decide +kernel
theorem dX5_parseNumber_37 : decode cX5_parseNumber 37 = .ok (.goto 10, 3) := by decide +kernel
theorem dX5_parseNumber_40 : decode cX5_parseNumber 40 = .ok (.bipush 10, 2) := by decide +kernel
theorem dX5_parseNumber_42 : decode cX5_parseNumber 42 = .ok (.iload_n 2, 1) := by decide +kernel
theorem dX5_parseNumber_43 : decode cX5_parseNumber 43 = .ok (.imul, 1) := by decide +kernel
theorem dX5_parseNumber_44 : decode cX5_parseNumber 44 = .ok (.iload 4, 2) := by decide +kernel
theorem dX5_parseNumber_46 : decode cX5_parseNumber 46 = .ok (.iadd, 1) := by decide +kernel
theorem dX5_parseNumber_47 : decode cX5_parseNumber 47 = .ok (.istore_n 2, 1) := by decide +kernel
theorem dX5_parseNumber_48 : decode cX5_parseNumber 48 = .ok (.aload_n 0, 1) := by decide +kernel
theorem dX5_parseNumber_49 : decode cX5_parseNumber 49 = .ok (.dup, 1) := by decide +kernel
theorem dX5_parseNumber_50 : decode cX5_parseNumber 50 = .ok (.getfield 30, 3) := by decide +kernel
theorem dX5_parseNumber_53 : decode cX5_parseNumber 53 = .ok (.iconst 1, 1) := by decide +kernel
theorem dX5_parseNumber_54 : decode cX5_parseNumber 54 = .ok (.iadd, 1) := by decide +kernel
theorem dX5_parseNumber_55 : decode cX5_parseNumber 55 = .ok (.putfield 30, 3) := by decide +kernel
theorem dX5_parseNumber_58 : decode cX5_parseNumber 58 = .ok (.iinc 3 1, 3) := by decide +kernel
theorem dX5_parseNumber_61 : decode cX5_parseNumber 61 = .ok (.goto (-57), 3) := by decide +kernel
theorem dX5_parseNumber_64 : decode cX5_parseNumber 64 = .ok (.iload_n 2, 1) := by decide +kernel
theorem dX5_parseNumber_65 : decode cX5_parseNumber 65 = .ok (.ireturn, 1) := by decide +kernel
theorem dX5_atDigit_0 : decode cX5_atDigit 0 = .ok (.aload_n 0, 1) := by decide +kernel
theorem dX5_atDigit_1 : decode cX5_atDigit 1 = .ok (.getfield 30, 3) := by decide +kernel
theorem dX5_atDigit_4 : decode cX5_atDigit 4 = .ok (.aload_n 0, 1) := by decide +kernel
theorem dX5_atDigit_5 : decode cX5_atDigit 5 = .ok (.getfield 26, 3) := by decide +kernel
theorem dX5_atDigit_8 : decode cX5_atDigit 8 = .ok (.if_icmp .ge 35, 3) := by decide +kernel
theorem dX5_atDigit_11 : decode cX5_atDigit 11 = .ok (.aload_n 0, 1) := by decide +kernel
theorem dX5_atDigit_12 : decode cX5_atDigit 12 = .ok (.getfield 9, 3) := by decide +kernel
theorem dX5_atDigit_15 : decode cX5_atDigit 15 = .ok (.aload_n 0, 1) := by decide +kernel
theorem dX5_atDigit_16 : decode cX5_atDigit 16 = .ok (.getfield 30, 3) := by decide +kernel
theorem dX5_atDigit_19 : decode cX5_atDigit 19 = .ok (.caload, 1) := by decide +kernel
theorem dX5_atDigit_20 : decode cX5_atDigit 20 = .ok (.bipush 48, 2) := by decide +kernel
theorem dX5_atDigit_22 : decode cX5_atDigit 22 = .ok (.if_icmp .lt 21, 3) := by decide +kernel
theorem dX5_atDigit_25 : decode cX5_atDigit 25 = .ok (.aload_n 0, 1) := by decide +kernel
theorem dX5_atDigit_26 : decode cX5_atDigit 26 = .ok (.getfield 9, 3) := by decide +kernel
theorem dX5_atDigit_29 : decode cX5_atDigit 29 = .ok (.aload_n 0, 1) := by decide +kernel
theorem dX5_atDigit_30 : decode cX5_atDigit 30 = .ok (.getfield 30, 3) := by decide +kernel
theorem dX5_atDigit_33 : decode cX5_atDigit 33 = .ok (.caload, 1) := by decide +kernel
theorem dX5_atDigit_34 : decode cX5_atDigit 34 = .ok (.bipush 57, 2) := by decide +kernel
theorem dX5_atDigit_36 : decode cX5_atDigit 36 = .ok (.if_icmp .gt 7, 3) := by decide +kernel
theorem dX5_atDigit_39 : decode cX5_atDigit 39 = .ok (.iconst 1, 1) := by decide +kernel
theorem dX5_atDigit_40 : decode cX5_atDigit 40 = .ok (.goto 4, 3) := by decide +kernel
theorem dX5_atDigit_43 : decode cX5_atDigit 43 = .ok (.iconst 0, 1) := by decide +kernel
theorem dX5_atDigit_44 : decode cX5_atDigit 44 = .ok (.ireturn, 1) := by decide +kernel
theorem dX5_skip_0 : decode cX5_skip 0 = .ok (.aload_n 0, 1) := by decide +kernel
theorem dX5_skip_1 : decode cX5_skip 1 = .ok (.getfield 30, 3) := by decide +kernel
theorem dX5_skip_4 : decode cX5_skip 4 = .ok (.aload_n 0, 1) := by decide +kernel
theorem dX5_skip_5 : decode cX5_skip 5 = .ok (.getfield 26, 3) := by decide +kernel
theorem dX5_skip_8 : decode cX5_skip 8 = .ok (.if_icmp .ge 16, 3) := by decide +kernel
theorem dX5_skip_11 : decode cX5_skip 11 = .ok (.aload_n 0, 1) := by decide +kernel
theorem dX5_skip_12 : decode cX5_skip 12 = .ok (.getfield 9, 3) := by decide +kernel
theorem dX5_skip_15 : decode cX5_skip 15 = .ok (.aload_n 0, 1) := by decide +kernel
theorem dX5_skip_16 : decode cX5_skip 16 = .ok (.getfield 30, 3) := by decide +kernel
theorem dX5_skip_19 : decode cX5_skip 19 = .ok (.caload, 1) := by decide +kernel
theorem dX5_skip_20 : decode cX5_skip 20 = .ok (.iload_n 1, 1) := by decide +kernel
theorem dX5_skip_21 : decode cX5_skip 21 = .ok (.if_icmp .eq 5, 3) := by decide +kernel
theorem dX5_skip_24 : decode cX5_skip 24 = .ok (.iconst 0, 1) := by decide +kernel
theorem dX5_skip_25 : decode cX5_skip 25 = .ok (.ireturn, 1) := by decide +kernel
theorem dX5_skip_26 : decode cX5_skip 26 = .ok (.aload_n 0, 1) := by decide +kernel
theorem dX5_skip_27 : decode cX5_skip 27 = .ok (.dup, 1) := by decide +kernel
theorem dX5_skip_28 : decode cX5_skip 28 = .ok (.getfield 30, 3) := by decide +kernel
theorem dX5_skip_31 : decode cX5_skip 31 = .ok (.iconst 1, 1) := by decide +kernel
theorem dX5_skip_32 : decode cX5_skip 32 = .ok (.iadd, 1) := by decide +kernel
theorem dX5_skip_33 : decode cX5_skip 33 = .ok (.putfield 30, 3) := by decide +kernel
theorem dX5_skip_36 : decode cX5_skip 36 = .ok (.iconst 1, 1) := by decide +kernel
theorem dX5_skip_37 : decode cX5_skip 37 = .ok (.ireturn, 1) := by decide +kernel
theorem dX7_init_0 : decode cX7_init 0 = .ok (.aload_n 0, 1) := by decide +kernel
theorem dX7_init_1 : decode cX7_init 1 = .ok (.invokespecial 3, 3) := by decide +kernel
theorem dX7_init_4 : decode cX7_init 4 = .ok (.aload_n 0, 1) := by decide +kernel
theorem dX7_init_5 : decode cX7_init 5 = .ok (.new 9, 3) := by decide +kernel
theorem dX7_init_8 : decode cX7_init 8 = .ok (.dup, 1) := by decide +kernel
theorem dX7_init_9 : decode cX7_init 9 = .ok (.invokespecial 11, 3) := by decide +kernel
theorem dX7_init_12 : decode cX7_init 12 = .ok (.putfield 12, 3) := by decide +kernel
theorem dX7_init_15 : decode cX7_init 15 = .ok (.aload_n 0, 1) := by decide +kernel
theorem dX7_init_16 : decode cX7_init 16 = .ok (.new 9, 3) := by decide +kernel
theorem dX7_init_19 : decode cX7_init 19 = .ok (.dup, 1) := by decide +kernel
theorem dX7_init_20 : decode cX7_init 20 = .ok (.invokespecial 11, 3) := by decide +kernel
theorem dX7_init_23 : decode cX7_init 23 = .ok (.putfield 16, 3) := by decide +kernel
theorem dX7_init_26 : decode cX7_init 26 = .ok (.aload_n 0, 1) := by decide +kernel
theorem dX7_init_27 : decode cX7_init 27 = .ok (.new 9, 3) := by decide +kernel
theorem dX7_init_30 : decode cX7_init 30 = .ok (.dup, 1) := by decide +kernel
theorem dX7_init_31 : decode cX7_init 31 = .ok (.invokespecial 11, 3) := by decide +kernel
theorem dX7_init_34 : decode cX7_init 34 = .ok (.putfield 19, 3) := by decide +kernel
theorem dX7_init_37 : decode cX7_init 37 = .ok (.aload_n 0, 1) := by decide +kernel
theorem dX7_init_38 : decode cX7_init 38 = .ok (.new 22, 3) := by decide +kernel
theorem dX7_init_41 : decode cX7_init 41 = .ok (.dup, 1) := by decide +kernel
theorem dX7_init_42 : decode cX7_init 42 = .ok (.invokespecial 24, 3) := by decide +kernel
theorem dX7_init_45 : decode cX7_init 45 = .ok (.putfield 25, 3) := by decide +kernel
theorem dX7_init_48 : decode cX7_init 48 = .ok (.aload_n 0, 1) := by decide +kernel
theorem dX7_init_49 : decode cX7_init 49 = .ok (.new 29, 3) := by decide +kernel
theorem dX7_init_52 : decode cX7_init 52 = .ok (.dup, 1) := by decide +kernel
theorem dX7_init_53 : decode cX7_init 53 = .ok (.invokespecial 31, 3) := by decide +kernel
theorem dX7_init_56 : decode cX7_init 56 = .ok (.putfield 32, 3) := by decide +kernel
theorem dX7_init_59 : decode cX7_init 59 = .ok (.aload_n 0, 1) := by decide +kernel
theorem dX7_init_60 : decode cX7_init 60 = .ok (.iconst (-1), 1) := by decide +kernel
theorem dX7_init_61 : decode cX7_init 61 = .ok (.putfield 36, 3) := by decide +kernel
theorem dX7_init_64 : decode cX7_init 64 = .ok (.aload_n 0, 1) := by decide +kernel
theorem dX7_init_65 : decode cX7_init 65 = .ok (.iconst (-1), 1) := by decide +kernel
theorem dX7_init_66 : decode cX7_init 66 = .ok (.putfield 40, 3) := by decide +kernel
theorem dX7_init_69 : decode cX7_init 69 = .ok (.aload_n 0, 1) := by decide +kernel
theorem dX7_init_70 : decode cX7_init 70 = .ok (.bipush 8, 2) := by decide +kernel
theorem dX7_init_72 : decode cX7_init 72 = .ok (.newarray .char, 2) := by decide +kernel
theorem dX7_init_74 : decode cX7_init 74 = .ok (.putfield 43, 3) := by decide +kernel
theorem dX7_init_77 : decode cX7_init 77 = .ok (.aload_n 0, 1) := by decide +kernel
theorem dX7_init_78 : decode cX7_init 78 = .ok (.bipush 64, 2) := by decide +kernel
theorem dX7_init_80 : decode cX7_init 80 = .ok (.newarray .int, 2) := by decide +kernel
theorem dX7_init_82 : decode cX7_init 82 = .ok (.putfield 47, 3) := by decide +kernel
theorem dX7_init_85 : decode cX7_init 85 = .ok (.return_, 1) := by decide +kernel
theorem dX7_addDrone_0 : decode cX7_addDrone 0 = .ok (.aload_n 0, 1) := by decide +kernel
theorem dX7_addDrone_1 : decode cX7_addDrone 1 = .ok (.getfield 16, 3) := by decide +kernel
theorem dX7_addDrone_4 : decode cX7_addDrone 4 = .ok (.aload_n 0, 1) := by decide +kernel
theorem dX7_addDrone_5 : decode cX7_addDrone 5 = .ok (.getfield 12, 3) := by decide +kernel
theorem dX7_addDrone_8 : decode cX7_addDrone 8 = .ok (.invokevirtual 51, 3) := by decide +kernel
theorem dX7_addDrone_11 : decode cX7_addDrone 11 = .ok (.aload_n 0, 1) := by decide +kernel
theorem dX7_addDrone_12 : decode cX7_addDrone 12 = .ok (.aload_n 0, 1) := by decide +kernel
theorem dX7_addDrone_13 : decode cX7_addDrone 13 = .ok (.getfield 16, 3) := by decide +kernel
theorem dX7_addDrone_16 : decode cX7_addDrone 16 = .ok (.iload_n 1, 1) := by decide +kernel
theorem dX7_addDrone_17 : decode cX7_addDrone 17 = .ok (.invokevirtual 55, 3) := by decide +kernel
theorem dX7_addDrone_20 : decode cX7_addDrone 20 = .ok (.invokevirtual 59, 3) := by decide +kernel
theorem dX7_addDrone_23 : decode cX7_addDrone 23 = .ok (.ireturn, 1) := by decide +kernel
theorem dX7_addPad_0 : decode cX7_addPad 0 = .ok (.aload_n 0, 1) := by decide +kernel
theorem dX7_addPad_1 : decode cX7_addPad 1 = .ok (.getfield 16, 3) := by decide +kernel
theorem dX7_addPad_4 : decode cX7_addPad 4 = .ok (.aload_n 0, 1) := by decide +kernel
theorem dX7_addPad_5 : decode cX7_addPad 5 = .ok (.getfield 12, 3) := by decide +kernel
theorem dX7_addPad_8 : decode cX7_addPad 8 = .ok (.invokevirtual 51, 3) := by decide +kernel
theorem dX7_addPad_11 : decode cX7_addPad 11 = .ok (.aload_n 0, 1) := by decide +kernel
theorem dX7_addPad_12 : decode cX7_addPad 12 = .ok (.aload_n 0, 1) := by decide +kernel
theorem dX7_addPad_13 : decode cX7_addPad 13 = .ok (.getfield 16, 3) := by decide +kernel
theorem dX7_addPad_16 : decode cX7_addPad 16 = .ok (.iload_n 1, 1) := by decide +kernel
theorem dX7_addPad_17 : decode cX7_addPad 17 = .ok (.invokevirtual 62, 3) := by decide +kernel
theorem dX7_addPad_20 : decode cX7_addPad 20 = .ok (.invokevirtual 59, 3) := by decide +kernel
theorem dX7_addPad_23 : decode cX7_addPad 23 = .ok (.ireturn, 1) := by decide +kernel
theorem dX7_takeOff_0 : decode cX7_takeOff 0 = .ok (.aload_n 0, 1) := by decide +kernel
theorem dX7_takeOff_1 : decode cX7_takeOff 1 = .ok (.getfield 16, 3) := by decide +kernel
theorem dX7_takeOff_4 : decode cX7_takeOff 4 = .ok (.aload_n 0, 1) := by decide +kernel
theorem dX7_takeOff_5 : decode cX7_takeOff 5 = .ok (.getfield 12, 3) := by decide +kernel
theorem dX7_takeOff_8 : decode cX7_takeOff 8 = .ok (.invokevirtual 51, 3) := by decide +kernel
theorem dX7_takeOff_11 : decode cX7_takeOff 11 = .ok (.aload_n 0, 1) := by decide +kernel
theorem dX7_takeOff_12 : decode cX7_takeOff 12 = .ok (.aload_n 0, 1) := by decide +kernel
theorem dX7_takeOff_13 : decode cX7_takeOff 13 = .ok (.getfield 16, 3) := by decide +kernel
theorem dX7_takeOff_16 : decode cX7_takeOff 16 = .ok (.iload_n 1, 1) := by decide +kernel
theorem dX7_takeOff_17 : decode cX7_takeOff 17 = .ok (.invokevirtual 65, 3) := by decide +kernel
theorem dX7_takeOff_20 : decode cX7_takeOff 20 = .ok (.invokevirtual 59, 3) := by decide +kernel
theorem dX7_takeOff_23 : decode cX7_takeOff 23 = .ok (.ireturn, 1) := by decide +kernel
theorem dX7_land_0 : decode cX7_land 0 = .ok (.aload_n 0, 1) := by decide +kernel
theorem dX7_land_1 : decode cX7_land 1 = .ok (.getfield 16, 3) := by decide +kernel
theorem dX7_land_4 : decode cX7_land 4 = .ok (.aload_n 0, 1) := by decide +kernel
theorem dX7_land_5 : decode cX7_land 5 = .ok (.getfield 12, 3) := by decide +kernel
theorem dX7_land_8 : decode cX7_land 8 = .ok (.invokevirtual 51, 3) := by decide +kernel
theorem dX7_land_11 : decode cX7_land 11 = .ok (.aload_n 0, 1) := by decide +kernel
theorem dX7_land_12 : decode cX7_land 12 = .ok (.aload_n 0, 1) := by decide +kernel
theorem dX7_land_13 : decode cX7_land 13 = .ok (.getfield 16, 3) := by decide +kernel
theorem dX7_land_16 : decode cX7_land 16 = .ok (.iload_n 1, 1) := by decide +kernel
theorem dX7_land_17 : decode cX7_land 17 = .ok (.invokevirtual 68, 3) := by decide +kernel
theorem dX7_land_20 : decode cX7_land 20 = .ok (.invokevirtual 59, 3) := by decide +kernel
theorem dX7_land_23 : decode cX7_land 23 = .ok (.ireturn, 1) := by decide +kernel
theorem dX7_sendTo_0 : decode cX7_sendTo 0 = .ok (.aload_n 0, 1) := by decide +kernel
theorem dX7_sendTo_1 : decode cX7_sendTo 1 = .ok (.getfield 16, 3) := by decide +kernel
theorem dX7_sendTo_4 : decode cX7_sendTo 4 = .ok (.aload_n 0, 1) := by decide +kernel
theorem dX7_sendTo_5 : decode cX7_sendTo 5 = .ok (.getfield 12, 3) := by decide +kernel
theorem dX7_sendTo_8 : decode cX7_sendTo 8 = .ok (.invokevirtual 51, 3) := by decide +kernel
theorem dX7_sendTo_11 : decode cX7_sendTo 11 = .ok (.aload_n 0, 1) := by decide +kernel
theorem dX7_sendTo_12 : decode cX7_sendTo 12 = .ok (.aload_n 0, 1) := by decide +kernel
theorem dX7_sendTo_13 : decode cX7_sendTo 13 = .ok (.getfield 16, 3) := by decide +kernel
theorem dX7_sendTo_16 : decode cX7_sendTo 16 = .ok (.iload_n 1, 1) := by decide +kernel
theorem dX7_sendTo_17 : decode cX7_sendTo 17 = .ok (.iload_n 2, 1) := by decide +kernel
theorem dX7_sendTo_18 : decode cX7_sendTo 18 = .ok (.invokevirtual 71, 3) := by decide +kernel
theorem dX7_sendTo_21 : decode cX7_sendTo 21 = .ok (.invokevirtual 59, 3) := by decide +kernel
theorem dX7_sendTo_24 : decode cX7_sendTo 24 = .ok (.ireturn, 1) := by decide +kernel
theorem dX7_setReserve_0 : decode cX7_setReserve 0 = .ok (.aload_n 0, 1) := by decide +kernel
theorem dX7_setReserve_1 : decode cX7_setReserve 1 = .ok (.getfield 16, 3) := by decide +kernel
theorem dX7_setReserve_4 : decode cX7_setReserve 4 = .ok (.aload_n 0, 1) := by decide +kernel
theorem dX7_setReserve_5 : decode cX7_setReserve 5 = .ok (.getfield 12, 3) := by decide +kernel
theorem dX7_setReserve_8 : decode cX7_setReserve 8 = .ok (.invokevirtual 51, 3) := by decide +kernel
theorem dX7_setReserve_11 : decode cX7_setReserve 11 = .ok (.aload_n 0, 1) := by decide +kernel
theorem dX7_setReserve_12 : decode cX7_setReserve 12 = .ok (.aload_n 0, 1) := by decide +kernel
theorem dX7_setReserve_13 : decode cX7_setReserve 13 = .ok (.getfield 16, 3) := by decide +kernel
theorem dX7_setReserve_16 : decode cX7_setReserve 16 = .ok (.iload_n 1, 1) := by decide +kernel
theorem dX7_setReserve_17 : decode cX7_setReserve 17 = .ok (.invokevirtual 75, 3) := by decide +kernel
theorem dX7_setReserve_20 : decode cX7_setReserve 20 = .ok (.invokevirtual 59, 3) := by decide +kernel
theorem dX7_setReserve_23 : decode cX7_setReserve 23 = .ok (.ireturn, 1) := by decide +kernel
theorem dX7_droneCount_0 : decode cX7_droneCount 0 = .ok (.aload_n 0, 1) := by decide +kernel
theorem dX7_droneCount_1 : decode cX7_droneCount 1 = .ok (.getfield 12, 3) := by decide +kernel
theorem dX7_droneCount_4 : decode cX7_droneCount 4 = .ok (.getfield 78, 3) := by decide +kernel
theorem dX7_droneCount_7 : decode cX7_droneCount 7 = .ok (.getfield 82, 3) := by decide +kernel
theorem dX7_droneCount_10 : decode cX7_droneCount 10 = .ok (.ireturn, 1) := by decide +kernel
theorem dX7_cellOf_0 : decode cX7_cellOf 0 = .ok (.aload_n 0, 1) := by decide +kernel
theorem dX7_cellOf_1 : decode cX7_cellOf 1 = .ok (.iload_n 1, 1) := by decide +kernel
theorem dX7_cellOf_2 : decode cX7_cellOf 2 = .ok (.invokevirtual 87, 3) := by decide +kernel
theorem dX7_cellOf_5 : decode cX7_cellOf 5 = .ok (.aload_n 0, 1) := by decide +kernel
theorem dX7_cellOf_6 : decode cX7_cellOf 6 = .ok (.getfield 12, 3) := by decide +kernel
theorem dX7_cellOf_9 : decode cX7_cellOf 9 = .ok (.getfield 78, 3) := by decide +kernel
theorem dX7_cellOf_12 : decode cX7_cellOf 12 = .ok (.getfield 91, 3) := by decide +kernel
theorem dX7_cellOf_15 : decode cX7_cellOf 15 = .ok (.iload_n 1, 1) := by decide +kernel
theorem dX7_cellOf_16 : decode cX7_cellOf 16 = .ok (.iaload, 1) := by decide +kernel
theorem dX7_cellOf_17 : decode cX7_cellOf 17 = .ok (.ireturn, 1) := by decide +kernel
theorem dX7_battery_0 : decode cX7_battery 0 = .ok (.aload_n 0, 1) := by decide +kernel
theorem dX7_battery_1 : decode cX7_battery 1 = .ok (.iload_n 1, 1) := by decide +kernel
theorem dX7_battery_2 : decode cX7_battery 2 = .ok (.invokevirtual 87, 3) := by decide +kernel
theorem dX7_battery_5 : decode cX7_battery 5 = .ok (.aload_n 0, 1) := by decide +kernel
theorem dX7_battery_6 : decode cX7_battery 6 = .ok (.getfield 12, 3) := by decide +kernel
theorem dX7_battery_9 : decode cX7_battery 9 = .ok (.getfield 78, 3) := by decide +kernel
theorem dX7_battery_12 : decode cX7_battery 12 = .ok (.getfield 94, 3) := by decide +kernel
theorem dX7_battery_15 : decode cX7_battery 15 = .ok (.iload_n 1, 1) := by decide +kernel
theorem dX7_battery_16 : decode cX7_battery 16 = .ok (.iaload, 1) := by decide +kernel
theorem dX7_battery_17 : decode cX7_battery 17 = .ok (.ireturn, 1) := by decide +kernel
theorem dX7_isFlying_0 : decode cX7_isFlying 0 = .ok (.aload_n 0, 1) := by decide +kernel
theorem dX7_isFlying_1 : decode cX7_isFlying 1 = .ok (.iload_n 1, 1) := by decide +kernel
theorem dX7_isFlying_2 : decode cX7_isFlying 2 = .ok (.invokevirtual 87, 3) := by decide +kernel
theorem dX7_isFlying_5 : decode cX7_isFlying 5 = .ok (.aload_n 0, 1) := by decide +kernel
theorem dX7_isFlying_6 : decode cX7_isFlying 6 = .ok (.getfield 12, 3) := by decide +kernel
theorem dX7_isFlying_9 : decode cX7_isFlying 9 = .ok (.getfield 78, 3) := by decide +kernel
theorem dX7_isFlying_12 : decode cX7_isFlying 12 = .ok (.getfield 97, 3) := by decide +kernel
theorem dX7_isFlying_15 : decode cX7_isFlying 15 = .ok (.iload_n 1, 1) := by decide +kernel
theorem dX7_isFlying_16 : decode cX7_isFlying 16 = .ok (.baload, 1) := by decide +kernel
theorem dX7_isFlying_17 : decode cX7_isFlying 17 = .ok (.ireturn, 1) := by decide +kernel
theorem dX7_isInEmergency_0 : decode cX7_isInEmergency 0 = .ok (.aload_n 0, 1) := by decide +kernel
theorem dX7_isInEmergency_1 : decode cX7_isInEmergency 1 = .ok (.iload_n 1, 1) := by decide +kernel
theorem dX7_isInEmergency_2 : decode cX7_isInEmergency 2 = .ok (.invokevirtual 87, 3) := by decide +kernel
theorem dX7_isInEmergency_5 : decode cX7_isInEmergency 5 = .ok (.aload_n 0, 1) := by decide +kernel
theorem dX7_isInEmergency_6 : decode cX7_isInEmergency 6 = .ok (.getfield 12, 3) := by decide +kernel
theorem dX7_isInEmergency_9 : decode cX7_isInEmergency 9 = .ok (.getfield 78, 3) := by decide +kernel
theorem dX7_isInEmergency_12 : decode cX7_isInEmergency 12 = .ok (.getfield 101, 3) := by decide +kernel
theorem dX7_isInEmergency_15 : decode cX7_isInEmergency 15 = .ok (.iload_n 1, 1) := by decide +kernel
theorem dX7_isInEmergency_16 : decode cX7_isInEmergency 16 = .ok (.baload, 1) := by decide +kernel
theorem dX7_isInEmergency_17 : decode cX7_isInEmergency 17 = .ok (.ireturn, 1) := by decide +kernel
theorem dX7_target_0 : decode cX7_target 0 = .ok (.aload_n 0, 1) := by decide +kernel
theorem dX7_target_1 : decode cX7_target 1 = .ok (.iload_n 1, 1) := by decide +kernel
theorem dX7_target_2 : decode cX7_target 2 = .ok (.invokevirtual 87, 3) := by decide +kernel
theorem dX7_target_5 : decode cX7_target 5 = .ok (.aload_n 0, 1) := by decide +kernel
theorem dX7_target_6 : decode cX7_target 6 = .ok (.getfield 12, 3) := by decide +kernel
theorem dX7_target_9 : decode cX7_target 9 = .ok (.getfield 78, 3) := by decide +kernel
theorem dX7_target_12 : decode cX7_target 12 = .ok (.getfield 104, 3) := by decide +kernel
theorem dX7_target_15 : decode cX7_target 15 = .ok (.iload_n 1, 1) := by decide +kernel
theorem dX7_target_16 : decode cX7_target 16 = .ok (.iaload, 1) := by decide +kernel
theorem dX7_target_17 : decode cX7_target 17 = .ok (.invokestatic 107, 3) := by decide +kernel
theorem dX7_target_20 : decode cX7_target 20 = .ok (.ireturn, 1) := by decide +kernel
theorem dX7_colour_0 : decode cX7_colour 0 = .ok (.aload_n 0, 1) := by decide +kernel
theorem dX7_colour_1 : decode cX7_colour 1 = .ok (.iload_n 1, 1) := by decide +kernel
theorem dX7_colour_2 : decode cX7_colour 2 = .ok (.invokevirtual 87, 3) := by decide +kernel
theorem dX7_colour_5 : decode cX7_colour 5 = .ok (.aload_n 0, 1) := by decide +kernel
theorem dX7_colour_6 : decode cX7_colour 6 = .ok (.getfield 12, 3) := by decide +kernel
theorem dX7_colour_9 : decode cX7_colour 9 = .ok (.getfield 78, 3) := by decide +kernel
theorem dX7_colour_12 : decode cX7_colour 12 = .ok (.getfield 110, 3) := by decide +kernel
theorem dX7_colour_15 : decode cX7_colour 15 = .ok (.iload_n 1, 1) := by decide +kernel
theorem dX7_colour_16 : decode cX7_colour 16 = .ok (.iaload, 1) := by decide +kernel
theorem dX7_colour_17 : decode cX7_colour 17 = .ok (.ireturn, 1) := by decide +kernel
theorem dX7_droneAt_0 : decode cX7_droneAt 0 = .ok (.iload_n 1, 1) := by decide +kernel
theorem dX7_droneAt_1 : decode cX7_droneAt 1 = .ok (.invokestatic 113, 3) := by decide +kernel
theorem dX7_droneAt_4 : decode cX7_droneAt 4 = .ok (.aload_n 0, 1) := by decide +kernel
theorem dX7_droneAt_5 : decode cX7_droneAt 5 = .ok (.getfield 12, 3) := by decide +kernel
theorem dX7_droneAt_8 : decode cX7_droneAt 8 = .ok (.getfield 78, 3) := by decide +kernel
theorem dX7_droneAt_11 : decode cX7_droneAt 11 = .ok (.iload_n 1, 1) := by decide +kernel
theorem dX7_droneAt_12 : decode cX7_droneAt 12 = .ok (.invokevirtual 116, 3) := by decide +kernel
theorem dX7_droneAt_15 : decode cX7_droneAt 15 = .ok (.invokestatic 107, 3) := by decide +kernel
theorem dX7_droneAt_18 : decode cX7_droneAt 18 = .ok (.ireturn, 1) := by decide +kernel
theorem dX7_isPad_0 : decode cX7_isPad 0 = .ok (.iload_n 1, 1) := by decide +kernel
theorem dX7_isPad_1 : decode cX7_isPad 1 = .ok (.invokestatic 113, 3) := by decide +kernel
theorem dX7_isPad_4 : decode cX7_isPad 4 = .ok (.aload_n 0, 1) := by decide +kernel
theorem dX7_isPad_5 : decode cX7_isPad 5 = .ok (.getfield 12, 3) := by decide +kernel
theorem dX7_isPad_8 : decode cX7_isPad 8 = .ok (.getfield 119, 3) := by decide +kernel
theorem dX7_isPad_11 : decode cX7_isPad 11 = .ok (.iload_n 1, 1) := by decide +kernel
theorem dX7_isPad_12 : decode cX7_isPad 12 = .ok (.invokestatic 123, 3) := by decide +kernel
theorem dX7_isPad_15 : decode cX7_isPad 15 = .ok (.ireturn, 1) := by decide +kernel
theorem dX7_nearestPad_0 : decode cX7_nearestPad 0 = .ok (.aload_n 0, 1) := by decide +kernel
theorem dX7_nearestPad_1 : decode cX7_nearestPad 1 = .ok (.iload_n 1, 1) := by decide +kernel
theorem dX7_nearestPad_2 : decode cX7_nearestPad 2 = .ok (.invokevirtual 87, 3) := by decide +kernel
theorem dX7_nearestPad_5 : decode cX7_nearestPad 5 = .ok (.aload_n 0, 1) := by decide +kernel
theorem dX7_nearestPad_6 : decode cX7_nearestPad 6 = .ok (.getfield 12, 3) := by decide +kernel
theorem dX7_nearestPad_9 : decode cX7_nearestPad 9 = .ok (.aload_n 0, 1) := by decide +kernel
theorem dX7_nearestPad_10 : decode cX7_nearestPad 10 = .ok (.getfield 12, 3) := by decide +kernel
theorem dX7_nearestPad_13 : decode cX7_nearestPad 13 = .ok (.getfield 78, 3) := by decide +kernel
theorem dX7_nearestPad_16 : decode cX7_nearestPad 16 = .ok (.getfield 91, 3) := by decide +kernel
theorem dX7_nearestPad_19 : decode cX7_nearestPad 19 = .ok (.iload_n 1, 1) := by decide +kernel
theorem dX7_nearestPad_20 : decode cX7_nearestPad 20 = .ok (.iaload, 1) := by decide +kernel
theorem dX7_nearestPad_21 : decode cX7_nearestPad 21 = .ok (.invokevirtual 127, 3) := by decide +kernel
theorem dX7_nearestPad_24 : decode cX7_nearestPad 24 = .ok (.invokestatic 107, 3) := by decide +kernel
theorem dX7_nearestPad_27 : decode cX7_nearestPad 27 = .ok (.ireturn, 1) := by decide +kernel
theorem dX7_nearestPadByRings_0 : decode cX7_nearestPadByRings 0 = .ok (.aload_n 0, 1) := by decide +kernel
theorem dX7_nearestPadByRings_1 : decode cX7_nearestPadByRings 1 = .ok (.iload_n 1, 1) := by decide +kernel
theorem dX7_nearestPadByRings_2 : decode cX7_nearestPadByRings 2 = .ok (.invokevirtual 87, 3) := by decide +kernel
theorem dX7_nearestPadByRings_5 : decode cX7_nearestPadByRings 5 = .ok (.aload_n 0, 1) := by decide +kernel
theorem dX7_nearestPadByRings_6 : decode cX7_nearestPadByRings 6 = .ok (.getfield 12, 3) := by decide +kernel
theorem dX7_nearestPadByRings_9 : decode cX7_nearestPadByRings 9 = .ok (.aload_n 0, 1) := by decide +kernel
theorem dX7_nearestPadByRings_10 : decode cX7_nearestPadByRings 10 = .ok (.getfield 12, 3) := by decide +kernel
theorem dX7_nearestPadByRings_13 : decode cX7_nearestPadByRings 13 = .ok (.getfield 78, 3) := by decide +kernel
theorem dX7_nearestPadByRings_16 : decode cX7_nearestPadByRings 16 = .ok (.getfield 91, 3) := by decide +kernel
theorem dX7_nearestPadByRings_19 : decode cX7_nearestPadByRings 19 = .ok (.iload_n 1, 1) := by decide +kernel
theorem dX7_nearestPadByRings_20 : decode cX7_nearestPadByRings 20 = .ok (.iaload, 1) := by decide +kernel
theorem dX7_nearestPadByRings_21 : decode cX7_nearestPadByRings 21 = .ok (.invokevirtual 130, 3) := by decide +kernel
theorem dX7_nearestPadByRings_24 : decode cX7_nearestPadByRings 24 = .ok (.invokestatic 107, 3) := by decide +kernel
theorem dX7_nearestPadByRings_27 : decode cX7_nearestPadByRings 27 = .ok (.ireturn, 1) := by decide +kernel
theorem dX7_addToFormation_0 : decode cX7_addToFormation 0 = .ok (.aload_n 0, 1) := by decide +kernel
theorem dX7_addToFormation_1 : decode cX7_addToFormation 1 = .ok (.getfield 16, 3) := by decide +kernel
theorem dX7_addToFormation_4 : decode cX7_addToFormation 4 = .ok (.aload_n 0, 1) := by decide +kernel
theorem dX7_addToFormation_5 : decode cX7_addToFormation 5 = .ok (.getfield 12, 3) := by decide +kernel
theorem dX7_addToFormation_8 : decode cX7_addToFormation 8 = .ok (.invokevirtual 51, 3) := by decide +kernel
theorem dX7_addToFormation_11 : decode cX7_addToFormation 11 = .ok (.aload_n 0, 1) := by decide +kernel
theorem dX7_addToFormation_12 : decode cX7_addToFormation 12 = .ok (.aload_n 0, 1) := by decide +kernel
theorem dX7_addToFormation_13 : decode cX7_addToFormation 13 = .ok (.getfield 16, 3) := by decide +kernel
theorem dX7_addToFormation_16 : decode cX7_addToFormation 16 = .ok (.iload_n 1, 1) := by decide +kernel
theorem dX7_addToFormation_17 : decode cX7_addToFormation 17 = .ok (.iload_n 2, 1) := by decide +kernel
theorem dX7_addToFormation_18 : decode cX7_addToFormation 18 = .ok (.invokevirtual 133, 3) := by decide +kernel
theorem dX7_addToFormation_21 : decode cX7_addToFormation 21 = .ok (.invokevirtual 59, 3) := by decide +kernel
theorem dX7_addToFormation_24 : decode cX7_addToFormation 24 = .ok (.ireturn, 1) := by decide +kernel
theorem dX7_clearFormation_0 : decode cX7_clearFormation 0 = .ok (.aload_n 0, 1) := by decide +kernel
theorem dX7_clearFormation_1 : decode cX7_clearFormation 1 = .ok (.getfield 16, 3) := by decide +kernel
theorem dX7_clearFormation_4 : decode cX7_clearFormation 4 = .ok (.aload_n 0, 1) := by decide +kernel
theorem dX7_clearFormation_5 : decode cX7_clearFormation 5 = .ok (.getfield 12, 3) := by decide +kernel
theorem dX7_clearFormation_8 : decode cX7_clearFormation 8 = .ok (.invokevirtual 51, 3) := by decide +kernel
theorem dX7_clearFormation_11 : decode cX7_clearFormation 11 = .ok (.aload_n 0, 1) := by decide +kernel
theorem dX7_clearFormation_12 : decode cX7_clearFormation 12 = .ok (.aload_n 0, 1) := by decide +kernel
theorem dX7_clearFormation_13 : decode cX7_clearFormation 13 = .ok (.getfield 16, 3) := by decide +kernel
theorem dX7_clearFormation_16 : decode cX7_clearFormation 16 = .ok (.iload_n 1, 1) := by decide +kernel
theorem dX7_clearFormation_17 : decode cX7_clearFormation 17 = .ok (.invokevirtual 136, 3) := by decide +kernel
theorem dX7_clearFormation_20 : decode cX7_clearFormation 20 = .ok (.invokevirtual 59, 3) := by decide +kernel
theorem dX7_clearFormation_23 : decode cX7_clearFormation 23 = .ok (.ireturn, 1) := by decide +kernel
theorem dX7_assign_0 : decode cX7_assign 0 = .ok (.aload_n 0, 1) := by decide +kernel
theorem dX7_assign_1 : decode cX7_assign 1 = .ok (.getfield 16, 3) := by decide +kernel
theorem dX7_assign_4 : decode cX7_assign 4 = .ok (.aload_n 0, 1) := by decide +kernel
theorem dX7_assign_5 : decode cX7_assign 5 = .ok (.getfield 12, 3) := by decide +kernel
theorem dX7_assign_8 : decode cX7_assign 8 = .ok (.invokevirtual 51, 3) := by decide +kernel
theorem dX7_assign_11 : decode cX7_assign 11 = .ok (.aload_n 0, 1) := by decide +kernel
theorem dX7_assign_12 : decode cX7_assign 12 = .ok (.aload_n 0, 1) := by decide +kernel
theorem dX7_assign_13 : decode cX7_assign 13 = .ok (.getfield 16, 3) := by decide +kernel
theorem dX7_assign_16 : decode cX7_assign 16 = .ok (.iload_n 1, 1) := by decide +kernel
theorem dX7_assign_17 : decode cX7_assign 17 = .ok (.invokevirtual 139, 3) := by decide +kernel
theorem dX7_assign_20 : decode cX7_assign 20 = .ok (.invokevirtual 59, 3) := by decide +kernel
theorem dX7_assign_23 : decode cX7_assign 23 = .ok (.ireturn, 1) := by decide +kernel
theorem dX7_formationMask_0 : decode cX7_formationMask 0 = .ok (.iload_n 1, 1) := by decide +kernel
theorem dX7_formationMask_1 : decode cX7_formationMask 1 = .ok (.invokestatic 142, 3) := by decide +kernel
theorem dX7_formationMask_4 : decode cX7_formationMask 4 = .ok (.aload_n 0, 1) := by decide +kernel
theorem dX7_formationMask_5 : decode cX7_formationMask 5 = .ok (.getfield 12, 3) := by decide +kernel
theorem dX7_formationMask_8 : decode cX7_formationMask 8 = .ok (.getfield 145, 3) := by decide +kernel
theorem dX7_formationMask_11 : decode cX7_formationMask 11 = .ok (.iload_n 1, 1) := by decide +kernel
theorem dX7_formationMask_12 : decode cX7_formationMask 12 = .ok (.laload, 1) := by decide +kernel
theorem dX7_formationMask_13 : decode cX7_formationMask 13 = .ok (.lreturn, 1) := by decide +kernel
theorem dX7_occupiedMask_0 : decode cX7_occupiedMask 0 = .ok (.aload_n 0, 1) := by decide +kernel
theorem dX7_occupiedMask_1 : decode cX7_occupiedMask 1 = .ok (.getfield 12, 3) := by decide +kernel
theorem dX7_occupiedMask_4 : decode cX7_occupiedMask 4 = .ok (.getfield 78, 3) := by decide +kernel
theorem dX7_occupiedMask_7 : decode cX7_occupiedMask 7 = .ok (.invokevirtual 149, 3) := by decide +kernel
theorem dX7_occupiedMask_10 : decode cX7_occupiedMask 10 = .ok (.lreturn, 1) := by decide +kernel
theorem dX7_matchCount_0 : decode cX7_matchCount 0 = .ok (.iload_n 1, 1) := by decide +kernel
theorem dX7_matchCount_1 : decode cX7_matchCount 1 = .ok (.invokestatic 142, 3) := by decide +kernel
theorem dX7_matchCount_4 : decode cX7_matchCount 4 = .ok (.aload_n 0, 1) := by decide +kernel
theorem dX7_matchCount_5 : decode cX7_matchCount 5 = .ok (.getfield 12, 3) := by decide +kernel
theorem dX7_matchCount_8 : decode cX7_matchCount 8 = .ok (.iload_n 1, 1) := by decide +kernel
theorem dX7_matchCount_9 : decode cX7_matchCount 9 = .ok (.invokevirtual 153, 3) := by decide +kernel
theorem dX7_matchCount_12 : decode cX7_matchCount 12 = .ok (.ireturn, 1) := by decide +kernel
theorem dX7_matchCountByScan_0 : decode cX7_matchCountByScan 0 = .ok (.iload_n 1, 1) := by decide +kernel
theorem dX7_matchCountByScan_1 : decode cX7_matchCountByScan 1 = .ok (.invokestatic 142, 3) := by decide +kernel
theorem dX7_matchCountByScan_4 : decode cX7_matchCountByScan 4 = .ok (.aload_n 0, 1) := by decide +kernel
theorem dX7_matchCountByScan_5 : decode cX7_matchCountByScan 5 = .ok (.getfield 12, 3) := by decide +kernel
theorem dX7_matchCountByScan_8 : decode cX7_matchCountByScan 8 = .ok (.iload_n 1, 1) := by decide +kernel
theorem dX7_matchCountByScan_9 : decode cX7_matchCountByScan 9 = .ok (.invokevirtual 156, 3) := by decide +kernel
theorem dX7_matchCountByScan_12 : decode cX7_matchCountByScan 12 = .ok (.ireturn, 1) := by decide +kernel
theorem dX7_coverage_0 : decode cX7_coverage 0 = .ok (.iload_n 1, 1) := by decide +kernel
theorem dX7_coverage_1 : decode cX7_coverage 1 = .ok (.invokestatic 142, 3) := by decide +kernel
theorem dX7_coverage_4 : decode cX7_coverage 4 = .ok (.aload_n 0, 1) := by decide +kernel
theorem dX7_coverage_5 : decode cX7_coverage 5 = .ok (.getfield 12, 3) := by decide +kernel
theorem dX7_coverage_8 : decode cX7_coverage 8 = .ok (.getfield 145, 3) := by decide +kernel
theorem dX7_coverage_11 : decode cX7_coverage 11 = .ok (.iload_n 1, 1) := by decide +kernel
theorem dX7_coverage_12 : decode cX7_coverage 12 = .ok (.laload, 1) := by decide +kernel
theorem dX7_coverage_13 : decode cX7_coverage 13 = .ok (.invokestatic 159, 3) := by decide +kernel
theorem dX7_coverage_16 : decode cX7_coverage 16 = .ok (.istore_n 2, 1) := by decide +kernel
theorem dX7_coverage_17 : decode cX7_coverage 17 = .ok (.iload_n 2, 1) := by decide +kernel
theorem dX7_coverage_18 : decode cX7_coverage 18 = .ok (.ifCond .ne 13, 3) := by decide +kernel
theorem dX7_coverage_21 : decode cX7_coverage 21 = .ok (.new 165, 3) := by decide +kernel
theorem dX7_coverage_24 : decode cX7_coverage 24 = .ok (.dup, 1) := by decide +kernel
theorem dX7_coverage_25 : decode cX7_coverage 25 = .ok (.ldc 167, 2) := by decide +kernel
theorem dX7_coverage_27 : decode cX7_coverage 27 = .ok (.invokespecial 169, 3) := by decide +kernel
theorem dX7_coverage_30 : decode cX7_coverage 30 = .ok (.athrow, 1) := by decide +kernel
theorem dX7_coverage_31 : decode cX7_coverage 31 = .ok (.aload_n 0, 1) := by decide +kernel
theorem dX7_coverage_32 : decode cX7_coverage 32 = .ok (.getfield 12, 3) := by decide +kernel
theorem dX7_coverage_35 : decode cX7_coverage 35 = .ok (.iload_n 1, 1) := by decide +kernel
theorem dX7_coverage_36 : decode cX7_coverage 36 = .ok (.invokevirtual 153, 3) := by decide +kernel
theorem dX7_coverage_39 : decode cX7_coverage 39 = .ok (.i2f, 1) := by decide +kernel
theorem dX7_coverage_40 : decode cX7_coverage 40 = .ok (.iload_n 2, 1) := by decide +kernel
theorem dX7_coverage_41 : decode cX7_coverage 41 = .ok (.i2f, 1) := by decide +kernel
theorem dX7_coverage_42 : decode cX7_coverage 42 = .ok (.fdiv, 1) := by decide +kernel
theorem dX7_coverage_43 : decode cX7_coverage 43 = .ok (.freturn, 1) := by decide +kernel
theorem dX7_advance_0 : decode cX7_advance 0 = .ok (.aload_n 0, 1) := by decide +kernel
theorem dX7_advance_1 : decode cX7_advance 1 = .ok (.getfield 16, 3) := by decide +kernel
theorem dX7_advance_4 : decode cX7_advance 4 = .ok (.aload_n 0, 1) := by decide +kernel
theorem dX7_advance_5 : decode cX7_advance 5 = .ok (.getfield 12, 3) := by decide +kernel
theorem dX7_advance_8 : decode cX7_advance 8 = .ok (.invokevirtual 51, 3) := by decide +kernel
theorem dX7_advance_11 : decode cX7_advance 11 = .ok (.aload_n 0, 1) := by decide +kernel
theorem dX7_advance_12 : decode cX7_advance 12 = .ok (.aload_n 0, 1) := by decide +kernel
theorem dX7_advance_13 : decode cX7_advance 13 = .ok (.getfield 16, 3) := by decide +kernel
theorem dX7_advance_16 : decode cX7_advance 16 = .ok (.iload_n 1, 1) := by decide +kernel
theorem dX7_advance_17 : decode cX7_advance 17 = .ok (.invokevirtual 172, 3) := by decide +kernel
theorem dX7_advance_20 : decode cX7_advance 20 = .ok (.invokevirtual 59, 3) := by decide +kernel
theorem dX7_advance_23 : decode cX7_advance 23 = .ok (.ireturn, 1) := by decide +kernel
theorem dX7_now_0 : decode cX7_now 0 = .ok (.aload_n 0, 1) := by decide +kernel
theorem dX7_now_1 : decode cX7_now 1 = .ok (.getfield 12, 3) := by decide +kernel
theorem dX7_now_4 : decode cX7_now 4 = .ok (.getfield 175, 3) := by decide +kernel
theorem dX7_now_7 : decode cX7_now 7 = .ok (.ireturn, 1) := by decide +kernel
theorem dX7_wantedCell_0 : decode cX7_wantedCell 0 = .ok (.aload_n 0, 1) := by decide +kernel
theorem dX7_wantedCell_1 : decode cX7_wantedCell 1 = .ok (.iload_n 1, 1) := by decide +kernel
theorem dX7_wantedCell_2 : decode cX7_wantedCell 2 = .ok (.invokevirtual 87, 3) := by decide +kernel
theorem dX7_wantedCell_5 : decode cX7_wantedCell 5 = .ok (.aload_n 0, 1) := by decide +kernel
theorem dX7_wantedCell_6 : decode cX7_wantedCell 6 = .ok (.getfield 12, 3) := by decide +kernel
theorem dX7_wantedCell_9 : decode cX7_wantedCell 9 = .ok (.getfield 78, 3) := by decide +kernel
theorem dX7_wantedCell_12 : decode cX7_wantedCell 12 = .ok (.iload_n 1, 1) := by decide +kernel
theorem dX7_wantedCell_13 : decode cX7_wantedCell 13 = .ok (.invokevirtual 178, 3) := by decide +kernel
theorem dX7_wantedCell_16 : decode cX7_wantedCell 16 = .ok (.invokestatic 107, 3) := by decide +kernel
theorem dX7_wantedCell_19 : decode cX7_wantedCell 19 = .ok (.ireturn, 1) := by decide +kernel
theorem dX7_conflictCount_0 : decode cX7_conflictCount 0 = .ok (.aload_n 0, 1) := by decide +kernel
theorem dX7_conflictCount_1 : decode cX7_conflictCount 1 = .ok (.getfield 12, 3) := by decide +kernel
theorem dX7_conflictCount_4 : decode cX7_conflictCount 4 = .ok (.getfield 78, 3) := by decide +kernel
theorem dX7_conflictCount_7 : decode cX7_conflictCount 7 = .ok (.invokevirtual 181, 3) := by decide +kernel
theorem dX7_conflictCount_10 : decode cX7_conflictCount 10 = .ok (.ireturn, 1) := by decide +kernel
theorem dX7_conflictCountByCell_0 : decode cX7_conflictCountByCell 0 = .ok (.aload_n 0, 1) := by decide +kernel
theorem dX7_conflictCountByCell_1 : decode cX7_conflictCountByCell 1 = .ok (.invokevirtual 185, 3) := by decide +kernel
theorem dX7_conflictCountByCell_4 : decode cX7_conflictCountByCell 4 = .ok (.ireturn, 1) := by decide +kernel
theorem dX7_droneAtRank_0 : decode cX7_droneAtRank 0 = .ok (.aload_n 0, 1) := by decide +kernel
theorem dX7_droneAtRank_1 : decode cX7_droneAtRank 1 = .ok (.getfield 12, 3) := by decide +kernel
theorem dX7_droneAtRank_4 : decode cX7_droneAtRank 4 = .ok (.getfield 78, 3) := by decide +kernel
theorem dX7_droneAtRank_7 : decode cX7_droneAtRank 7 = .ok (.iload_n 1, 1) := by decide +kernel
theorem dX7_droneAtRank_8 : decode cX7_droneAtRank 8 = .ok (.invokevirtual 188, 3) := by decide +kernel
theorem dX7_droneAtRank_11 : decode cX7_droneAtRank 11 = .ok (.invokestatic 107, 3) := by decide +kernel
theorem dX7_droneAtRank_14 : decode cX7_droneAtRank 14 = .ok (.ireturn, 1) := by decide +kernel
theorem dX7_batteryAfter_0 : decode cX7_batteryAfter 0 = .ok (.aload_n 0, 1) := by decide +kernel
theorem dX7_batteryAfter_1 : decode cX7_batteryAfter 1 = .ok (.iload_n 1, 1) := by decide +kernel
theorem dX7_batteryAfter_2 : decode cX7_batteryAfter 2 = .ok (.invokevirtual 87, 3) := by decide +kernel
theorem dX7_batteryAfter_5 : decode cX7_batteryAfter 5 = .ok (.iload_n 2, 1) := by decide +kernel
theorem dX7_batteryAfter_6 : decode cX7_batteryAfter 6 = .ok (.ifCond .lt 9, 3) := by decide +kernel
theorem dX7_batteryAfter_9 : decode cX7_batteryAfter 9 = .ok (.iload_n 2, 1) := by decide +kernel
theorem dX7_batteryAfter_10 : decode cX7_batteryAfter 10 = .ok (.bipush 30, 2) := by decide +kernel
theorem dX7_batteryAfter_12 : decode cX7_batteryAfter 12 = .ok (.if_icmp .le 13, 3) := by decide +kernel
theorem dX7_batteryAfter_15 : decode cX7_batteryAfter 15 = .ok (.new 191, 3) := by decide +kernel
theorem dX7_batteryAfter_18 : decode cX7_batteryAfter 18 = .ok (.dup, 1) := by decide +kernel
theorem dX7_batteryAfter_19 : decode cX7_batteryAfter 19 = .ok (.ldc 193, 2) := by decide +kernel
theorem dX7_batteryAfter_21 : decode cX7_batteryAfter 21 = .ok (.invokespecial 195, 3) := by decide +kernel
theorem dX7_batteryAfter_24 : decode cX7_batteryAfter 24 = .ok (.athrow, 1) := by decide +kernel
theorem dX7_batteryAfter_25 : decode cX7_batteryAfter 25 = .ok (.aload_n 0, 1) := by decide +kernel
theorem dX7_batteryAfter_26 : decode cX7_batteryAfter 26 = .ok (.getfield 16, 3) := by decide +kernel
theorem dX7_batteryAfter_29 : decode cX7_batteryAfter 29 = .ok (.aload_n 0, 1) := by decide +kernel
theorem dX7_batteryAfter_30 : decode cX7_batteryAfter 30 = .ok (.getfield 12, 3) := by decide +kernel
theorem dX7_batteryAfter_33 : decode cX7_batteryAfter 33 = .ok (.invokevirtual 51, 3) := by decide +kernel
theorem dX7_batteryAfter_36 : decode cX7_batteryAfter 36 = .ok (.iconst 0, 1) := by decide +kernel
theorem dX7_batteryAfter_37 : decode cX7_batteryAfter 37 = .ok (.istore_n 3, 1) := by decide +kernel
theorem dX7_batteryAfter_38 : decode cX7_batteryAfter 38 = .ok (.iload_n 3, 1) := by decide +kernel
theorem dX7_batteryAfter_39 : decode cX7_batteryAfter 39 = .ok (.iload_n 2, 1) := by decide +kernel
theorem dX7_batteryAfter_40 : decode cX7_batteryAfter 40 = .ok (.if_icmp .ge 16, 3) := by decide +kernel
theorem dX7_batteryAfter_43 : decode cX7_batteryAfter 43 = .ok (.aload_n 0, 1) := by decide +kernel
theorem dX7_batteryAfter_44 : decode cX7_batteryAfter 44 = .ok (.getfield 16, 3) := by decide +kernel
theorem dX7_batteryAfter_47 : decode cX7_batteryAfter 47 = .ok (.invokevirtual 196, 3) := by decide +kernel
theorem dX7_batteryAfter_50 : decode cX7_batteryAfter 50 = .ok (.iinc 3 1, 3) := by decide +kernel
theorem dX7_batteryAfter_53 : decode cX7_batteryAfter 53 = .ok (.goto (-15), 3) := by decide +kernel
theorem dX7_batteryAfter_56 : decode cX7_batteryAfter 56 = .ok (.aload_n 0, 1) := by decide +kernel
theorem dX7_batteryAfter_57 : decode cX7_batteryAfter 57 = .ok (.getfield 16, 3) := by decide +kernel
theorem dX7_batteryAfter_60 : decode cX7_batteryAfter 60 = .ok (.getfield 78, 3) := by decide +kernel
theorem dX7_batteryAfter_63 : decode cX7_batteryAfter 63 = .ok (.getfield 94, 3) := by decide +kernel
theorem dX7_batteryAfter_66 : decode cX7_batteryAfter 66 = .ok (.iload_n 1, 1) := by decide +kernel
theorem dX7_batteryAfter_67 : decode cX7_batteryAfter 67 = .ok (.iaload, 1) := by decide +kernel
theorem dX7_batteryAfter_68 : decode cX7_batteryAfter 68 = .ok (.ireturn, 1) := by decide +kernel
theorem dX7_cueColour_0 : decode cX7_cueColour 0 = .ok (.aload_n 0, 1) := by decide +kernel
theorem dX7_cueColour_1 : decode cX7_cueColour 1 = .ok (.getfield 16, 3) := by decide +kernel
theorem dX7_cueColour_4 : decode cX7_cueColour 4 = .ok (.aload_n 0, 1) := by decide +kernel
theorem dX7_cueColour_5 : decode cX7_cueColour 5 = .ok (.getfield 12, 3) := by decide +kernel
theorem dX7_cueColour_8 : decode cX7_cueColour 8 = .ok (.invokevirtual 51, 3) := by decide +kernel
theorem dX7_cueColour_11 : decode cX7_cueColour 11 = .ok (.aload_n 0, 1) := by decide +kernel
theorem dX7_cueColour_12 : decode cX7_cueColour 12 = .ok (.aload_n 0, 1) := by decide +kernel
theorem dX7_cueColour_13 : decode cX7_cueColour 13 = .ok (.getfield 16, 3) := by decide +kernel
theorem dX7_cueColour_16 : decode cX7_cueColour 16 = .ok (.iload_n 1, 1) := by decide +kernel
theorem dX7_cueColour_17 : decode cX7_cueColour 17 = .ok (.iload_n 2, 1) := by decide +kernel
theorem dX7_cueColour_18 : decode cX7_cueColour 18 = .ok (.iload_n 3, 1) := by decide +kernel
theorem dX7_cueColour_19 : decode cX7_cueColour 19 = .ok (.invokevirtual 199, 3) := by decide +kernel
theorem dX7_cueColour_22 : decode cX7_cueColour 22 = .ok (.invokevirtual 59, 3) := by decide +kernel
theorem dX7_cueColour_25 : decode cX7_cueColour 25 = .ok (.ireturn, 1) := by decide +kernel
theorem dX7_cueCount_0 : decode cX7_cueCount 0 = .ok (.aload_n 0, 1) := by decide +kernel
theorem dX7_cueCount_1 : decode cX7_cueCount 1 = .ok (.getfield 12, 3) := by decide +kernel
theorem dX7_cueCount_4 : decode cX7_cueCount 4 = .ok (.getfield 203, 3) := by decide +kernel
theorem dX7_cueCount_7 : decode cX7_cueCount 7 = .ok (.getfield 207, 3) := by decide +kernel
theorem dX7_cueCount_10 : decode cX7_cueCount 10 = .ok (.ireturn, 1) := by decide +kernel
theorem dX7_nextCueTime_0 : decode cX7_nextCueTime 0 = .ok (.aload_n 0, 1) := by decide +kernel
theorem dX7_nextCueTime_1 : decode cX7_nextCueTime 1 = .ok (.getfield 12, 3) := by decide +kernel
theorem dX7_nextCueTime_4 : decode cX7_nextCueTime 4 = .ok (.getfield 203, 3) := by decide +kernel
theorem dX7_nextCueTime_7 : decode cX7_nextCueTime 7 = .ok (.invokevirtual 210, 3) := by decide +kernel
theorem dX7_nextCueTime_10 : decode cX7_nextCueTime 10 = .ok (.invokestatic 107, 3) := by decide +kernel
theorem dX7_nextCueTime_13 : decode cX7_nextCueTime 13 = .ok (.ireturn, 1) := by decide +kernel
theorem dX7_movedTotal_0 : decode cX7_movedTotal 0 = .ok (.aload_n 0, 1) := by decide +kernel
theorem dX7_movedTotal_1 : decode cX7_movedTotal 1 = .ok (.getfield 12, 3) := by decide +kernel
theorem dX7_movedTotal_4 : decode cX7_movedTotal 4 = .ok (.getfield 213, 3) := by decide +kernel
theorem dX7_movedTotal_7 : decode cX7_movedTotal 7 = .ok (.ireturn, 1) := by decide +kernel
theorem dX7_blockedTotal_0 : decode cX7_blockedTotal 0 = .ok (.aload_n 0, 1) := by decide +kernel
theorem dX7_blockedTotal_1 : decode cX7_blockedTotal 1 = .ok (.getfield 12, 3) := by decide +kernel
theorem dX7_blockedTotal_4 : decode cX7_blockedTotal 4 = .ok (.getfield 216, 3) := by decide +kernel
theorem dX7_blockedTotal_7 : decode cX7_blockedTotal 7 = .ok (.ireturn, 1) := by decide +kernel
theorem dX7_emergencyTotal_0 : decode cX7_emergencyTotal 0 = .ok (.aload_n 0, 1) := by decide +kernel
theorem dX7_emergencyTotal_1 : decode cX7_emergencyTotal 1 = .ok (.getfield 12, 3) := by decide +kernel
theorem dX7_emergencyTotal_4 : decode cX7_emergencyTotal 4 = .ok (.getfield 219, 3) := by decide +kernel
theorem dX7_emergencyTotal_7 : decode cX7_emergencyTotal 7 = .ok (.ireturn, 1) := by decide +kernel
theorem dX7_forcedTotal_0 : decode cX7_forcedTotal 0 = .ok (.aload_n 0, 1) := by decide +kernel
theorem dX7_forcedTotal_1 : decode cX7_forcedTotal 1 = .ok (.getfield 12, 3) := by decide +kernel
theorem dX7_forcedTotal_4 : decode cX7_forcedTotal 4 = .ok (.getfield 222, 3) := by decide +kernel
theorem dX7_forcedTotal_7 : decode cX7_forcedTotal 7 = .ok (.ireturn, 1) := by decide +kernel
theorem dX7_append_0 : decode cX7_append 0 = .ok (.iload_n 1, 1) := by decide +kernel
theorem dX7_append_1 : decode cX7_append 1 = .ok (.bipush 32, 2) := by decide +kernel
theorem dX7_append_3 : decode cX7_append 3 = .ok (.if_icmp .lt 9, 3) := by decide +kernel
theorem dX7_append_6 : decode cX7_append 6 = .ok (.iload_n 1, 1) := by decide +kernel
theorem dX7_append_7 : decode cX7_append 7 = .ok (.bipush 126, 2) := by decide +kernel
theorem dX7_append_9 : decode cX7_append 9 = .ok (.if_icmp .le 13, 3) := by decide +kernel
theorem dX7_append_12 : decode cX7_append 12 = .ok (.new 191, 3) := by decide +kernel
theorem dX7_append_15 : decode cX7_append 15 = .ok (.dup, 1) := by decide +kernel
theorem dX7_append_16 : decode cX7_append 16 = .ok (.ldc 225, 2) := by decide +kernel
theorem dX7_append_18 : decode cX7_append 18 = .ok (.invokespecial 195, 3) := by decide +kernel
theorem dX7_append_21 : decode cX7_append 21 = .ok (.athrow, 1) := by decide +kernel
theorem dX7_append_22 : decode cX7_append 22 = .ok (.aload_n 0, 1) := by decide +kernel
theorem dX7_append_23 : decode cX7_append 23 = .ok (.getfield 32, 3) := by decide +kernel
theorem dX7_append_26 : decode cX7_append 26 = .ok (.getfield 227, 3) := by decide +kernel
theorem dX7_append_29 : decode cX7_append 29 = .ok (.bipush 60, 2) := by decide +kernel
theorem dX7_append_31 : decode cX7_append 31 = .ok (.if_icmp .lt 13, 3) := by decide +kernel
theorem dX7_append_34 : decode cX7_append 34 = .ok (.new 230, 3) := by decide +kernel
theorem dX7_append_37 : decode cX7_append 37 = .ok (.dup, 1) := by decide +kernel
theorem dX7_append_38 : decode cX7_append 38 = .ok (.ldc 232, 2) := by decide +kernel
theorem dX7_append_40 : decode cX7_append 40 = .ok (.invokespecial 234, 3) := by decide +kernel
theorem dX7_append_43 : decode cX7_append 43 = .ok (.athrow, 1) := by decide +kernel
theorem dX7_append_44 : decode cX7_append 44 = .ok (.aload_n 0, 1) := by decide +kernel
theorem dX7_append_45 : decode cX7_append 45 = .ok (.getfield 32, 3) := by decide +kernel
theorem dX7_append_48 : decode cX7_append 48 = .ok (.iload_n 1, 1) := by decide +kernel
theorem dX7_append_49 : decode cX7_append 49 = .ok (.invokevirtual 235, 3) := by decide +kernel
theorem dX7_append_52 : decode cX7_append 52 = .ok (.aload_n 0, 1) := by decide +kernel
theorem dX7_append_53 : decode cX7_append 53 = .ok (.getfield 32, 3) := by decide +kernel
theorem dX7_append_56 : decode cX7_append 56 = .ok (.getfield 227, 3) := by decide +kernel
theorem dX7_append_59 : decode cX7_append 59 = .ok (.ireturn, 1) := by decide +kernel
theorem dX7_run_0 : decode cX7_run 0 = .ok (.aload_n 0, 1) := by decide +kernel
theorem dX7_run_1 : decode cX7_run 1 = .ok (.getfield 32, 3) := by decide +kernel
theorem dX7_run_4 : decode cX7_run 4 = .ok (.invokevirtual 239, 3) := by decide +kernel
theorem dX7_run_7 : decode cX7_run 7 = .ok (.istore_n 1, 1) := by decide +kernel
theorem dX7_run_8 : decode cX7_run 8 = .ok (.aload_n 0, 1) := by decide +kernel
theorem dX7_run_9 : decode cX7_run 9 = .ok (.getfield 32, 3) := by decide +kernel
theorem dX7_run_12 : decode cX7_run 12 = .ok (.iconst 0, 1) := by decide +kernel
theorem dX7_run_13 : decode cX7_run 13 = .ok (.putfield 227, 3) := by decide +kernel
theorem dX7_run_16 : decode cX7_run 16 = .ok (.iload_n 1, 1) := by decide +kernel
theorem dX7_run_17 : decode cX7_run 17 = .ok (.ifCond .ne 24, 3) := by decide +kernel
theorem dX7_run_20 : decode cX7_run 20 = .ok (.aload_n 0, 1) := by decide +kernel
theorem dX7_run_21 : decode cX7_run 21 = .ok (.aload_n 0, 1) := by decide +kernel
theorem dX7_run_22 : decode cX7_run 22 = .ok (.getfield 32, 3) := by decide +kernel
theorem dX7_run_25 : decode cX7_run 25 = .ok (.getfield 243, 3) := by decide +kernel
theorem dX7_run_28 : decode cX7_run 28 = .ok (.putfield 36, 3) := by decide +kernel
theorem dX7_run_31 : decode cX7_run 31 = .ok (.new 191, 3) := by decide +kernel
theorem dX7_run_34 : decode cX7_run 34 = .ok (.dup, 1) := by decide +kernel
theorem dX7_run_35 : decode cX7_run 35 = .ok (.ldc 246, 2) := by decide +kernel
theorem dX7_run_37 : decode cX7_run 37 = .ok (.invokespecial 195, 3) := by decide +kernel
theorem dX7_run_40 : decode cX7_run 40 = .ok (.athrow, 1) := by decide +kernel
theorem dX7_run_41 : decode cX7_run 41 = .ok (.aload_n 0, 1) := by decide +kernel
theorem dX7_run_42 : decode cX7_run 42 = .ok (.getfield 16, 3) := by decide +kernel
theorem dX7_run_45 : decode cX7_run 45 = .ok (.aload_n 0, 1) := by decide +kernel
theorem dX7_run_46 : decode cX7_run 46 = .ok (.getfield 12, 3) := by decide +kernel
theorem dX7_run_49 : decode cX7_run 49 = .ok (.invokevirtual 51, 3) := by decide +kernel
theorem dX7_run_52 : decode cX7_run 52 = .ok (.iconst 0, 1) := by decide +kernel
theorem dX7_run_53 : decode cX7_run 53 = .ok (.istore_n 2, 1) := by decide +kernel
theorem dX7_run_54 : decode cX7_run 54 = .ok (.iload_n 2, 1) := by decide +kernel
theorem dX7_run_55 : decode cX7_run 55 = .ok (.aload_n 0, 1) := by decide +kernel
theorem dX7_run_56 : decode cX7_run 56 = .ok (.getfield 32, 3) := by decide +kernel
theorem dX7_run_59 : decode cX7_run 59 = .ok (.getfield 248, 3) := by decide +kernel
theorem dX7_run_62 : decode cX7_run 62 = .ok (.if_icmp .ge 53, 3) := by decide +kernel
theorem dX7_run_65 : decode cX7_run 65 = .ok (.aload_n 0, 1) := by decide +kernel
theorem dX7_run_66 : decode cX7_run 66 = .ok (.getfield 16, 3) := by decide +kernel
theorem dX7_run_69 : decode cX7_run 69 = .ok (.aload_n 0, 1) := by decide +kernel
theorem dX7_run_70 : decode cX7_run 70 = .ok (.getfield 32, 3) := by decide +kernel
theorem dX7_run_73 : decode cX7_run 73 = .ok (.getfield 249, 3) := by decide +kernel
theorem dX7_run_76 : decode cX7_run 76 = .ok (.iload_n 2, 1) := by decide +kernel
theorem dX7_run_77 : decode cX7_run 77 = .ok (.aaload, 1) := by decide +kernel
theorem dX7_run_78 : decode cX7_run 78 = .ok (.aload_n 0, 1) := by decide +kernel
theorem dX7_run_79 : decode cX7_run 79 = .ok (.getfield 32, 3) := by decide +kernel
theorem dX7_run_82 : decode cX7_run 82 = .ok (.getfield 253, 3) := by decide +kernel
theorem dX7_run_85 : decode cX7_run 85 = .ok (.iload_n 2, 1) := by decide +kernel
theorem dX7_run_86 : decode cX7_run 86 = .ok (.aaload, 1) := by decide +kernel
theorem dX7_run_87 : decode cX7_run 87 = .ok (.invokevirtual 257, 3) := by decide +kernel
theorem dX7_run_90 : decode cX7_run 90 = .ok (.ifCond .ge 19, 3) := by decide +kernel
theorem dX7_run_93 : decode cX7_run 93 = .ok (.aload_n 0, 1) := by decide +kernel
theorem dX7_run_94 : decode cX7_run 94 = .ok (.iload_n 2, 1) := by decide +kernel
theorem dX7_run_95 : decode cX7_run 95 = .ok (.putfield 40, 3) := by decide +kernel
theorem dX7_run_98 : decode cX7_run 98 = .ok (.new 230, 3) := by decide +kernel
theorem dX7_run_101 : decode cX7_run 101 = .ok (.dup, 1) := by decide +kernel
theorem dX7_run_102 : decode cX7_run 102 = .ok (.ldc_w 261, 3) := by decide +kernel
theorem dX7_run_105 : decode cX7_run 105 = .ok (.invokespecial 234, 3) := by decide +kernel
theorem dX7_run_108 : decode cX7_run 108 = .ok (.athrow, 1) := by decide +kernel
theorem dX7_run_109 : decode cX7_run 109 = .ok (.iinc 2 1, 3) := by decide +kernel
theorem dX7_run_112 : decode cX7_run 112 = .ok (.goto (-58), 3) := by decide +kernel
theorem dX7_run_115 : decode cX7_run 115 = .ok (.aload_n 0, 1) := by decide +kernel
theorem dX7_run_116 : decode cX7_run 116 = .ok (.aload_n 0, 1) := by decide +kernel
theorem dX7_run_117 : decode cX7_run 117 = .ok (.getfield 32, 3) := by decide +kernel
theorem dX7_run_120 : decode cX7_run 120 = .ok (.getfield 248, 3) := by decide +kernel
theorem dX7_run_123 : decode cX7_run 123 = .ok (.invokevirtual 59, 3) := by decide +kernel
theorem dX7_run_126 : decode cX7_run 126 = .ok (.ireturn, 1) := by decide +kernel
theorem dX7_errorPosition_0 : decode cX7_errorPosition 0 = .ok (.aload_n 0, 1) := by decide +kernel
theorem dX7_errorPosition_1 : decode cX7_errorPosition 1 = .ok (.getfield 36, 3) := by decide +kernel
theorem dX7_errorPosition_4 : decode cX7_errorPosition 4 = .ok (.invokestatic 107, 3) := by decide +kernel
theorem dX7_errorPosition_7 : decode cX7_errorPosition 7 = .ok (.ireturn, 1) := by decide +kernel
theorem dX7_failedCommand_0 : decode cX7_failedCommand 0 = .ok (.aload_n 0, 1) := by decide +kernel
theorem dX7_failedCommand_1 : decode cX7_failedCommand 1 = .ok (.getfield 40, 3) := by decide +kernel
theorem dX7_failedCommand_4 : decode cX7_failedCommand 4 = .ok (.invokestatic 107, 3) := by decide +kernel
theorem dX7_failedCommand_7 : decode cX7_failedCommand 7 = .ok (.ireturn, 1) := by decide +kernel
theorem dX7_describeRow_0 : decode cX7_describeRow 0 = .ok (.iload_n 1, 1) := by decide +kernel
theorem dX7_describeRow_1 : decode cX7_describeRow 1 = .ok (.ifCond .lt 9, 3) := by decide +kernel
theorem dX7_describeRow_4 : decode cX7_describeRow 4 = .ok (.iload_n 1, 1) := by decide +kernel
theorem dX7_describeRow_5 : decode cX7_describeRow 5 = .ok (.bipush 8, 2) := by decide +kernel
theorem dX7_describeRow_7 : decode cX7_describeRow 7 = .ok (.if_icmp .lt 14, 3) := by decide +kernel
theorem dX7_describeRow_10 : decode cX7_describeRow 10 = .ok (.new 263, 3) := by decide +kernel
theorem dX7_describeRow_13 : decode cX7_describeRow 13 = .ok (.dup, 1) := by decide +kernel
theorem dX7_describeRow_14 : decode cX7_describeRow 14 = .ok (.ldc_w 265, 3) := by decide +kernel
theorem dX7_describeRow_17 : decode cX7_describeRow 17 = .ok (.invokespecial 267, 3) := by decide +kernel
theorem dX7_describeRow_20 : decode cX7_describeRow 20 = .ok (.athrow, 1) := by decide +kernel
theorem dX7_describeRow_21 : decode cX7_describeRow 21 = .ok (.iconst 0, 1) := by decide +kernel
theorem dX7_describeRow_22 : decode cX7_describeRow 22 = .ok (.istore_n 2, 1) := by decide +kernel
theorem dX7_describeRow_23 : decode cX7_describeRow 23 = .ok (.iload_n 2, 1) := by decide +kernel
theorem dX7_describeRow_24 : decode cX7_describeRow 24 = .ok (.bipush 8, 2) := by decide +kernel
theorem dX7_describeRow_26 : decode cX7_describeRow 26 = .ok (.if_icmp .ge 28, 3) := by decide +kernel
theorem dX7_describeRow_29 : decode cX7_describeRow 29 = .ok (.aload_n 0, 1) := by decide +kernel
theorem dX7_describeRow_30 : decode cX7_describeRow 30 = .ok (.getfield 43, 3) := by decide +kernel
theorem dX7_describeRow_33 : decode cX7_describeRow 33 = .ok (.iload_n 2, 1) := by decide +kernel
theorem dX7_describeRow_34 : decode cX7_describeRow 34 = .ok (.aload_n 0, 1) := by decide +kernel
theorem dX7_describeRow_35 : decode cX7_describeRow 35 = .ok (.getfield 12, 3) := by decide +kernel
theorem dX7_describeRow_38 : decode cX7_describeRow 38 = .ok (.bipush 8, 2) := by decide +kernel
theorem dX7_describeRow_40 : decode cX7_describeRow 40 = .ok (.iload_n 1, 1) := by decide +kernel
theorem dX7_describeRow_41 : decode cX7_describeRow 41 = .ok (.imul, 1) := by decide +kernel
theorem dX7_describeRow_42 : decode cX7_describeRow 42 = .ok (.iload_n 2, 1) := by decide +kernel
theorem dX7_describeRow_43 : decode cX7_describeRow 43 = .ok (.iadd, 1) := by decide +kernel
theorem dX7_describeRow_44 : decode cX7_describeRow 44 = .ok (.invokevirtual 268, 3) := by decide +kernel
theorem dX7_describeRow_47 : decode cX7_describeRow 47 = .ok (.castore, 1) := by decide +kernel
theorem dX7_describeRow_48 : decode cX7_describeRow 48 = .ok (.iinc 2 1, 3) := by decide +kernel
theorem dX7_describeRow_51 : decode cX7_describeRow 51 = .ok (.goto (-28), 3) := by decide +kernel
theorem dX7_describeRow_54 : decode cX7_describeRow 54 = .ok (.aload_n 0, 1) := by decide +kernel
theorem dX7_describeRow_55 : decode cX7_describeRow 55 = .ok (.bipush 8, 2) := by decide +kernel
theorem dX7_describeRow_57 : decode cX7_describeRow 57 = .ok (.putfield 272, 3) := by decide +kernel
theorem dX7_describeRow_60 : decode cX7_describeRow 60 = .ok (.aload_n 0, 1) := by decide +kernel
theorem dX7_describeRow_61 : decode cX7_describeRow 61 = .ok (.getfield 272, 3) := by decide +kernel
theorem dX7_describeRow_64 : decode cX7_describeRow 64 = .ok (.ireturn, 1) := by decide +kernel
theorem dX7_lineAt_0 : decode cX7_lineAt 0 = .ok (.iload_n 1, 1) := by decide +kernel
theorem dX7_lineAt_1 : decode cX7_lineAt 1 = .ok (.ifCond .lt 11, 3) := by decide +kernel
theorem dX7_lineAt_4 : decode cX7_lineAt 4 = .ok (.iload_n 1, 1) := by decide +kernel
theorem dX7_lineAt_5 : decode cX7_lineAt 5 = .ok (.aload_n 0, 1) := by decide +kernel
theorem dX7_lineAt_6 : decode cX7_lineAt 6 = .ok (.getfield 272, 3) := by decide +kernel
theorem dX7_lineAt_9 : decode cX7_lineAt 9 = .ok (.if_icmp .lt 14, 3) := by decide +kernel
theorem dX7_lineAt_12 : decode cX7_lineAt 12 = .ok (.new 263, 3) := by decide +kernel
theorem dX7_lineAt_15 : decode cX7_lineAt 15 = .ok (.dup, 1) := by decide +kernel
theorem dX7_lineAt_16 : decode cX7_lineAt 16 = .ok (.ldc_w 275, 3) := by decide +kernel
theorem dX7_lineAt_19 : decode cX7_lineAt 19 = .ok (.invokespecial 267, 3) := by decide +kernel
theorem dX7_lineAt_22 : decode cX7_lineAt 22 = .ok (.athrow, 1) := by decide +kernel
theorem dX7_lineAt_23 : decode cX7_lineAt 23 = .ok (.aload_n 0, 1) := by decide +kernel
theorem dX7_lineAt_24 : decode cX7_lineAt 24 = .ok (.getfield 43, 3) := by decide +kernel
theorem dX7_lineAt_27 : decode cX7_lineAt 27 = .ok (.iload_n 1, 1) := by decide +kernel
theorem dX7_lineAt_28 : decode cX7_lineAt 28 = .ok (.caload, 1) := by decide +kernel
theorem dX7_lineAt_29 : decode cX7_lineAt 29 = .ok (.ireturn, 1) := by decide +kernel
theorem dX7_meanBatteryBits_0 : decode cX7_meanBatteryBits 0 = .ok (.aload_n 0, 1) := by decide +kernel
theorem dX7_meanBatteryBits_1 : decode cX7_meanBatteryBits 1 = .ok (.getfield 12, 3) := by decide +kernel
theorem dX7_meanBatteryBits_4 : decode cX7_meanBatteryBits 4 = .ok (.getfield 78, 3) := by decide +kernel
theorem dX7_meanBatteryBits_7 : decode cX7_meanBatteryBits 7 = .ok (.getfield 82, 3) := by decide +kernel
theorem dX7_meanBatteryBits_10 : decode cX7_meanBatteryBits 10 = .ok (.istore_n 1, 1) := by decide +kernel
theorem dX7_meanBatteryBits_11 : decode cX7_meanBatteryBits 11 = .ok (.iload_n 1, 1) := by decide +kernel
theorem dX7_meanBatteryBits_12 : decode cX7_meanBatteryBits 12 = .ok (.ifCond .ne 14, 3) := by decide +kernel
theorem dX7_meanBatteryBits_15 : decode cX7_meanBatteryBits 15 = .ok (.new 165, 3) := by decide +kernel
theorem dX7_meanBatteryBits_18 : decode cX7_meanBatteryBits 18 = .ok (.dup, 1) := by decide +kernel
theorem dX7_meanBatteryBits_19 : decode cX7_meanBatteryBits 19 = .ok (.ldc_w 277, 3) := by decide +kernel
theorem dX7_meanBatteryBits_22 : decode cX7_meanBatteryBits 22 = .ok (.invokespecial 169, 3) := by decide +kernel
theorem dX7_meanBatteryBits_25 : decode cX7_meanBatteryBits 25 = .ok (.athrow, 1) := by decide +kernel
theorem dX7_meanBatteryBits_26 : decode cX7_meanBatteryBits 26 = .ok (.aload_n 0, 1) := by decide +kernel
theorem dX7_meanBatteryBits_27 : decode cX7_meanBatteryBits 27 = .ok (.getfield 12, 3) := by decide +kernel
theorem dX7_meanBatteryBits_30 : decode cX7_meanBatteryBits 30 = .ok (.getfield 78, 3) := by decide +kernel
theorem dX7_meanBatteryBits_33 : decode cX7_meanBatteryBits 33 = .ok (.invokevirtual 279, 3) := by decide +kernel
theorem dX7_meanBatteryBits_36 : decode cX7_meanBatteryBits 36 = .ok (.i2f, 1) := by decide +kernel
theorem dX7_meanBatteryBits_37 : decode cX7_meanBatteryBits 37 = .ok (.iload_n 1, 1) := by decide +kernel
theorem dX7_meanBatteryBits_38 : decode cX7_meanBatteryBits 38 = .ok (.i2f, 1) := by decide +kernel
theorem dX7_meanBatteryBits_39 : decode cX7_meanBatteryBits 39 = .ok (.fdiv, 1) := by decide +kernel
theorem dX7_meanBatteryBits_40 : decode cX7_meanBatteryBits 40 = .ok (.invokestatic 282, 3) := by decide +kernel
theorem dX7_meanBatteryBits_43 : decode cX7_meanBatteryBits 43 = .ok (.ireturn, 1) := by decide +kernel
theorem dX7_meanDistance_0 : decode cX7_meanDistance 0 = .ok (.aload_n 0, 1) := by decide +kernel
theorem dX7_meanDistance_1 : decode cX7_meanDistance 1 = .ok (.getfield 12, 3) := by decide +kernel
theorem dX7_meanDistance_4 : decode cX7_meanDistance 4 = .ok (.getfield 78, 3) := by decide +kernel
theorem dX7_meanDistance_7 : decode cX7_meanDistance 7 = .ok (.invokevirtual 286, 3) := by decide +kernel
theorem dX7_meanDistance_10 : decode cX7_meanDistance 10 = .ok (.istore_n 1, 1) := by decide +kernel
theorem dX7_meanDistance_11 : decode cX7_meanDistance 11 = .ok (.iload_n 1, 1) := by decide +kernel
theorem dX7_meanDistance_12 : decode cX7_meanDistance 12 = .ok (.ifCond .ne 14, 3) := by decide +kernel
theorem dX7_meanDistance_15 : decode cX7_meanDistance 15 = .ok (.new 165, 3) := by decide +kernel
theorem dX7_meanDistance_18 : decode cX7_meanDistance 18 = .ok (.dup, 1) := by decide +kernel
theorem dX7_meanDistance_19 : decode cX7_meanDistance 19 = .ok (.ldc_w 289, 3) := by decide +kernel
theorem dX7_meanDistance_22 : decode cX7_meanDistance 22 = .ok (.invokespecial 169, 3) := by decide +kernel
theorem dX7_meanDistance_25 : decode cX7_meanDistance 25 = .ok (.athrow, 1) := by decide +kernel
theorem dX7_meanDistance_26 : decode cX7_meanDistance 26 = .ok (.aload_n 0, 1) := by decide +kernel
theorem dX7_meanDistance_27 : decode cX7_meanDistance 27 = .ok (.getfield 12, 3) := by decide +kernel
theorem dX7_meanDistance_30 : decode cX7_meanDistance 30 = .ok (.getfield 78, 3) := by decide +kernel
theorem dX7_meanDistance_33 : decode cX7_meanDistance 33 = .ok (.invokevirtual 291, 3) := by decide +kernel
theorem dX7_meanDistance_36 : decode cX7_meanDistance 36 = .ok (.i2d, 1) := by decide +kernel
theorem dX7_meanDistance_37 : decode cX7_meanDistance 37 = .ok (.iload_n 1, 1) := by decide +kernel
theorem dX7_meanDistance_38 : decode cX7_meanDistance 38 = .ok (.i2d, 1) := by decide +kernel
theorem dX7_meanDistance_39 : decode cX7_meanDistance 39 = .ok (.ddiv, 1) := by decide +kernel
theorem dX7_meanDistance_40 : decode cX7_meanDistance 40 = .ok (.dreturn, 1) := by decide +kernel
theorem dX7_isConsistent_0 : decode cX7_isConsistent 0 = .ok (.aload_n 0, 1) := by decide +kernel
theorem dX7_isConsistent_1 : decode cX7_isConsistent 1 = .ok (.getfield 12, 3) := by decide +kernel
theorem dX7_isConsistent_4 : decode cX7_isConsistent 4 = .ok (.getfield 78, 3) := by decide +kernel
theorem dX7_isConsistent_7 : decode cX7_isConsistent 7 = .ok (.invokevirtual 149, 3) := by decide +kernel
theorem dX7_isConsistent_10 : decode cX7_isConsistent 10 = .ok (.invokestatic 159, 3) := by decide +kernel
theorem dX7_isConsistent_13 : decode cX7_isConsistent 13 = .ok (.aload_n 0, 1) := by decide +kernel
theorem dX7_isConsistent_14 : decode cX7_isConsistent 14 = .ok (.getfield 12, 3) := by decide +kernel
theorem dX7_isConsistent_17 : decode cX7_isConsistent 17 = .ok (.getfield 78, 3) := by decide +kernel
theorem dX7_isConsistent_20 : decode cX7_isConsistent 20 = .ok (.getfield 82, 3) := by decide +kernel
theorem dX7_isConsistent_23 : decode cX7_isConsistent 23 = .ok (.if_icmp .ne 38, 3) := by decide +kernel
theorem dX7_isConsistent_26 : decode cX7_isConsistent 26 = .ok (.aload_n 0, 1) := by decide +kernel
theorem dX7_isConsistent_27 : decode cX7_isConsistent 27 = .ok (.getfield 12, 3) := by decide +kernel
theorem dX7_isConsistent_30 : decode cX7_isConsistent 30 = .ok (.getfield 78, 3) := by decide +kernel
theorem dX7_isConsistent_33 : decode cX7_isConsistent 33 = .ok (.invokevirtual 181, 3) := by decide +kernel
theorem dX7_isConsistent_36 : decode cX7_isConsistent 36 = .ok (.aload_n 0, 1) := by decide +kernel
theorem dX7_isConsistent_37 : decode cX7_isConsistent 37 = .ok (.invokevirtual 185, 3) := by decide +kernel
theorem dX7_isConsistent_40 : decode cX7_isConsistent 40 = .ok (.if_icmp .ne 21, 3) := by decide +kernel
theorem dX7_isConsistent_43 : decode cX7_isConsistent 43 = .ok (.aload_n 0, 1) := by decide +kernel
theorem dX7_isConsistent_44 : decode cX7_isConsistent 44 = .ok (.invokevirtual 294, 3) := by decide +kernel
theorem dX7_isConsistent_47 : decode cX7_isConsistent 47 = .ok (.ifCond .eq 14, 3) := by decide +kernel
theorem dX7_isConsistent_50 : decode cX7_isConsistent 50 = .ok (.aload_n 0, 1) := by decide +kernel
theorem dX7_isConsistent_51 : decode cX7_isConsistent 51 = .ok (.invokevirtual 297, 3) := by decide +kernel
theorem dX7_isConsistent_54 : decode cX7_isConsistent 54 = .ok (.ifCond .eq 7, 3) := by decide +kernel
theorem dX7_isConsistent_57 : decode cX7_isConsistent 57 = .ok (.iconst 1, 1) := by decide +kernel
theorem dX7_isConsistent_58 : decode cX7_isConsistent 58 = .ok (.goto 4, 3) := by decide +kernel
theorem dX7_isConsistent_61 : decode cX7_isConsistent 61 = .ok (.iconst 0, 1) := by decide +kernel
theorem dX7_isConsistent_62 : decode cX7_isConsistent 62 = .ok (.ireturn, 1) := by decide +kernel
theorem dX7_undo_0 : decode cX7_undo 0 = .ok (.aload_n 0, 1) := by decide +kernel
theorem dX7_undo_1 : decode cX7_undo 1 = .ok (.getfield 25, 3) := by decide +kernel
theorem dX7_undo_4 : decode cX7_undo 4 = .ok (.getfield 300, 3) := by decide +kernel
theorem dX7_undo_7 : decode cX7_undo 7 = .ok (.ifCond .ne 14, 3) := by decide +kernel
theorem dX7_undo_10 : decode cX7_undo 10 = .ok (.new 230, 3) := by decide +kernel
theorem dX7_undo_13 : decode cX7_undo 13 = .ok (.dup, 1) := by decide +kernel
theorem dX7_undo_14 : decode cX7_undo 14 = .ok (.ldc_w 301, 3) := by decide +kernel
theorem dX7_undo_17 : decode cX7_undo 17 = .ok (.invokespecial 234, 3) := by decide +kernel
theorem dX7_undo_20 : decode cX7_undo 20 = .ok (.athrow, 1) := by decide +kernel
theorem dX7_undo_21 : decode cX7_undo 21 = .ok (.aload_n 0, 1) := by decide +kernel
theorem dX7_undo_22 : decode cX7_undo 22 = .ok (.getfield 25, 3) := by decide +kernel
theorem dX7_undo_25 : decode cX7_undo 25 = .ok (.aload_n 0, 1) := by decide +kernel
theorem dX7_undo_26 : decode cX7_undo 26 = .ok (.getfield 12, 3) := by decide +kernel
theorem dX7_undo_29 : decode cX7_undo 29 = .ok (.invokevirtual 303, 3) := by decide +kernel
theorem dX7_undo_32 : decode cX7_undo 32 = .ok (.aload_n 0, 1) := by decide +kernel
theorem dX7_undo_33 : decode cX7_undo 33 = .ok (.getfield 25, 3) := by decide +kernel
theorem dX7_undo_36 : decode cX7_undo 36 = .ok (.getfield 300, 3) := by decide +kernel
theorem dX7_undo_39 : decode cX7_undo 39 = .ok (.ireturn, 1) := by decide +kernel
theorem dX7_save_0 : decode cX7_save 0 = .ok (.aload_n 0, 1) := by decide +kernel
theorem dX7_save_1 : decode cX7_save 1 = .ok (.getfield 19, 3) := by decide +kernel
theorem dX7_save_4 : decode cX7_save 4 = .ok (.aload_n 0, 1) := by decide +kernel
theorem dX7_save_5 : decode cX7_save 5 = .ok (.getfield 12, 3) := by decide +kernel
theorem dX7_save_8 : decode cX7_save 8 = .ok (.invokevirtual 51, 3) := by decide +kernel
theorem dX7_save_11 : decode cX7_save 11 = .ok (.aload_n 0, 1) := by decide +kernel
theorem dX7_save_12 : decode cX7_save 12 = .ok (.iconst 1, 1) := by decide +kernel
theorem dX7_save_13 : decode cX7_save 13 = .ok (.putfield 306, 3) := by decide +kernel
theorem dX7_save_16 : decode cX7_save 16 = .ok (.aload_n 0, 1) := by decide +kernel
theorem dX7_save_17 : decode cX7_save 17 = .ok (.getfield 19, 3) := by decide +kernel
theorem dX7_save_20 : decode cX7_save 20 = .ok (.getfield 78, 3) := by decide +kernel
theorem dX7_save_23 : decode cX7_save 23 = .ok (.getfield 82, 3) := by decide +kernel
theorem dX7_save_26 : decode cX7_save 26 = .ok (.ireturn, 1) := by decide +kernel
theorem dX7_restore_0 : decode cX7_restore 0 = .ok (.aload_n 0, 1) := by decide +kernel
theorem dX7_restore_1 : decode cX7_restore 1 = .ok (.getfield 306, 3) := by decide +kernel
theorem dX7_restore_4 : decode cX7_restore 4 = .ok (.ifCond .ne 14, 3) := by decide +kernel
theorem dX7_restore_7 : decode cX7_restore 7 = .ok (.new 230, 3) := by decide +kernel
theorem dX7_restore_10 : decode cX7_restore 10 = .ok (.dup, 1) := by decide +kernel
theorem dX7_restore_11 : decode cX7_restore 11 = .ok (.ldc_w 310, 3) := by decide +kernel
theorem dX7_restore_14 : decode cX7_restore 14 = .ok (.invokespecial 234, 3) := by decide +kernel
theorem dX7_restore_17 : decode cX7_restore 17 = .ok (.athrow, 1) := by decide +kernel
theorem dX7_restore_18 : decode cX7_restore 18 = .ok (.aload_n 0, 1) := by decide +kernel
theorem dX7_restore_19 : decode cX7_restore 19 = .ok (.getfield 12, 3) := by decide +kernel
theorem dX7_restore_22 : decode cX7_restore 22 = .ok (.aload_n 0, 1) := by decide +kernel
theorem dX7_restore_23 : decode cX7_restore 23 = .ok (.getfield 19, 3) := by decide +kernel
theorem dX7_restore_26 : decode cX7_restore 26 = .ok (.invokevirtual 51, 3) := by decide +kernel
theorem dX7_restore_29 : decode cX7_restore 29 = .ok (.aload_n 0, 1) := by decide +kernel
theorem dX7_restore_30 : decode cX7_restore 30 = .ok (.getfield 25, 3) := by decide +kernel
theorem dX7_restore_33 : decode cX7_restore 33 = .ok (.iconst 0, 1) := by decide +kernel
theorem dX7_restore_34 : decode cX7_restore 34 = .ok (.putfield 300, 3) := by decide +kernel
theorem dX7_restore_37 : decode cX7_restore 37 = .ok (.aload_n 0, 1) := by decide +kernel
theorem dX7_restore_38 : decode cX7_restore 38 = .ok (.getfield 12, 3) := by decide +kernel
theorem dX7_restore_41 : decode cX7_restore 41 = .ok (.getfield 78, 3) := by decide +kernel
theorem dX7_restore_44 : decode cX7_restore 44 = .ok (.getfield 82, 3) := by decide +kernel
theorem dX7_restore_47 : decode cX7_restore 47 = .ok (.ireturn, 1) := by decide +kernel
theorem dX7_commit_0 : decode cX7_commit 0 = .ok (.iload_n 1, 1) := by decide +kernel
theorem dX7_commit_1 : decode cX7_commit 1 = .ok (.ifCond .ge 7, 3) := by decide +kernel
theorem dX7_commit_4 : decode cX7_commit 4 = .ok (.iload_n 1, 1) := by decide +kernel
theorem dX7_commit_5 : decode cX7_commit 5 = .ok (.invokestatic 312, 3) := by decide +kernel
theorem dX7_commit_8 : decode cX7_commit 8 = .ok (.aload_n 0, 1) := by decide +kernel
theorem dX7_commit_9 : decode cX7_commit 9 = .ok (.getfield 25, 3) := by decide +kernel
theorem dX7_commit_12 : decode cX7_commit 12 = .ok (.aload_n 0, 1) := by decide +kernel
theorem dX7_commit_13 : decode cX7_commit 13 = .ok (.getfield 12, 3) := by decide +kernel
theorem dX7_commit_16 : decode cX7_commit 16 = .ok (.invokevirtual 315, 3) := by decide +kernel
theorem dX7_commit_19 : decode cX7_commit 19 = .ok (.aload_n 0, 1) := by decide +kernel
theorem dX7_commit_20 : decode cX7_commit 20 = .ok (.getfield 12, 3) := by decide +kernel
theorem dX7_commit_23 : decode cX7_commit 23 = .ok (.astore_n 2, 1) := by decide +kernel
theorem dX7_commit_24 : decode cX7_commit 24 = .ok (.aload_n 0, 1) := by decide +kernel
theorem dX7_commit_25 : decode cX7_commit 25 = .ok (.aload_n 0, 1) := by decide +kernel
theorem dX7_commit_26 : decode cX7_commit 26 = .ok (.getfield 16, 3) := by decide +kernel
theorem dX7_commit_29 : decode cX7_commit 29 = .ok (.putfield 12, 3) := by decide +kernel
theorem dX7_commit_32 : decode cX7_commit 32 = .ok (.aload_n 0, 1) := by decide +kernel
theorem dX7_commit_33 : decode cX7_commit 33 = .ok (.aload_n 2, 1) := by decide +kernel
theorem dX7_commit_34 : decode cX7_commit 34 = .ok (.putfield 16, 3) := by decide +kernel
theorem dX7_commit_37 : decode cX7_commit 37 = .ok (.iload_n 1, 1) := by decide +kernel
theorem dX7_commit_38 : decode cX7_commit 38 = .ok (.ireturn, 1) := by decide +kernel
theorem dX7_refuse_0 : decode cX7_refuse 0 = .ok (.iload_n 0, 1) := by decide +kernel
theorem dX7_refuse_1 : decode cX7_refuse 1 = .ok (.tableswitch 60 (-3) (-1) #[49, 38, 27], 27) := by decide +kernel
theorem dX7_refuse_28 : decode cX7_refuse 28 = .ok (.new 263, 3) := by decide +kernel
theorem dX7_refuse_31 : decode cX7_refuse 31 = .ok (.dup, 1) := by decide +kernel
theorem dX7_refuse_32 : decode cX7_refuse 32 = .ok (.ldc_w 318, 3) := by decide +kernel
theorem dX7_refuse_35 : decode cX7_refuse 35 = .ok (.invokespecial 267, 3) := by decide +kernel
theorem dX7_refuse_38 : decode cX7_refuse 38 = .ok (.athrow, 1) := by decide +kernel
theorem dX7_refuse_39 : decode cX7_refuse 39 = .ok (.new 191, 3) := by decide +kernel
theorem dX7_refuse_42 : decode cX7_refuse 42 = .ok (.dup, 1) := by decide +kernel
theorem dX7_refuse_43 : decode cX7_refuse 43 = .ok (.ldc_w 320, 3) := by decide +kernel
theorem dX7_refuse_46 : decode cX7_refuse 46 = .ok (.invokespecial 195, 3) := by decide +kernel
theorem dX7_refuse_49 : decode cX7_refuse 49 = .ok (.athrow, 1) := by decide +kernel
theorem dX7_refuse_50 : decode cX7_refuse 50 = .ok (.new 230, 3) := by decide +kernel
theorem dX7_refuse_53 : decode cX7_refuse 53 = .ok (.dup, 1) := by decide +kernel
theorem dX7_refuse_54 : decode cX7_refuse 54 = .ok (.ldc_w 322, 3) := by decide +kernel
theorem dX7_refuse_57 : decode cX7_refuse 57 = .ok (.invokespecial 234, 3) := by decide +kernel
theorem dX7_refuse_60 : decode cX7_refuse 60 = .ok (.athrow, 1) := by decide +kernel
theorem dX7_refuse_61 : decode cX7_refuse 61 = .ok (.new 324, 3) := by decide +kernel
theorem dX7_refuse_64 : decode cX7_refuse 64 = .ok (.dup, 1) := by decide +kernel
theorem dX7_refuse_65 : decode cX7_refuse 65 = .ok (.ldc_w 326, 3) := by decide +kernel
theorem dX7_refuse_68 : decode cX7_refuse 68 = .ok (.invokespecial 328, 3) := by decide +kernel
theorem dX7_refuse_71 : decode cX7_refuse 71 = .ok (.athrow, 1) := by decide +kernel
theorem dX7_found_0 : decode cX7_found 0 = .ok (.iload_n 0, 1) := by decide +kernel
theorem dX7_found_1 : decode cX7_found 1 = .ok (.iconst (-1), 1) := by decide +kernel
theorem dX7_found_2 : decode cX7_found 2 = .ok (.if_icmp .ne 14, 3) := by decide +kernel
theorem dX7_found_5 : decode cX7_found 5 = .ok (.new 329, 3) := by decide +kernel
theorem dX7_found_8 : decode cX7_found 8 = .ok (.dup, 1) := by decide +kernel
theorem dX7_found_9 : decode cX7_found 9 = .ok (.ldc_w 331, 3) := by decide +kernel
theorem dX7_found_12 : decode cX7_found 12 = .ok (.invokespecial 333, 3) := by decide +kernel
theorem dX7_found_15 : decode cX7_found 15 = .ok (.athrow, 1) := by decide +kernel
theorem dX7_found_16 : decode cX7_found 16 = .ok (.iload_n 0, 1) := by decide +kernel
theorem dX7_found_17 : decode cX7_found 17 = .ok (.ireturn, 1) := by decide +kernel
theorem dX7_demandDrone_0 : decode cX7_demandDrone 0 = .ok (.aload_n 0, 1) := by decide +kernel
theorem dX7_demandDrone_1 : decode cX7_demandDrone 1 = .ok (.getfield 12, 3) := by decide +kernel
theorem dX7_demandDrone_4 : decode cX7_demandDrone 4 = .ok (.getfield 78, 3) := by decide +kernel
theorem dX7_demandDrone_7 : decode cX7_demandDrone 7 = .ok (.iload_n 1, 1) := by decide +kernel
theorem dX7_demandDrone_8 : decode cX7_demandDrone 8 = .ok (.invokevirtual 334, 3) := by decide +kernel
theorem dX7_demandDrone_11 : decode cX7_demandDrone 11 = .ok (.ifCond .ne 14, 3) := by decide +kernel
theorem dX7_demandDrone_14 : decode cX7_demandDrone 14 = .ok (.new 263, 3) := by decide +kernel
theorem dX7_demandDrone_17 : decode cX7_demandDrone 17 = .ok (.dup, 1) := by decide +kernel
theorem dX7_demandDrone_18 : decode cX7_demandDrone 18 = .ok (.ldc_w 338, 3) := by decide +kernel
theorem dX7_demandDrone_21 : decode cX7_demandDrone 21 = .ok (.invokespecial 267, 3) := by decide +kernel
theorem dX7_demandDrone_24 : decode cX7_demandDrone 24 = .ok (.athrow, 1) := by decide +kernel
theorem dX7_demandDrone_25 : decode cX7_demandDrone 25 = .ok (.return_, 1) := by decide +kernel
theorem dX7_demandCell_0 : decode cX7_demandCell 0 = .ok (.iload_n 0, 1) := by decide +kernel
theorem dX7_demandCell_1 : decode cX7_demandCell 1 = .ok (.invokestatic 340, 3) := by decide +kernel
theorem dX7_demandCell_4 : decode cX7_demandCell 4 = .ok (.ifCond .ne 14, 3) := by decide +kernel
theorem dX7_demandCell_7 : decode cX7_demandCell 7 = .ok (.new 263, 3) := by decide +kernel
theorem dX7_demandCell_10 : decode cX7_demandCell 10 = .ok (.dup, 1) := by decide +kernel
theorem dX7_demandCell_11 : decode cX7_demandCell 11 = .ok (.ldc_w 343, 3) := by decide +kernel
theorem dX7_demandCell_14 : decode cX7_demandCell 14 = .ok (.invokespecial 267, 3) := by decide +kernel
theorem dX7_demandCell_17 : decode cX7_demandCell 17 = .ok (.athrow, 1) := by decide +kernel
theorem dX7_demandCell_18 : decode cX7_demandCell 18 = .ok (.return_, 1) := by decide +kernel
theorem dX7_demandFormation_0 : decode cX7_demandFormation 0 = .ok (.iload_n 0, 1) := by decide +kernel
theorem dX7_demandFormation_1 : decode cX7_demandFormation 1 = .ok (.invokestatic 345, 3) := by decide +kernel
theorem dX7_demandFormation_4 : decode cX7_demandFormation 4 = .ok (.ifCond .ne 14, 3) := by decide +kernel
theorem dX7_demandFormation_7 : decode cX7_demandFormation 7 = .ok (.new 263, 3) := by decide +kernel
theorem dX7_demandFormation_10 : decode cX7_demandFormation 10 = .ok (.dup, 1) := by decide +kernel
theorem dX7_demandFormation_11 : decode cX7_demandFormation 11 = .ok (.ldc_w 348, 3) := by decide +kernel
theorem dX7_demandFormation_14 : decode cX7_demandFormation 14 = .ok (.invokespecial 267, 3) := by decide +kernel
theorem dX7_demandFormation_17 : decode cX7_demandFormation 17 = .ok (.athrow, 1) := by decide +kernel
theorem dX7_demandFormation_18 : decode cX7_demandFormation 18 = .ok (.return_, 1) := by decide +kernel
theorem dX7_pairsByCell_0 : decode cX7_pairsByCell 0 = .ok (.iconst 0, 1) := by decide +kernel
theorem dX7_pairsByCell_1 : decode cX7_pairsByCell 1 = .ok (.istore_n 1, 1) := by decide +kernel
theorem dX7_pairsByCell_2 : decode cX7_pairsByCell 2 = .ok (.iload_n 1, 1) := by decide +kernel
theorem dX7_pairsByCell_3 : decode cX7_pairsByCell 3 = .ok (.bipush 64, 2) := by decide +kernel
theorem dX7_pairsByCell_5 : decode cX7_pairsByCell 5 = .ok (.if_icmp .ge 16, 3) := by decide +kernel
theorem dX7_pairsByCell_8 : decode cX7_pairsByCell 8 = .ok (.aload_n 0, 1) := by decide +kernel
theorem dX7_pairsByCell_9 : decode cX7_pairsByCell 9 = .ok (.getfield 47, 3) := by decide +kernel
theorem dX7_pairsByCell_12 : decode cX7_pairsByCell 12 = .ok (.iload_n 1, 1) := by decide +kernel
theorem dX7_pairsByCell_13 : decode cX7_pairsByCell 13 = .ok (.iconst 0, 1) := by decide +kernel
theorem dX7_pairsByCell_14 : decode cX7_pairsByCell 14 = .ok (.iastore, 1) := by decide +kernel
theorem dX7_pairsByCell_15 : decode cX7_pairsByCell 15 = .ok (.iinc 1 1, 3) := by decide +kernel
theorem dX7_pairsByCell_18 : decode cX7_pairsByCell 18 = .ok (.goto (-16), 3) := by decide +kernel
theorem dX7_pairsByCell_21 : decode cX7_pairsByCell 21 = .ok (.iconst 0, 1) := by decide +kernel
theorem dX7_pairsByCell_22 : decode cX7_pairsByCell 22 = .ok (.istore_n 1, 1) := by decide +kernel
theorem dX7_pairsByCell_23 : decode cX7_pairsByCell 23 = .ok (.iconst 0, 1) := by decide +kernel
theorem dX7_pairsByCell_24 : decode cX7_pairsByCell 24 = .ok (.istore_n 2, 1) := by decide +kernel
theorem dX7_pairsByCell_25 : decode cX7_pairsByCell 25 = .ok (.iload_n 2, 1) := by decide +kernel
theorem dX7_pairsByCell_26 : decode cX7_pairsByCell 26 = .ok (.aload_n 0, 1) := by decide +kernel
theorem dX7_pairsByCell_27 : decode cX7_pairsByCell 27 = .ok (.getfield 12, 3) := by decide +kernel
theorem dX7_pairsByCell_30 : decode cX7_pairsByCell 30 = .ok (.getfield 78, 3) := by decide +kernel
theorem dX7_pairsByCell_33 : decode cX7_pairsByCell 33 = .ok (.getfield 82, 3) := by decide +kernel
theorem dX7_pairsByCell_36 : decode cX7_pairsByCell 36 = .ok (.if_icmp .ge 45, 3) := by decide +kernel
theorem dX7_pairsByCell_39 : decode cX7_pairsByCell 39 = .ok (.aload_n 0, 1) := by decide +kernel
theorem dX7_pairsByCell_40 : decode cX7_pairsByCell 40 = .ok (.getfield 12, 3) := by decide +kernel
theorem dX7_pairsByCell_43 : decode cX7_pairsByCell 43 = .ok (.getfield 78, 3) := by decide +kernel
theorem dX7_pairsByCell_46 : decode cX7_pairsByCell 46 = .ok (.iload_n 2, 1) := by decide +kernel
theorem dX7_pairsByCell_47 : decode cX7_pairsByCell 47 = .ok (.invokevirtual 178, 3) := by decide +kernel
theorem dX7_pairsByCell_50 : decode cX7_pairsByCell 50 = .ok (.istore_n 3, 1) := by decide +kernel
theorem dX7_pairsByCell_51 : decode cX7_pairsByCell 51 = .ok (.iload_n 3, 1) := by decide +kernel
theorem dX7_pairsByCell_52 : decode cX7_pairsByCell 52 = .ok (.iconst (-1), 1) := by decide +kernel
theorem dX7_pairsByCell_53 : decode cX7_pairsByCell 53 = .ok (.if_icmp .eq 22, 3) := by decide +kernel
theorem dX7_pairsByCell_56 : decode cX7_pairsByCell 56 = .ok (.iload_n 1, 1) := by decide +kernel
theorem dX7_pairsByCell_57 : decode cX7_pairsByCell 57 = .ok (.aload_n 0, 1) := by decide +kernel
theorem dX7_pairsByCell_58 : decode cX7_pairsByCell 58 = .ok (.getfield 47, 3) := by decide +kernel
theorem dX7_pairsByCell_61 : decode cX7_pairsByCell 61 = .ok (.iload_n 3, 1) := by decide +kernel
theorem dX7_pairsByCell_62 : decode cX7_pairsByCell 62 = .ok (.iaload, 1) := by decide +kernel
theorem dX7_pairsByCell_63 : decode cX7_pairsByCell 63 = .ok (.iadd, 1) := by decide +kernel
theorem dX7_pairsByCell_64 : decode cX7_pairsByCell 64 = .ok (.istore_n 1, 1) := by decide +kernel
theorem dX7_pairsByCell_65 : decode cX7_pairsByCell 65 = .ok (.aload_n 0, 1) := by decide +kernel
theorem dX7_pairsByCell_66 : decode cX7_pairsByCell 66 = .ok (.getfield 47, 3) := by decide +kernel
theorem dX7_pairsByCell_69 : decode cX7_pairsByCell 69 = .ok (.iload_n 3, 1) := by decide +kernel
theorem dX7_pairsByCell_70 : decode cX7_pairsByCell 70 = .ok (.dup2, 1) := by decide +kernel
theorem dX7_pairsByCell_71 : decode cX7_pairsByCell 71 = .ok (.iaload, 1) := by decide +kernel
theorem dX7_pairsByCell_72 : decode cX7_pairsByCell 72 = .ok (.iconst 1, 1) := by decide +kernel
theorem dX7_pairsByCell_73 : decode cX7_pairsByCell 73 = .ok (.iadd, 1) := by decide +kernel
theorem dX7_pairsByCell_74 : decode cX7_pairsByCell 74 = .ok (.iastore, 1) := by decide +kernel
theorem dX7_pairsByCell_75 : decode cX7_pairsByCell 75 = .ok (.iinc 2 1, 3) := by decide +kernel
theorem dX7_pairsByCell_78 : decode cX7_pairsByCell 78 = .ok (.goto (-53), 3) := by decide +kernel
theorem dX7_pairsByCell_81 : decode cX7_pairsByCell 81 = .ok (.iload_n 1, 1) := by decide +kernel
theorem dX7_pairsByCell_82 : decode cX7_pairsByCell 82 = .ok (.ireturn, 1) := by decide +kernel
theorem dX7_matchCountsAgree_0 : decode cX7_matchCountsAgree 0 = .ok (.iconst 0, 1) := by decide +kernel
theorem dX7_matchCountsAgree_1 : decode cX7_matchCountsAgree 1 = .ok (.istore_n 1, 1) := by decide +kernel
theorem dX7_matchCountsAgree_2 : decode cX7_matchCountsAgree 2 = .ok (.iload_n 1, 1) := by decide +kernel
theorem dX7_matchCountsAgree_3 : decode cX7_matchCountsAgree 3 = .ok (.iconst 4, 1) := by decide +kernel
theorem dX7_matchCountsAgree_4 : decode cX7_matchCountsAgree 4 = .ok (.if_icmp .ge 30, 3) := by decide +kernel
theorem dX7_matchCountsAgree_7 : decode cX7_matchCountsAgree 7 = .ok (.aload_n 0, 1) := by decide +kernel
theorem dX7_matchCountsAgree_8 : decode cX7_matchCountsAgree 8 = .ok (.getfield 12, 3) := by decide +kernel
theorem dX7_matchCountsAgree_11 : decode cX7_matchCountsAgree 11 = .ok (.iload_n 1, 1) := by decide +kernel
theorem dX7_matchCountsAgree_12 : decode cX7_matchCountsAgree 12 = .ok (.invokevirtual 153, 3) := by decide +kernel
theorem dX7_matchCountsAgree_15 : decode cX7_matchCountsAgree 15 = .ok (.aload_n 0, 1) := by decide +kernel
theorem dX7_matchCountsAgree_16 : decode cX7_matchCountsAgree 16 = .ok (.getfield 12, 3) := by decide +kernel
theorem dX7_matchCountsAgree_19 : decode cX7_matchCountsAgree 19 = .ok (.iload_n 1, 1) := by decide +kernel
theorem dX7_matchCountsAgree_20 : decode cX7_matchCountsAgree 20 = .ok (.invokevirtual 156, 3) := by decide +kernel
theorem dX7_matchCountsAgree_23 : decode cX7_matchCountsAgree 23 = .ok (.if_icmp .eq 5, 3) := by decide +kernel
theorem dX7_matchCountsAgree_26 : decode cX7_matchCountsAgree 26 = .ok (.iconst 0, 1) := by decide +kernel
theorem dX7_matchCountsAgree_27 : decode cX7_matchCountsAgree 27 = .ok (.ireturn, 1) := by decide +kernel
theorem dX7_matchCountsAgree_28 : decode cX7_matchCountsAgree 28 = .ok (.iinc 1 1, 3) := by decide +kernel
theorem dX7_matchCountsAgree_31 : decode cX7_matchCountsAgree 31 = .ok (.goto (-29), 3) := by decide +kernel
theorem dX7_matchCountsAgree_34 : decode cX7_matchCountsAgree 34 = .ok (.iconst 1, 1) := by decide +kernel
theorem dX7_matchCountsAgree_35 : decode cX7_matchCountsAgree 35 = .ok (.ireturn, 1) := by decide +kernel
theorem dX7_nearestPadsAgree_0 : decode cX7_nearestPadsAgree 0 = .ok (.iconst 0, 1) := by decide +kernel
theorem dX7_nearestPadsAgree_1 : decode cX7_nearestPadsAgree 1 = .ok (.istore_n 1, 1) := by decide +kernel
theorem dX7_nearestPadsAgree_2 : decode cX7_nearestPadsAgree 2 = .ok (.iload_n 1, 1) := by decide +kernel
theorem dX7_nearestPadsAgree_3 : decode cX7_nearestPadsAgree 3 = .ok (.aload_n 0, 1) := by decide +kernel
theorem dX7_nearestPadsAgree_4 : decode cX7_nearestPadsAgree 4 = .ok (.getfield 12, 3) := by decide +kernel
theorem dX7_nearestPadsAgree_7 : decode cX7_nearestPadsAgree 7 = .ok (.getfield 78, 3) := by decide +kernel
theorem dX7_nearestPadsAgree_10 : decode cX7_nearestPadsAgree 10 = .ok (.getfield 82, 3) := by decide +kernel
theorem dX7_nearestPadsAgree_13 : decode cX7_nearestPadsAgree 13 = .ok (.if_icmp .ge 43, 3) := by decide +kernel
theorem dX7_nearestPadsAgree_16 : decode cX7_nearestPadsAgree 16 = .ok (.aload_n 0, 1) := by decide +kernel
theorem dX7_nearestPadsAgree_17 : decode cX7_nearestPadsAgree 17 = .ok (.getfield 12, 3) := by decide +kernel
theorem dX7_nearestPadsAgree_20 : decode cX7_nearestPadsAgree 20 = .ok (.getfield 78, 3) := by decide +kernel
theorem dX7_nearestPadsAgree_23 : decode cX7_nearestPadsAgree 23 = .ok (.getfield 91, 3) := by decide +kernel
theorem dX7_nearestPadsAgree_26 : decode cX7_nearestPadsAgree 26 = .ok (.iload_n 1, 1) := by decide +kernel
theorem dX7_nearestPadsAgree_27 : decode cX7_nearestPadsAgree 27 = .ok (.iaload, 1) := by decide +kernel
theorem dX7_nearestPadsAgree_28 : decode cX7_nearestPadsAgree 28 = .ok (.istore_n 2, 1) := by decide +kernel
theorem dX7_nearestPadsAgree_29 : decode cX7_nearestPadsAgree 29 = .ok (.aload_n 0, 1) := by decide +kernel
theorem dX7_nearestPadsAgree_30 : decode cX7_nearestPadsAgree 30 = .ok (.getfield 12, 3) := by decide +kernel
theorem dX7_nearestPadsAgree_33 : decode cX7_nearestPadsAgree 33 = .ok (.iload_n 2, 1) := by decide +kernel
theorem dX7_nearestPadsAgree_34 : decode cX7_nearestPadsAgree 34 = .ok (.invokevirtual 127, 3) := by decide +kernel
theorem dX7_nearestPadsAgree_37 : decode cX7_nearestPadsAgree 37 = .ok (.aload_n 0, 1) := by decide +kernel
theorem dX7_nearestPadsAgree_38 : decode cX7_nearestPadsAgree 38 = .ok (.getfield 12, 3) := by decide +kernel
theorem dX7_nearestPadsAgree_41 : decode cX7_nearestPadsAgree 41 = .ok (.iload_n 2, 1) := by decide +kernel
theorem dX7_nearestPadsAgree_42 : decode cX7_nearestPadsAgree 42 = .ok (.invokevirtual 130, 3) := by decide +kernel
theorem dX7_nearestPadsAgree_45 : decode cX7_nearestPadsAgree 45 = .ok (.if_icmp .eq 5, 3) := by decide +kernel
theorem dX7_nearestPadsAgree_48 : decode cX7_nearestPadsAgree 48 = .ok (.iconst 0, 1) := by decide +kernel
theorem dX7_nearestPadsAgree_49 : decode cX7_nearestPadsAgree 49 = .ok (.ireturn, 1) := by decide +kernel
theorem dX7_nearestPadsAgree_50 : decode cX7_nearestPadsAgree 50 = .ok (.iinc 1 1, 3) := by decide +kernel
theorem dX7_nearestPadsAgree_53 : decode cX7_nearestPadsAgree 53 = .ok (.goto (-51), 3) := by decide +kernel
theorem dX7_nearestPadsAgree_56 : decode cX7_nearestPadsAgree 56 = .ok (.iconst 1, 1) := by decide +kernel
theorem dX7_nearestPadsAgree_57 : decode cX7_nearestPadsAgree 57 = .ok (.ireturn, 1) := by decide +kernel
theorem dX7_isCell_0 : decode cX7_isCell 0 = .ok (.iload_n 0, 1) := by decide +kernel
theorem dX7_isCell_1 : decode cX7_isCell 1 = .ok (.ifCond .lt 13, 3) := by decide +kernel
theorem dX7_isCell_4 : decode cX7_isCell 4 = .ok (.iload_n 0, 1) := by decide +kernel
theorem dX7_isCell_5 : decode cX7_isCell 5 = .ok (.bipush 64, 2) := by decide +kernel
theorem dX7_isCell_7 : decode cX7_isCell 7 = .ok (.if_icmp .ge 7, 3) := by decide +kernel
theorem dX7_isCell_10 : decode cX7_isCell 10 = .ok (.iconst 1, 1) := by decide +kernel
theorem dX7_isCell_11 : decode cX7_isCell 11 = .ok (.goto 4, 3) := by decide +kernel
theorem dX7_isCell_14 : decode cX7_isCell 14 = .ok (.iconst 0, 1) := by decide +kernel
theorem dX7_isCell_15 : decode cX7_isCell 15 = .ok (.ireturn, 1) := by decide +kernel
theorem dX7_isFormation_0 : decode cX7_isFormation 0 = .ok (.iload_n 0, 1) := by decide +kernel
theorem dX7_isFormation_1 : decode cX7_isFormation 1 = .ok (.ifCond .lt 12, 3) := by decide +kernel
theorem dX7_isFormation_4 : decode cX7_isFormation 4 = .ok (.iload_n 0, 1) := by decide +kernel
theorem dX7_isFormation_5 : decode cX7_isFormation 5 = .ok (.iconst 4, 1) := by decide +kernel
theorem dX7_isFormation_6 : decode cX7_isFormation 6 = .ok (.if_icmp .ge 7, 3) := by decide +kernel
theorem dX7_isFormation_9 : decode cX7_isFormation 9 = .ok (.iconst 1, 1) := by decide +kernel
theorem dX7_isFormation_10 : decode cX7_isFormation 10 = .ok (.goto 4, 3) := by decide +kernel
theorem dX7_isFormation_13 : decode cX7_isFormation 13 = .ok (.iconst 0, 1) := by decide +kernel
theorem dX7_isFormation_14 : decode cX7_isFormation 14 = .ok (.ireturn, 1) := by decide +kernel
theorem dX7_contains_0 : decode cX7_contains 0 = .ok (.lload_n 0, 1) := by decide +kernel
theorem dX7_contains_1 : decode cX7_contains 1 = .ok (.lconst 1, 1) := by decide +kernel
theorem dX7_contains_2 : decode cX7_contains 2 = .ok (.iload_n 2, 1) := by decide +kernel
theorem dX7_contains_3 : decode cX7_contains 3 = .ok (.lshl, 1) := by decide +kernel
theorem dX7_contains_4 : decode cX7_contains 4 = .ok (.land, 1) := by decide +kernel
theorem dX7_contains_5 : decode cX7_contains 5 = .ok (.lconst 0, 1) := by decide +kernel
theorem dX7_contains_6 : decode cX7_contains 6 = .ok (.lcmp, 1) := by decide +kernel
theorem dX7_contains_7 : decode cX7_contains 7 = .ok (.ifCond .eq 7, 3) := by decide +kernel
theorem dX7_contains_10 : decode cX7_contains 10 = .ok (.iconst 1, 1) := by decide +kernel
theorem dX7_contains_11 : decode cX7_contains 11 = .ok (.goto 4, 3) := by decide +kernel
theorem dX7_contains_14 : decode cX7_contains 14 = .ok (.iconst 0, 1) := by decide +kernel
theorem dX7_contains_15 : decode cX7_contains 15 = .ok (.ireturn, 1) := by decide +kernel
theorem dX7_distance_0 : decode cX7_distance 0 = .ok (.iload_n 0, 1) := by decide +kernel
theorem dX7_distance_1 : decode cX7_distance 1 = .ok (.bipush 8, 2) := by decide +kernel
theorem dX7_distance_3 : decode cX7_distance 3 = .ok (.idiv, 1) := by decide +kernel
theorem dX7_distance_4 : decode cX7_distance 4 = .ok (.iload_n 1, 1) := by decide +kernel
theorem dX7_distance_5 : decode cX7_distance 5 = .ok (.bipush 8, 2) := by decide +kernel
theorem dX7_distance_7 : decode cX7_distance 7 = .ok (.idiv, 1) := by decide +kernel
theorem dX7_distance_8 : decode cX7_distance 8 = .ok (.isub, 1) := by decide +kernel
theorem dX7_distance_9 : decode cX7_distance 9 = .ok (.invokestatic 350, 3) := by decide +kernel
theorem dX7_distance_12 : decode cX7_distance 12 = .ok (.iload_n 0, 1) := by decide +kernel
theorem dX7_distance_13 : decode cX7_distance 13 = .ok (.bipush 8, 2) := by decide +kernel
theorem dX7_distance_15 : decode cX7_distance 15 = .ok (.irem, 1) := by decide +kernel
theorem dX7_distance_16 : decode cX7_distance 16 = .ok (.iload_n 1, 1) := by decide +kernel
theorem dX7_distance_17 : decode cX7_distance 17 = .ok (.bipush 8, 2) := by decide +kernel
theorem dX7_distance_19 : decode cX7_distance 19 = .ok (.irem, 1) := by decide +kernel
theorem dX7_distance_20 : decode cX7_distance 20 = .ok (.isub, 1) := by decide +kernel
theorem dX7_distance_21 : decode cX7_distance 21 = .ok (.invokestatic 350, 3) := by decide +kernel
theorem dX7_distance_24 : decode cX7_distance 24 = .ok (.iadd, 1) := by decide +kernel
theorem dX7_distance_25 : decode cX7_distance 25 = .ok (.ireturn, 1) := by decide +kernel
theorem dX7_rowStep_0 : decode cX7_rowStep 0 = .ok (.iload_n 0, 1) := by decide +kernel
theorem dX7_rowStep_1 : decode cX7_rowStep 1 = .ok (.bipush 8, 2) := by decide +kernel
theorem dX7_rowStep_3 : decode cX7_rowStep 3 = .ok (.idiv, 1) := by decide +kernel
theorem dX7_rowStep_4 : decode cX7_rowStep 4 = .ok (.iload_n 1, 1) := by decide +kernel
theorem dX7_rowStep_5 : decode cX7_rowStep 5 = .ok (.bipush 8, 2) := by decide +kernel
theorem dX7_rowStep_7 : decode cX7_rowStep 7 = .ok (.idiv, 1) := by decide +kernel
theorem dX7_rowStep_8 : decode cX7_rowStep 8 = .ok (.if_icmp .ne 5, 3) := by decide +kernel
theorem dX7_rowStep_11 : decode cX7_rowStep 11 = .ok (.iconst (-1), 1) := by decide +kernel
theorem dX7_rowStep_12 : decode cX7_rowStep 12 = .ok (.ireturn, 1) := by decide +kernel
theorem dX7_rowStep_13 : decode cX7_rowStep 13 = .ok (.iload_n 0, 1) := by decide +kernel
theorem dX7_rowStep_14 : decode cX7_rowStep 14 = .ok (.bipush 8, 2) := by decide +kernel
theorem dX7_rowStep_16 : decode cX7_rowStep 16 = .ok (.idiv, 1) := by decide +kernel
theorem dX7_rowStep_17 : decode cX7_rowStep 17 = .ok (.iload_n 1, 1) := by decide +kernel
theorem dX7_rowStep_18 : decode cX7_rowStep 18 = .ok (.bipush 8, 2) := by decide +kernel
theorem dX7_rowStep_20 : decode cX7_rowStep 20 = .ok (.idiv, 1) := by decide +kernel
theorem dX7_rowStep_21 : decode cX7_rowStep 21 = .ok (.if_icmp .ge 10, 3) := by decide +kernel
theorem dX7_rowStep_24 : decode cX7_rowStep 24 = .ok (.iload_n 0, 1) := by decide +kernel
theorem dX7_rowStep_25 : decode cX7_rowStep 25 = .ok (.bipush 8, 2) := by decide +kernel
theorem dX7_rowStep_27 : decode cX7_rowStep 27 = .ok (.iadd, 1) := by decide +kernel
theorem dX7_rowStep_28 : decode cX7_rowStep 28 = .ok (.goto 7, 3) := by decide +kernel
theorem dX7_rowStep_31 : decode cX7_rowStep 31 = .ok (.iload_n 0, 1) := by decide +kernel
theorem dX7_rowStep_32 : decode cX7_rowStep 32 = .ok (.bipush 8, 2) := by decide +kernel
theorem dX7_rowStep_34 : decode cX7_rowStep 34 = .ok (.isub, 1) := by decide +kernel
theorem dX7_rowStep_35 : decode cX7_rowStep 35 = .ok (.ireturn, 1) := by decide +kernel
theorem dX7_columnStep_0 : decode cX7_columnStep 0 = .ok (.iload_n 0, 1) := by decide +kernel
theorem dX7_columnStep_1 : decode cX7_columnStep 1 = .ok (.bipush 8, 2) := by decide +kernel
theorem dX7_columnStep_3 : decode cX7_columnStep 3 = .ok (.irem, 1) := by decide +kernel
theorem dX7_columnStep_4 : decode cX7_columnStep 4 = .ok (.iload_n 1, 1) := by decide +kernel
theorem dX7_columnStep_5 : decode cX7_columnStep 5 = .ok (.bipush 8, 2) := by decide +kernel
theorem dX7_columnStep_7 : decode cX7_columnStep 7 = .ok (.irem, 1) := by decide +kernel
theorem dX7_columnStep_8 : decode cX7_columnStep 8 = .ok (.if_icmp .ne 5, 3) := by decide +kernel
theorem dX7_columnStep_11 : decode cX7_columnStep 11 = .ok (.iconst (-1), 1) := by decide +kernel
theorem dX7_columnStep_12 : decode cX7_columnStep 12 = .ok (.ireturn, 1) := by decide +kernel
theorem dX7_columnStep_13 : decode cX7_columnStep 13 = .ok (.iload_n 0, 1) := by decide +kernel
theorem dX7_columnStep_14 : decode cX7_columnStep 14 = .ok (.bipush 8, 2) := by decide +kernel
theorem dX7_columnStep_16 : decode cX7_columnStep 16 = .ok (.irem, 1) := by decide +kernel
theorem dX7_columnStep_17 : decode cX7_columnStep 17 = .ok (.iload_n 1, 1) := by decide +kernel
theorem dX7_columnStep_18 : decode cX7_columnStep 18 = .ok (.bipush 8, 2) := by decide +kernel
theorem dX7_columnStep_20 : decode cX7_columnStep 20 = .ok (.irem, 1) := by decide +kernel
theorem dX7_columnStep_21 : decode cX7_columnStep 21 = .ok (.if_icmp .ge 9, 3) := by decide +kernel
theorem dX7_columnStep_24 : decode cX7_columnStep 24 = .ok (.iload_n 0, 1) := by decide +kernel
theorem dX7_columnStep_25 : decode cX7_columnStep 25 = .ok (.iconst 1, 1) := by decide +kernel
theorem dX7_columnStep_26 : decode cX7_columnStep 26 = .ok (.iadd, 1) := by decide +kernel
theorem dX7_columnStep_27 : decode cX7_columnStep 27 = .ok (.goto 6, 3) := by decide +kernel
theorem dX7_columnStep_30 : decode cX7_columnStep 30 = .ok (.iload_n 0, 1) := by decide +kernel
theorem dX7_columnStep_31 : decode cX7_columnStep 31 = .ok (.iconst 1, 1) := by decide +kernel
theorem dX7_columnStep_32 : decode cX7_columnStep 32 = .ok (.isub, 1) := by decide +kernel
theorem dX7_columnStep_33 : decode cX7_columnStep 33 = .ok (.ireturn, 1) := by decide +kernel
theorem dX7_bitsOf_0 : decode cX7_bitsOf 0 = .ok (.fload_n 0, 1) := by decide +kernel
theorem dX7_bitsOf_1 : decode cX7_bitsOf 1 = .ok (.fconst 0, 1) := by decide +kernel
theorem dX7_bitsOf_2 : decode cX7_bitsOf 2 = .ok (.fcmp .g, 1) := by decide +kernel
theorem dX7_bitsOf_3 : decode cX7_bitsOf 3 = .ok (.ifCond .gt 5, 3) := by decide +kernel
theorem dX7_bitsOf_6 : decode cX7_bitsOf 6 = .ok (.iconst 0, 1) := by decide +kernel
theorem dX7_bitsOf_7 : decode cX7_bitsOf 7 = .ok (.ireturn, 1) := by decide +kernel
theorem dX7_bitsOf_8 : decode cX7_bitsOf 8 = .ok (.fload_n 0, 1) := by decide +kernel
theorem dX7_bitsOf_9 : decode cX7_bitsOf 9 = .ok (.fstore_n 1, 1) := by decide +kernel
theorem dX7_bitsOf_10 : decode cX7_bitsOf 10 = .ok (.bipush 127, 2) := by decide +kernel
theorem dX7_bitsOf_12 : decode cX7_bitsOf 12 = .ok (.istore_n 2, 1) := by decide +kernel
theorem dX7_bitsOf_13 : decode cX7_bitsOf 13 = .ok (.fload_n 1, 1) := by decide +kernel
theorem dX7_bitsOf_14 : decode cX7_bitsOf 14 = .ok (.fconst 2, 1) := by decide +kernel
theorem dX7_bitsOf_15 : decode cX7_bitsOf 15 = .ok (.fcmp .l, 1) := by decide +kernel
theorem dX7_bitsOf_16 : decode cX7_bitsOf 16 = .ok (.ifCond .lt 20, 3) := by decide +kernel
theorem dX7_bitsOf_19 : decode cX7_bitsOf 19 = .ok (.iload_n 2, 1) := by decide +kernel
theorem dX7_bitsOf_20 : decode cX7_bitsOf 20 = .ok (.sipush 254, 3) := by decide +kernel
theorem dX7_bitsOf_23 : decode cX7_bitsOf 23 = .ok (.if_icmp .ge 13, 3) := by decide +kernel
theorem dX7_bitsOf_26 : decode cX7_bitsOf 26 = .ok (.fload_n 1, 1) := by decide +kernel
theorem dX7_bitsOf_27 : decode cX7_bitsOf 27 = .ok (.fconst 2, 1) := by decide +kernel
theorem dX7_bitsOf_28 : decode cX7_bitsOf 28 = .ok (.fdiv, 1) := by decide +kernel
theorem dX7_bitsOf_29 : decode cX7_bitsOf 29 = .ok (.fstore_n 1, 1) := by decide +kernel
theorem dX7_bitsOf_30 : decode cX7_bitsOf 30 = .ok (.iinc 2 1, 3) := by decide +kernel
theorem dX7_bitsOf_33 : decode cX7_bitsOf 33 = .ok (.goto (-20), 3) := by decide +kernel
theorem dX7_bitsOf_36 : decode cX7_bitsOf 36 = .ok (.fload_n 1, 1) := by decide +kernel
theorem dX7_bitsOf_37 : decode cX7_bitsOf 37 = .ok (.fconst 1, 1) := by decide +kernel
theorem dX7_bitsOf_38 : decode cX7_bitsOf 38 = .ok (.fcmp .g, 1) := by decide +kernel
theorem dX7_bitsOf_39 : decode cX7_bitsOf 39 = .ok (.ifCond .ge 18, 3) := by decide +kernel
theorem dX7_bitsOf_42 : decode cX7_bitsOf 42 = .ok (.iload_n 2, 1) := by decide +kernel
theorem dX7_bitsOf_43 : decode cX7_bitsOf 43 = .ok (.iconst 1, 1) := by decide +kernel
theorem dX7_bitsOf_44 : decode cX7_bitsOf 44 = .ok (.if_icmp .le 13, 3) := by decide +kernel
theorem dX7_bitsOf_47 : decode cX7_bitsOf 47 = .ok (.fload_n 1, 1) := by decide +kernel
theorem dX7_bitsOf_48 : decode cX7_bitsOf 48 = .ok (.fconst 2, 1) := by decide +kernel
theorem dX7_bitsOf_49 : decode cX7_bitsOf 49 = .ok (.fmul, 1) := by decide +kernel
theorem dX7_bitsOf_50 : decode cX7_bitsOf 50 = .ok (.fstore_n 1, 1) := by decide +kernel
theorem dX7_bitsOf_51 : decode cX7_bitsOf 51 = .ok (.iinc 2 (-1), 3) := by decide +kernel
theorem dX7_bitsOf_54 : decode cX7_bitsOf 54 = .ok (.goto (-18), 3) := by decide +kernel
theorem dX7_bitsOf_57 : decode cX7_bitsOf 57 = .ok (.iload_n 2, 1) := by decide +kernel
theorem dX7_bitsOf_58 : decode cX7_bitsOf 58 = .ok (.bipush 23, 2) := by decide +kernel
theorem dX7_bitsOf_60 : decode cX7_bitsOf 60 = .ok (.ishl, 1) := by decide +kernel
theorem dX7_bitsOf_61 : decode cX7_bitsOf 61 = .ok (.fload_n 1, 1) := by decide +kernel
theorem dX7_bitsOf_62 : decode cX7_bitsOf 62 = .ok (.fconst 1, 1) := by decide +kernel
theorem dX7_bitsOf_63 : decode cX7_bitsOf 63 = .ok (.fsub, 1) := by decide +kernel
theorem dX7_bitsOf_64 : decode cX7_bitsOf 64 = .ok (.ldc_w 355, 3) := by decide +kernel
theorem dX7_bitsOf_67 : decode cX7_bitsOf 67 = .ok (.fmul, 1) := by decide +kernel
theorem dX7_bitsOf_68 : decode cX7_bitsOf 68 = .ok (.f2i, 1) := by decide +kernel
theorem dX7_bitsOf_69 : decode cX7_bitsOf 69 = .ok (.ior, 1) := by decide +kernel
theorem dX7_bitsOf_70 : decode cX7_bitsOf 70 = .ok (.ireturn, 1) := by decide +kernel
