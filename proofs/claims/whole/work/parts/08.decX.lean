theorem dX0_init_0 : decode cX0_init 0 = .ok (.aload_n 0, 1) := by decide +kernel
theorem dX0_init_1 : decode cX0_init 1 = .ok (.invokespecial 3, 3) := by decide +kernel
theorem dX0_init_4 : decode cX0_init 4 = .ok (.aload_n 0, 1) := by decide +kernel
theorem dX0_init_5 : decode cX0_init 5 = .ok (.bipush 64, 2) := by decide +kernel
theorem dX0_init_7 : decode cX0_init 7 = .ok (.newarray .int, 2) := by decide +kernel
theorem dX0_init_9 : decode cX0_init 9 = .ok (.putfield 9, 3) := by decide +kernel
theorem dX0_init_12 : decode cX0_init 12 = .ok (.aload_n 0, 1) := by decide +kernel
theorem dX0_init_13 : decode cX0_init 13 = .ok (.aload_n 1, 1) := by decide +kernel
theorem dX0_init_14 : decode cX0_init 14 = .ok (.putfield 15, 3) := by decide +kernel
theorem dX0_init_17 : decode cX0_init 17 = .ok (.return_, 1) := by decide +kernel
theorem dX0_value_0 : decode cX0_value 0 = .ok (.aload_n 0, 1) := by decide +kernel
theorem dX0_value_1 : decode cX0_value 1 = .ok (.getfield 19, 3) := by decide +kernel
theorem dX0_value_4 : decode cX0_value 4 = .ok (.ifCond .eq 4, 3) := by decide +kernel
theorem dX0_value_7 : decode cX0_value 7 = .ok (.return_, 1) := by decide +kernel
theorem dX0_value_8 : decode cX0_value 8 = .ok (.iconst 0, 1) := by decide +kernel
theorem dX0_value_9 : decode cX0_value 9 = .ok (.istore_n 2, 1) := by decide +kernel
theorem dX0_value_10 : decode cX0_value 10 = .ok (.iload_n 2, 1) := by decide +kernel
theorem dX0_value_11 : decode cX0_value 11 = .ok (.iconst 1, 1) := by decide +kernel
theorem dX0_value_12 : decode cX0_value 12 = .ok (.aload_n 1, 1) := by decide +kernel
theorem dX0_value_13 : decode cX0_value 13 = .ok (.getfield 23, 3) := by decide +kernel
theorem dX0_value_16 : decode cX0_value 16 = .ok (.ishl, 1) := by decide +kernel
theorem dX0_value_17 : decode cX0_value 17 = .ok (.if_icmp .ge 32, 3) := by decide +kernel
theorem dX0_value_20 : decode cX0_value 20 = .ok (.aload_n 0, 1) := by decide +kernel
theorem dX0_value_21 : decode cX0_value 21 = .ok (.getfield 15, 3) := by decide +kernel
theorem dX0_value_24 : decode cX0_value 24 = .ok (.aload_n 1, 1) := by decide +kernel
theorem dX0_value_25 : decode cX0_value 25 = .ok (.iload_n 2, 1) := by decide +kernel
theorem dX0_value_26 : decode cX0_value 26 = .ok (.invokevirtual 29, 3) := by decide +kernel
theorem dX0_value_29 : decode cX0_value 29 = .ok (.aload_n 0, 1) := by decide +kernel
theorem dX0_value_30 : decode cX0_value 30 = .ok (.getfield 9, 3) := by decide +kernel
theorem dX0_value_33 : decode cX0_value 33 = .ok (.iload_n 2, 1) := by decide +kernel
theorem dX0_value_34 : decode cX0_value 34 = .ok (.aload_n 0, 1) := by decide +kernel
theorem dX0_value_35 : decode cX0_value 35 = .ok (.getfield 15, 3) := by decide +kernel
theorem dX0_value_38 : decode cX0_value 38 = .ok (.aload_n 1, 1) := by decide +kernel
theorem dX0_value_39 : decode cX0_value 39 = .ok (.invokevirtual 35, 3) := by decide +kernel
theorem dX0_value_42 : decode cX0_value 42 = .ok (.iastore, 1) := by decide +kernel
theorem dX0_value_43 : decode cX0_value 43 = .ok (.iinc 2 1, 3) := by decide +kernel
theorem dX0_value_46 : decode cX0_value 46 = .ok (.goto (-36), 3) := by decide +kernel
theorem dX0_value_49 : decode cX0_value 49 = .ok (.aload_n 0, 1) := by decide +kernel
theorem dX0_value_50 : decode cX0_value 50 = .ok (.iconst 1, 1) := by decide +kernel
theorem dX0_value_51 : decode cX0_value 51 = .ok (.putfield 19, 3) := by decide +kernel
theorem dX0_value_54 : decode cX0_value 54 = .ok (.return_, 1) := by decide +kernel
theorem dX0_shareOf_0 : decode cX0_shareOf 0 = .ok (.aload_n 0, 1) := by decide +kernel
theorem dX0_shareOf_1 : decode cX0_shareOf 1 = .ok (.aload_n 1, 1) := by decide +kernel
theorem dX0_shareOf_2 : decode cX0_shareOf 2 = .ok (.invokevirtual 39, 3) := by decide +kernel
theorem dX0_shareOf_5 : decode cX0_shareOf 5 = .ok (.iconst 0, 1) := by decide +kernel
theorem dX0_shareOf_6 : decode cX0_shareOf 6 = .ok (.istore 4, 2) := by decide +kernel
theorem dX0_shareOf_8 : decode cX0_shareOf 8 = .ok (.iconst 0, 1) := by decide +kernel
theorem dX0_shareOf_9 : decode cX0_shareOf 9 = .ok (.istore 5, 2) := by decide +kernel
theorem dX0_shareOf_11 : decode cX0_shareOf 11 = .ok (.iload 5, 2) := by decide +kernel
theorem dX0_shareOf_13 : decode cX0_shareOf 13 = .ok (.iconst 1, 1) := by decide +kernel
theorem dX0_shareOf_14 : decode cX0_shareOf 14 = .ok (.aload_n 1, 1) := by decide +kernel
theorem dX0_shareOf_15 : decode cX0_shareOf 15 = .ok (.getfield 23, 3) := by decide +kernel
theorem dX0_shareOf_18 : decode cX0_shareOf 18 = .ok (.ishl, 1) := by decide +kernel
theorem dX0_shareOf_19 : decode cX0_shareOf 19 = .ok (.if_icmp .ge 74, 3) := by decide +kernel
theorem dX0_shareOf_22 : decode cX0_shareOf 22 = .ok (.iload 5, 2) := by decide +kernel
theorem dX0_shareOf_24 : decode cX0_shareOf 24 = .ok (.iload_n 2, 1) := by decide +kernel
theorem dX0_shareOf_25 : decode cX0_shareOf 25 = .ok (.ishr, 1) := by decide +kernel
theorem dX0_shareOf_26 : decode cX0_shareOf 26 = .ok (.iconst 1, 1) := by decide +kernel
theorem dX0_shareOf_27 : decode cX0_shareOf 27 = .ok (.iand, 1) := by decide +kernel
theorem dX0_shareOf_28 : decode cX0_shareOf 28 = .ok (.ifCond .ne 59, 3) := by decide +kernel
theorem dX0_shareOf_31 : decode cX0_shareOf 31 = .ok (.iload 5, 2) := by decide +kernel
theorem dX0_shareOf_33 : decode cX0_shareOf 33 = .ok (.invokestatic 43, 3) := by decide +kernel
theorem dX0_shareOf_36 : decode cX0_shareOf 36 = .ok (.istore 6, 2) := by decide +kernel
theorem dX0_shareOf_38 : decode cX0_shareOf 38 = .ok (.getstatic 49, 3) := by decide +kernel
theorem dX0_shareOf_41 : decode cX0_shareOf 41 = .ok (.iload 6, 2) := by decide +kernel
theorem dX0_shareOf_43 : decode cX0_shareOf 43 = .ok (.iaload, 1) := by decide +kernel
theorem dX0_shareOf_44 : decode cX0_shareOf 44 = .ok (.getstatic 49, 3) := by decide +kernel
theorem dX0_shareOf_47 : decode cX0_shareOf 47 = .ok (.aload_n 1, 1) := by decide +kernel
theorem dX0_shareOf_48 : decode cX0_shareOf 48 = .ok (.getfield 23, 3) := by decide +kernel
theorem dX0_shareOf_51 : decode cX0_shareOf 51 = .ok (.iconst 1, 1) := by decide +kernel
theorem dX0_shareOf_52 : decode cX0_shareOf 52 = .ok (.isub, 1) := by decide +kernel
theorem dX0_shareOf_53 : decode cX0_shareOf 53 = .ok (.iload 6, 2) := by decide +kernel
theorem dX0_shareOf_55 : decode cX0_shareOf 55 = .ok (.isub, 1) := by decide +kernel
theorem dX0_shareOf_56 : decode cX0_shareOf 56 = .ok (.iaload, 1) := by decide +kernel
theorem dX0_shareOf_57 : decode cX0_shareOf 57 = .ok (.imul, 1) := by decide +kernel
theorem dX0_shareOf_58 : decode cX0_shareOf 58 = .ok (.istore 7, 2) := by decide +kernel
theorem dX0_shareOf_60 : decode cX0_shareOf 60 = .ok (.iload 4, 2) := by decide +kernel
theorem dX0_shareOf_62 : decode cX0_shareOf 62 = .ok (.iload 7, 2) := by decide +kernel
theorem dX0_shareOf_64 : decode cX0_shareOf 64 = .ok (.aload_n 0, 1) := by decide +kernel
theorem dX0_shareOf_65 : decode cX0_shareOf 65 = .ok (.getfield 9, 3) := by decide +kernel
theorem dX0_shareOf_68 : decode cX0_shareOf 68 = .ok (.iload 5, 2) := by decide +kernel
theorem dX0_shareOf_70 : decode cX0_shareOf 70 = .ok (.iconst 1, 1) := by decide +kernel
theorem dX0_shareOf_71 : decode cX0_shareOf 71 = .ok (.iload_n 2, 1) := by decide +kernel
theorem dX0_shareOf_72 : decode cX0_shareOf 72 = .ok (.ishl, 1) := by decide +kernel
theorem dX0_shareOf_73 : decode cX0_shareOf 73 = .ok (.ior, 1) := by decide +kernel
theorem dX0_shareOf_74 : decode cX0_shareOf 74 = .ok (.iaload, 1) := by decide +kernel
theorem dX0_shareOf_75 : decode cX0_shareOf 75 = .ok (.aload_n 0, 1) := by decide +kernel
theorem dX0_shareOf_76 : decode cX0_shareOf 76 = .ok (.getfield 9, 3) := by decide +kernel
theorem dX0_shareOf_79 : decode cX0_shareOf 79 = .ok (.iload 5, 2) := by decide +kernel
theorem dX0_shareOf_81 : decode cX0_shareOf 81 = .ok (.iaload, 1) := by decide +kernel
theorem dX0_shareOf_82 : decode cX0_shareOf 82 = .ok (.isub, 1) := by decide +kernel
theorem dX0_shareOf_83 : decode cX0_shareOf 83 = .ok (.imul, 1) := by decide +kernel
theorem dX0_shareOf_84 : decode cX0_shareOf 84 = .ok (.iadd, 1) := by decide +kernel
theorem dX0_shareOf_85 : decode cX0_shareOf 85 = .ok (.istore 4, 2) := by decide +kernel
theorem dX0_shareOf_87 : decode cX0_shareOf 87 = .ok (.iinc 5 1, 3) := by decide +kernel
theorem dX0_shareOf_90 : decode cX0_shareOf 90 = .ok (.goto (-79), 3) := by decide +kernel
theorem dX0_shareOf_93 : decode cX0_shareOf 93 = .ok (.iload 4, 2) := by decide +kernel
theorem dX0_shareOf_95 : decode cX0_shareOf 95 = .ok (.getstatic 49, 3) := by decide +kernel
theorem dX0_shareOf_98 : decode cX0_shareOf 98 = .ok (.aload_n 1, 1) := by decide +kernel
theorem dX0_shareOf_99 : decode cX0_shareOf 99 = .ok (.getfield 23, 3) := by decide +kernel
theorem dX0_shareOf_102 : decode cX0_shareOf 102 = .ok (.iaload, 1) := by decide +kernel
theorem dX0_shareOf_103 : decode cX0_shareOf 103 = .ok (.iload_n 3, 1) := by decide +kernel
theorem dX0_shareOf_104 : decode cX0_shareOf 104 = .ok (.invokestatic 52, 3) := by decide +kernel
theorem dX0_shareOf_107 : decode cX0_shareOf 107 = .ok (.ireturn, 1) := by decide +kernel
theorem dX0_chanceOf_0 : decode cX0_chanceOf 0 = .ok (.aload_n 0, 1) := by decide +kernel
theorem dX0_chanceOf_1 : decode cX0_chanceOf 1 = .ok (.aload_n 1, 1) := by decide +kernel
theorem dX0_chanceOf_2 : decode cX0_chanceOf 2 = .ok (.invokevirtual 39, 3) := by decide +kernel
theorem dX0_chanceOf_5 : decode cX0_chanceOf 5 = .ok (.iconst 0, 1) := by decide +kernel
theorem dX0_chanceOf_6 : decode cX0_chanceOf 6 = .ok (.istore 5, 2) := by decide +kernel
theorem dX0_chanceOf_8 : decode cX0_chanceOf 8 = .ok (.iconst 0, 1) := by decide +kernel
theorem dX0_chanceOf_9 : decode cX0_chanceOf 9 = .ok (.istore 6, 2) := by decide +kernel
theorem dX0_chanceOf_11 : decode cX0_chanceOf 11 = .ok (.iload 6, 2) := by decide +kernel
theorem dX0_chanceOf_13 : decode cX0_chanceOf 13 = .ok (.iconst 1, 1) := by decide +kernel
theorem dX0_chanceOf_14 : decode cX0_chanceOf 14 = .ok (.aload_n 1, 1) := by decide +kernel
theorem dX0_chanceOf_15 : decode cX0_chanceOf 15 = .ok (.getfield 23, 3) := by decide +kernel
theorem dX0_chanceOf_18 : decode cX0_chanceOf 18 = .ok (.ishl, 1) := by decide +kernel
theorem dX0_chanceOf_19 : decode cX0_chanceOf 19 = .ok (.if_icmp .ge 53, 3) := by decide +kernel
theorem dX0_chanceOf_22 : decode cX0_chanceOf 22 = .ok (.aload_n 0, 1) := by decide +kernel
theorem dX0_chanceOf_23 : decode cX0_chanceOf 23 = .ok (.getfield 9, 3) := by decide +kernel
theorem dX0_chanceOf_26 : decode cX0_chanceOf 26 = .ok (.iload 6, 2) := by decide +kernel
theorem dX0_chanceOf_28 : decode cX0_chanceOf 28 = .ok (.iaload, 1) := by decide +kernel
theorem dX0_chanceOf_29 : decode cX0_chanceOf 29 = .ok (.iload_n 2, 1) := by decide +kernel
theorem dX0_chanceOf_30 : decode cX0_chanceOf 30 = .ok (.if_icmp .lt 36, 3) := by decide +kernel
theorem dX0_chanceOf_33 : decode cX0_chanceOf 33 = .ok (.iload 6, 2) := by decide +kernel
theorem dX0_chanceOf_35 : decode cX0_chanceOf 35 = .ok (.invokestatic 43, 3) := by decide +kernel
theorem dX0_chanceOf_38 : decode cX0_chanceOf 38 = .ok (.istore 7, 2) := by decide +kernel
theorem dX0_chanceOf_40 : decode cX0_chanceOf 40 = .ok (.iload 5, 2) := by decide +kernel
theorem dX0_chanceOf_42 : decode cX0_chanceOf 42 = .ok (.bipush 10, 2) := by decide +kernel
theorem dX0_chanceOf_44 : decode cX0_chanceOf 44 = .ok (.iload_n 3, 1) := by decide +kernel
theorem dX0_chanceOf_45 : decode cX0_chanceOf 45 = .ok (.isub, 1) := by decide +kernel
theorem dX0_chanceOf_46 : decode cX0_chanceOf 46 = .ok (.iload 7, 2) := by decide +kernel
theorem dX0_chanceOf_48 : decode cX0_chanceOf 48 = .ok (.invokestatic 56, 3) := by decide +kernel
theorem dX0_chanceOf_51 : decode cX0_chanceOf 51 = .ok (.iload_n 3, 1) := by decide +kernel
theorem dX0_chanceOf_52 : decode cX0_chanceOf 52 = .ok (.aload_n 1, 1) := by decide +kernel
theorem dX0_chanceOf_53 : decode cX0_chanceOf 53 = .ok (.getfield 23, 3) := by decide +kernel
theorem dX0_chanceOf_56 : decode cX0_chanceOf 56 = .ok (.iload 7, 2) := by decide +kernel
theorem dX0_chanceOf_58 : decode cX0_chanceOf 58 = .ok (.isub, 1) := by decide +kernel
theorem dX0_chanceOf_59 : decode cX0_chanceOf 59 = .ok (.invokestatic 56, 3) := by decide +kernel
theorem dX0_chanceOf_62 : decode cX0_chanceOf 62 = .ok (.imul, 1) := by decide +kernel
theorem dX0_chanceOf_63 : decode cX0_chanceOf 63 = .ok (.iadd, 1) := by decide +kernel
theorem dX0_chanceOf_64 : decode cX0_chanceOf 64 = .ok (.istore 5, 2) := by decide +kernel
theorem dX0_chanceOf_66 : decode cX0_chanceOf 66 = .ok (.iinc 6 1, 3) := by decide +kernel
theorem dX0_chanceOf_69 : decode cX0_chanceOf 69 = .ok (.goto (-58), 3) := by decide +kernel
theorem dX0_chanceOf_72 : decode cX0_chanceOf 72 = .ok (.iload 5, 2) := by decide +kernel
theorem dX0_chanceOf_74 : decode cX0_chanceOf 74 = .ok (.bipush 10, 2) := by decide +kernel
theorem dX0_chanceOf_76 : decode cX0_chanceOf 76 = .ok (.aload_n 1, 1) := by decide +kernel
theorem dX0_chanceOf_77 : decode cX0_chanceOf 77 = .ok (.getfield 23, 3) := by decide +kernel
theorem dX0_chanceOf_80 : decode cX0_chanceOf 80 = .ok (.invokestatic 56, 3) := by decide +kernel
theorem dX0_chanceOf_83 : decode cX0_chanceOf 83 = .ok (.iload 4, 2) := by decide +kernel
theorem dX0_chanceOf_85 : decode cX0_chanceOf 85 = .ok (.invokestatic 52, 3) := by decide +kernel
theorem dX0_chanceOf_88 : decode cX0_chanceOf 88 = .ok (.ireturn, 1) := by decide +kernel
theorem dX0_power_0 : decode cX0_power 0 = .ok (.iconst 1, 1) := by decide +kernel
theorem dX0_power_1 : decode cX0_power 1 = .ok (.istore_n 2, 1) := by decide +kernel
theorem dX0_power_2 : decode cX0_power 2 = .ok (.iconst 0, 1) := by decide +kernel
theorem dX0_power_3 : decode cX0_power 3 = .ok (.istore_n 3, 1) := by decide +kernel
theorem dX0_power_4 : decode cX0_power 4 = .ok (.iload_n 3, 1) := by decide +kernel
theorem dX0_power_5 : decode cX0_power 5 = .ok (.iload_n 1, 1) := by decide +kernel
theorem dX0_power_6 : decode cX0_power 6 = .ok (.if_icmp .ge 13, 3) := by decide +kernel
theorem dX0_power_9 : decode cX0_power 9 = .ok (.iload_n 2, 1) := by decide +kernel
theorem dX0_power_10 : decode cX0_power 10 = .ok (.iload_n 0, 1) := by decide +kernel
theorem dX0_power_11 : decode cX0_power 11 = .ok (.imul, 1) := by decide +kernel
theorem dX0_power_12 : decode cX0_power 12 = .ok (.istore_n 2, 1) := by decide +kernel
theorem dX0_power_13 : decode cX0_power 13 = .ok (.iinc 3 1, 3) := by decide +kernel
theorem dX0_power_16 : decode cX0_power 16 = .ok (.goto (-12), 3) := by decide +kernel
theorem dX0_power_19 : decode cX0_power 19 = .ok (.iload_n 2, 1) := by decide +kernel
theorem dX0_power_20 : decode cX0_power 20 = .ok (.ireturn, 1) := by decide +kernel
theorem dX0_leastTerms_0 : decode cX0_leastTerms 0 = .ok (.iload_n 0, 1) := by decide +kernel
theorem dX0_leastTerms_1 : decode cX0_leastTerms 1 = .ok (.invokestatic 60, 3) := by decide +kernel
theorem dX0_leastTerms_4 : decode cX0_leastTerms 4 = .ok (.iload_n 1, 1) := by decide +kernel
theorem dX0_leastTerms_5 : decode cX0_leastTerms 5 = .ok (.invokestatic 65, 3) := by decide +kernel
theorem dX0_leastTerms_8 : decode cX0_leastTerms 8 = .ok (.istore_n 3, 1) := by decide +kernel
theorem dX0_leastTerms_9 : decode cX0_leastTerms 9 = .ok (.iload_n 3, 1) := by decide +kernel
theorem dX0_leastTerms_10 : decode cX0_leastTerms 10 = .ok (.iconst 1, 1) := by decide +kernel
theorem dX0_leastTerms_11 : decode cX0_leastTerms 11 = .ok (.if_icmp .ge 5, 3) := by decide +kernel
theorem dX0_leastTerms_14 : decode cX0_leastTerms 14 = .ok (.iconst 0, 1) := by decide +kernel
theorem dX0_leastTerms_15 : decode cX0_leastTerms 15 = .ok (.ireturn, 1) := by decide +kernel
theorem dX0_leastTerms_16 : decode cX0_leastTerms 16 = .ok (.iload_n 2, 1) := by decide +kernel
theorem dX0_leastTerms_17 : decode cX0_leastTerms 17 = .ok (.ifCond .eq 7, 3) := by decide +kernel
theorem dX0_leastTerms_20 : decode cX0_leastTerms 20 = .ok (.iload_n 0, 1) := by decide +kernel
theorem dX0_leastTerms_21 : decode cX0_leastTerms 21 = .ok (.goto 4, 3) := by decide +kernel
theorem dX0_leastTerms_24 : decode cX0_leastTerms 24 = .ok (.iload_n 1, 1) := by decide +kernel
theorem dX0_leastTerms_25 : decode cX0_leastTerms 25 = .ok (.iload_n 3, 1) := by decide +kernel
theorem dX0_leastTerms_26 : decode cX0_leastTerms 26 = .ok (.idiv, 1) := by decide +kernel
theorem dX0_leastTerms_27 : decode cX0_leastTerms 27 = .ok (.ireturn, 1) := by decide +kernel
theorem dX0_commonDivisor_0 : decode cX0_commonDivisor 0 = .ok (.iload_n 0, 1) := by decide +kernel
theorem dX0_commonDivisor_1 : decode cX0_commonDivisor 1 = .ok (.istore_n 2, 1) := by decide +kernel
theorem dX0_commonDivisor_2 : decode cX0_commonDivisor 2 = .ok (.iload_n 1, 1) := by decide +kernel
theorem dX0_commonDivisor_3 : decode cX0_commonDivisor 3 = .ok (.istore_n 3, 1) := by decide +kernel
theorem dX0_commonDivisor_4 : decode cX0_commonDivisor 4 = .ok (.iconst 0, 1) := by decide +kernel
theorem dX0_commonDivisor_5 : decode cX0_commonDivisor 5 = .ok (.istore 4, 2) := by decide +kernel
theorem dX0_commonDivisor_7 : decode cX0_commonDivisor 7 = .ok (.iload 4, 2) := by decide +kernel
theorem dX0_commonDivisor_9 : decode cX0_commonDivisor 9 = .ok (.bipush 50, 2) := by decide +kernel
theorem dX0_commonDivisor_11 : decode cX0_commonDivisor 11 = .ok (.if_icmp .ge 23, 3) := by decide +kernel
theorem dX0_commonDivisor_14 : decode cX0_commonDivisor 14 = .ok (.iload_n 3, 1) := by decide +kernel
theorem dX0_commonDivisor_15 : decode cX0_commonDivisor 15 = .ok (.ifCond .eq 19, 3) := by decide +kernel
theorem dX0_commonDivisor_18 : decode cX0_commonDivisor 18 = .ok (.iload_n 2, 1) := by decide +kernel
theorem dX0_commonDivisor_19 : decode cX0_commonDivisor 19 = .ok (.iload_n 3, 1) := by decide +kernel
theorem dX0_commonDivisor_20 : decode cX0_commonDivisor 20 = .ok (.irem, 1) := by decide +kernel
theorem dX0_commonDivisor_21 : decode cX0_commonDivisor 21 = .ok (.istore 5, 2) := by decide +kernel
theorem dX0_commonDivisor_23 : decode cX0_commonDivisor 23 = .ok (.iload_n 3, 1) := by decide +kernel
theorem dX0_commonDivisor_24 : decode cX0_commonDivisor 24 = .ok (.istore_n 2, 1) := by decide +kernel
theorem dX0_commonDivisor_25 : decode cX0_commonDivisor 25 = .ok (.iload 5, 2) := by decide +kernel
theorem dX0_commonDivisor_27 : decode cX0_commonDivisor 27 = .ok (.istore_n 3, 1) := by decide +kernel
theorem dX0_commonDivisor_28 : decode cX0_commonDivisor 28 = .ok (.iinc 4 1, 3) := by decide +kernel
theorem dX0_commonDivisor_31 : decode cX0_commonDivisor 31 = .ok (.goto (-24), 3) := by decide +kernel
theorem dX0_commonDivisor_34 : decode cX0_commonDivisor 34 = .ok (.iload_n 2, 1) := by decide +kernel
theorem dX0_commonDivisor_35 : decode cX0_commonDivisor 35 = .ok (.ireturn, 1) := by decide +kernel
theorem dX1_init_0 : decode cX1_init 0 = .ok (.aload_n 0, 1) := by decide +kernel
theorem dX1_init_1 : decode cX1_init 1 = .ok (.invokespecial 3, 3) := by decide +kernel
theorem dX1_init_4 : decode cX1_init 4 = .ok (.aload_n 0, 1) := by decide +kernel
theorem dX1_init_5 : decode cX1_init 5 = .ok (.bipush 14, 2) := by decide +kernel
theorem dX1_init_7 : decode cX1_init 7 = .ok (.newarray .int, 2) := by decide +kernel
theorem dX1_init_9 : decode cX1_init 9 = .ok (.putfield 9, 3) := by decide +kernel
theorem dX1_init_12 : decode cX1_init 12 = .ok (.aload_n 0, 1) := by decide +kernel
theorem dX1_init_13 : decode cX1_init 13 = .ok (.bipush 14, 2) := by decide +kernel
theorem dX1_init_15 : decode cX1_init 15 = .ok (.newarray .int, 2) := by decide +kernel
theorem dX1_init_17 : decode cX1_init 17 = .ok (.putfield 15, 3) := by decide +kernel
theorem dX1_init_20 : decode cX1_init 20 = .ok (.aload_n 0, 1) := by decide +kernel
theorem dX1_init_21 : decode cX1_init 21 = .ok (.bipush 14, 2) := by decide +kernel
theorem dX1_init_23 : decode cX1_init 23 = .ok (.newarray .int, 2) := by decide +kernel
theorem dX1_init_25 : decode cX1_init 25 = .ok (.putfield 18, 3) := by decide +kernel
theorem dX1_init_28 : decode cX1_init 28 = .ok (.aload_n 0, 1) := by decide +kernel
theorem dX1_init_29 : decode cX1_init 29 = .ok (.bipush 14, 2) := by decide +kernel
theorem dX1_init_31 : decode cX1_init 31 = .ok (.newarray .int, 2) := by decide +kernel
theorem dX1_init_33 : decode cX1_init 33 = .ok (.putfield 21, 3) := by decide +kernel
theorem dX1_init_36 : decode cX1_init 36 = .ok (.return_, 1) := by decide +kernel
theorem dX1_note_0 : decode cX1_note 0 = .ok (.aload_n 0, 1) := by decide +kernel
theorem dX1_note_1 : decode cX1_note 1 = .ok (.getfield 24, 3) := by decide +kernel
theorem dX1_note_4 : decode cX1_note 4 = .ok (.bipush 14, 2) := by decide +kernel
theorem dX1_note_6 : decode cX1_note 6 = .ok (.if_icmp .lt 7, 3) := by decide +kernel
theorem dX1_note_9 : decode cX1_note 9 = .ok (.aload_n 0, 1) := by decide +kernel
theorem dX1_note_10 : decode cX1_note 10 = .ok (.invokevirtual 28, 3) := by decide +kernel
theorem dX1_note_13 : decode cX1_note 13 = .ok (.aload_n 0, 1) := by decide +kernel
theorem dX1_note_14 : decode cX1_note 14 = .ok (.getfield 9, 3) := by decide +kernel
theorem dX1_note_17 : decode cX1_note 17 = .ok (.aload_n 0, 1) := by decide +kernel
theorem dX1_note_18 : decode cX1_note 18 = .ok (.getfield 24, 3) := by decide +kernel
theorem dX1_note_21 : decode cX1_note 21 = .ok (.iload_n 1, 1) := by decide +kernel
theorem dX1_note_22 : decode cX1_note 22 = .ok (.iastore, 1) := by decide +kernel
theorem dX1_note_23 : decode cX1_note 23 = .ok (.aload_n 0, 1) := by decide +kernel
theorem dX1_note_24 : decode cX1_note 24 = .ok (.getfield 15, 3) := by decide +kernel
theorem dX1_note_27 : decode cX1_note 27 = .ok (.aload_n 0, 1) := by decide +kernel
theorem dX1_note_28 : decode cX1_note 28 = .ok (.getfield 24, 3) := by decide +kernel
theorem dX1_note_31 : decode cX1_note 31 = .ok (.iload_n 2, 1) := by decide +kernel
theorem dX1_note_32 : decode cX1_note 32 = .ok (.iastore, 1) := by decide +kernel
theorem dX1_note_33 : decode cX1_note 33 = .ok (.aload_n 0, 1) := by decide +kernel
theorem dX1_note_34 : decode cX1_note 34 = .ok (.getfield 18, 3) := by decide +kernel
theorem dX1_note_37 : decode cX1_note 37 = .ok (.aload_n 0, 1) := by decide +kernel
theorem dX1_note_38 : decode cX1_note 38 = .ok (.getfield 24, 3) := by decide +kernel
theorem dX1_note_41 : decode cX1_note 41 = .ok (.iload_n 3, 1) := by decide +kernel
theorem dX1_note_42 : decode cX1_note 42 = .ok (.iastore, 1) := by decide +kernel
theorem dX1_note_43 : decode cX1_note 43 = .ok (.aload_n 0, 1) := by decide +kernel
theorem dX1_note_44 : decode cX1_note 44 = .ok (.getfield 21, 3) := by decide +kernel
theorem dX1_note_47 : decode cX1_note 47 = .ok (.aload_n 0, 1) := by decide +kernel
theorem dX1_note_48 : decode cX1_note 48 = .ok (.getfield 24, 3) := by decide +kernel
theorem dX1_note_51 : decode cX1_note 51 = .ok (.iload 4, 2) := by decide +kernel
theorem dX1_note_53 : decode cX1_note 53 = .ok (.iastore, 1) := by decide +kernel
theorem dX1_note_54 : decode cX1_note 54 = .ok (.aload_n 0, 1) := by decide +kernel
theorem dX1_note_55 : decode cX1_note 55 = .ok (.dup, 1) := by decide +kernel
theorem dX1_note_56 : decode cX1_note 56 = .ok (.getfield 24, 3) := by decide +kernel
theorem dX1_note_59 : decode cX1_note 59 = .ok (.iconst 1, 1) := by decide +kernel
theorem dX1_note_60 : decode cX1_note 60 = .ok (.iadd, 1) := by decide +kernel
theorem dX1_note_61 : decode cX1_note 61 = .ok (.putfield 24, 3) := by decide +kernel
theorem dX1_note_64 : decode cX1_note 64 = .ok (.return_, 1) := by decide +kernel
theorem dX1_forgetFirst_0 : decode cX1_forgetFirst 0 = .ok (.iconst 1, 1) := by decide +kernel
theorem dX1_forgetFirst_1 : decode cX1_forgetFirst 1 = .ok (.istore_n 1, 1) := by decide +kernel
theorem dX1_forgetFirst_2 : decode cX1_forgetFirst 2 = .ok (.iload_n 1, 1) := by decide +kernel
theorem dX1_forgetFirst_3 : decode cX1_forgetFirst 3 = .ok (.bipush 14, 2) := by decide +kernel
theorem dX1_forgetFirst_5 : decode cX1_forgetFirst 5 = .ok (.if_icmp .ge 65, 3) := by decide +kernel
theorem dX1_forgetFirst_8 : decode cX1_forgetFirst 8 = .ok (.aload_n 0, 1) := by decide +kernel
theorem dX1_forgetFirst_9 : decode cX1_forgetFirst 9 = .ok (.getfield 9, 3) := by decide +kernel
theorem dX1_forgetFirst_12 : decode cX1_forgetFirst 12 = .ok (.iload_n 1, 1) := by decide +kernel
theorem dX1_forgetFirst_13 : decode cX1_forgetFirst 13 = .ok (.iconst 1, 1) := by decide +kernel
theorem dX1_forgetFirst_14 : decode cX1_forgetFirst 14 = .ok (.isub, 1) := by decide +kernel
theorem dX1_forgetFirst_15 : decode cX1_forgetFirst 15 = .ok (.aload_n 0, 1) := by decide +kernel
theorem dX1_forgetFirst_16 : decode cX1_forgetFirst 16 = .ok (.getfield 9, 3) := by decide +kernel
theorem dX1_forgetFirst_19 : decode cX1_forgetFirst 19 = .ok (.iload_n 1, 1) := by decide +kernel
theorem dX1_forgetFirst_20 : decode cX1_forgetFirst 20 = .ok (.iaload, 1) := by decide +kernel
theorem dX1_forgetFirst_21 : decode cX1_forgetFirst 21 = .ok (.iastore, 1) := by decide +kernel
theorem dX1_forgetFirst_22 : decode cX1_forgetFirst 22 = .ok (.aload_n 0, 1) := by decide +kernel
theorem dX1_forgetFirst_23 : decode cX1_forgetFirst 23 = .ok (.getfield 15, 3) := by decide +kernel
theorem dX1_forgetFirst_26 : decode cX1_forgetFirst 26 = .ok (.iload_n 1, 1) := by decide +kernel
theorem dX1_forgetFirst_27 : decode cX1_forgetFirst 27 = .ok (.iconst 1, 1) := by decide +kernel
theorem dX1_forgetFirst_28 : decode cX1_forgetFirst 28 = .ok (.isub, 1) := by decide +kernel
theorem dX1_forgetFirst_29 : decode cX1_forgetFirst 29 = .ok (.aload_n 0, 1) := by decide +kernel
theorem dX1_forgetFirst_30 : decode cX1_forgetFirst 30 = .ok (.getfield 15, 3) := by decide +kernel
theorem dX1_forgetFirst_33 : decode cX1_forgetFirst 33 = .ok (.iload_n 1, 1) := by decide +kernel
theorem dX1_forgetFirst_34 : decode cX1_forgetFirst 34 = .ok (.iaload, 1) := by decide +kernel
theorem dX1_forgetFirst_35 : decode cX1_forgetFirst 35 = .ok (.iastore, 1) := by decide +kernel
theorem dX1_forgetFirst_36 : decode cX1_forgetFirst 36 = .ok (.aload_n 0, 1) := by decide +kernel
theorem dX1_forgetFirst_37 : decode cX1_forgetFirst 37 = .ok (.getfield 18, 3) := by decide +kernel
theorem dX1_forgetFirst_40 : decode cX1_forgetFirst 40 = .ok (.iload_n 1, 1) := by decide +kernel
theorem dX1_forgetFirst_41 : decode cX1_forgetFirst 41 = .ok (.iconst 1, 1) := by decide +kernel
theorem dX1_forgetFirst_42 : decode cX1_forgetFirst 42 = .ok (.isub, 1) := by decide +kernel
theorem dX1_forgetFirst_43 : decode cX1_forgetFirst 43 = .ok (.aload_n 0, 1) := by decide +kernel
theorem dX1_forgetFirst_44 : decode cX1_forgetFirst 44 = .ok (.getfield 18, 3) := by decide +kernel
theorem dX1_forgetFirst_47 : decode cX1_forgetFirst 47 = .ok (.iload_n 1, 1) := by decide +kernel
theorem dX1_forgetFirst_48 : decode cX1_forgetFirst 48 = .ok (.iaload, 1) := by decide +kernel
theorem dX1_forgetFirst_49 : decode cX1_forgetFirst 49 = .ok (.iastore, 1) := by decide +kernel
theorem dX1_forgetFirst_50 : decode cX1_forgetFirst 50 = .ok (.aload_n 0, 1) := by decide +kernel
theorem dX1_forgetFirst_51 : decode cX1_forgetFirst 51 = .ok (.getfield 21, 3) := by decide +kernel
theorem dX1_forgetFirst_54 : decode cX1_forgetFirst 54 = .ok (.iload_n 1, 1) := by decide +kernel
theorem dX1_forgetFirst_55 : decode cX1_forgetFirst 55 = .ok (.iconst 1, 1) := by decide +kernel
theorem dX1_forgetFirst_56 : decode cX1_forgetFirst 56 = .ok (.isub, 1) := by decide +kernel
theorem dX1_forgetFirst_57 : decode cX1_forgetFirst 57 = .ok (.aload_n 0, 1) := by decide +kernel
theorem dX1_forgetFirst_58 : decode cX1_forgetFirst 58 = .ok (.getfield 21, 3) := by decide +kernel
theorem dX1_forgetFirst_61 : decode cX1_forgetFirst 61 = .ok (.iload_n 1, 1) := by decide +kernel
theorem dX1_forgetFirst_62 : decode cX1_forgetFirst 62 = .ok (.iaload, 1) := by decide +kernel
theorem dX1_forgetFirst_63 : decode cX1_forgetFirst 63 = .ok (.iastore, 1) := by decide +kernel
theorem dX1_forgetFirst_64 : decode cX1_forgetFirst 64 = .ok (.iinc 1 1, 3) := by decide +kernel
theorem dX1_forgetFirst_67 : decode cX1_forgetFirst 67 = .ok (.goto (-65), 3) := by decide +kernel
theorem dX1_forgetFirst_70 : decode cX1_forgetFirst 70 = .ok (.aload_n 0, 1) := by decide +kernel
theorem dX1_forgetFirst_71 : decode cX1_forgetFirst 71 = .ok (.bipush 13, 2) := by decide +kernel
theorem dX1_forgetFirst_73 : decode cX1_forgetFirst 73 = .ok (.putfield 24, 3) := by decide +kernel
theorem dX1_forgetFirst_76 : decode cX1_forgetFirst 76 = .ok (.return_, 1) := by decide +kernel
theorem dX1_takeBack_0 : decode cX1_takeBack 0 = .ok (.aload_n 0, 1) := by decide +kernel
theorem dX1_takeBack_1 : decode cX1_takeBack 1 = .ok (.getfield 24, 3) := by decide +kernel
theorem dX1_takeBack_4 : decode cX1_takeBack 4 = .ok (.iconst 1, 1) := by decide +kernel
theorem dX1_takeBack_5 : decode cX1_takeBack 5 = .ok (.if_icmp .ge 4, 3) := by decide +kernel
theorem dX1_takeBack_8 : decode cX1_takeBack 8 = .ok (.return_, 1) := by decide +kernel
theorem dX1_takeBack_9 : decode cX1_takeBack 9 = .ok (.aload_n 0, 1) := by decide +kernel
theorem dX1_takeBack_10 : decode cX1_takeBack 10 = .ok (.dup, 1) := by decide +kernel
theorem dX1_takeBack_11 : decode cX1_takeBack 11 = .ok (.getfield 24, 3) := by decide +kernel
theorem dX1_takeBack_14 : decode cX1_takeBack 14 = .ok (.iconst 1, 1) := by decide +kernel
theorem dX1_takeBack_15 : decode cX1_takeBack 15 = .ok (.isub, 1) := by decide +kernel
theorem dX1_takeBack_16 : decode cX1_takeBack 16 = .ok (.putfield 24, 3) := by decide +kernel
theorem dX1_takeBack_19 : decode cX1_takeBack 19 = .ok (.aload_n 0, 1) := by decide +kernel
theorem dX1_takeBack_20 : decode cX1_takeBack 20 = .ok (.getfield 15, 3) := by decide +kernel
theorem dX1_takeBack_23 : decode cX1_takeBack 23 = .ok (.aload_n 0, 1) := by decide +kernel
theorem dX1_takeBack_24 : decode cX1_takeBack 24 = .ok (.getfield 24, 3) := by decide +kernel
theorem dX1_takeBack_27 : decode cX1_takeBack 27 = .ok (.iaload, 1) := by decide +kernel
theorem dX1_takeBack_28 : decode cX1_takeBack 28 = .ok (.istore_n 2, 1) := by decide +kernel
theorem dX1_takeBack_29 : decode cX1_takeBack 29 = .ok (.aload_n 0, 1) := by decide +kernel
theorem dX1_takeBack_30 : decode cX1_takeBack 30 = .ok (.getfield 9, 3) := by decide +kernel
theorem dX1_takeBack_33 : decode cX1_takeBack 33 = .ok (.aload_n 0, 1) := by decide +kernel
theorem dX1_takeBack_34 : decode cX1_takeBack 34 = .ok (.getfield 24, 3) := by decide +kernel
theorem dX1_takeBack_37 : decode cX1_takeBack 37 = .ok (.iaload, 1) := by decide +kernel
theorem dX1_takeBack_38 : decode cX1_takeBack 38 = .ok (.tableswitch 112 1 4 #[30, 43, 69, 86], 30) := by decide +kernel
theorem dX1_takeBack_68 : decode cX1_takeBack 68 = .ok (.aload_n 1, 1) := by decide +kernel
theorem dX1_takeBack_69 : decode cX1_takeBack 69 = .ok (.aload_n 1, 1) := by decide +kernel
theorem dX1_takeBack_70 : decode cX1_takeBack 70 = .ok (.getfield 31, 3) := by decide +kernel
theorem dX1_takeBack_73 : decode cX1_takeBack 73 = .ok (.iconst 1, 1) := by decide +kernel
theorem dX1_takeBack_74 : decode cX1_takeBack 74 = .ok (.isub, 1) := by decide +kernel
theorem dX1_takeBack_75 : decode cX1_takeBack 75 = .ok (.invokevirtual 36, 3) := by decide +kernel
theorem dX1_takeBack_78 : decode cX1_takeBack 78 = .ok (.goto 86, 3) := by decide +kernel
theorem dX1_takeBack_81 : decode cX1_takeBack 81 = .ok (.aload_n 1, 1) := by decide +kernel
theorem dX1_takeBack_82 : decode cX1_takeBack 82 = .ok (.iload_n 2, 1) := by decide +kernel
theorem dX1_takeBack_83 : decode cX1_takeBack 83 = .ok (.aload_n 0, 1) := by decide +kernel
theorem dX1_takeBack_84 : decode cX1_takeBack 84 = .ok (.getfield 18, 3) := by decide +kernel
theorem dX1_takeBack_87 : decode cX1_takeBack 87 = .ok (.aload_n 0, 1) := by decide +kernel
theorem dX1_takeBack_88 : decode cX1_takeBack 88 = .ok (.getfield 24, 3) := by decide +kernel
theorem dX1_takeBack_91 : decode cX1_takeBack 91 = .ok (.iaload, 1) := by decide +kernel
theorem dX1_takeBack_92 : decode cX1_takeBack 92 = .ok (.aload_n 0, 1) := by decide +kernel
theorem dX1_takeBack_93 : decode cX1_takeBack 93 = .ok (.getfield 21, 3) := by decide +kernel
theorem dX1_takeBack_96 : decode cX1_takeBack 96 = .ok (.aload_n 0, 1) := by decide +kernel
theorem dX1_takeBack_97 : decode cX1_takeBack 97 = .ok (.getfield 24, 3) := by decide +kernel
theorem dX1_takeBack_100 : decode cX1_takeBack 100 = .ok (.iaload, 1) := by decide +kernel
theorem dX1_takeBack_101 : decode cX1_takeBack 101 = .ok (.invokevirtual 40, 3) := by decide +kernel
theorem dX1_takeBack_104 : decode cX1_takeBack 104 = .ok (.goto 60, 3) := by decide +kernel
theorem dX1_takeBack_107 : decode cX1_takeBack 107 = .ok (.aload_n 1, 1) := by decide +kernel
theorem dX1_takeBack_108 : decode cX1_takeBack 108 = .ok (.iload_n 2, 1) := by decide +kernel
theorem dX1_takeBack_109 : decode cX1_takeBack 109 = .ok (.aload_n 0, 1) := by decide +kernel
theorem dX1_takeBack_110 : decode cX1_takeBack 110 = .ok (.getfield 18, 3) := by decide +kernel
theorem dX1_takeBack_113 : decode cX1_takeBack 113 = .ok (.aload_n 0, 1) := by decide +kernel
theorem dX1_takeBack_114 : decode cX1_takeBack 114 = .ok (.getfield 24, 3) := by decide +kernel
theorem dX1_takeBack_117 : decode cX1_takeBack 117 = .ok (.iaload, 1) := by decide +kernel
theorem dX1_takeBack_118 : decode cX1_takeBack 118 = .ok (.invokevirtual 44, 3) := by decide +kernel
theorem dX1_takeBack_121 : decode cX1_takeBack 121 = .ok (.goto 43, 3) := by decide +kernel
theorem dX1_takeBack_124 : decode cX1_takeBack 124 = .ok (.aload_n 1, 1) := by decide +kernel
theorem dX1_takeBack_125 : decode cX1_takeBack 125 = .ok (.iload_n 2, 1) := by decide +kernel
theorem dX1_takeBack_126 : decode cX1_takeBack 126 = .ok (.aload_n 0, 1) := by decide +kernel
theorem dX1_takeBack_127 : decode cX1_takeBack 127 = .ok (.getfield 18, 3) := by decide +kernel
theorem dX1_takeBack_130 : decode cX1_takeBack 130 = .ok (.aload_n 0, 1) := by decide +kernel
theorem dX1_takeBack_131 : decode cX1_takeBack 131 = .ok (.getfield 24, 3) := by decide +kernel
theorem dX1_takeBack_134 : decode cX1_takeBack 134 = .ok (.iaload, 1) := by decide +kernel
theorem dX1_takeBack_135 : decode cX1_takeBack 135 = .ok (.aload_n 0, 1) := by decide +kernel
theorem dX1_takeBack_136 : decode cX1_takeBack 136 = .ok (.getfield 21, 3) := by decide +kernel
theorem dX1_takeBack_139 : decode cX1_takeBack 139 = .ok (.aload_n 0, 1) := by decide +kernel
theorem dX1_takeBack_140 : decode cX1_takeBack 140 = .ok (.getfield 24, 3) := by decide +kernel
theorem dX1_takeBack_143 : decode cX1_takeBack 143 = .ok (.iaload, 1) := by decide +kernel
theorem dX1_takeBack_144 : decode cX1_takeBack 144 = .ok (.invokevirtual 48, 3) := by decide +kernel
theorem dX1_takeBack_147 : decode cX1_takeBack 147 = .ok (.goto 17, 3) := by decide +kernel
theorem dX1_takeBack_150 : decode cX1_takeBack 150 = .ok (.aload_n 1, 1) := by decide +kernel
theorem dX1_takeBack_151 : decode cX1_takeBack 151 = .ok (.iconst 0, 1) := by decide +kernel
theorem dX1_takeBack_152 : decode cX1_takeBack 152 = .ok (.aload_n 1, 1) := by decide +kernel
theorem dX1_takeBack_153 : decode cX1_takeBack 153 = .ok (.getfield 51, 3) := by decide +kernel
theorem dX1_takeBack_156 : decode cX1_takeBack 156 = .ok (.iconst 1, 1) := by decide +kernel
theorem dX1_takeBack_157 : decode cX1_takeBack 157 = .ok (.isub, 1) := by decide +kernel
theorem dX1_takeBack_158 : decode cX1_takeBack 158 = .ok (.invokestatic 54, 3) := by decide +kernel
theorem dX1_takeBack_161 : decode cX1_takeBack 161 = .ok (.putfield 51, 3) := by decide +kernel
theorem dX1_takeBack_164 : decode cX1_takeBack 164 = .ok (.return_, 1) := by decide +kernel
theorem dX2_wordSize_0 : decode cX2_wordSize 0 = .ok (.iload_n 0, 1) := by decide +kernel
theorem dX2_wordSize_1 : decode cX2_wordSize 1 = .ok (.bipush 11, 2) := by decide +kernel
theorem dX2_wordSize_3 : decode cX2_wordSize 3 = .ok (.if_icmp .lt 9, 3) := by decide +kernel
theorem dX2_wordSize_6 : decode cX2_wordSize 6 = .ok (.iload_n 0, 1) := by decide +kernel
theorem dX2_wordSize_7 : decode cX2_wordSize 7 = .ok (.ldc 9, 2) := by decide +kernel
theorem dX2_wordSize_9 : decode cX2_wordSize 9 = .ok (.if_icmp .le 5, 3) := by decide +kernel
theorem dX2_wordSize_12 : decode cX2_wordSize 12 = .ok (.iconst 0, 1) := by decide +kernel
theorem dX2_wordSize_13 : decode cX2_wordSize 13 = .ok (.ireturn, 1) := by decide +kernel
theorem dX2_wordSize_14 : decode cX2_wordSize 14 = .ok (.iconst 0, 1) := by decide +kernel
theorem dX2_wordSize_15 : decode cX2_wordSize 15 = .ok (.istore_n 1, 1) := by decide +kernel
theorem dX2_wordSize_16 : decode cX2_wordSize 16 = .ok (.iload_n 0, 1) := by decide +kernel
theorem dX2_wordSize_17 : decode cX2_wordSize 17 = .ok (.istore_n 2, 1) := by decide +kernel
theorem dX2_wordSize_18 : decode cX2_wordSize 18 = .ok (.iconst 0, 1) := by decide +kernel
theorem dX2_wordSize_19 : decode cX2_wordSize 19 = .ok (.istore_n 3, 1) := by decide +kernel
theorem dX2_wordSize_20 : decode cX2_wordSize 20 = .ok (.iload_n 3, 1) := by decide +kernel
theorem dX2_wordSize_21 : decode cX2_wordSize 21 = .ok (.bipush 6, 2) := by decide +kernel
theorem dX2_wordSize_23 : decode cX2_wordSize 23 = .ok (.if_icmp .ge 41, 3) := by decide +kernel
theorem dX2_wordSize_26 : decode cX2_wordSize 26 = .ok (.iload_n 2, 1) := by decide +kernel
theorem dX2_wordSize_27 : decode cX2_wordSize 27 = .ok (.ifCond .le 37, 3) := by decide +kernel
theorem dX2_wordSize_30 : decode cX2_wordSize 30 = .ok (.iload_n 2, 1) := by decide +kernel
theorem dX2_wordSize_31 : decode cX2_wordSize 31 = .ok (.bipush 10, 2) := by decide +kernel
theorem dX2_wordSize_33 : decode cX2_wordSize 33 = .ok (.irem, 1) := by decide +kernel
theorem dX2_wordSize_34 : decode cX2_wordSize 34 = .ok (.istore 4, 2) := by decide +kernel
theorem dX2_wordSize_36 : decode cX2_wordSize 36 = .ok (.iload 4, 2) := by decide +kernel
theorem dX2_wordSize_38 : decode cX2_wordSize 38 = .ok (.iconst 1, 1) := by decide +kernel
theorem dX2_wordSize_39 : decode cX2_wordSize 39 = .ok (.if_icmp .lt 9, 3) := by decide +kernel
theorem dX2_wordSize_42 : decode cX2_wordSize 42 = .ok (.iload 4, 2) := by decide +kernel
theorem dX2_wordSize_44 : decode cX2_wordSize 44 = .ok (.iconst 5, 1) := by decide +kernel
theorem dX2_wordSize_45 : decode cX2_wordSize 45 = .ok (.if_icmp .le 5, 3) := by decide +kernel
theorem dX2_wordSize_48 : decode cX2_wordSize 48 = .ok (.iconst 0, 1) := by decide +kernel
theorem dX2_wordSize_49 : decode cX2_wordSize 49 = .ok (.ireturn, 1) := by decide +kernel
theorem dX2_wordSize_50 : decode cX2_wordSize 50 = .ok (.iload_n 2, 1) := by decide +kernel
theorem dX2_wordSize_51 : decode cX2_wordSize 51 = .ok (.bipush 10, 2) := by decide +kernel
theorem dX2_wordSize_53 : decode cX2_wordSize 53 = .ok (.idiv, 1) := by decide +kernel
theorem dX2_wordSize_54 : decode cX2_wordSize 54 = .ok (.istore_n 2, 1) := by decide +kernel
theorem dX2_wordSize_55 : decode cX2_wordSize 55 = .ok (.iinc 1 1, 3) := by decide +kernel
theorem dX2_wordSize_58 : decode cX2_wordSize 58 = .ok (.iinc 3 1, 3) := by decide +kernel
theorem dX2_wordSize_61 : decode cX2_wordSize 61 = .ok (.goto (-41), 3) := by decide +kernel
theorem dX2_wordSize_64 : decode cX2_wordSize 64 = .ok (.iload_n 1, 1) := by decide +kernel
theorem dX2_wordSize_65 : decode cX2_wordSize 65 = .ok (.ireturn, 1) := by decide +kernel
theorem dX2_nodeOf_0 : decode cX2_nodeOf 0 = .ok (.iload_n 0, 1) := by decide +kernel
theorem dX2_nodeOf_1 : decode cX2_nodeOf 1 = .ok (.iconst 1, 1) := by decide +kernel
theorem dX2_nodeOf_2 : decode cX2_nodeOf 2 = .ok (.if_icmp .lt 10, 3) := by decide +kernel
theorem dX2_nodeOf_5 : decode cX2_nodeOf 5 = .ok (.iload_n 0, 1) := by decide +kernel
theorem dX2_nodeOf_6 : decode cX2_nodeOf 6 = .ok (.sipush 666, 3) := by decide +kernel
theorem dX2_nodeOf_9 : decode cX2_nodeOf 9 = .ok (.if_icmp .le 5, 3) := by decide +kernel
theorem dX2_nodeOf_12 : decode cX2_nodeOf 12 = .ok (.iconst (-1), 1) := by decide +kernel
theorem dX2_nodeOf_13 : decode cX2_nodeOf 13 = .ok (.ireturn, 1) := by decide +kernel
theorem dX2_nodeOf_14 : decode cX2_nodeOf 14 = .ok (.iconst 0, 1) := by decide +kernel
theorem dX2_nodeOf_15 : decode cX2_nodeOf 15 = .ok (.istore_n 1, 1) := by decide +kernel
theorem dX2_nodeOf_16 : decode cX2_nodeOf 16 = .ok (.iload_n 0, 1) := by decide +kernel
theorem dX2_nodeOf_17 : decode cX2_nodeOf 17 = .ok (.istore_n 2, 1) := by decide +kernel
theorem dX2_nodeOf_18 : decode cX2_nodeOf 18 = .ok (.iconst 1, 1) := by decide +kernel
theorem dX2_nodeOf_19 : decode cX2_nodeOf 19 = .ok (.istore_n 3, 1) := by decide +kernel
theorem dX2_nodeOf_20 : decode cX2_nodeOf 20 = .ok (.iconst 0, 1) := by decide +kernel
theorem dX2_nodeOf_21 : decode cX2_nodeOf 21 = .ok (.istore 4, 2) := by decide +kernel
theorem dX2_nodeOf_23 : decode cX2_nodeOf 23 = .ok (.iload 4, 2) := by decide +kernel
theorem dX2_nodeOf_25 : decode cX2_nodeOf 25 = .ok (.iconst 3, 1) := by decide +kernel
theorem dX2_nodeOf_26 : decode cX2_nodeOf 26 = .ok (.if_icmp .ge 51, 3) := by decide +kernel
theorem dX2_nodeOf_29 : decode cX2_nodeOf 29 = .ok (.iload_n 2, 1) := by decide +kernel
theorem dX2_nodeOf_30 : decode cX2_nodeOf 30 = .ok (.ifCond .le 47, 3) := by decide +kernel
theorem dX2_nodeOf_33 : decode cX2_nodeOf 33 = .ok (.iload_n 2, 1) := by decide +kernel
theorem dX2_nodeOf_34 : decode cX2_nodeOf 34 = .ok (.bipush 10, 2) := by decide +kernel
theorem dX2_nodeOf_36 : decode cX2_nodeOf 36 = .ok (.irem, 1) := by decide +kernel
theorem dX2_nodeOf_37 : decode cX2_nodeOf 37 = .ok (.istore 5, 2) := by decide +kernel
theorem dX2_nodeOf_39 : decode cX2_nodeOf 39 = .ok (.iload 5, 2) := by decide +kernel
theorem dX2_nodeOf_41 : decode cX2_nodeOf 41 = .ok (.iconst 1, 1) := by decide +kernel
theorem dX2_nodeOf_42 : decode cX2_nodeOf 42 = .ok (.if_icmp .lt 10, 3) := by decide +kernel
theorem dX2_nodeOf_45 : decode cX2_nodeOf 45 = .ok (.iload 5, 2) := by decide +kernel
theorem dX2_nodeOf_47 : decode cX2_nodeOf 47 = .ok (.bipush 6, 2) := by decide +kernel
theorem dX2_nodeOf_49 : decode cX2_nodeOf 49 = .ok (.if_icmp .le 5, 3) := by decide +kernel
theorem dX2_nodeOf_52 : decode cX2_nodeOf 52 = .ok (.iconst (-1), 1) := by decide +kernel
theorem dX2_nodeOf_53 : decode cX2_nodeOf 53 = .ok (.ireturn, 1) := by decide +kernel
theorem dX2_nodeOf_54 : decode cX2_nodeOf 54 = .ok (.iload_n 1, 1) := by decide +kernel
theorem dX2_nodeOf_55 : decode cX2_nodeOf 55 = .ok (.iload 5, 2) := by decide +kernel
theorem dX2_nodeOf_57 : decode cX2_nodeOf 57 = .ok (.iload_n 3, 1) := by decide +kernel
theorem dX2_nodeOf_58 : decode cX2_nodeOf 58 = .ok (.imul, 1) := by decide +kernel
theorem dX2_nodeOf_59 : decode cX2_nodeOf 59 = .ok (.iadd, 1) := by decide +kernel
theorem dX2_nodeOf_60 : decode cX2_nodeOf 60 = .ok (.istore_n 1, 1) := by decide +kernel
theorem dX2_nodeOf_61 : decode cX2_nodeOf 61 = .ok (.iload_n 3, 1) := by decide +kernel
theorem dX2_nodeOf_62 : decode cX2_nodeOf 62 = .ok (.bipush 7, 2) := by decide +kernel
theorem dX2_nodeOf_64 : decode cX2_nodeOf 64 = .ok (.imul, 1) := by decide +kernel
theorem dX2_nodeOf_65 : decode cX2_nodeOf 65 = .ok (.istore_n 3, 1) := by decide +kernel
theorem dX2_nodeOf_66 : decode cX2_nodeOf 66 = .ok (.iload_n 2, 1) := by decide +kernel
theorem dX2_nodeOf_67 : decode cX2_nodeOf 67 = .ok (.bipush 10, 2) := by decide +kernel
theorem dX2_nodeOf_69 : decode cX2_nodeOf 69 = .ok (.idiv, 1) := by decide +kernel
theorem dX2_nodeOf_70 : decode cX2_nodeOf 70 = .ok (.istore_n 2, 1) := by decide +kernel
theorem dX2_nodeOf_71 : decode cX2_nodeOf 71 = .ok (.iinc 4 1, 3) := by decide +kernel
theorem dX2_nodeOf_74 : decode cX2_nodeOf 74 = .ok (.goto (-51), 3) := by decide +kernel
theorem dX2_nodeOf_77 : decode cX2_nodeOf 77 = .ok (.iload_n 1, 1) := by decide +kernel
theorem dX2_nodeOf_78 : decode cX2_nodeOf 78 = .ok (.ireturn, 1) := by decide +kernel
theorem dX2_figuresOf_0 : decode cX2_figuresOf 0 = .ok (.iload_n 0, 1) := by decide +kernel
theorem dX2_figuresOf_1 : decode cX2_figuresOf 1 = .ok (.bipush 49, 2) := by decide +kernel
theorem dX2_figuresOf_3 : decode cX2_figuresOf 3 = .ok (.idiv, 1) := by decide +kernel
theorem dX2_figuresOf_4 : decode cX2_figuresOf 4 = .ok (.bipush 100, 2) := by decide +kernel
theorem dX2_figuresOf_6 : decode cX2_figuresOf 6 = .ok (.imul, 1) := by decide +kernel
theorem dX2_figuresOf_7 : decode cX2_figuresOf 7 = .ok (.iload_n 0, 1) := by decide +kernel
theorem dX2_figuresOf_8 : decode cX2_figuresOf 8 = .ok (.bipush 7, 2) := by decide +kernel
theorem dX2_figuresOf_10 : decode cX2_figuresOf 10 = .ok (.idiv, 1) := by decide +kernel
theorem dX2_figuresOf_11 : decode cX2_figuresOf 11 = .ok (.bipush 7, 2) := by decide +kernel
theorem dX2_figuresOf_13 : decode cX2_figuresOf 13 = .ok (.irem, 1) := by decide +kernel
theorem dX2_figuresOf_14 : decode cX2_figuresOf 14 = .ok (.bipush 10, 2) := by decide +kernel
theorem dX2_figuresOf_16 : decode cX2_figuresOf 16 = .ok (.imul, 1) := by decide +kernel
theorem dX2_figuresOf_17 : decode cX2_figuresOf 17 = .ok (.iadd, 1) := by decide +kernel
theorem dX2_figuresOf_18 : decode cX2_figuresOf 18 = .ok (.iload_n 0, 1) := by decide +kernel
theorem dX2_figuresOf_19 : decode cX2_figuresOf 19 = .ok (.bipush 7, 2) := by decide +kernel
theorem dX2_figuresOf_21 : decode cX2_figuresOf 21 = .ok (.irem, 1) := by decide +kernel
theorem dX2_figuresOf_22 : decode cX2_figuresOf 22 = .ok (.iadd, 1) := by decide +kernel
theorem dX2_figuresOf_23 : decode cX2_figuresOf 23 = .ok (.ireturn, 1) := by decide +kernel
theorem dX2_signsOf_0 : decode cX2_signsOf 0 = .ok (.iload_n 0, 1) := by decide +kernel
theorem dX2_signsOf_1 : decode cX2_signsOf 1 = .ok (.bipush 49, 2) := by decide +kernel
theorem dX2_signsOf_3 : decode cX2_signsOf 3 = .ok (.if_icmp .lt 5, 3) := by decide +kernel
theorem dX2_signsOf_6 : decode cX2_signsOf 6 = .ok (.iconst 3, 1) := by decide +kernel
theorem dX2_signsOf_7 : decode cX2_signsOf 7 = .ok (.ireturn, 1) := by decide +kernel
theorem dX2_signsOf_8 : decode cX2_signsOf 8 = .ok (.iload_n 0, 1) := by decide +kernel
theorem dX2_signsOf_9 : decode cX2_signsOf 9 = .ok (.bipush 7, 2) := by decide +kernel
theorem dX2_signsOf_11 : decode cX2_signsOf 11 = .ok (.if_icmp .lt 7, 3) := by decide +kernel
theorem dX2_signsOf_14 : decode cX2_signsOf 14 = .ok (.iconst 2, 1) := by decide +kernel
theorem dX2_signsOf_15 : decode cX2_signsOf 15 = .ok (.goto 4, 3) := by decide +kernel
theorem dX2_signsOf_18 : decode cX2_signsOf 18 = .ok (.iconst 1, 1) := by decide +kernel
theorem dX2_signsOf_19 : decode cX2_signsOf 19 = .ok (.ireturn, 1) := by decide +kernel
theorem dX2_isString_0 : decode cX2_isString 0 = .ok (.iload_n 0, 1) := by decide +kernel
theorem dX2_isString_1 : decode cX2_isString 1 = .ok (.iconst 1, 1) := by decide +kernel
theorem dX2_isString_2 : decode cX2_isString 2 = .ok (.if_icmp .lt 15, 3) := by decide +kernel
theorem dX2_isString_5 : decode cX2_isString 5 = .ok (.iload_n 0, 1) := by decide +kernel
theorem dX2_isString_6 : decode cX2_isString 6 = .ok (.bipush 6, 2) := by decide +kernel
theorem dX2_isString_8 : decode cX2_isString 8 = .ok (.if_icmp .eq 9, 3) := by decide +kernel
theorem dX2_isString_11 : decode cX2_isString 11 = .ok (.iload_n 0, 1) := by decide +kernel
theorem dX2_isString_12 : decode cX2_isString 12 = .ok (.bipush 48, 2) := by decide +kernel
theorem dX2_isString_14 : decode cX2_isString 14 = .ok (.if_icmp .ne 5, 3) := by decide +kernel
theorem dX2_isString_17 : decode cX2_isString 17 = .ok (.iconst 0, 1) := by decide +kernel
theorem dX2_isString_18 : decode cX2_isString 18 = .ok (.ireturn, 1) := by decide +kernel
theorem dX2_isString_19 : decode cX2_isString 19 = .ok (.iload_n 0, 1) := by decide +kernel
theorem dX2_isString_20 : decode cX2_isString 20 = .ok (.bipush 49, 2) := by decide +kernel
theorem dX2_isString_22 : decode cX2_isString 22 = .ok (.if_icmp .lt 15, 3) := by decide +kernel
theorem dX2_isString_25 : decode cX2_isString 25 = .ok (.iload_n 0, 1) := by decide +kernel
theorem dX2_isString_26 : decode cX2_isString 26 = .ok (.bipush 7, 2) := by decide +kernel
theorem dX2_isString_28 : decode cX2_isString 28 = .ok (.idiv, 1) := by decide +kernel
theorem dX2_isString_29 : decode cX2_isString 29 = .ok (.bipush 7, 2) := by decide +kernel
theorem dX2_isString_31 : decode cX2_isString 31 = .ok (.irem, 1) := by decide +kernel
theorem dX2_isString_32 : decode cX2_isString 32 = .ok (.bipush 6, 2) := by decide +kernel
theorem dX2_isString_34 : decode cX2_isString 34 = .ok (.if_icmp .eq 7, 3) := by decide +kernel
theorem dX2_isString_37 : decode cX2_isString 37 = .ok (.iconst 1, 1) := by decide +kernel
theorem dX2_isString_38 : decode cX2_isString 38 = .ok (.goto 4, 3) := by decide +kernel
theorem dX2_isString_41 : decode cX2_isString 41 = .ok (.iconst 0, 1) := by decide +kernel
theorem dX2_isString_42 : decode cX2_isString 42 = .ok (.ireturn, 1) := by decide +kernel
theorem dX2_isPattern_0 : decode cX2_isPattern 0 = .ok (.iload_n 0, 1) := by decide +kernel
theorem dX2_isPattern_1 : decode cX2_isPattern 1 = .ok (.invokestatic 10, 3) := by decide +kernel
theorem dX2_isPattern_4 : decode cX2_isPattern 4 = .ok (.ifCond .eq 19, 3) := by decide +kernel
theorem dX2_isPattern_7 : decode cX2_isPattern 7 = .ok (.iload_n 1, 1) := by decide +kernel
theorem dX2_isPattern_8 : decode cX2_isPattern 8 = .ok (.ifCond .lt 15, 3) := by decide +kernel
theorem dX2_isPattern_11 : decode cX2_isPattern 11 = .ok (.iload_n 1, 1) := by decide +kernel
theorem dX2_isPattern_12 : decode cX2_isPattern 12 = .ok (.iload_n 0, 1) := by decide +kernel
theorem dX2_isPattern_13 : decode cX2_isPattern 13 = .ok (.invokestatic 16, 3) := by decide +kernel
theorem dX2_isPattern_16 : decode cX2_isPattern 16 = .ok (.if_icmp .gt 7, 3) := by decide +kernel
theorem dX2_isPattern_19 : decode cX2_isPattern 19 = .ok (.iconst 1, 1) := by decide +kernel
theorem dX2_isPattern_20 : decode cX2_isPattern 20 = .ok (.goto 4, 3) := by decide +kernel
theorem dX2_isPattern_23 : decode cX2_isPattern 23 = .ok (.iconst 0, 1) := by decide +kernel
theorem dX2_isPattern_24 : decode cX2_isPattern 24 = .ok (.ireturn, 1) := by decide +kernel
theorem dX3_init_0 : decode cX3_init 0 = .ok (.aload_n 0, 1) := by decide +kernel
theorem dX3_init_1 : decode cX3_init 1 = .ok (.invokespecial 3, 3) := by decide +kernel
theorem dX3_init_4 : decode cX3_init 4 = .ok (.aload_n 0, 1) := by decide +kernel
theorem dX3_init_5 : decode cX3_init 5 = .ok (.sipush 1372, 3) := by decide +kernel
theorem dX3_init_8 : decode cX3_init 8 = .ok (.newarray .int, 2) := by decide +kernel
theorem dX3_init_10 : decode cX3_init 10 = .ok (.putfield 9, 3) := by decide +kernel
theorem dX3_init_13 : decode cX3_init 13 = .ok (.aload_n 0, 1) := by decide +kernel
theorem dX3_init_14 : decode cX3_init 14 = .ok (.sipush 270, 3) := by decide +kernel
theorem dX3_init_17 : decode cX3_init 17 = .ok (.newarray .int, 2) := by decide +kernel
theorem dX3_init_19 : decode cX3_init 19 = .ok (.putfield 15, 3) := by decide +kernel
theorem dX3_init_22 : decode cX3_init 22 = .ok (.aload_n 0, 1) := by decide +kernel
theorem dX3_init_23 : decode cX3_init 23 = .ok (.sipush 270, 3) := by decide +kernel
theorem dX3_init_26 : decode cX3_init 26 = .ok (.newarray .int, 2) := by decide +kernel
theorem dX3_init_28 : decode cX3_init 28 = .ok (.putfield 18, 3) := by decide +kernel
theorem dX3_init_31 : decode cX3_init 31 = .ok (.aload_n 0, 1) := by decide +kernel
theorem dX3_init_32 : decode cX3_init 32 = .ok (.iconst 5, 1) := by decide +kernel
theorem dX3_init_33 : decode cX3_init 33 = .ok (.newarray .int, 2) := by decide +kernel
theorem dX3_init_35 : decode cX3_init 35 = .ok (.putfield 21, 3) := by decide +kernel
theorem dX3_init_38 : decode cX3_init 38 = .ok (.aload_n 0, 1) := by decide +kernel
theorem dX3_init_39 : decode cX3_init 39 = .ok (.bipush 8, 2) := by decide +kernel
theorem dX3_init_41 : decode cX3_init 41 = .ok (.newarray .int, 2) := by decide +kernel
theorem dX3_init_43 : decode cX3_init 43 = .ok (.putfield 24, 3) := by decide +kernel
theorem dX3_init_46 : decode cX3_init 46 = .ok (.return_, 1) := by decide +kernel
theorem dX3_takeFrom_0 : decode cX3_takeFrom 0 = .ok (.aload_n 0, 1) := by decide +kernel
theorem dX3_takeFrom_1 : decode cX3_takeFrom 1 = .ok (.invokevirtual 27, 3) := by decide +kernel
theorem dX3_takeFrom_4 : decode cX3_takeFrom 4 = .ok (.iconst 1, 1) := by decide +kernel
theorem dX3_takeFrom_5 : decode cX3_takeFrom 5 = .ok (.istore_n 2, 1) := by decide +kernel
theorem dX3_takeFrom_6 : decode cX3_takeFrom 6 = .ok (.iload_n 2, 1) := by decide +kernel
theorem dX3_takeFrom_7 : decode cX3_takeFrom 7 = .ok (.iconst 3, 1) := by decide +kernel
theorem dX3_takeFrom_8 : decode cX3_takeFrom 8 = .ok (.if_icmp .gt 57, 3) := by decide +kernel
theorem dX3_takeFrom_11 : decode cX3_takeFrom 11 = .ok (.aload_n 0, 1) := by decide +kernel
theorem dX3_takeFrom_12 : decode cX3_takeFrom 12 = .ok (.getfield 21, 3) := by decide +kernel
theorem dX3_takeFrom_15 : decode cX3_takeFrom 15 = .ok (.iload_n 2, 1) := by decide +kernel
theorem dX3_takeFrom_16 : decode cX3_takeFrom 16 = .ok (.aload_n 0, 1) := by decide +kernel
theorem dX3_takeFrom_17 : decode cX3_takeFrom 17 = .ok (.getfield 30, 3) := by decide +kernel
theorem dX3_takeFrom_20 : decode cX3_takeFrom 20 = .ok (.iastore, 1) := by decide +kernel
theorem dX3_takeFrom_21 : decode cX3_takeFrom 21 = .ok (.iconst 0, 1) := by decide +kernel
theorem dX3_takeFrom_22 : decode cX3_takeFrom 22 = .ok (.istore_n 3, 1) := by decide +kernel
theorem dX3_takeFrom_23 : decode cX3_takeFrom 23 = .ok (.iload_n 3, 1) := by decide +kernel
theorem dX3_takeFrom_24 : decode cX3_takeFrom 24 = .ok (.aload_n 1, 1) := by decide +kernel
theorem dX3_takeFrom_25 : decode cX3_takeFrom 25 = .ok (.getfield 34, 3) := by decide +kernel
theorem dX3_takeFrom_28 : decode cX3_takeFrom 28 = .ok (.if_icmp .ge 31, 3) := by decide +kernel
theorem dX3_takeFrom_31 : decode cX3_takeFrom 31 = .ok (.aload_n 0, 1) := by decide +kernel
theorem dX3_takeFrom_32 : decode cX3_takeFrom 32 = .ok (.aload_n 1, 1) := by decide +kernel
theorem dX3_takeFrom_33 : decode cX3_takeFrom 33 = .ok (.getfield 39, 3) := by decide +kernel
theorem dX3_takeFrom_36 : decode cX3_takeFrom 36 = .ok (.iload_n 3, 1) := by decide +kernel
theorem dX3_takeFrom_37 : decode cX3_takeFrom 37 = .ok (.iaload, 1) := by decide +kernel
theorem dX3_takeFrom_38 : decode cX3_takeFrom 38 = .ok (.aload_n 1, 1) := by decide +kernel
theorem dX3_takeFrom_39 : decode cX3_takeFrom 39 = .ok (.getfield 42, 3) := by decide +kernel
theorem dX3_takeFrom_42 : decode cX3_takeFrom 42 = .ok (.iload_n 3, 1) := by decide +kernel
theorem dX3_takeFrom_43 : decode cX3_takeFrom 43 = .ok (.iaload, 1) := by decide +kernel
theorem dX3_takeFrom_44 : decode cX3_takeFrom 44 = .ok (.invokevirtual 45, 3) := by decide +kernel
theorem dX3_takeFrom_47 : decode cX3_takeFrom 47 = .ok (.aload_n 0, 1) := by decide +kernel
theorem dX3_takeFrom_48 : decode cX3_takeFrom 48 = .ok (.iload_n 3, 1) := by decide +kernel
theorem dX3_takeFrom_49 : decode cX3_takeFrom 49 = .ok (.iload_n 2, 1) := by decide +kernel
theorem dX3_takeFrom_50 : decode cX3_takeFrom 50 = .ok (.invokevirtual 49, 3) := by decide +kernel
theorem dX3_takeFrom_53 : decode cX3_takeFrom 53 = .ok (.iinc 3 1, 3) := by decide +kernel
theorem dX3_takeFrom_56 : decode cX3_takeFrom 56 = .ok (.goto (-33), 3) := by decide +kernel
theorem dX3_takeFrom_59 : decode cX3_takeFrom 59 = .ok (.iinc 2 1, 3) := by decide +kernel
theorem dX3_takeFrom_62 : decode cX3_takeFrom 62 = .ok (.goto (-56), 3) := by decide +kernel
theorem dX3_takeFrom_65 : decode cX3_takeFrom 65 = .ok (.aload_n 0, 1) := by decide +kernel
theorem dX3_takeFrom_66 : decode cX3_takeFrom 66 = .ok (.getfield 21, 3) := by decide +kernel
theorem dX3_takeFrom_69 : decode cX3_takeFrom 69 = .ok (.iconst 4, 1) := by decide +kernel
theorem dX3_takeFrom_70 : decode cX3_takeFrom 70 = .ok (.aload_n 0, 1) := by decide +kernel
theorem dX3_takeFrom_71 : decode cX3_takeFrom 71 = .ok (.getfield 30, 3) := by decide +kernel
theorem dX3_takeFrom_74 : decode cX3_takeFrom 74 = .ok (.iastore, 1) := by decide +kernel
theorem dX3_takeFrom_75 : decode cX3_takeFrom 75 = .ok (.return_, 1) := by decide +kernel
theorem dX3_forget_0 : decode cX3_forget 0 = .ok (.iconst 0, 1) := by decide +kernel
theorem dX3_forget_1 : decode cX3_forget 1 = .ok (.istore_n 1, 1) := by decide +kernel
theorem dX3_forget_2 : decode cX3_forget 2 = .ok (.iload_n 1, 1) := by decide +kernel
theorem dX3_forget_3 : decode cX3_forget 3 = .ok (.aload_n 0, 1) := by decide +kernel
theorem dX3_forget_4 : decode cX3_forget 4 = .ok (.getfield 30, 3) := by decide +kernel
theorem dX3_forget_7 : decode cX3_forget 7 = .ok (.if_icmp .ge 21, 3) := by decide +kernel
theorem dX3_forget_10 : decode cX3_forget 10 = .ok (.aload_n 0, 1) := by decide +kernel
theorem dX3_forget_11 : decode cX3_forget 11 = .ok (.getfield 9, 3) := by decide +kernel
theorem dX3_forget_14 : decode cX3_forget 14 = .ok (.aload_n 0, 1) := by decide +kernel
theorem dX3_forget_15 : decode cX3_forget 15 = .ok (.getfield 15, 3) := by decide +kernel
theorem dX3_forget_18 : decode cX3_forget 18 = .ok (.iload_n 1, 1) := by decide +kernel
theorem dX3_forget_19 : decode cX3_forget 19 = .ok (.iaload, 1) := by decide +kernel
theorem dX3_forget_20 : decode cX3_forget 20 = .ok (.iconst 0, 1) := by decide +kernel
theorem dX3_forget_21 : decode cX3_forget 21 = .ok (.iastore, 1) := by decide +kernel
theorem dX3_forget_22 : decode cX3_forget 22 = .ok (.iinc 1 1, 3) := by decide +kernel
theorem dX3_forget_25 : decode cX3_forget 25 = .ok (.goto (-23), 3) := by decide +kernel
theorem dX3_forget_28 : decode cX3_forget 28 = .ok (.aload_n 0, 1) := by decide +kernel
theorem dX3_forget_29 : decode cX3_forget 29 = .ok (.iconst 0, 1) := by decide +kernel
theorem dX3_forget_30 : decode cX3_forget 30 = .ok (.putfield 30, 3) := by decide +kernel
theorem dX3_forget_33 : decode cX3_forget 33 = .ok (.return_, 1) := by decide +kernel
theorem dX3_takeWord_0 : decode cX3_takeWord 0 = .ok (.iconst 0, 1) := by decide +kernel
theorem dX3_takeWord_1 : decode cX3_takeWord 1 = .ok (.istore_n 3, 1) := by decide +kernel
theorem dX3_takeWord_2 : decode cX3_takeWord 2 = .ok (.iload_n 3, 1) := by decide +kernel
theorem dX3_takeWord_3 : decode cX3_takeWord 3 = .ok (.aload_n 0, 1) := by decide +kernel
theorem dX3_takeWord_4 : decode cX3_takeWord 4 = .ok (.getfield 52, 3) := by decide +kernel
theorem dX3_takeWord_7 : decode cX3_takeWord 7 = .ok (.iconst 1, 1) := by decide +kernel
theorem dX3_takeWord_8 : decode cX3_takeWord 8 = .ok (.isub, 1) := by decide +kernel
theorem dX3_takeWord_9 : decode cX3_takeWord 9 = .ok (.if_icmp .ge 78, 3) := by decide +kernel
theorem dX3_takeWord_12 : decode cX3_takeWord 12 = .ok (.iload_n 1, 1) := by decide +kernel
theorem dX3_takeWord_13 : decode cX3_takeWord 13 = .ok (.iconst 5, 1) := by decide +kernel
theorem dX3_takeWord_14 : decode cX3_takeWord 14 = .ok (.imul, 1) := by decide +kernel
theorem dX3_takeWord_15 : decode cX3_takeWord 15 = .ok (.iload_n 3, 1) := by decide +kernel
theorem dX3_takeWord_16 : decode cX3_takeWord 16 = .ok (.iadd, 1) := by decide +kernel
theorem dX3_takeWord_17 : decode cX3_takeWord 17 = .ok (.istore 4, 2) := by decide +kernel
theorem dX3_takeWord_19 : decode cX3_takeWord 19 = .ok (.getstatic 55, 3) := by decide +kernel
theorem dX3_takeWord_22 : decode cX3_takeWord 22 = .ok (.iload_n 2, 1) := by decide +kernel
theorem dX3_takeWord_23 : decode cX3_takeWord 23 = .ok (.iaload, 1) := by decide +kernel
theorem dX3_takeWord_24 : decode cX3_takeWord 24 = .ok (.istore 5, 2) := by decide +kernel
theorem dX3_takeWord_26 : decode cX3_takeWord 26 = .ok (.iload 5, 2) := by decide +kernel
theorem dX3_takeWord_28 : decode cX3_takeWord 28 = .ok (.getstatic 55, 3) := by decide +kernel
theorem dX3_takeWord_31 : decode cX3_takeWord 31 = .ok (.iload_n 2, 1) := by decide +kernel
theorem dX3_takeWord_32 : decode cX3_takeWord 32 = .ok (.iconst 1, 1) := by decide +kernel
theorem dX3_takeWord_33 : decode cX3_takeWord 33 = .ok (.iadd, 1) := by decide +kernel
theorem dX3_takeWord_34 : decode cX3_takeWord 34 = .ok (.iaload, 1) := by decide +kernel
theorem dX3_takeWord_35 : decode cX3_takeWord 35 = .ok (.if_icmp .ge 46, 3) := by decide +kernel
theorem dX3_takeWord_38 : decode cX3_takeWord 38 = .ok (.aload_n 0, 1) := by decide +kernel
theorem dX3_takeWord_39 : decode cX3_takeWord 39 = .ok (.iload_n 3, 1) := by decide +kernel
theorem dX3_takeWord_40 : decode cX3_takeWord 40 = .ok (.iload 5, 2) := by decide +kernel
theorem dX3_takeWord_42 : decode cX3_takeWord 42 = .ok (.invokevirtual 58, 3) := by decide +kernel
theorem dX3_takeWord_45 : decode cX3_takeWord 45 = .ok (.istore 6, 2) := by decide +kernel
theorem dX3_takeWord_47 : decode cX3_takeWord 47 = .ok (.aload_n 0, 1) := by decide +kernel
theorem dX3_takeWord_48 : decode cX3_takeWord 48 = .ok (.getfield 18, 3) := by decide +kernel
theorem dX3_takeWord_51 : decode cX3_takeWord 51 = .ok (.iload 4, 2) := by decide +kernel
theorem dX3_takeWord_53 : decode cX3_takeWord 53 = .ok (.bipush 9, 2) := by decide +kernel
theorem dX3_takeWord_55 : decode cX3_takeWord 55 = .ok (.imul, 1) := by decide +kernel
theorem dX3_takeWord_56 : decode cX3_takeWord 56 = .ok (.iload 5, 2) := by decide +kernel
theorem dX3_takeWord_58 : decode cX3_takeWord 58 = .ok (.iadd, 1) := by decide +kernel
theorem dX3_takeWord_59 : decode cX3_takeWord 59 = .ok (.iload 6, 2) := by decide +kernel
theorem dX3_takeWord_61 : decode cX3_takeWord 61 = .ok (.ifCond .ge 7, 3) := by decide +kernel
theorem dX3_takeWord_64 : decode cX3_takeWord 64 = .ok (.iconst (-1), 1) := by decide +kernel
theorem dX3_takeWord_65 : decode cX3_takeWord 65 = .ok (.goto 9, 3) := by decide +kernel
theorem dX3_takeWord_68 : decode cX3_takeWord 68 = .ok (.aload_n 0, 1) := by decide +kernel
theorem dX3_takeWord_69 : decode cX3_takeWord 69 = .ok (.iload 6, 2) := by decide +kernel
theorem dX3_takeWord_71 : decode cX3_takeWord 71 = .ok (.invokevirtual 62, 3) := by decide +kernel
theorem dX3_takeWord_74 : decode cX3_takeWord 74 = .ok (.iastore, 1) := by decide +kernel
theorem dX3_takeWord_75 : decode cX3_takeWord 75 = .ok (.iinc 5 1, 3) := by decide +kernel
theorem dX3_takeWord_78 : decode cX3_takeWord 78 = .ok (.goto (-52), 3) := by decide +kernel
theorem dX3_takeWord_81 : decode cX3_takeWord 81 = .ok (.iinc 3 1, 3) := by decide +kernel
theorem dX3_takeWord_84 : decode cX3_takeWord 84 = .ok (.goto (-82), 3) := by decide +kernel
theorem dX3_takeWord_87 : decode cX3_takeWord 87 = .ok (.return_, 1) := by decide +kernel
theorem dX3_numberFor_0 : decode cX3_numberFor 0 = .ok (.aload_n 0, 1) := by decide +kernel
theorem dX3_numberFor_1 : decode cX3_numberFor 1 = .ok (.getfield 9, 3) := by decide +kernel
theorem dX3_numberFor_4 : decode cX3_numberFor 4 = .ok (.iload_n 1, 1) := by decide +kernel
theorem dX3_numberFor_5 : decode cX3_numberFor 5 = .ok (.iaload, 1) := by decide +kernel
theorem dX3_numberFor_6 : decode cX3_numberFor 6 = .ok (.ifCond .ne 43, 3) := by decide +kernel
theorem dX3_numberFor_9 : decode cX3_numberFor 9 = .ok (.aload_n 0, 1) := by decide +kernel
theorem dX3_numberFor_10 : decode cX3_numberFor 10 = .ok (.getfield 30, 3) := by decide +kernel
theorem dX3_numberFor_13 : decode cX3_numberFor 13 = .ok (.sipush 270, 3) := by decide +kernel
theorem dX3_numberFor_16 : decode cX3_numberFor 16 = .ok (.if_icmp .ge 33, 3) := by decide +kernel
theorem dX3_numberFor_19 : decode cX3_numberFor 19 = .ok (.aload_n 0, 1) := by decide +kernel
theorem dX3_numberFor_20 : decode cX3_numberFor 20 = .ok (.getfield 15, 3) := by decide +kernel
theorem dX3_numberFor_23 : decode cX3_numberFor 23 = .ok (.aload_n 0, 1) := by decide +kernel
theorem dX3_numberFor_24 : decode cX3_numberFor 24 = .ok (.getfield 30, 3) := by decide +kernel
theorem dX3_numberFor_27 : decode cX3_numberFor 27 = .ok (.iload_n 1, 1) := by decide +kernel
theorem dX3_numberFor_28 : decode cX3_numberFor 28 = .ok (.iastore, 1) := by decide +kernel
theorem dX3_numberFor_29 : decode cX3_numberFor 29 = .ok (.aload_n 0, 1) := by decide +kernel
theorem dX3_numberFor_30 : decode cX3_numberFor 30 = .ok (.dup, 1) := by decide +kernel
theorem dX3_numberFor_31 : decode cX3_numberFor 31 = .ok (.getfield 30, 3) := by decide +kernel
theorem dX3_numberFor_34 : decode cX3_numberFor 34 = .ok (.iconst 1, 1) := by decide +kernel
theorem dX3_numberFor_35 : decode cX3_numberFor 35 = .ok (.iadd, 1) := by decide +kernel
theorem dX3_numberFor_36 : decode cX3_numberFor 36 = .ok (.putfield 30, 3) := by decide +kernel
theorem dX3_numberFor_39 : decode cX3_numberFor 39 = .ok (.aload_n 0, 1) := by decide +kernel
theorem dX3_numberFor_40 : decode cX3_numberFor 40 = .ok (.getfield 9, 3) := by decide +kernel
theorem dX3_numberFor_43 : decode cX3_numberFor 43 = .ok (.iload_n 1, 1) := by decide +kernel
theorem dX3_numberFor_44 : decode cX3_numberFor 44 = .ok (.aload_n 0, 1) := by decide +kernel
theorem dX3_numberFor_45 : decode cX3_numberFor 45 = .ok (.getfield 30, 3) := by decide +kernel
theorem dX3_numberFor_48 : decode cX3_numberFor 48 = .ok (.iastore, 1) := by decide +kernel
theorem dX3_numberFor_49 : decode cX3_numberFor 49 = .ok (.aload_n 0, 1) := by decide +kernel
theorem dX3_numberFor_50 : decode cX3_numberFor 50 = .ok (.getfield 9, 3) := by decide +kernel
theorem dX3_numberFor_53 : decode cX3_numberFor 53 = .ok (.iload_n 1, 1) := by decide +kernel
theorem dX3_numberFor_54 : decode cX3_numberFor 54 = .ok (.iaload, 1) := by decide +kernel
theorem dX3_numberFor_55 : decode cX3_numberFor 55 = .ok (.iconst 1, 1) := by decide +kernel
theorem dX3_numberFor_56 : decode cX3_numberFor 56 = .ok (.isub, 1) := by decide +kernel
theorem dX3_numberFor_57 : decode cX3_numberFor 57 = .ok (.ireturn, 1) := by decide +kernel
theorem dX3_spell_0 : decode cX3_spell 0 = .ok (.aload_n 0, 1) := by decide +kernel
theorem dX3_spell_1 : decode cX3_spell 1 = .ok (.iconst 0, 1) := by decide +kernel
theorem dX3_spell_2 : decode cX3_spell 2 = .ok (.iload_n 2, 1) := by decide +kernel
theorem dX3_spell_3 : decode cX3_spell 3 = .ok (.bipush 6, 2) := by decide +kernel
theorem dX3_spell_5 : decode cX3_spell 5 = .ok (.invokestatic 66, 3) := by decide +kernel
theorem dX3_spell_8 : decode cX3_spell 8 = .ok (.invokestatic 71, 3) := by decide +kernel
theorem dX3_spell_11 : decode cX3_spell 11 = .ok (.putfield 52, 3) := by decide +kernel
theorem dX3_spell_14 : decode cX3_spell 14 = .ok (.aload_n 0, 1) := by decide +kernel
theorem dX3_spell_15 : decode cX3_spell 15 = .ok (.getfield 24, 3) := by decide +kernel
theorem dX3_spell_18 : decode cX3_spell 18 = .ok (.iconst 0, 1) := by decide +kernel
theorem dX3_spell_19 : decode cX3_spell 19 = .ok (.bipush 6, 2) := by decide +kernel
theorem dX3_spell_21 : decode cX3_spell 21 = .ok (.iastore, 1) := by decide +kernel
theorem dX3_spell_22 : decode cX3_spell 22 = .ok (.aload_n 0, 1) := by decide +kernel
theorem dX3_spell_23 : decode cX3_spell 23 = .ok (.getfield 24, 3) := by decide +kernel
theorem dX3_spell_26 : decode cX3_spell 26 = .ok (.aload_n 0, 1) := by decide +kernel
theorem dX3_spell_27 : decode cX3_spell 27 = .ok (.getfield 52, 3) := by decide +kernel
theorem dX3_spell_30 : decode cX3_spell 30 = .ok (.iconst 1, 1) := by decide +kernel
theorem dX3_spell_31 : decode cX3_spell 31 = .ok (.iadd, 1) := by decide +kernel
theorem dX3_spell_32 : decode cX3_spell 32 = .ok (.bipush 6, 2) := by decide +kernel
theorem dX3_spell_34 : decode cX3_spell 34 = .ok (.iastore, 1) := by decide +kernel
theorem dX3_spell_35 : decode cX3_spell 35 = .ok (.iload_n 1, 1) := by decide +kernel
theorem dX3_spell_36 : decode cX3_spell 36 = .ok (.istore_n 3, 1) := by decide +kernel
theorem dX3_spell_37 : decode cX3_spell 37 = .ok (.aload_n 0, 1) := by decide +kernel
theorem dX3_spell_38 : decode cX3_spell 38 = .ok (.getfield 52, 3) := by decide +kernel
theorem dX3_spell_41 : decode cX3_spell 41 = .ok (.istore 4, 2) := by decide +kernel
theorem dX3_spell_43 : decode cX3_spell 43 = .ok (.iload 4, 2) := by decide +kernel
theorem dX3_spell_45 : decode cX3_spell 45 = .ok (.ifCond .le 25, 3) := by decide +kernel
theorem dX3_spell_48 : decode cX3_spell 48 = .ok (.aload_n 0, 1) := by decide +kernel
theorem dX3_spell_49 : decode cX3_spell 49 = .ok (.getfield 24, 3) := by decide +kernel
theorem dX3_spell_52 : decode cX3_spell 52 = .ok (.iload 4, 2) := by decide +kernel
theorem dX3_spell_54 : decode cX3_spell 54 = .ok (.iload_n 3, 1) := by decide +kernel
theorem dX3_spell_55 : decode cX3_spell 55 = .ok (.bipush 10, 2) := by decide +kernel
theorem dX3_spell_57 : decode cX3_spell 57 = .ok (.irem, 1) := by decide +kernel
theorem dX3_spell_58 : decode cX3_spell 58 = .ok (.iastore, 1) := by decide +kernel
theorem dX3_spell_59 : decode cX3_spell 59 = .ok (.iload_n 3, 1) := by decide +kernel
theorem dX3_spell_60 : decode cX3_spell 60 = .ok (.bipush 10, 2) := by decide +kernel
theorem dX3_spell_62 : decode cX3_spell 62 = .ok (.idiv, 1) := by decide +kernel
theorem dX3_spell_63 : decode cX3_spell 63 = .ok (.istore_n 3, 1) := by decide +kernel
theorem dX3_spell_64 : decode cX3_spell 64 = .ok (.iinc 4 (-1), 3) := by decide +kernel
theorem dX3_spell_67 : decode cX3_spell 67 = .ok (.goto (-24), 3) := by decide +kernel
theorem dX3_spell_70 : decode cX3_spell 70 = .ok (.return_, 1) := by decide +kernel
theorem dX3_codeAt_0 : decode cX3_codeAt 0 = .ok (.getstatic 74, 3) := by decide +kernel
theorem dX3_codeAt_3 : decode cX3_codeAt 3 = .ok (.iload_n 2, 1) := by decide +kernel
theorem dX3_codeAt_4 : decode cX3_codeAt 4 = .ok (.iaload, 1) := by decide +kernel
theorem dX3_codeAt_5 : decode cX3_codeAt 5 = .ok (.istore_n 3, 1) := by decide +kernel
theorem dX3_codeAt_6 : decode cX3_codeAt 6 = .ok (.iload_n 1, 1) := by decide +kernel
theorem dX3_codeAt_7 : decode cX3_codeAt 7 = .ok (.iconst 2, 1) := by decide +kernel
theorem dX3_codeAt_8 : decode cX3_codeAt 8 = .ok (.iadd, 1) := by decide +kernel
theorem dX3_codeAt_9 : decode cX3_codeAt 9 = .ok (.iload_n 3, 1) := by decide +kernel
theorem dX3_codeAt_10 : decode cX3_codeAt 10 = .ok (.isub, 1) := by decide +kernel
theorem dX3_codeAt_11 : decode cX3_codeAt 11 = .ok (.istore 4, 2) := by decide +kernel
theorem dX3_codeAt_13 : decode cX3_codeAt 13 = .ok (.iload 4, 2) := by decide +kernel
theorem dX3_codeAt_15 : decode cX3_codeAt 15 = .ok (.getstatic 77, 3) := by decide +kernel
theorem dX3_codeAt_18 : decode cX3_codeAt 18 = .ok (.iload_n 2, 1) := by decide +kernel
theorem dX3_codeAt_19 : decode cX3_codeAt 19 = .ok (.iaload, 1) := by decide +kernel
theorem dX3_codeAt_20 : decode cX3_codeAt 20 = .ok (.iadd, 1) := by decide +kernel
theorem dX3_codeAt_21 : decode cX3_codeAt 21 = .ok (.istore 5, 2) := by decide +kernel
theorem dX3_codeAt_23 : decode cX3_codeAt 23 = .ok (.iload 4, 2) := by decide +kernel
theorem dX3_codeAt_25 : decode cX3_codeAt 25 = .ok (.ifCond .lt 14, 3) := by decide +kernel
theorem dX3_codeAt_28 : decode cX3_codeAt 28 = .ok (.iload 5, 2) := by decide +kernel
theorem dX3_codeAt_30 : decode cX3_codeAt 30 = .ok (.aload_n 0, 1) := by decide +kernel
theorem dX3_codeAt_31 : decode cX3_codeAt 31 = .ok (.getfield 52, 3) := by decide +kernel
theorem dX3_codeAt_34 : decode cX3_codeAt 34 = .ok (.iconst 2, 1) := by decide +kernel
theorem dX3_codeAt_35 : decode cX3_codeAt 35 = .ok (.iadd, 1) := by decide +kernel
theorem dX3_codeAt_36 : decode cX3_codeAt 36 = .ok (.if_icmp .le 5, 3) := by decide +kernel
theorem dX3_codeAt_39 : decode cX3_codeAt 39 = .ok (.iconst (-1), 1) := by decide +kernel
theorem dX3_codeAt_40 : decode cX3_codeAt 40 = .ok (.ireturn, 1) := by decide +kernel
theorem dX3_codeAt_41 : decode cX3_codeAt 41 = .ok (.iconst 0, 1) := by decide +kernel
theorem dX3_codeAt_42 : decode cX3_codeAt 42 = .ok (.istore 6, 2) := by decide +kernel
theorem dX3_codeAt_44 : decode cX3_codeAt 44 = .ok (.iload 4, 2) := by decide +kernel
theorem dX3_codeAt_46 : decode cX3_codeAt 46 = .ok (.istore 7, 2) := by decide +kernel
theorem dX3_codeAt_48 : decode cX3_codeAt 48 = .ok (.iload 7, 2) := by decide +kernel
theorem dX3_codeAt_50 : decode cX3_codeAt 50 = .ok (.iload 5, 2) := by decide +kernel
theorem dX3_codeAt_52 : decode cX3_codeAt 52 = .ok (.if_icmp .ge 24, 3) := by decide +kernel
theorem dX3_codeAt_55 : decode cX3_codeAt 55 = .ok (.iload 6, 2) := by decide +kernel
theorem dX3_codeAt_57 : decode cX3_codeAt 57 = .ok (.bipush 7, 2) := by decide +kernel
theorem dX3_codeAt_59 : decode cX3_codeAt 59 = .ok (.imul, 1) := by decide +kernel
theorem dX3_codeAt_60 : decode cX3_codeAt 60 = .ok (.aload_n 0, 1) := by decide +kernel
theorem dX3_codeAt_61 : decode cX3_codeAt 61 = .ok (.getfield 24, 3) := by decide +kernel
theorem dX3_codeAt_64 : decode cX3_codeAt 64 = .ok (.iload 7, 2) := by decide +kernel
theorem dX3_codeAt_66 : decode cX3_codeAt 66 = .ok (.iaload, 1) := by decide +kernel
theorem dX3_codeAt_67 : decode cX3_codeAt 67 = .ok (.iadd, 1) := by decide +kernel
theorem dX3_codeAt_68 : decode cX3_codeAt 68 = .ok (.istore 6, 2) := by decide +kernel
theorem dX3_codeAt_70 : decode cX3_codeAt 70 = .ok (.iinc 7 1, 3) := by decide +kernel
theorem dX3_codeAt_73 : decode cX3_codeAt 73 = .ok (.goto (-25), 3) := by decide +kernel
theorem dX3_codeAt_76 : decode cX3_codeAt 76 = .ok (.iload 6, 2) := by decide +kernel
theorem dX3_codeAt_78 : decode cX3_codeAt 78 = .ok (.iconst 4, 1) := by decide +kernel
theorem dX3_codeAt_79 : decode cX3_codeAt 79 = .ok (.imul, 1) := by decide +kernel
theorem dX3_codeAt_80 : decode cX3_codeAt 80 = .ok (.iload_n 3, 1) := by decide +kernel
theorem dX3_codeAt_81 : decode cX3_codeAt 81 = .ok (.iadd, 1) := by decide +kernel
theorem dX3_codeAt_82 : decode cX3_codeAt 82 = .ok (.ireturn, 1) := by decide +kernel
theorem dX4_init_0 : decode cX4_init 0 = .ok (.aload_n 0, 1) := by decide +kernel
theorem dX4_init_1 : decode cX4_init 1 = .ok (.invokespecial 3, 3) := by decide +kernel
theorem dX4_init_4 : decode cX4_init 4 = .ok (.aload_n 0, 1) := by decide +kernel
theorem dX4_init_5 : decode cX4_init 5 = .ok (.new 9, 3) := by decide +kernel
theorem dX4_init_8 : decode cX4_init 8 = .ok (.dup, 1) := by decide +kernel
theorem dX4_init_9 : decode cX4_init 9 = .ok (.invokespecial 11, 3) := by decide +kernel
theorem dX4_init_12 : decode cX4_init 12 = .ok (.putfield 12, 3) := by decide +kernel
theorem dX4_init_15 : decode cX4_init 15 = .ok (.aload_n 0, 1) := by decide +kernel
theorem dX4_init_16 : decode cX4_init 16 = .ok (.aload_n 1, 1) := by decide +kernel
theorem dX4_init_17 : decode cX4_init 17 = .ok (.putfield 18, 3) := by decide +kernel
theorem dX4_init_20 : decode cX4_init 20 = .ok (.return_, 1) := by decide +kernel
theorem dX4_firstWrong_0 : decode cX4_firstWrong 0 = .ok (.aload_n 0, 1) := by decide +kernel
theorem dX4_firstWrong_1 : decode cX4_firstWrong 1 = .ok (.getfield 12, 3) := by decide +kernel
theorem dX4_firstWrong_4 : decode cX4_firstWrong 4 = .ok (.aload_n 1, 1) := by decide +kernel
theorem dX4_firstWrong_5 : decode cX4_firstWrong 5 = .ok (.invokevirtual 22, 3) := by decide +kernel
theorem dX4_firstWrong_8 : decode cX4_firstWrong 8 = .ok (.aload_n 0, 1) := by decide +kernel
theorem dX4_firstWrong_9 : decode cX4_firstWrong 9 = .ok (.getfield 18, 3) := by decide +kernel
theorem dX4_firstWrong_12 : decode cX4_firstWrong 12 = .ok (.aload_n 0, 1) := by decide +kernel
theorem dX4_firstWrong_13 : decode cX4_firstWrong 13 = .ok (.getfield 12, 3) := by decide +kernel
theorem dX4_firstWrong_16 : decode cX4_firstWrong 16 = .ok (.bipush 63, 2) := by decide +kernel
theorem dX4_firstWrong_18 : decode cX4_firstWrong 18 = .ok (.invokevirtual 26, 3) := by decide +kernel
theorem dX4_firstWrong_21 : decode cX4_firstWrong 21 = .ok (.iconst 0, 1) := by decide +kernel
theorem dX4_firstWrong_22 : decode cX4_firstWrong 22 = .ok (.istore 5, 2) := by decide +kernel
theorem dX4_firstWrong_24 : decode cX4_firstWrong 24 = .ok (.iload 5, 2) := by decide +kernel
theorem dX4_firstWrong_26 : decode cX4_firstWrong 26 = .ok (.iload_n 2, 1) := by decide +kernel
theorem dX4_firstWrong_27 : decode cX4_firstWrong 27 = .ok (.if_icmp .ge 36, 3) := by decide +kernel
theorem dX4_firstWrong_30 : decode cX4_firstWrong 30 = .ok (.aload_n 0, 1) := by decide +kernel
theorem dX4_firstWrong_31 : decode cX4_firstWrong 31 = .ok (.lload_n 3, 1) := by decide +kernel
theorem dX4_firstWrong_32 : decode cX4_firstWrong 32 = .ok (.getstatic 32, 3) := by decide +kernel
theorem dX4_firstWrong_35 : decode cX4_firstWrong 35 = .ok (.iload_n 2, 1) := by decide +kernel
theorem dX4_firstWrong_36 : decode cX4_firstWrong 36 = .ok (.iconst 1, 1) := by decide +kernel
theorem dX4_firstWrong_37 : decode cX4_firstWrong 37 = .ok (.isub, 1) := by decide +kernel
theorem dX4_firstWrong_38 : decode cX4_firstWrong 38 = .ok (.iload 5, 2) := by decide +kernel
theorem dX4_firstWrong_40 : decode cX4_firstWrong 40 = .ok (.isub, 1) := by decide +kernel
theorem dX4_firstWrong_41 : decode cX4_firstWrong 41 = .ok (.laload, 1) := by decide +kernel
theorem dX4_firstWrong_42 : decode cX4_firstWrong 42 = .ok (.ldiv, 1) := by decide +kernel
theorem dX4_firstWrong_43 : decode cX4_firstWrong 43 = .ok (.ldc2_w 36, 3) := by decide +kernel
theorem dX4_firstWrong_46 : decode cX4_firstWrong 46 = .ok (.lrem, 1) := by decide +kernel
theorem dX4_firstWrong_47 : decode cX4_firstWrong 47 = .ok (.l2i, 1) := by decide +kernel
theorem dX4_firstWrong_48 : decode cX4_firstWrong 48 = .ok (.invokevirtual 38, 3) := by decide +kernel
theorem dX4_firstWrong_51 : decode cX4_firstWrong 51 = .ok (.ifCond .ne 6, 3) := by decide +kernel
theorem dX4_firstWrong_54 : decode cX4_firstWrong 54 = .ok (.iload 5, 2) := by decide +kernel
theorem dX4_firstWrong_56 : decode cX4_firstWrong 56 = .ok (.ireturn, 1) := by decide +kernel
theorem dX4_firstWrong_57 : decode cX4_firstWrong 57 = .ok (.iinc 5 1, 3) := by decide +kernel
theorem dX4_firstWrong_60 : decode cX4_firstWrong 60 = .ok (.goto (-36), 3) := by decide +kernel
theorem dX4_firstWrong_63 : decode cX4_firstWrong 63 = .ok (.bipush (-9), 2) := by decide +kernel
theorem dX4_firstWrong_65 : decode cX4_firstWrong 65 = .ok (.ireturn, 1) := by decide +kernel
theorem dX4_goesOn_0 : decode cX4_goesOn 0 = .ok (.iload_n 1, 1) := by decide +kernel
theorem dX4_goesOn_1 : decode cX4_goesOn 1 = .ok (.sipush 1000, 3) := by decide +kernel
theorem dX4_goesOn_4 : decode cX4_goesOn 4 = .ok (.idiv, 1) := by decide +kernel
theorem dX4_goesOn_5 : decode cX4_goesOn 5 = .ok (.bipush 10, 2) := by decide +kernel
theorem dX4_goesOn_7 : decode cX4_goesOn 7 = .ok (.irem, 1) := by decide +kernel
theorem dX4_goesOn_8 : decode cX4_goesOn 8 = .ok (.istore_n 2, 1) := by decide +kernel
theorem dX4_goesOn_9 : decode cX4_goesOn 9 = .ok (.iload_n 1, 1) := by decide +kernel
theorem dX4_goesOn_10 : decode cX4_goesOn 10 = .ok (.bipush 100, 2) := by decide +kernel
theorem dX4_goesOn_12 : decode cX4_goesOn 12 = .ok (.idiv, 1) := by decide +kernel
theorem dX4_goesOn_13 : decode cX4_goesOn 13 = .ok (.bipush 10, 2) := by decide +kernel
theorem dX4_goesOn_15 : decode cX4_goesOn 15 = .ok (.irem, 1) := by decide +kernel
theorem dX4_goesOn_16 : decode cX4_goesOn 16 = .ok (.istore_n 3, 1) := by decide +kernel
theorem dX4_goesOn_17 : decode cX4_goesOn 17 = .ok (.iload_n 1, 1) := by decide +kernel
theorem dX4_goesOn_18 : decode cX4_goesOn 18 = .ok (.bipush 10, 2) := by decide +kernel
theorem dX4_goesOn_20 : decode cX4_goesOn 20 = .ok (.idiv, 1) := by decide +kernel
theorem dX4_goesOn_21 : decode cX4_goesOn 21 = .ok (.bipush 10, 2) := by decide +kernel
theorem dX4_goesOn_23 : decode cX4_goesOn 23 = .ok (.irem, 1) := by decide +kernel
theorem dX4_goesOn_24 : decode cX4_goesOn 24 = .ok (.istore 4, 2) := by decide +kernel
theorem dX4_goesOn_26 : decode cX4_goesOn 26 = .ok (.iload_n 1, 1) := by decide +kernel
theorem dX4_goesOn_27 : decode cX4_goesOn 27 = .ok (.bipush 100, 2) := by decide +kernel
theorem dX4_goesOn_29 : decode cX4_goesOn 29 = .ok (.irem, 1) := by decide +kernel
theorem dX4_goesOn_30 : decode cX4_goesOn 30 = .ok (.istore 5, 2) := by decide +kernel
theorem dX4_goesOn_32 : decode cX4_goesOn 32 = .ok (.iload_n 1, 1) := by decide +kernel
theorem dX4_goesOn_33 : decode cX4_goesOn 33 = .ok (.sipush 10000, 3) := by decide +kernel
theorem dX4_goesOn_36 : decode cX4_goesOn 36 = .ok (.idiv, 1) := by decide +kernel
theorem dX4_goesOn_37 : decode cX4_goesOn 37 = .ok (.tableswitch 226 1 7 #[43, 63, 85, 106, 143, 183, 215], 43) := by decide +kernel
theorem dX4_goesOn_80 : decode cX4_goesOn 80 = .ok (.iload 5, 2) := by decide +kernel
theorem dX4_goesOn_82 : decode cX4_goesOn 82 = .ok (.ifCond .ne 16, 3) := by decide +kernel
theorem dX4_goesOn_85 : decode cX4_goesOn 85 = .ok (.aload_n 0, 1) := by decide +kernel
theorem dX4_goesOn_86 : decode cX4_goesOn 86 = .ok (.iload_n 2, 1) := by decide +kernel
theorem dX4_goesOn_87 : decode cX4_goesOn 87 = .ok (.iload_n 3, 1) := by decide +kernel
theorem dX4_goesOn_88 : decode cX4_goesOn 88 = .ok (.invokevirtual 42, 3) := by decide +kernel
theorem dX4_goesOn_91 : decode cX4_goesOn 91 = .ok (.ifCond .eq 7, 3) := by decide +kernel
theorem dX4_goesOn_94 : decode cX4_goesOn 94 = .ok (.iconst 1, 1) := by decide +kernel
theorem dX4_goesOn_95 : decode cX4_goesOn 95 = .ok (.goto 4, 3) := by decide +kernel
theorem dX4_goesOn_98 : decode cX4_goesOn 98 = .ok (.iconst 0, 1) := by decide +kernel
theorem dX4_goesOn_99 : decode cX4_goesOn 99 = .ok (.ireturn, 1) := by decide +kernel
theorem dX4_goesOn_100 : decode cX4_goesOn 100 = .ok (.iload 4, 2) := by decide +kernel
theorem dX4_goesOn_102 : decode cX4_goesOn 102 = .ok (.ifCond .ne 18, 3) := by decide +kernel
theorem dX4_goesOn_105 : decode cX4_goesOn 105 = .ok (.aload_n 0, 1) := by decide +kernel
theorem dX4_goesOn_106 : decode cX4_goesOn 106 = .ok (.iload_n 2, 1) := by decide +kernel
theorem dX4_goesOn_107 : decode cX4_goesOn 107 = .ok (.iload_n 3, 1) := by decide +kernel
theorem dX4_goesOn_108 : decode cX4_goesOn 108 = .ok (.iload 5, 2) := by decide +kernel
theorem dX4_goesOn_110 : decode cX4_goesOn 110 = .ok (.invokevirtual 46, 3) := by decide +kernel
theorem dX4_goesOn_113 : decode cX4_goesOn 113 = .ok (.ifCond .eq 7, 3) := by decide +kernel
theorem dX4_goesOn_116 : decode cX4_goesOn 116 = .ok (.iconst 1, 1) := by decide +kernel
theorem dX4_goesOn_117 : decode cX4_goesOn 117 = .ok (.goto 4, 3) := by decide +kernel
theorem dX4_goesOn_120 : decode cX4_goesOn 120 = .ok (.iconst 0, 1) := by decide +kernel
theorem dX4_goesOn_121 : decode cX4_goesOn 121 = .ok (.ireturn, 1) := by decide +kernel
theorem dX4_goesOn_122 : decode cX4_goesOn 122 = .ok (.iload_n 1, 1) := by decide +kernel
theorem dX4_goesOn_123 : decode cX4_goesOn 123 = .ok (.sipush 10000, 3) := by decide +kernel
theorem dX4_goesOn_126 : decode cX4_goesOn 126 = .ok (.irem, 1) := by decide +kernel
theorem dX4_goesOn_127 : decode cX4_goesOn 127 = .ok (.ifCond .ne 14, 3) := by decide +kernel
theorem dX4_goesOn_130 : decode cX4_goesOn 130 = .ok (.aload_n 0, 1) := by decide +kernel
theorem dX4_goesOn_131 : decode cX4_goesOn 131 = .ok (.invokevirtual 50, 3) := by decide +kernel
theorem dX4_goesOn_134 : decode cX4_goesOn 134 = .ok (.ifCond .eq 7, 3) := by decide +kernel
theorem dX4_goesOn_137 : decode cX4_goesOn 137 = .ok (.iconst 1, 1) := by decide +kernel
theorem dX4_goesOn_138 : decode cX4_goesOn 138 = .ok (.goto 4, 3) := by decide +kernel
theorem dX4_goesOn_141 : decode cX4_goesOn 141 = .ok (.iconst 0, 1) := by decide +kernel
theorem dX4_goesOn_142 : decode cX4_goesOn 142 = .ok (.ireturn, 1) := by decide +kernel
theorem dX4_goesOn_143 : decode cX4_goesOn 143 = .ok (.iload 4, 2) := by decide +kernel
theorem dX4_goesOn_145 : decode cX4_goesOn 145 = .ok (.ifCond .ne 33, 3) := by decide +kernel
theorem dX4_goesOn_148 : decode cX4_goesOn 148 = .ok (.aload_n 0, 1) := by decide +kernel
theorem dX4_goesOn_149 : decode cX4_goesOn 149 = .ok (.getfield 12, 3) := by decide +kernel
theorem dX4_goesOn_152 : decode cX4_goesOn 152 = .ok (.iload_n 2, 1) := by decide +kernel
theorem dX4_goesOn_153 : decode cX4_goesOn 153 = .ok (.iload_n 3, 1) := by decide +kernel
theorem dX4_goesOn_154 : decode cX4_goesOn 154 = .ok (.invokevirtual 54, 3) := by decide +kernel
theorem dX4_goesOn_157 : decode cX4_goesOn 157 = .ok (.ifCond .eq 21, 3) := by decide +kernel
theorem dX4_goesOn_160 : decode cX4_goesOn 160 = .ok (.aload_n 0, 1) := by decide +kernel
theorem dX4_goesOn_161 : decode cX4_goesOn 161 = .ok (.getfield 18, 3) := by decide +kernel
theorem dX4_goesOn_164 : decode cX4_goesOn 164 = .ok (.iload_n 2, 1) := by decide +kernel
theorem dX4_goesOn_165 : decode cX4_goesOn 165 = .ok (.iload_n 3, 1) := by decide +kernel
theorem dX4_goesOn_166 : decode cX4_goesOn 166 = .ok (.invokevirtual 57, 3) := by decide +kernel
theorem dX4_goesOn_169 : decode cX4_goesOn 169 = .ok (.iload 5, 2) := by decide +kernel
theorem dX4_goesOn_171 : decode cX4_goesOn 171 = .ok (.if_icmp .ne 7, 3) := by decide +kernel
theorem dX4_goesOn_174 : decode cX4_goesOn 174 = .ok (.iconst 1, 1) := by decide +kernel
theorem dX4_goesOn_175 : decode cX4_goesOn 175 = .ok (.goto 4, 3) := by decide +kernel
theorem dX4_goesOn_178 : decode cX4_goesOn 178 = .ok (.iconst 0, 1) := by decide +kernel
theorem dX4_goesOn_179 : decode cX4_goesOn 179 = .ok (.ireturn, 1) := by decide +kernel
theorem dX4_goesOn_180 : decode cX4_goesOn 180 = .ok (.iload_n 1, 1) := by decide +kernel
theorem dX4_goesOn_181 : decode cX4_goesOn 181 = .ok (.sipush 1000, 3) := by decide +kernel
theorem dX4_goesOn_184 : decode cX4_goesOn 184 = .ok (.irem, 1) := by decide +kernel
theorem dX4_goesOn_185 : decode cX4_goesOn 185 = .ok (.ifCond .ne 33, 3) := by decide +kernel
theorem dX4_goesOn_188 : decode cX4_goesOn 188 = .ok (.aload_n 0, 1) := by decide +kernel
theorem dX4_goesOn_189 : decode cX4_goesOn 189 = .ok (.getfield 12, 3) := by decide +kernel
theorem dX4_goesOn_192 : decode cX4_goesOn 192 = .ok (.iload_n 2, 1) := by decide +kernel
theorem dX4_goesOn_193 : decode cX4_goesOn 193 = .ok (.invokevirtual 61, 3) := by decide +kernel
theorem dX4_goesOn_196 : decode cX4_goesOn 196 = .ok (.ifCond .eq 22, 3) := by decide +kernel
theorem dX4_goesOn_199 : decode cX4_goesOn 199 = .ok (.aload_n 0, 1) := by decide +kernel
theorem dX4_goesOn_200 : decode cX4_goesOn 200 = .ok (.getfield 18, 3) := by decide +kernel
theorem dX4_goesOn_203 : decode cX4_goesOn 203 = .ok (.aload_n 0, 1) := by decide +kernel
theorem dX4_goesOn_204 : decode cX4_goesOn 204 = .ok (.getfield 12, 3) := by decide +kernel
theorem dX4_goesOn_207 : decode cX4_goesOn 207 = .ok (.iload_n 2, 1) := by decide +kernel
theorem dX4_goesOn_208 : decode cX4_goesOn 208 = .ok (.invokevirtual 64, 3) := by decide +kernel
theorem dX4_goesOn_211 : decode cX4_goesOn 211 = .ok (.ifCond .ne 7, 3) := by decide +kernel
theorem dX4_goesOn_214 : decode cX4_goesOn 214 = .ok (.iconst 1, 1) := by decide +kernel
theorem dX4_goesOn_215 : decode cX4_goesOn 215 = .ok (.goto 4, 3) := by decide +kernel
theorem dX4_goesOn_218 : decode cX4_goesOn 218 = .ok (.iconst 0, 1) := by decide +kernel
theorem dX4_goesOn_219 : decode cX4_goesOn 219 = .ok (.ireturn, 1) := by decide +kernel
theorem dX4_goesOn_220 : decode cX4_goesOn 220 = .ok (.iload_n 1, 1) := by decide +kernel
theorem dX4_goesOn_221 : decode cX4_goesOn 221 = .ok (.sipush 10000, 3) := by decide +kernel
theorem dX4_goesOn_224 : decode cX4_goesOn 224 = .ok (.irem, 1) := by decide +kernel
theorem dX4_goesOn_225 : decode cX4_goesOn 225 = .ok (.iload 5, 2) := by decide +kernel
theorem dX4_goesOn_227 : decode cX4_goesOn 227 = .ok (.if_icmp .ne 23, 3) := by decide +kernel
theorem dX4_goesOn_230 : decode cX4_goesOn 230 = .ok (.aload_n 0, 1) := by decide +kernel
theorem dX4_goesOn_231 : decode cX4_goesOn 231 = .ok (.getfield 18, 3) := by decide +kernel
theorem dX4_goesOn_234 : decode cX4_goesOn 234 = .ok (.aload_n 0, 1) := by decide +kernel
theorem dX4_goesOn_235 : decode cX4_goesOn 235 = .ok (.getfield 12, 3) := by decide +kernel
theorem dX4_goesOn_238 : decode cX4_goesOn 238 = .ok (.invokevirtual 68, 3) := by decide +kernel
theorem dX4_goesOn_241 : decode cX4_goesOn 241 = .ok (.iload 5, 2) := by decide +kernel
theorem dX4_goesOn_243 : decode cX4_goesOn 243 = .ok (.if_icmp .lt 7, 3) := by decide +kernel
theorem dX4_goesOn_246 : decode cX4_goesOn 246 = .ok (.iconst 1, 1) := by decide +kernel
theorem dX4_goesOn_247 : decode cX4_goesOn 247 = .ok (.goto 4, 3) := by decide +kernel
theorem dX4_goesOn_250 : decode cX4_goesOn 250 = .ok (.iconst 0, 1) := by decide +kernel
theorem dX4_goesOn_251 : decode cX4_goesOn 251 = .ok (.ireturn, 1) := by decide +kernel
theorem dX4_goesOn_252 : decode cX4_goesOn 252 = .ok (.aload_n 0, 1) := by decide +kernel
theorem dX4_goesOn_253 : decode cX4_goesOn 253 = .ok (.iload_n 1, 1) := by decide +kernel
theorem dX4_goesOn_254 : decode cX4_goesOn 254 = .ok (.sipush 1000, 3) := by decide +kernel
theorem dX4_goesOn_257 : decode cX4_goesOn 257 = .ok (.irem, 1) := by decide +kernel
theorem dX4_goesOn_258 : decode cX4_goesOn 258 = .ok (.iload_n 2, 1) := by decide +kernel
theorem dX4_goesOn_259 : decode cX4_goesOn 259 = .ok (.invokevirtual 72, 3) := by decide +kernel
theorem dX4_goesOn_262 : decode cX4_goesOn 262 = .ok (.ireturn, 1) := by decide +kernel
theorem dX4_goesOn_263 : decode cX4_goesOn 263 = .ok (.iconst 0, 1) := by decide +kernel
theorem dX4_goesOn_264 : decode cX4_goesOn 264 = .ok (.ireturn, 1) := by decide +kernel
theorem dX4_turns_0 : decode cX4_turns 0 = .ok (.aload_n 0, 1) := by decide +kernel
theorem dX4_turns_1 : decode cX4_turns 1 = .ok (.getfield 12, 3) := by decide +kernel
theorem dX4_turns_4 : decode cX4_turns 4 = .ok (.iload_n 1, 1) := by decide +kernel
theorem dX4_turns_5 : decode cX4_turns 5 = .ok (.iload_n 2, 1) := by decide +kernel
theorem dX4_turns_6 : decode cX4_turns 6 = .ok (.invokevirtual 54, 3) := by decide +kernel
theorem dX4_turns_9 : decode cX4_turns 9 = .ok (.ifCond .ne 5, 3) := by decide +kernel
theorem dX4_turns_12 : decode cX4_turns 12 = .ok (.iconst 0, 1) := by decide +kernel
theorem dX4_turns_13 : decode cX4_turns 13 = .ok (.ireturn, 1) := by decide +kernel
theorem dX4_turns_14 : decode cX4_turns 14 = .ok (.aload_n 0, 1) := by decide +kernel
theorem dX4_turns_15 : decode cX4_turns 15 = .ok (.getfield 12, 3) := by decide +kernel
theorem dX4_turns_18 : decode cX4_turns 18 = .ok (.iload_n 1, 1) := by decide +kernel
theorem dX4_turns_19 : decode cX4_turns 19 = .ok (.iload_n 2, 1) := by decide +kernel
theorem dX4_turns_20 : decode cX4_turns 20 = .ok (.invokevirtual 75, 3) := by decide +kernel
theorem dX4_turns_23 : decode cX4_turns 23 = .ok (.aload_n 0, 1) := by decide +kernel
theorem dX4_turns_24 : decode cX4_turns 24 = .ok (.getfield 18, 3) := by decide +kernel
theorem dX4_turns_27 : decode cX4_turns 27 = .ok (.aload_n 0, 1) := by decide +kernel
theorem dX4_turns_28 : decode cX4_turns 28 = .ok (.getfield 12, 3) := by decide +kernel
theorem dX4_turns_31 : decode cX4_turns 31 = .ok (.bipush 63, 2) := by decide +kernel
theorem dX4_turns_33 : decode cX4_turns 33 = .ok (.invokevirtual 26, 3) := by decide +kernel
theorem dX4_turns_36 : decode cX4_turns 36 = .ok (.iconst 1, 1) := by decide +kernel
theorem dX4_turns_37 : decode cX4_turns 37 = .ok (.ireturn, 1) := by decide +kernel
theorem dX4_rules_0 : decode cX4_rules 0 = .ok (.iload_n 1, 1) := by decide +kernel
theorem dX4_rules_1 : decode cX4_rules 1 = .ok (.invokestatic 79, 3) := by decide +kernel
theorem dX4_rules_4 : decode cX4_rules 4 = .ok (.ifCond .eq 11, 3) := by decide +kernel
theorem dX4_rules_7 : decode cX4_rules 7 = .ok (.iload_n 2, 1) := by decide +kernel
theorem dX4_rules_8 : decode cX4_rules 8 = .ok (.iload_n 3, 1) := by decide +kernel
theorem dX4_rules_9 : decode cX4_rules 9 = .ok (.invokestatic 82, 3) := by decide +kernel
theorem dX4_rules_12 : decode cX4_rules 12 = .ok (.ifCond .ne 5, 3) := by decide +kernel
theorem dX4_rules_15 : decode cX4_rules 15 = .ok (.iconst 0, 1) := by decide +kernel
theorem dX4_rules_16 : decode cX4_rules 16 = .ok (.ireturn, 1) := by decide +kernel
theorem dX4_rules_17 : decode cX4_rules 17 = .ok (.aload_n 0, 1) := by decide +kernel
theorem dX4_rules_18 : decode cX4_rules 18 = .ok (.getfield 12, 3) := by decide +kernel
theorem dX4_rules_21 : decode cX4_rules 21 = .ok (.iload_n 1, 1) := by decide +kernel
theorem dX4_rules_22 : decode cX4_rules 22 = .ok (.iload_n 2, 1) := by decide +kernel
theorem dX4_rules_23 : decode cX4_rules 23 = .ok (.iload_n 3, 1) := by decide +kernel
theorem dX4_rules_24 : decode cX4_rules 24 = .ok (.invokevirtual 85, 3) := by decide +kernel
theorem dX4_rules_27 : decode cX4_rules 27 = .ok (.aload_n 0, 1) := by decide +kernel
theorem dX4_rules_28 : decode cX4_rules 28 = .ok (.getfield 18, 3) := by decide +kernel
theorem dX4_rules_31 : decode cX4_rules 31 = .ok (.aload_n 0, 1) := by decide +kernel
theorem dX4_rules_32 : decode cX4_rules 32 = .ok (.getfield 12, 3) := by decide +kernel
theorem dX4_rules_35 : decode cX4_rules 35 = .ok (.bipush 63, 2) := by decide +kernel
theorem dX4_rules_37 : decode cX4_rules 37 = .ok (.invokevirtual 26, 3) := by decide +kernel
theorem dX4_rules_40 : decode cX4_rules 40 = .ok (.iconst 1, 1) := by decide +kernel
theorem dX4_rules_41 : decode cX4_rules 41 = .ok (.ireturn, 1) := by decide +kernel
theorem dX4_studies_0 : decode cX4_studies 0 = .ok (.aload_n 0, 1) := by decide +kernel
theorem dX4_studies_1 : decode cX4_studies 1 = .ok (.getfield 12, 3) := by decide +kernel
theorem dX4_studies_4 : decode cX4_studies 4 = .ok (.getfield 89, 3) := by decide +kernel
theorem dX4_studies_7 : decode cX4_studies 7 = .ok (.iconst 4, 1) := by decide +kernel
theorem dX4_studies_8 : decode cX4_studies 8 = .ok (.if_icmp .lt 5, 3) := by decide +kernel
theorem dX4_studies_11 : decode cX4_studies 11 = .ok (.iconst 0, 1) := by decide +kernel
theorem dX4_studies_12 : decode cX4_studies 12 = .ok (.ireturn, 1) := by decide +kernel
theorem dX4_studies_13 : decode cX4_studies 13 = .ok (.aload_n 0, 1) := by decide +kernel
theorem dX4_studies_14 : decode cX4_studies 14 = .ok (.getfield 12, 3) := by decide +kernel
theorem dX4_studies_17 : decode cX4_studies 17 = .ok (.dup, 1) := by decide +kernel
theorem dX4_studies_18 : decode cX4_studies 18 = .ok (.getfield 89, 3) := by decide +kernel
theorem dX4_studies_21 : decode cX4_studies 21 = .ok (.iconst 1, 1) := by decide +kernel
theorem dX4_studies_22 : decode cX4_studies 22 = .ok (.iadd, 1) := by decide +kernel
theorem dX4_studies_23 : decode cX4_studies 23 = .ok (.putfield 89, 3) := by decide +kernel
theorem dX4_studies_26 : decode cX4_studies 26 = .ok (.aload_n 0, 1) := by decide +kernel
theorem dX4_studies_27 : decode cX4_studies 27 = .ok (.getfield 18, 3) := by decide +kernel
theorem dX4_studies_30 : decode cX4_studies 30 = .ok (.aload_n 0, 1) := by decide +kernel
theorem dX4_studies_31 : decode cX4_studies 31 = .ok (.getfield 12, 3) := by decide +kernel
theorem dX4_studies_34 : decode cX4_studies 34 = .ok (.bipush 63, 2) := by decide +kernel
theorem dX4_studies_36 : decode cX4_studies 36 = .ok (.invokevirtual 26, 3) := by decide +kernel
theorem dX4_studies_39 : decode cX4_studies 39 = .ok (.iconst 1, 1) := by decide +kernel
theorem dX4_studies_40 : decode cX4_studies 40 = .ok (.ireturn, 1) := by decide +kernel
theorem dX4_hasPattern_0 : decode cX4_hasPattern 0 = .ok (.iload_n 1, 1) := by decide +kernel
theorem dX4_hasPattern_1 : decode cX4_hasPattern 1 = .ok (.invokestatic 93, 3) := by decide +kernel
theorem dX4_hasPattern_4 : decode cX4_hasPattern 4 = .ok (.istore_n 3, 1) := by decide +kernel
theorem dX4_hasPattern_5 : decode cX4_hasPattern 5 = .ok (.iload_n 3, 1) := by decide +kernel
theorem dX4_hasPattern_6 : decode cX4_hasPattern 6 = .ok (.iload_n 2, 1) := by decide +kernel
theorem dX4_hasPattern_7 : decode cX4_hasPattern 7 = .ok (.invokestatic 99, 3) := by decide +kernel
theorem dX4_hasPattern_10 : decode cX4_hasPattern 10 = .ok (.ifCond .eq 19, 3) := by decide +kernel
theorem dX4_hasPattern_13 : decode cX4_hasPattern 13 = .ok (.aload_n 0, 1) := by decide +kernel
theorem dX4_hasPattern_14 : decode cX4_hasPattern 14 = .ok (.getfield 18, 3) := by decide +kernel
theorem dX4_hasPattern_17 : decode cX4_hasPattern 17 = .ok (.iload_n 3, 1) := by decide +kernel
theorem dX4_hasPattern_18 : decode cX4_hasPattern 18 = .ok (.iload_n 2, 1) := by decide +kernel
theorem dX4_hasPattern_19 : decode cX4_hasPattern 19 = .ok (.invokevirtual 102, 3) := by decide +kernel
theorem dX4_hasPattern_22 : decode cX4_hasPattern 22 = .ok (.ifCond .le 7, 3) := by decide +kernel
theorem dX4_hasPattern_25 : decode cX4_hasPattern 25 = .ok (.iconst 1, 1) := by decide +kernel
theorem dX4_hasPattern_26 : decode cX4_hasPattern 26 = .ok (.goto 4, 3) := by decide +kernel
theorem dX4_hasPattern_29 : decode cX4_hasPattern 29 = .ok (.iconst 0, 1) := by decide +kernel
theorem dX4_hasPattern_30 : decode cX4_hasPattern 30 = .ok (.ireturn, 1) := by decide +kernel
theorem dX5_init_0 : decode cX5_init 0 = .ok (.aload_n 0, 1) := by decide +kernel
theorem dX5_init_1 : decode cX5_init 1 = .ok (.invokespecial 3, 3) := by decide +kernel
theorem dX5_init_4 : decode cX5_init 4 = .ok (.aload_n 0, 1) := by decide +kernel
theorem dX5_init_5 : decode cX5_init 5 = .ok (.sipush 270, 3) := by decide +kernel
theorem dX5_init_8 : decode cX5_init 8 = .ok (.newarray .int, 2) := by decide +kernel
theorem dX5_init_10 : decode cX5_init 10 = .ok (.putfield 9, 3) := by decide +kernel
theorem dX5_init_13 : decode cX5_init 13 = .ok (.aload_n 0, 1) := by decide +kernel
theorem dX5_init_14 : decode cX5_init 14 = .ok (.sipush 270, 3) := by decide +kernel
theorem dX5_init_17 : decode cX5_init 17 = .ok (.newarray .int, 2) := by decide +kernel
theorem dX5_init_19 : decode cX5_init 19 = .ok (.putfield 15, 3) := by decide +kernel
theorem dX5_init_22 : decode cX5_init 22 = .ok (.aload_n 0, 1) := by decide +kernel
theorem dX5_init_23 : decode cX5_init 23 = .ok (.sipush 270, 3) := by decide +kernel
theorem dX5_init_26 : decode cX5_init 26 = .ok (.newarray .int, 2) := by decide +kernel
theorem dX5_init_28 : decode cX5_init 28 = .ok (.putfield 18, 3) := by decide +kernel
theorem dX5_init_31 : decode cX5_init 31 = .ok (.aload_n 0, 1) := by decide +kernel
theorem dX5_init_32 : decode cX5_init 32 = .ok (.bipush 30, 2) := by decide +kernel
theorem dX5_init_34 : decode cX5_init 34 = .ok (.newarray .int, 2) := by decide +kernel
theorem dX5_init_36 : decode cX5_init 36 = .ok (.putfield 21, 3) := by decide +kernel
theorem dX5_init_39 : decode cX5_init 39 = .ok (.aload_n 0, 1) := by decide +kernel
theorem dX5_init_40 : decode cX5_init 40 = .ok (.aload_n 1, 1) := by decide +kernel
theorem dX5_init_41 : decode cX5_init 41 = .ok (.putfield 24, 3) := by decide +kernel
theorem dX5_init_44 : decode cX5_init 44 = .ok (.return_, 1) := by decide +kernel
theorem dX5_learnFrom_0 : decode cX5_learnFrom 0 = .ok (.aload_n 0, 1) := by decide +kernel
theorem dX5_learnFrom_1 : decode cX5_learnFrom 1 = .ok (.getfield 9, 3) := by decide +kernel
theorem dX5_learnFrom_4 : decode cX5_learnFrom 4 = .ok (.iconst 0, 1) := by decide +kernel
theorem dX5_learnFrom_5 : decode cX5_learnFrom 5 = .ok (.aload_n 0, 1) := by decide +kernel
theorem dX5_learnFrom_6 : decode cX5_learnFrom 6 = .ok (.getfield 24, 3) := by decide +kernel
theorem dX5_learnFrom_9 : decode cX5_learnFrom 9 = .ok (.getfield 28, 3) := by decide +kernel
theorem dX5_learnFrom_12 : decode cX5_learnFrom 12 = .ok (.iconst 0, 1) := by decide +kernel
theorem dX5_learnFrom_13 : decode cX5_learnFrom 13 = .ok (.invokestatic 34, 3) := by decide +kernel
theorem dX5_learnFrom_16 : decode cX5_learnFrom 16 = .ok (.aload_n 0, 1) := by decide +kernel
theorem dX5_learnFrom_17 : decode cX5_learnFrom 17 = .ok (.getfield 21, 3) := by decide +kernel
theorem dX5_learnFrom_20 : decode cX5_learnFrom 20 = .ok (.iconst 0, 1) := by decide +kernel
theorem dX5_learnFrom_21 : decode cX5_learnFrom 21 = .ok (.invokestatic 40, 3) := by decide +kernel
theorem dX5_learnFrom_24 : decode cX5_learnFrom 24 = .ok (.iconst 1, 1) := by decide +kernel
theorem dX5_learnFrom_25 : decode cX5_learnFrom 25 = .ok (.istore_n 3, 1) := by decide +kernel
theorem dX5_learnFrom_26 : decode cX5_learnFrom 26 = .ok (.iload_n 3, 1) := by decide +kernel
theorem dX5_learnFrom_27 : decode cX5_learnFrom 27 = .ok (.aload_n 1, 1) := by decide +kernel
theorem dX5_learnFrom_28 : decode cX5_learnFrom 28 = .ok (.getfield 43, 3) := by decide +kernel
theorem dX5_learnFrom_31 : decode cX5_learnFrom 31 = .ok (.if_icmp .gt 84, 3) := by decide +kernel
theorem dX5_learnFrom_34 : decode cX5_learnFrom 34 = .ok (.aload_n 0, 1) := by decide +kernel
theorem dX5_learnFrom_35 : decode cX5_learnFrom 35 = .ok (.getfield 15, 3) := by decide +kernel
theorem dX5_learnFrom_38 : decode cX5_learnFrom 38 = .ok (.iconst 0, 1) := by decide +kernel
theorem dX5_learnFrom_39 : decode cX5_learnFrom 39 = .ok (.aload_n 0, 1) := by decide +kernel
theorem dX5_learnFrom_40 : decode cX5_learnFrom 40 = .ok (.getfield 24, 3) := by decide +kernel
theorem dX5_learnFrom_43 : decode cX5_learnFrom 43 = .ok (.getfield 28, 3) := by decide +kernel
theorem dX5_learnFrom_46 : decode cX5_learnFrom 46 = .ok (.iconst 0, 1) := by decide +kernel
theorem dX5_learnFrom_47 : decode cX5_learnFrom 47 = .ok (.invokestatic 34, 3) := by decide +kernel
theorem dX5_learnFrom_50 : decode cX5_learnFrom 50 = .ok (.aload_n 0, 1) := by decide +kernel
theorem dX5_learnFrom_51 : decode cX5_learnFrom 51 = .ok (.getfield 18, 3) := by decide +kernel
theorem dX5_learnFrom_54 : decode cX5_learnFrom 54 = .ok (.iconst 0, 1) := by decide +kernel
theorem dX5_learnFrom_55 : decode cX5_learnFrom 55 = .ok (.aload_n 0, 1) := by decide +kernel
theorem dX5_learnFrom_56 : decode cX5_learnFrom 56 = .ok (.getfield 24, 3) := by decide +kernel
theorem dX5_learnFrom_59 : decode cX5_learnFrom 59 = .ok (.getfield 28, 3) := by decide +kernel
theorem dX5_learnFrom_62 : decode cX5_learnFrom 62 = .ok (.iconst 0, 1) := by decide +kernel
theorem dX5_learnFrom_63 : decode cX5_learnFrom 63 = .ok (.invokestatic 34, 3) := by decide +kernel
theorem dX5_learnFrom_66 : decode cX5_learnFrom 66 = .ok (.iconst 1, 1) := by decide +kernel
theorem dX5_learnFrom_67 : decode cX5_learnFrom 67 = .ok (.istore 4, 2) := by decide +kernel
theorem dX5_learnFrom_69 : decode cX5_learnFrom 69 = .ok (.iload 4, 2) := by decide +kernel
theorem dX5_learnFrom_71 : decode cX5_learnFrom 71 = .ok (.iconst 3, 1) := by decide +kernel
theorem dX5_learnFrom_72 : decode cX5_learnFrom 72 = .ok (.if_icmp .gt 37, 3) := by decide +kernel
theorem dX5_learnFrom_75 : decode cX5_learnFrom 75 = .ok (.aload_n 0, 1) := by decide +kernel
theorem dX5_learnFrom_76 : decode cX5_learnFrom 76 = .ok (.aload_n 1, 1) := by decide +kernel
theorem dX5_learnFrom_77 : decode cX5_learnFrom 77 = .ok (.iload_n 2, 1) := by decide +kernel
theorem dX5_learnFrom_78 : decode cX5_learnFrom 78 = .ok (.iload_n 3, 1) := by decide +kernel
theorem dX5_learnFrom_79 : decode cX5_learnFrom 79 = .ok (.iload 4, 2) := by decide +kernel
theorem dX5_learnFrom_81 : decode cX5_learnFrom 81 = .ok (.invokevirtual 48, 3) := by decide +kernel
theorem dX5_learnFrom_84 : decode cX5_learnFrom 84 = .ok (.ifCond .eq 19, 3) := by decide +kernel
theorem dX5_learnFrom_87 : decode cX5_learnFrom 87 = .ok (.aload_n 0, 1) := by decide +kernel
theorem dX5_learnFrom_88 : decode cX5_learnFrom 88 = .ok (.aload_n 1, 1) := by decide +kernel
theorem dX5_learnFrom_89 : decode cX5_learnFrom 89 = .ok (.iload_n 3, 1) := by decide +kernel
theorem dX5_learnFrom_90 : decode cX5_learnFrom 90 = .ok (.iload 4, 2) := by decide +kernel
theorem dX5_learnFrom_92 : decode cX5_learnFrom 92 = .ok (.invokevirtual 52, 3) := by decide +kernel
theorem dX5_learnFrom_95 : decode cX5_learnFrom 95 = .ok (.aload_n 0, 1) := by decide +kernel
theorem dX5_learnFrom_96 : decode cX5_learnFrom 96 = .ok (.aload_n 1, 1) := by decide +kernel
theorem dX5_learnFrom_97 : decode cX5_learnFrom 97 = .ok (.iload_n 3, 1) := by decide +kernel
theorem dX5_learnFrom_98 : decode cX5_learnFrom 98 = .ok (.iload 4, 2) := by decide +kernel
theorem dX5_learnFrom_100 : decode cX5_learnFrom 100 = .ok (.invokevirtual 56, 3) := by decide +kernel
theorem dX5_learnFrom_103 : decode cX5_learnFrom 103 = .ok (.iinc 4 1, 3) := by decide +kernel
theorem dX5_learnFrom_106 : decode cX5_learnFrom 106 = .ok (.goto (-37), 3) := by decide +kernel
theorem dX5_learnFrom_109 : decode cX5_learnFrom 109 = .ok (.iinc 3 1, 3) := by decide +kernel
theorem dX5_learnFrom_112 : decode cX5_learnFrom 112 = .ok (.goto (-86), 3) := by decide +kernel
theorem dX5_learnFrom_115 : decode cX5_learnFrom 115 = .ok (.return_, 1) := by decide +kernel
theorem dX5_countWords_0 : decode cX5_countWords 0 = .ok (.iload_n 3, 1) := by decide +kernel
theorem dX5_countWords_1 : decode cX5_countWords 1 = .ok (.iconst 2, 1) := by decide +kernel
theorem dX5_countWords_2 : decode cX5_countWords 2 = .ok (.irem, 1) := by decide +kernel
theorem dX5_countWords_3 : decode cX5_countWords 3 = .ok (.iconst 1, 1) := by decide +kernel
theorem dX5_countWords_4 : decode cX5_countWords 4 = .ok (.if_icmp .ne 7, 3) := by decide +kernel
theorem dX5_countWords_7 : decode cX5_countWords 7 = .ok (.iconst 1, 1) := by decide +kernel
theorem dX5_countWords_8 : decode cX5_countWords 8 = .ok (.goto 4, 3) := by decide +kernel
theorem dX5_countWords_11 : decode cX5_countWords 11 = .ok (.iconst 0, 1) := by decide +kernel
theorem dX5_countWords_12 : decode cX5_countWords 12 = .ok (.istore 5, 2) := by decide +kernel
theorem dX5_countWords_14 : decode cX5_countWords 14 = .ok (.iconst 0, 1) := by decide +kernel
theorem dX5_countWords_15 : decode cX5_countWords 15 = .ok (.istore 6, 2) := by decide +kernel
theorem dX5_countWords_17 : decode cX5_countWords 17 = .ok (.iconst 0, 1) := by decide +kernel
theorem dX5_countWords_18 : decode cX5_countWords 18 = .ok (.istore 7, 2) := by decide +kernel
theorem dX5_countWords_20 : decode cX5_countWords 20 = .ok (.iload 7, 2) := by decide +kernel
theorem dX5_countWords_22 : decode cX5_countWords 22 = .ok (.aload_n 1, 1) := by decide +kernel
theorem dX5_countWords_23 : decode cX5_countWords 23 = .ok (.getfield 59, 3) := by decide +kernel
theorem dX5_countWords_26 : decode cX5_countWords 26 = .ok (.if_icmp .ge 173, 3) := by decide +kernel
theorem dX5_countWords_29 : decode cX5_countWords 29 = .ok (.iload_n 2, 1) := by decide +kernel
theorem dX5_countWords_30 : decode cX5_countWords 30 = .ok (.iload 7, 2) := by decide +kernel
theorem dX5_countWords_32 : decode cX5_countWords 32 = .ok (.ishr, 1) := by decide +kernel
theorem dX5_countWords_33 : decode cX5_countWords 33 = .ok (.iconst 1, 1) := by decide +kernel
theorem dX5_countWords_34 : decode cX5_countWords 34 = .ok (.iand, 1) := by decide +kernel
theorem dX5_countWords_35 : decode cX5_countWords 35 = .ok (.ifCond .ne 6, 3) := by decide +kernel
theorem dX5_countWords_38 : decode cX5_countWords 38 = .ok (.goto 155, 3) := by decide +kernel
theorem dX5_countWords_41 : decode cX5_countWords 41 = .ok (.iconst 0, 1) := by decide +kernel
theorem dX5_countWords_42 : decode cX5_countWords 42 = .ok (.istore 8, 2) := by decide +kernel
theorem dX5_countWords_44 : decode cX5_countWords 44 = .ok (.iload 8, 2) := by decide +kernel
theorem dX5_countWords_46 : decode cX5_countWords 46 = .ok (.aload_n 1, 1) := by decide +kernel
theorem dX5_countWords_47 : decode cX5_countWords 47 = .ok (.getfield 62, 3) := by decide +kernel
theorem dX5_countWords_50 : decode cX5_countWords 50 = .ok (.iload 7, 2) := by decide +kernel
theorem dX5_countWords_52 : decode cX5_countWords 52 = .ok (.iaload, 1) := by decide +kernel
theorem dX5_countWords_53 : decode cX5_countWords 53 = .ok (.iconst 1, 1) := by decide +kernel
theorem dX5_countWords_54 : decode cX5_countWords 54 = .ok (.isub, 1) := by decide +kernel
theorem dX5_countWords_55 : decode cX5_countWords 55 = .ok (.if_icmp .ge 138, 3) := by decide +kernel
theorem dX5_countWords_58 : decode cX5_countWords 58 = .ok (.aload_n 0, 1) := by decide +kernel
theorem dX5_countWords_59 : decode cX5_countWords 59 = .ok (.iload 7, 2) := by decide +kernel
theorem dX5_countWords_61 : decode cX5_countWords 61 = .ok (.iload 8, 2) := by decide +kernel
theorem dX5_countWords_63 : decode cX5_countWords 63 = .ok (.invokevirtual 65, 3) := by decide +kernel
theorem dX5_countWords_66 : decode cX5_countWords 66 = .ok (.iconst 2, 1) := by decide +kernel
theorem dX5_countWords_67 : decode cX5_countWords 67 = .ok (.irem, 1) := by decide +kernel
theorem dX5_countWords_68 : decode cX5_countWords 68 = .ok (.iconst 1, 1) := by decide +kernel
theorem dX5_countWords_69 : decode cX5_countWords 69 = .ok (.if_icmp .ne 7, 3) := by decide +kernel
theorem dX5_countWords_72 : decode cX5_countWords 72 = .ok (.iconst 1, 1) := by decide +kernel
theorem dX5_countWords_73 : decode cX5_countWords 73 = .ok (.goto 4, 3) := by decide +kernel
theorem dX5_countWords_76 : decode cX5_countWords 76 = .ok (.iconst 0, 1) := by decide +kernel
theorem dX5_countWords_77 : decode cX5_countWords 77 = .ok (.istore 9, 2) := by decide +kernel
theorem dX5_countWords_79 : decode cX5_countWords 79 = .ok (.aload_n 1, 1) := by decide +kernel
theorem dX5_countWords_80 : decode cX5_countWords 80 = .ok (.getfield 69, 3) := by decide +kernel
theorem dX5_countWords_83 : decode cX5_countWords 83 = .ok (.iload 7, 2) := by decide +kernel
theorem dX5_countWords_85 : decode cX5_countWords 85 = .ok (.iaload, 1) := by decide +kernel
theorem dX5_countWords_86 : decode cX5_countWords 86 = .ok (.iload 8, 2) := by decide +kernel
theorem dX5_countWords_88 : decode cX5_countWords 88 = .ok (.ishr, 1) := by decide +kernel
theorem dX5_countWords_89 : decode cX5_countWords 89 = .ok (.iconst 1, 1) := by decide +kernel
theorem dX5_countWords_90 : decode cX5_countWords 90 = .ok (.iand, 1) := by decide +kernel
theorem dX5_countWords_91 : decode cX5_countWords 91 = .ok (.iconst 1, 1) := by decide +kernel
theorem dX5_countWords_92 : decode cX5_countWords 92 = .ok (.if_icmp .ne 7, 3) := by decide +kernel
theorem dX5_countWords_95 : decode cX5_countWords 95 = .ok (.iconst 1, 1) := by decide +kernel
theorem dX5_countWords_96 : decode cX5_countWords 96 = .ok (.goto 4, 3) := by decide +kernel
theorem dX5_countWords_99 : decode cX5_countWords 99 = .ok (.iconst 0, 1) := by decide +kernel
theorem dX5_countWords_100 : decode cX5_countWords 100 = .ok (.istore 10, 2) := by decide +kernel
theorem dX5_countWords_102 : decode cX5_countWords 102 = .ok (.iload 7, 2) := by decide +kernel
theorem dX5_countWords_104 : decode cX5_countWords 104 = .ok (.iconst 5, 1) := by decide +kernel
theorem dX5_countWords_105 : decode cX5_countWords 105 = .ok (.imul, 1) := by decide +kernel
theorem dX5_countWords_106 : decode cX5_countWords 106 = .ok (.iload 8, 2) := by decide +kernel
theorem dX5_countWords_108 : decode cX5_countWords 108 = .ok (.iadd, 1) := by decide +kernel
theorem dX5_countWords_109 : decode cX5_countWords 109 = .ok (.istore 11, 2) := by decide +kernel
theorem dX5_countWords_111 : decode cX5_countWords 111 = .ok (.iload 5, 2) := by decide +kernel
theorem dX5_countWords_113 : decode cX5_countWords 113 = .ok (.ifCond .eq 16, 3) := by decide +kernel
theorem dX5_countWords_116 : decode cX5_countWords 116 = .ok (.iload 10, 2) := by decide +kernel
theorem dX5_countWords_118 : decode cX5_countWords 118 = .ok (.ifCond .eq 39, 3) := by decide +kernel
theorem dX5_countWords_121 : decode cX5_countWords 121 = .ok (.iload 9, 2) := by decide +kernel
theorem dX5_countWords_123 : decode cX5_countWords 123 = .ok (.ifCond .ne 34, 3) := by decide +kernel
theorem dX5_countWords_126 : decode cX5_countWords 126 = .ok (.goto 13, 3) := by decide +kernel
theorem dX5_countWords_129 : decode cX5_countWords 129 = .ok (.iload 9, 2) := by decide +kernel
theorem dX5_countWords_131 : decode cX5_countWords 131 = .ok (.ifCond .eq 26, 3) := by decide +kernel
theorem dX5_countWords_134 : decode cX5_countWords 134 = .ok (.iload 10, 2) := by decide +kernel
theorem dX5_countWords_136 : decode cX5_countWords 136 = .ok (.ifCond .ne 21, 3) := by decide +kernel
theorem dX5_countWords_139 : decode cX5_countWords 139 = .ok (.aload_n 0, 1) := by decide +kernel
theorem dX5_countWords_140 : decode cX5_countWords 140 = .ok (.aload_n 0, 1) := by decide +kernel
theorem dX5_countWords_141 : decode cX5_countWords 141 = .ok (.getfield 15, 3) := by decide +kernel
theorem dX5_countWords_144 : decode cX5_countWords 144 = .ok (.iload 11, 2) := by decide +kernel
theorem dX5_countWords_146 : decode cX5_countWords 146 = .ok (.iload 4, 2) := by decide +kernel
theorem dX5_countWords_148 : decode cX5_countWords 148 = .ok (.invokevirtual 72, 3) := by decide +kernel
theorem dX5_countWords_151 : decode cX5_countWords 151 = .ok (.iconst 1, 1) := by decide +kernel
theorem dX5_countWords_152 : decode cX5_countWords 152 = .ok (.istore 6, 2) := by decide +kernel
theorem dX5_countWords_154 : decode cX5_countWords 154 = .ok (.goto 33, 3) := by decide +kernel
theorem dX5_countWords_157 : decode cX5_countWords 157 = .ok (.iload 5, 2) := by decide +kernel
theorem dX5_countWords_159 : decode cX5_countWords 159 = .ok (.ifCond .eq 11, 3) := by decide +kernel
theorem dX5_countWords_162 : decode cX5_countWords 162 = .ok (.iload 10, 2) := by decide +kernel
theorem dX5_countWords_164 : decode cX5_countWords 164 = .ok (.ifCond .ne 23, 3) := by decide +kernel
theorem dX5_countWords_167 : decode cX5_countWords 167 = .ok (.goto 8, 3) := by decide +kernel
theorem dX5_countWords_170 : decode cX5_countWords 170 = .ok (.iload 9, 2) := by decide +kernel
theorem dX5_countWords_172 : decode cX5_countWords 172 = .ok (.ifCond .eq 15, 3) := by decide +kernel
theorem dX5_countWords_175 : decode cX5_countWords 175 = .ok (.aload_n 0, 1) := by decide +kernel
theorem dX5_countWords_176 : decode cX5_countWords 176 = .ok (.aload_n 0, 1) := by decide +kernel
theorem dX5_countWords_177 : decode cX5_countWords 177 = .ok (.getfield 18, 3) := by decide +kernel
theorem dX5_countWords_180 : decode cX5_countWords 180 = .ok (.iload 11, 2) := by decide +kernel
theorem dX5_countWords_182 : decode cX5_countWords 182 = .ok (.iload 4, 2) := by decide +kernel
theorem dX5_countWords_184 : decode cX5_countWords 184 = .ok (.invokevirtual 72, 3) := by decide +kernel
theorem dX5_countWords_187 : decode cX5_countWords 187 = .ok (.iinc 8 1, 3) := by decide +kernel
theorem dX5_countWords_190 : decode cX5_countWords 190 = .ok (.goto (-146), 3) := by decide +kernel
theorem dX5_countWords_193 : decode cX5_countWords 193 = .ok (.iinc 7 1, 3) := by decide +kernel
theorem dX5_countWords_196 : decode cX5_countWords 196 = .ok (.goto (-176), 3) := by decide +kernel
theorem dX5_countWords_199 : decode cX5_countWords 199 = .ok (.iload 6, 2) := by decide +kernel
theorem dX5_countWords_201 : decode cX5_countWords 201 = .ok (.ireturn, 1) := by decide +kernel
theorem dX5_countPlace_0 : decode cX5_countPlace 0 = .ok (.getstatic 76, 3) := by decide +kernel
theorem dX5_countPlace_3 : decode cX5_countPlace 3 = .ok (.iload_n 3, 1) := by decide +kernel
theorem dX5_countPlace_4 : decode cX5_countPlace 4 = .ok (.iaload, 1) := by decide +kernel
theorem dX5_countPlace_5 : decode cX5_countPlace 5 = .ok (.istore 4, 2) := by decide +kernel
theorem dX5_countPlace_7 : decode cX5_countPlace 7 = .ok (.iload 4, 2) := by decide +kernel
theorem dX5_countPlace_9 : decode cX5_countPlace 9 = .ok (.getstatic 76, 3) := by decide +kernel
theorem dX5_countPlace_12 : decode cX5_countPlace 12 = .ok (.iload_n 3, 1) := by decide +kernel
theorem dX5_countPlace_13 : decode cX5_countPlace 13 = .ok (.iconst 1, 1) := by decide +kernel
theorem dX5_countPlace_14 : decode cX5_countPlace 14 = .ok (.iadd, 1) := by decide +kernel
theorem dX5_countPlace_15 : decode cX5_countPlace 15 = .ok (.iaload, 1) := by decide +kernel
theorem dX5_countPlace_16 : decode cX5_countPlace 16 = .ok (.if_icmp .ge 39, 3) := by decide +kernel
theorem dX5_countPlace_19 : decode cX5_countPlace 19 = .ok (.aload_n 0, 1) := by decide +kernel
theorem dX5_countPlace_20 : decode cX5_countPlace 20 = .ok (.getfield 24, 3) := by decide +kernel
theorem dX5_countPlace_23 : decode cX5_countPlace 23 = .ok (.getfield 79, 3) := by decide +kernel
theorem dX5_countPlace_26 : decode cX5_countPlace 26 = .ok (.iload_n 2, 1) := by decide +kernel
theorem dX5_countPlace_27 : decode cX5_countPlace 27 = .ok (.bipush 9, 2) := by decide +kernel
theorem dX5_countPlace_29 : decode cX5_countPlace 29 = .ok (.imul, 1) := by decide +kernel
theorem dX5_countPlace_30 : decode cX5_countPlace 30 = .ok (.iload 4, 2) := by decide +kernel
theorem dX5_countPlace_32 : decode cX5_countPlace 32 = .ok (.iadd, 1) := by decide +kernel
theorem dX5_countPlace_33 : decode cX5_countPlace 33 = .ok (.iaload, 1) := by decide +kernel
theorem dX5_countPlace_34 : decode cX5_countPlace 34 = .ok (.istore 5, 2) := by decide +kernel
theorem dX5_countPlace_36 : decode cX5_countPlace 36 = .ok (.iload 5, 2) := by decide +kernel
theorem dX5_countPlace_38 : decode cX5_countPlace 38 = .ok (.ifCond .lt 11, 3) := by decide +kernel
theorem dX5_countPlace_41 : decode cX5_countPlace 41 = .ok (.aload_n 1, 1) := by decide +kernel
theorem dX5_countPlace_42 : decode cX5_countPlace 42 = .ok (.iload 5, 2) := by decide +kernel
theorem dX5_countPlace_44 : decode cX5_countPlace 44 = .ok (.dup2, 1) := by decide +kernel
theorem dX5_countPlace_45 : decode cX5_countPlace 45 = .ok (.iaload, 1) := by decide +kernel
theorem dX5_countPlace_46 : decode cX5_countPlace 46 = .ok (.iconst 1, 1) := by decide +kernel
theorem dX5_countPlace_47 : decode cX5_countPlace 47 = .ok (.iadd, 1) := by decide +kernel
theorem dX5_countPlace_48 : decode cX5_countPlace 48 = .ok (.iastore, 1) := by decide +kernel
theorem dX5_countPlace_49 : decode cX5_countPlace 49 = .ok (.iinc 4 1, 3) := by decide +kernel
theorem dX5_countPlace_52 : decode cX5_countPlace 52 = .ok (.goto (-45), 3) := by decide +kernel
theorem dX5_countPlace_55 : decode cX5_countPlace 55 = .ok (.return_, 1) := by decide +kernel
theorem dX5_keepPatterns_0 : decode cX5_keepPatterns 0 = .ok (.aload_n 0, 1) := by decide +kernel
theorem dX5_keepPatterns_1 : decode cX5_keepPatterns 1 = .ok (.getfield 24, 3) := by decide +kernel
theorem dX5_keepPatterns_4 : decode cX5_keepPatterns 4 = .ok (.getfield 82, 3) := by decide +kernel
theorem dX5_keepPatterns_7 : decode cX5_keepPatterns 7 = .ok (.iload_n 3, 1) := by decide +kernel
theorem dX5_keepPatterns_8 : decode cX5_keepPatterns 8 = .ok (.iaload, 1) := by decide +kernel
theorem dX5_keepPatterns_9 : decode cX5_keepPatterns 9 = .ok (.istore 4, 2) := by decide +kernel
theorem dX5_keepPatterns_11 : decode cX5_keepPatterns 11 = .ok (.iload 4, 2) := by decide +kernel
theorem dX5_keepPatterns_13 : decode cX5_keepPatterns 13 = .ok (.aload_n 0, 1) := by decide +kernel
theorem dX5_keepPatterns_14 : decode cX5_keepPatterns 14 = .ok (.getfield 24, 3) := by decide +kernel
theorem dX5_keepPatterns_17 : decode cX5_keepPatterns 17 = .ok (.getfield 82, 3) := by decide +kernel
theorem dX5_keepPatterns_20 : decode cX5_keepPatterns 20 = .ok (.iload_n 3, 1) := by decide +kernel
theorem dX5_keepPatterns_21 : decode cX5_keepPatterns 21 = .ok (.iconst 1, 1) := by decide +kernel
theorem dX5_keepPatterns_22 : decode cX5_keepPatterns 22 = .ok (.iadd, 1) := by decide +kernel
theorem dX5_keepPatterns_23 : decode cX5_keepPatterns 23 = .ok (.iaload, 1) := by decide +kernel
theorem dX5_keepPatterns_24 : decode cX5_keepPatterns 24 = .ok (.if_icmp .ge 49, 3) := by decide +kernel
theorem dX5_keepPatterns_27 : decode cX5_keepPatterns 27 = .ok (.aload_n 1, 1) := by decide +kernel
theorem dX5_keepPatterns_28 : decode cX5_keepPatterns 28 = .ok (.getfield 85, 3) := by decide +kernel
theorem dX5_keepPatterns_31 : decode cX5_keepPatterns 31 = .ok (.iload_n 2, 1) := by decide +kernel
theorem dX5_keepPatterns_32 : decode cX5_keepPatterns 32 = .ok (.iaload, 1) := by decide +kernel
theorem dX5_keepPatterns_33 : decode cX5_keepPatterns 33 = .ok (.aload_n 1, 1) := by decide +kernel
theorem dX5_keepPatterns_34 : decode cX5_keepPatterns 34 = .ok (.getfield 88, 3) := by decide +kernel
theorem dX5_keepPatterns_37 : decode cX5_keepPatterns 37 = .ok (.iload_n 2, 1) := by decide +kernel
theorem dX5_keepPatterns_38 : decode cX5_keepPatterns 38 = .ok (.iaload, 1) := by decide +kernel
theorem dX5_keepPatterns_39 : decode cX5_keepPatterns 39 = .ok (.aload_n 0, 1) := by decide +kernel
theorem dX5_keepPatterns_40 : decode cX5_keepPatterns 40 = .ok (.getfield 15, 3) := by decide +kernel
theorem dX5_keepPatterns_43 : decode cX5_keepPatterns 43 = .ok (.iload 4, 2) := by decide +kernel
theorem dX5_keepPatterns_45 : decode cX5_keepPatterns 45 = .ok (.iaload, 1) := by decide +kernel
theorem dX5_keepPatterns_46 : decode cX5_keepPatterns 46 = .ok (.aload_n 0, 1) := by decide +kernel
theorem dX5_keepPatterns_47 : decode cX5_keepPatterns 47 = .ok (.getfield 18, 3) := by decide +kernel
theorem dX5_keepPatterns_50 : decode cX5_keepPatterns 50 = .ok (.iload 4, 2) := by decide +kernel
theorem dX5_keepPatterns_52 : decode cX5_keepPatterns 52 = .ok (.iaload, 1) := by decide +kernel
theorem dX5_keepPatterns_53 : decode cX5_keepPatterns 53 = .ok (.invokestatic 91, 3) := by decide +kernel
theorem dX5_keepPatterns_56 : decode cX5_keepPatterns 56 = .ok (.ifCond .eq 11, 3) := by decide +kernel
theorem dX5_keepPatterns_59 : decode cX5_keepPatterns 59 = .ok (.aload_n 0, 1) := by decide +kernel
theorem dX5_keepPatterns_60 : decode cX5_keepPatterns 60 = .ok (.getfield 9, 3) := by decide +kernel
theorem dX5_keepPatterns_63 : decode cX5_keepPatterns 63 = .ok (.iload 4, 2) := by decide +kernel
theorem dX5_keepPatterns_65 : decode cX5_keepPatterns 65 = .ok (.iload_n 2, 1) := by decide +kernel
theorem dX5_keepPatterns_66 : decode cX5_keepPatterns 66 = .ok (.iastore, 1) := by decide +kernel
theorem dX5_keepPatterns_67 : decode cX5_keepPatterns 67 = .ok (.iinc 4 1, 3) := by decide +kernel
theorem dX5_keepPatterns_70 : decode cX5_keepPatterns 70 = .ok (.goto (-59), 3) := by decide +kernel
theorem dX5_keepPatterns_73 : decode cX5_keepPatterns 73 = .ok (.return_, 1) := by decide +kernel
theorem dX5_isKept_0 : decode cX5_isKept 0 = .ok (.iload_n 2, 1) := by decide +kernel
theorem dX5_isKept_1 : decode cX5_isKept 1 = .ok (.iconst 1, 1) := by decide +kernel
theorem dX5_isKept_2 : decode cX5_isKept 2 = .ok (.if_icmp .ge 5, 3) := by decide +kernel
theorem dX5_isKept_5 : decode cX5_isKept 5 = .ok (.iconst 0, 1) := by decide +kernel
theorem dX5_isKept_6 : decode cX5_isKept 6 = .ok (.ireturn, 1) := by decide +kernel
theorem dX5_isKept_7 : decode cX5_isKept 7 = .ok (.iload_n 0, 1) := by decide +kernel
theorem dX5_isKept_8 : decode cX5_isKept 8 = .ok (.lookupswitch 56 #[(0, 28), (1, 41)], 28) := by decide +kernel
theorem dX5_isKept_36 : decode cX5_isKept 36 = .ok (.iload_n 2, 1) := by decide +kernel
theorem dX5_isKept_37 : decode cX5_isKept 37 = .ok (.iload_n 3, 1) := by decide +kernel
theorem dX5_isKept_38 : decode cX5_isKept 38 = .ok (.isub, 1) := by decide +kernel
theorem dX5_isKept_39 : decode cX5_isKept 39 = .ok (.iload_n 1, 1) := by decide +kernel
theorem dX5_isKept_40 : decode cX5_isKept 40 = .ok (.if_icmp .lt 7, 3) := by decide +kernel
theorem dX5_isKept_43 : decode cX5_isKept 43 = .ok (.iconst 1, 1) := by decide +kernel
theorem dX5_isKept_44 : decode cX5_isKept 44 = .ok (.goto 4, 3) := by decide +kernel
theorem dX5_isKept_47 : decode cX5_isKept 47 = .ok (.iconst 0, 1) := by decide +kernel
theorem dX5_isKept_48 : decode cX5_isKept 48 = .ok (.ireturn, 1) := by decide +kernel
theorem dX5_isKept_49 : decode cX5_isKept 49 = .ok (.iload_n 3, 1) := by decide +kernel
theorem dX5_isKept_50 : decode cX5_isKept 50 = .ok (.ifCond .ne 12, 3) := by decide +kernel
theorem dX5_isKept_53 : decode cX5_isKept 53 = .ok (.iload_n 2, 1) := by decide +kernel
theorem dX5_isKept_54 : decode cX5_isKept 54 = .ok (.iload_n 1, 1) := by decide +kernel
theorem dX5_isKept_55 : decode cX5_isKept 55 = .ok (.if_icmp .lt 7, 3) := by decide +kernel
theorem dX5_isKept_58 : decode cX5_isKept 58 = .ok (.iconst 1, 1) := by decide +kernel
theorem dX5_isKept_59 : decode cX5_isKept 59 = .ok (.goto 4, 3) := by decide +kernel
theorem dX5_isKept_62 : decode cX5_isKept 62 = .ok (.iconst 0, 1) := by decide +kernel
theorem dX5_isKept_63 : decode cX5_isKept 63 = .ok (.ireturn, 1) := by decide +kernel
theorem dX5_isKept_64 : decode cX5_isKept 64 = .ok (.iload_n 2, 1) := by decide +kernel
theorem dX5_isKept_65 : decode cX5_isKept 65 = .ok (.iload_n 1, 1) := by decide +kernel
theorem dX5_isKept_66 : decode cX5_isKept 66 = .ok (.iload_n 3, 1) := by decide +kernel
theorem dX5_isKept_67 : decode cX5_isKept 67 = .ok (.imul, 1) := by decide +kernel
theorem dX5_isKept_68 : decode cX5_isKept 68 = .ok (.iload_n 1, 1) := by decide +kernel
theorem dX5_isKept_69 : decode cX5_isKept 69 = .ok (.iadd, 1) := by decide +kernel
theorem dX5_isKept_70 : decode cX5_isKept 70 = .ok (.if_icmp .lt 7, 3) := by decide +kernel
theorem dX5_isKept_73 : decode cX5_isKept 73 = .ok (.iconst 1, 1) := by decide +kernel
theorem dX5_isKept_74 : decode cX5_isKept 74 = .ok (.goto 4, 3) := by decide +kernel
theorem dX5_isKept_77 : decode cX5_isKept 77 = .ok (.iconst 0, 1) := by decide +kernel
theorem dX5_isKept_78 : decode cX5_isKept 78 = .ok (.ireturn, 1) := by decide +kernel
theorem dX5_raiseDigits_0 : decode cX5_raiseDigits 0 = .ok (.iconst 0, 1) := by decide +kernel
theorem dX5_raiseDigits_1 : decode cX5_raiseDigits 1 = .ok (.istore 4, 2) := by decide +kernel
theorem dX5_raiseDigits_3 : decode cX5_raiseDigits 3 = .ok (.iload 4, 2) := by decide +kernel
theorem dX5_raiseDigits_5 : decode cX5_raiseDigits 5 = .ok (.aload_n 1, 1) := by decide +kernel
theorem dX5_raiseDigits_6 : decode cX5_raiseDigits 6 = .ok (.getfield 59, 3) := by decide +kernel
theorem dX5_raiseDigits_9 : decode cX5_raiseDigits 9 = .ok (.if_icmp .ge 108, 3) := by decide +kernel
theorem dX5_raiseDigits_12 : decode cX5_raiseDigits 12 = .ok (.iconst 0, 1) := by decide +kernel
theorem dX5_raiseDigits_13 : decode cX5_raiseDigits 13 = .ok (.istore 5, 2) := by decide +kernel
theorem dX5_raiseDigits_15 : decode cX5_raiseDigits 15 = .ok (.iload 5, 2) := by decide +kernel
theorem dX5_raiseDigits_17 : decode cX5_raiseDigits 17 = .ok (.aload_n 1, 1) := by decide +kernel
theorem dX5_raiseDigits_18 : decode cX5_raiseDigits 18 = .ok (.getfield 62, 3) := by decide +kernel
theorem dX5_raiseDigits_21 : decode cX5_raiseDigits 21 = .ok (.iload 4, 2) := by decide +kernel
theorem dX5_raiseDigits_23 : decode cX5_raiseDigits 23 = .ok (.iaload, 1) := by decide +kernel
theorem dX5_raiseDigits_24 : decode cX5_raiseDigits 24 = .ok (.iconst 1, 1) := by decide +kernel
theorem dX5_raiseDigits_25 : decode cX5_raiseDigits 25 = .ok (.isub, 1) := by decide +kernel
theorem dX5_raiseDigits_26 : decode cX5_raiseDigits 26 = .ok (.if_icmp .ge 85, 3) := by decide +kernel
theorem dX5_raiseDigits_29 : decode cX5_raiseDigits 29 = .ok (.iload 4, 2) := by decide +kernel
theorem dX5_raiseDigits_31 : decode cX5_raiseDigits 31 = .ok (.iconst 5, 1) := by decide +kernel
theorem dX5_raiseDigits_32 : decode cX5_raiseDigits 32 = .ok (.imul, 1) := by decide +kernel
theorem dX5_raiseDigits_33 : decode cX5_raiseDigits 33 = .ok (.iload 5, 2) := by decide +kernel
theorem dX5_raiseDigits_35 : decode cX5_raiseDigits 35 = .ok (.iadd, 1) := by decide +kernel
theorem dX5_raiseDigits_36 : decode cX5_raiseDigits 36 = .ok (.istore 6, 2) := by decide +kernel
theorem dX5_raiseDigits_38 : decode cX5_raiseDigits 38 = .ok (.getstatic 76, 3) := by decide +kernel
theorem dX5_raiseDigits_41 : decode cX5_raiseDigits 41 = .ok (.iload_n 3, 1) := by decide +kernel
theorem dX5_raiseDigits_42 : decode cX5_raiseDigits 42 = .ok (.iaload, 1) := by decide +kernel
theorem dX5_raiseDigits_43 : decode cX5_raiseDigits 43 = .ok (.istore 7, 2) := by decide +kernel
theorem dX5_raiseDigits_45 : decode cX5_raiseDigits 45 = .ok (.iload 7, 2) := by decide +kernel
theorem dX5_raiseDigits_47 : decode cX5_raiseDigits 47 = .ok (.getstatic 76, 3) := by decide +kernel
theorem dX5_raiseDigits_50 : decode cX5_raiseDigits 50 = .ok (.iload_n 3, 1) := by decide +kernel
theorem dX5_raiseDigits_51 : decode cX5_raiseDigits 51 = .ok (.iconst 1, 1) := by decide +kernel
theorem dX5_raiseDigits_52 : decode cX5_raiseDigits 52 = .ok (.iadd, 1) := by decide +kernel
theorem dX5_raiseDigits_53 : decode cX5_raiseDigits 53 = .ok (.iaload, 1) := by decide +kernel
theorem dX5_raiseDigits_54 : decode cX5_raiseDigits 54 = .ok (.if_icmp .ge 51, 3) := by decide +kernel
theorem dX5_raiseDigits_57 : decode cX5_raiseDigits 57 = .ok (.aload_n 0, 1) := by decide +kernel
theorem dX5_raiseDigits_58 : decode cX5_raiseDigits 58 = .ok (.getfield 24, 3) := by decide +kernel
theorem dX5_raiseDigits_61 : decode cX5_raiseDigits 61 = .ok (.getfield 79, 3) := by decide +kernel
theorem dX5_raiseDigits_64 : decode cX5_raiseDigits 64 = .ok (.iload 6, 2) := by decide +kernel
theorem dX5_raiseDigits_66 : decode cX5_raiseDigits 66 = .ok (.bipush 9, 2) := by decide +kernel
theorem dX5_raiseDigits_68 : decode cX5_raiseDigits 68 = .ok (.imul, 1) := by decide +kernel
theorem dX5_raiseDigits_69 : decode cX5_raiseDigits 69 = .ok (.iload 7, 2) := by decide +kernel
theorem dX5_raiseDigits_71 : decode cX5_raiseDigits 71 = .ok (.iadd, 1) := by decide +kernel
theorem dX5_raiseDigits_72 : decode cX5_raiseDigits 72 = .ok (.iaload, 1) := by decide +kernel
theorem dX5_raiseDigits_73 : decode cX5_raiseDigits 73 = .ok (.istore 8, 2) := by decide +kernel
theorem dX5_raiseDigits_75 : decode cX5_raiseDigits 75 = .ok (.iload 8, 2) := by decide +kernel
theorem dX5_raiseDigits_77 : decode cX5_raiseDigits 77 = .ok (.ifCond .lt 22, 3) := by decide +kernel
theorem dX5_raiseDigits_80 : decode cX5_raiseDigits 80 = .ok (.aload_n 0, 1) := by decide +kernel
theorem dX5_raiseDigits_81 : decode cX5_raiseDigits 81 = .ok (.getfield 9, 3) := by decide +kernel
theorem dX5_raiseDigits_84 : decode cX5_raiseDigits 84 = .ok (.iload 8, 2) := by decide +kernel
theorem dX5_raiseDigits_86 : decode cX5_raiseDigits 86 = .ok (.iaload, 1) := by decide +kernel
theorem dX5_raiseDigits_87 : decode cX5_raiseDigits 87 = .ok (.iload_n 2, 1) := by decide +kernel
theorem dX5_raiseDigits_88 : decode cX5_raiseDigits 88 = .ok (.if_icmp .ne 11, 3) := by decide +kernel
theorem dX5_raiseDigits_91 : decode cX5_raiseDigits 91 = .ok (.aload_n 0, 1) := by decide +kernel
theorem dX5_raiseDigits_92 : decode cX5_raiseDigits 92 = .ok (.getfield 21, 3) := by decide +kernel
theorem dX5_raiseDigits_95 : decode cX5_raiseDigits 95 = .ok (.iload 6, 2) := by decide +kernel
theorem dX5_raiseDigits_97 : decode cX5_raiseDigits 97 = .ok (.iload_n 2, 1) := by decide +kernel
theorem dX5_raiseDigits_98 : decode cX5_raiseDigits 98 = .ok (.iastore, 1) := by decide +kernel
theorem dX5_raiseDigits_99 : decode cX5_raiseDigits 99 = .ok (.iinc 7 1, 3) := by decide +kernel
theorem dX5_raiseDigits_102 : decode cX5_raiseDigits 102 = .ok (.goto (-57), 3) := by decide +kernel
theorem dX5_raiseDigits_105 : decode cX5_raiseDigits 105 = .ok (.iinc 5 1, 3) := by decide +kernel
theorem dX5_raiseDigits_108 : decode cX5_raiseDigits 108 = .ok (.goto (-93), 3) := by decide +kernel
theorem dX5_raiseDigits_111 : decode cX5_raiseDigits 111 = .ok (.iinc 4 1, 3) := by decide +kernel
theorem dX5_raiseDigits_114 : decode cX5_raiseDigits 114 = .ok (.goto (-111), 3) := by decide +kernel
theorem dX5_raiseDigits_117 : decode cX5_raiseDigits 117 = .ok (.return_, 1) := by decide +kernel
theorem dX5_digitOf_0 : decode cX5_digitOf 0 = .ok (.aload_n 0, 1) := by decide +kernel
theorem dX5_digitOf_1 : decode cX5_digitOf 1 = .ok (.getfield 21, 3) := by decide +kernel
theorem dX5_digitOf_4 : decode cX5_digitOf 4 = .ok (.iload_n 1, 1) := by decide +kernel
theorem dX5_digitOf_5 : decode cX5_digitOf 5 = .ok (.iconst 5, 1) := by decide +kernel
theorem dX5_digitOf_6 : decode cX5_digitOf 6 = .ok (.imul, 1) := by decide +kernel
theorem dX5_digitOf_7 : decode cX5_digitOf 7 = .ok (.iload_n 2, 1) := by decide +kernel
theorem dX5_digitOf_8 : decode cX5_digitOf 8 = .ok (.iadd, 1) := by decide +kernel
theorem dX5_digitOf_9 : decode cX5_digitOf 9 = .ok (.iaload, 1) := by decide +kernel
theorem dX5_digitOf_10 : decode cX5_digitOf 10 = .ok (.ireturn, 1) := by decide +kernel
theorem dX5_brokenPlaces_0 : decode cX5_brokenPlaces 0 = .ok (.iconst 0, 1) := by decide +kernel
theorem dX5_brokenPlaces_1 : decode cX5_brokenPlaces 1 = .ok (.istore_n 3, 1) := by decide +kernel
theorem dX5_brokenPlaces_2 : decode cX5_brokenPlaces 2 = .ok (.iconst 0, 1) := by decide +kernel
theorem dX5_brokenPlaces_3 : decode cX5_brokenPlaces 3 = .ok (.istore 4, 2) := by decide +kernel
theorem dX5_brokenPlaces_5 : decode cX5_brokenPlaces 5 = .ok (.iload 4, 2) := by decide +kernel
theorem dX5_brokenPlaces_7 : decode cX5_brokenPlaces 7 = .ok (.aload_n 1, 1) := by decide +kernel
theorem dX5_brokenPlaces_8 : decode cX5_brokenPlaces 8 = .ok (.getfield 62, 3) := by decide +kernel
theorem dX5_brokenPlaces_11 : decode cX5_brokenPlaces 11 = .ok (.iload_n 2, 1) := by decide +kernel
theorem dX5_brokenPlaces_12 : decode cX5_brokenPlaces 12 = .ok (.iaload, 1) := by decide +kernel
theorem dX5_brokenPlaces_13 : decode cX5_brokenPlaces 13 = .ok (.iconst 1, 1) := by decide +kernel
theorem dX5_brokenPlaces_14 : decode cX5_brokenPlaces 14 = .ok (.isub, 1) := by decide +kernel
theorem dX5_brokenPlaces_15 : decode cX5_brokenPlaces 15 = .ok (.if_icmp .ge 24, 3) := by decide +kernel
theorem dX5_brokenPlaces_18 : decode cX5_brokenPlaces 18 = .ok (.iload_n 3, 1) := by decide +kernel
theorem dX5_brokenPlaces_19 : decode cX5_brokenPlaces 19 = .ok (.aload_n 0, 1) := by decide +kernel
theorem dX5_brokenPlaces_20 : decode cX5_brokenPlaces 20 = .ok (.iload_n 2, 1) := by decide +kernel
theorem dX5_brokenPlaces_21 : decode cX5_brokenPlaces 21 = .ok (.iload 4, 2) := by decide +kernel
theorem dX5_brokenPlaces_23 : decode cX5_brokenPlaces 23 = .ok (.invokevirtual 65, 3) := by decide +kernel
theorem dX5_brokenPlaces_26 : decode cX5_brokenPlaces 26 = .ok (.iconst 1, 1) := by decide +kernel
theorem dX5_brokenPlaces_27 : decode cX5_brokenPlaces 27 = .ok (.iand, 1) := by decide +kernel
theorem dX5_brokenPlaces_28 : decode cX5_brokenPlaces 28 = .ok (.iload 4, 2) := by decide +kernel
theorem dX5_brokenPlaces_30 : decode cX5_brokenPlaces 30 = .ok (.ishl, 1) := by decide +kernel
theorem dX5_brokenPlaces_31 : decode cX5_brokenPlaces 31 = .ok (.ior, 1) := by decide +kernel
theorem dX5_brokenPlaces_32 : decode cX5_brokenPlaces 32 = .ok (.istore_n 3, 1) := by decide +kernel
theorem dX5_brokenPlaces_33 : decode cX5_brokenPlaces 33 = .ok (.iinc 4 1, 3) := by decide +kernel
theorem dX5_brokenPlaces_36 : decode cX5_brokenPlaces 36 = .ok (.goto (-31), 3) := by decide +kernel
theorem dX5_brokenPlaces_39 : decode cX5_brokenPlaces 39 = .ok (.iload_n 3, 1) := by decide +kernel
theorem dX5_brokenPlaces_40 : decode cX5_brokenPlaces 40 = .ok (.ireturn, 1) := by decide +kernel
theorem dX5_wrongPlaces_0 : decode cX5_wrongPlaces 0 = .ok (.aload_n 0, 1) := by decide +kernel
theorem dX5_wrongPlaces_1 : decode cX5_wrongPlaces 1 = .ok (.aload_n 1, 1) := by decide +kernel
theorem dX5_wrongPlaces_2 : decode cX5_wrongPlaces 2 = .ok (.iload_n 2, 1) := by decide +kernel
theorem dX5_wrongPlaces_3 : decode cX5_wrongPlaces 3 = .ok (.invokevirtual 95, 3) := by decide +kernel
theorem dX5_wrongPlaces_6 : decode cX5_wrongPlaces 6 = .ok (.aload_n 1, 1) := by decide +kernel
theorem dX5_wrongPlaces_7 : decode cX5_wrongPlaces 7 = .ok (.getfield 69, 3) := by decide +kernel
theorem dX5_wrongPlaces_10 : decode cX5_wrongPlaces 10 = .ok (.iload_n 2, 1) := by decide +kernel
theorem dX5_wrongPlaces_11 : decode cX5_wrongPlaces 11 = .ok (.iaload, 1) := by decide +kernel
theorem dX5_wrongPlaces_12 : decode cX5_wrongPlaces 12 = .ok (.ixor, 1) := by decide +kernel
theorem dX5_wrongPlaces_13 : decode cX5_wrongPlaces 13 = .ok (.ireturn, 1) := by decide +kernel
theorem dX5_rightPlaces_0 : decode cX5_rightPlaces 0 = .ok (.iconst 0, 1) := by decide +kernel
theorem dX5_rightPlaces_1 : decode cX5_rightPlaces 1 = .ok (.istore_n 2, 1) := by decide +kernel
theorem dX5_rightPlaces_2 : decode cX5_rightPlaces 2 = .ok (.iconst 0, 1) := by decide +kernel
theorem dX5_rightPlaces_3 : decode cX5_rightPlaces 3 = .ok (.istore_n 3, 1) := by decide +kernel
theorem dX5_rightPlaces_4 : decode cX5_rightPlaces 4 = .ok (.iload_n 3, 1) := by decide +kernel
theorem dX5_rightPlaces_5 : decode cX5_rightPlaces 5 = .ok (.aload_n 1, 1) := by decide +kernel
theorem dX5_rightPlaces_6 : decode cX5_rightPlaces 6 = .ok (.getfield 59, 3) := by decide +kernel
theorem dX5_rightPlaces_9 : decode cX5_rightPlaces 9 = .ok (.if_icmp .ge 30, 3) := by decide +kernel
theorem dX5_rightPlaces_12 : decode cX5_rightPlaces 12 = .ok (.iload_n 2, 1) := by decide +kernel
theorem dX5_rightPlaces_13 : decode cX5_rightPlaces 13 = .ok (.aload_n 1, 1) := by decide +kernel
theorem dX5_rightPlaces_14 : decode cX5_rightPlaces 14 = .ok (.getfield 62, 3) := by decide +kernel
theorem dX5_rightPlaces_17 : decode cX5_rightPlaces 17 = .ok (.iload_n 3, 1) := by decide +kernel
theorem dX5_rightPlaces_18 : decode cX5_rightPlaces 18 = .ok (.iaload, 1) := by decide +kernel
theorem dX5_rightPlaces_19 : decode cX5_rightPlaces 19 = .ok (.iconst 1, 1) := by decide +kernel
theorem dX5_rightPlaces_20 : decode cX5_rightPlaces 20 = .ok (.isub, 1) := by decide +kernel
theorem dX5_rightPlaces_21 : decode cX5_rightPlaces 21 = .ok (.aload_n 0, 1) := by decide +kernel
theorem dX5_rightPlaces_22 : decode cX5_rightPlaces 22 = .ok (.aload_n 1, 1) := by decide +kernel
theorem dX5_rightPlaces_23 : decode cX5_rightPlaces 23 = .ok (.iload_n 3, 1) := by decide +kernel
theorem dX5_rightPlaces_24 : decode cX5_rightPlaces 24 = .ok (.invokevirtual 99, 3) := by decide +kernel
theorem dX5_rightPlaces_27 : decode cX5_rightPlaces 27 = .ok (.invokestatic 102, 3) := by decide +kernel
theorem dX5_rightPlaces_30 : decode cX5_rightPlaces 30 = .ok (.isub, 1) := by decide +kernel
theorem dX5_rightPlaces_31 : decode cX5_rightPlaces 31 = .ok (.iadd, 1) := by decide +kernel
theorem dX5_rightPlaces_32 : decode cX5_rightPlaces 32 = .ok (.istore_n 2, 1) := by decide +kernel
theorem dX5_rightPlaces_33 : decode cX5_rightPlaces 33 = .ok (.iinc 3 1, 3) := by decide +kernel
theorem dX5_rightPlaces_36 : decode cX5_rightPlaces 36 = .ok (.goto (-32), 3) := by decide +kernel
theorem dX5_rightPlaces_39 : decode cX5_rightPlaces 39 = .ok (.iload_n 2, 1) := by decide +kernel
theorem dX5_rightPlaces_40 : decode cX5_rightPlaces 40 = .ok (.ireturn, 1) := by decide +kernel
theorem dX5_wrongWords_0 : decode cX5_wrongWords 0 = .ok (.iconst 0, 1) := by decide +kernel
theorem dX5_wrongWords_1 : decode cX5_wrongWords 1 = .ok (.istore_n 2, 1) := by decide +kernel
theorem dX5_wrongWords_2 : decode cX5_wrongWords 2 = .ok (.iconst 0, 1) := by decide +kernel
theorem dX5_wrongWords_3 : decode cX5_wrongWords 3 = .ok (.istore_n 3, 1) := by decide +kernel
theorem dX5_wrongWords_4 : decode cX5_wrongWords 4 = .ok (.iload_n 3, 1) := by decide +kernel
theorem dX5_wrongWords_5 : decode cX5_wrongWords 5 = .ok (.aload_n 1, 1) := by decide +kernel
theorem dX5_wrongWords_6 : decode cX5_wrongWords 6 = .ok (.getfield 59, 3) := by decide +kernel
theorem dX5_wrongWords_9 : decode cX5_wrongWords 9 = .ok (.if_icmp .ge 24, 3) := by decide +kernel
theorem dX5_wrongWords_12 : decode cX5_wrongWords 12 = .ok (.aload_n 0, 1) := by decide +kernel
theorem dX5_wrongWords_13 : decode cX5_wrongWords 13 = .ok (.aload_n 1, 1) := by decide +kernel
theorem dX5_wrongWords_14 : decode cX5_wrongWords 14 = .ok (.iload_n 3, 1) := by decide +kernel
theorem dX5_wrongWords_15 : decode cX5_wrongWords 15 = .ok (.invokevirtual 99, 3) := by decide +kernel
theorem dX5_wrongWords_18 : decode cX5_wrongWords 18 = .ok (.ifCond .eq 9, 3) := by decide +kernel
theorem dX5_wrongWords_21 : decode cX5_wrongWords 21 = .ok (.iload_n 2, 1) := by decide +kernel
theorem dX5_wrongWords_22 : decode cX5_wrongWords 22 = .ok (.iconst 1, 1) := by decide +kernel
theorem dX5_wrongWords_23 : decode cX5_wrongWords 23 = .ok (.iload_n 3, 1) := by decide +kernel
theorem dX5_wrongWords_24 : decode cX5_wrongWords 24 = .ok (.ishl, 1) := by decide +kernel
theorem dX5_wrongWords_25 : decode cX5_wrongWords 25 = .ok (.ior, 1) := by decide +kernel
theorem dX5_wrongWords_26 : decode cX5_wrongWords 26 = .ok (.istore_n 2, 1) := by decide +kernel
theorem dX5_wrongWords_27 : decode cX5_wrongWords 27 = .ok (.iinc 3 1, 3) := by decide +kernel
theorem dX5_wrongWords_30 : decode cX5_wrongWords 30 = .ok (.goto (-26), 3) := by decide +kernel
theorem dX5_wrongWords_33 : decode cX5_wrongWords 33 = .ok (.iload_n 2, 1) := by decide +kernel
theorem dX5_wrongWords_34 : decode cX5_wrongWords 34 = .ok (.ireturn, 1) := by decide +kernel
theorem dX5_rightWithout_0 : decode cX5_rightWithout 0 = .ok (.iconst 0, 1) := by decide +kernel
theorem dX5_rightWithout_1 : decode cX5_rightWithout 1 = .ok (.istore_n 3, 1) := by decide +kernel
theorem dX5_rightWithout_2 : decode cX5_rightWithout 2 = .ok (.iconst 0, 1) := by decide +kernel
theorem dX5_rightWithout_3 : decode cX5_rightWithout 3 = .ok (.istore 4, 2) := by decide +kernel
theorem dX5_rightWithout_5 : decode cX5_rightWithout 5 = .ok (.iload 4, 2) := by decide +kernel
theorem dX5_rightWithout_7 : decode cX5_rightWithout 7 = .ok (.aload_n 1, 1) := by decide +kernel
theorem dX5_rightWithout_8 : decode cX5_rightWithout 8 = .ok (.getfield 59, 3) := by decide +kernel
theorem dX5_rightWithout_11 : decode cX5_rightWithout 11 = .ok (.if_icmp .ge 68, 3) := by decide +kernel
theorem dX5_rightWithout_14 : decode cX5_rightWithout 14 = .ok (.iconst 0, 1) := by decide +kernel
theorem dX5_rightWithout_15 : decode cX5_rightWithout 15 = .ok (.istore 5, 2) := by decide +kernel
theorem dX5_rightWithout_17 : decode cX5_rightWithout 17 = .ok (.iload 5, 2) := by decide +kernel
theorem dX5_rightWithout_19 : decode cX5_rightWithout 19 = .ok (.aload_n 1, 1) := by decide +kernel
theorem dX5_rightWithout_20 : decode cX5_rightWithout 20 = .ok (.getfield 62, 3) := by decide +kernel
theorem dX5_rightWithout_23 : decode cX5_rightWithout 23 = .ok (.iload 4, 2) := by decide +kernel
theorem dX5_rightWithout_25 : decode cX5_rightWithout 25 = .ok (.iaload, 1) := by decide +kernel
theorem dX5_rightWithout_26 : decode cX5_rightWithout 26 = .ok (.iconst 1, 1) := by decide +kernel
theorem dX5_rightWithout_27 : decode cX5_rightWithout 27 = .ok (.isub, 1) := by decide +kernel
theorem dX5_rightWithout_28 : decode cX5_rightWithout 28 = .ok (.if_icmp .ge 45, 3) := by decide +kernel
theorem dX5_rightWithout_31 : decode cX5_rightWithout 31 = .ok (.aload_n 0, 1) := by decide +kernel
theorem dX5_rightWithout_32 : decode cX5_rightWithout 32 = .ok (.iload 4, 2) := by decide +kernel
theorem dX5_rightWithout_34 : decode cX5_rightWithout 34 = .ok (.iconst 5, 1) := by decide +kernel
theorem dX5_rightWithout_35 : decode cX5_rightWithout 35 = .ok (.imul, 1) := by decide +kernel
theorem dX5_rightWithout_36 : decode cX5_rightWithout 36 = .ok (.iload 5, 2) := by decide +kernel
theorem dX5_rightWithout_38 : decode cX5_rightWithout 38 = .ok (.iadd, 1) := by decide +kernel
theorem dX5_rightWithout_39 : decode cX5_rightWithout 39 = .ok (.iload_n 2, 1) := by decide +kernel
theorem dX5_rightWithout_40 : decode cX5_rightWithout 40 = .ok (.invokevirtual 108, 3) := by decide +kernel
theorem dX5_rightWithout_43 : decode cX5_rightWithout 43 = .ok (.iconst 1, 1) := by decide +kernel
theorem dX5_rightWithout_44 : decode cX5_rightWithout 44 = .ok (.iand, 1) := by decide +kernel
theorem dX5_rightWithout_45 : decode cX5_rightWithout 45 = .ok (.istore 6, 2) := by decide +kernel
theorem dX5_rightWithout_47 : decode cX5_rightWithout 47 = .ok (.iload 6, 2) := by decide +kernel
theorem dX5_rightWithout_49 : decode cX5_rightWithout 49 = .ok (.aload_n 1, 1) := by decide +kernel
theorem dX5_rightWithout_50 : decode cX5_rightWithout 50 = .ok (.getfield 69, 3) := by decide +kernel
theorem dX5_rightWithout_53 : decode cX5_rightWithout 53 = .ok (.iload 4, 2) := by decide +kernel
theorem dX5_rightWithout_55 : decode cX5_rightWithout 55 = .ok (.iaload, 1) := by decide +kernel
theorem dX5_rightWithout_56 : decode cX5_rightWithout 56 = .ok (.iload 5, 2) := by decide +kernel
theorem dX5_rightWithout_58 : decode cX5_rightWithout 58 = .ok (.ishr, 1) := by decide +kernel
theorem dX5_rightWithout_59 : decode cX5_rightWithout 59 = .ok (.iconst 1, 1) := by decide +kernel
theorem dX5_rightWithout_60 : decode cX5_rightWithout 60 = .ok (.iand, 1) := by decide +kernel
theorem dX5_rightWithout_61 : decode cX5_rightWithout 61 = .ok (.if_icmp .ne 6, 3) := by decide +kernel
theorem dX5_rightWithout_64 : decode cX5_rightWithout 64 = .ok (.iinc 3 1, 3) := by decide +kernel
theorem dX5_rightWithout_67 : decode cX5_rightWithout 67 = .ok (.iinc 5 1, 3) := by decide +kernel
theorem dX5_rightWithout_70 : decode cX5_rightWithout 70 = .ok (.goto (-53), 3) := by decide +kernel
theorem dX5_rightWithout_73 : decode cX5_rightWithout 73 = .ok (.iinc 4 1, 3) := by decide +kernel
theorem dX5_rightWithout_76 : decode cX5_rightWithout 76 = .ok (.goto (-71), 3) := by decide +kernel
theorem dX5_rightWithout_79 : decode cX5_rightWithout 79 = .ok (.iload_n 3, 1) := by decide +kernel
theorem dX5_rightWithout_80 : decode cX5_rightWithout 80 = .ok (.ireturn, 1) := by decide +kernel
theorem dX5_digitWithout_0 : decode cX5_digitWithout 0 = .ok (.iconst 0, 1) := by decide +kernel
theorem dX5_digitWithout_1 : decode cX5_digitWithout 1 = .ok (.istore_n 3, 1) := by decide +kernel
theorem dX5_digitWithout_2 : decode cX5_digitWithout 2 = .ok (.iconst 0, 1) := by decide +kernel
theorem dX5_digitWithout_3 : decode cX5_digitWithout 3 = .ok (.istore 4, 2) := by decide +kernel
theorem dX5_digitWithout_5 : decode cX5_digitWithout 5 = .ok (.iload 4, 2) := by decide +kernel
theorem dX5_digitWithout_7 : decode cX5_digitWithout 7 = .ok (.bipush 9, 2) := by decide +kernel
theorem dX5_digitWithout_9 : decode cX5_digitWithout 9 = .ok (.if_icmp .ge 59, 3) := by decide +kernel
theorem dX5_digitWithout_12 : decode cX5_digitWithout 12 = .ok (.aload_n 0, 1) := by decide +kernel
theorem dX5_digitWithout_13 : decode cX5_digitWithout 13 = .ok (.getfield 24, 3) := by decide +kernel
theorem dX5_digitWithout_16 : decode cX5_digitWithout 16 = .ok (.getfield 79, 3) := by decide +kernel
theorem dX5_digitWithout_19 : decode cX5_digitWithout 19 = .ok (.iload_n 1, 1) := by decide +kernel
theorem dX5_digitWithout_20 : decode cX5_digitWithout 20 = .ok (.bipush 9, 2) := by decide +kernel
theorem dX5_digitWithout_22 : decode cX5_digitWithout 22 = .ok (.imul, 1) := by decide +kernel
theorem dX5_digitWithout_23 : decode cX5_digitWithout 23 = .ok (.iload 4, 2) := by decide +kernel
theorem dX5_digitWithout_25 : decode cX5_digitWithout 25 = .ok (.iadd, 1) := by decide +kernel
theorem dX5_digitWithout_26 : decode cX5_digitWithout 26 = .ok (.iaload, 1) := by decide +kernel
theorem dX5_digitWithout_27 : decode cX5_digitWithout 27 = .ok (.istore 5, 2) := by decide +kernel
theorem dX5_digitWithout_29 : decode cX5_digitWithout 29 = .ok (.iload 5, 2) := by decide +kernel
theorem dX5_digitWithout_31 : decode cX5_digitWithout 31 = .ok (.ifCond .lt 31, 3) := by decide +kernel
theorem dX5_digitWithout_34 : decode cX5_digitWithout 34 = .ok (.aload_n 0, 1) := by decide +kernel
theorem dX5_digitWithout_35 : decode cX5_digitWithout 35 = .ok (.getfield 24, 3) := by decide +kernel
theorem dX5_digitWithout_38 : decode cX5_digitWithout 38 = .ok (.getfield 111, 3) := by decide +kernel
theorem dX5_digitWithout_41 : decode cX5_digitWithout 41 = .ok (.iload 5, 2) := by decide +kernel
theorem dX5_digitWithout_43 : decode cX5_digitWithout 43 = .ok (.iaload, 1) := by decide +kernel
theorem dX5_digitWithout_44 : decode cX5_digitWithout 44 = .ok (.iconst 4, 1) := by decide +kernel
theorem dX5_digitWithout_45 : decode cX5_digitWithout 45 = .ok (.idiv, 1) := by decide +kernel
theorem dX5_digitWithout_46 : decode cX5_digitWithout 46 = .ok (.iload_n 2, 1) := by decide +kernel
theorem dX5_digitWithout_47 : decode cX5_digitWithout 47 = .ok (.if_icmp .eq 15, 3) := by decide +kernel
theorem dX5_digitWithout_50 : decode cX5_digitWithout 50 = .ok (.iload_n 3, 1) := by decide +kernel
theorem dX5_digitWithout_51 : decode cX5_digitWithout 51 = .ok (.aload_n 0, 1) := by decide +kernel
theorem dX5_digitWithout_52 : decode cX5_digitWithout 52 = .ok (.getfield 9, 3) := by decide +kernel
theorem dX5_digitWithout_55 : decode cX5_digitWithout 55 = .ok (.iload 5, 2) := by decide +kernel
theorem dX5_digitWithout_57 : decode cX5_digitWithout 57 = .ok (.iaload, 1) := by decide +kernel
theorem dX5_digitWithout_58 : decode cX5_digitWithout 58 = .ok (.invokestatic 114, 3) := by decide +kernel
theorem dX5_digitWithout_61 : decode cX5_digitWithout 61 = .ok (.istore_n 3, 1) := by decide +kernel
theorem dX5_digitWithout_62 : decode cX5_digitWithout 62 = .ok (.iinc 4 1, 3) := by decide +kernel
theorem dX5_digitWithout_65 : decode cX5_digitWithout 65 = .ok (.goto (-60), 3) := by decide +kernel
theorem dX5_digitWithout_68 : decode cX5_digitWithout 68 = .ok (.iload_n 3, 1) := by decide +kernel
theorem dX5_digitWithout_69 : decode cX5_digitWithout 69 = .ok (.ireturn, 1) := by decide +kernel
theorem dX5_digitOfSpelt_0 : decode cX5_digitOfSpelt 0 = .ok (.iconst 0, 1) := by decide +kernel
theorem dX5_digitOfSpelt_1 : decode cX5_digitOfSpelt 1 = .ok (.istore_n 2, 1) := by decide +kernel
theorem dX5_digitOfSpelt_2 : decode cX5_digitOfSpelt 2 = .ok (.iconst 0, 1) := by decide +kernel
theorem dX5_digitOfSpelt_3 : decode cX5_digitOfSpelt 3 = .ok (.istore_n 3, 1) := by decide +kernel
theorem dX5_digitOfSpelt_4 : decode cX5_digitOfSpelt 4 = .ok (.iload_n 3, 1) := by decide +kernel
theorem dX5_digitOfSpelt_5 : decode cX5_digitOfSpelt 5 = .ok (.bipush 9, 2) := by decide +kernel
theorem dX5_digitOfSpelt_7 : decode cX5_digitOfSpelt 7 = .ok (.if_icmp .ge 36, 3) := by decide +kernel
theorem dX5_digitOfSpelt_10 : decode cX5_digitOfSpelt 10 = .ok (.aload_n 0, 1) := by decide +kernel
theorem dX5_digitOfSpelt_11 : decode cX5_digitOfSpelt 11 = .ok (.getfield 24, 3) := by decide +kernel
theorem dX5_digitOfSpelt_14 : decode cX5_digitOfSpelt 14 = .ok (.iload_n 1, 1) := by decide +kernel
theorem dX5_digitOfSpelt_15 : decode cX5_digitOfSpelt 15 = .ok (.iload_n 3, 1) := by decide +kernel
theorem dX5_digitOfSpelt_16 : decode cX5_digitOfSpelt 16 = .ok (.invokevirtual 119, 3) := by decide +kernel
theorem dX5_digitOfSpelt_19 : decode cX5_digitOfSpelt 19 = .ok (.istore 4, 2) := by decide +kernel
theorem dX5_digitOfSpelt_21 : decode cX5_digitOfSpelt 21 = .ok (.iload 4, 2) := by decide +kernel
theorem dX5_digitOfSpelt_23 : decode cX5_digitOfSpelt 23 = .ok (.ifCond .lt 14, 3) := by decide +kernel
theorem dX5_digitOfSpelt_26 : decode cX5_digitOfSpelt 26 = .ok (.iload_n 2, 1) := by decide +kernel
theorem dX5_digitOfSpelt_27 : decode cX5_digitOfSpelt 27 = .ok (.aload_n 0, 1) := by decide +kernel
theorem dX5_digitOfSpelt_28 : decode cX5_digitOfSpelt 28 = .ok (.iload 4, 2) := by decide +kernel
theorem dX5_digitOfSpelt_30 : decode cX5_digitOfSpelt 30 = .ok (.invokevirtual 122, 3) := by decide +kernel
theorem dX5_digitOfSpelt_33 : decode cX5_digitOfSpelt 33 = .ok (.invokestatic 114, 3) := by decide +kernel
theorem dX5_digitOfSpelt_36 : decode cX5_digitOfSpelt 36 = .ok (.istore_n 2, 1) := by decide +kernel
theorem dX5_digitOfSpelt_37 : decode cX5_digitOfSpelt 37 = .ok (.iinc 3 1, 3) := by decide +kernel
theorem dX5_digitOfSpelt_40 : decode cX5_digitOfSpelt 40 = .ok (.goto (-36), 3) := by decide +kernel
theorem dX5_digitOfSpelt_43 : decode cX5_digitOfSpelt 43 = .ok (.iload_n 2, 1) := by decide +kernel
theorem dX5_digitOfSpelt_44 : decode cX5_digitOfSpelt 44 = .ok (.ireturn, 1) := by decide +kernel
theorem dX5_levelOf_0 : decode cX5_levelOf 0 = .ok (.aload_n 0, 1) := by decide +kernel
theorem dX5_levelOf_1 : decode cX5_levelOf 1 = .ok (.iload_n 1, 1) := by decide +kernel
theorem dX5_levelOf_2 : decode cX5_levelOf 2 = .ok (.iconst 4, 1) := by decide +kernel
theorem dX5_levelOf_3 : decode cX5_levelOf 3 = .ok (.imul, 1) := by decide +kernel
theorem dX5_levelOf_4 : decode cX5_levelOf 4 = .ok (.iload_n 2, 1) := by decide +kernel
theorem dX5_levelOf_5 : decode cX5_levelOf 5 = .ok (.iadd, 1) := by decide +kernel
theorem dX5_levelOf_6 : decode cX5_levelOf 6 = .ok (.invokevirtual 122, 3) := by decide +kernel
theorem dX5_levelOf_9 : decode cX5_levelOf 9 = .ok (.ireturn, 1) := by decide +kernel
theorem dX5_levelByCode_0 : decode cX5_levelByCode 0 = .ok (.aload_n 0, 1) := by decide +kernel
theorem dX5_levelByCode_1 : decode cX5_levelByCode 1 = .ok (.getfield 24, 3) := by decide +kernel
theorem dX5_levelByCode_4 : decode cX5_levelByCode 4 = .ok (.getfield 125, 3) := by decide +kernel
theorem dX5_levelByCode_7 : decode cX5_levelByCode 7 = .ok (.iload_n 1, 1) := by decide +kernel
theorem dX5_levelByCode_8 : decode cX5_levelByCode 8 = .ok (.iaload, 1) := by decide +kernel
theorem dX5_levelByCode_9 : decode cX5_levelByCode 9 = .ok (.iconst 1, 1) := by decide +kernel
theorem dX5_levelByCode_10 : decode cX5_levelByCode 10 = .ok (.isub, 1) := by decide +kernel
theorem dX5_levelByCode_11 : decode cX5_levelByCode 11 = .ok (.istore_n 2, 1) := by decide +kernel
theorem dX5_levelByCode_12 : decode cX5_levelByCode 12 = .ok (.iload_n 2, 1) := by decide +kernel
theorem dX5_levelByCode_13 : decode cX5_levelByCode 13 = .ok (.ifCond .lt 12, 3) := by decide +kernel
theorem dX5_levelByCode_16 : decode cX5_levelByCode 16 = .ok (.aload_n 0, 1) := by decide +kernel
theorem dX5_levelByCode_17 : decode cX5_levelByCode 17 = .ok (.getfield 9, 3) := by decide +kernel
theorem dX5_levelByCode_20 : decode cX5_levelByCode 20 = .ok (.iload_n 2, 1) := by decide +kernel
theorem dX5_levelByCode_21 : decode cX5_levelByCode 21 = .ok (.iaload, 1) := by decide +kernel
theorem dX5_levelByCode_22 : decode cX5_levelByCode 22 = .ok (.goto 4, 3) := by decide +kernel
theorem dX5_levelByCode_25 : decode cX5_levelByCode 25 = .ok (.iconst 0, 1) := by decide +kernel
theorem dX5_levelByCode_26 : decode cX5_levelByCode 26 = .ok (.ireturn, 1) := by decide +kernel
theorem dX5_countOf_0 : decode cX5_countOf 0 = .ok (.iconst 0, 1) := by decide +kernel
theorem dX5_countOf_1 : decode cX5_countOf 1 = .ok (.istore_n 2, 1) := by decide +kernel
theorem dX5_countOf_2 : decode cX5_countOf 2 = .ok (.iconst 0, 1) := by decide +kernel
theorem dX5_countOf_3 : decode cX5_countOf 3 = .ok (.istore_n 3, 1) := by decide +kernel
theorem dX5_countOf_4 : decode cX5_countOf 4 = .ok (.iload_n 3, 1) := by decide +kernel
theorem dX5_countOf_5 : decode cX5_countOf 5 = .ok (.aload_n 0, 1) := by decide +kernel
theorem dX5_countOf_6 : decode cX5_countOf 6 = .ok (.getfield 24, 3) := by decide +kernel
theorem dX5_countOf_9 : decode cX5_countOf 9 = .ok (.getfield 28, 3) := by decide +kernel
theorem dX5_countOf_12 : decode cX5_countOf 12 = .ok (.if_icmp .ge 22, 3) := by decide +kernel
theorem dX5_countOf_15 : decode cX5_countOf 15 = .ok (.aload_n 0, 1) := by decide +kernel
theorem dX5_countOf_16 : decode cX5_countOf 16 = .ok (.getfield 9, 3) := by decide +kernel
theorem dX5_countOf_19 : decode cX5_countOf 19 = .ok (.iload_n 3, 1) := by decide +kernel
theorem dX5_countOf_20 : decode cX5_countOf 20 = .ok (.iaload, 1) := by decide +kernel
theorem dX5_countOf_21 : decode cX5_countOf 21 = .ok (.iload_n 1, 1) := by decide +kernel
theorem dX5_countOf_22 : decode cX5_countOf 22 = .ok (.if_icmp .ne 6, 3) := by decide +kernel
theorem dX5_countOf_25 : decode cX5_countOf 25 = .ok (.iinc 2 1, 3) := by decide +kernel
theorem dX5_countOf_28 : decode cX5_countOf 28 = .ok (.iinc 3 1, 3) := by decide +kernel
theorem dX5_countOf_31 : decode cX5_countOf 31 = .ok (.goto (-27), 3) := by decide +kernel
theorem dX5_countOf_34 : decode cX5_countOf 34 = .ok (.iload_n 2, 1) := by decide +kernel
theorem dX5_countOf_35 : decode cX5_countOf 35 = .ok (.ireturn, 1) := by decide +kernel
theorem dX5_countAll_0 : decode cX5_countAll 0 = .ok (.aload_n 0, 1) := by decide +kernel
theorem dX5_countAll_1 : decode cX5_countAll 1 = .ok (.getfield 24, 3) := by decide +kernel
theorem dX5_countAll_4 : decode cX5_countAll 4 = .ok (.getfield 28, 3) := by decide +kernel
theorem dX5_countAll_7 : decode cX5_countAll 7 = .ok (.aload_n 0, 1) := by decide +kernel
theorem dX5_countAll_8 : decode cX5_countAll 8 = .ok (.iconst 0, 1) := by decide +kernel
theorem dX5_countAll_9 : decode cX5_countAll 9 = .ok (.invokevirtual 128, 3) := by decide +kernel
theorem dX5_countAll_12 : decode cX5_countAll 12 = .ok (.isub, 1) := by decide +kernel
theorem dX5_countAll_13 : decode cX5_countAll 13 = .ok (.ireturn, 1) := by decide +kernel
theorem dX6_init_0 : decode cX6_init 0 = .ok (.aload_n 0, 1) := by decide +kernel
theorem dX6_init_1 : decode cX6_init 1 = .ok (.invokespecial 3, 3) := by decide +kernel
theorem dX6_init_4 : decode cX6_init 4 = .ok (.aload_n 0, 1) := by decide +kernel
theorem dX6_init_5 : decode cX6_init 5 = .ok (.bipush 6, 2) := by decide +kernel
theorem dX6_init_7 : decode cX6_init 7 = .ok (.newarray .int, 2) := by decide +kernel
theorem dX6_init_9 : decode cX6_init 9 = .ok (.putfield 9, 3) := by decide +kernel
theorem dX6_init_12 : decode cX6_init 12 = .ok (.aload_n 0, 1) := by decide +kernel
theorem dX6_init_13 : decode cX6_init 13 = .ok (.bipush 6, 2) := by decide +kernel
theorem dX6_init_15 : decode cX6_init 15 = .ok (.newarray .int, 2) := by decide +kernel
theorem dX6_init_17 : decode cX6_init 17 = .ok (.putfield 15, 3) := by decide +kernel
theorem dX6_init_20 : decode cX6_init 20 = .ok (.aload_n 0, 1) := by decide +kernel
theorem dX6_init_21 : decode cX6_init 21 = .ok (.bipush 6, 2) := by decide +kernel
theorem dX6_init_23 : decode cX6_init 23 = .ok (.newarray .boolean, 2) := by decide +kernel
theorem dX6_init_25 : decode cX6_init 25 = .ok (.putfield 18, 3) := by decide +kernel
theorem dX6_init_28 : decode cX6_init 28 = .ok (.return_, 1) := by decide +kernel
theorem dX6_append_0 : decode cX6_append 0 = .ok (.aload_n 0, 1) := by decide +kernel
theorem dX6_append_1 : decode cX6_append 1 = .ok (.getfield 22, 3) := by decide +kernel
theorem dX6_append_4 : decode cX6_append 4 = .ok (.bipush 6, 2) := by decide +kernel
theorem dX6_append_6 : decode cX6_append 6 = .ok (.if_icmp .lt 5, 3) := by decide +kernel
theorem dX6_append_9 : decode cX6_append 9 = .ok (.iconst 0, 1) := by decide +kernel
theorem dX6_append_10 : decode cX6_append 10 = .ok (.ireturn, 1) := by decide +kernel
theorem dX6_append_11 : decode cX6_append 11 = .ok (.aload_n 0, 1) := by decide +kernel
theorem dX6_append_12 : decode cX6_append 12 = .ok (.getfield 9, 3) := by decide +kernel
theorem dX6_append_15 : decode cX6_append 15 = .ok (.aload_n 0, 1) := by decide +kernel
theorem dX6_append_16 : decode cX6_append 16 = .ok (.getfield 22, 3) := by decide +kernel
theorem dX6_append_19 : decode cX6_append 19 = .ok (.iload_n 1, 1) := by decide +kernel
theorem dX6_append_20 : decode cX6_append 20 = .ok (.iastore, 1) := by decide +kernel
theorem dX6_append_21 : decode cX6_append 21 = .ok (.aload_n 0, 1) := by decide +kernel
theorem dX6_append_22 : decode cX6_append 22 = .ok (.getfield 15, 3) := by decide +kernel
theorem dX6_append_25 : decode cX6_append 25 = .ok (.aload_n 0, 1) := by decide +kernel
theorem dX6_append_26 : decode cX6_append 26 = .ok (.getfield 22, 3) := by decide +kernel
theorem dX6_append_29 : decode cX6_append 29 = .ok (.iload_n 2, 1) := by decide +kernel
theorem dX6_append_30 : decode cX6_append 30 = .ok (.iastore, 1) := by decide +kernel
theorem dX6_append_31 : decode cX6_append 31 = .ok (.aload_n 0, 1) := by decide +kernel
theorem dX6_append_32 : decode cX6_append 32 = .ok (.getfield 18, 3) := by decide +kernel
theorem dX6_append_35 : decode cX6_append 35 = .ok (.aload_n 0, 1) := by decide +kernel
theorem dX6_append_36 : decode cX6_append 36 = .ok (.getfield 22, 3) := by decide +kernel
theorem dX6_append_39 : decode cX6_append 39 = .ok (.iload_n 3, 1) := by decide +kernel
theorem dX6_append_40 : decode cX6_append 40 = .ok (.bastore, 1) := by decide +kernel
theorem dX6_append_41 : decode cX6_append 41 = .ok (.aload_n 0, 1) := by decide +kernel
theorem dX6_append_42 : decode cX6_append 42 = .ok (.dup, 1) := by decide +kernel
theorem dX6_append_43 : decode cX6_append 43 = .ok (.getfield 22, 3) := by decide +kernel
theorem dX6_append_46 : decode cX6_append 46 = .ok (.iconst 1, 1) := by decide +kernel
theorem dX6_append_47 : decode cX6_append 47 = .ok (.iadd, 1) := by decide +kernel
theorem dX6_append_48 : decode cX6_append 48 = .ok (.putfield 22, 3) := by decide +kernel
theorem dX6_append_51 : decode cX6_append 51 = .ok (.iconst 1, 1) := by decide +kernel
theorem dX6_append_52 : decode cX6_append 52 = .ok (.ireturn, 1) := by decide +kernel
theorem dX6_countWords_0 : decode cX6_countWords 0 = .ok (.iconst 0, 1) := by decide +kernel
theorem dX6_countWords_1 : decode cX6_countWords 1 = .ok (.istore_n 2, 1) := by decide +kernel
theorem dX6_countWords_2 : decode cX6_countWords 2 = .ok (.iconst 0, 1) := by decide +kernel
theorem dX6_countWords_3 : decode cX6_countWords 3 = .ok (.istore_n 3, 1) := by decide +kernel
theorem dX6_countWords_4 : decode cX6_countWords 4 = .ok (.iload_n 3, 1) := by decide +kernel
theorem dX6_countWords_5 : decode cX6_countWords 5 = .ok (.bipush 125, 2) := by decide +kernel
theorem dX6_countWords_7 : decode cX6_countWords 7 = .ok (.if_icmp .ge 24, 3) := by decide +kernel
theorem dX6_countWords_10 : decode cX6_countWords 10 = .ok (.aload_n 0, 1) := by decide +kernel
theorem dX6_countWords_11 : decode cX6_countWords 11 = .ok (.aload_n 1, 1) := by decide +kernel
theorem dX6_countWords_12 : decode cX6_countWords 12 = .ok (.iload_n 3, 1) := by decide +kernel
theorem dX6_countWords_13 : decode cX6_countWords 13 = .ok (.invokestatic 26, 3) := by decide +kernel
theorem dX6_countWords_16 : decode cX6_countWords 16 = .ok (.invokevirtual 30, 3) := by decide +kernel
theorem dX6_countWords_19 : decode cX6_countWords 19 = .ok (.ifCond .eq 6, 3) := by decide +kernel
theorem dX6_countWords_22 : decode cX6_countWords 22 = .ok (.iinc 2 1, 3) := by decide +kernel
theorem dX6_countWords_25 : decode cX6_countWords 25 = .ok (.iinc 3 1, 3) := by decide +kernel
theorem dX6_countWords_28 : decode cX6_countWords 28 = .ok (.goto (-24), 3) := by decide +kernel
theorem dX6_countWords_31 : decode cX6_countWords 31 = .ok (.iload_n 2, 1) := by decide +kernel
theorem dX6_countWords_32 : decode cX6_countWords 32 = .ok (.ireturn, 1) := by decide +kernel
theorem dX6_firstWord_0 : decode cX6_firstWord 0 = .ok (.iconst 0, 1) := by decide +kernel
theorem dX6_firstWord_1 : decode cX6_firstWord 1 = .ok (.istore_n 2, 1) := by decide +kernel
theorem dX6_firstWord_2 : decode cX6_firstWord 2 = .ok (.iload_n 2, 1) := by decide +kernel
theorem dX6_firstWord_3 : decode cX6_firstWord 3 = .ok (.bipush 125, 2) := by decide +kernel
theorem dX6_firstWord_5 : decode cX6_firstWord 5 = .ok (.if_icmp .ge 26, 3) := by decide +kernel
theorem dX6_firstWord_8 : decode cX6_firstWord 8 = .ok (.aload_n 0, 1) := by decide +kernel
theorem dX6_firstWord_9 : decode cX6_firstWord 9 = .ok (.aload_n 1, 1) := by decide +kernel
theorem dX6_firstWord_10 : decode cX6_firstWord 10 = .ok (.iload_n 2, 1) := by decide +kernel
theorem dX6_firstWord_11 : decode cX6_firstWord 11 = .ok (.invokestatic 26, 3) := by decide +kernel
theorem dX6_firstWord_14 : decode cX6_firstWord 14 = .ok (.invokevirtual 30, 3) := by decide +kernel
theorem dX6_firstWord_17 : decode cX6_firstWord 17 = .ok (.ifCond .eq 8, 3) := by decide +kernel
theorem dX6_firstWord_20 : decode cX6_firstWord 20 = .ok (.iload_n 2, 1) := by decide +kernel
theorem dX6_firstWord_21 : decode cX6_firstWord 21 = .ok (.invokestatic 26, 3) := by decide +kernel
theorem dX6_firstWord_24 : decode cX6_firstWord 24 = .ok (.ireturn, 1) := by decide +kernel
theorem dX6_firstWord_25 : decode cX6_firstWord 25 = .ok (.iinc 2 1, 3) := by decide +kernel
theorem dX6_firstWord_28 : decode cX6_firstWord 28 = .ok (.goto (-26), 3) := by decide +kernel
theorem dX6_firstWord_31 : decode cX6_firstWord 31 = .ok (.bipush (-9), 2) := by decide +kernel
theorem dX6_firstWord_33 : decode cX6_firstWord 33 = .ok (.ireturn, 1) := by decide +kernel
theorem dX6_lettersOf_0 : decode cX6_lettersOf 0 = .ok (.iload_n 0, 1) := by decide +kernel
theorem dX6_lettersOf_1 : decode cX6_lettersOf 1 = .ok (.bipush 25, 2) := by decide +kernel
theorem dX6_lettersOf_3 : decode cX6_lettersOf 3 = .ok (.idiv, 1) := by decide +kernel
theorem dX6_lettersOf_4 : decode cX6_lettersOf 4 = .ok (.iconst 1, 1) := by decide +kernel
theorem dX6_lettersOf_5 : decode cX6_lettersOf 5 = .ok (.iadd, 1) := by decide +kernel
theorem dX6_lettersOf_6 : decode cX6_lettersOf 6 = .ok (.bipush 100, 2) := by decide +kernel
theorem dX6_lettersOf_8 : decode cX6_lettersOf 8 = .ok (.imul, 1) := by decide +kernel
theorem dX6_lettersOf_9 : decode cX6_lettersOf 9 = .ok (.iload_n 0, 1) := by decide +kernel
theorem dX6_lettersOf_10 : decode cX6_lettersOf 10 = .ok (.iconst 5, 1) := by decide +kernel
theorem dX6_lettersOf_11 : decode cX6_lettersOf 11 = .ok (.idiv, 1) := by decide +kernel
theorem dX6_lettersOf_12 : decode cX6_lettersOf 12 = .ok (.iconst 5, 1) := by decide +kernel
theorem dX6_lettersOf_13 : decode cX6_lettersOf 13 = .ok (.irem, 1) := by decide +kernel
theorem dX6_lettersOf_14 : decode cX6_lettersOf 14 = .ok (.iconst 1, 1) := by decide +kernel
theorem dX6_lettersOf_15 : decode cX6_lettersOf 15 = .ok (.iadd, 1) := by decide +kernel
theorem dX6_lettersOf_16 : decode cX6_lettersOf 16 = .ok (.bipush 10, 2) := by decide +kernel
theorem dX6_lettersOf_18 : decode cX6_lettersOf 18 = .ok (.imul, 1) := by decide +kernel
theorem dX6_lettersOf_19 : decode cX6_lettersOf 19 = .ok (.iadd, 1) := by decide +kernel
theorem dX6_lettersOf_20 : decode cX6_lettersOf 20 = .ok (.iload_n 0, 1) := by decide +kernel
theorem dX6_lettersOf_21 : decode cX6_lettersOf 21 = .ok (.iconst 5, 1) := by decide +kernel
theorem dX6_lettersOf_22 : decode cX6_lettersOf 22 = .ok (.irem, 1) := by decide +kernel
theorem dX6_lettersOf_23 : decode cX6_lettersOf 23 = .ok (.iadd, 1) := by decide +kernel
theorem dX6_lettersOf_24 : decode cX6_lettersOf 24 = .ok (.iconst 1, 1) := by decide +kernel
theorem dX6_lettersOf_25 : decode cX6_lettersOf 25 = .ok (.iadd, 1) := by decide +kernel
theorem dX6_lettersOf_26 : decode cX6_lettersOf 26 = .ok (.ireturn, 1) := by decide +kernel
theorem dX6_agrees_0 : decode cX6_agrees 0 = .ok (.aload_n 1, 1) := by decide +kernel
theorem dX6_agrees_1 : decode cX6_agrees 1 = .ok (.getfield 34, 3) := by decide +kernel
theorem dX6_agrees_4 : decode cX6_agrees 4 = .ok (.iload_n 2, 1) := by decide +kernel
theorem dX6_agrees_5 : decode cX6_agrees 5 = .ok (.iconst 3, 1) := by decide +kernel
theorem dX6_agrees_6 : decode cX6_agrees 6 = .ok (.invokevirtual 40, 3) := by decide +kernel
theorem dX6_agrees_9 : decode cX6_agrees 9 = .ok (.iconst 0, 1) := by decide +kernel
theorem dX6_agrees_10 : decode cX6_agrees 10 = .ok (.istore_n 3, 1) := by decide +kernel
theorem dX6_agrees_11 : decode cX6_agrees 11 = .ok (.iload_n 3, 1) := by decide +kernel
theorem dX6_agrees_12 : decode cX6_agrees 12 = .ok (.aload_n 0, 1) := by decide +kernel
theorem dX6_agrees_13 : decode cX6_agrees 13 = .ok (.getfield 22, 3) := by decide +kernel
theorem dX6_agrees_16 : decode cX6_agrees 16 = .ok (.if_icmp .ge 44, 3) := by decide +kernel
theorem dX6_agrees_19 : decode cX6_agrees 19 = .ok (.aload_n 1, 1) := by decide +kernel
theorem dX6_agrees_20 : decode cX6_agrees 20 = .ok (.aload_n 0, 1) := by decide +kernel
theorem dX6_agrees_21 : decode cX6_agrees 21 = .ok (.getfield 9, 3) := by decide +kernel
theorem dX6_agrees_24 : decode cX6_agrees 24 = .ok (.iload_n 3, 1) := by decide +kernel
theorem dX6_agrees_25 : decode cX6_agrees 25 = .ok (.iaload, 1) := by decide +kernel
theorem dX6_agrees_26 : decode cX6_agrees 26 = .ok (.invokevirtual 46, 3) := by decide +kernel
theorem dX6_agrees_29 : decode cX6_agrees 29 = .ok (.aload_n 0, 1) := by decide +kernel
theorem dX6_agrees_30 : decode cX6_agrees 30 = .ok (.getfield 15, 3) := by decide +kernel
theorem dX6_agrees_33 : decode cX6_agrees 33 = .ok (.iload_n 3, 1) := by decide +kernel
theorem dX6_agrees_34 : decode cX6_agrees 34 = .ok (.iaload, 1) := by decide +kernel
theorem dX6_agrees_35 : decode cX6_agrees 35 = .ok (.if_icmp .ne 7, 3) := by decide +kernel
theorem dX6_agrees_38 : decode cX6_agrees 38 = .ok (.iconst 1, 1) := by decide +kernel
theorem dX6_agrees_39 : decode cX6_agrees 39 = .ok (.goto 4, 3) := by decide +kernel
theorem dX6_agrees_42 : decode cX6_agrees 42 = .ok (.iconst 0, 1) := by decide +kernel
theorem dX6_agrees_43 : decode cX6_agrees 43 = .ok (.aload_n 0, 1) := by decide +kernel
theorem dX6_agrees_44 : decode cX6_agrees 44 = .ok (.getfield 18, 3) := by decide +kernel
theorem dX6_agrees_47 : decode cX6_agrees 47 = .ok (.iload_n 3, 1) := by decide +kernel
theorem dX6_agrees_48 : decode cX6_agrees 48 = .ok (.baload, 1) := by decide +kernel
theorem dX6_agrees_49 : decode cX6_agrees 49 = .ok (.if_icmp .eq 5, 3) := by decide +kernel
theorem dX6_agrees_52 : decode cX6_agrees 52 = .ok (.iconst 0, 1) := by decide +kernel
theorem dX6_agrees_53 : decode cX6_agrees 53 = .ok (.ireturn, 1) := by decide +kernel
theorem dX6_agrees_54 : decode cX6_agrees 54 = .ok (.iinc 3 1, 3) := by decide +kernel
theorem dX6_agrees_57 : decode cX6_agrees 57 = .ok (.goto (-46), 3) := by decide +kernel
theorem dX6_agrees_60 : decode cX6_agrees 60 = .ok (.iconst 1, 1) := by decide +kernel
theorem dX6_agrees_61 : decode cX6_agrees 61 = .ok (.ireturn, 1) := by decide +kernel
theorem dX7_init_0 : decode cX7_init 0 = .ok (.aload_n 0, 1) := by decide +kernel
theorem dX7_init_1 : decode cX7_init 1 = .ok (.invokespecial 3, 3) := by decide +kernel
theorem dX7_init_4 : decode cX7_init 4 = .ok (.aload_n 0, 1) := by decide +kernel
theorem dX7_init_5 : decode cX7_init 5 = .ok (.bipush 6, 2) := by decide +kernel
theorem dX7_init_7 : decode cX7_init 7 = .ok (.newarray .int, 2) := by decide +kernel
theorem dX7_init_9 : decode cX7_init 9 = .ok (.putfield 9, 3) := by decide +kernel
theorem dX7_init_12 : decode cX7_init 12 = .ok (.aload_n 0, 1) := by decide +kernel
theorem dX7_init_13 : decode cX7_init 13 = .ok (.bipush 6, 2) := by decide +kernel
theorem dX7_init_15 : decode cX7_init 15 = .ok (.newarray .int, 2) := by decide +kernel
theorem dX7_init_17 : decode cX7_init 17 = .ok (.putfield 15, 3) := by decide +kernel
theorem dX7_init_20 : decode cX7_init 20 = .ok (.aload_n 0, 1) := by decide +kernel
theorem dX7_init_21 : decode cX7_init 21 = .ok (.bipush 6, 2) := by decide +kernel
theorem dX7_init_23 : decode cX7_init 23 = .ok (.newarray .int, 2) := by decide +kernel
theorem dX7_init_25 : decode cX7_init 25 = .ok (.putfield 18, 3) := by decide +kernel
theorem dX7_init_28 : decode cX7_init 28 = .ok (.aload_n 0, 1) := by decide +kernel
theorem dX7_init_29 : decode cX7_init 29 = .ok (.iconst 5, 1) := by decide +kernel
theorem dX7_init_30 : decode cX7_init 30 = .ok (.newarray .int, 2) := by decide +kernel
theorem dX7_init_32 : decode cX7_init 32 = .ok (.putfield 21, 3) := by decide +kernel
theorem dX7_init_35 : decode cX7_init 35 = .ok (.aload_n 0, 1) := by decide +kernel
theorem dX7_init_36 : decode cX7_init 36 = .ok (.iconst 5, 1) := by decide +kernel
theorem dX7_init_37 : decode cX7_init 37 = .ok (.newarray .int, 2) := by decide +kernel
theorem dX7_init_39 : decode cX7_init 39 = .ok (.putfield 24, 3) := by decide +kernel
theorem dX7_init_42 : decode cX7_init 42 = .ok (.aload_n 0, 1) := by decide +kernel
theorem dX7_init_43 : decode cX7_init 43 = .ok (.getfield 24, 3) := by decide +kernel
theorem dX7_init_46 : decode cX7_init 46 = .ok (.iconst 1, 1) := by decide +kernel
theorem dX7_init_47 : decode cX7_init 47 = .ok (.invokestatic 27, 3) := by decide +kernel
theorem dX7_init_50 : decode cX7_init 50 = .ok (.return_, 1) := by decide +kernel
theorem dX7_copyFrom_0 : decode cX7_copyFrom 0 = .ok (.aload_n 1, 1) := by decide +kernel
theorem dX7_copyFrom_1 : decode cX7_copyFrom 1 = .ok (.getfield 9, 3) := by decide +kernel
theorem dX7_copyFrom_4 : decode cX7_copyFrom 4 = .ok (.iconst 0, 1) := by decide +kernel
theorem dX7_copyFrom_5 : decode cX7_copyFrom 5 = .ok (.aload_n 0, 1) := by decide +kernel
theorem dX7_copyFrom_6 : decode cX7_copyFrom 6 = .ok (.getfield 9, 3) := by decide +kernel
theorem dX7_copyFrom_9 : decode cX7_copyFrom 9 = .ok (.iconst 0, 1) := by decide +kernel
theorem dX7_copyFrom_10 : decode cX7_copyFrom 10 = .ok (.bipush 6, 2) := by decide +kernel
theorem dX7_copyFrom_12 : decode cX7_copyFrom 12 = .ok (.invokestatic 33, 3) := by decide +kernel
theorem dX7_copyFrom_15 : decode cX7_copyFrom 15 = .ok (.aload_n 1, 1) := by decide +kernel
theorem dX7_copyFrom_16 : decode cX7_copyFrom 16 = .ok (.getfield 15, 3) := by decide +kernel
theorem dX7_copyFrom_19 : decode cX7_copyFrom 19 = .ok (.iconst 0, 1) := by decide +kernel
theorem dX7_copyFrom_20 : decode cX7_copyFrom 20 = .ok (.aload_n 0, 1) := by decide +kernel
theorem dX7_copyFrom_21 : decode cX7_copyFrom 21 = .ok (.getfield 15, 3) := by decide +kernel
theorem dX7_copyFrom_24 : decode cX7_copyFrom 24 = .ok (.iconst 0, 1) := by decide +kernel
theorem dX7_copyFrom_25 : decode cX7_copyFrom 25 = .ok (.bipush 6, 2) := by decide +kernel
theorem dX7_copyFrom_27 : decode cX7_copyFrom 27 = .ok (.invokestatic 33, 3) := by decide +kernel
theorem dX7_copyFrom_30 : decode cX7_copyFrom 30 = .ok (.aload_n 1, 1) := by decide +kernel
theorem dX7_copyFrom_31 : decode cX7_copyFrom 31 = .ok (.getfield 18, 3) := by decide +kernel
theorem dX7_copyFrom_34 : decode cX7_copyFrom 34 = .ok (.iconst 0, 1) := by decide +kernel
theorem dX7_copyFrom_35 : decode cX7_copyFrom 35 = .ok (.aload_n 0, 1) := by decide +kernel
theorem dX7_copyFrom_36 : decode cX7_copyFrom 36 = .ok (.getfield 18, 3) := by decide +kernel
theorem dX7_copyFrom_39 : decode cX7_copyFrom 39 = .ok (.iconst 0, 1) := by decide +kernel
theorem dX7_copyFrom_40 : decode cX7_copyFrom 40 = .ok (.bipush 6, 2) := by decide +kernel
theorem dX7_copyFrom_42 : decode cX7_copyFrom 42 = .ok (.invokestatic 33, 3) := by decide +kernel
theorem dX7_copyFrom_45 : decode cX7_copyFrom 45 = .ok (.aload_n 1, 1) := by decide +kernel
theorem dX7_copyFrom_46 : decode cX7_copyFrom 46 = .ok (.getfield 21, 3) := by decide +kernel
theorem dX7_copyFrom_49 : decode cX7_copyFrom 49 = .ok (.iconst 0, 1) := by decide +kernel
theorem dX7_copyFrom_50 : decode cX7_copyFrom 50 = .ok (.aload_n 0, 1) := by decide +kernel
theorem dX7_copyFrom_51 : decode cX7_copyFrom 51 = .ok (.getfield 21, 3) := by decide +kernel
theorem dX7_copyFrom_54 : decode cX7_copyFrom 54 = .ok (.iconst 0, 1) := by decide +kernel
theorem dX7_copyFrom_55 : decode cX7_copyFrom 55 = .ok (.iconst 5, 1) := by decide +kernel
theorem dX7_copyFrom_56 : decode cX7_copyFrom 56 = .ok (.invokestatic 33, 3) := by decide +kernel
theorem dX7_copyFrom_59 : decode cX7_copyFrom 59 = .ok (.aload_n 1, 1) := by decide +kernel
theorem dX7_copyFrom_60 : decode cX7_copyFrom 60 = .ok (.getfield 24, 3) := by decide +kernel
theorem dX7_copyFrom_63 : decode cX7_copyFrom 63 = .ok (.iconst 0, 1) := by decide +kernel
theorem dX7_copyFrom_64 : decode cX7_copyFrom 64 = .ok (.aload_n 0, 1) := by decide +kernel
theorem dX7_copyFrom_65 : decode cX7_copyFrom 65 = .ok (.getfield 24, 3) := by decide +kernel
theorem dX7_copyFrom_68 : decode cX7_copyFrom 68 = .ok (.iconst 0, 1) := by decide +kernel
theorem dX7_copyFrom_69 : decode cX7_copyFrom 69 = .ok (.iconst 5, 1) := by decide +kernel
theorem dX7_copyFrom_70 : decode cX7_copyFrom 70 = .ok (.invokestatic 33, 3) := by decide +kernel
theorem dX7_copyFrom_73 : decode cX7_copyFrom 73 = .ok (.aload_n 0, 1) := by decide +kernel
theorem dX7_copyFrom_74 : decode cX7_copyFrom 74 = .ok (.aload_n 1, 1) := by decide +kernel
theorem dX7_copyFrom_75 : decode cX7_copyFrom 75 = .ok (.getfield 39, 3) := by decide +kernel
theorem dX7_copyFrom_78 : decode cX7_copyFrom 78 = .ok (.putfield 39, 3) := by decide +kernel
theorem dX7_copyFrom_81 : decode cX7_copyFrom 81 = .ok (.aload_n 0, 1) := by decide +kernel
theorem dX7_copyFrom_82 : decode cX7_copyFrom 82 = .ok (.aload_n 1, 1) := by decide +kernel
theorem dX7_copyFrom_83 : decode cX7_copyFrom 83 = .ok (.getfield 43, 3) := by decide +kernel
theorem dX7_copyFrom_86 : decode cX7_copyFrom 86 = .ok (.putfield 43, 3) := by decide +kernel
theorem dX7_copyFrom_89 : decode cX7_copyFrom 89 = .ok (.return_, 1) := by decide +kernel
theorem dX7_hasWord_0 : decode cX7_hasWord 0 = .ok (.iload_n 1, 1) := by decide +kernel
theorem dX7_hasWord_1 : decode cX7_hasWord 1 = .ok (.ifCond .lt 15, 3) := by decide +kernel
theorem dX7_hasWord_4 : decode cX7_hasWord 4 = .ok (.iload_n 1, 1) := by decide +kernel
theorem dX7_hasWord_5 : decode cX7_hasWord 5 = .ok (.aload_n 0, 1) := by decide +kernel
theorem dX7_hasWord_6 : decode cX7_hasWord 6 = .ok (.getfield 39, 3) := by decide +kernel
theorem dX7_hasWord_9 : decode cX7_hasWord 9 = .ok (.if_icmp .ge 7, 3) := by decide +kernel
theorem dX7_hasWord_12 : decode cX7_hasWord 12 = .ok (.iconst 1, 1) := by decide +kernel
theorem dX7_hasWord_13 : decode cX7_hasWord 13 = .ok (.goto 4, 3) := by decide +kernel
theorem dX7_hasWord_16 : decode cX7_hasWord 16 = .ok (.iconst 0, 1) := by decide +kernel
theorem dX7_hasWord_17 : decode cX7_hasWord 17 = .ok (.ireturn, 1) := by decide +kernel
theorem dX7_hasPlace_0 : decode cX7_hasPlace 0 = .ok (.aload_n 0, 1) := by decide +kernel
theorem dX7_hasPlace_1 : decode cX7_hasPlace 1 = .ok (.iload_n 1, 1) := by decide +kernel
theorem dX7_hasPlace_2 : decode cX7_hasPlace 2 = .ok (.invokevirtual 46, 3) := by decide +kernel
theorem dX7_hasPlace_5 : decode cX7_hasPlace 5 = .ok (.ifCond .eq 23, 3) := by decide +kernel
theorem dX7_hasPlace_8 : decode cX7_hasPlace 8 = .ok (.iload_n 2, 1) := by decide +kernel
theorem dX7_hasPlace_9 : decode cX7_hasPlace 9 = .ok (.ifCond .lt 19, 3) := by decide +kernel
theorem dX7_hasPlace_12 : decode cX7_hasPlace 12 = .ok (.iload_n 2, 1) := by decide +kernel
theorem dX7_hasPlace_13 : decode cX7_hasPlace 13 = .ok (.aload_n 0, 1) := by decide +kernel
theorem dX7_hasPlace_14 : decode cX7_hasPlace 14 = .ok (.getfield 18, 3) := by decide +kernel
theorem dX7_hasPlace_17 : decode cX7_hasPlace 17 = .ok (.iload_n 1, 1) := by decide +kernel
theorem dX7_hasPlace_18 : decode cX7_hasPlace 18 = .ok (.iaload, 1) := by decide +kernel
theorem dX7_hasPlace_19 : decode cX7_hasPlace 19 = .ok (.iconst 1, 1) := by decide +kernel
theorem dX7_hasPlace_20 : decode cX7_hasPlace 20 = .ok (.isub, 1) := by decide +kernel
theorem dX7_hasPlace_21 : decode cX7_hasPlace 21 = .ok (.if_icmp .ge 7, 3) := by decide +kernel
theorem dX7_hasPlace_24 : decode cX7_hasPlace 24 = .ok (.iconst 1, 1) := by decide +kernel
theorem dX7_hasPlace_25 : decode cX7_hasPlace 25 = .ok (.goto 4, 3) := by decide +kernel
theorem dX7_hasPlace_28 : decode cX7_hasPlace 28 = .ok (.iconst 0, 1) := by decide +kernel
theorem dX7_hasPlace_29 : decode cX7_hasPlace 29 = .ok (.ireturn, 1) := by decide +kernel
theorem dX7_allPlaces_0 : decode cX7_allPlaces 0 = .ok (.iconst 0, 1) := by decide +kernel
theorem dX7_allPlaces_1 : decode cX7_allPlaces 1 = .ok (.istore_n 1, 1) := by decide +kernel
theorem dX7_allPlaces_2 : decode cX7_allPlaces 2 = .ok (.iconst 0, 1) := by decide +kernel
theorem dX7_allPlaces_3 : decode cX7_allPlaces 3 = .ok (.istore_n 2, 1) := by decide +kernel
theorem dX7_allPlaces_4 : decode cX7_allPlaces 4 = .ok (.iload_n 2, 1) := by decide +kernel
theorem dX7_allPlaces_5 : decode cX7_allPlaces 5 = .ok (.aload_n 0, 1) := by decide +kernel
theorem dX7_allPlaces_6 : decode cX7_allPlaces 6 = .ok (.getfield 39, 3) := by decide +kernel
theorem dX7_allPlaces_9 : decode cX7_allPlaces 9 = .ok (.if_icmp .ge 20, 3) := by decide +kernel
theorem dX7_allPlaces_12 : decode cX7_allPlaces 12 = .ok (.iload_n 1, 1) := by decide +kernel
theorem dX7_allPlaces_13 : decode cX7_allPlaces 13 = .ok (.aload_n 0, 1) := by decide +kernel
theorem dX7_allPlaces_14 : decode cX7_allPlaces 14 = .ok (.getfield 18, 3) := by decide +kernel
theorem dX7_allPlaces_17 : decode cX7_allPlaces 17 = .ok (.iload_n 2, 1) := by decide +kernel
theorem dX7_allPlaces_18 : decode cX7_allPlaces 18 = .ok (.iaload, 1) := by decide +kernel
theorem dX7_allPlaces_19 : decode cX7_allPlaces 19 = .ok (.iconst 1, 1) := by decide +kernel
theorem dX7_allPlaces_20 : decode cX7_allPlaces 20 = .ok (.isub, 1) := by decide +kernel
theorem dX7_allPlaces_21 : decode cX7_allPlaces 21 = .ok (.iadd, 1) := by decide +kernel
theorem dX7_allPlaces_22 : decode cX7_allPlaces 22 = .ok (.istore_n 1, 1) := by decide +kernel
theorem dX7_allPlaces_23 : decode cX7_allPlaces 23 = .ok (.iinc 2 1, 3) := by decide +kernel
theorem dX7_allPlaces_26 : decode cX7_allPlaces 26 = .ok (.goto (-22), 3) := by decide +kernel
theorem dX7_allPlaces_29 : decode cX7_allPlaces 29 = .ok (.iload_n 1, 1) := by decide +kernel
theorem dX7_allPlaces_30 : decode cX7_allPlaces 30 = .ok (.ireturn, 1) := by decide +kernel
theorem dX7_putAt_0 : decode cX7_putAt 0 = .ok (.iload_n 1, 1) := by decide +kernel
theorem dX7_putAt_1 : decode cX7_putAt 1 = .ok (.ifCond .lt 20, 3) := by decide +kernel
theorem dX7_putAt_4 : decode cX7_putAt 4 = .ok (.iload_n 1, 1) := by decide +kernel
theorem dX7_putAt_5 : decode cX7_putAt 5 = .ok (.aload_n 0, 1) := by decide +kernel
theorem dX7_putAt_6 : decode cX7_putAt 6 = .ok (.getfield 39, 3) := by decide +kernel
theorem dX7_putAt_9 : decode cX7_putAt 9 = .ok (.if_icmp .gt 12, 3) := by decide +kernel
theorem dX7_putAt_12 : decode cX7_putAt 12 = .ok (.aload_n 0, 1) := by decide +kernel
theorem dX7_putAt_13 : decode cX7_putAt 13 = .ok (.getfield 39, 3) := by decide +kernel
theorem dX7_putAt_16 : decode cX7_putAt 16 = .ok (.bipush 6, 2) := by decide +kernel
theorem dX7_putAt_18 : decode cX7_putAt 18 = .ok (.if_icmp .lt 4, 3) := by decide +kernel
theorem dX7_putAt_21 : decode cX7_putAt 21 = .ok (.return_, 1) := by decide +kernel
theorem dX7_putAt_22 : decode cX7_putAt 22 = .ok (.aload_n 0, 1) := by decide +kernel
theorem dX7_putAt_23 : decode cX7_putAt 23 = .ok (.getfield 39, 3) := by decide +kernel
theorem dX7_putAt_26 : decode cX7_putAt 26 = .ok (.istore 4, 2) := by decide +kernel
theorem dX7_putAt_28 : decode cX7_putAt 28 = .ok (.iload 4, 2) := by decide +kernel
theorem dX7_putAt_30 : decode cX7_putAt 30 = .ok (.iload_n 1, 1) := by decide +kernel
theorem dX7_putAt_31 : decode cX7_putAt 31 = .ok (.if_icmp .le 19, 3) := by decide +kernel
theorem dX7_putAt_34 : decode cX7_putAt 34 = .ok (.aload_n 0, 1) := by decide +kernel
theorem dX7_putAt_35 : decode cX7_putAt 35 = .ok (.iload 4, 2) := by decide +kernel
theorem dX7_putAt_37 : decode cX7_putAt 37 = .ok (.iconst 1, 1) := by decide +kernel
theorem dX7_putAt_38 : decode cX7_putAt 38 = .ok (.isub, 1) := by decide +kernel
theorem dX7_putAt_39 : decode cX7_putAt 39 = .ok (.iload 4, 2) := by decide +kernel
theorem dX7_putAt_41 : decode cX7_putAt 41 = .ok (.invokevirtual 50, 3) := by decide +kernel
theorem dX7_putAt_44 : decode cX7_putAt 44 = .ok (.iinc 4 (-1), 3) := by decide +kernel
theorem dX7_putAt_47 : decode cX7_putAt 47 = .ok (.goto (-19), 3) := by decide +kernel
theorem dX7_putAt_50 : decode cX7_putAt 50 = .ok (.aload_n 0, 1) := by decide +kernel
theorem dX7_putAt_51 : decode cX7_putAt 51 = .ok (.getfield 9, 3) := by decide +kernel
theorem dX7_putAt_54 : decode cX7_putAt 54 = .ok (.iload_n 1, 1) := by decide +kernel
theorem dX7_putAt_55 : decode cX7_putAt 55 = .ok (.iload_n 2, 1) := by decide +kernel
theorem dX7_putAt_56 : decode cX7_putAt 56 = .ok (.iastore, 1) := by decide +kernel
theorem dX7_putAt_57 : decode cX7_putAt 57 = .ok (.aload_n 0, 1) := by decide +kernel
theorem dX7_putAt_58 : decode cX7_putAt 58 = .ok (.getfield 15, 3) := by decide +kernel
theorem dX7_putAt_61 : decode cX7_putAt 61 = .ok (.iload_n 1, 1) := by decide +kernel
theorem dX7_putAt_62 : decode cX7_putAt 62 = .ok (.iload_n 3, 1) := by decide +kernel
theorem dX7_putAt_63 : decode cX7_putAt 63 = .ok (.iastore, 1) := by decide +kernel
theorem dX7_putAt_64 : decode cX7_putAt 64 = .ok (.aload_n 0, 1) := by decide +kernel
theorem dX7_putAt_65 : decode cX7_putAt 65 = .ok (.getfield 18, 3) := by decide +kernel
theorem dX7_putAt_68 : decode cX7_putAt 68 = .ok (.iload_n 1, 1) := by decide +kernel
theorem dX7_putAt_69 : decode cX7_putAt 69 = .ok (.iload_n 2, 1) := by decide +kernel
theorem dX7_putAt_70 : decode cX7_putAt 70 = .ok (.invokestatic 54, 3) := by decide +kernel
theorem dX7_putAt_73 : decode cX7_putAt 73 = .ok (.iastore, 1) := by decide +kernel
theorem dX7_putAt_74 : decode cX7_putAt 74 = .ok (.aload_n 0, 1) := by decide +kernel
theorem dX7_putAt_75 : decode cX7_putAt 75 = .ok (.dup, 1) := by decide +kernel
theorem dX7_putAt_76 : decode cX7_putAt 76 = .ok (.getfield 39, 3) := by decide +kernel
theorem dX7_putAt_79 : decode cX7_putAt 79 = .ok (.iconst 1, 1) := by decide +kernel
theorem dX7_putAt_80 : decode cX7_putAt 80 = .ok (.iadd, 1) := by decide +kernel
theorem dX7_putAt_81 : decode cX7_putAt 81 = .ok (.putfield 39, 3) := by decide +kernel
theorem dX7_putAt_84 : decode cX7_putAt 84 = .ok (.return_, 1) := by decide +kernel
theorem dX7_takeAt_0 : decode cX7_takeAt 0 = .ok (.aload_n 0, 1) := by decide +kernel
theorem dX7_takeAt_1 : decode cX7_takeAt 1 = .ok (.iload_n 1, 1) := by decide +kernel
theorem dX7_takeAt_2 : decode cX7_takeAt 2 = .ok (.invokevirtual 46, 3) := by decide +kernel
theorem dX7_takeAt_5 : decode cX7_takeAt 5 = .ok (.ifCond .ne 4, 3) := by decide +kernel
theorem dX7_takeAt_8 : decode cX7_takeAt 8 = .ok (.return_, 1) := by decide +kernel
theorem dX7_takeAt_9 : decode cX7_takeAt 9 = .ok (.iload_n 1, 1) := by decide +kernel
theorem dX7_takeAt_10 : decode cX7_takeAt 10 = .ok (.istore_n 2, 1) := by decide +kernel
theorem dX7_takeAt_11 : decode cX7_takeAt 11 = .ok (.iload_n 2, 1) := by decide +kernel
theorem dX7_takeAt_12 : decode cX7_takeAt 12 = .ok (.iconst 1, 1) := by decide +kernel
theorem dX7_takeAt_13 : decode cX7_takeAt 13 = .ok (.iadd, 1) := by decide +kernel
theorem dX7_takeAt_14 : decode cX7_takeAt 14 = .ok (.aload_n 0, 1) := by decide +kernel
theorem dX7_takeAt_15 : decode cX7_takeAt 15 = .ok (.getfield 39, 3) := by decide +kernel
theorem dX7_takeAt_18 : decode cX7_takeAt 18 = .ok (.if_icmp .ge 17, 3) := by decide +kernel
theorem dX7_takeAt_21 : decode cX7_takeAt 21 = .ok (.aload_n 0, 1) := by decide +kernel
theorem dX7_takeAt_22 : decode cX7_takeAt 22 = .ok (.iload_n 2, 1) := by decide +kernel
theorem dX7_takeAt_23 : decode cX7_takeAt 23 = .ok (.iconst 1, 1) := by decide +kernel
theorem dX7_takeAt_24 : decode cX7_takeAt 24 = .ok (.iadd, 1) := by decide +kernel
theorem dX7_takeAt_25 : decode cX7_takeAt 25 = .ok (.iload_n 2, 1) := by decide +kernel
theorem dX7_takeAt_26 : decode cX7_takeAt 26 = .ok (.invokevirtual 50, 3) := by decide +kernel
theorem dX7_takeAt_29 : decode cX7_takeAt 29 = .ok (.iinc 2 1, 3) := by decide +kernel
theorem dX7_takeAt_32 : decode cX7_takeAt 32 = .ok (.goto (-21), 3) := by decide +kernel
theorem dX7_takeAt_35 : decode cX7_takeAt 35 = .ok (.aload_n 0, 1) := by decide +kernel
theorem dX7_takeAt_36 : decode cX7_takeAt 36 = .ok (.dup, 1) := by decide +kernel
theorem dX7_takeAt_37 : decode cX7_takeAt 37 = .ok (.getfield 39, 3) := by decide +kernel
theorem dX7_takeAt_40 : decode cX7_takeAt 40 = .ok (.iconst 1, 1) := by decide +kernel
theorem dX7_takeAt_41 : decode cX7_takeAt 41 = .ok (.isub, 1) := by decide +kernel
theorem dX7_takeAt_42 : decode cX7_takeAt 42 = .ok (.putfield 39, 3) := by decide +kernel
theorem dX7_takeAt_45 : decode cX7_takeAt 45 = .ok (.return_, 1) := by decide +kernel
theorem dX7_move_0 : decode cX7_move 0 = .ok (.aload_n 0, 1) := by decide +kernel
theorem dX7_move_1 : decode cX7_move 1 = .ok (.getfield 9, 3) := by decide +kernel
theorem dX7_move_4 : decode cX7_move 4 = .ok (.iload_n 2, 1) := by decide +kernel
theorem dX7_move_5 : decode cX7_move 5 = .ok (.aload_n 0, 1) := by decide +kernel
theorem dX7_move_6 : decode cX7_move 6 = .ok (.getfield 9, 3) := by decide +kernel
theorem dX7_move_9 : decode cX7_move 9 = .ok (.iload_n 1, 1) := by decide +kernel
theorem dX7_move_10 : decode cX7_move 10 = .ok (.iaload, 1) := by decide +kernel
theorem dX7_move_11 : decode cX7_move 11 = .ok (.iastore, 1) := by decide +kernel
theorem dX7_move_12 : decode cX7_move 12 = .ok (.aload_n 0, 1) := by decide +kernel
theorem dX7_move_13 : decode cX7_move 13 = .ok (.getfield 15, 3) := by decide +kernel
theorem dX7_move_16 : decode cX7_move 16 = .ok (.iload_n 2, 1) := by decide +kernel
theorem dX7_move_17 : decode cX7_move 17 = .ok (.aload_n 0, 1) := by decide +kernel
theorem dX7_move_18 : decode cX7_move 18 = .ok (.getfield 15, 3) := by decide +kernel
theorem dX7_move_21 : decode cX7_move 21 = .ok (.iload_n 1, 1) := by decide +kernel
theorem dX7_move_22 : decode cX7_move 22 = .ok (.iaload, 1) := by decide +kernel
theorem dX7_move_23 : decode cX7_move 23 = .ok (.iastore, 1) := by decide +kernel
theorem dX7_move_24 : decode cX7_move 24 = .ok (.aload_n 0, 1) := by decide +kernel
theorem dX7_move_25 : decode cX7_move 25 = .ok (.getfield 18, 3) := by decide +kernel
theorem dX7_move_28 : decode cX7_move 28 = .ok (.iload_n 2, 1) := by decide +kernel
theorem dX7_move_29 : decode cX7_move 29 = .ok (.aload_n 0, 1) := by decide +kernel
theorem dX7_move_30 : decode cX7_move 30 = .ok (.getfield 18, 3) := by decide +kernel
theorem dX7_move_33 : decode cX7_move 33 = .ok (.iload_n 1, 1) := by decide +kernel
theorem dX7_move_34 : decode cX7_move 34 = .ok (.iaload, 1) := by decide +kernel
theorem dX7_move_35 : decode cX7_move 35 = .ok (.iastore, 1) := by decide +kernel
theorem dX7_move_36 : decode cX7_move 36 = .ok (.return_, 1) := by decide +kernel
theorem dX7_flip_0 : decode cX7_flip 0 = .ok (.aload_n 0, 1) := by decide +kernel
theorem dX7_flip_1 : decode cX7_flip 1 = .ok (.iload_n 1, 1) := by decide +kernel
theorem dX7_flip_2 : decode cX7_flip 2 = .ok (.iload_n 2, 1) := by decide +kernel
theorem dX7_flip_3 : decode cX7_flip 3 = .ok (.invokevirtual 60, 3) := by decide +kernel
theorem dX7_flip_6 : decode cX7_flip 6 = .ok (.ifCond .eq 15, 3) := by decide +kernel
theorem dX7_flip_9 : decode cX7_flip 9 = .ok (.aload_n 0, 1) := by decide +kernel
theorem dX7_flip_10 : decode cX7_flip 10 = .ok (.getfield 15, 3) := by decide +kernel
theorem dX7_flip_13 : decode cX7_flip 13 = .ok (.iload_n 1, 1) := by decide +kernel
theorem dX7_flip_14 : decode cX7_flip 14 = .ok (.dup2, 1) := by decide +kernel
theorem dX7_flip_15 : decode cX7_flip 15 = .ok (.iaload, 1) := by decide +kernel
theorem dX7_flip_16 : decode cX7_flip 16 = .ok (.iconst 1, 1) := by decide +kernel
theorem dX7_flip_17 : decode cX7_flip 17 = .ok (.iload_n 2, 1) := by decide +kernel
theorem dX7_flip_18 : decode cX7_flip 18 = .ok (.ishl, 1) := by decide +kernel
theorem dX7_flip_19 : decode cX7_flip 19 = .ok (.ixor, 1) := by decide +kernel
theorem dX7_flip_20 : decode cX7_flip 20 = .ok (.iastore, 1) := by decide +kernel
theorem dX7_flip_21 : decode cX7_flip 21 = .ok (.return_, 1) := by decide +kernel
theorem dX7_setRule_0 : decode cX7_setRule 0 = .ok (.iload_n 1, 1) := by decide +kernel
theorem dX7_setRule_1 : decode cX7_setRule 1 = .ok (.invokestatic 64, 3) := by decide +kernel
theorem dX7_setRule_4 : decode cX7_setRule 4 = .ok (.ifCond .eq 17, 3) := by decide +kernel
theorem dX7_setRule_7 : decode cX7_setRule 7 = .ok (.aload_n 0, 1) := by decide +kernel
theorem dX7_setRule_8 : decode cX7_setRule 8 = .ok (.getfield 21, 3) := by decide +kernel
theorem dX7_setRule_11 : decode cX7_setRule 11 = .ok (.iload_n 1, 1) := by decide +kernel
theorem dX7_setRule_12 : decode cX7_setRule 12 = .ok (.iload_n 2, 1) := by decide +kernel
theorem dX7_setRule_13 : decode cX7_setRule 13 = .ok (.iastore, 1) := by decide +kernel
theorem dX7_setRule_14 : decode cX7_setRule 14 = .ok (.aload_n 0, 1) := by decide +kernel
theorem dX7_setRule_15 : decode cX7_setRule 15 = .ok (.getfield 24, 3) := by decide +kernel
theorem dX7_setRule_18 : decode cX7_setRule 18 = .ok (.iload_n 1, 1) := by decide +kernel
theorem dX7_setRule_19 : decode cX7_setRule 19 = .ok (.iload_n 3, 1) := by decide +kernel
theorem dX7_setRule_20 : decode cX7_setRule 20 = .ok (.iastore, 1) := by decide +kernel
theorem dX7_setRule_21 : decode cX7_setRule 21 = .ok (.return_, 1) := by decide +kernel
theorem dX8_init_0 : decode cX8_init 0 = .ok (.aload_n 0, 1) := by decide +kernel
theorem dX8_init_1 : decode cX8_init 1 = .ok (.invokespecial 3, 3) := by decide +kernel
theorem dX8_init_4 : decode cX8_init 4 = .ok (.aload_n 0, 1) := by decide +kernel
theorem dX8_init_5 : decode cX8_init 5 = .ok (.bipush 64, 2) := by decide +kernel
theorem dX8_init_7 : decode cX8_init 7 = .ok (.newarray .int, 2) := by decide +kernel
theorem dX8_init_9 : decode cX8_init 9 = .ok (.putfield 9, 3) := by decide +kernel
theorem dX8_init_12 : decode cX8_init 12 = .ok (.return_, 1) := by decide +kernel
theorem dX8_append_0 : decode cX8_append 0 = .ok (.aload_n 0, 1) := by decide +kernel
theorem dX8_append_1 : decode cX8_append 1 = .ok (.getfield 15, 3) := by decide +kernel
theorem dX8_append_4 : decode cX8_append 4 = .ok (.bipush 64, 2) := by decide +kernel
theorem dX8_append_6 : decode cX8_append 6 = .ok (.if_icmp .lt 5, 3) := by decide +kernel
theorem dX8_append_9 : decode cX8_append 9 = .ok (.iconst 0, 1) := by decide +kernel
theorem dX8_append_10 : decode cX8_append 10 = .ok (.ireturn, 1) := by decide +kernel
theorem dX8_append_11 : decode cX8_append 11 = .ok (.aload_n 0, 1) := by decide +kernel
theorem dX8_append_12 : decode cX8_append 12 = .ok (.getfield 9, 3) := by decide +kernel
theorem dX8_append_15 : decode cX8_append 15 = .ok (.aload_n 0, 1) := by decide +kernel
theorem dX8_append_16 : decode cX8_append 16 = .ok (.getfield 15, 3) := by decide +kernel
theorem dX8_append_19 : decode cX8_append 19 = .ok (.iload_n 1, 1) := by decide +kernel
theorem dX8_append_20 : decode cX8_append 20 = .ok (.iastore, 1) := by decide +kernel
theorem dX8_append_21 : decode cX8_append 21 = .ok (.aload_n 0, 1) := by decide +kernel
theorem dX8_append_22 : decode cX8_append 22 = .ok (.dup, 1) := by decide +kernel
theorem dX8_append_23 : decode cX8_append 23 = .ok (.getfield 15, 3) := by decide +kernel
theorem dX8_append_26 : decode cX8_append 26 = .ok (.iconst 1, 1) := by decide +kernel
theorem dX8_append_27 : decode cX8_append 27 = .ok (.iadd, 1) := by decide +kernel
theorem dX8_append_28 : decode cX8_append 28 = .ok (.putfield 15, 3) := by decide +kernel
theorem dX8_append_31 : decode cX8_append 31 = .ok (.iconst 1, 1) := by decide +kernel
theorem dX8_append_32 : decode cX8_append 32 = .ok (.ireturn, 1) := by decide +kernel
theorem dX8_firstFault_0 : decode cX8_firstFault 0 = .ok (.iconst 0, 1) := by decide +kernel
theorem dX8_firstFault_1 : decode cX8_firstFault 1 = .ok (.istore_n 1, 1) := by decide +kernel
theorem dX8_firstFault_2 : decode cX8_firstFault 2 = .ok (.iconst 0, 1) := by decide +kernel
theorem dX8_firstFault_3 : decode cX8_firstFault 3 = .ok (.istore_n 2, 1) := by decide +kernel
theorem dX8_firstFault_4 : decode cX8_firstFault 4 = .ok (.iconst 0, 1) := by decide +kernel
theorem dX8_firstFault_5 : decode cX8_firstFault 5 = .ok (.istore_n 3, 1) := by decide +kernel
theorem dX8_firstFault_6 : decode cX8_firstFault 6 = .ok (.iconst 0, 1) := by decide +kernel
theorem dX8_firstFault_7 : decode cX8_firstFault 7 = .ok (.istore 4, 2) := by decide +kernel
theorem dX8_firstFault_9 : decode cX8_firstFault 9 = .ok (.iload 4, 2) := by decide +kernel
theorem dX8_firstFault_11 : decode cX8_firstFault 11 = .ok (.aload_n 0, 1) := by decide +kernel
theorem dX8_firstFault_12 : decode cX8_firstFault 12 = .ok (.getfield 15, 3) := by decide +kernel
theorem dX8_firstFault_15 : decode cX8_firstFault 15 = .ok (.if_icmp .ge 128, 3) := by decide +kernel
theorem dX8_firstFault_18 : decode cX8_firstFault 18 = .ok (.aload_n 0, 1) := by decide +kernel
theorem dX8_firstFault_19 : decode cX8_firstFault 19 = .ok (.getfield 9, 3) := by decide +kernel
theorem dX8_firstFault_22 : decode cX8_firstFault 22 = .ok (.iload 4, 2) := by decide +kernel
theorem dX8_firstFault_24 : decode cX8_firstFault 24 = .ok (.iaload, 1) := by decide +kernel
theorem dX8_firstFault_25 : decode cX8_firstFault 25 = .ok (.istore 5, 2) := by decide +kernel
theorem dX8_firstFault_27 : decode cX8_firstFault 27 = .ok (.iload_n 1, 1) := by decide +kernel
theorem dX8_firstFault_28 : decode cX8_firstFault 28 = .ok (.ifCond .le 16, 3) := by decide +kernel
theorem dX8_firstFault_31 : decode cX8_firstFault 31 = .ok (.iload_n 2, 1) := by decide +kernel
theorem dX8_firstFault_32 : decode cX8_firstFault 32 = .ok (.iconst 2, 1) := by decide +kernel
theorem dX8_firstFault_33 : decode cX8_firstFault 33 = .ok (.if_icmp .lt 7, 3) := by decide +kernel
theorem dX8_firstFault_36 : decode cX8_firstFault 36 = .ok (.iload_n 3, 1) := by decide +kernel
theorem dX8_firstFault_37 : decode cX8_firstFault 37 = .ok (.ifCond .eq 7, 3) := by decide +kernel
theorem dX8_firstFault_40 : decode cX8_firstFault 40 = .ok (.iconst 1, 1) := by decide +kernel
theorem dX8_firstFault_41 : decode cX8_firstFault 41 = .ok (.goto 4, 3) := by decide +kernel
theorem dX8_firstFault_44 : decode cX8_firstFault 44 = .ok (.iconst 0, 1) := by decide +kernel
theorem dX8_firstFault_45 : decode cX8_firstFault 45 = .ok (.istore 6, 2) := by decide +kernel
theorem dX8_firstFault_47 : decode cX8_firstFault 47 = .ok (.iload 5, 2) := by decide +kernel
theorem dX8_firstFault_49 : decode cX8_firstFault 49 = .ok (.bipush 87, 2) := by decide +kernel
theorem dX8_firstFault_51 : decode cX8_firstFault 51 = .ok (.if_icmp .ne 25, 3) := by decide +kernel
theorem dX8_firstFault_54 : decode cX8_firstFault 54 = .ok (.iload 6, 2) := by decide +kernel
theorem dX8_firstFault_56 : decode cX8_firstFault 56 = .ok (.ifCond .ne 9, 3) := by decide +kernel
theorem dX8_firstFault_59 : decode cX8_firstFault 59 = .ok (.iload_n 1, 1) := by decide +kernel
theorem dX8_firstFault_60 : decode cX8_firstFault 60 = .ok (.bipush 6, 2) := by decide +kernel
theorem dX8_firstFault_62 : decode cX8_firstFault 62 = .ok (.if_icmp .ne 6, 3) := by decide +kernel
theorem dX8_firstFault_65 : decode cX8_firstFault 65 = .ok (.iload 4, 2) := by decide +kernel
theorem dX8_firstFault_67 : decode cX8_firstFault 67 = .ok (.ireturn, 1) := by decide +kernel
theorem dX8_firstFault_68 : decode cX8_firstFault 68 = .ok (.iinc 1 1, 3) := by decide +kernel
theorem dX8_firstFault_71 : decode cX8_firstFault 71 = .ok (.iconst 0, 1) := by decide +kernel
theorem dX8_firstFault_72 : decode cX8_firstFault 72 = .ok (.istore_n 2, 1) := by decide +kernel
theorem dX8_firstFault_73 : decode cX8_firstFault 73 = .ok (.goto 51, 3) := by decide +kernel
theorem dX8_firstFault_76 : decode cX8_firstFault 76 = .ok (.iload 5, 2) := by decide +kernel
theorem dX8_firstFault_78 : decode cX8_firstFault 78 = .ok (.bipush 45, 2) := by decide +kernel
theorem dX8_firstFault_80 : decode cX8_firstFault 80 = .ok (.if_icmp .ne 20, 3) := by decide +kernel
theorem dX8_firstFault_83 : decode cX8_firstFault 83 = .ok (.iload_n 2, 1) := by decide +kernel
theorem dX8_firstFault_84 : decode cX8_firstFault 84 = .ok (.ifCond .eq 13, 3) := by decide +kernel
theorem dX8_firstFault_87 : decode cX8_firstFault 87 = .ok (.iload_n 2, 1) := by decide +kernel
theorem dX8_firstFault_88 : decode cX8_firstFault 88 = .ok (.bipush 6, 2) := by decide +kernel
theorem dX8_firstFault_90 : decode cX8_firstFault 90 = .ok (.if_icmp .eq 7, 3) := by decide +kernel
theorem dX8_firstFault_93 : decode cX8_firstFault 93 = .ok (.iload_n 3, 1) := by decide +kernel
theorem dX8_firstFault_94 : decode cX8_firstFault 94 = .ok (.ifCond .eq 30, 3) := by decide +kernel
theorem dX8_firstFault_97 : decode cX8_firstFault 97 = .ok (.iload 4, 2) := by decide +kernel
theorem dX8_firstFault_99 : decode cX8_firstFault 99 = .ok (.ireturn, 1) := by decide +kernel
theorem dX8_firstFault_100 : decode cX8_firstFault 100 = .ok (.iload 5, 2) := by decide +kernel
theorem dX8_firstFault_102 : decode cX8_firstFault 102 = .ok (.invokestatic 19, 3) := by decide +kernel
theorem dX8_firstFault_105 : decode cX8_firstFault 105 = .ok (.ifCond .eq 13, 3) := by decide +kernel
theorem dX8_firstFault_108 : decode cX8_firstFault 108 = .ok (.iload_n 1, 1) := by decide +kernel
theorem dX8_firstFault_109 : decode cX8_firstFault 109 = .ok (.ifCond .eq 9, 3) := by decide +kernel
theorem dX8_firstFault_112 : decode cX8_firstFault 112 = .ok (.iload_n 2, 1) := by decide +kernel
theorem dX8_firstFault_113 : decode cX8_firstFault 113 = .ok (.bipush 6, 2) := by decide +kernel
theorem dX8_firstFault_115 : decode cX8_firstFault 115 = .ok (.if_icmp .ne 6, 3) := by decide +kernel
theorem dX8_firstFault_118 : decode cX8_firstFault 118 = .ok (.iload 4, 2) := by decide +kernel
theorem dX8_firstFault_120 : decode cX8_firstFault 120 = .ok (.ireturn, 1) := by decide +kernel
theorem dX8_firstFault_121 : decode cX8_firstFault 121 = .ok (.iinc 2 1, 3) := by decide +kernel
theorem dX8_firstFault_124 : decode cX8_firstFault 124 = .ok (.iload 5, 2) := by decide +kernel
theorem dX8_firstFault_126 : decode cX8_firstFault 126 = .ok (.bipush 45, 2) := by decide +kernel
theorem dX8_firstFault_128 : decode cX8_firstFault 128 = .ok (.if_icmp .ne 7, 3) := by decide +kernel
theorem dX8_firstFault_131 : decode cX8_firstFault 131 = .ok (.iconst 1, 1) := by decide +kernel
theorem dX8_firstFault_132 : decode cX8_firstFault 132 = .ok (.goto 4, 3) := by decide +kernel
theorem dX8_firstFault_135 : decode cX8_firstFault 135 = .ok (.iconst 0, 1) := by decide +kernel
theorem dX8_firstFault_136 : decode cX8_firstFault 136 = .ok (.istore_n 3, 1) := by decide +kernel
theorem dX8_firstFault_137 : decode cX8_firstFault 137 = .ok (.iinc 4 1, 3) := by decide +kernel
theorem dX8_firstFault_140 : decode cX8_firstFault 140 = .ok (.goto (-131), 3) := by decide +kernel
theorem dX8_firstFault_143 : decode cX8_firstFault 143 = .ok (.iload_n 1, 1) := by decide +kernel
theorem dX8_firstFault_144 : decode cX8_firstFault 144 = .ok (.ifCond .le 19, 3) := by decide +kernel
theorem dX8_firstFault_147 : decode cX8_firstFault 147 = .ok (.iload_n 2, 1) := by decide +kernel
theorem dX8_firstFault_148 : decode cX8_firstFault 148 = .ok (.iconst 2, 1) := by decide +kernel
theorem dX8_firstFault_149 : decode cX8_firstFault 149 = .ok (.if_icmp .lt 7, 3) := by decide +kernel
theorem dX8_firstFault_152 : decode cX8_firstFault 152 = .ok (.iload_n 3, 1) := by decide +kernel
theorem dX8_firstFault_153 : decode cX8_firstFault 153 = .ok (.ifCond .eq 10, 3) := by decide +kernel
theorem dX8_firstFault_156 : decode cX8_firstFault 156 = .ok (.aload_n 0, 1) := by decide +kernel
theorem dX8_firstFault_157 : decode cX8_firstFault 157 = .ok (.getfield 15, 3) := by decide +kernel
theorem dX8_firstFault_160 : decode cX8_firstFault 160 = .ok (.goto 5, 3) := by decide +kernel
theorem dX8_firstFault_163 : decode cX8_firstFault 163 = .ok (.bipush (-9), 2) := by decide +kernel
theorem dX8_firstFault_165 : decode cX8_firstFault 165 = .ok (.ireturn, 1) := by decide +kernel
theorem dX8_readInto_0 : decode cX8_readInto 0 = .ok (.aload_n 1, 1) := by decide +kernel
theorem dX8_readInto_1 : decode cX8_readInto 1 = .ok (.iconst 0, 1) := by decide +kernel
theorem dX8_readInto_2 : decode cX8_readInto 2 = .ok (.putfield 23, 3) := by decide +kernel
theorem dX8_readInto_5 : decode cX8_readInto 5 = .ok (.iconst 0, 1) := by decide +kernel
theorem dX8_readInto_6 : decode cX8_readInto 6 = .ok (.istore_n 2, 1) := by decide +kernel
theorem dX8_readInto_7 : decode cX8_readInto 7 = .ok (.iconst 0, 1) := by decide +kernel
theorem dX8_readInto_8 : decode cX8_readInto 8 = .ok (.istore_n 3, 1) := by decide +kernel
theorem dX8_readInto_9 : decode cX8_readInto 9 = .ok (.iconst 0, 1) := by decide +kernel
theorem dX8_readInto_10 : decode cX8_readInto 10 = .ok (.istore 4, 2) := by decide +kernel
theorem dX8_readInto_12 : decode cX8_readInto 12 = .ok (.iconst 0, 1) := by decide +kernel
theorem dX8_readInto_13 : decode cX8_readInto 13 = .ok (.istore 5, 2) := by decide +kernel
theorem dX8_readInto_15 : decode cX8_readInto 15 = .ok (.iload 5, 2) := by decide +kernel
theorem dX8_readInto_17 : decode cX8_readInto 17 = .ok (.aload_n 0, 1) := by decide +kernel
theorem dX8_readInto_18 : decode cX8_readInto 18 = .ok (.getfield 15, 3) := by decide +kernel
theorem dX8_readInto_21 : decode cX8_readInto 21 = .ok (.if_icmp .ge 105, 3) := by decide +kernel
theorem dX8_readInto_24 : decode cX8_readInto 24 = .ok (.aload_n 0, 1) := by decide +kernel
theorem dX8_readInto_25 : decode cX8_readInto 25 = .ok (.getfield 9, 3) := by decide +kernel
theorem dX8_readInto_28 : decode cX8_readInto 28 = .ok (.iload 5, 2) := by decide +kernel
theorem dX8_readInto_30 : decode cX8_readInto 30 = .ok (.iaload, 1) := by decide +kernel
theorem dX8_readInto_31 : decode cX8_readInto 31 = .ok (.istore 6, 2) := by decide +kernel
theorem dX8_readInto_33 : decode cX8_readInto 33 = .ok (.iload 6, 2) := by decide +kernel
theorem dX8_readInto_35 : decode cX8_readInto 35 = .ok (.bipush 87, 2) := by decide +kernel
theorem dX8_readInto_37 : decode cX8_readInto 37 = .ok (.if_icmp .ne 13, 3) := by decide +kernel
theorem dX8_readInto_40 : decode cX8_readInto 40 = .ok (.iconst 0, 1) := by decide +kernel
theorem dX8_readInto_41 : decode cX8_readInto 41 = .ok (.istore_n 2, 1) := by decide +kernel
theorem dX8_readInto_42 : decode cX8_readInto 42 = .ok (.iconst 0, 1) := by decide +kernel
theorem dX8_readInto_43 : decode cX8_readInto 43 = .ok (.istore_n 3, 1) := by decide +kernel
theorem dX8_readInto_44 : decode cX8_readInto 44 = .ok (.iconst 0, 1) := by decide +kernel
theorem dX8_readInto_45 : decode cX8_readInto 45 = .ok (.istore 4, 2) := by decide +kernel
theorem dX8_readInto_47 : decode cX8_readInto 47 = .ok (.goto 38, 3) := by decide +kernel
theorem dX8_readInto_50 : decode cX8_readInto 50 = .ok (.iload 6, 2) := by decide +kernel
theorem dX8_readInto_52 : decode cX8_readInto 52 = .ok (.bipush 45, 2) := by decide +kernel
theorem dX8_readInto_54 : decode cX8_readInto 54 = .ok (.if_icmp .ne 15, 3) := by decide +kernel
theorem dX8_readInto_57 : decode cX8_readInto 57 = .ok (.iload_n 3, 1) := by decide +kernel
theorem dX8_readInto_58 : decode cX8_readInto 58 = .ok (.iconst 1, 1) := by decide +kernel
theorem dX8_readInto_59 : decode cX8_readInto 59 = .ok (.iload 4, 2) := by decide +kernel
theorem dX8_readInto_61 : decode cX8_readInto 61 = .ok (.iconst 1, 1) := by decide +kernel
theorem dX8_readInto_62 : decode cX8_readInto 62 = .ok (.isub, 1) := by decide +kernel
theorem dX8_readInto_63 : decode cX8_readInto 63 = .ok (.ishl, 1) := by decide +kernel
theorem dX8_readInto_64 : decode cX8_readInto 64 = .ok (.ior, 1) := by decide +kernel
theorem dX8_readInto_65 : decode cX8_readInto 65 = .ok (.istore_n 3, 1) := by decide +kernel
theorem dX8_readInto_66 : decode cX8_readInto 66 = .ok (.goto 19, 3) := by decide +kernel
theorem dX8_readInto_69 : decode cX8_readInto 69 = .ok (.iload_n 2, 1) := by decide +kernel
theorem dX8_readInto_70 : decode cX8_readInto 70 = .ok (.bipush 10, 2) := by decide +kernel
theorem dX8_readInto_72 : decode cX8_readInto 72 = .ok (.imul, 1) := by decide +kernel
theorem dX8_readInto_73 : decode cX8_readInto 73 = .ok (.iload 6, 2) := by decide +kernel
theorem dX8_readInto_75 : decode cX8_readInto 75 = .ok (.iadd, 1) := by decide +kernel
theorem dX8_readInto_76 : decode cX8_readInto 76 = .ok (.bipush 97, 2) := by decide +kernel
theorem dX8_readInto_78 : decode cX8_readInto 78 = .ok (.isub, 1) := by decide +kernel
theorem dX8_readInto_79 : decode cX8_readInto 79 = .ok (.iconst 1, 1) := by decide +kernel
theorem dX8_readInto_80 : decode cX8_readInto 80 = .ok (.iadd, 1) := by decide +kernel
theorem dX8_readInto_81 : decode cX8_readInto 81 = .ok (.istore_n 2, 1) := by decide +kernel
theorem dX8_readInto_82 : decode cX8_readInto 82 = .ok (.iinc 4 1, 3) := by decide +kernel
theorem dX8_readInto_85 : decode cX8_readInto 85 = .ok (.iload 5, 2) := by decide +kernel
theorem dX8_readInto_87 : decode cX8_readInto 87 = .ok (.iconst 1, 1) := by decide +kernel
theorem dX8_readInto_88 : decode cX8_readInto 88 = .ok (.iadd, 1) := by decide +kernel
theorem dX8_readInto_89 : decode cX8_readInto 89 = .ok (.aload_n 0, 1) := by decide +kernel
theorem dX8_readInto_90 : decode cX8_readInto 90 = .ok (.getfield 15, 3) := by decide +kernel
theorem dX8_readInto_93 : decode cX8_readInto 93 = .ok (.if_icmp .eq 17, 3) := by decide +kernel
theorem dX8_readInto_96 : decode cX8_readInto 96 = .ok (.aload_n 0, 1) := by decide +kernel
theorem dX8_readInto_97 : decode cX8_readInto 97 = .ok (.getfield 9, 3) := by decide +kernel
theorem dX8_readInto_100 : decode cX8_readInto 100 = .ok (.iload 5, 2) := by decide +kernel
theorem dX8_readInto_102 : decode cX8_readInto 102 = .ok (.iconst 1, 1) := by decide +kernel
theorem dX8_readInto_103 : decode cX8_readInto 103 = .ok (.iadd, 1) := by decide +kernel
theorem dX8_readInto_104 : decode cX8_readInto 104 = .ok (.iaload, 1) := by decide +kernel
theorem dX8_readInto_105 : decode cX8_readInto 105 = .ok (.bipush 87, 2) := by decide +kernel
theorem dX8_readInto_107 : decode cX8_readInto 107 = .ok (.if_icmp .ne 13, 3) := by decide +kernel
theorem dX8_readInto_110 : decode cX8_readInto 110 = .ok (.aload_n 1, 1) := by decide +kernel
theorem dX8_readInto_111 : decode cX8_readInto 111 = .ok (.aload_n 1, 1) := by decide +kernel
theorem dX8_readInto_112 : decode cX8_readInto 112 = .ok (.getfield 23, 3) := by decide +kernel
theorem dX8_readInto_115 : decode cX8_readInto 115 = .ok (.iload_n 2, 1) := by decide +kernel
theorem dX8_readInto_116 : decode cX8_readInto 116 = .ok (.iload_n 3, 1) := by decide +kernel
theorem dX8_readInto_117 : decode cX8_readInto 117 = .ok (.invokevirtual 28, 3) := by decide +kernel
theorem dX8_readInto_120 : decode cX8_readInto 120 = .ok (.iinc 5 1, 3) := by decide +kernel
theorem dX8_readInto_123 : decode cX8_readInto 123 = .ok (.goto (-108), 3) := by decide +kernel
theorem dX8_readInto_126 : decode cX8_readInto 126 = .ok (.return_, 1) := by decide +kernel
theorem dX8_isLetter_0 : decode cX8_isLetter 0 = .ok (.iload_n 0, 1) := by decide +kernel
theorem dX8_isLetter_1 : decode cX8_isLetter 1 = .ok (.bipush 97, 2) := by decide +kernel
theorem dX8_isLetter_3 : decode cX8_isLetter 3 = .ok (.if_icmp .lt 13, 3) := by decide +kernel
theorem dX8_isLetter_6 : decode cX8_isLetter 6 = .ok (.iload_n 0, 1) := by decide +kernel
theorem dX8_isLetter_7 : decode cX8_isLetter 7 = .ok (.bipush 101, 2) := by decide +kernel
theorem dX8_isLetter_9 : decode cX8_isLetter 9 = .ok (.if_icmp .gt 7, 3) := by decide +kernel
theorem dX8_isLetter_12 : decode cX8_isLetter 12 = .ok (.iconst 1, 1) := by decide +kernel
theorem dX8_isLetter_13 : decode cX8_isLetter 13 = .ok (.goto 4, 3) := by decide +kernel
theorem dX8_isLetter_16 : decode cX8_isLetter 16 = .ok (.iconst 0, 1) := by decide +kernel
theorem dX8_isLetter_17 : decode cX8_isLetter 17 = .ok (.ireturn, 1) := by decide +kernel
theorem dX9_init_0 : decode cX9_init 0 = .ok (.aload_n 0, 1) := by decide +kernel
theorem dX9_init_1 : decode cX9_init 1 = .ok (.invokespecial 3, 3) := by decide +kernel
theorem dX9_init_4 : decode cX9_init 4 = .ok (.aload_n 0, 1) := by decide +kernel
theorem dX9_init_5 : decode cX9_init 5 = .ok (.sipush 343, 3) := by decide +kernel
theorem dX9_init_8 : decode cX9_init 8 = .ok (.newarray .boolean, 2) := by decide +kernel
theorem dX9_init_10 : decode cX9_init 10 = .ok (.putfield 9, 3) := by decide +kernel
theorem dX9_init_13 : decode cX9_init 13 = .ok (.aload_n 0, 1) := by decide +kernel
theorem dX9_init_14 : decode cX9_init 14 = .ok (.bipush 49, 2) := by decide +kernel
theorem dX9_init_16 : decode cX9_init 16 = .ok (.newarray .int, 2) := by decide +kernel
theorem dX9_init_18 : decode cX9_init 18 = .ok (.putfield 15, 3) := by decide +kernel
theorem dX9_init_21 : decode cX9_init 21 = .ok (.aload_n 0, 1) := by decide +kernel
theorem dX9_init_22 : decode cX9_init 22 = .ok (.sipush 301, 3) := by decide +kernel
theorem dX9_init_25 : decode cX9_init 25 = .ok (.newarray .int, 2) := by decide +kernel
theorem dX9_init_27 : decode cX9_init 27 = .ok (.putfield 19, 3) := by decide +kernel
theorem dX9_init_30 : decode cX9_init 30 = .ok (.return_, 1) := by decide +kernel
theorem dX9_packFrom_0 : decode cX9_packFrom 0 = .ok (.aload_n 0, 1) := by decide +kernel
theorem dX9_packFrom_1 : decode cX9_packFrom 1 = .ok (.getfield 22, 3) := by decide +kernel
theorem dX9_packFrom_4 : decode cX9_packFrom 4 = .ok (.ifCond .eq 4, 3) := by decide +kernel
theorem dX9_packFrom_7 : decode cX9_packFrom 7 = .ok (.return_, 1) := by decide +kernel
theorem dX9_packFrom_8 : decode cX9_packFrom 8 = .ok (.aload_n 0, 1) := by decide +kernel
theorem dX9_packFrom_9 : decode cX9_packFrom 9 = .ok (.aload_n 1, 1) := by decide +kernel
theorem dX9_packFrom_10 : decode cX9_packFrom 10 = .ok (.invokevirtual 26, 3) := by decide +kernel
theorem dX9_packFrom_13 : decode cX9_packFrom 13 = .ok (.aload_n 0, 1) := by decide +kernel
theorem dX9_packFrom_14 : decode cX9_packFrom 14 = .ok (.getfield 19, 3) := by decide +kernel
theorem dX9_packFrom_17 : decode cX9_packFrom 17 = .ok (.iconst 0, 1) := by decide +kernel
theorem dX9_packFrom_18 : decode cX9_packFrom 18 = .ok (.invokestatic 30, 3) := by decide +kernel
theorem dX9_packFrom_21 : decode cX9_packFrom 21 = .ok (.aload_n 0, 1) := by decide +kernel
theorem dX9_packFrom_22 : decode cX9_packFrom 22 = .ok (.iconst 0, 1) := by decide +kernel
theorem dX9_packFrom_23 : decode cX9_packFrom 23 = .ok (.putfield 36, 3) := by decide +kernel
theorem dX9_packFrom_26 : decode cX9_packFrom 26 = .ok (.iconst 0, 1) := by decide +kernel
theorem dX9_packFrom_27 : decode cX9_packFrom 27 = .ok (.istore_n 2, 1) := by decide +kernel
theorem dX9_packFrom_28 : decode cX9_packFrom 28 = .ok (.iload_n 2, 1) := by decide +kernel
theorem dX9_packFrom_29 : decode cX9_packFrom 29 = .ok (.bipush 49, 2) := by decide +kernel
theorem dX9_packFrom_31 : decode cX9_packFrom 31 = .ok (.if_icmp .ge 35, 3) := by decide +kernel
theorem dX9_packFrom_34 : decode cX9_packFrom 34 = .ok (.aload_n 0, 1) := by decide +kernel
theorem dX9_packFrom_35 : decode cX9_packFrom 35 = .ok (.getfield 15, 3) := by decide +kernel
theorem dX9_packFrom_38 : decode cX9_packFrom 38 = .ok (.iload_n 2, 1) := by decide +kernel
theorem dX9_packFrom_39 : decode cX9_packFrom 39 = .ok (.bipush (-9), 2) := by decide +kernel
theorem dX9_packFrom_41 : decode cX9_packFrom 41 = .ok (.iastore, 1) := by decide +kernel
theorem dX9_packFrom_42 : decode cX9_packFrom 42 = .ok (.aload_n 0, 1) := by decide +kernel
theorem dX9_packFrom_43 : decode cX9_packFrom 43 = .ok (.iload_n 2, 1) := by decide +kernel
theorem dX9_packFrom_44 : decode cX9_packFrom 44 = .ok (.invokevirtual 40, 3) := by decide +kernel
theorem dX9_packFrom_47 : decode cX9_packFrom 47 = .ok (.ifCond .eq 13, 3) := by decide +kernel
theorem dX9_packFrom_50 : decode cX9_packFrom 50 = .ok (.aload_n 0, 1) := by decide +kernel
theorem dX9_packFrom_51 : decode cX9_packFrom 51 = .ok (.iload_n 2, 1) := by decide +kernel
theorem dX9_packFrom_52 : decode cX9_packFrom 52 = .ok (.aload_n 0, 1) := by decide +kernel
theorem dX9_packFrom_53 : decode cX9_packFrom 53 = .ok (.iload_n 2, 1) := by decide +kernel
theorem dX9_packFrom_54 : decode cX9_packFrom 54 = .ok (.invokevirtual 44, 3) := by decide +kernel
theorem dX9_packFrom_57 : decode cX9_packFrom 57 = .ok (.invokevirtual 48, 3) := by decide +kernel
theorem dX9_packFrom_60 : decode cX9_packFrom 60 = .ok (.iinc 2 1, 3) := by decide +kernel
theorem dX9_packFrom_63 : decode cX9_packFrom 63 = .ok (.goto (-35), 3) := by decide +kernel
theorem dX9_packFrom_66 : decode cX9_packFrom 66 = .ok (.aload_n 0, 1) := by decide +kernel
theorem dX9_packFrom_67 : decode cX9_packFrom 67 = .ok (.iconst 1, 1) := by decide +kernel
theorem dX9_packFrom_68 : decode cX9_packFrom 68 = .ok (.putfield 22, 3) := by decide +kernel
theorem dX9_packFrom_71 : decode cX9_packFrom 71 = .ok (.return_, 1) := by decide +kernel
theorem dX9_takeNodes_0 : decode cX9_takeNodes 0 = .ok (.iconst 0, 1) := by decide +kernel
theorem dX9_takeNodes_1 : decode cX9_takeNodes 1 = .ok (.istore_n 2, 1) := by decide +kernel
theorem dX9_takeNodes_2 : decode cX9_takeNodes 2 = .ok (.iload_n 2, 1) := by decide +kernel
theorem dX9_takeNodes_3 : decode cX9_takeNodes 3 = .ok (.sipush 343, 3) := by decide +kernel
theorem dX9_takeNodes_6 : decode cX9_takeNodes 6 = .ok (.if_icmp .ge 16, 3) := by decide +kernel
theorem dX9_takeNodes_9 : decode cX9_takeNodes 9 = .ok (.aload_n 0, 1) := by decide +kernel
theorem dX9_takeNodes_10 : decode cX9_takeNodes 10 = .ok (.getfield 9, 3) := by decide +kernel
theorem dX9_takeNodes_13 : decode cX9_takeNodes 13 = .ok (.iload_n 2, 1) := by decide +kernel
theorem dX9_takeNodes_14 : decode cX9_takeNodes 14 = .ok (.iconst 0, 1) := by decide +kernel
theorem dX9_takeNodes_15 : decode cX9_takeNodes 15 = .ok (.bastore, 1) := by decide +kernel
theorem dX9_takeNodes_16 : decode cX9_takeNodes 16 = .ok (.iinc 2 1, 3) := by decide +kernel
theorem dX9_takeNodes_19 : decode cX9_takeNodes 19 = .ok (.goto (-17), 3) := by decide +kernel
theorem dX9_takeNodes_22 : decode cX9_takeNodes 22 = .ok (.aload_n 0, 1) := by decide +kernel
theorem dX9_takeNodes_23 : decode cX9_takeNodes 23 = .ok (.iconst 0, 1) := by decide +kernel
theorem dX9_takeNodes_24 : decode cX9_takeNodes 24 = .ok (.putfield 52, 3) := by decide +kernel
theorem dX9_takeNodes_27 : decode cX9_takeNodes 27 = .ok (.iconst 0, 1) := by decide +kernel
theorem dX9_takeNodes_28 : decode cX9_takeNodes 28 = .ok (.istore_n 2, 1) := by decide +kernel
theorem dX9_takeNodes_29 : decode cX9_takeNodes 29 = .ok (.iload_n 2, 1) := by decide +kernel
theorem dX9_takeNodes_30 : decode cX9_takeNodes 30 = .ok (.aload_n 1, 1) := by decide +kernel
theorem dX9_takeNodes_31 : decode cX9_takeNodes 31 = .ok (.getfield 55, 3) := by decide +kernel
theorem dX9_takeNodes_34 : decode cX9_takeNodes 34 = .ok (.getfield 61, 3) := by decide +kernel
theorem dX9_takeNodes_37 : decode cX9_takeNodes 37 = .ok (.if_icmp .ge 56, 3) := by decide +kernel
theorem dX9_takeNodes_40 : decode cX9_takeNodes 40 = .ok (.aload_n 1, 1) := by decide +kernel
theorem dX9_takeNodes_41 : decode cX9_takeNodes 41 = .ok (.getfield 66, 3) := by decide +kernel
theorem dX9_takeNodes_44 : decode cX9_takeNodes 44 = .ok (.iload_n 2, 1) := by decide +kernel
theorem dX9_takeNodes_45 : decode cX9_takeNodes 45 = .ok (.iaload, 1) := by decide +kernel
theorem dX9_takeNodes_46 : decode cX9_takeNodes 46 = .ok (.ifCond .le 41, 3) := by decide +kernel
theorem dX9_takeNodes_49 : decode cX9_takeNodes 49 = .ok (.aload_n 1, 1) := by decide +kernel
theorem dX9_takeNodes_50 : decode cX9_takeNodes 50 = .ok (.getfield 55, 3) := by decide +kernel
theorem dX9_takeNodes_53 : decode cX9_takeNodes 53 = .ok (.getfield 69, 3) := by decide +kernel
theorem dX9_takeNodes_56 : decode cX9_takeNodes 56 = .ok (.iload_n 2, 1) := by decide +kernel
theorem dX9_takeNodes_57 : decode cX9_takeNodes 57 = .ok (.iaload, 1) := by decide +kernel
theorem dX9_takeNodes_58 : decode cX9_takeNodes 58 = .ok (.iconst 4, 1) := by decide +kernel
theorem dX9_takeNodes_59 : decode cX9_takeNodes 59 = .ok (.idiv, 1) := by decide +kernel
theorem dX9_takeNodes_60 : decode cX9_takeNodes 60 = .ok (.istore_n 3, 1) := by decide +kernel
theorem dX9_takeNodes_61 : decode cX9_takeNodes 61 = .ok (.aload_n 0, 1) := by decide +kernel
theorem dX9_takeNodes_62 : decode cX9_takeNodes 62 = .ok (.iload_n 3, 1) := by decide +kernel
theorem dX9_takeNodes_63 : decode cX9_takeNodes 63 = .ok (.invokevirtual 72, 3) := by decide +kernel
theorem dX9_takeNodes_66 : decode cX9_takeNodes 66 = .ok (.aload_n 0, 1) := by decide +kernel
theorem dX9_takeNodes_67 : decode cX9_takeNodes 67 = .ok (.iload_n 3, 1) := by decide +kernel
theorem dX9_takeNodes_68 : decode cX9_takeNodes 68 = .ok (.bipush 7, 2) := by decide +kernel
theorem dX9_takeNodes_70 : decode cX9_takeNodes 70 = .ok (.idiv, 1) := by decide +kernel
theorem dX9_takeNodes_71 : decode cX9_takeNodes 71 = .ok (.invokevirtual 72, 3) := by decide +kernel
theorem dX9_takeNodes_74 : decode cX9_takeNodes 74 = .ok (.aload_n 0, 1) := by decide +kernel
theorem dX9_takeNodes_75 : decode cX9_takeNodes 75 = .ok (.iload_n 3, 1) := by decide +kernel
theorem dX9_takeNodes_76 : decode cX9_takeNodes 76 = .ok (.bipush 49, 2) := by decide +kernel
theorem dX9_takeNodes_78 : decode cX9_takeNodes 78 = .ok (.idiv, 1) := by decide +kernel
theorem dX9_takeNodes_79 : decode cX9_takeNodes 79 = .ok (.invokevirtual 72, 3) := by decide +kernel
theorem dX9_takeNodes_82 : decode cX9_takeNodes 82 = .ok (.aload_n 0, 1) := by decide +kernel
theorem dX9_takeNodes_83 : decode cX9_takeNodes 83 = .ok (.iconst 0, 1) := by decide +kernel
theorem dX9_takeNodes_84 : decode cX9_takeNodes 84 = .ok (.invokevirtual 72, 3) := by decide +kernel
theorem dX9_takeNodes_87 : decode cX9_takeNodes 87 = .ok (.iinc 2 1, 3) := by decide +kernel
theorem dX9_takeNodes_90 : decode cX9_takeNodes 90 = .ok (.goto (-61), 3) := by decide +kernel
theorem dX9_takeNodes_93 : decode cX9_takeNodes 93 = .ok (.return_, 1) := by decide +kernel
theorem dX9_takeNode_0 : decode cX9_takeNode 0 = .ok (.aload_n 0, 1) := by decide +kernel
theorem dX9_takeNode_1 : decode cX9_takeNode 1 = .ok (.getfield 9, 3) := by decide +kernel
theorem dX9_takeNode_4 : decode cX9_takeNode 4 = .ok (.iload_n 1, 1) := by decide +kernel
theorem dX9_takeNode_5 : decode cX9_takeNode 5 = .ok (.baload, 1) := by decide +kernel
theorem dX9_takeNode_6 : decode cX9_takeNode 6 = .ok (.ifCond .ne 20, 3) := by decide +kernel
theorem dX9_takeNode_9 : decode cX9_takeNode 9 = .ok (.aload_n 0, 1) := by decide +kernel
theorem dX9_takeNode_10 : decode cX9_takeNode 10 = .ok (.getfield 9, 3) := by decide +kernel
theorem dX9_takeNode_13 : decode cX9_takeNode 13 = .ok (.iload_n 1, 1) := by decide +kernel
theorem dX9_takeNode_14 : decode cX9_takeNode 14 = .ok (.iconst 1, 1) := by decide +kernel
theorem dX9_takeNode_15 : decode cX9_takeNode 15 = .ok (.bastore, 1) := by decide +kernel
theorem dX9_takeNode_16 : decode cX9_takeNode 16 = .ok (.aload_n 0, 1) := by decide +kernel
theorem dX9_takeNode_17 : decode cX9_takeNode 17 = .ok (.dup, 1) := by decide +kernel
theorem dX9_takeNode_18 : decode cX9_takeNode 18 = .ok (.getfield 52, 3) := by decide +kernel
theorem dX9_takeNode_21 : decode cX9_takeNode 21 = .ok (.iconst 1, 1) := by decide +kernel
theorem dX9_takeNode_22 : decode cX9_takeNode 22 = .ok (.iadd, 1) := by decide +kernel
theorem dX9_takeNode_23 : decode cX9_takeNode 23 = .ok (.putfield 52, 3) := by decide +kernel
theorem dX9_takeNode_26 : decode cX9_takeNode 26 = .ok (.return_, 1) := by decide +kernel
theorem dX9_hasLonger_0 : decode cX9_hasLonger 0 = .ok (.iconst 1, 1) := by decide +kernel
theorem dX9_hasLonger_1 : decode cX9_hasLonger 1 = .ok (.istore_n 2, 1) := by decide +kernel
theorem dX9_hasLonger_2 : decode cX9_hasLonger 2 = .ok (.iload_n 2, 1) := by decide +kernel
theorem dX9_hasLonger_3 : decode cX9_hasLonger 3 = .ok (.bipush 6, 2) := by decide +kernel
theorem dX9_hasLonger_5 : decode cX9_hasLonger 5 = .ok (.if_icmp .gt 25, 3) := by decide +kernel
theorem dX9_hasLonger_8 : decode cX9_hasLonger 8 = .ok (.aload_n 0, 1) := by decide +kernel
theorem dX9_hasLonger_9 : decode cX9_hasLonger 9 = .ok (.getfield 9, 3) := by decide +kernel
theorem dX9_hasLonger_12 : decode cX9_hasLonger 12 = .ok (.iload_n 1, 1) := by decide +kernel
theorem dX9_hasLonger_13 : decode cX9_hasLonger 13 = .ok (.bipush 7, 2) := by decide +kernel
theorem dX9_hasLonger_15 : decode cX9_hasLonger 15 = .ok (.imul, 1) := by decide +kernel
theorem dX9_hasLonger_16 : decode cX9_hasLonger 16 = .ok (.iload_n 2, 1) := by decide +kernel
theorem dX9_hasLonger_17 : decode cX9_hasLonger 17 = .ok (.iadd, 1) := by decide +kernel
theorem dX9_hasLonger_18 : decode cX9_hasLonger 18 = .ok (.baload, 1) := by decide +kernel
theorem dX9_hasLonger_19 : decode cX9_hasLonger 19 = .ok (.ifCond .eq 5, 3) := by decide +kernel
theorem dX9_hasLonger_22 : decode cX9_hasLonger 22 = .ok (.iconst 1, 1) := by decide +kernel
theorem dX9_hasLonger_23 : decode cX9_hasLonger 23 = .ok (.ireturn, 1) := by decide +kernel
theorem dX9_hasLonger_24 : decode cX9_hasLonger 24 = .ok (.iinc 2 1, 3) := by decide +kernel
theorem dX9_hasLonger_27 : decode cX9_hasLonger 27 = .ok (.goto (-25), 3) := by decide +kernel
theorem dX9_hasLonger_30 : decode cX9_hasLonger 30 = .ok (.iconst 0, 1) := by decide +kernel
theorem dX9_hasLonger_31 : decode cX9_hasLonger 31 = .ok (.ireturn, 1) := by decide +kernel
theorem dX9_leastBase_0 : decode cX9_leastBase 0 = .ok (.iconst 0, 1) := by decide +kernel
theorem dX9_leastBase_1 : decode cX9_leastBase 1 = .ok (.istore_n 2, 1) := by decide +kernel
theorem dX9_leastBase_2 : decode cX9_leastBase 2 = .ok (.iload_n 2, 1) := by decide +kernel
theorem dX9_leastBase_3 : decode cX9_leastBase 3 = .ok (.bipush 6, 2) := by decide +kernel
theorem dX9_leastBase_5 : decode cX9_leastBase 5 = .ok (.iadd, 1) := by decide +kernel
theorem dX9_leastBase_6 : decode cX9_leastBase 6 = .ok (.sipush 301, 3) := by decide +kernel
theorem dX9_leastBase_9 : decode cX9_leastBase 9 = .ok (.if_icmp .ge 20, 3) := by decide +kernel
theorem dX9_leastBase_12 : decode cX9_leastBase 12 = .ok (.aload_n 0, 1) := by decide +kernel
theorem dX9_leastBase_13 : decode cX9_leastBase 13 = .ok (.iload_n 1, 1) := by decide +kernel
theorem dX9_leastBase_14 : decode cX9_leastBase 14 = .ok (.iload_n 2, 1) := by decide +kernel
theorem dX9_leastBase_15 : decode cX9_leastBase 15 = .ok (.invokevirtual 76, 3) := by decide +kernel
theorem dX9_leastBase_18 : decode cX9_leastBase 18 = .ok (.ifCond .eq 5, 3) := by decide +kernel
theorem dX9_leastBase_21 : decode cX9_leastBase 21 = .ok (.iload_n 2, 1) := by decide +kernel
theorem dX9_leastBase_22 : decode cX9_leastBase 22 = .ok (.ireturn, 1) := by decide +kernel
theorem dX9_leastBase_23 : decode cX9_leastBase 23 = .ok (.iinc 2 1, 3) := by decide +kernel
theorem dX9_leastBase_26 : decode cX9_leastBase 26 = .ok (.goto (-24), 3) := by decide +kernel
theorem dX9_leastBase_29 : decode cX9_leastBase 29 = .ok (.sipush 294, 3) := by decide +kernel
theorem dX9_leastBase_32 : decode cX9_leastBase 32 = .ok (.ireturn, 1) := by decide +kernel
theorem dX9_isFree_0 : decode cX9_isFree 0 = .ok (.iconst 1, 1) := by decide +kernel
theorem dX9_isFree_1 : decode cX9_isFree 1 = .ok (.istore_n 3, 1) := by decide +kernel
theorem dX9_isFree_2 : decode cX9_isFree 2 = .ok (.iload_n 3, 1) := by decide +kernel
theorem dX9_isFree_3 : decode cX9_isFree 3 = .ok (.bipush 6, 2) := by decide +kernel
theorem dX9_isFree_5 : decode cX9_isFree 5 = .ok (.if_icmp .gt 36, 3) := by decide +kernel
theorem dX9_isFree_8 : decode cX9_isFree 8 = .ok (.aload_n 0, 1) := by decide +kernel
theorem dX9_isFree_9 : decode cX9_isFree 9 = .ok (.getfield 9, 3) := by decide +kernel
theorem dX9_isFree_12 : decode cX9_isFree 12 = .ok (.iload_n 1, 1) := by decide +kernel
theorem dX9_isFree_13 : decode cX9_isFree 13 = .ok (.bipush 7, 2) := by decide +kernel
theorem dX9_isFree_15 : decode cX9_isFree 15 = .ok (.imul, 1) := by decide +kernel
theorem dX9_isFree_16 : decode cX9_isFree 16 = .ok (.iload_n 3, 1) := by decide +kernel
theorem dX9_isFree_17 : decode cX9_isFree 17 = .ok (.iadd, 1) := by decide +kernel
theorem dX9_isFree_18 : decode cX9_isFree 18 = .ok (.baload, 1) := by decide +kernel
theorem dX9_isFree_19 : decode cX9_isFree 19 = .ok (.ifCond .eq 16, 3) := by decide +kernel
theorem dX9_isFree_22 : decode cX9_isFree 22 = .ok (.aload_n 0, 1) := by decide +kernel
theorem dX9_isFree_23 : decode cX9_isFree 23 = .ok (.getfield 19, 3) := by decide +kernel
theorem dX9_isFree_26 : decode cX9_isFree 26 = .ok (.iload_n 2, 1) := by decide +kernel
theorem dX9_isFree_27 : decode cX9_isFree 27 = .ok (.iload_n 3, 1) := by decide +kernel
theorem dX9_isFree_28 : decode cX9_isFree 28 = .ok (.iadd, 1) := by decide +kernel
theorem dX9_isFree_29 : decode cX9_isFree 29 = .ok (.iaload, 1) := by decide +kernel
theorem dX9_isFree_30 : decode cX9_isFree 30 = .ok (.ifCond .eq 5, 3) := by decide +kernel
theorem dX9_isFree_33 : decode cX9_isFree 33 = .ok (.iconst 0, 1) := by decide +kernel
theorem dX9_isFree_34 : decode cX9_isFree 34 = .ok (.ireturn, 1) := by decide +kernel
theorem dX9_isFree_35 : decode cX9_isFree 35 = .ok (.iinc 3 1, 3) := by decide +kernel
theorem dX9_isFree_38 : decode cX9_isFree 38 = .ok (.goto (-36), 3) := by decide +kernel
theorem dX9_isFree_41 : decode cX9_isFree 41 = .ok (.iconst 1, 1) := by decide +kernel
theorem dX9_isFree_42 : decode cX9_isFree 42 = .ok (.ireturn, 1) := by decide +kernel
theorem dX9_placeLonger_0 : decode cX9_placeLonger 0 = .ok (.aload_n 0, 1) := by decide +kernel
theorem dX9_placeLonger_1 : decode cX9_placeLonger 1 = .ok (.getfield 15, 3) := by decide +kernel
theorem dX9_placeLonger_4 : decode cX9_placeLonger 4 = .ok (.iload_n 1, 1) := by decide +kernel
theorem dX9_placeLonger_5 : decode cX9_placeLonger 5 = .ok (.iload_n 2, 1) := by decide +kernel
theorem dX9_placeLonger_6 : decode cX9_placeLonger 6 = .ok (.iastore, 1) := by decide +kernel
theorem dX9_placeLonger_7 : decode cX9_placeLonger 7 = .ok (.iconst 1, 1) := by decide +kernel
theorem dX9_placeLonger_8 : decode cX9_placeLonger 8 = .ok (.istore_n 3, 1) := by decide +kernel
theorem dX9_placeLonger_9 : decode cX9_placeLonger 9 = .ok (.iload_n 3, 1) := by decide +kernel
theorem dX9_placeLonger_10 : decode cX9_placeLonger 10 = .ok (.bipush 6, 2) := by decide +kernel
theorem dX9_placeLonger_12 : decode cX9_placeLonger 12 = .ok (.if_icmp .gt 53, 3) := by decide +kernel
theorem dX9_placeLonger_15 : decode cX9_placeLonger 15 = .ok (.iload_n 1, 1) := by decide +kernel
theorem dX9_placeLonger_16 : decode cX9_placeLonger 16 = .ok (.bipush 7, 2) := by decide +kernel
theorem dX9_placeLonger_18 : decode cX9_placeLonger 18 = .ok (.imul, 1) := by decide +kernel
theorem dX9_placeLonger_19 : decode cX9_placeLonger 19 = .ok (.iload_n 3, 1) := by decide +kernel
theorem dX9_placeLonger_20 : decode cX9_placeLonger 20 = .ok (.iadd, 1) := by decide +kernel
theorem dX9_placeLonger_21 : decode cX9_placeLonger 21 = .ok (.istore 4, 2) := by decide +kernel
theorem dX9_placeLonger_23 : decode cX9_placeLonger 23 = .ok (.aload_n 0, 1) := by decide +kernel
theorem dX9_placeLonger_24 : decode cX9_placeLonger 24 = .ok (.getfield 9, 3) := by decide +kernel
theorem dX9_placeLonger_27 : decode cX9_placeLonger 27 = .ok (.iload 4, 2) := by decide +kernel
theorem dX9_placeLonger_29 : decode cX9_placeLonger 29 = .ok (.baload, 1) := by decide +kernel
theorem dX9_placeLonger_30 : decode cX9_placeLonger 30 = .ok (.ifCond .eq 29, 3) := by decide +kernel
theorem dX9_placeLonger_33 : decode cX9_placeLonger 33 = .ok (.aload_n 0, 1) := by decide +kernel
theorem dX9_placeLonger_34 : decode cX9_placeLonger 34 = .ok (.getfield 19, 3) := by decide +kernel
theorem dX9_placeLonger_37 : decode cX9_placeLonger 37 = .ok (.iload_n 2, 1) := by decide +kernel
theorem dX9_placeLonger_38 : decode cX9_placeLonger 38 = .ok (.iload_n 3, 1) := by decide +kernel
theorem dX9_placeLonger_39 : decode cX9_placeLonger 39 = .ok (.iadd, 1) := by decide +kernel
theorem dX9_placeLonger_40 : decode cX9_placeLonger 40 = .ok (.iload 4, 2) := by decide +kernel
theorem dX9_placeLonger_42 : decode cX9_placeLonger 42 = .ok (.iastore, 1) := by decide +kernel
theorem dX9_placeLonger_43 : decode cX9_placeLonger 43 = .ok (.aload_n 0, 1) := by decide +kernel
theorem dX9_placeLonger_44 : decode cX9_placeLonger 44 = .ok (.aload_n 0, 1) := by decide +kernel
theorem dX9_placeLonger_45 : decode cX9_placeLonger 45 = .ok (.getfield 36, 3) := by decide +kernel
theorem dX9_placeLonger_48 : decode cX9_placeLonger 48 = .ok (.iload_n 2, 1) := by decide +kernel
theorem dX9_placeLonger_49 : decode cX9_placeLonger 49 = .ok (.iload_n 3, 1) := by decide +kernel
theorem dX9_placeLonger_50 : decode cX9_placeLonger 50 = .ok (.iadd, 1) := by decide +kernel
theorem dX9_placeLonger_51 : decode cX9_placeLonger 51 = .ok (.iconst 1, 1) := by decide +kernel
theorem dX9_placeLonger_52 : decode cX9_placeLonger 52 = .ok (.iadd, 1) := by decide +kernel
theorem dX9_placeLonger_53 : decode cX9_placeLonger 53 = .ok (.invokestatic 80, 3) := by decide +kernel
theorem dX9_placeLonger_56 : decode cX9_placeLonger 56 = .ok (.putfield 36, 3) := by decide +kernel
theorem dX9_placeLonger_59 : decode cX9_placeLonger 59 = .ok (.iinc 3 1, 3) := by decide +kernel
theorem dX9_placeLonger_62 : decode cX9_placeLonger 62 = .ok (.goto (-53), 3) := by decide +kernel
theorem dX9_placeLonger_65 : decode cX9_placeLonger 65 = .ok (.return_, 1) := by decide +kernel
theorem dX9_baseOf_0 : decode cX9_baseOf 0 = .ok (.iload_n 1, 1) := by decide +kernel
theorem dX9_baseOf_1 : decode cX9_baseOf 1 = .ok (.ifCond .lt 18, 3) := by decide +kernel
theorem dX9_baseOf_4 : decode cX9_baseOf 4 = .ok (.iload_n 1, 1) := by decide +kernel
theorem dX9_baseOf_5 : decode cX9_baseOf 5 = .ok (.bipush 49, 2) := by decide +kernel
theorem dX9_baseOf_7 : decode cX9_baseOf 7 = .ok (.if_icmp .ge 12, 3) := by decide +kernel
theorem dX9_baseOf_10 : decode cX9_baseOf 10 = .ok (.aload_n 0, 1) := by decide +kernel
theorem dX9_baseOf_11 : decode cX9_baseOf 11 = .ok (.getfield 15, 3) := by decide +kernel
theorem dX9_baseOf_14 : decode cX9_baseOf 14 = .ok (.iload_n 1, 1) := by decide +kernel
theorem dX9_baseOf_15 : decode cX9_baseOf 15 = .ok (.iaload, 1) := by decide +kernel
theorem dX9_baseOf_16 : decode cX9_baseOf 16 = .ok (.goto 5, 3) := by decide +kernel
theorem dX9_baseOf_19 : decode cX9_baseOf 19 = .ok (.bipush (-9), 2) := by decide +kernel
theorem dX9_baseOf_21 : decode cX9_baseOf 21 = .ok (.ireturn, 1) := by decide +kernel
theorem dX9_nodeIn_0 : decode cX9_nodeIn 0 = .ok (.iload_n 1, 1) := by decide +kernel
theorem dX9_nodeIn_1 : decode cX9_nodeIn 1 = .ok (.ifCond .lt 19, 3) := by decide +kernel
theorem dX9_nodeIn_4 : decode cX9_nodeIn 4 = .ok (.iload_n 1, 1) := by decide +kernel
theorem dX9_nodeIn_5 : decode cX9_nodeIn 5 = .ok (.sipush 301, 3) := by decide +kernel
theorem dX9_nodeIn_8 : decode cX9_nodeIn 8 = .ok (.if_icmp .ge 12, 3) := by decide +kernel
theorem dX9_nodeIn_11 : decode cX9_nodeIn 11 = .ok (.aload_n 0, 1) := by decide +kernel
theorem dX9_nodeIn_12 : decode cX9_nodeIn 12 = .ok (.getfield 19, 3) := by decide +kernel
theorem dX9_nodeIn_15 : decode cX9_nodeIn 15 = .ok (.iload_n 1, 1) := by decide +kernel
theorem dX9_nodeIn_16 : decode cX9_nodeIn 16 = .ok (.iaload, 1) := by decide +kernel
theorem dX9_nodeIn_17 : decode cX9_nodeIn 17 = .ok (.ifCond .ne 7, 3) := by decide +kernel
theorem dX9_nodeIn_20 : decode cX9_nodeIn 20 = .ok (.iconst 1, 1) := by decide +kernel
theorem dX9_nodeIn_21 : decode cX9_nodeIn 21 = .ok (.goto 4, 3) := by decide +kernel
theorem dX9_nodeIn_24 : decode cX9_nodeIn 24 = .ok (.iconst 0, 1) := by decide +kernel
theorem dX9_nodeIn_25 : decode cX9_nodeIn 25 = .ok (.istore_n 2, 1) := by decide +kernel
theorem dX9_nodeIn_26 : decode cX9_nodeIn 26 = .ok (.iload_n 2, 1) := by decide +kernel
theorem dX9_nodeIn_27 : decode cX9_nodeIn 27 = .ok (.ifCond .eq 8, 3) := by decide +kernel
theorem dX9_nodeIn_30 : decode cX9_nodeIn 30 = .ok (.bipush (-9), 2) := by decide +kernel
theorem dX9_nodeIn_32 : decode cX9_nodeIn 32 = .ok (.goto 12, 3) := by decide +kernel
theorem dX9_nodeIn_35 : decode cX9_nodeIn 35 = .ok (.aload_n 0, 1) := by decide +kernel
theorem dX9_nodeIn_36 : decode cX9_nodeIn 36 = .ok (.getfield 19, 3) := by decide +kernel
theorem dX9_nodeIn_39 : decode cX9_nodeIn 39 = .ok (.iload_n 1, 1) := by decide +kernel
theorem dX9_nodeIn_40 : decode cX9_nodeIn 40 = .ok (.iaload, 1) := by decide +kernel
theorem dX9_nodeIn_41 : decode cX9_nodeIn 41 = .ok (.invokestatic 86, 3) := by decide +kernel
theorem dX9_nodeIn_44 : decode cX9_nodeIn 44 = .ok (.ireturn, 1) := by decide +kernel
theorem dX10_init_0 : decode cX10_init 0 = .ok (.aload_n 0, 1) := by decide +kernel
theorem dX10_init_1 : decode cX10_init 1 = .ok (.invokespecial 3, 3) := by decide +kernel
theorem dX10_init_4 : decode cX10_init 4 = .ok (.aload_n 0, 1) := by decide +kernel
theorem dX10_init_5 : decode cX10_init 5 = .ok (.new 9, 3) := by decide +kernel
theorem dX10_init_8 : decode cX10_init 8 = .ok (.dup, 1) := by decide +kernel
theorem dX10_init_9 : decode cX10_init 9 = .ok (.invokespecial 11, 3) := by decide +kernel
theorem dX10_init_12 : decode cX10_init 12 = .ok (.putfield 12, 3) := by decide +kernel
theorem dX10_init_15 : decode cX10_init 15 = .ok (.aload_n 0, 1) := by decide +kernel
theorem dX10_init_16 : decode cX10_init 16 = .ok (.new 16, 3) := by decide +kernel
theorem dX10_init_19 : decode cX10_init 19 = .ok (.dup, 1) := by decide +kernel
theorem dX10_init_20 : decode cX10_init 20 = .ok (.invokespecial 18, 3) := by decide +kernel
theorem dX10_init_23 : decode cX10_init 23 = .ok (.putfield 19, 3) := by decide +kernel
theorem dX10_init_26 : decode cX10_init 26 = .ok (.aload_n 0, 1) := by decide +kernel
theorem dX10_init_27 : decode cX10_init 27 = .ok (.new 23, 3) := by decide +kernel
theorem dX10_init_30 : decode cX10_init 30 = .ok (.dup, 1) := by decide +kernel
theorem dX10_init_31 : decode cX10_init 31 = .ok (.invokespecial 25, 3) := by decide +kernel
theorem dX10_init_34 : decode cX10_init 34 = .ok (.putfield 26, 3) := by decide +kernel
theorem dX10_init_37 : decode cX10_init 37 = .ok (.aload_n 0, 1) := by decide +kernel
theorem dX10_init_38 : decode cX10_init 38 = .ok (.new 30, 3) := by decide +kernel
theorem dX10_init_41 : decode cX10_init 41 = .ok (.dup, 1) := by decide +kernel
theorem dX10_init_42 : decode cX10_init 42 = .ok (.aload_n 0, 1) := by decide +kernel
theorem dX10_init_43 : decode cX10_init 43 = .ok (.getfield 26, 3) := by decide +kernel
theorem dX10_init_46 : decode cX10_init 46 = .ok (.invokespecial 32, 3) := by decide +kernel
theorem dX10_init_49 : decode cX10_init 49 = .ok (.putfield 35, 3) := by decide +kernel
theorem dX10_init_52 : decode cX10_init 52 = .ok (.aload_n 0, 1) := by decide +kernel
theorem dX10_init_53 : decode cX10_init 53 = .ok (.new 39, 3) := by decide +kernel
theorem dX10_init_56 : decode cX10_init 56 = .ok (.dup, 1) := by decide +kernel
theorem dX10_init_57 : decode cX10_init 57 = .ok (.invokespecial 41, 3) := by decide +kernel
theorem dX10_init_60 : decode cX10_init 60 = .ok (.putfield 42, 3) := by decide +kernel
theorem dX10_init_63 : decode cX10_init 63 = .ok (.aload_n 0, 1) := by decide +kernel
theorem dX10_init_64 : decode cX10_init 64 = .ok (.new 46, 3) := by decide +kernel
theorem dX10_init_67 : decode cX10_init 67 = .ok (.dup, 1) := by decide +kernel
theorem dX10_init_68 : decode cX10_init 68 = .ok (.invokespecial 48, 3) := by decide +kernel
theorem dX10_init_71 : decode cX10_init 71 = .ok (.putfield 49, 3) := by decide +kernel
theorem dX10_init_74 : decode cX10_init 74 = .ok (.aload_n 0, 1) := by decide +kernel
theorem dX10_init_75 : decode cX10_init 75 = .ok (.new 53, 3) := by decide +kernel
theorem dX10_init_78 : decode cX10_init 78 = .ok (.dup, 1) := by decide +kernel
theorem dX10_init_79 : decode cX10_init 79 = .ok (.invokespecial 55, 3) := by decide +kernel
theorem dX10_init_82 : decode cX10_init 82 = .ok (.putfield 56, 3) := by decide +kernel
theorem dX10_init_85 : decode cX10_init 85 = .ok (.new 30, 3) := by decide +kernel
theorem dX10_init_88 : decode cX10_init 88 = .ok (.dup, 1) := by decide +kernel
theorem dX10_init_89 : decode cX10_init 89 = .ok (.aload_n 0, 1) := by decide +kernel
theorem dX10_init_90 : decode cX10_init 90 = .ok (.getfield 26, 3) := by decide +kernel
theorem dX10_init_93 : decode cX10_init 93 = .ok (.invokespecial 32, 3) := by decide +kernel
theorem dX10_init_96 : decode cX10_init 96 = .ok (.astore_n 1, 1) := by decide +kernel
theorem dX10_init_97 : decode cX10_init 97 = .ok (.aload_n 0, 1) := by decide +kernel
theorem dX10_init_98 : decode cX10_init 98 = .ok (.new 60, 3) := by decide +kernel
theorem dX10_init_101 : decode cX10_init 101 = .ok (.dup, 1) := by decide +kernel
theorem dX10_init_102 : decode cX10_init 102 = .ok (.aload_n 1, 1) := by decide +kernel
theorem dX10_init_103 : decode cX10_init 103 = .ok (.invokespecial 62, 3) := by decide +kernel
theorem dX10_init_106 : decode cX10_init 106 = .ok (.putfield 65, 3) := by decide +kernel
theorem dX10_init_109 : decode cX10_init 109 = .ok (.aload_n 0, 1) := by decide +kernel
theorem dX10_init_110 : decode cX10_init 110 = .ok (.new 69, 3) := by decide +kernel
theorem dX10_init_113 : decode cX10_init 113 = .ok (.dup, 1) := by decide +kernel
theorem dX10_init_114 : decode cX10_init 114 = .ok (.aload_n 1, 1) := by decide +kernel
theorem dX10_init_115 : decode cX10_init 115 = .ok (.invokespecial 71, 3) := by decide +kernel
theorem dX10_init_118 : decode cX10_init 118 = .ok (.putfield 72, 3) := by decide +kernel
theorem dX10_init_121 : decode cX10_init 121 = .ok (.aload_n 0, 1) := by decide +kernel
theorem dX10_init_122 : decode cX10_init 122 = .ok (.iconst 2, 1) := by decide +kernel
theorem dX10_init_123 : decode cX10_init 123 = .ok (.anewarray 16, 3) := by decide +kernel
theorem dX10_init_126 : decode cX10_init 126 = .ok (.putfield 76, 3) := by decide +kernel
theorem dX10_init_129 : decode cX10_init 129 = .ok (.iconst 0, 1) := by decide +kernel
theorem dX10_init_130 : decode cX10_init 130 = .ok (.istore_n 2, 1) := by decide +kernel
theorem dX10_init_131 : decode cX10_init 131 = .ok (.iload_n 2, 1) := by decide +kernel
theorem dX10_init_132 : decode cX10_init 132 = .ok (.iconst 2, 1) := by decide +kernel
theorem dX10_init_133 : decode cX10_init 133 = .ok (.if_icmp .ge 22, 3) := by decide +kernel
theorem dX10_init_136 : decode cX10_init 136 = .ok (.aload_n 0, 1) := by decide +kernel
theorem dX10_init_137 : decode cX10_init 137 = .ok (.getfield 76, 3) := by decide +kernel
theorem dX10_init_140 : decode cX10_init 140 = .ok (.iload_n 2, 1) := by decide +kernel
theorem dX10_init_141 : decode cX10_init 141 = .ok (.new 16, 3) := by decide +kernel
theorem dX10_init_144 : decode cX10_init 144 = .ok (.dup, 1) := by decide +kernel
theorem dX10_init_145 : decode cX10_init 145 = .ok (.invokespecial 18, 3) := by decide +kernel
theorem dX10_init_148 : decode cX10_init 148 = .ok (.aastore, 1) := by decide +kernel
theorem dX10_init_149 : decode cX10_init 149 = .ok (.iinc 2 1, 3) := by decide +kernel
theorem dX10_init_152 : decode cX10_init 152 = .ok (.goto (-21), 3) := by decide +kernel
theorem dX10_init_155 : decode cX10_init 155 = .ok (.aload_n 0, 1) := by decide +kernel
theorem dX10_init_156 : decode cX10_init 156 = .ok (.iconst 2, 1) := by decide +kernel
theorem dX10_init_157 : decode cX10_init 157 = .ok (.newarray .boolean, 2) := by decide +kernel
theorem dX10_init_159 : decode cX10_init 159 = .ok (.putfield 80, 3) := by decide +kernel
theorem dX10_init_162 : decode cX10_init 162 = .ok (.aload_n 0, 1) := by decide +kernel
theorem dX10_init_163 : decode cX10_init 163 = .ok (.lconst 0, 1) := by decide +kernel
theorem dX10_init_164 : decode cX10_init 164 = .ok (.putfield 84, 3) := by decide +kernel
theorem dX10_init_167 : decode cX10_init 167 = .ok (.return_, 1) := by decide +kernel
theorem dX10_write_0 : decode cX10_write 0 = .ok (.iload_n 1, 1) := by decide +kernel
theorem dX10_write_1 : decode cX10_write 1 = .ok (.ifCond .lt 10, 3) := by decide +kernel
theorem dX10_write_4 : decode cX10_write 4 = .ok (.iload_n 1, 1) := by decide +kernel
theorem dX10_write_5 : decode cX10_write 5 = .ok (.sipush 255, 3) := by decide +kernel
theorem dX10_write_8 : decode cX10_write 8 = .ok (.if_icmp .le 6, 3) := by decide +kernel
theorem dX10_write_11 : decode cX10_write 11 = .ok (.bipush (-2), 2) := by decide +kernel
theorem dX10_write_13 : decode cX10_write 13 = .ok (.ireturn, 1) := by decide +kernel
theorem dX10_write_14 : decode cX10_write 14 = .ok (.aload_n 0, 1) := by decide +kernel
theorem dX10_write_15 : decode cX10_write 15 = .ok (.getfield 12, 3) := by decide +kernel
theorem dX10_write_18 : decode cX10_write 18 = .ok (.iload_n 1, 1) := by decide +kernel
theorem dX10_write_19 : decode cX10_write 19 = .ok (.invokevirtual 88, 3) := by decide +kernel
theorem dX10_write_22 : decode cX10_write 22 = .ok (.ifCond .eq 13, 3) := by decide +kernel
theorem dX10_write_25 : decode cX10_write 25 = .ok (.aload_n 0, 1) := by decide +kernel
theorem dX10_write_26 : decode cX10_write 26 = .ok (.getfield 12, 3) := by decide +kernel
theorem dX10_write_29 : decode cX10_write 29 = .ok (.getfield 92, 3) := by decide +kernel
theorem dX10_write_32 : decode cX10_write 32 = .ok (.goto 5, 3) := by decide +kernel
theorem dX10_write_35 : decode cX10_write 35 = .ok (.bipush (-4), 2) := by decide +kernel
theorem dX10_write_37 : decode cX10_write 37 = .ok (.ireturn, 1) := by decide +kernel
theorem dX10_wipe_0 : decode cX10_wipe 0 = .ok (.aload_n 0, 1) := by decide +kernel
theorem dX10_wipe_1 : decode cX10_wipe 1 = .ok (.getfield 12, 3) := by decide +kernel
theorem dX10_wipe_4 : decode cX10_wipe 4 = .ok (.getfield 92, 3) := by decide +kernel
theorem dX10_wipe_7 : decode cX10_wipe 7 = .ok (.istore_n 1, 1) := by decide +kernel
theorem dX10_wipe_8 : decode cX10_wipe 8 = .ok (.aload_n 0, 1) := by decide +kernel
theorem dX10_wipe_9 : decode cX10_wipe 9 = .ok (.getfield 12, 3) := by decide +kernel
theorem dX10_wipe_12 : decode cX10_wipe 12 = .ok (.iconst 0, 1) := by decide +kernel
theorem dX10_wipe_13 : decode cX10_wipe 13 = .ok (.putfield 92, 3) := by decide +kernel
theorem dX10_wipe_16 : decode cX10_wipe 16 = .ok (.iload_n 1, 1) := by decide +kernel
theorem dX10_wipe_17 : decode cX10_wipe 17 = .ok (.ireturn, 1) := by decide +kernel
theorem dX10_fault_0 : decode cX10_fault 0 = .ok (.aload_n 0, 1) := by decide +kernel
theorem dX10_fault_1 : decode cX10_fault 1 = .ok (.getfield 12, 3) := by decide +kernel
theorem dX10_fault_4 : decode cX10_fault 4 = .ok (.invokevirtual 96, 3) := by decide +kernel
theorem dX10_fault_7 : decode cX10_fault 7 = .ok (.ireturn, 1) := by decide +kernel
theorem dX10_list_0 : decode cX10_list 0 = .ok (.aload_n 0, 1) := by decide +kernel
theorem dX10_list_1 : decode cX10_list 1 = .ok (.getfield 12, 3) := by decide +kernel
theorem dX10_list_4 : decode cX10_list 4 = .ok (.invokevirtual 96, 3) := by decide +kernel
theorem dX10_list_7 : decode cX10_list 7 = .ok (.bipush (-9), 2) := by decide +kernel
theorem dX10_list_9 : decode cX10_list 9 = .ok (.if_icmp .eq 6, 3) := by decide +kernel
theorem dX10_list_12 : decode cX10_list 12 = .ok (.bipush (-3), 2) := by decide +kernel
theorem dX10_list_14 : decode cX10_list 14 = .ok (.ireturn, 1) := by decide +kernel
theorem dX10_list_15 : decode cX10_list 15 = .ok (.aload_n 0, 1) := by decide +kernel
theorem dX10_list_16 : decode cX10_list 16 = .ok (.getfield 12, 3) := by decide +kernel
theorem dX10_list_19 : decode cX10_list 19 = .ok (.aload_n 0, 1) := by decide +kernel
theorem dX10_list_20 : decode cX10_list 20 = .ok (.getfield 19, 3) := by decide +kernel
theorem dX10_list_23 : decode cX10_list 23 = .ok (.invokevirtual 100, 3) := by decide +kernel
theorem dX10_list_26 : decode cX10_list 26 = .ok (.aload_n 0, 1) := by decide +kernel
theorem dX10_list_27 : decode cX10_list 27 = .ok (.getfield 19, 3) := by decide +kernel
theorem dX10_list_30 : decode cX10_list 30 = .ok (.iconst 0, 1) := by decide +kernel
theorem dX10_list_31 : decode cX10_list 31 = .ok (.putfield 104, 3) := by decide +kernel
theorem dX10_list_34 : decode cX10_list 34 = .ok (.aload_n 0, 1) := by decide +kernel
theorem dX10_list_35 : decode cX10_list 35 = .ok (.getfield 42, 3) := by decide +kernel
theorem dX10_list_38 : decode cX10_list 38 = .ok (.iconst 0, 1) := by decide +kernel
theorem dX10_list_39 : decode cX10_list 39 = .ok (.putfield 107, 3) := by decide +kernel
theorem dX10_list_42 : decode cX10_list 42 = .ok (.iconst 0, 1) := by decide +kernel
theorem dX10_list_43 : decode cX10_list 43 = .ok (.istore_n 1, 1) := by decide +kernel
theorem dX10_list_44 : decode cX10_list 44 = .ok (.iload_n 1, 1) := by decide +kernel
theorem dX10_list_45 : decode cX10_list 45 = .ok (.iconst 2, 1) := by decide +kernel
theorem dX10_list_46 : decode cX10_list 46 = .ok (.if_icmp .ge 16, 3) := by decide +kernel
theorem dX10_list_49 : decode cX10_list 49 = .ok (.aload_n 0, 1) := by decide +kernel
theorem dX10_list_50 : decode cX10_list 50 = .ok (.getfield 80, 3) := by decide +kernel
theorem dX10_list_53 : decode cX10_list 53 = .ok (.iload_n 1, 1) := by decide +kernel
theorem dX10_list_54 : decode cX10_list 54 = .ok (.iconst 0, 1) := by decide +kernel
theorem dX10_list_55 : decode cX10_list 55 = .ok (.bastore, 1) := by decide +kernel
theorem dX10_list_56 : decode cX10_list 56 = .ok (.iinc 1 1, 3) := by decide +kernel
theorem dX10_list_59 : decode cX10_list 59 = .ok (.goto (-15), 3) := by decide +kernel
theorem dX10_list_62 : decode cX10_list 62 = .ok (.aload_n 0, 1) := by decide +kernel
theorem dX10_list_63 : decode cX10_list 63 = .ok (.invokevirtual 110, 3) := by decide +kernel
theorem dX10_list_66 : decode cX10_list 66 = .ok (.aload_n 0, 1) := by decide +kernel
theorem dX10_list_67 : decode cX10_list 67 = .ok (.getfield 19, 3) := by decide +kernel
theorem dX10_list_70 : decode cX10_list 70 = .ok (.getfield 113, 3) := by decide +kernel
theorem dX10_list_73 : decode cX10_list 73 = .ok (.ireturn, 1) := by decide +kernel
theorem dX10_about_0 : decode cX10_about 0 = .ok (.iload_n 1, 1) := by decide +kernel
theorem dX10_about_1 : decode cX10_about 1 = .ok (.tableswitch 155 0 10 #[59, 67, 75, 87, 95, 103, 115, 123, 131, 139, 147], 59) := by decide +kernel
theorem dX10_about_60 : decode cX10_about 60 = .ok (.aload_n 0, 1) := by decide +kernel
theorem dX10_about_61 : decode cX10_about 61 = .ok (.getfield 19, 3) := by decide +kernel
theorem dX10_about_64 : decode cX10_about 64 = .ok (.getfield 113, 3) := by decide +kernel
theorem dX10_about_67 : decode cX10_about 67 = .ok (.ireturn, 1) := by decide +kernel
theorem dX10_about_68 : decode cX10_about 68 = .ok (.aload_n 0, 1) := by decide +kernel
theorem dX10_about_69 : decode cX10_about 69 = .ok (.getfield 19, 3) := by decide +kernel
theorem dX10_about_72 : decode cX10_about 72 = .ok (.invokevirtual 116, 3) := by decide +kernel
theorem dX10_about_75 : decode cX10_about 75 = .ok (.ireturn, 1) := by decide +kernel
theorem dX10_about_76 : decode cX10_about 76 = .ok (.aload_n 0, 1) := by decide +kernel
theorem dX10_about_77 : decode cX10_about 77 = .ok (.getfield 35, 3) := by decide +kernel
theorem dX10_about_80 : decode cX10_about 80 = .ok (.aload_n 0, 1) := by decide +kernel
theorem dX10_about_81 : decode cX10_about 81 = .ok (.getfield 19, 3) := by decide +kernel
theorem dX10_about_84 : decode cX10_about 84 = .ok (.invokevirtual 119, 3) := by decide +kernel
theorem dX10_about_87 : decode cX10_about 87 = .ok (.ireturn, 1) := by decide +kernel
theorem dX10_about_88 : decode cX10_about 88 = .ok (.aload_n 0, 1) := by decide +kernel
theorem dX10_about_89 : decode cX10_about 89 = .ok (.getfield 19, 3) := by decide +kernel
theorem dX10_about_92 : decode cX10_about 92 = .ok (.getfield 104, 3) := by decide +kernel
theorem dX10_about_95 : decode cX10_about 95 = .ok (.ireturn, 1) := by decide +kernel
theorem dX10_about_96 : decode cX10_about 96 = .ok (.aload_n 0, 1) := by decide +kernel
theorem dX10_about_97 : decode cX10_about 97 = .ok (.getfield 35, 3) := by decide +kernel
theorem dX10_about_100 : decode cX10_about 100 = .ok (.invokevirtual 123, 3) := by decide +kernel
theorem dX10_about_103 : decode cX10_about 103 = .ok (.ireturn, 1) := by decide +kernel
theorem dX10_about_104 : decode cX10_about 104 = .ok (.aload_n 0, 1) := by decide +kernel
theorem dX10_about_105 : decode cX10_about 105 = .ok (.getfield 35, 3) := by decide +kernel
theorem dX10_about_108 : decode cX10_about 108 = .ok (.aload_n 0, 1) := by decide +kernel
theorem dX10_about_109 : decode cX10_about 109 = .ok (.getfield 19, 3) := by decide +kernel
theorem dX10_about_112 : decode cX10_about 112 = .ok (.invokevirtual 126, 3) := by decide +kernel
theorem dX10_about_115 : decode cX10_about 115 = .ok (.ireturn, 1) := by decide +kernel
theorem dX10_about_116 : decode cX10_about 116 = .ok (.aload_n 0, 1) := by decide +kernel
theorem dX10_about_117 : decode cX10_about 117 = .ok (.invokevirtual 129, 3) := by decide +kernel
theorem dX10_about_120 : decode cX10_about 120 = .ok (.getfield 133, 3) := by decide +kernel
theorem dX10_about_123 : decode cX10_about 123 = .ok (.ireturn, 1) := by decide +kernel
theorem dX10_about_124 : decode cX10_about 124 = .ok (.aload_n 0, 1) := by decide +kernel
theorem dX10_about_125 : decode cX10_about 125 = .ok (.invokevirtual 129, 3) := by decide +kernel
theorem dX10_about_128 : decode cX10_about 128 = .ok (.getfield 134, 3) := by decide +kernel
theorem dX10_about_131 : decode cX10_about 131 = .ok (.ireturn, 1) := by decide +kernel
theorem dX10_about_132 : decode cX10_about 132 = .ok (.aload_n 0, 1) := by decide +kernel
theorem dX10_about_133 : decode cX10_about 133 = .ok (.getfield 42, 3) := by decide +kernel
theorem dX10_about_136 : decode cX10_about 136 = .ok (.getfield 107, 3) := by decide +kernel
theorem dX10_about_139 : decode cX10_about 139 = .ok (.ireturn, 1) := by decide +kernel
theorem dX10_about_140 : decode cX10_about 140 = .ok (.aload_n 0, 1) := by decide +kernel
theorem dX10_about_141 : decode cX10_about 141 = .ok (.getfield 56, 3) := by decide +kernel
theorem dX10_about_144 : decode cX10_about 144 = .ok (.getfield 137, 3) := by decide +kernel
theorem dX10_about_147 : decode cX10_about 147 = .ok (.ireturn, 1) := by decide +kernel
theorem dX10_about_148 : decode cX10_about 148 = .ok (.aload_n 0, 1) := by decide +kernel
theorem dX10_about_149 : decode cX10_about 149 = .ok (.getfield 12, 3) := by decide +kernel
theorem dX10_about_152 : decode cX10_about 152 = .ok (.getfield 92, 3) := by decide +kernel
theorem dX10_about_155 : decode cX10_about 155 = .ok (.ireturn, 1) := by decide +kernel
theorem dX10_about_156 : decode cX10_about 156 = .ok (.bipush (-2), 2) := by decide +kernel
theorem dX10_about_158 : decode cX10_about 158 = .ok (.ireturn, 1) := by decide +kernel
theorem dX10_word_0 : decode cX10_word 0 = .ok (.aload_n 0, 1) := by decide +kernel
theorem dX10_word_1 : decode cX10_word 1 = .ok (.getfield 19, 3) := by decide +kernel
theorem dX10_word_4 : decode cX10_word 4 = .ok (.iload_n 1, 1) := by decide +kernel
theorem dX10_word_5 : decode cX10_word 5 = .ok (.invokevirtual 138, 3) := by decide +kernel
theorem dX10_word_8 : decode cX10_word 8 = .ok (.ifCond .ne 5, 3) := by decide +kernel
theorem dX10_word_11 : decode cX10_word 11 = .ok (.iconst (-1), 1) := by decide +kernel
theorem dX10_word_12 : decode cX10_word 12 = .ok (.ireturn, 1) := by decide +kernel
theorem dX10_word_13 : decode cX10_word 13 = .ok (.iload_n 2, 1) := by decide +kernel
theorem dX10_word_14 : decode cX10_word 14 = .ok (.tableswitch 59 0 2 #[26, 36, 46], 26) := by decide +kernel
theorem dX10_word_40 : decode cX10_word 40 = .ok (.aload_n 0, 1) := by decide +kernel
theorem dX10_word_41 : decode cX10_word 41 = .ok (.getfield 19, 3) := by decide +kernel
theorem dX10_word_44 : decode cX10_word 44 = .ok (.getfield 141, 3) := by decide +kernel
theorem dX10_word_47 : decode cX10_word 47 = .ok (.iload_n 1, 1) := by decide +kernel
theorem dX10_word_48 : decode cX10_word 48 = .ok (.iaload, 1) := by decide +kernel
theorem dX10_word_49 : decode cX10_word 49 = .ok (.ireturn, 1) := by decide +kernel
theorem dX10_word_50 : decode cX10_word 50 = .ok (.aload_n 0, 1) := by decide +kernel
theorem dX10_word_51 : decode cX10_word 51 = .ok (.getfield 19, 3) := by decide +kernel
theorem dX10_word_54 : decode cX10_word 54 = .ok (.getfield 145, 3) := by decide +kernel
theorem dX10_word_57 : decode cX10_word 57 = .ok (.iload_n 1, 1) := by decide +kernel
theorem dX10_word_58 : decode cX10_word 58 = .ok (.iaload, 1) := by decide +kernel
theorem dX10_word_59 : decode cX10_word 59 = .ok (.ireturn, 1) := by decide +kernel
theorem dX10_word_60 : decode cX10_word 60 = .ok (.aload_n 0, 1) := by decide +kernel
theorem dX10_word_61 : decode cX10_word 61 = .ok (.getfield 35, 3) := by decide +kernel
theorem dX10_word_64 : decode cX10_word 64 = .ok (.aload_n 0, 1) := by decide +kernel
theorem dX10_word_65 : decode cX10_word 65 = .ok (.getfield 19, 3) := by decide +kernel
theorem dX10_word_68 : decode cX10_word 68 = .ok (.iload_n 1, 1) := by decide +kernel
theorem dX10_word_69 : decode cX10_word 69 = .ok (.invokevirtual 148, 3) := by decide +kernel
theorem dX10_word_72 : decode cX10_word 72 = .ok (.ireturn, 1) := by decide +kernel
theorem dX10_word_73 : decode cX10_word 73 = .ok (.bipush (-2), 2) := by decide +kernel
theorem dX10_word_75 : decode cX10_word 75 = .ok (.ireturn, 1) := by decide +kernel
theorem dX10_digit_0 : decode cX10_digit 0 = .ok (.aload_n 0, 1) := by decide +kernel
theorem dX10_digit_1 : decode cX10_digit 1 = .ok (.getfield 19, 3) := by decide +kernel
theorem dX10_digit_4 : decode cX10_digit 4 = .ok (.iload_n 1, 1) := by decide +kernel
theorem dX10_digit_5 : decode cX10_digit 5 = .ok (.iload_n 2, 1) := by decide +kernel
theorem dX10_digit_6 : decode cX10_digit 6 = .ok (.invokevirtual 152, 3) := by decide +kernel
theorem dX10_digit_9 : decode cX10_digit 9 = .ok (.ifCond .eq 15, 3) := by decide +kernel
theorem dX10_digit_12 : decode cX10_digit 12 = .ok (.aload_n 0, 1) := by decide +kernel
theorem dX10_digit_13 : decode cX10_digit 13 = .ok (.getfield 35, 3) := by decide +kernel
theorem dX10_digit_16 : decode cX10_digit 16 = .ok (.iload_n 1, 1) := by decide +kernel
theorem dX10_digit_17 : decode cX10_digit 17 = .ok (.iload_n 2, 1) := by decide +kernel
theorem dX10_digit_18 : decode cX10_digit 18 = .ok (.invokevirtual 156, 3) := by decide +kernel
theorem dX10_digit_21 : decode cX10_digit 21 = .ok (.goto 4, 3) := by decide +kernel
theorem dX10_digit_24 : decode cX10_digit 24 = .ok (.iconst (-1), 1) := by decide +kernel
theorem dX10_digit_25 : decode cX10_digit 25 = .ok (.ireturn, 1) := by decide +kernel
theorem dX10_level_0 : decode cX10_level 0 = .ok (.iload_n 1, 1) := by decide +kernel
theorem dX10_level_1 : decode cX10_level 1 = .ok (.invokestatic 160, 3) := by decide +kernel
theorem dX10_level_4 : decode cX10_level 4 = .ok (.ifCond .ne 5, 3) := by decide +kernel
theorem dX10_level_7 : decode cX10_level 7 = .ok (.iconst (-1), 1) := by decide +kernel
theorem dX10_level_8 : decode cX10_level 8 = .ok (.ireturn, 1) := by decide +kernel
theorem dX10_level_9 : decode cX10_level 9 = .ok (.iload_n 2, 1) := by decide +kernel
theorem dX10_level_10 : decode cX10_level 10 = .ok (.tableswitch 55 0 2 #[26, 36, 46], 26) := by decide +kernel
theorem dX10_level_36 : decode cX10_level 36 = .ok (.aload_n 0, 1) := by decide +kernel
theorem dX10_level_37 : decode cX10_level 37 = .ok (.getfield 19, 3) := by decide +kernel
theorem dX10_level_40 : decode cX10_level 40 = .ok (.getfield 163, 3) := by decide +kernel
theorem dX10_level_43 : decode cX10_level 43 = .ok (.iload_n 1, 1) := by decide +kernel
theorem dX10_level_44 : decode cX10_level 44 = .ok (.iaload, 1) := by decide +kernel
theorem dX10_level_45 : decode cX10_level 45 = .ok (.ireturn, 1) := by decide +kernel
theorem dX10_level_46 : decode cX10_level 46 = .ok (.aload_n 0, 1) := by decide +kernel
theorem dX10_level_47 : decode cX10_level 47 = .ok (.getfield 19, 3) := by decide +kernel
theorem dX10_level_50 : decode cX10_level 50 = .ok (.getfield 166, 3) := by decide +kernel
theorem dX10_level_53 : decode cX10_level 53 = .ok (.iload_n 1, 1) := by decide +kernel
theorem dX10_level_54 : decode cX10_level 54 = .ok (.iaload, 1) := by decide +kernel
theorem dX10_level_55 : decode cX10_level 55 = .ok (.ireturn, 1) := by decide +kernel
theorem dX10_level_56 : decode cX10_level 56 = .ok (.aload_n 0, 1) := by decide +kernel
theorem dX10_level_57 : decode cX10_level 57 = .ok (.getfield 35, 3) := by decide +kernel
theorem dX10_level_60 : decode cX10_level 60 = .ok (.iload_n 1, 1) := by decide +kernel
theorem dX10_level_61 : decode cX10_level 61 = .ok (.invokevirtual 169, 3) := by decide +kernel
theorem dX10_level_64 : decode cX10_level 64 = .ok (.ireturn, 1) := by decide +kernel
theorem dX10_level_65 : decode cX10_level 65 = .ok (.bipush (-2), 2) := by decide +kernel
theorem dX10_level_67 : decode cX10_level 67 = .ok (.ireturn, 1) := by decide +kernel
theorem dX10_pattern_0 : decode cX10_pattern 0 = .ok (.iload_n 1, 1) := by decide +kernel
theorem dX10_pattern_1 : decode cX10_pattern 1 = .ok (.invokestatic 173, 3) := by decide +kernel
theorem dX10_pattern_4 : decode cX10_pattern 4 = .ok (.istore_n 3, 1) := by decide +kernel
theorem dX10_pattern_5 : decode cX10_pattern 5 = .ok (.iload_n 3, 1) := by decide +kernel
theorem dX10_pattern_6 : decode cX10_pattern 6 = .ok (.iload_n 2, 1) := by decide +kernel
theorem dX10_pattern_7 : decode cX10_pattern 7 = .ok (.invokestatic 178, 3) := by decide +kernel
theorem dX10_pattern_10 : decode cX10_pattern 10 = .ok (.ifCond .ne 6, 3) := by decide +kernel
theorem dX10_pattern_13 : decode cX10_pattern 13 = .ok (.bipush (-2), 2) := by decide +kernel
theorem dX10_pattern_15 : decode cX10_pattern 15 = .ok (.ireturn, 1) := by decide +kernel
theorem dX10_pattern_16 : decode cX10_pattern 16 = .ok (.aload_n 0, 1) := by decide +kernel
theorem dX10_pattern_17 : decode cX10_pattern 17 = .ok (.getfield 35, 3) := by decide +kernel
theorem dX10_pattern_20 : decode cX10_pattern 20 = .ok (.iload_n 3, 1) := by decide +kernel
theorem dX10_pattern_21 : decode cX10_pattern 21 = .ok (.iload_n 2, 1) := by decide +kernel
theorem dX10_pattern_22 : decode cX10_pattern 22 = .ok (.invokevirtual 181, 3) := by decide +kernel
theorem dX10_pattern_25 : decode cX10_pattern 25 = .ok (.ireturn, 1) := by decide +kernel
theorem dX10_add_0 : decode cX10_add 0 = .ok (.iload_n 1, 1) := by decide +kernel
theorem dX10_add_1 : decode cX10_add 1 = .ok (.invokestatic 184, 3) := by decide +kernel
theorem dX10_add_4 : decode cX10_add 4 = .ok (.istore_n 3, 1) := by decide +kernel
theorem dX10_add_5 : decode cX10_add 5 = .ok (.iload_n 3, 1) := by decide +kernel
theorem dX10_add_6 : decode cX10_add 6 = .ok (.ifCond .eq 16, 3) := by decide +kernel
theorem dX10_add_9 : decode cX10_add 9 = .ok (.iload_n 2, 1) := by decide +kernel
theorem dX10_add_10 : decode cX10_add 10 = .ok (.ifCond .lt 12, 3) := by decide +kernel
theorem dX10_add_13 : decode cX10_add 13 = .ok (.iload_n 2, 1) := by decide +kernel
theorem dX10_add_14 : decode cX10_add 14 = .ok (.iconst 1, 1) := by decide +kernel
theorem dX10_add_15 : decode cX10_add 15 = .ok (.iload_n 3, 1) := by decide +kernel
theorem dX10_add_16 : decode cX10_add 16 = .ok (.iconst 1, 1) := by decide +kernel
theorem dX10_add_17 : decode cX10_add 17 = .ok (.isub, 1) := by decide +kernel
theorem dX10_add_18 : decode cX10_add 18 = .ok (.ishl, 1) := by decide +kernel
theorem dX10_add_19 : decode cX10_add 19 = .ok (.if_icmp .lt 6, 3) := by decide +kernel
theorem dX10_add_22 : decode cX10_add 22 = .ok (.bipush (-2), 2) := by decide +kernel
theorem dX10_add_24 : decode cX10_add 24 = .ok (.ireturn, 1) := by decide +kernel
theorem dX10_add_25 : decode cX10_add 25 = .ok (.aload_n 0, 1) := by decide +kernel
theorem dX10_add_26 : decode cX10_add 26 = .ok (.getfield 19, 3) := by decide +kernel
theorem dX10_add_29 : decode cX10_add 29 = .ok (.getfield 113, 3) := by decide +kernel
theorem dX10_add_32 : decode cX10_add 32 = .ok (.bipush 6, 2) := by decide +kernel
theorem dX10_add_34 : decode cX10_add 34 = .ok (.if_icmp .lt 6, 3) := by decide +kernel
theorem dX10_add_37 : decode cX10_add 37 = .ok (.bipush (-4), 2) := by decide +kernel
theorem dX10_add_39 : decode cX10_add 39 = .ok (.ireturn, 1) := by decide +kernel
theorem dX10_add_40 : decode cX10_add 40 = .ok (.aload_n 0, 1) := by decide +kernel
theorem dX10_add_41 : decode cX10_add 41 = .ok (.getfield 19, 3) := by decide +kernel
theorem dX10_add_44 : decode cX10_add 44 = .ok (.aload_n 0, 1) := by decide +kernel
theorem dX10_add_45 : decode cX10_add 45 = .ok (.getfield 19, 3) := by decide +kernel
theorem dX10_add_48 : decode cX10_add 48 = .ok (.getfield 113, 3) := by decide +kernel
theorem dX10_add_51 : decode cX10_add 51 = .ok (.iload_n 1, 1) := by decide +kernel
theorem dX10_add_52 : decode cX10_add 52 = .ok (.iload_n 2, 1) := by decide +kernel
theorem dX10_add_53 : decode cX10_add 53 = .ok (.invokevirtual 187, 3) := by decide +kernel
theorem dX10_add_56 : decode cX10_add 56 = .ok (.aload_n 0, 1) := by decide +kernel
theorem dX10_add_57 : decode cX10_add 57 = .ok (.getfield 42, 3) := by decide +kernel
theorem dX10_add_60 : decode cX10_add 60 = .ok (.iconst 1, 1) := by decide +kernel
theorem dX10_add_61 : decode cX10_add 61 = .ok (.iconst 0, 1) := by decide +kernel
theorem dX10_add_62 : decode cX10_add 62 = .ok (.iconst 0, 1) := by decide +kernel
theorem dX10_add_63 : decode cX10_add 63 = .ok (.iconst 0, 1) := by decide +kernel
theorem dX10_add_64 : decode cX10_add 64 = .ok (.invokevirtual 191, 3) := by decide +kernel
theorem dX10_add_67 : decode cX10_add 67 = .ok (.aload_n 0, 1) := by decide +kernel
theorem dX10_add_68 : decode cX10_add 68 = .ok (.invokevirtual 110, 3) := by decide +kernel
theorem dX10_add_71 : decode cX10_add 71 = .ok (.aload_n 0, 1) := by decide +kernel
theorem dX10_add_72 : decode cX10_add 72 = .ok (.getfield 19, 3) := by decide +kernel
theorem dX10_add_75 : decode cX10_add 75 = .ok (.getfield 113, 3) := by decide +kernel
theorem dX10_add_78 : decode cX10_add 78 = .ok (.ireturn, 1) := by decide +kernel
theorem dX10_drop_0 : decode cX10_drop 0 = .ok (.aload_n 0, 1) := by decide +kernel
theorem dX10_drop_1 : decode cX10_drop 1 = .ok (.getfield 19, 3) := by decide +kernel
theorem dX10_drop_4 : decode cX10_drop 4 = .ok (.iload_n 1, 1) := by decide +kernel
theorem dX10_drop_5 : decode cX10_drop 5 = .ok (.invokevirtual 138, 3) := by decide +kernel
theorem dX10_drop_8 : decode cX10_drop 8 = .ok (.ifCond .ne 5, 3) := by decide +kernel
theorem dX10_drop_11 : decode cX10_drop 11 = .ok (.iconst (-1), 1) := by decide +kernel
theorem dX10_drop_12 : decode cX10_drop 12 = .ok (.ireturn, 1) := by decide +kernel
theorem dX10_drop_13 : decode cX10_drop 13 = .ok (.aload_n 0, 1) := by decide +kernel
theorem dX10_drop_14 : decode cX10_drop 14 = .ok (.getfield 19, 3) := by decide +kernel
theorem dX10_drop_17 : decode cX10_drop 17 = .ok (.getfield 141, 3) := by decide +kernel
theorem dX10_drop_20 : decode cX10_drop 20 = .ok (.iload_n 1, 1) := by decide +kernel
theorem dX10_drop_21 : decode cX10_drop 21 = .ok (.iaload, 1) := by decide +kernel
theorem dX10_drop_22 : decode cX10_drop 22 = .ok (.istore_n 2, 1) := by decide +kernel
theorem dX10_drop_23 : decode cX10_drop 23 = .ok (.aload_n 0, 1) := by decide +kernel
theorem dX10_drop_24 : decode cX10_drop 24 = .ok (.getfield 42, 3) := by decide +kernel
theorem dX10_drop_27 : decode cX10_drop 27 = .ok (.iconst 2, 1) := by decide +kernel
theorem dX10_drop_28 : decode cX10_drop 28 = .ok (.iload_n 1, 1) := by decide +kernel
theorem dX10_drop_29 : decode cX10_drop 29 = .ok (.iload_n 2, 1) := by decide +kernel
theorem dX10_drop_30 : decode cX10_drop 30 = .ok (.aload_n 0, 1) := by decide +kernel
theorem dX10_drop_31 : decode cX10_drop 31 = .ok (.getfield 19, 3) := by decide +kernel
theorem dX10_drop_34 : decode cX10_drop 34 = .ok (.getfield 145, 3) := by decide +kernel
theorem dX10_drop_37 : decode cX10_drop 37 = .ok (.iload_n 1, 1) := by decide +kernel
theorem dX10_drop_38 : decode cX10_drop 38 = .ok (.iaload, 1) := by decide +kernel
theorem dX10_drop_39 : decode cX10_drop 39 = .ok (.invokevirtual 191, 3) := by decide +kernel
theorem dX10_drop_42 : decode cX10_drop 42 = .ok (.aload_n 0, 1) := by decide +kernel
theorem dX10_drop_43 : decode cX10_drop 43 = .ok (.getfield 19, 3) := by decide +kernel
theorem dX10_drop_46 : decode cX10_drop 46 = .ok (.iload_n 1, 1) := by decide +kernel
theorem dX10_drop_47 : decode cX10_drop 47 = .ok (.invokevirtual 195, 3) := by decide +kernel
theorem dX10_drop_50 : decode cX10_drop 50 = .ok (.aload_n 0, 1) := by decide +kernel
theorem dX10_drop_51 : decode cX10_drop 51 = .ok (.invokevirtual 110, 3) := by decide +kernel
theorem dX10_drop_54 : decode cX10_drop 54 = .ok (.iload_n 2, 1) := by decide +kernel
theorem dX10_drop_55 : decode cX10_drop 55 = .ok (.ireturn, 1) := by decide +kernel
theorem dX10_turn_0 : decode cX10_turn 0 = .ok (.aload_n 0, 1) := by decide +kernel
theorem dX10_turn_1 : decode cX10_turn 1 = .ok (.getfield 19, 3) := by decide +kernel
theorem dX10_turn_4 : decode cX10_turn 4 = .ok (.iload_n 1, 1) := by decide +kernel
theorem dX10_turn_5 : decode cX10_turn 5 = .ok (.iload_n 2, 1) := by decide +kernel
theorem dX10_turn_6 : decode cX10_turn 6 = .ok (.invokevirtual 152, 3) := by decide +kernel
theorem dX10_turn_9 : decode cX10_turn 9 = .ok (.ifCond .ne 5, 3) := by decide +kernel
theorem dX10_turn_12 : decode cX10_turn 12 = .ok (.iconst (-1), 1) := by decide +kernel
theorem dX10_turn_13 : decode cX10_turn 13 = .ok (.ireturn, 1) := by decide +kernel
theorem dX10_turn_14 : decode cX10_turn 14 = .ok (.aload_n 0, 1) := by decide +kernel
theorem dX10_turn_15 : decode cX10_turn 15 = .ok (.getfield 19, 3) := by decide +kernel
theorem dX10_turn_18 : decode cX10_turn 18 = .ok (.iload_n 1, 1) := by decide +kernel
theorem dX10_turn_19 : decode cX10_turn 19 = .ok (.iload_n 2, 1) := by decide +kernel
theorem dX10_turn_20 : decode cX10_turn 20 = .ok (.invokevirtual 199, 3) := by decide +kernel
theorem dX10_turn_23 : decode cX10_turn 23 = .ok (.aload_n 0, 1) := by decide +kernel
theorem dX10_turn_24 : decode cX10_turn 24 = .ok (.getfield 42, 3) := by decide +kernel
theorem dX10_turn_27 : decode cX10_turn 27 = .ok (.iconst 3, 1) := by decide +kernel
theorem dX10_turn_28 : decode cX10_turn 28 = .ok (.iload_n 1, 1) := by decide +kernel
theorem dX10_turn_29 : decode cX10_turn 29 = .ok (.iload_n 2, 1) := by decide +kernel
theorem dX10_turn_30 : decode cX10_turn 30 = .ok (.iconst 0, 1) := by decide +kernel
theorem dX10_turn_31 : decode cX10_turn 31 = .ok (.invokevirtual 191, 3) := by decide +kernel
theorem dX10_turn_34 : decode cX10_turn 34 = .ok (.aload_n 0, 1) := by decide +kernel
theorem dX10_turn_35 : decode cX10_turn 35 = .ok (.invokevirtual 110, 3) := by decide +kernel
theorem dX10_turn_38 : decode cX10_turn 38 = .ok (.aload_n 0, 1) := by decide +kernel
theorem dX10_turn_39 : decode cX10_turn 39 = .ok (.getfield 19, 3) := by decide +kernel
theorem dX10_turn_42 : decode cX10_turn 42 = .ok (.getfield 145, 3) := by decide +kernel
theorem dX10_turn_45 : decode cX10_turn 45 = .ok (.iload_n 1, 1) := by decide +kernel
theorem dX10_turn_46 : decode cX10_turn 46 = .ok (.iaload, 1) := by decide +kernel
theorem dX10_turn_47 : decode cX10_turn 47 = .ok (.iload_n 2, 1) := by decide +kernel
theorem dX10_turn_48 : decode cX10_turn 48 = .ok (.ishr, 1) := by decide +kernel
theorem dX10_turn_49 : decode cX10_turn 49 = .ok (.iconst 1, 1) := by decide +kernel
theorem dX10_turn_50 : decode cX10_turn 50 = .ok (.iand, 1) := by decide +kernel
theorem dX10_turn_51 : decode cX10_turn 51 = .ok (.ireturn, 1) := by decide +kernel
theorem dX10_rule_0 : decode cX10_rule 0 = .ok (.iload_n 1, 1) := by decide +kernel
theorem dX10_rule_1 : decode cX10_rule 1 = .ok (.invokestatic 160, 3) := by decide +kernel
theorem dX10_rule_4 : decode cX10_rule 4 = .ok (.ifCond .ne 5, 3) := by decide +kernel
theorem dX10_rule_7 : decode cX10_rule 7 = .ok (.iconst (-1), 1) := by decide +kernel
theorem dX10_rule_8 : decode cX10_rule 8 = .ok (.ireturn, 1) := by decide +kernel
theorem dX10_rule_9 : decode cX10_rule 9 = .ok (.iload_n 2, 1) := by decide +kernel
theorem dX10_rule_10 : decode cX10_rule 10 = .ok (.iload_n 3, 1) := by decide +kernel
theorem dX10_rule_11 : decode cX10_rule 11 = .ok (.invokestatic 203, 3) := by decide +kernel
theorem dX10_rule_14 : decode cX10_rule 14 = .ok (.ifCond .ne 6, 3) := by decide +kernel
theorem dX10_rule_17 : decode cX10_rule 17 = .ok (.bipush (-2), 2) := by decide +kernel
theorem dX10_rule_19 : decode cX10_rule 19 = .ok (.ireturn, 1) := by decide +kernel
theorem dX10_rule_20 : decode cX10_rule 20 = .ok (.aload_n 0, 1) := by decide +kernel
theorem dX10_rule_21 : decode cX10_rule 21 = .ok (.getfield 42, 3) := by decide +kernel
theorem dX10_rule_24 : decode cX10_rule 24 = .ok (.iconst 4, 1) := by decide +kernel
theorem dX10_rule_25 : decode cX10_rule 25 = .ok (.iload_n 1, 1) := by decide +kernel
theorem dX10_rule_26 : decode cX10_rule 26 = .ok (.aload_n 0, 1) := by decide +kernel
theorem dX10_rule_27 : decode cX10_rule 27 = .ok (.getfield 19, 3) := by decide +kernel
theorem dX10_rule_30 : decode cX10_rule 30 = .ok (.getfield 163, 3) := by decide +kernel
theorem dX10_rule_33 : decode cX10_rule 33 = .ok (.iload_n 1, 1) := by decide +kernel
theorem dX10_rule_34 : decode cX10_rule 34 = .ok (.iaload, 1) := by decide +kernel
theorem dX10_rule_35 : decode cX10_rule 35 = .ok (.aload_n 0, 1) := by decide +kernel
theorem dX10_rule_36 : decode cX10_rule 36 = .ok (.getfield 19, 3) := by decide +kernel
theorem dX10_rule_39 : decode cX10_rule 39 = .ok (.getfield 166, 3) := by decide +kernel
theorem dX10_rule_42 : decode cX10_rule 42 = .ok (.iload_n 1, 1) := by decide +kernel
theorem dX10_rule_43 : decode cX10_rule 43 = .ok (.iaload, 1) := by decide +kernel
theorem dX10_rule_44 : decode cX10_rule 44 = .ok (.invokevirtual 191, 3) := by decide +kernel
theorem dX10_rule_47 : decode cX10_rule 47 = .ok (.aload_n 0, 1) := by decide +kernel
theorem dX10_rule_48 : decode cX10_rule 48 = .ok (.getfield 19, 3) := by decide +kernel
theorem dX10_rule_51 : decode cX10_rule 51 = .ok (.iload_n 1, 1) := by decide +kernel
theorem dX10_rule_52 : decode cX10_rule 52 = .ok (.iload_n 2, 1) := by decide +kernel
theorem dX10_rule_53 : decode cX10_rule 53 = .ok (.iload_n 3, 1) := by decide +kernel
theorem dX10_rule_54 : decode cX10_rule 54 = .ok (.invokevirtual 206, 3) := by decide +kernel
theorem dX10_rule_57 : decode cX10_rule 57 = .ok (.aload_n 0, 1) := by decide +kernel
theorem dX10_rule_58 : decode cX10_rule 58 = .ok (.invokevirtual 110, 3) := by decide +kernel
theorem dX10_rule_61 : decode cX10_rule 61 = .ok (.aload_n 0, 1) := by decide +kernel
theorem dX10_rule_62 : decode cX10_rule 62 = .ok (.getfield 35, 3) := by decide +kernel
theorem dX10_rule_65 : decode cX10_rule 65 = .ok (.aload_n 0, 1) := by decide +kernel
theorem dX10_rule_66 : decode cX10_rule 66 = .ok (.getfield 19, 3) := by decide +kernel
theorem dX10_rule_69 : decode cX10_rule 69 = .ok (.invokevirtual 119, 3) := by decide +kernel
theorem dX10_rule_72 : decode cX10_rule 72 = .ok (.ireturn, 1) := by decide +kernel
theorem dX10_study_0 : decode cX10_study 0 = .ok (.aload_n 0, 1) := by decide +kernel
theorem dX10_study_1 : decode cX10_study 1 = .ok (.getfield 19, 3) := by decide +kernel
theorem dX10_study_4 : decode cX10_study 4 = .ok (.getfield 104, 3) := by decide +kernel
theorem dX10_study_7 : decode cX10_study 7 = .ok (.iconst 4, 1) := by decide +kernel
theorem dX10_study_8 : decode cX10_study 8 = .ok (.if_icmp .lt 6, 3) := by decide +kernel
theorem dX10_study_11 : decode cX10_study 11 = .ok (.bipush (-4), 2) := by decide +kernel
theorem dX10_study_13 : decode cX10_study 13 = .ok (.ireturn, 1) := by decide +kernel
theorem dX10_study_14 : decode cX10_study 14 = .ok (.aload_n 0, 1) := by decide +kernel
theorem dX10_study_15 : decode cX10_study 15 = .ok (.getfield 19, 3) := by decide +kernel
theorem dX10_study_18 : decode cX10_study 18 = .ok (.dup, 1) := by decide +kernel
theorem dX10_study_19 : decode cX10_study 19 = .ok (.getfield 104, 3) := by decide +kernel
theorem dX10_study_22 : decode cX10_study 22 = .ok (.iconst 1, 1) := by decide +kernel
theorem dX10_study_23 : decode cX10_study 23 = .ok (.iadd, 1) := by decide +kernel
theorem dX10_study_24 : decode cX10_study 24 = .ok (.putfield 104, 3) := by decide +kernel
theorem dX10_study_27 : decode cX10_study 27 = .ok (.aload_n 0, 1) := by decide +kernel
theorem dX10_study_28 : decode cX10_study 28 = .ok (.getfield 42, 3) := by decide +kernel
theorem dX10_study_31 : decode cX10_study 31 = .ok (.iconst 5, 1) := by decide +kernel
theorem dX10_study_32 : decode cX10_study 32 = .ok (.iconst 0, 1) := by decide +kernel
theorem dX10_study_33 : decode cX10_study 33 = .ok (.iconst 0, 1) := by decide +kernel
theorem dX10_study_34 : decode cX10_study 34 = .ok (.iconst 0, 1) := by decide +kernel
theorem dX10_study_35 : decode cX10_study 35 = .ok (.invokevirtual 191, 3) := by decide +kernel
theorem dX10_study_38 : decode cX10_study 38 = .ok (.aload_n 0, 1) := by decide +kernel
theorem dX10_study_39 : decode cX10_study 39 = .ok (.invokevirtual 110, 3) := by decide +kernel
theorem dX10_study_42 : decode cX10_study 42 = .ok (.aload_n 0, 1) := by decide +kernel
theorem dX10_study_43 : decode cX10_study 43 = .ok (.getfield 35, 3) := by decide +kernel
theorem dX10_study_46 : decode cX10_study 46 = .ok (.aload_n 0, 1) := by decide +kernel
theorem dX10_study_47 : decode cX10_study 47 = .ok (.getfield 19, 3) := by decide +kernel
theorem dX10_study_50 : decode cX10_study 50 = .ok (.getfield 104, 3) := by decide +kernel
theorem dX10_study_53 : decode cX10_study 53 = .ok (.invokevirtual 169, 3) := by decide +kernel
theorem dX10_study_56 : decode cX10_study 56 = .ok (.ireturn, 1) := by decide +kernel
theorem dX10_undo_0 : decode cX10_undo 0 = .ok (.aload_n 0, 1) := by decide +kernel
theorem dX10_undo_1 : decode cX10_undo 1 = .ok (.getfield 42, 3) := by decide +kernel
theorem dX10_undo_4 : decode cX10_undo 4 = .ok (.getfield 107, 3) := by decide +kernel
theorem dX10_undo_7 : decode cX10_undo 7 = .ok (.ifCond .ne 6, 3) := by decide +kernel
theorem dX10_undo_10 : decode cX10_undo 10 = .ok (.bipush (-3), 2) := by decide +kernel
theorem dX10_undo_12 : decode cX10_undo 12 = .ok (.ireturn, 1) := by decide +kernel
theorem dX10_undo_13 : decode cX10_undo 13 = .ok (.aload_n 0, 1) := by decide +kernel
theorem dX10_undo_14 : decode cX10_undo 14 = .ok (.getfield 42, 3) := by decide +kernel
theorem dX10_undo_17 : decode cX10_undo 17 = .ok (.aload_n 0, 1) := by decide +kernel
theorem dX10_undo_18 : decode cX10_undo 18 = .ok (.getfield 19, 3) := by decide +kernel
theorem dX10_undo_21 : decode cX10_undo 21 = .ok (.invokevirtual 209, 3) := by decide +kernel
theorem dX10_undo_24 : decode cX10_undo 24 = .ok (.aload_n 0, 1) := by decide +kernel
theorem dX10_undo_25 : decode cX10_undo 25 = .ok (.invokevirtual 110, 3) := by decide +kernel
theorem dX10_undo_28 : decode cX10_undo 28 = .ok (.aload_n 0, 1) := by decide +kernel
theorem dX10_undo_29 : decode cX10_undo 29 = .ok (.getfield 42, 3) := by decide +kernel
theorem dX10_undo_32 : decode cX10_undo 32 = .ok (.getfield 107, 3) := by decide +kernel
theorem dX10_undo_35 : decode cX10_undo 35 = .ok (.ireturn, 1) := by decide +kernel
theorem dX10_base_0 : decode cX10_base 0 = .ok (.iload_n 1, 1) := by decide +kernel
theorem dX10_base_1 : decode cX10_base 1 = .ok (.ifCond .ne 7, 3) := by decide +kernel
theorem dX10_base_4 : decode cX10_base 4 = .ok (.iconst 0, 1) := by decide +kernel
theorem dX10_base_5 : decode cX10_base 5 = .ok (.goto 7, 3) := by decide +kernel
theorem dX10_base_8 : decode cX10_base 8 = .ok (.iload_n 1, 1) := by decide +kernel
theorem dX10_base_9 : decode cX10_base 9 = .ok (.invokestatic 173, 3) := by decide +kernel
theorem dX10_base_12 : decode cX10_base 12 = .ok (.istore_n 2, 1) := by decide +kernel
theorem dX10_base_13 : decode cX10_base 13 = .ok (.iload_n 2, 1) := by decide +kernel
theorem dX10_base_14 : decode cX10_base 14 = .ok (.ifCond .ge 6, 3) := by decide +kernel
theorem dX10_base_17 : decode cX10_base 17 = .ok (.bipush (-2), 2) := by decide +kernel
theorem dX10_base_19 : decode cX10_base 19 = .ok (.ireturn, 1) := by decide +kernel
theorem dX10_base_20 : decode cX10_base 20 = .ok (.aload_n 0, 1) := by decide +kernel
theorem dX10_base_21 : decode cX10_base 21 = .ok (.invokevirtual 129, 3) := by decide +kernel
theorem dX10_base_24 : decode cX10_base 24 = .ok (.iload_n 2, 1) := by decide +kernel
theorem dX10_base_25 : decode cX10_base 25 = .ok (.invokevirtual 212, 3) := by decide +kernel
theorem dX10_base_28 : decode cX10_base 28 = .ok (.ireturn, 1) := by decide +kernel
theorem dX10_slot_0 : decode cX10_slot 0 = .ok (.iload_n 1, 1) := by decide +kernel
theorem dX10_slot_1 : decode cX10_slot 1 = .ok (.ifCond .ge 6, 3) := by decide +kernel
theorem dX10_slot_4 : decode cX10_slot 4 = .ok (.bipush (-2), 2) := by decide +kernel
theorem dX10_slot_6 : decode cX10_slot 6 = .ok (.ireturn, 1) := by decide +kernel
theorem dX10_slot_7 : decode cX10_slot 7 = .ok (.aload_n 0, 1) := by decide +kernel
theorem dX10_slot_8 : decode cX10_slot 8 = .ok (.invokevirtual 129, 3) := by decide +kernel
theorem dX10_slot_11 : decode cX10_slot 11 = .ok (.iload_n 1, 1) := by decide +kernel
theorem dX10_slot_12 : decode cX10_slot 12 = .ok (.invokevirtual 215, 3) := by decide +kernel
theorem dX10_slot_15 : decode cX10_slot 15 = .ok (.ireturn, 1) := by decide +kernel
theorem dX10_ask_0 : decode cX10_ask 0 = .ok (.iload_n 1, 1) := by decide +kernel
theorem dX10_ask_1 : decode cX10_ask 1 = .ok (.invokestatic 184, 3) := by decide +kernel
theorem dX10_ask_4 : decode cX10_ask 4 = .ok (.istore_n 3, 1) := by decide +kernel
theorem dX10_ask_5 : decode cX10_ask 5 = .ok (.iload_n 3, 1) := by decide +kernel
theorem dX10_ask_6 : decode cX10_ask 6 = .ok (.ifCond .ne 6, 3) := by decide +kernel
theorem dX10_ask_9 : decode cX10_ask 9 = .ok (.bipush (-2), 2) := by decide +kernel
theorem dX10_ask_11 : decode cX10_ask 11 = .ok (.ireturn, 1) := by decide +kernel
theorem dX10_ask_12 : decode cX10_ask 12 = .ok (.iload_n 2, 1) := by decide +kernel
theorem dX10_ask_13 : decode cX10_ask 13 = .ok (.ifCond .lt 10, 3) := by decide +kernel
theorem dX10_ask_16 : decode cX10_ask 16 = .ok (.iload_n 2, 1) := by decide +kernel
theorem dX10_ask_17 : decode cX10_ask 17 = .ok (.iload_n 3, 1) := by decide +kernel
theorem dX10_ask_18 : decode cX10_ask 18 = .ok (.iconst 1, 1) := by decide +kernel
theorem dX10_ask_19 : decode cX10_ask 19 = .ok (.isub, 1) := by decide +kernel
theorem dX10_ask_20 : decode cX10_ask 20 = .ok (.if_icmp .lt 5, 3) := by decide +kernel
theorem dX10_ask_23 : decode cX10_ask 23 = .ok (.iconst (-1), 1) := by decide +kernel
theorem dX10_ask_24 : decode cX10_ask 24 = .ok (.ireturn, 1) := by decide +kernel
theorem dX10_ask_25 : decode cX10_ask 25 = .ok (.aload_n 0, 1) := by decide +kernel
theorem dX10_ask_26 : decode cX10_ask 26 = .ok (.getfield 26, 3) := by decide +kernel
theorem dX10_ask_29 : decode cX10_ask 29 = .ok (.iload_n 1, 1) := by decide +kernel
theorem dX10_ask_30 : decode cX10_ask 30 = .ok (.iload_n 3, 1) := by decide +kernel
theorem dX10_ask_31 : decode cX10_ask 31 = .ok (.invokevirtual 218, 3) := by decide +kernel
theorem dX10_ask_34 : decode cX10_ask 34 = .ok (.aload_n 0, 1) := by decide +kernel
theorem dX10_ask_35 : decode cX10_ask 35 = .ok (.getfield 35, 3) := by decide +kernel
theorem dX10_ask_38 : decode cX10_ask 38 = .ok (.iload_n 2, 1) := by decide +kernel
theorem dX10_ask_39 : decode cX10_ask 39 = .ok (.invokevirtual 221, 3) := by decide +kernel
theorem dX10_ask_42 : decode cX10_ask 42 = .ok (.ireturn, 1) := by decide +kernel
theorem dX10_earns_0 : decode cX10_earns 0 = .ok (.iload_n 1, 1) := by decide +kernel
theorem dX10_earns_1 : decode cX10_earns 1 = .ok (.invokestatic 173, 3) := by decide +kernel
theorem dX10_earns_4 : decode cX10_earns 4 = .ok (.istore_n 2, 1) := by decide +kernel
theorem dX10_earns_5 : decode cX10_earns 5 = .ok (.iload_n 2, 1) := by decide +kernel
theorem dX10_earns_6 : decode cX10_earns 6 = .ok (.invokestatic 224, 3) := by decide +kernel
theorem dX10_earns_9 : decode cX10_earns 9 = .ok (.ifCond .ne 6, 3) := by decide +kernel
theorem dX10_earns_12 : decode cX10_earns 12 = .ok (.bipush (-2), 2) := by decide +kernel
theorem dX10_earns_14 : decode cX10_earns 14 = .ok (.ireturn, 1) := by decide +kernel
theorem dX10_earns_15 : decode cX10_earns 15 = .ok (.aload_n 0, 1) := by decide +kernel
theorem dX10_earns_16 : decode cX10_earns 16 = .ok (.getfield 35, 3) := by decide +kernel
theorem dX10_earns_19 : decode cX10_earns 19 = .ok (.aload_n 0, 1) := by decide +kernel
theorem dX10_earns_20 : decode cX10_earns 20 = .ok (.getfield 19, 3) := by decide +kernel
theorem dX10_earns_23 : decode cX10_earns 23 = .ok (.invokevirtual 119, 3) := by decide +kernel
theorem dX10_earns_26 : decode cX10_earns 26 = .ok (.aload_n 0, 1) := by decide +kernel
theorem dX10_earns_27 : decode cX10_earns 27 = .ok (.getfield 35, 3) := by decide +kernel
theorem dX10_earns_30 : decode cX10_earns 30 = .ok (.aload_n 0, 1) := by decide +kernel
theorem dX10_earns_31 : decode cX10_earns 31 = .ok (.getfield 19, 3) := by decide +kernel
theorem dX10_earns_34 : decode cX10_earns 34 = .ok (.iload_n 2, 1) := by decide +kernel
theorem dX10_earns_35 : decode cX10_earns 35 = .ok (.invokevirtual 227, 3) := by decide +kernel
theorem dX10_earns_38 : decode cX10_earns 38 = .ok (.isub, 1) := by decide +kernel
theorem dX10_earns_39 : decode cX10_earns 39 = .ok (.ireturn, 1) := by decide +kernel
theorem dX10_judge_0 : decode cX10_judge 0 = .ok (.iload_n 1, 1) := by decide +kernel
theorem dX10_judge_1 : decode cX10_judge 1 = .ok (.iconst 1, 1) := by decide +kernel
theorem dX10_judge_2 : decode cX10_judge 2 = .ok (.if_icmp .lt 24, 3) := by decide +kernel
theorem dX10_judge_5 : decode cX10_judge 5 = .ok (.iload_n 1, 1) := by decide +kernel
theorem dX10_judge_6 : decode cX10_judge 6 = .ok (.iconst 3, 1) := by decide +kernel
theorem dX10_judge_7 : decode cX10_judge 7 = .ok (.if_icmp .gt 19, 3) := by decide +kernel
theorem dX10_judge_10 : decode cX10_judge 10 = .ok (.lload_n 2, 1) := by decide +kernel
theorem dX10_judge_11 : decode cX10_judge 11 = .ok (.lconst 0, 1) := by decide +kernel
theorem dX10_judge_12 : decode cX10_judge 12 = .ok (.lcmp, 1) := by decide +kernel
theorem dX10_judge_13 : decode cX10_judge 13 = .ok (.ifCond .lt 13, 3) := by decide +kernel
theorem dX10_judge_16 : decode cX10_judge 16 = .ok (.lload_n 2, 1) := by decide +kernel
theorem dX10_judge_17 : decode cX10_judge 17 = .ok (.getstatic 230, 3) := by decide +kernel
theorem dX10_judge_20 : decode cX10_judge 20 = .ok (.iload_n 1, 1) := by decide +kernel
theorem dX10_judge_21 : decode cX10_judge 21 = .ok (.laload, 1) := by decide +kernel
theorem dX10_judge_22 : decode cX10_judge 22 = .ok (.lcmp, 1) := by decide +kernel
theorem dX10_judge_23 : decode cX10_judge 23 = .ok (.ifCond .lt 6, 3) := by decide +kernel
theorem dX10_judge_26 : decode cX10_judge 26 = .ok (.bipush (-2), 2) := by decide +kernel
theorem dX10_judge_28 : decode cX10_judge 28 = .ok (.ireturn, 1) := by decide +kernel
theorem dX10_judge_29 : decode cX10_judge 29 = .ok (.aload_n 0, 1) := by decide +kernel
theorem dX10_judge_30 : decode cX10_judge 30 = .ok (.getfield 65, 3) := by decide +kernel
theorem dX10_judge_33 : decode cX10_judge 33 = .ok (.aload_n 0, 1) := by decide +kernel
theorem dX10_judge_34 : decode cX10_judge 34 = .ok (.getfield 19, 3) := by decide +kernel
theorem dX10_judge_37 : decode cX10_judge 37 = .ok (.iload_n 1, 1) := by decide +kernel
theorem dX10_judge_38 : decode cX10_judge 38 = .ok (.lload_n 2, 1) := by decide +kernel
theorem dX10_judge_39 : decode cX10_judge 39 = .ok (.invokevirtual 234, 3) := by decide +kernel
theorem dX10_judge_42 : decode cX10_judge 42 = .ok (.ireturn, 1) := by decide +kernel
theorem dX10_share_0 : decode cX10_share 0 = .ok (.aload_n 0, 1) := by decide +kernel
theorem dX10_share_1 : decode cX10_share 1 = .ok (.getfield 19, 3) := by decide +kernel
theorem dX10_share_4 : decode cX10_share 4 = .ok (.iload_n 1, 1) := by decide +kernel
theorem dX10_share_5 : decode cX10_share 5 = .ok (.invokevirtual 138, 3) := by decide +kernel
theorem dX10_share_8 : decode cX10_share 8 = .ok (.ifCond .ne 5, 3) := by decide +kernel
theorem dX10_share_11 : decode cX10_share 11 = .ok (.iconst (-1), 1) := by decide +kernel
theorem dX10_share_12 : decode cX10_share 12 = .ok (.ireturn, 1) := by decide +kernel
theorem dX10_share_13 : decode cX10_share 13 = .ok (.aload_n 0, 1) := by decide +kernel
theorem dX10_share_14 : decode cX10_share 14 = .ok (.getfield 72, 3) := by decide +kernel
theorem dX10_share_17 : decode cX10_share 17 = .ok (.aload_n 0, 1) := by decide +kernel
theorem dX10_share_18 : decode cX10_share 18 = .ok (.getfield 19, 3) := by decide +kernel
theorem dX10_share_21 : decode cX10_share 21 = .ok (.iload_n 1, 1) := by decide +kernel
theorem dX10_share_22 : decode cX10_share 22 = .ok (.iload_n 2, 1) := by decide +kernel
theorem dX10_share_23 : decode cX10_share 23 = .ok (.invokevirtual 238, 3) := by decide +kernel
theorem dX10_share_26 : decode cX10_share 26 = .ok (.ireturn, 1) := by decide +kernel
theorem dX10_see_0 : decode cX10_see 0 = .ok (.iload_n 1, 1) := by decide +kernel
theorem dX10_see_1 : decode cX10_see 1 = .ok (.ifCond .lt 26, 3) := by decide +kernel
theorem dX10_see_4 : decode cX10_see 4 = .ok (.iload_n 1, 1) := by decide +kernel
theorem dX10_see_5 : decode cX10_see 5 = .ok (.iconst 1, 1) := by decide +kernel
theorem dX10_see_6 : decode cX10_see 6 = .ok (.if_icmp .gt 21, 3) := by decide +kernel
theorem dX10_see_9 : decode cX10_see 9 = .ok (.iload_n 2, 1) := by decide +kernel
theorem dX10_see_10 : decode cX10_see 10 = .ok (.ifCond .lt 17, 3) := by decide +kernel
theorem dX10_see_13 : decode cX10_see 13 = .ok (.iload_n 2, 1) := by decide +kernel
theorem dX10_see_14 : decode cX10_see 14 = .ok (.iconst 4, 1) := by decide +kernel
theorem dX10_see_15 : decode cX10_see 15 = .ok (.if_icmp .gt 12, 3) := by decide +kernel
theorem dX10_see_18 : decode cX10_see 18 = .ok (.iload_n 3, 1) := by decide +kernel
theorem dX10_see_19 : decode cX10_see 19 = .ok (.ifCond .lt 8, 3) := by decide +kernel
theorem dX10_see_22 : decode cX10_see 22 = .ok (.iload_n 3, 1) := by decide +kernel
theorem dX10_see_23 : decode cX10_see 23 = .ok (.iconst 1, 1) := by decide +kernel
theorem dX10_see_24 : decode cX10_see 24 = .ok (.if_icmp .le 6, 3) := by decide +kernel
theorem dX10_see_27 : decode cX10_see 27 = .ok (.bipush (-2), 2) := by decide +kernel
theorem dX10_see_29 : decode cX10_see 29 = .ok (.ireturn, 1) := by decide +kernel
theorem dX10_see_30 : decode cX10_see 30 = .ok (.aload_n 0, 1) := by decide +kernel
theorem dX10_see_31 : decode cX10_see 31 = .ok (.getfield 56, 3) := by decide +kernel
theorem dX10_see_34 : decode cX10_see 34 = .ok (.iload_n 1, 1) := by decide +kernel
theorem dX10_see_35 : decode cX10_see 35 = .ok (.iload_n 2, 1) := by decide +kernel
theorem dX10_see_36 : decode cX10_see 36 = .ok (.iload_n 3, 1) := by decide +kernel
theorem dX10_see_37 : decode cX10_see 37 = .ok (.iconst 1, 1) := by decide +kernel
theorem dX10_see_38 : decode cX10_see 38 = .ok (.if_icmp .ne 7, 3) := by decide +kernel
theorem dX10_see_41 : decode cX10_see 41 = .ok (.iconst 1, 1) := by decide +kernel
theorem dX10_see_42 : decode cX10_see 42 = .ok (.goto 4, 3) := by decide +kernel
theorem dX10_see_45 : decode cX10_see 45 = .ok (.iconst 0, 1) := by decide +kernel
theorem dX10_see_46 : decode cX10_see 46 = .ok (.invokevirtual 242, 3) := by decide +kernel
theorem dX10_see_49 : decode cX10_see 49 = .ok (.ifCond .eq 13, 3) := by decide +kernel
theorem dX10_see_52 : decode cX10_see 52 = .ok (.aload_n 0, 1) := by decide +kernel
theorem dX10_see_53 : decode cX10_see 53 = .ok (.getfield 56, 3) := by decide +kernel
theorem dX10_see_56 : decode cX10_see 56 = .ok (.getfield 137, 3) := by decide +kernel
theorem dX10_see_59 : decode cX10_see 59 = .ok (.goto 5, 3) := by decide +kernel
theorem dX10_see_62 : decode cX10_see 62 = .ok (.bipush (-4), 2) := by decide +kernel
theorem dX10_see_64 : decode cX10_see 64 = .ok (.ireturn, 1) := by decide +kernel
theorem dX10_unsee_0 : decode cX10_unsee 0 = .ok (.aload_n 0, 1) := by decide +kernel
theorem dX10_unsee_1 : decode cX10_unsee 1 = .ok (.getfield 56, 3) := by decide +kernel
theorem dX10_unsee_4 : decode cX10_unsee 4 = .ok (.getfield 137, 3) := by decide +kernel
theorem dX10_unsee_7 : decode cX10_unsee 7 = .ok (.istore_n 1, 1) := by decide +kernel
theorem dX10_unsee_8 : decode cX10_unsee 8 = .ok (.aload_n 0, 1) := by decide +kernel
theorem dX10_unsee_9 : decode cX10_unsee 9 = .ok (.getfield 56, 3) := by decide +kernel
theorem dX10_unsee_12 : decode cX10_unsee 12 = .ok (.iconst 0, 1) := by decide +kernel
theorem dX10_unsee_13 : decode cX10_unsee 13 = .ok (.putfield 137, 3) := by decide +kernel
theorem dX10_unsee_16 : decode cX10_unsee 16 = .ok (.iload_n 1, 1) := by decide +kernel
theorem dX10_unsee_17 : decode cX10_unsee 17 = .ok (.ireturn, 1) := by decide +kernel
theorem dX10_which_0 : decode cX10_which 0 = .ok (.iload_n 1, 1) := by decide +kernel
theorem dX10_which_1 : decode cX10_which 1 = .ok (.ifCond .lt 8, 3) := by decide +kernel
theorem dX10_which_4 : decode cX10_which 4 = .ok (.iload_n 1, 1) := by decide +kernel
theorem dX10_which_5 : decode cX10_which 5 = .ok (.iconst 1, 1) := by decide +kernel
theorem dX10_which_6 : decode cX10_which 6 = .ok (.if_icmp .le 6, 3) := by decide +kernel
theorem dX10_which_9 : decode cX10_which 9 = .ok (.bipush (-2), 2) := by decide +kernel
theorem dX10_which_11 : decode cX10_which 11 = .ok (.ireturn, 1) := by decide +kernel
theorem dX10_which_12 : decode cX10_which 12 = .ok (.iload_n 1, 1) := by decide +kernel
theorem dX10_which_13 : decode cX10_which 13 = .ok (.ifCond .ne 17, 3) := by decide +kernel
theorem dX10_which_16 : decode cX10_which 16 = .ok (.aload_n 0, 1) := by decide +kernel
theorem dX10_which_17 : decode cX10_which 17 = .ok (.getfield 56, 3) := by decide +kernel
theorem dX10_which_20 : decode cX10_which 20 = .ok (.aload_n 0, 1) := by decide +kernel
theorem dX10_which_21 : decode cX10_which 21 = .ok (.getfield 35, 3) := by decide +kernel
theorem dX10_which_24 : decode cX10_which 24 = .ok (.invokevirtual 245, 3) := by decide +kernel
theorem dX10_which_27 : decode cX10_which 27 = .ok (.goto 14, 3) := by decide +kernel
theorem dX10_which_30 : decode cX10_which 30 = .ok (.aload_n 0, 1) := by decide +kernel
theorem dX10_which_31 : decode cX10_which 31 = .ok (.getfield 56, 3) := by decide +kernel
theorem dX10_which_34 : decode cX10_which 34 = .ok (.aload_n 0, 1) := by decide +kernel
theorem dX10_which_35 : decode cX10_which 35 = .ok (.getfield 35, 3) := by decide +kernel
theorem dX10_which_38 : decode cX10_which 38 = .ok (.invokevirtual 249, 3) := by decide +kernel
theorem dX10_which_41 : decode cX10_which 41 = .ok (.ireturn, 1) := by decide +kernel
theorem dX10_lost_0 : decode cX10_lost 0 = .ok (.iload_n 1, 1) := by decide +kernel
theorem dX10_lost_1 : decode cX10_lost 1 = .ok (.ifCond .lt 19, 3) := by decide +kernel
theorem dX10_lost_4 : decode cX10_lost 4 = .ok (.iload_n 1, 1) := by decide +kernel
theorem dX10_lost_5 : decode cX10_lost 5 = .ok (.bipush 30, 2) := by decide +kernel
theorem dX10_lost_7 : decode cX10_lost 7 = .ok (.if_icmp .gt 13, 3) := by decide +kernel
theorem dX10_lost_10 : decode cX10_lost 10 = .ok (.iload_n 2, 1) := by decide +kernel
theorem dX10_lost_11 : decode cX10_lost 11 = .ok (.ifCond .lt 9, 3) := by decide +kernel
theorem dX10_lost_14 : decode cX10_lost 14 = .ok (.iload_n 2, 1) := by decide +kernel
theorem dX10_lost_15 : decode cX10_lost 15 = .ok (.bipush 10, 2) := by decide +kernel
theorem dX10_lost_17 : decode cX10_lost 17 = .ok (.if_icmp .le 6, 3) := by decide +kernel
theorem dX10_lost_20 : decode cX10_lost 20 = .ok (.bipush (-2), 2) := by decide +kernel
theorem dX10_lost_22 : decode cX10_lost 22 = .ok (.ireturn, 1) := by decide +kernel
theorem dX10_lost_23 : decode cX10_lost 23 = .ok (.aload_n 0, 1) := by decide +kernel
theorem dX10_lost_24 : decode cX10_lost 24 = .ok (.getfield 72, 3) := by decide +kernel
theorem dX10_lost_27 : decode cX10_lost 27 = .ok (.aload_n 0, 1) := by decide +kernel
theorem dX10_lost_28 : decode cX10_lost 28 = .ok (.getfield 19, 3) := by decide +kernel
theorem dX10_lost_31 : decode cX10_lost 31 = .ok (.iload_n 1, 1) := by decide +kernel
theorem dX10_lost_32 : decode cX10_lost 32 = .ok (.iload_n 2, 1) := by decide +kernel
theorem dX10_lost_33 : decode cX10_lost 33 = .ok (.iload_n 3, 1) := by decide +kernel
theorem dX10_lost_34 : decode cX10_lost 34 = .ok (.invokevirtual 252, 3) := by decide +kernel
theorem dX10_lost_37 : decode cX10_lost 37 = .ok (.ireturn, 1) := by decide +kernel
theorem dX10_seed_0 : decode cX10_seed 0 = .ok (.aload_n 0, 1) := by decide +kernel
theorem dX10_seed_1 : decode cX10_seed 1 = .ok (.getfield 84, 3) := by decide +kernel
theorem dX10_seed_4 : decode cX10_seed 4 = .ok (.lstore_n 3, 1) := by decide +kernel
theorem dX10_seed_5 : decode cX10_seed 5 = .ok (.aload_n 0, 1) := by decide +kernel
theorem dX10_seed_6 : decode cX10_seed 6 = .ok (.lload_n 1, 1) := by decide +kernel
theorem dX10_seed_7 : decode cX10_seed 7 = .ok (.putfield 84, 3) := by decide +kernel
theorem dX10_seed_10 : decode cX10_seed 10 = .ok (.lload_n 3, 1) := by decide +kernel
theorem dX10_seed_11 : decode cX10_seed 11 = .ok (.lreturn, 1) := by decide +kernel
theorem dX10_drawn_0 : decode cX10_drawn 0 = .ok (.iload_n 1, 1) := by decide +kernel
theorem dX10_drawn_1 : decode cX10_drawn 1 = .ok (.iconst 1, 1) := by decide +kernel
theorem dX10_drawn_2 : decode cX10_drawn 2 = .ok (.if_icmp .lt 9, 3) := by decide +kernel
theorem dX10_drawn_5 : decode cX10_drawn 5 = .ok (.iload_n 1, 1) := by decide +kernel
theorem dX10_drawn_6 : decode cX10_drawn 6 = .ok (.bipush 20, 2) := by decide +kernel
theorem dX10_drawn_8 : decode cX10_drawn 8 = .ok (.if_icmp .le 6, 3) := by decide +kernel
theorem dX10_drawn_11 : decode cX10_drawn 11 = .ok (.bipush (-2), 2) := by decide +kernel
theorem dX10_drawn_13 : decode cX10_drawn 13 = .ok (.ireturn, 1) := by decide +kernel
theorem dX10_drawn_14 : decode cX10_drawn 14 = .ok (.iconst 0, 1) := by decide +kernel
theorem dX10_drawn_15 : decode cX10_drawn 15 = .ok (.istore_n 2, 1) := by decide +kernel
theorem dX10_drawn_16 : decode cX10_drawn 16 = .ok (.iconst 0, 1) := by decide +kernel
theorem dX10_drawn_17 : decode cX10_drawn 17 = .ok (.istore_n 3, 1) := by decide +kernel
theorem dX10_drawn_18 : decode cX10_drawn 18 = .ok (.iload_n 3, 1) := by decide +kernel
theorem dX10_drawn_19 : decode cX10_drawn 19 = .ok (.iload_n 1, 1) := by decide +kernel
theorem dX10_drawn_20 : decode cX10_drawn 20 = .ok (.if_icmp .ge 40, 3) := by decide +kernel
theorem dX10_drawn_23 : decode cX10_drawn 23 = .ok (.aload_n 0, 1) := by decide +kernel
theorem dX10_drawn_24 : decode cX10_drawn 24 = .ok (.aload_n 0, 1) := by decide +kernel
theorem dX10_drawn_25 : decode cX10_drawn 25 = .ok (.getfield 84, 3) := by decide +kernel
theorem dX10_drawn_28 : decode cX10_drawn 28 = .ok (.ldc2_w 256, 3) := by decide +kernel
theorem dX10_drawn_31 : decode cX10_drawn 31 = .ok (.lmul, 1) := by decide +kernel
theorem dX10_drawn_32 : decode cX10_drawn 32 = .ok (.ldc2_w 258, 3) := by decide +kernel
theorem dX10_drawn_35 : decode cX10_drawn 35 = .ok (.ladd, 1) := by decide +kernel
theorem dX10_drawn_36 : decode cX10_drawn 36 = .ok (.putfield 84, 3) := by decide +kernel
theorem dX10_drawn_39 : decode cX10_drawn 39 = .ok (.iload_n 2, 1) := by decide +kernel
theorem dX10_drawn_40 : decode cX10_drawn 40 = .ok (.aload_n 0, 1) := by decide +kernel
theorem dX10_drawn_41 : decode cX10_drawn 41 = .ok (.aload_n 0, 1) := by decide +kernel
theorem dX10_drawn_42 : decode cX10_drawn 42 = .ok (.getfield 84, 3) := by decide +kernel
theorem dX10_drawn_45 : decode cX10_drawn 45 = .ok (.bipush 33, 2) := by decide +kernel
theorem dX10_drawn_47 : decode cX10_drawn 47 = .ok (.lushr, 1) := by decide +kernel
theorem dX10_drawn_48 : decode cX10_drawn 48 = .ok (.l2i, 1) := by decide +kernel
theorem dX10_drawn_49 : decode cX10_drawn 49 = .ok (.invokevirtual 260, 3) := by decide +kernel
theorem dX10_drawn_52 : decode cX10_drawn 52 = .ok (.iadd, 1) := by decide +kernel
theorem dX10_drawn_53 : decode cX10_drawn 53 = .ok (.istore_n 2, 1) := by decide +kernel
theorem dX10_drawn_54 : decode cX10_drawn 54 = .ok (.iinc 3 1, 3) := by decide +kernel
theorem dX10_drawn_57 : decode cX10_drawn 57 = .ok (.goto (-39), 3) := by decide +kernel
theorem dX10_drawn_60 : decode cX10_drawn 60 = .ok (.iload_n 2, 1) := by decide +kernel
theorem dX10_drawn_61 : decode cX10_drawn 61 = .ok (.ireturn, 1) := by decide +kernel
theorem dX10_keep_0 : decode cX10_keep 0 = .ok (.iload_n 1, 1) := by decide +kernel
theorem dX10_keep_1 : decode cX10_keep 1 = .ok (.invokestatic 263, 3) := by decide +kernel
theorem dX10_keep_4 : decode cX10_keep 4 = .ok (.ifCond .ne 5, 3) := by decide +kernel
theorem dX10_keep_7 : decode cX10_keep 7 = .ok (.iconst (-1), 1) := by decide +kernel
theorem dX10_keep_8 : decode cX10_keep 8 = .ok (.ireturn, 1) := by decide +kernel
theorem dX10_keep_9 : decode cX10_keep 9 = .ok (.aload_n 0, 1) := by decide +kernel
theorem dX10_keep_10 : decode cX10_keep 10 = .ok (.getfield 76, 3) := by decide +kernel
theorem dX10_keep_13 : decode cX10_keep 13 = .ok (.iload_n 1, 1) := by decide +kernel
theorem dX10_keep_14 : decode cX10_keep 14 = .ok (.aaload, 1) := by decide +kernel
theorem dX10_keep_15 : decode cX10_keep 15 = .ok (.aload_n 0, 1) := by decide +kernel
theorem dX10_keep_16 : decode cX10_keep 16 = .ok (.getfield 19, 3) := by decide +kernel
theorem dX10_keep_19 : decode cX10_keep 19 = .ok (.invokevirtual 266, 3) := by decide +kernel
theorem dX10_keep_22 : decode cX10_keep 22 = .ok (.aload_n 0, 1) := by decide +kernel
theorem dX10_keep_23 : decode cX10_keep 23 = .ok (.getfield 80, 3) := by decide +kernel
theorem dX10_keep_26 : decode cX10_keep 26 = .ok (.iload_n 1, 1) := by decide +kernel
theorem dX10_keep_27 : decode cX10_keep 27 = .ok (.iconst 1, 1) := by decide +kernel
theorem dX10_keep_28 : decode cX10_keep 28 = .ok (.bastore, 1) := by decide +kernel
theorem dX10_keep_29 : decode cX10_keep 29 = .ok (.aload_n 0, 1) := by decide +kernel
theorem dX10_keep_30 : decode cX10_keep 30 = .ok (.getfield 19, 3) := by decide +kernel
theorem dX10_keep_33 : decode cX10_keep 33 = .ok (.getfield 113, 3) := by decide +kernel
theorem dX10_keep_36 : decode cX10_keep 36 = .ok (.ireturn, 1) := by decide +kernel
theorem dX10_again_0 : decode cX10_again 0 = .ok (.iload_n 1, 1) := by decide +kernel
theorem dX10_again_1 : decode cX10_again 1 = .ok (.invokestatic 263, 3) := by decide +kernel
theorem dX10_again_4 : decode cX10_again 4 = .ok (.ifCond .ne 5, 3) := by decide +kernel
theorem dX10_again_7 : decode cX10_again 7 = .ok (.iconst (-1), 1) := by decide +kernel
theorem dX10_again_8 : decode cX10_again 8 = .ok (.ireturn, 1) := by decide +kernel
theorem dX10_again_9 : decode cX10_again 9 = .ok (.aload_n 0, 1) := by decide +kernel
theorem dX10_again_10 : decode cX10_again 10 = .ok (.getfield 80, 3) := by decide +kernel
theorem dX10_again_13 : decode cX10_again 13 = .ok (.iload_n 1, 1) := by decide +kernel
theorem dX10_again_14 : decode cX10_again 14 = .ok (.baload, 1) := by decide +kernel
theorem dX10_again_15 : decode cX10_again 15 = .ok (.ifCond .ne 6, 3) := by decide +kernel
theorem dX10_again_18 : decode cX10_again 18 = .ok (.bipush (-3), 2) := by decide +kernel
theorem dX10_again_20 : decode cX10_again 20 = .ok (.ireturn, 1) := by decide +kernel
theorem dX10_again_21 : decode cX10_again 21 = .ok (.aload_n 0, 1) := by decide +kernel
theorem dX10_again_22 : decode cX10_again 22 = .ok (.getfield 19, 3) := by decide +kernel
theorem dX10_again_25 : decode cX10_again 25 = .ok (.aload_n 0, 1) := by decide +kernel
theorem dX10_again_26 : decode cX10_again 26 = .ok (.getfield 76, 3) := by decide +kernel
theorem dX10_again_29 : decode cX10_again 29 = .ok (.iload_n 1, 1) := by decide +kernel
theorem dX10_again_30 : decode cX10_again 30 = .ok (.aaload, 1) := by decide +kernel
theorem dX10_again_31 : decode cX10_again 31 = .ok (.invokevirtual 266, 3) := by decide +kernel
theorem dX10_again_34 : decode cX10_again 34 = .ok (.aload_n 0, 1) := by decide +kernel
theorem dX10_again_35 : decode cX10_again 35 = .ok (.getfield 42, 3) := by decide +kernel
theorem dX10_again_38 : decode cX10_again 38 = .ok (.iconst 0, 1) := by decide +kernel
theorem dX10_again_39 : decode cX10_again 39 = .ok (.putfield 107, 3) := by decide +kernel
theorem dX10_again_42 : decode cX10_again 42 = .ok (.aload_n 0, 1) := by decide +kernel
theorem dX10_again_43 : decode cX10_again 43 = .ok (.invokevirtual 110, 3) := by decide +kernel
theorem dX10_again_46 : decode cX10_again 46 = .ok (.aload_n 0, 1) := by decide +kernel
theorem dX10_again_47 : decode cX10_again 47 = .ok (.getfield 19, 3) := by decide +kernel
theorem dX10_again_50 : decode cX10_again 50 = .ok (.getfield 113, 3) := by decide +kernel
theorem dX10_again_53 : decode cX10_again 53 = .ok (.ireturn, 1) := by decide +kernel
theorem dX10_learnAnew_0 : decode cX10_learnAnew 0 = .ok (.aload_n 0, 1) := by decide +kernel
theorem dX10_learnAnew_1 : decode cX10_learnAnew 1 = .ok (.getfield 26, 3) := by decide +kernel
theorem dX10_learnAnew_4 : decode cX10_learnAnew 4 = .ok (.aload_n 0, 1) := by decide +kernel
theorem dX10_learnAnew_5 : decode cX10_learnAnew 5 = .ok (.getfield 19, 3) := by decide +kernel
theorem dX10_learnAnew_8 : decode cX10_learnAnew 8 = .ok (.invokevirtual 269, 3) := by decide +kernel
theorem dX10_learnAnew_11 : decode cX10_learnAnew 11 = .ok (.aload_n 0, 1) := by decide +kernel
theorem dX10_learnAnew_12 : decode cX10_learnAnew 12 = .ok (.getfield 35, 3) := by decide +kernel
theorem dX10_learnAnew_15 : decode cX10_learnAnew 15 = .ok (.aload_n 0, 1) := by decide +kernel
theorem dX10_learnAnew_16 : decode cX10_learnAnew 16 = .ok (.getfield 19, 3) := by decide +kernel
theorem dX10_learnAnew_19 : decode cX10_learnAnew 19 = .ok (.bipush 63, 2) := by decide +kernel
theorem dX10_learnAnew_21 : decode cX10_learnAnew 21 = .ok (.invokevirtual 272, 3) := by decide +kernel
theorem dX10_learnAnew_24 : decode cX10_learnAnew 24 = .ok (.aload_n 0, 1) := by decide +kernel
theorem dX10_learnAnew_25 : decode cX10_learnAnew 25 = .ok (.getfield 49, 3) := by decide +kernel
theorem dX10_learnAnew_28 : decode cX10_learnAnew 28 = .ok (.iconst 0, 1) := by decide +kernel
theorem dX10_learnAnew_29 : decode cX10_learnAnew 29 = .ok (.putfield 276, 3) := by decide +kernel
theorem dX10_learnAnew_32 : decode cX10_learnAnew 32 = .ok (.aload_n 0, 1) := by decide +kernel
theorem dX10_learnAnew_33 : decode cX10_learnAnew 33 = .ok (.getfield 72, 3) := by decide +kernel
theorem dX10_learnAnew_36 : decode cX10_learnAnew 36 = .ok (.iconst 0, 1) := by decide +kernel
theorem dX10_learnAnew_37 : decode cX10_learnAnew 37 = .ok (.putfield 280, 3) := by decide +kernel
theorem dX10_learnAnew_40 : decode cX10_learnAnew 40 = .ok (.return_, 1) := by decide +kernel
theorem dX10_packedTree_0 : decode cX10_packedTree 0 = .ok (.aload_n 0, 1) := by decide +kernel
theorem dX10_packedTree_1 : decode cX10_packedTree 1 = .ok (.getfield 49, 3) := by decide +kernel
theorem dX10_packedTree_4 : decode cX10_packedTree 4 = .ok (.aload_n 0, 1) := by decide +kernel
theorem dX10_packedTree_5 : decode cX10_packedTree 5 = .ok (.getfield 35, 3) := by decide +kernel
theorem dX10_packedTree_8 : decode cX10_packedTree 8 = .ok (.invokevirtual 283, 3) := by decide +kernel
theorem dX10_packedTree_11 : decode cX10_packedTree 11 = .ok (.aload_n 0, 1) := by decide +kernel
theorem dX10_packedTree_12 : decode cX10_packedTree 12 = .ok (.getfield 49, 3) := by decide +kernel
theorem dX10_packedTree_15 : decode cX10_packedTree 15 = .ok (.areturn, 1) := by decide +kernel
theorem dX10_digitsOfDrawn_0 : decode cX10_digitsOfDrawn 0 = .ok (.iconst 0, 1) := by decide +kernel
theorem dX10_digitsOfDrawn_1 : decode cX10_digitsOfDrawn 1 = .ok (.istore_n 2, 1) := by decide +kernel
theorem dX10_digitsOfDrawn_2 : decode cX10_digitsOfDrawn 2 = .ok (.iconst 0, 1) := by decide +kernel
theorem dX10_digitsOfDrawn_3 : decode cX10_digitsOfDrawn 3 = .ok (.istore_n 3, 1) := by decide +kernel
theorem dX10_digitsOfDrawn_4 : decode cX10_digitsOfDrawn 4 = .ok (.iload_n 3, 1) := by decide +kernel
theorem dX10_digitsOfDrawn_5 : decode cX10_digitsOfDrawn 5 = .ok (.iconst 4, 1) := by decide +kernel
theorem dX10_digitsOfDrawn_6 : decode cX10_digitsOfDrawn 6 = .ok (.if_icmp .ge 24, 3) := by decide +kernel
theorem dX10_digitsOfDrawn_9 : decode cX10_digitsOfDrawn 9 = .ok (.iload_n 2, 1) := by decide +kernel
theorem dX10_digitsOfDrawn_10 : decode cX10_digitsOfDrawn 10 = .ok (.bipush 10, 2) := by decide +kernel
theorem dX10_digitsOfDrawn_12 : decode cX10_digitsOfDrawn 12 = .ok (.imul, 1) := by decide +kernel
theorem dX10_digitsOfDrawn_13 : decode cX10_digitsOfDrawn 13 = .ok (.iload_n 1, 1) := by decide +kernel
theorem dX10_digitsOfDrawn_14 : decode cX10_digitsOfDrawn 14 = .ok (.iconst 3, 1) := by decide +kernel
theorem dX10_digitsOfDrawn_15 : decode cX10_digitsOfDrawn 15 = .ok (.iload_n 3, 1) := by decide +kernel
theorem dX10_digitsOfDrawn_16 : decode cX10_digitsOfDrawn 16 = .ok (.imul, 1) := by decide +kernel
theorem dX10_digitsOfDrawn_17 : decode cX10_digitsOfDrawn 17 = .ok (.ishr, 1) := by decide +kernel
theorem dX10_digitsOfDrawn_18 : decode cX10_digitsOfDrawn 18 = .ok (.iconst 5, 1) := by decide +kernel
theorem dX10_digitsOfDrawn_19 : decode cX10_digitsOfDrawn 19 = .ok (.irem, 1) := by decide +kernel
theorem dX10_digitsOfDrawn_20 : decode cX10_digitsOfDrawn 20 = .ok (.iadd, 1) := by decide +kernel
theorem dX10_digitsOfDrawn_21 : decode cX10_digitsOfDrawn 21 = .ok (.iconst 1, 1) := by decide +kernel
theorem dX10_digitsOfDrawn_22 : decode cX10_digitsOfDrawn 22 = .ok (.iadd, 1) := by decide +kernel
theorem dX10_digitsOfDrawn_23 : decode cX10_digitsOfDrawn 23 = .ok (.istore_n 2, 1) := by decide +kernel
theorem dX10_digitsOfDrawn_24 : decode cX10_digitsOfDrawn 24 = .ok (.iinc 3 1, 3) := by decide +kernel
theorem dX10_digitsOfDrawn_27 : decode cX10_digitsOfDrawn 27 = .ok (.goto (-23), 3) := by decide +kernel
theorem dX10_digitsOfDrawn_30 : decode cX10_digitsOfDrawn 30 = .ok (.aload_n 0, 1) := by decide +kernel
theorem dX10_digitsOfDrawn_31 : decode cX10_digitsOfDrawn 31 = .ok (.getfield 26, 3) := by decide +kernel
theorem dX10_digitsOfDrawn_34 : decode cX10_digitsOfDrawn 34 = .ok (.iload_n 2, 1) := by decide +kernel
theorem dX10_digitsOfDrawn_35 : decode cX10_digitsOfDrawn 35 = .ok (.iconst 4, 1) := by decide +kernel
theorem dX10_digitsOfDrawn_36 : decode cX10_digitsOfDrawn 36 = .ok (.invokevirtual 218, 3) := by decide +kernel
theorem dX10_digitsOfDrawn_39 : decode cX10_digitsOfDrawn 39 = .ok (.iconst 0, 1) := by decide +kernel
theorem dX10_digitsOfDrawn_40 : decode cX10_digitsOfDrawn 40 = .ok (.istore_n 3, 1) := by decide +kernel
theorem dX10_digitsOfDrawn_41 : decode cX10_digitsOfDrawn 41 = .ok (.iconst 0, 1) := by decide +kernel
theorem dX10_digitsOfDrawn_42 : decode cX10_digitsOfDrawn 42 = .ok (.istore 4, 2) := by decide +kernel
theorem dX10_digitsOfDrawn_44 : decode cX10_digitsOfDrawn 44 = .ok (.iload 4, 2) := by decide +kernel
theorem dX10_digitsOfDrawn_46 : decode cX10_digitsOfDrawn 46 = .ok (.iconst 3, 1) := by decide +kernel
theorem dX10_digitsOfDrawn_47 : decode cX10_digitsOfDrawn 47 = .ok (.if_icmp .ge 21, 3) := by decide +kernel
theorem dX10_digitsOfDrawn_50 : decode cX10_digitsOfDrawn 50 = .ok (.iload_n 3, 1) := by decide +kernel
theorem dX10_digitsOfDrawn_51 : decode cX10_digitsOfDrawn 51 = .ok (.aload_n 0, 1) := by decide +kernel
theorem dX10_digitsOfDrawn_52 : decode cX10_digitsOfDrawn 52 = .ok (.getfield 35, 3) := by decide +kernel
theorem dX10_digitsOfDrawn_55 : decode cX10_digitsOfDrawn 55 = .ok (.iload 4, 2) := by decide +kernel
theorem dX10_digitsOfDrawn_57 : decode cX10_digitsOfDrawn 57 = .ok (.invokevirtual 221, 3) := by decide +kernel
theorem dX10_digitsOfDrawn_60 : decode cX10_digitsOfDrawn 60 = .ok (.iadd, 1) := by decide +kernel
theorem dX10_digitsOfDrawn_61 : decode cX10_digitsOfDrawn 61 = .ok (.istore_n 3, 1) := by decide +kernel
theorem dX10_digitsOfDrawn_62 : decode cX10_digitsOfDrawn 62 = .ok (.iinc 4 1, 3) := by decide +kernel
theorem dX10_digitsOfDrawn_65 : decode cX10_digitsOfDrawn 65 = .ok (.goto (-21), 3) := by decide +kernel
theorem dX10_digitsOfDrawn_68 : decode cX10_digitsOfDrawn 68 = .ok (.iload_n 3, 1) := by decide +kernel
theorem dX10_digitsOfDrawn_69 : decode cX10_digitsOfDrawn 69 = .ok (.ireturn, 1) := by decide +kernel
theorem dX10_isLevel_0 : decode cX10_isLevel 0 = .ok (.iload_n 0, 1) := by decide +kernel
theorem dX10_isLevel_1 : decode cX10_isLevel 1 = .ok (.iconst 1, 1) := by decide +kernel
theorem dX10_isLevel_2 : decode cX10_isLevel 2 = .ok (.if_icmp .lt 12, 3) := by decide +kernel
theorem dX10_isLevel_5 : decode cX10_isLevel 5 = .ok (.iload_n 0, 1) := by decide +kernel
theorem dX10_isLevel_6 : decode cX10_isLevel 6 = .ok (.iconst 4, 1) := by decide +kernel
theorem dX10_isLevel_7 : decode cX10_isLevel 7 = .ok (.if_icmp .gt 7, 3) := by decide +kernel
theorem dX10_isLevel_10 : decode cX10_isLevel 10 = .ok (.iconst 1, 1) := by decide +kernel
theorem dX10_isLevel_11 : decode cX10_isLevel 11 = .ok (.goto 4, 3) := by decide +kernel
theorem dX10_isLevel_14 : decode cX10_isLevel 14 = .ok (.iconst 0, 1) := by decide +kernel
theorem dX10_isLevel_15 : decode cX10_isLevel 15 = .ok (.ireturn, 1) := by decide +kernel
theorem dX10_isRule_0 : decode cX10_isRule 0 = .ok (.iload_n 0, 1) := by decide +kernel
theorem dX10_isRule_1 : decode cX10_isRule 1 = .ok (.ifCond .lt 23, 3) := by decide +kernel
theorem dX10_isRule_4 : decode cX10_isRule 4 = .ok (.iload_n 0, 1) := by decide +kernel
theorem dX10_isRule_5 : decode cX10_isRule 5 = .ok (.iconst 3, 1) := by decide +kernel
theorem dX10_isRule_6 : decode cX10_isRule 6 = .ok (.if_icmp .ge 18, 3) := by decide +kernel
theorem dX10_isRule_9 : decode cX10_isRule 9 = .ok (.iload_n 1, 1) := by decide +kernel
theorem dX10_isRule_10 : decode cX10_isRule 10 = .ok (.iconst 1, 1) := by decide +kernel
theorem dX10_isRule_11 : decode cX10_isRule 11 = .ok (.if_icmp .lt 13, 3) := by decide +kernel
theorem dX10_isRule_14 : decode cX10_isRule 14 = .ok (.iload_n 1, 1) := by decide +kernel
theorem dX10_isRule_15 : decode cX10_isRule 15 = .ok (.bipush 9, 2) := by decide +kernel
theorem dX10_isRule_17 : decode cX10_isRule 17 = .ok (.if_icmp .gt 7, 3) := by decide +kernel
theorem dX10_isRule_20 : decode cX10_isRule 20 = .ok (.iconst 1, 1) := by decide +kernel
theorem dX10_isRule_21 : decode cX10_isRule 21 = .ok (.goto 4, 3) := by decide +kernel
theorem dX10_isRule_24 : decode cX10_isRule 24 = .ok (.iconst 0, 1) := by decide +kernel
theorem dX10_isRule_25 : decode cX10_isRule 25 = .ok (.ireturn, 1) := by decide +kernel
theorem dX10_isShelf_0 : decode cX10_isShelf 0 = .ok (.iload_n 0, 1) := by decide +kernel
theorem dX10_isShelf_1 : decode cX10_isShelf 1 = .ok (.ifCond .lt 12, 3) := by decide +kernel
theorem dX10_isShelf_4 : decode cX10_isShelf 4 = .ok (.iload_n 0, 1) := by decide +kernel
theorem dX10_isShelf_5 : decode cX10_isShelf 5 = .ok (.iconst 2, 1) := by decide +kernel
theorem dX10_isShelf_6 : decode cX10_isShelf 6 = .ok (.if_icmp .ge 7, 3) := by decide +kernel
theorem dX10_isShelf_9 : decode cX10_isShelf 9 = .ok (.iconst 1, 1) := by decide +kernel
theorem dX10_isShelf_10 : decode cX10_isShelf 10 = .ok (.goto 4, 3) := by decide +kernel
theorem dX10_isShelf_13 : decode cX10_isShelf 13 = .ok (.iconst 0, 1) := by decide +kernel
theorem dX10_isShelf_14 : decode cX10_isShelf 14 = .ok (.ireturn, 1) := by decide +kernel
theorem dJ6_bitCount_0f7a4_0 : decode cJ6_bitCount_0f7a4 0 = .ok (.iload_n 0, 1) := by decide +kernel
theorem dJ6_bitCount_0f7a4_1 : decode cJ6_bitCount_0f7a4 1 = .ok (.iload_n 0, 1) := by decide +kernel
theorem dJ6_bitCount_0f7a4_2 : decode cJ6_bitCount_0f7a4 2 = .ok (.iconst 1, 1) := by decide +kernel
theorem dJ6_bitCount_0f7a4_3 : decode cJ6_bitCount_0f7a4 3 = .ok (.iushr, 1) := by decide +kernel
theorem dJ6_bitCount_0f7a4_4 : decode cJ6_bitCount_0f7a4 4 = .ok (.ldc_w 265, 3) := by decide +kernel
theorem dJ6_bitCount_0f7a4_7 : decode cJ6_bitCount_0f7a4 7 = .ok (.iand, 1) := by decide +kernel
theorem dJ6_bitCount_0f7a4_8 : decode cJ6_bitCount_0f7a4 8 = .ok (.isub, 1) := by decide +kernel
theorem dJ6_bitCount_0f7a4_9 : decode cJ6_bitCount_0f7a4 9 = .ok (.istore_n 0, 1) := by decide +kernel
theorem dJ6_bitCount_0f7a4_10 : decode cJ6_bitCount_0f7a4 10 = .ok (.iload_n 0, 1) := by decide +kernel
theorem dJ6_bitCount_0f7a4_11 : decode cJ6_bitCount_0f7a4 11 = .ok (.ldc_w 266, 3) := by decide +kernel
theorem dJ6_bitCount_0f7a4_14 : decode cJ6_bitCount_0f7a4 14 = .ok (.iand, 1) := by decide +kernel
theorem dJ6_bitCount_0f7a4_15 : decode cJ6_bitCount_0f7a4 15 = .ok (.iload_n 0, 1) := by decide +kernel
theorem dJ6_bitCount_0f7a4_16 : decode cJ6_bitCount_0f7a4 16 = .ok (.iconst 2, 1) := by decide +kernel
theorem dJ6_bitCount_0f7a4_17 : decode cJ6_bitCount_0f7a4 17 = .ok (.iushr, 1) := by decide +kernel
theorem dJ6_bitCount_0f7a4_18 : decode cJ6_bitCount_0f7a4 18 = .ok (.ldc_w 266, 3) := by decide +kernel
theorem dJ6_bitCount_0f7a4_21 : decode cJ6_bitCount_0f7a4 21 = .ok (.iand, 1) := by decide +kernel
theorem dJ6_bitCount_0f7a4_22 : decode cJ6_bitCount_0f7a4 22 = .ok (.iadd, 1) := by decide +kernel
theorem dJ6_bitCount_0f7a4_23 : decode cJ6_bitCount_0f7a4 23 = .ok (.istore_n 0, 1) := by decide +kernel
theorem dJ6_bitCount_0f7a4_24 : decode cJ6_bitCount_0f7a4 24 = .ok (.iload_n 0, 1) := by decide +kernel
theorem dJ6_bitCount_0f7a4_25 : decode cJ6_bitCount_0f7a4 25 = .ok (.iload_n 0, 1) := by decide +kernel
theorem dJ6_bitCount_0f7a4_26 : decode cJ6_bitCount_0f7a4 26 = .ok (.iconst 4, 1) := by decide +kernel
theorem dJ6_bitCount_0f7a4_27 : decode cJ6_bitCount_0f7a4 27 = .ok (.iushr, 1) := by decide +kernel
theorem dJ6_bitCount_0f7a4_28 : decode cJ6_bitCount_0f7a4 28 = .ok (.iadd, 1) := by decide +kernel
theorem dJ6_bitCount_0f7a4_29 : decode cJ6_bitCount_0f7a4 29 = .ok (.ldc_w 267, 3) := by decide +kernel
theorem dJ6_bitCount_0f7a4_32 : decode cJ6_bitCount_0f7a4 32 = .ok (.iand, 1) := by decide +kernel
theorem dJ6_bitCount_0f7a4_33 : decode cJ6_bitCount_0f7a4 33 = .ok (.istore_n 0, 1) := by decide +kernel
theorem dJ6_bitCount_0f7a4_34 : decode cJ6_bitCount_0f7a4 34 = .ok (.iload_n 0, 1) := by decide +kernel
theorem dJ6_bitCount_0f7a4_35 : decode cJ6_bitCount_0f7a4 35 = .ok (.iload_n 0, 1) := by decide +kernel
theorem dJ6_bitCount_0f7a4_36 : decode cJ6_bitCount_0f7a4 36 = .ok (.bipush 8, 2) := by decide +kernel
theorem dJ6_bitCount_0f7a4_38 : decode cJ6_bitCount_0f7a4 38 = .ok (.iushr, 1) := by decide +kernel
theorem dJ6_bitCount_0f7a4_39 : decode cJ6_bitCount_0f7a4 39 = .ok (.iadd, 1) := by decide +kernel
theorem dJ6_bitCount_0f7a4_40 : decode cJ6_bitCount_0f7a4 40 = .ok (.istore_n 0, 1) := by decide +kernel
theorem dJ6_bitCount_0f7a4_41 : decode cJ6_bitCount_0f7a4 41 = .ok (.iload_n 0, 1) := by decide +kernel
theorem dJ6_bitCount_0f7a4_42 : decode cJ6_bitCount_0f7a4 42 = .ok (.iload_n 0, 1) := by decide +kernel
theorem dJ6_bitCount_0f7a4_43 : decode cJ6_bitCount_0f7a4 43 = .ok (.bipush 16, 2) := by decide +kernel
theorem dJ6_bitCount_0f7a4_45 : decode cJ6_bitCount_0f7a4 45 = .ok (.iushr, 1) := by decide +kernel
theorem dJ6_bitCount_0f7a4_46 : decode cJ6_bitCount_0f7a4 46 = .ok (.iadd, 1) := by decide +kernel
theorem dJ6_bitCount_0f7a4_47 : decode cJ6_bitCount_0f7a4 47 = .ok (.istore_n 0, 1) := by decide +kernel
theorem dJ6_bitCount_0f7a4_48 : decode cJ6_bitCount_0f7a4 48 = .ok (.iload_n 0, 1) := by decide +kernel
theorem dJ6_bitCount_0f7a4_49 : decode cJ6_bitCount_0f7a4 49 = .ok (.bipush 63, 2) := by decide +kernel
theorem dJ6_bitCount_0f7a4_51 : decode cJ6_bitCount_0f7a4 51 = .ok (.iand, 1) := by decide +kernel
theorem dJ6_bitCount_0f7a4_52 : decode cJ6_bitCount_0f7a4 52 = .ok (.ireturn, 1) := by decide +kernel
theorem dJ9_abs_0f7a4_0 : decode cJ9_abs_0f7a4 0 = .ok (.iload_n 0, 1) := by decide +kernel
theorem dJ9_abs_0f7a4_1 : decode cJ9_abs_0f7a4 1 = .ok (.ifCond .ge 8, 3) := by decide +kernel
theorem dJ9_abs_0f7a4_4 : decode cJ9_abs_0f7a4 4 = .ok (.iload_n 0, 1) := by decide +kernel
theorem dJ9_abs_0f7a4_5 : decode cJ9_abs_0f7a4 5 = .ok (.ineg, 1) := by decide +kernel
theorem dJ9_abs_0f7a4_6 : decode cJ9_abs_0f7a4 6 = .ok (.goto 4, 3) := by decide +kernel
theorem dJ9_abs_0f7a4_9 : decode cJ9_abs_0f7a4 9 = .ok (.iload_n 0, 1) := by decide +kernel
theorem dJ9_abs_0f7a4_10 : decode cJ9_abs_0f7a4 10 = .ok (.ireturn, 1) := by decide +kernel
theorem dJ9_max_7cf53_0 : decode cJ9_max_7cf53 0 = .ok (.iload_n 0, 1) := by decide +kernel
theorem dJ9_max_7cf53_1 : decode cJ9_max_7cf53 1 = .ok (.iload_n 1, 1) := by decide +kernel
theorem dJ9_max_7cf53_2 : decode cJ9_max_7cf53 2 = .ok (.if_icmp .lt 7, 3) := by decide +kernel
theorem dJ9_max_7cf53_5 : decode cJ9_max_7cf53 5 = .ok (.iload_n 0, 1) := by decide +kernel
theorem dJ9_max_7cf53_6 : decode cJ9_max_7cf53 6 = .ok (.goto 4, 3) := by decide +kernel
theorem dJ9_max_7cf53_9 : decode cJ9_max_7cf53 9 = .ok (.iload_n 1, 1) := by decide +kernel
theorem dJ9_max_7cf53_10 : decode cJ9_max_7cf53 10 = .ok (.ireturn, 1) := by decide +kernel
theorem dJ9_min_7cf53_0 : decode cJ9_min_7cf53 0 = .ok (.iload_n 0, 1) := by decide +kernel
theorem dJ9_min_7cf53_1 : decode cJ9_min_7cf53 1 = .ok (.iload_n 1, 1) := by decide +kernel
theorem dJ9_min_7cf53_2 : decode cJ9_min_7cf53 2 = .ok (.if_icmp .gt 7, 3) := by decide +kernel
theorem dJ9_min_7cf53_5 : decode cJ9_min_7cf53 5 = .ok (.iload_n 0, 1) := by decide +kernel
theorem dJ9_min_7cf53_6 : decode cJ9_min_7cf53 6 = .ok (.goto 4, 3) := by decide +kernel
theorem dJ9_min_7cf53_9 : decode cJ9_min_7cf53 9 = .ok (.iload_n 1, 1) := by decide +kernel
theorem dJ9_min_7cf53_10 : decode cJ9_min_7cf53 10 = .ok (.ireturn, 1) := by decide +kernel
theorem dJ7_rangeCheck_23922_0 : decode cJ7_rangeCheck_23922 0 = .ok (.iload_n 1, 1) := by decide +kernel
theorem dJ7_rangeCheck_23922_1 : decode cJ7_rangeCheck_23922 1 = .ok (.iload_n 2, 1) := by decide +kernel
theorem dJ7_rangeCheck_23922_2 : decode cJ7_rangeCheck_23922 2 = .ok (.if_icmp .le 44, 3) := by decide +kernel
theorem dJ7_rangeCheck_23922_5 : decode cJ7_rangeCheck_23922 5 = .ok (.new 43, 3) := by decide +kernel
theorem dJ7_rangeCheck_23922_8 : decode cJ7_rangeCheck_23922 8 = .ok (.dup, 1) := by decide +kernel
theorem dJ7_rangeCheck_23922_9 : decode cJ7_rangeCheck_23922 9 = .ok (.new 45, 3) := by decide +kernel
theorem dJ7_rangeCheck_23922_12 : decode cJ7_rangeCheck_23922 12 = .ok (.dup, 1) := by decide +kernel
theorem dJ7_rangeCheck_23922_13 : decode cJ7_rangeCheck_23922 13 = .ok (.invokespecial 47, 3) := by decide +kernel
theorem dJ7_rangeCheck_23922_16 : decode cJ7_rangeCheck_23922 16 = .ok (.ldc 48, 2) := by decide +kernel
theorem dJ7_rangeCheck_23922_18 : decode cJ7_rangeCheck_23922 18 = .ok (.invokevirtual 50, 3) := by decide +kernel
theorem dJ7_rangeCheck_23922_21 : decode cJ7_rangeCheck_23922 21 = .ok (.iload_n 1, 1) := by decide +kernel
theorem dJ7_rangeCheck_23922_22 : decode cJ7_rangeCheck_23922 22 = .ok (.invokevirtual 54, 3) := by decide +kernel
theorem dJ7_rangeCheck_23922_25 : decode cJ7_rangeCheck_23922 25 = .ok (.ldc 57, 2) := by decide +kernel
theorem dJ7_rangeCheck_23922_27 : decode cJ7_rangeCheck_23922 27 = .ok (.invokevirtual 50, 3) := by decide +kernel
theorem dJ7_rangeCheck_23922_30 : decode cJ7_rangeCheck_23922 30 = .ok (.iload_n 2, 1) := by decide +kernel
theorem dJ7_rangeCheck_23922_31 : decode cJ7_rangeCheck_23922 31 = .ok (.invokevirtual 54, 3) := by decide +kernel
theorem dJ7_rangeCheck_23922_34 : decode cJ7_rangeCheck_23922 34 = .ok (.ldc 59, 2) := by decide +kernel
theorem dJ7_rangeCheck_23922_36 : decode cJ7_rangeCheck_23922 36 = .ok (.invokevirtual 50, 3) := by decide +kernel
theorem dJ7_rangeCheck_23922_39 : decode cJ7_rangeCheck_23922 39 = .ok (.invokevirtual 61, 3) := by decide +kernel
theorem dJ7_rangeCheck_23922_42 : decode cJ7_rangeCheck_23922 42 = .ok (.invokespecial 65, 3) := by decide +kernel
theorem dJ7_rangeCheck_23922_45 : decode cJ7_rangeCheck_23922 45 = .ok (.athrow, 1) := by decide +kernel
theorem dJ7_rangeCheck_23922_46 : decode cJ7_rangeCheck_23922 46 = .ok (.iload_n 1, 1) := by decide +kernel
theorem dJ7_rangeCheck_23922_47 : decode cJ7_rangeCheck_23922 47 = .ok (.ifCond .ge 12, 3) := by decide +kernel
theorem dJ7_rangeCheck_23922_50 : decode cJ7_rangeCheck_23922 50 = .ok (.new 68, 3) := by decide +kernel
theorem dJ7_rangeCheck_23922_53 : decode cJ7_rangeCheck_23922 53 = .ok (.dup, 1) := by decide +kernel
theorem dJ7_rangeCheck_23922_54 : decode cJ7_rangeCheck_23922 54 = .ok (.iload_n 1, 1) := by decide +kernel
theorem dJ7_rangeCheck_23922_55 : decode cJ7_rangeCheck_23922 55 = .ok (.invokespecial 70, 3) := by decide +kernel
theorem dJ7_rangeCheck_23922_58 : decode cJ7_rangeCheck_23922 58 = .ok (.athrow, 1) := by decide +kernel
theorem dJ7_rangeCheck_23922_59 : decode cJ7_rangeCheck_23922 59 = .ok (.iload_n 2, 1) := by decide +kernel
theorem dJ7_rangeCheck_23922_60 : decode cJ7_rangeCheck_23922 60 = .ok (.iload_n 0, 1) := by decide +kernel
theorem dJ7_rangeCheck_23922_61 : decode cJ7_rangeCheck_23922 61 = .ok (.if_icmp .le 12, 3) := by decide +kernel
theorem dJ7_rangeCheck_23922_64 : decode cJ7_rangeCheck_23922 64 = .ok (.new 68, 3) := by decide +kernel
theorem dJ7_rangeCheck_23922_67 : decode cJ7_rangeCheck_23922 67 = .ok (.dup, 1) := by decide +kernel
theorem dJ7_rangeCheck_23922_68 : decode cJ7_rangeCheck_23922 68 = .ok (.iload_n 2, 1) := by decide +kernel
theorem dJ7_rangeCheck_23922_69 : decode cJ7_rangeCheck_23922 69 = .ok (.invokespecial 70, 3) := by decide +kernel
theorem dJ7_rangeCheck_23922_72 : decode cJ7_rangeCheck_23922 72 = .ok (.athrow, 1) := by decide +kernel
theorem dJ7_rangeCheck_23922_73 : decode cJ7_rangeCheck_23922 73 = .ok (.return_, 1) := by decide +kernel
theorem dJ7_fill_53178_0 : decode cJ7_fill_53178 0 = .ok (.iconst 0, 1) := by decide +kernel
theorem dJ7_fill_53178_1 : decode cJ7_fill_53178 1 = .ok (.istore_n 2, 1) := by decide +kernel
theorem dJ7_fill_53178_2 : decode cJ7_fill_53178 2 = .ok (.aload_n 0, 1) := by decide +kernel
theorem dJ7_fill_53178_3 : decode cJ7_fill_53178 3 = .ok (.arraylength, 1) := by decide +kernel
theorem dJ7_fill_53178_4 : decode cJ7_fill_53178 4 = .ok (.istore_n 3, 1) := by decide +kernel
theorem dJ7_fill_53178_5 : decode cJ7_fill_53178 5 = .ok (.iload_n 2, 1) := by decide +kernel
theorem dJ7_fill_53178_6 : decode cJ7_fill_53178 6 = .ok (.iload_n 3, 1) := by decide +kernel
theorem dJ7_fill_53178_7 : decode cJ7_fill_53178 7 = .ok (.if_icmp .ge 13, 3) := by decide +kernel
theorem dJ7_fill_53178_10 : decode cJ7_fill_53178 10 = .ok (.aload_n 0, 1) := by decide +kernel
theorem dJ7_fill_53178_11 : decode cJ7_fill_53178 11 = .ok (.iload_n 2, 1) := by decide +kernel
theorem dJ7_fill_53178_12 : decode cJ7_fill_53178 12 = .ok (.iload_n 1, 1) := by decide +kernel
theorem dJ7_fill_53178_13 : decode cJ7_fill_53178 13 = .ok (.iastore, 1) := by decide +kernel
theorem dJ7_fill_53178_14 : decode cJ7_fill_53178 14 = .ok (.iinc 2 1, 3) := by decide +kernel
theorem dJ7_fill_53178_17 : decode cJ7_fill_53178 17 = .ok (.goto (-12), 3) := by decide +kernel
theorem dJ7_fill_53178_20 : decode cJ7_fill_53178 20 = .ok (.return_, 1) := by decide +kernel
theorem dJ7_fill_fda19_0 : decode cJ7_fill_fda19 0 = .ok (.aload_n 0, 1) := by decide +kernel
theorem dJ7_fill_fda19_1 : decode cJ7_fill_fda19 1 = .ok (.arraylength, 1) := by decide +kernel
theorem dJ7_fill_fda19_2 : decode cJ7_fill_fda19 2 = .ok (.iload_n 1, 1) := by decide +kernel
theorem dJ7_fill_fda19_3 : decode cJ7_fill_fda19 3 = .ok (.iload_n 2, 1) := by decide +kernel
theorem dJ7_fill_fda19_4 : decode cJ7_fill_fda19 4 = .ok (.invokestatic 13, 3) := by decide +kernel
theorem dJ7_fill_fda19_7 : decode cJ7_fill_fda19 7 = .ok (.iload_n 1, 1) := by decide +kernel
theorem dJ7_fill_fda19_8 : decode cJ7_fill_fda19 8 = .ok (.istore 4, 2) := by decide +kernel
theorem dJ7_fill_fda19_10 : decode cJ7_fill_fda19 10 = .ok (.iload 4, 2) := by decide +kernel
theorem dJ7_fill_fda19_12 : decode cJ7_fill_fda19 12 = .ok (.iload_n 2, 1) := by decide +kernel
theorem dJ7_fill_fda19_13 : decode cJ7_fill_fda19 13 = .ok (.if_icmp .ge 14, 3) := by decide +kernel
theorem dJ7_fill_fda19_16 : decode cJ7_fill_fda19 16 = .ok (.aload_n 0, 1) := by decide +kernel
theorem dJ7_fill_fda19_17 : decode cJ7_fill_fda19 17 = .ok (.iload 4, 2) := by decide +kernel
theorem dJ7_fill_fda19_19 : decode cJ7_fill_fda19 19 = .ok (.iload_n 3, 1) := by decide +kernel
theorem dJ7_fill_fda19_20 : decode cJ7_fill_fda19 20 = .ok (.iastore, 1) := by decide +kernel
theorem dJ7_fill_fda19_21 : decode cJ7_fill_fda19 21 = .ok (.iinc 4 1, 3) := by decide +kernel
theorem dJ7_fill_fda19_24 : decode cJ7_fill_fda19 24 = .ok (.goto (-14), 3) := by decide +kernel
theorem dJ7_fill_fda19_27 : decode cJ7_fill_fda19 27 = .ok (.return_, 1) := by decide +kernel
