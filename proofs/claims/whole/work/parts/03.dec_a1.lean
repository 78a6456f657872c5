theorem dX4_take_1 : decode cX4_take 1 = .ok (.getfield 37, 3) := by decide +kernel
theorem dX4_take_4 : decode cX4_take 4 = .ok (.tableswitch 103 0 4 #[36, 44, 52, 60, 68], 36) := by decide +kernel
theorem dX4_take_40 : decode cX4_take 40 = .ok (.aload_n 0, 1) := by decide +kernel
theorem dX4_take_41 : decode cX4_take 41 = .ok (.iload_n 1, 1) := by decide +kernel
theorem dX4_take_42 : decode cX4_take 42 = .ok (.invokevirtual 64, 3) := by decide +kernel
theorem dX4_take_45 : decode cX4_take 45 = .ok (.goto 67, 3) := by decide +kernel
theorem dX4_take_48 : decode cX4_take 48 = .ok (.aload_n 0, 1) := by decide +kernel
theorem dX4_take_49 : decode cX4_take 49 = .ok (.iload_n 1, 1) := by decide +kernel
theorem dX4_take_50 : decode cX4_take 50 = .ok (.invokevirtual 67, 3) := by decide +kernel
theorem dX4_take_53 : decode cX4_take 53 = .ok (.goto 59, 3) := by decide +kernel
theorem dX4_take_56 : decode cX4_take 56 = .ok (.aload_n 0, 1) := by decide +kernel
theorem dX4_take_57 : decode cX4_take 57 = .ok (.iload_n 1, 1) := by decide +kernel
theorem dX4_take_58 : decode cX4_take 58 = .ok (.invokevirtual 70, 3) := by decide +kernel
theorem dX4_take_61 : decode cX4_take 61 = .ok (.goto 51, 3) := by decide +kernel
theorem dX4_take_64 : decode cX4_take 64 = .ok (.aload_n 0, 1) := by decide +kernel
theorem dX4_take_65 : decode cX4_take 65 = .ok (.iload_n 1, 1) := by decide +kernel
theorem dX4_take_66 : decode cX4_take 66 = .ok (.invokevirtual 73, 3) := by decide +kernel
theorem dX4_take_69 : decode cX4_take 69 = .ok (.goto 43, 3) := by decide +kernel
theorem dX4_take_72 : decode cX4_take 72 = .ok (.aload_n 0, 1) := by decide +kernel
theorem dX4_take_73 : decode cX4_take 73 = .ok (.getfield 76, 3) := by decide +kernel
theorem dX4_take_76 : decode cX4_take 76 = .ok (.iconst 2, 1) := by decide +kernel
theorem dX4_take_77 : decode cX4_take 77 = .ok (.if_icmp .ne 22, 3) := by decide +kernel
theorem dX4_take_80 : decode cX4_take 80 = .ok (.iload_n 1, 1) := by decide +kernel
theorem dX4_take_81 : decode cX4_take 81 = .ok (.bipush 17, 2) := by decide +kernel
theorem dX4_take_83 : decode cX4_take 83 = .ok (.bipush 20, 2) := by decide +kernel
theorem dX4_take_85 : decode cX4_take 85 = .ok (.invokestatic 79, 3) := by decide +kernel
theorem dX4_take_88 : decode cX4_take 88 = .ok (.ifCond .ne 11, 3) := by decide +kernel
theorem dX4_take_91 : decode cX4_take 91 = .ok (.aload_n 0, 1) := by decide +kernel
theorem dX4_take_92 : decode cX4_take 92 = .ok (.iload_n 1, 1) := by decide +kernel
theorem dX4_take_93 : decode cX4_take 93 = .ok (.invokevirtual 83, 3) := by decide +kernel
theorem dX4_take_96 : decode cX4_take 96 = .ok (.goto 16, 3) := by decide +kernel
theorem dX4_take_99 : decode cX4_take 99 = .ok (.aload_n 0, 1) := by decide +kernel
theorem dX4_take_100 : decode cX4_take 100 = .ok (.iload_n 1, 1) := by decide +kernel
theorem dX4_take_101 : decode cX4_take 101 = .ok (.invokevirtual 86, 3) := by decide +kernel
theorem dX4_take_104 : decode cX4_take 104 = .ok (.goto 8, 3) := by decide +kernel
theorem dX4_take_107 : decode cX4_take 107 = .ok (.aload_n 0, 1) := by decide +kernel
theorem dX4_take_108 : decode cX4_take 108 = .ok (.iload_n 1, 1) := by decide +kernel
theorem dX4_take_109 : decode cX4_take 109 = .ok (.invokevirtual 83, 3) := by decide +kernel
theorem dX4_take_112 : decode cX4_take 112 = .ok (.return_, 1) := by decide +kernel
theorem dX4_takeLine_0 : decode cX4_takeLine 0 = .ok (.iload_n 1, 1) := by decide +kernel
theorem dX4_takeLine_1 : decode cX4_takeLine 1 = .ok (.ifCond .ne 11, 3) := by decide +kernel
theorem dX4_takeLine_4 : decode cX4_takeLine 4 = .ok (.aload_n 0, 1) := by decide +kernel
theorem dX4_takeLine_5 : decode cX4_takeLine 5 = .ok (.iconst 1, 1) := by decide +kernel
theorem dX4_takeLine_6 : decode cX4_takeLine 6 = .ok (.putfield 43, 3) := by decide +kernel
theorem dX4_takeLine_9 : decode cX4_takeLine 9 = .ok (.goto 56, 3) := by decide +kernel
theorem dX4_takeLine_12 : decode cX4_takeLine 12 = .ok (.iload_n 1, 1) := by decide +kernel
theorem dX4_takeLine_13 : decode cX4_takeLine 13 = .ok (.iconst 3, 1) := by decide +kernel
theorem dX4_takeLine_14 : decode cX4_takeLine 14 = .ok (.if_icmp .eq 11, 3) := by decide +kernel
theorem dX4_takeLine_17 : decode cX4_takeLine 17 = .ok (.aload_n 0, 1) := by decide +kernel
theorem dX4_takeLine_18 : decode cX4_takeLine 18 = .ok (.iconst 1, 1) := by decide +kernel
theorem dX4_takeLine_19 : decode cX4_takeLine 19 = .ok (.putfield 34, 3) := by decide +kernel
theorem dX4_takeLine_22 : decode cX4_takeLine 22 = .ok (.goto 43, 3) := by decide +kernel
theorem dX4_takeLine_25 : decode cX4_takeLine 25 = .ok (.aload_n 0, 1) := by decide +kernel
theorem dX4_takeLine_26 : decode cX4_takeLine 26 = .ok (.getfield 22, 3) := by decide +kernel
theorem dX4_takeLine_29 : decode cX4_takeLine 29 = .ok (.getfield 89, 3) := by decide +kernel
theorem dX4_takeLine_32 : decode cX4_takeLine 32 = .ok (.bipush 16, 2) := by decide +kernel
theorem dX4_takeLine_34 : decode cX4_takeLine 34 = .ok (.if_icmp .lt 11, 3) := by decide +kernel
theorem dX4_takeLine_37 : decode cX4_takeLine 37 = .ok (.aload_n 0, 1) := by decide +kernel
theorem dX4_takeLine_38 : decode cX4_takeLine 38 = .ok (.iconst 3, 1) := by decide +kernel
theorem dX4_takeLine_39 : decode cX4_takeLine 39 = .ok (.putfield 34, 3) := by decide +kernel
theorem dX4_takeLine_42 : decode cX4_takeLine 42 = .ok (.goto 23, 3) := by decide +kernel
theorem dX4_takeLine_45 : decode cX4_takeLine 45 = .ok (.aload_n 0, 1) := by decide +kernel
theorem dX4_takeLine_46 : decode cX4_takeLine 46 = .ok (.iconst 1, 1) := by decide +kernel
theorem dX4_takeLine_47 : decode cX4_takeLine 47 = .ok (.putfield 37, 3) := by decide +kernel
theorem dX4_takeLine_50 : decode cX4_takeLine 50 = .ok (.aload_n 0, 1) := by decide +kernel
theorem dX4_takeLine_51 : decode cX4_takeLine 51 = .ok (.iconst 0, 1) := by decide +kernel
theorem dX4_takeLine_52 : decode cX4_takeLine 52 = .ok (.putfield 76, 3) := by decide +kernel
theorem dX4_takeLine_55 : decode cX4_takeLine 55 = .ok (.aload_n 0, 1) := by decide +kernel
theorem dX4_takeLine_56 : decode cX4_takeLine 56 = .ok (.iconst 0, 1) := by decide +kernel
theorem dX4_takeLine_57 : decode cX4_takeLine 57 = .ok (.putfield 92, 3) := by decide +kernel
theorem dX4_takeLine_60 : decode cX4_takeLine 60 = .ok (.aload_n 0, 1) := by decide +kernel
theorem dX4_takeLine_61 : decode cX4_takeLine 61 = .ok (.iconst 0, 1) := by decide +kernel
theorem dX4_takeLine_62 : decode cX4_takeLine 62 = .ok (.putfield 95, 3) := by decide +kernel
theorem dX4_takeLine_65 : decode cX4_takeLine 65 = .ok (.return_, 1) := by decide +kernel
theorem dX4_takeUnit_0 : decode cX4_takeUnit 0 = .ok (.iload_n 1, 1) := by decide +kernel
theorem dX4_takeUnit_1 : decode cX4_takeUnit 1 = .ok (.iconst 2, 1) := by decide +kernel
theorem dX4_takeUnit_2 : decode cX4_takeUnit 2 = .ok (.if_icmp .ne 22, 3) := by decide +kernel
theorem dX4_takeUnit_5 : decode cX4_takeUnit 5 = .ok (.aload_n 0, 1) := by decide +kernel
theorem dX4_takeUnit_6 : decode cX4_takeUnit 6 = .ok (.getfield 22, 3) := by decide +kernel
theorem dX4_takeUnit_9 : decode cX4_takeUnit 9 = .ok (.aload_n 0, 1) := by decide +kernel
theorem dX4_takeUnit_10 : decode cX4_takeUnit 10 = .ok (.getfield 53, 3) := by decide +kernel
theorem dX4_takeUnit_13 : decode cX4_takeUnit 13 = .ok (.invokevirtual 98, 3) := by decide +kernel
theorem dX4_takeUnit_16 : decode cX4_takeUnit 16 = .ok (.aload_n 0, 1) := by decide +kernel
theorem dX4_takeUnit_17 : decode cX4_takeUnit 17 = .ok (.iconst 4, 1) := by decide +kernel
theorem dX4_takeUnit_18 : decode cX4_takeUnit 18 = .ok (.putfield 37, 3) := by decide +kernel
theorem dX4_takeUnit_21 : decode cX4_takeUnit 21 = .ok (.goto 36, 3) := by decide +kernel
theorem dX4_takeUnit_24 : decode cX4_takeUnit 24 = .ok (.iload_n 1, 1) := by decide +kernel
theorem dX4_takeUnit_25 : decode cX4_takeUnit 25 = .ok (.bipush 8, 2) := by decide +kernel
theorem dX4_takeUnit_27 : decode cX4_takeUnit 27 = .ok (.bipush 15, 2) := by decide +kernel
theorem dX4_takeUnit_29 : decode cX4_takeUnit 29 = .ok (.invokestatic 79, 3) := by decide +kernel
theorem dX4_takeUnit_32 : decode cX4_takeUnit 32 = .ok (.ifCond .eq 20, 3) := by decide +kernel
theorem dX4_takeUnit_35 : decode cX4_takeUnit 35 = .ok (.aload_n 0, 1) := by decide +kernel
theorem dX4_takeUnit_36 : decode cX4_takeUnit 36 = .ok (.getfield 22, 3) := by decide +kernel
theorem dX4_takeUnit_39 : decode cX4_takeUnit 39 = .ok (.iload_n 1, 1) := by decide +kernel
theorem dX4_takeUnit_40 : decode cX4_takeUnit 40 = .ok (.ineg, 1) := by decide +kernel
theorem dX4_takeUnit_41 : decode cX4_takeUnit 41 = .ok (.invokevirtual 98, 3) := by decide +kernel
theorem dX4_takeUnit_44 : decode cX4_takeUnit 44 = .ok (.aload_n 0, 1) := by decide +kernel
theorem dX4_takeUnit_45 : decode cX4_takeUnit 45 = .ok (.iconst 4, 1) := by decide +kernel
theorem dX4_takeUnit_46 : decode cX4_takeUnit 46 = .ok (.putfield 37, 3) := by decide +kernel
theorem dX4_takeUnit_49 : decode cX4_takeUnit 49 = .ok (.goto 8, 3) := by decide +kernel
theorem dX4_takeUnit_52 : decode cX4_takeUnit 52 = .ok (.aload_n 0, 1) := by decide +kernel
theorem dX4_takeUnit_53 : decode cX4_takeUnit 53 = .ok (.iconst 1, 1) := by decide +kernel
theorem dX4_takeUnit_54 : decode cX4_takeUnit 54 = .ok (.putfield 34, 3) := by decide +kernel
theorem dX4_takeUnit_57 : decode cX4_takeUnit 57 = .ok (.return_, 1) := by decide +kernel
theorem dX4_takePart_0 : decode cX4_takePart 0 = .ok (.iload_n 1, 1) := by decide +kernel
theorem dX4_takePart_1 : decode cX4_takePart 1 = .ok (.iconst 2, 1) := by decide +kernel
theorem dX4_takePart_2 : decode cX4_takePart 2 = .ok (.if_icmp .ne 18, 3) := by decide +kernel
theorem dX4_takePart_5 : decode cX4_takePart 5 = .ok (.aload_n 0, 1) := by decide +kernel
theorem dX4_takePart_6 : decode cX4_takePart 6 = .ok (.getfield 53, 3) := by decide +kernel
theorem dX4_takePart_9 : decode cX4_takePart 9 = .ok (.ifCond .ne 11, 3) := by decide +kernel
theorem dX4_takePart_12 : decode cX4_takePart 12 = .ok (.aload_n 0, 1) := by decide +kernel
theorem dX4_takePart_13 : decode cX4_takePart 13 = .ok (.iconst 2, 1) := by decide +kernel
theorem dX4_takePart_14 : decode cX4_takePart 14 = .ok (.putfield 34, 3) := by decide +kernel
theorem dX4_takePart_17 : decode cX4_takePart 17 = .ok (.goto 21, 3) := by decide +kernel
theorem dX4_takePart_20 : decode cX4_takePart 20 = .ok (.iload_n 1, 1) := by decide +kernel
theorem dX4_takePart_21 : decode cX4_takePart 21 = .ok (.iconst 2, 1) := by decide +kernel
theorem dX4_takePart_22 : decode cX4_takePart 22 = .ok (.if_icmp .ne 11, 3) := by decide +kernel
theorem dX4_takePart_25 : decode cX4_takePart 25 = .ok (.aload_n 0, 1) := by decide +kernel
theorem dX4_takePart_26 : decode cX4_takePart 26 = .ok (.iload_n 1, 1) := by decide +kernel
theorem dX4_takePart_27 : decode cX4_takePart 27 = .ok (.invokevirtual 67, 3) := by decide +kernel
theorem dX4_takePart_30 : decode cX4_takePart 30 = .ok (.goto 8, 3) := by decide +kernel
theorem dX4_takePart_33 : decode cX4_takePart 33 = .ok (.aload_n 0, 1) := by decide +kernel
theorem dX4_takePart_34 : decode cX4_takePart 34 = .ok (.iconst 1, 1) := by decide +kernel
theorem dX4_takePart_35 : decode cX4_takePart 35 = .ok (.putfield 34, 3) := by decide +kernel
theorem dX4_takePart_38 : decode cX4_takePart 38 = .ok (.return_, 1) := by decide +kernel
theorem dX4_takeCase_0 : decode cX4_takeCase 0 = .ok (.iload_n 1, 1) := by decide +kernel
theorem dX4_takeCase_1 : decode cX4_takeCase 1 = .ok (.bipush 7, 2) := by decide +kernel
theorem dX4_takeCase_3 : decode cX4_takeCase 3 = .ok (.if_icmp .eq 22, 3) := by decide +kernel
theorem dX4_takeCase_6 : decode cX4_takeCase 6 = .ok (.iload_n 1, 1) := by decide +kernel
theorem dX4_takeCase_7 : decode cX4_takeCase 7 = .ok (.bipush 21, 2) := by decide +kernel
theorem dX4_takeCase_9 : decode cX4_takeCase 9 = .ok (.if_icmp .eq 16, 3) := by decide +kernel
theorem dX4_takeCase_12 : decode cX4_takeCase 12 = .ok (.aload_n 0, 1) := by decide +kernel
theorem dX4_takeCase_13 : decode cX4_takeCase 13 = .ok (.iconst 1, 1) := by decide +kernel
theorem dX4_takeCase_14 : decode cX4_takeCase 14 = .ok (.putfield 76, 3) := by decide +kernel
theorem dX4_takeCase_17 : decode cX4_takeCase 17 = .ok (.aload_n 0, 1) := by decide +kernel
theorem dX4_takeCase_18 : decode cX4_takeCase 18 = .ok (.iload_n 1, 1) := by decide +kernel
theorem dX4_takeCase_19 : decode cX4_takeCase 19 = .ok (.invokevirtual 67, 3) := by decide +kernel
theorem dX4_takeCase_22 : decode cX4_takeCase 22 = .ok (.goto 55, 3) := by decide +kernel
theorem dX4_takeCase_25 : decode cX4_takeCase 25 = .ok (.aload_n 0, 1) := by decide +kernel
theorem dX4_takeCase_26 : decode cX4_takeCase 26 = .ok (.getfield 92, 3) := by decide +kernel
theorem dX4_takeCase_29 : decode cX4_takeCase 29 = .ok (.bipush 8, 2) := by decide +kernel
theorem dX4_takeCase_31 : decode cX4_takeCase 31 = .ok (.if_icmp .lt 11, 3) := by decide +kernel
theorem dX4_takeCase_34 : decode cX4_takeCase 34 = .ok (.aload_n 0, 1) := by decide +kernel
theorem dX4_takeCase_35 : decode cX4_takeCase 35 = .ok (.iconst 3, 1) := by decide +kernel
theorem dX4_takeCase_36 : decode cX4_takeCase 36 = .ok (.putfield 34, 3) := by decide +kernel
theorem dX4_takeCase_39 : decode cX4_takeCase 39 = .ok (.goto 38, 3) := by decide +kernel
theorem dX4_takeCase_42 : decode cX4_takeCase 42 = .ok (.aload_n 0, 1) := by decide +kernel
theorem dX4_takeCase_43 : decode cX4_takeCase 43 = .ok (.dup, 1) := by decide +kernel
theorem dX4_takeCase_44 : decode cX4_takeCase 44 = .ok (.getfield 92, 3) := by decide +kernel
theorem dX4_takeCase_47 : decode cX4_takeCase 47 = .ok (.iconst 1, 1) := by decide +kernel
theorem dX4_takeCase_48 : decode cX4_takeCase 48 = .ok (.iadd, 1) := by decide +kernel
theorem dX4_takeCase_49 : decode cX4_takeCase 49 = .ok (.putfield 92, 3) := by decide +kernel
theorem dX4_takeCase_52 : decode cX4_takeCase 52 = .ok (.aload_n 0, 1) := by decide +kernel
theorem dX4_takeCase_53 : decode cX4_takeCase 53 = .ok (.dup, 1) := by decide +kernel
theorem dX4_takeCase_54 : decode cX4_takeCase 54 = .ok (.getfield 95, 3) := by decide +kernel
theorem dX4_takeCase_57 : decode cX4_takeCase 57 = .ok (.iload_n 1, 1) := by decide +kernel
theorem dX4_takeCase_58 : decode cX4_takeCase 58 = .ok (.bipush 21, 2) := by decide +kernel
theorem dX4_takeCase_60 : decode cX4_takeCase 60 = .ok (.if_icmp .ne 7, 3) := by decide +kernel
theorem dX4_takeCase_63 : decode cX4_takeCase 63 = .ok (.iconst 1, 1) := by decide +kernel
theorem dX4_takeCase_64 : decode cX4_takeCase 64 = .ok (.goto 4, 3) := by decide +kernel
theorem dX4_takeCase_67 : decode cX4_takeCase 67 = .ok (.iconst 0, 1) := by decide +kernel
theorem dX4_takeCase_68 : decode cX4_takeCase 68 = .ok (.iadd, 1) := by decide +kernel
theorem dX4_takeCase_69 : decode cX4_takeCase 69 = .ok (.putfield 95, 3) := by decide +kernel
theorem dX4_takeCase_72 : decode cX4_takeCase 72 = .ok (.aload_n 0, 1) := by decide +kernel
theorem dX4_takeCase_73 : decode cX4_takeCase 73 = .ok (.iload_n 1, 1) := by decide +kernel
theorem dX4_takeCase_74 : decode cX4_takeCase 74 = .ok (.invokevirtual 101, 3) := by decide +kernel
theorem dX4_takeCase_77 : decode cX4_takeCase 77 = .ok (.return_, 1) := by decide +kernel
theorem dX4_takeBehindUnit_0 : decode cX4_takeBehindUnit 0 = .ok (.iload_n 1, 1) := by decide +kernel
theorem dX4_takeBehindUnit_1 : decode cX4_takeBehindUnit 1 = .ok (.bipush 17, 2) := by decide +kernel
theorem dX4_takeBehindUnit_3 : decode cX4_takeBehindUnit 3 = .ok (.bipush 20, 2) := by decide +kernel
theorem dX4_takeBehindUnit_5 : decode cX4_takeBehindUnit 5 = .ok (.invokestatic 79, 3) := by decide +kernel
theorem dX4_takeBehindUnit_8 : decode cX4_takeBehindUnit 8 = .ok (.ifCond .eq 26, 3) := by decide +kernel
theorem dX4_takeBehindUnit_11 : decode cX4_takeBehindUnit 11 = .ok (.aload_n 0, 1) := by decide +kernel
theorem dX4_takeBehindUnit_12 : decode cX4_takeBehindUnit 12 = .ok (.iload_n 1, 1) := by decide +kernel
theorem dX4_takeBehindUnit_13 : decode cX4_takeBehindUnit 13 = .ok (.invokevirtual 104, 3) := by decide +kernel
theorem dX4_takeBehindUnit_16 : decode cX4_takeBehindUnit 16 = .ok (.aload_n 0, 1) := by decide +kernel
theorem dX4_takeBehindUnit_17 : decode cX4_takeBehindUnit 17 = .ok (.iload_n 1, 1) := by decide +kernel
theorem dX4_takeBehindUnit_18 : decode cX4_takeBehindUnit 18 = .ok (.bipush 20, 2) := by decide +kernel
theorem dX4_takeBehindUnit_20 : decode cX4_takeBehindUnit 20 = .ok (.if_icmp .ne 7, 3) := by decide +kernel
theorem dX4_takeBehindUnit_23 : decode cX4_takeBehindUnit 23 = .ok (.iconst 2, 1) := by decide +kernel
theorem dX4_takeBehindUnit_24 : decode cX4_takeBehindUnit 24 = .ok (.goto 4, 3) := by decide +kernel
theorem dX4_takeBehindUnit_27 : decode cX4_takeBehindUnit 27 = .ok (.iconst 1, 1) := by decide +kernel
theorem dX4_takeBehindUnit_28 : decode cX4_takeBehindUnit 28 = .ok (.putfield 37, 3) := by decide +kernel
theorem dX4_takeBehindUnit_31 : decode cX4_takeBehindUnit 31 = .ok (.goto 93, 3) := by decide +kernel
theorem dX4_takeBehindUnit_34 : decode cX4_takeBehindUnit 34 = .ok (.aload_n 0, 1) := by decide +kernel
theorem dX4_takeBehindUnit_35 : decode cX4_takeBehindUnit 35 = .ok (.getfield 76, 3) := by decide +kernel
theorem dX4_takeBehindUnit_38 : decode cX4_takeBehindUnit 38 = .ok (.iconst 1, 1) := by decide +kernel
theorem dX4_takeBehindUnit_39 : decode cX4_takeBehindUnit 39 = .ok (.if_icmp .ne 32, 3) := by decide +kernel
theorem dX4_takeBehindUnit_42 : decode cX4_takeBehindUnit 42 = .ok (.iload_n 1, 1) := by decide +kernel
theorem dX4_takeBehindUnit_43 : decode cX4_takeBehindUnit 43 = .ok (.bipush 23, 2) := by decide +kernel
theorem dX4_takeBehindUnit_45 : decode cX4_takeBehindUnit 45 = .ok (.bipush 25, 2) := by decide +kernel
theorem dX4_takeBehindUnit_47 : decode cX4_takeBehindUnit 47 = .ok (.invokestatic 79, 3) := by decide +kernel
theorem dX4_takeBehindUnit_50 : decode cX4_takeBehindUnit 50 = .ok (.ifCond .eq 21, 3) := by decide +kernel
theorem dX4_takeBehindUnit_53 : decode cX4_takeBehindUnit 53 = .ok (.aload_n 0, 1) := by decide +kernel
theorem dX4_takeBehindUnit_54 : decode cX4_takeBehindUnit 54 = .ok (.iload_n 1, 1) := by decide +kernel
theorem dX4_takeBehindUnit_55 : decode cX4_takeBehindUnit 55 = .ok (.invokevirtual 104, 3) := by decide +kernel
theorem dX4_takeBehindUnit_58 : decode cX4_takeBehindUnit 58 = .ok (.aload_n 0, 1) := by decide +kernel
theorem dX4_takeBehindUnit_59 : decode cX4_takeBehindUnit 59 = .ok (.iconst 2, 1) := by decide +kernel
theorem dX4_takeBehindUnit_60 : decode cX4_takeBehindUnit 60 = .ok (.putfield 76, 3) := by decide +kernel
theorem dX4_takeBehindUnit_63 : decode cX4_takeBehindUnit 63 = .ok (.aload_n 0, 1) := by decide +kernel
theorem dX4_takeBehindUnit_64 : decode cX4_takeBehindUnit 64 = .ok (.iconst 1, 1) := by decide +kernel
theorem dX4_takeBehindUnit_65 : decode cX4_takeBehindUnit 65 = .ok (.putfield 37, 3) := by decide +kernel
theorem dX4_takeBehindUnit_68 : decode cX4_takeBehindUnit 68 = .ok (.goto 56, 3) := by decide +kernel
theorem dX4_takeBehindUnit_71 : decode cX4_takeBehindUnit 71 = .ok (.aload_n 0, 1) := by decide +kernel
theorem dX4_takeBehindUnit_72 : decode cX4_takeBehindUnit 72 = .ok (.getfield 76, 3) := by decide +kernel
theorem dX4_takeBehindUnit_75 : decode cX4_takeBehindUnit 75 = .ok (.ifCond .ne 44, 3) := by decide +kernel
theorem dX4_takeBehindUnit_78 : decode cX4_takeBehindUnit 78 = .ok (.iload_n 1, 1) := by decide +kernel
theorem dX4_takeBehindUnit_79 : decode cX4_takeBehindUnit 79 = .ok (.iconst 4, 1) := by decide +kernel
theorem dX4_takeBehindUnit_80 : decode cX4_takeBehindUnit 80 = .ok (.if_icmp .eq 9, 3) := by decide +kernel
theorem dX4_takeBehindUnit_83 : decode cX4_takeBehindUnit 83 = .ok (.iload_n 1, 1) := by decide +kernel
theorem dX4_takeBehindUnit_84 : decode cX4_takeBehindUnit 84 = .ok (.bipush 16, 2) := by decide +kernel
theorem dX4_takeBehindUnit_86 : decode cX4_takeBehindUnit 86 = .ok (.if_icmp .ne 33, 3) := by decide +kernel
theorem dX4_takeBehindUnit_89 : decode cX4_takeBehindUnit 89 = .ok (.aload_n 0, 1) := by decide +kernel
theorem dX4_takeBehindUnit_90 : decode cX4_takeBehindUnit 90 = .ok (.iconst 0, 1) := by decide +kernel
theorem dX4_takeBehindUnit_91 : decode cX4_takeBehindUnit 91 = .ok (.invokevirtual 107, 3) := by decide +kernel
theorem dX4_takeBehindUnit_94 : decode cX4_takeBehindUnit 94 = .ok (.aload_n 0, 1) := by decide +kernel
theorem dX4_takeBehindUnit_95 : decode cX4_takeBehindUnit 95 = .ok (.getfield 22, 3) := by decide +kernel
theorem dX4_takeBehindUnit_98 : decode cX4_takeBehindUnit 98 = .ok (.invokevirtual 110, 3) := by decide +kernel
theorem dX4_takeBehindUnit_101 : decode cX4_takeBehindUnit 101 = .ok (.aload_n 0, 1) := by decide +kernel
theorem dX4_takeBehindUnit_102 : decode cX4_takeBehindUnit 102 = .ok (.iconst 3, 1) := by decide +kernel
theorem dX4_takeBehindUnit_103 : decode cX4_takeBehindUnit 103 = .ok (.putfield 37, 3) := by decide +kernel
theorem dX4_takeBehindUnit_106 : decode cX4_takeBehindUnit 106 = .ok (.iload_n 1, 1) := by decide +kernel
theorem dX4_takeBehindUnit_107 : decode cX4_takeBehindUnit 107 = .ok (.bipush 16, 2) := by decide +kernel
theorem dX4_takeBehindUnit_109 : decode cX4_takeBehindUnit 109 = .ok (.if_icmp .ne 15, 3) := by decide +kernel
theorem dX4_takeBehindUnit_112 : decode cX4_takeBehindUnit 112 = .ok (.aload_n 0, 1) := by decide +kernel
theorem dX4_takeBehindUnit_113 : decode cX4_takeBehindUnit 113 = .ok (.invokevirtual 113, 3) := by decide +kernel
theorem dX4_takeBehindUnit_116 : decode cX4_takeBehindUnit 116 = .ok (.goto 8, 3) := by decide +kernel
theorem dX4_takeBehindUnit_119 : decode cX4_takeBehindUnit 119 = .ok (.aload_n 0, 1) := by decide +kernel
theorem dX4_takeBehindUnit_120 : decode cX4_takeBehindUnit 120 = .ok (.iconst 1, 1) := by decide +kernel
theorem dX4_takeBehindUnit_121 : decode cX4_takeBehindUnit 121 = .ok (.putfield 34, 3) := by decide +kernel
theorem dX4_takeBehindUnit_124 : decode cX4_takeBehindUnit 124 = .ok (.return_, 1) := by decide +kernel
theorem dX4_takeBehindCase_0 : decode cX4_takeBehindCase 0 = .ok (.iload_n 1, 1) := by decide +kernel
theorem dX4_takeBehindCase_1 : decode cX4_takeBehindCase 1 = .ok (.bipush 6, 2) := by decide +kernel
theorem dX4_takeBehindCase_3 : decode cX4_takeBehindCase 3 = .ok (.if_icmp .eq 8, 3) := by decide +kernel
theorem dX4_takeBehindCase_6 : decode cX4_takeBehindCase 6 = .ok (.iload_n 1, 1) := by decide +kernel
theorem dX4_takeBehindCase_7 : decode cX4_takeBehindCase 7 = .ok (.iconst 5, 1) := by decide +kernel
theorem dX4_takeBehindCase_8 : decode cX4_takeBehindCase 8 = .ok (.if_icmp .ne 16, 3) := by decide +kernel
theorem dX4_takeBehindCase_11 : decode cX4_takeBehindCase 11 = .ok (.aload_n 0, 1) := by decide +kernel
theorem dX4_takeBehindCase_12 : decode cX4_takeBehindCase 12 = .ok (.iload_n 1, 1) := by decide +kernel
theorem dX4_takeBehindCase_13 : decode cX4_takeBehindCase 13 = .ok (.invokevirtual 104, 3) := by decide +kernel
theorem dX4_takeBehindCase_16 : decode cX4_takeBehindCase 16 = .ok (.aload_n 0, 1) := by decide +kernel
theorem dX4_takeBehindCase_17 : decode cX4_takeBehindCase 17 = .ok (.iconst 3, 1) := by decide +kernel
theorem dX4_takeBehindCase_18 : decode cX4_takeBehindCase 18 = .ok (.putfield 37, 3) := by decide +kernel
theorem dX4_takeBehindCase_21 : decode cX4_takeBehindCase 21 = .ok (.goto 53, 3) := by decide +kernel
theorem dX4_takeBehindCase_24 : decode cX4_takeBehindCase 24 = .ok (.iload_n 1, 1) := by decide +kernel
theorem dX4_takeBehindCase_25 : decode cX4_takeBehindCase 25 = .ok (.bipush 22, 2) := by decide +kernel
theorem dX4_takeBehindCase_27 : decode cX4_takeBehindCase 27 = .ok (.if_icmp .ne 22, 3) := by decide +kernel
theorem dX4_takeBehindCase_30 : decode cX4_takeBehindCase 30 = .ok (.aload_n 0, 1) := by decide +kernel
theorem dX4_takeBehindCase_31 : decode cX4_takeBehindCase 31 = .ok (.getfield 95, 3) := by decide +kernel
theorem dX4_takeBehindCase_34 : decode cX4_takeBehindCase 34 = .ok (.ifCond .le 15, 3) := by decide +kernel
theorem dX4_takeBehindCase_37 : decode cX4_takeBehindCase 37 = .ok (.aload_n 0, 1) := by decide +kernel
theorem dX4_takeBehindCase_38 : decode cX4_takeBehindCase 38 = .ok (.invokevirtual 116, 3) := by decide +kernel
theorem dX4_takeBehindCase_41 : decode cX4_takeBehindCase 41 = .ok (.aload_n 0, 1) := by decide +kernel
theorem dX4_takeBehindCase_42 : decode cX4_takeBehindCase 42 = .ok (.iconst 5, 1) := by decide +kernel
theorem dX4_takeBehindCase_43 : decode cX4_takeBehindCase 43 = .ok (.putfield 37, 3) := by decide +kernel
theorem dX4_takeBehindCase_46 : decode cX4_takeBehindCase 46 = .ok (.goto 28, 3) := by decide +kernel
theorem dX4_takeBehindCase_49 : decode cX4_takeBehindCase 49 = .ok (.iload_n 1, 1) := by decide +kernel
theorem dX4_takeBehindCase_50 : decode cX4_takeBehindCase 50 = .ok (.bipush 16, 2) := by decide +kernel
theorem dX4_takeBehindCase_52 : decode cX4_takeBehindCase 52 = .ok (.if_icmp .ne 17, 3) := by decide +kernel
theorem dX4_takeBehindCase_55 : decode cX4_takeBehindCase 55 = .ok (.aload_n 0, 1) := by decide +kernel
theorem dX4_takeBehindCase_56 : decode cX4_takeBehindCase 56 = .ok (.getfield 95, 3) := by decide +kernel
theorem dX4_takeBehindCase_59 : decode cX4_takeBehindCase 59 = .ok (.ifCond .ne 10, 3) := by decide +kernel
theorem dX4_takeBehindCase_62 : decode cX4_takeBehindCase 62 = .ok (.aload_n 0, 1) := by decide +kernel
theorem dX4_takeBehindCase_63 : decode cX4_takeBehindCase 63 = .ok (.invokevirtual 113, 3) := by decide +kernel
theorem dX4_takeBehindCase_66 : decode cX4_takeBehindCase 66 = .ok (.goto 8, 3) := by decide +kernel
theorem dX4_takeBehindCase_69 : decode cX4_takeBehindCase 69 = .ok (.aload_n 0, 1) := by decide +kernel
theorem dX4_takeBehindCase_70 : decode cX4_takeBehindCase 70 = .ok (.iconst 1, 1) := by decide +kernel
theorem dX4_takeBehindCase_71 : decode cX4_takeBehindCase 71 = .ok (.putfield 34, 3) := by decide +kernel
theorem dX4_takeBehindCase_74 : decode cX4_takeBehindCase 74 = .ok (.return_, 1) := by decide +kernel
theorem dX4_closeLine_0 : decode cX4_closeLine 0 = .ok (.aload_n 0, 1) := by decide +kernel
theorem dX4_closeLine_1 : decode cX4_closeLine 1 = .ok (.iconst 0, 1) := by decide +kernel
theorem dX4_closeLine_2 : decode cX4_closeLine 2 = .ok (.invokevirtual 107, 3) := by decide +kernel
theorem dX4_closeLine_5 : decode cX4_closeLine 5 = .ok (.aload_n 0, 1) := by decide +kernel
theorem dX4_closeLine_6 : decode cX4_closeLine 6 = .ok (.getfield 22, 3) := by decide +kernel
theorem dX4_closeLine_9 : decode cX4_closeLine 9 = .ok (.invokevirtual 119, 3) := by decide +kernel
theorem dX4_closeLine_12 : decode cX4_closeLine 12 = .ok (.aload_n 0, 1) := by decide +kernel
theorem dX4_closeLine_13 : decode cX4_closeLine 13 = .ok (.iconst 0, 1) := by decide +kernel
theorem dX4_closeLine_14 : decode cX4_closeLine 14 = .ok (.putfield 37, 3) := by decide +kernel
theorem dX4_closeLine_17 : decode cX4_closeLine 17 = .ok (.return_, 1) := by decide +kernel
theorem dX4_join_0 : decode cX4_join 0 = .ok (.aload_n 0, 1) := by decide +kernel
theorem dX4_join_1 : decode cX4_join 1 = .ok (.getstatic 120, 3) := by decide +kernel
theorem dX4_join_4 : decode cX4_join 4 = .ok (.iload_n 1, 1) := by decide +kernel
theorem dX4_join_5 : decode cX4_join 5 = .ok (.iaload, 1) := by decide +kernel
theorem dX4_join_6 : decode cX4_join 6 = .ok (.invokevirtual 107, 3) := by decide +kernel
theorem dX4_join_9 : decode cX4_join 9 = .ok (.aload_n 0, 1) := by decide +kernel
theorem dX4_join_10 : decode cX4_join 10 = .ok (.iload_n 1, 1) := by decide +kernel
theorem dX4_join_11 : decode cX4_join 11 = .ok (.invokevirtual 101, 3) := by decide +kernel
theorem dX4_join_14 : decode cX4_join 14 = .ok (.return_, 1) := by decide +kernel
theorem dX4_await_0 : decode cX4_await 0 = .ok (.aload_n 0, 1) := by decide +kernel
theorem dX4_await_1 : decode cX4_await 1 = .ok (.getfield 40, 3) := by decide +kernel
theorem dX4_await_4 : decode cX4_await 4 = .ok (.bipush 40, 2) := by decide +kernel
theorem dX4_await_6 : decode cX4_await 6 = .ok (.if_icmp .ge 23, 3) := by decide +kernel
theorem dX4_await_9 : decode cX4_await 9 = .ok (.aload_n 0, 1) := by decide +kernel
theorem dX4_await_10 : decode cX4_await 10 = .ok (.getfield 15, 3) := by decide +kernel
theorem dX4_await_13 : decode cX4_await 13 = .ok (.aload_n 0, 1) := by decide +kernel
theorem dX4_await_14 : decode cX4_await 14 = .ok (.getfield 40, 3) := by decide +kernel
theorem dX4_await_17 : decode cX4_await 17 = .ok (.iload_n 1, 1) := by decide +kernel
theorem dX4_await_18 : decode cX4_await 18 = .ok (.iastore, 1) := by decide +kernel
theorem dX4_await_19 : decode cX4_await 19 = .ok (.aload_n 0, 1) := by decide +kernel
theorem dX4_await_20 : decode cX4_await 20 = .ok (.dup, 1) := by decide +kernel
theorem dX4_await_21 : decode cX4_await 21 = .ok (.getfield 40, 3) := by decide +kernel
theorem dX4_await_24 : decode cX4_await 24 = .ok (.iconst 1, 1) := by decide +kernel
theorem dX4_await_25 : decode cX4_await 25 = .ok (.iadd, 1) := by decide +kernel
theorem dX4_await_26 : decode cX4_await 26 = .ok (.putfield 40, 3) := by decide +kernel
theorem dX4_await_29 : decode cX4_await 29 = .ok (.return_, 1) := by decide +kernel
theorem dX4_writeDownTo_0 : decode cX4_writeDownTo 0 = .ok (.aload_n 0, 1) := by decide +kernel
theorem dX4_writeDownTo_1 : decode cX4_writeDownTo 1 = .ok (.getfield 40, 3) := by decide +kernel
theorem dX4_writeDownTo_4 : decode cX4_writeDownTo 4 = .ok (.ifCond .le 96, 3) := by decide +kernel
theorem dX4_writeDownTo_7 : decode cX4_writeDownTo 7 = .ok (.aload_n 0, 1) := by decide +kernel
theorem dX4_writeDownTo_8 : decode cX4_writeDownTo 8 = .ok (.getfield 15, 3) := by decide +kernel
theorem dX4_writeDownTo_11 : decode cX4_writeDownTo 11 = .ok (.aload_n 0, 1) := by decide +kernel
theorem dX4_writeDownTo_12 : decode cX4_writeDownTo 12 = .ok (.getfield 40, 3) := by decide +kernel
theorem dX4_writeDownTo_15 : decode cX4_writeDownTo 15 = .ok (.iconst 1, 1) := by decide +kernel
theorem dX4_writeDownTo_16 : decode cX4_writeDownTo 16 = .ok (.isub, 1) := by decide +kernel
theorem dX4_writeDownTo_17 : decode cX4_writeDownTo 17 = .ok (.iaload, 1) := by decide +kernel
theorem dX4_writeDownTo_18 : decode cX4_writeDownTo 18 = .ok (.bipush 21, 2) := by decide +kernel
theorem dX4_writeDownTo_20 : decode cX4_writeDownTo 20 = .ok (.if_icmp .eq 80, 3) := by decide +kernel
theorem dX4_writeDownTo_23 : decode cX4_writeDownTo 23 = .ok (.getstatic 120, 3) := by decide +kernel
theorem dX4_writeDownTo_26 : decode cX4_writeDownTo 26 = .ok (.aload_n 0, 1) := by decide +kernel
theorem dX4_writeDownTo_27 : decode cX4_writeDownTo 27 = .ok (.getfield 15, 3) := by decide +kernel
theorem dX4_writeDownTo_30 : decode cX4_writeDownTo 30 = .ok (.aload_n 0, 1) := by decide +kernel
theorem dX4_writeDownTo_31 : decode cX4_writeDownTo 31 = .ok (.getfield 40, 3) := by decide +kernel
theorem dX4_writeDownTo_34 : decode cX4_writeDownTo 34 = .ok (.iconst 1, 1) := by decide +kernel
theorem dX4_writeDownTo_35 : decode cX4_writeDownTo 35 = .ok (.isub, 1) := by decide +kernel
theorem dX4_writeDownTo_36 : decode cX4_writeDownTo 36 = .ok (.iaload, 1) := by decide +kernel
theorem dX4_writeDownTo_37 : decode cX4_writeDownTo 37 = .ok (.iaload, 1) := by decide +kernel
theorem dX4_writeDownTo_38 : decode cX4_writeDownTo 38 = .ok (.iload_n 1, 1) := by decide +kernel
theorem dX4_writeDownTo_39 : decode cX4_writeDownTo 39 = .ok (.if_icmp .lt 61, 3) := by decide +kernel
theorem dX4_writeDownTo_42 : decode cX4_writeDownTo 42 = .ok (.aload_n 0, 1) := by decide +kernel
theorem dX4_writeDownTo_43 : decode cX4_writeDownTo 43 = .ok (.dup, 1) := by decide +kernel
theorem dX4_writeDownTo_44 : decode cX4_writeDownTo 44 = .ok (.getfield 40, 3) := by decide +kernel
theorem dX4_writeDownTo_47 : decode cX4_writeDownTo 47 = .ok (.iconst 1, 1) := by decide +kernel
theorem dX4_writeDownTo_48 : decode cX4_writeDownTo 48 = .ok (.isub, 1) := by decide +kernel
theorem dX4_writeDownTo_49 : decode cX4_writeDownTo 49 = .ok (.putfield 40, 3) := by decide +kernel
theorem dX4_writeDownTo_52 : decode cX4_writeDownTo 52 = .ok (.aload_n 0, 1) := by decide +kernel
theorem dX4_writeDownTo_53 : decode cX4_writeDownTo 53 = .ok (.dup, 1) := by decide +kernel
theorem dX4_writeDownTo_54 : decode cX4_writeDownTo 54 = .ok (.getfield 92, 3) := by decide +kernel
theorem dX4_writeDownTo_57 : decode cX4_writeDownTo 57 = .ok (.aload_n 0, 1) := by decide +kernel
theorem dX4_writeDownTo_58 : decode cX4_writeDownTo 58 = .ok (.getfield 15, 3) := by decide +kernel
theorem dX4_writeDownTo_61 : decode cX4_writeDownTo 61 = .ok (.aload_n 0, 1) := by decide +kernel
theorem dX4_writeDownTo_62 : decode cX4_writeDownTo 62 = .ok (.getfield 40, 3) := by decide +kernel
theorem dX4_writeDownTo_65 : decode cX4_writeDownTo 65 = .ok (.iaload, 1) := by decide +kernel
theorem dX4_writeDownTo_66 : decode cX4_writeDownTo 66 = .ok (.bipush 7, 2) := by decide +kernel
theorem dX4_writeDownTo_68 : decode cX4_writeDownTo 68 = .ok (.if_icmp .ne 7, 3) := by decide +kernel
theorem dX4_writeDownTo_71 : decode cX4_writeDownTo 71 = .ok (.iconst 1, 1) := by decide +kernel
theorem dX4_writeDownTo_72 : decode cX4_writeDownTo 72 = .ok (.goto 4, 3) := by decide +kernel
theorem dX4_writeDownTo_75 : decode cX4_writeDownTo 75 = .ok (.iconst 0, 1) := by decide +kernel
theorem dX4_writeDownTo_76 : decode cX4_writeDownTo 76 = .ok (.isub, 1) := by decide +kernel
theorem dX4_writeDownTo_77 : decode cX4_writeDownTo 77 = .ok (.putfield 92, 3) := by decide +kernel
theorem dX4_writeDownTo_80 : decode cX4_writeDownTo 80 = .ok (.aload_n 0, 1) := by decide +kernel
theorem dX4_writeDownTo_81 : decode cX4_writeDownTo 81 = .ok (.getfield 22, 3) := by decide +kernel
theorem dX4_writeDownTo_84 : decode cX4_writeDownTo 84 = .ok (.aload_n 0, 1) := by decide +kernel
theorem dX4_writeDownTo_85 : decode cX4_writeDownTo 85 = .ok (.getfield 15, 3) := by decide +kernel
theorem dX4_writeDownTo_88 : decode cX4_writeDownTo 88 = .ok (.aload_n 0, 1) := by decide +kernel
theorem dX4_writeDownTo_89 : decode cX4_writeDownTo 89 = .ok (.getfield 40, 3) := by decide +kernel
theorem dX4_writeDownTo_92 : decode cX4_writeDownTo 92 = .ok (.iaload, 1) := by decide +kernel
theorem dX4_writeDownTo_93 : decode cX4_writeDownTo 93 = .ok (.ineg, 1) := by decide +kernel
theorem dX4_writeDownTo_94 : decode cX4_writeDownTo 94 = .ok (.invokevirtual 98, 3) := by decide +kernel
theorem dX4_writeDownTo_97 : decode cX4_writeDownTo 97 = .ok (.goto (-97), 3) := by decide +kernel
theorem dX4_writeDownTo_100 : decode cX4_writeDownTo 100 = .ok (.return_, 1) := by decide +kernel
theorem dX4_closeBracket_0 : decode cX4_closeBracket 0 = .ok (.aload_n 0, 1) := by decide +kernel
theorem dX4_closeBracket_1 : decode cX4_closeBracket 1 = .ok (.iconst 0, 1) := by decide +kernel
theorem dX4_closeBracket_2 : decode cX4_closeBracket 2 = .ok (.invokevirtual 107, 3) := by decide +kernel
theorem dX4_closeBracket_5 : decode cX4_closeBracket 5 = .ok (.aload_n 0, 1) := by decide +kernel
theorem dX4_closeBracket_6 : decode cX4_closeBracket 6 = .ok (.getfield 40, 3) := by decide +kernel
theorem dX4_closeBracket_9 : decode cX4_closeBracket 9 = .ok (.ifCond .le 33, 3) := by decide +kernel
theorem dX4_closeBracket_12 : decode cX4_closeBracket 12 = .ok (.aload_n 0, 1) := by decide +kernel
theorem dX4_closeBracket_13 : decode cX4_closeBracket 13 = .ok (.dup, 1) := by decide +kernel
theorem dX4_closeBracket_14 : decode cX4_closeBracket 14 = .ok (.getfield 40, 3) := by decide +kernel
theorem dX4_closeBracket_17 : decode cX4_closeBracket 17 = .ok (.iconst 1, 1) := by decide +kernel
theorem dX4_closeBracket_18 : decode cX4_closeBracket 18 = .ok (.isub, 1) := by decide +kernel
theorem dX4_closeBracket_19 : decode cX4_closeBracket 19 = .ok (.putfield 40, 3) := by decide +kernel
theorem dX4_closeBracket_22 : decode cX4_closeBracket 22 = .ok (.aload_n 0, 1) := by decide +kernel
theorem dX4_closeBracket_23 : decode cX4_closeBracket 23 = .ok (.dup, 1) := by decide +kernel
theorem dX4_closeBracket_24 : decode cX4_closeBracket 24 = .ok (.getfield 92, 3) := by decide +kernel
theorem dX4_closeBracket_27 : decode cX4_closeBracket 27 = .ok (.iconst 1, 1) := by decide +kernel
theorem dX4_closeBracket_28 : decode cX4_closeBracket 28 = .ok (.isub, 1) := by decide +kernel
theorem dX4_closeBracket_29 : decode cX4_closeBracket 29 = .ok (.putfield 92, 3) := by decide +kernel
theorem dX4_closeBracket_32 : decode cX4_closeBracket 32 = .ok (.aload_n 0, 1) := by decide +kernel
theorem dX4_closeBracket_33 : decode cX4_closeBracket 33 = .ok (.dup, 1) := by decide +kernel
theorem dX4_closeBracket_34 : decode cX4_closeBracket 34 = .ok (.getfield 95, 3) := by decide +kernel
theorem dX4_closeBracket_37 : decode cX4_closeBracket 37 = .ok (.iconst 1, 1) := by decide +kernel
theorem dX4_closeBracket_38 : decode cX4_closeBracket 38 = .ok (.isub, 1) := by decide +kernel
theorem dX4_closeBracket_39 : decode cX4_closeBracket 39 = .ok (.putfield 95, 3) := by decide +kernel
theorem dX4_closeBracket_42 : decode cX4_closeBracket 42 = .ok (.return_, 1) := by decide +kernel
theorem dX5_init_0 : decode cX5_init 0 = .ok (.aload_n 0, 1) := by decide +kernel
theorem dX5_init_1 : decode cX5_init 1 = .ok (.invokespecial 3, 3) := by decide +kernel
theorem dX5_init_4 : decode cX5_init 4 = .ok (.aload_n 0, 1) := by decide +kernel
theorem dX5_init_5 : decode cX5_init 5 = .ok (.iconst 1, 1) := by decide +kernel
theorem dX5_init_6 : decode cX5_init 6 = .ok (.putfield 9, 3) := by decide +kernel
theorem dX5_init_9 : decode cX5_init 9 = .ok (.aload_n 0, 1) := by decide +kernel
theorem dX5_init_10 : decode cX5_init 10 = .ok (.bipush 10, 2) := by decide +kernel
theorem dX5_init_12 : decode cX5_init 12 = .ok (.anewarray 15, 3) := by decide +kernel
theorem dX5_init_15 : decode cX5_init 15 = .ok (.putfield 17, 3) := by decide +kernel
theorem dX5_init_18 : decode cX5_init 18 = .ok (.iconst 0, 1) := by decide +kernel
theorem dX5_init_19 : decode cX5_init 19 = .ok (.istore_n 1, 1) := by decide +kernel
theorem dX5_init_20 : decode cX5_init 20 = .ok (.iload_n 1, 1) := by decide +kernel
theorem dX5_init_21 : decode cX5_init 21 = .ok (.bipush 10, 2) := by decide +kernel
theorem dX5_init_23 : decode cX5_init 23 = .ok (.if_icmp .ge 22, 3) := by decide +kernel
theorem dX5_init_26 : decode cX5_init 26 = .ok (.aload_n 0, 1) := by decide +kernel
theorem dX5_init_27 : decode cX5_init 27 = .ok (.getfield 17, 3) := by decide +kernel
theorem dX5_init_30 : decode cX5_init 30 = .ok (.iload_n 1, 1) := by decide +kernel
theorem dX5_init_31 : decode cX5_init 31 = .ok (.new 15, 3) := by decide +kernel
theorem dX5_init_34 : decode cX5_init 34 = .ok (.dup, 1) := by decide +kernel
theorem dX5_init_35 : decode cX5_init 35 = .ok (.invokespecial 21, 3) := by decide +kernel
theorem dX5_init_38 : decode cX5_init 38 = .ok (.aastore, 1) := by decide +kernel
theorem dX5_init_39 : decode cX5_init 39 = .ok (.iinc 1 1, 3) := by decide +kernel
theorem dX5_init_42 : decode cX5_init 42 = .ok (.goto (-22), 3) := by decide +kernel
theorem dX5_init_45 : decode cX5_init 45 = .ok (.return_, 1) := by decide +kernel
theorem dX5_copy_0 : decode cX5_copy 0 = .ok (.aload_n 0, 1) := by decide +kernel
theorem dX5_copy_1 : decode cX5_copy 1 = .ok (.aload_n 1, 1) := by decide +kernel
theorem dX5_copy_2 : decode cX5_copy 2 = .ok (.getfield 22, 3) := by decide +kernel
theorem dX5_copy_5 : decode cX5_copy 5 = .ok (.putfield 22, 3) := by decide +kernel
theorem dX5_copy_8 : decode cX5_copy 8 = .ok (.aload_n 0, 1) := by decide +kernel
theorem dX5_copy_9 : decode cX5_copy 9 = .ok (.aload_n 1, 1) := by decide +kernel
theorem dX5_copy_10 : decode cX5_copy 10 = .ok (.getfield 9, 3) := by decide +kernel
theorem dX5_copy_13 : decode cX5_copy 13 = .ok (.putfield 9, 3) := by decide +kernel
theorem dX5_copy_16 : decode cX5_copy 16 = .ok (.iconst 0, 1) := by decide +kernel
theorem dX5_copy_17 : decode cX5_copy 17 = .ok (.istore_n 2, 1) := by decide +kernel
theorem dX5_copy_18 : decode cX5_copy 18 = .ok (.iload_n 2, 1) := by decide +kernel
theorem dX5_copy_19 : decode cX5_copy 19 = .ok (.aload_n 0, 1) := by decide +kernel
theorem dX5_copy_20 : decode cX5_copy 20 = .ok (.getfield 22, 3) := by decide +kernel
theorem dX5_copy_23 : decode cX5_copy 23 = .ok (.if_icmp .ge 24, 3) := by decide +kernel
theorem dX5_copy_26 : decode cX5_copy 26 = .ok (.aload_n 0, 1) := by decide +kernel
theorem dX5_copy_27 : decode cX5_copy 27 = .ok (.getfield 17, 3) := by decide +kernel
theorem dX5_copy_30 : decode cX5_copy 30 = .ok (.iload_n 2, 1) := by decide +kernel
theorem dX5_copy_31 : decode cX5_copy 31 = .ok (.aaload, 1) := by decide +kernel
theorem dX5_copy_32 : decode cX5_copy 32 = .ok (.aload_n 1, 1) := by decide +kernel
theorem dX5_copy_33 : decode cX5_copy 33 = .ok (.getfield 17, 3) := by decide +kernel
theorem dX5_copy_36 : decode cX5_copy 36 = .ok (.iload_n 2, 1) := by decide +kernel
theorem dX5_copy_37 : decode cX5_copy 37 = .ok (.aaload, 1) := by decide +kernel
theorem dX5_copy_38 : decode cX5_copy 38 = .ok (.invokevirtual 25, 3) := by decide +kernel
theorem dX5_copy_41 : decode cX5_copy 41 = .ok (.iinc 2 1, 3) := by decide +kernel
theorem dX5_copy_44 : decode cX5_copy 44 = .ok (.goto (-26), 3) := by decide +kernel
theorem dX5_copy_47 : decode cX5_copy 47 = .ok (.return_, 1) := by decide +kernel
theorem dX5_imagine_0 : decode cX5_imagine 0 = .ok (.aload_n 0, 1) := by decide +kernel
theorem dX5_imagine_1 : decode cX5_imagine 1 = .ok (.aload_n 1, 1) := by decide +kernel
theorem dX5_imagine_2 : decode cX5_imagine 2 = .ok (.getfield 22, 3) := by decide +kernel
theorem dX5_imagine_5 : decode cX5_imagine 5 = .ok (.putfield 22, 3) := by decide +kernel
theorem dX5_imagine_8 : decode cX5_imagine 8 = .ok (.aload_n 0, 1) := by decide +kernel
theorem dX5_imagine_9 : decode cX5_imagine 9 = .ok (.aload_n 1, 1) := by decide +kernel
theorem dX5_imagine_10 : decode cX5_imagine 10 = .ok (.getfield 9, 3) := by decide +kernel
theorem dX5_imagine_13 : decode cX5_imagine 13 = .ok (.putfield 9, 3) := by decide +kernel
theorem dX5_imagine_16 : decode cX5_imagine 16 = .ok (.iconst 0, 1) := by decide +kernel
theorem dX5_imagine_17 : decode cX5_imagine 17 = .ok (.istore_n 2, 1) := by decide +kernel
theorem dX5_imagine_18 : decode cX5_imagine 18 = .ok (.iload_n 2, 1) := by decide +kernel
theorem dX5_imagine_19 : decode cX5_imagine 19 = .ok (.aload_n 0, 1) := by decide +kernel
theorem dX5_imagine_20 : decode cX5_imagine 20 = .ok (.getfield 22, 3) := by decide +kernel
theorem dX5_imagine_23 : decode cX5_imagine 23 = .ok (.if_icmp .ge 24, 3) := by decide +kernel
theorem dX5_imagine_26 : decode cX5_imagine 26 = .ok (.aload_n 0, 1) := by decide +kernel
theorem dX5_imagine_27 : decode cX5_imagine 27 = .ok (.getfield 17, 3) := by decide +kernel
theorem dX5_imagine_30 : decode cX5_imagine 30 = .ok (.iload_n 2, 1) := by decide +kernel
theorem dX5_imagine_31 : decode cX5_imagine 31 = .ok (.aaload, 1) := by decide +kernel
theorem dX5_imagine_32 : decode cX5_imagine 32 = .ok (.aload_n 1, 1) := by decide +kernel
theorem dX5_imagine_33 : decode cX5_imagine 33 = .ok (.getfield 17, 3) := by decide +kernel
theorem dX5_imagine_36 : decode cX5_imagine 36 = .ok (.iload_n 2, 1) := by decide +kernel
theorem dX5_imagine_37 : decode cX5_imagine 37 = .ok (.aaload, 1) := by decide +kernel
theorem dX5_imagine_38 : decode cX5_imagine 38 = .ok (.invokevirtual 29, 3) := by decide +kernel
theorem dX5_imagine_41 : decode cX5_imagine 41 = .ok (.iinc 2 1, 3) := by decide +kernel
theorem dX5_imagine_44 : decode cX5_imagine 44 = .ok (.goto (-26), 3) := by decide +kernel
theorem dX5_imagine_47 : decode cX5_imagine 47 = .ok (.return_, 1) := by decide +kernel
theorem dX5_imagineAdded_0 : decode cX5_imagineAdded 0 = .ok (.aload_n 1, 1) := by decide +kernel
theorem dX5_imagineAdded_1 : decode cX5_imagineAdded 1 = .ok (.getfield 22, 3) := by decide +kernel
theorem dX5_imagineAdded_4 : decode cX5_imagineAdded 4 = .ok (.bipush 9, 2) := by decide +kernel
theorem dX5_imagineAdded_6 : decode cX5_imagineAdded 6 = .ok (.invokestatic 32, 3) := by decide +kernel
theorem dX5_imagineAdded_9 : decode cX5_imagineAdded 9 = .ok (.istore 5, 2) := by decide +kernel
theorem dX5_imagineAdded_11 : decode cX5_imagineAdded 11 = .ok (.aload_n 0, 1) := by decide +kernel
theorem dX5_imagineAdded_12 : decode cX5_imagineAdded 12 = .ok (.iload 5, 2) := by decide +kernel
theorem dX5_imagineAdded_14 : decode cX5_imagineAdded 14 = .ok (.iconst 1, 1) := by decide +kernel
theorem dX5_imagineAdded_15 : decode cX5_imagineAdded 15 = .ok (.iadd, 1) := by decide +kernel
theorem dX5_imagineAdded_16 : decode cX5_imagineAdded 16 = .ok (.putfield 22, 3) := by decide +kernel
theorem dX5_imagineAdded_19 : decode cX5_imagineAdded 19 = .ok (.aload_n 0, 1) := by decide +kernel
theorem dX5_imagineAdded_20 : decode cX5_imagineAdded 20 = .ok (.aload_n 1, 1) := by decide +kernel
theorem dX5_imagineAdded_21 : decode cX5_imagineAdded 21 = .ok (.getfield 9, 3) := by decide +kernel
theorem dX5_imagineAdded_24 : decode cX5_imagineAdded 24 = .ok (.putfield 9, 3) := by decide +kernel
theorem dX5_imagineAdded_27 : decode cX5_imagineAdded 27 = .ok (.iconst 0, 1) := by decide +kernel
theorem dX5_imagineAdded_28 : decode cX5_imagineAdded 28 = .ok (.istore 6, 2) := by decide +kernel
theorem dX5_imagineAdded_30 : decode cX5_imagineAdded 30 = .ok (.iload 6, 2) := by decide +kernel
theorem dX5_imagineAdded_32 : decode cX5_imagineAdded 32 = .ok (.iload 5, 2) := by decide +kernel
theorem dX5_imagineAdded_34 : decode cX5_imagineAdded 34 = .ok (.if_icmp .ge 63, 3) := by decide +kernel
theorem dX5_imagineAdded_37 : decode cX5_imagineAdded 37 = .ok (.aload_n 0, 1) := by decide +kernel
theorem dX5_imagineAdded_38 : decode cX5_imagineAdded 38 = .ok (.getfield 17, 3) := by decide +kernel
theorem dX5_imagineAdded_41 : decode cX5_imagineAdded 41 = .ok (.iload 6, 2) := by decide +kernel
theorem dX5_imagineAdded_43 : decode cX5_imagineAdded 43 = .ok (.iload_n 2, 1) := by decide +kernel
theorem dX5_imagineAdded_44 : decode cX5_imagineAdded 44 = .ok (.if_icmp .ge 8, 3) := by decide +kernel
theorem dX5_imagineAdded_47 : decode cX5_imagineAdded 47 = .ok (.iload 6, 2) := by decide +kernel
theorem dX5_imagineAdded_49 : decode cX5_imagineAdded 49 = .ok (.goto 7, 3) := by decide +kernel
theorem dX5_imagineAdded_52 : decode cX5_imagineAdded 52 = .ok (.iload 6, 2) := by decide +kernel
theorem dX5_imagineAdded_54 : decode cX5_imagineAdded 54 = .ok (.iconst 1, 1) := by decide +kernel
theorem dX5_imagineAdded_55 : decode cX5_imagineAdded 55 = .ok (.iadd, 1) := by decide +kernel
theorem dX5_imagineAdded_56 : decode cX5_imagineAdded 56 = .ok (.aaload, 1) := by decide +kernel
theorem dX5_imagineAdded_57 : decode cX5_imagineAdded 57 = .ok (.astore 7, 2) := by decide +kernel
theorem dX5_imagineAdded_59 : decode cX5_imagineAdded 59 = .ok (.aload 7, 2) := by decide +kernel
theorem dX5_imagineAdded_61 : decode cX5_imagineAdded 61 = .ok (.aload_n 1, 1) := by decide +kernel
theorem dX5_imagineAdded_62 : decode cX5_imagineAdded 62 = .ok (.getfield 17, 3) := by decide +kernel
theorem dX5_imagineAdded_65 : decode cX5_imagineAdded 65 = .ok (.iload 6, 2) := by decide +kernel
theorem dX5_imagineAdded_67 : decode cX5_imagineAdded 67 = .ok (.aaload, 1) := by decide +kernel
theorem dX5_imagineAdded_68 : decode cX5_imagineAdded 68 = .ok (.invokevirtual 29, 3) := by decide +kernel
theorem dX5_imagineAdded_71 : decode cX5_imagineAdded 71 = .ok (.aload 7, 2) := by decide +kernel
theorem dX5_imagineAdded_73 : decode cX5_imagineAdded 73 = .ok (.getfield 38, 3) := by decide +kernel
theorem dX5_imagineAdded_76 : decode cX5_imagineAdded 76 = .ok (.iload_n 2, 1) := by decide +kernel
theorem dX5_imagineAdded_77 : decode cX5_imagineAdded 77 = .ok (.if_icmp .le 14, 3) := by decide +kernel
theorem dX5_imagineAdded_80 : decode cX5_imagineAdded 80 = .ok (.aload 7, 2) := by decide +kernel
theorem dX5_imagineAdded_82 : decode cX5_imagineAdded 82 = .ok (.dup, 1) := by decide +kernel
theorem dX5_imagineAdded_83 : decode cX5_imagineAdded 83 = .ok (.getfield 38, 3) := by decide +kernel
theorem dX5_imagineAdded_86 : decode cX5_imagineAdded 86 = .ok (.iconst 1, 1) := by decide +kernel
theorem dX5_imagineAdded_87 : decode cX5_imagineAdded 87 = .ok (.iadd, 1) := by decide +kernel
theorem dX5_imagineAdded_88 : decode cX5_imagineAdded 88 = .ok (.putfield 38, 3) := by decide +kernel
theorem dX5_imagineAdded_91 : decode cX5_imagineAdded 91 = .ok (.iinc 6 1, 3) := by decide +kernel
theorem dX5_imagineAdded_94 : decode cX5_imagineAdded 94 = .ok (.goto (-64), 3) := by decide +kernel
theorem dX5_imagineAdded_97 : decode cX5_imagineAdded 97 = .ok (.aload_n 0, 1) := by decide +kernel
theorem dX5_imagineAdded_98 : decode cX5_imagineAdded 98 = .ok (.getfield 17, 3) := by decide +kernel
theorem dX5_imagineAdded_101 : decode cX5_imagineAdded 101 = .ok (.iload_n 2, 1) := by decide +kernel
theorem dX5_imagineAdded_102 : decode cX5_imagineAdded 102 = .ok (.aaload, 1) := by decide +kernel
theorem dX5_imagineAdded_103 : decode cX5_imagineAdded 103 = .ok (.iload_n 3, 1) := by decide +kernel
theorem dX5_imagineAdded_104 : decode cX5_imagineAdded 104 = .ok (.iload 4, 2) := by decide +kernel
theorem dX5_imagineAdded_106 : decode cX5_imagineAdded 106 = .ok (.iconst 0, 1) := by decide +kernel
theorem dX5_imagineAdded_107 : decode cX5_imagineAdded 107 = .ok (.iconst 0, 1) := by decide +kernel
theorem dX5_imagineAdded_108 : decode cX5_imagineAdded 108 = .ok (.invokevirtual 41, 3) := by decide +kernel
theorem dX5_imagineAdded_111 : decode cX5_imagineAdded 111 = .ok (.iload_n 2, 1) := by decide +kernel
theorem dX5_imagineAdded_112 : decode cX5_imagineAdded 112 = .ok (.iload 5, 2) := by decide +kernel
theorem dX5_imagineAdded_114 : decode cX5_imagineAdded 114 = .ok (.if_icmp .ge 15, 3) := by decide +kernel
theorem dX5_imagineAdded_117 : decode cX5_imagineAdded 117 = .ok (.aload_n 0, 1) := by decide +kernel
theorem dX5_imagineAdded_118 : decode cX5_imagineAdded 118 = .ok (.getfield 17, 3) := by decide +kernel
theorem dX5_imagineAdded_121 : decode cX5_imagineAdded 121 = .ok (.iload_n 2, 1) := by decide +kernel
theorem dX5_imagineAdded_122 : decode cX5_imagineAdded 122 = .ok (.aaload, 1) := by decide +kernel
theorem dX5_imagineAdded_123 : decode cX5_imagineAdded 123 = .ok (.iload_n 2, 1) := by decide +kernel
theorem dX5_imagineAdded_124 : decode cX5_imagineAdded 124 = .ok (.iconst 1, 1) := by decide +kernel
theorem dX5_imagineAdded_125 : decode cX5_imagineAdded 125 = .ok (.iadd, 1) := by decide +kernel
theorem dX5_imagineAdded_126 : decode cX5_imagineAdded 126 = .ok (.putfield 38, 3) := by decide +kernel
theorem dX5_imagineAdded_129 : decode cX5_imagineAdded 129 = .ok (.return_, 1) := by decide +kernel
theorem dX5_widen_0 : decode cX5_widen 0 = .ok (.iconst 0, 1) := by decide +kernel
theorem dX5_widen_1 : decode cX5_widen 1 = .ok (.istore_n 1, 1) := by decide +kernel
theorem dX5_widen_2 : decode cX5_widen 2 = .ok (.iload_n 1, 1) := by decide +kernel
theorem dX5_widen_3 : decode cX5_widen 3 = .ok (.aload_n 0, 1) := by decide +kernel
theorem dX5_widen_4 : decode cX5_widen 4 = .ok (.getfield 22, 3) := by decide +kernel
theorem dX5_widen_7 : decode cX5_widen 7 = .ok (.if_icmp .ge 30, 3) := by decide +kernel
theorem dX5_widen_10 : decode cX5_widen 10 = .ok (.aload_n 0, 1) := by decide +kernel
theorem dX5_widen_11 : decode cX5_widen 11 = .ok (.getfield 17, 3) := by decide +kernel
theorem dX5_widen_14 : decode cX5_widen 14 = .ok (.iload_n 1, 1) := by decide +kernel
theorem dX5_widen_15 : decode cX5_widen 15 = .ok (.aaload, 1) := by decide +kernel
theorem dX5_widen_16 : decode cX5_widen 16 = .ok (.ldc 45, 2) := by decide +kernel
theorem dX5_widen_18 : decode cX5_widen 18 = .ok (.putfield 46, 3) := by decide +kernel
theorem dX5_widen_21 : decode cX5_widen 21 = .ok (.aload_n 0, 1) := by decide +kernel
theorem dX5_widen_22 : decode cX5_widen 22 = .ok (.getfield 17, 3) := by decide +kernel
theorem dX5_widen_25 : decode cX5_widen 25 = .ok (.iload_n 1, 1) := by decide +kernel
theorem dX5_widen_26 : decode cX5_widen 26 = .ok (.aaload, 1) := by decide +kernel
theorem dX5_widen_27 : decode cX5_widen 27 = .ok (.iconst 0, 1) := by decide +kernel
theorem dX5_widen_28 : decode cX5_widen 28 = .ok (.putfield 49, 3) := by decide +kernel
theorem dX5_widen_31 : decode cX5_widen 31 = .ok (.iinc 1 1, 3) := by decide +kernel
theorem dX5_widen_34 : decode cX5_widen 34 = .ok (.goto (-32), 3) := by decide +kernel
theorem dX5_widen_37 : decode cX5_widen 37 = .ok (.return_, 1) := by decide +kernel
theorem dX5_strip_0 : decode cX5_strip 0 = .ok (.iconst 0, 1) := by decide +kernel
theorem dX5_strip_1 : decode cX5_strip 1 = .ok (.istore_n 1, 1) := by decide +kernel
theorem dX5_strip_2 : decode cX5_strip 2 = .ok (.iload_n 1, 1) := by decide +kernel
theorem dX5_strip_3 : decode cX5_strip 3 = .ok (.aload_n 0, 1) := by decide +kernel
theorem dX5_strip_4 : decode cX5_strip 4 = .ok (.getfield 22, 3) := by decide +kernel
theorem dX5_strip_7 : decode cX5_strip 7 = .ok (.if_icmp .ge 39, 3) := by decide +kernel
theorem dX5_strip_10 : decode cX5_strip 10 = .ok (.aload_n 0, 1) := by decide +kernel
theorem dX5_strip_11 : decode cX5_strip 11 = .ok (.getfield 17, 3) := by decide +kernel
theorem dX5_strip_14 : decode cX5_strip 14 = .ok (.iload_n 1, 1) := by decide +kernel
theorem dX5_strip_15 : decode cX5_strip 15 = .ok (.aaload, 1) := by decide +kernel
theorem dX5_strip_16 : decode cX5_strip 16 = .ok (.iconst 0, 1) := by decide +kernel
theorem dX5_strip_17 : decode cX5_strip 17 = .ok (.putfield 52, 3) := by decide +kernel
theorem dX5_strip_20 : decode cX5_strip 20 = .ok (.aload_n 0, 1) := by decide +kernel
theorem dX5_strip_21 : decode cX5_strip 21 = .ok (.getfield 17, 3) := by decide +kernel
theorem dX5_strip_24 : decode cX5_strip 24 = .ok (.iload_n 1, 1) := by decide +kernel
theorem dX5_strip_25 : decode cX5_strip 25 = .ok (.aaload, 1) := by decide +kernel
theorem dX5_strip_26 : decode cX5_strip 26 = .ok (.iconst 0, 1) := by decide +kernel
theorem dX5_strip_27 : decode cX5_strip 27 = .ok (.putfield 55, 3) := by decide +kernel
theorem dX5_strip_30 : decode cX5_strip 30 = .ok (.aload_n 0, 1) := by decide +kernel
theorem dX5_strip_31 : decode cX5_strip 31 = .ok (.getfield 17, 3) := by decide +kernel
theorem dX5_strip_34 : decode cX5_strip 34 = .ok (.iload_n 1, 1) := by decide +kernel
theorem dX5_strip_35 : decode cX5_strip 35 = .ok (.aaload, 1) := by decide +kernel
theorem dX5_strip_36 : decode cX5_strip 36 = .ok (.iconst 0, 1) := by decide +kernel
theorem dX5_strip_37 : decode cX5_strip 37 = .ok (.putfield 58, 3) := by decide +kernel
theorem dX5_strip_40 : decode cX5_strip 40 = .ok (.iinc 1 1, 3) := by decide +kernel
theorem dX5_strip_43 : decode cX5_strip 43 = .ok (.goto (-41), 3) := by decide +kernel
theorem dX5_strip_46 : decode cX5_strip 46 = .ok (.return_, 1) := by decide +kernel
theorem dX5_pour_0 : decode cX5_pour 0 = .ok (.iconst 0, 1) := by decide +kernel
theorem dX5_pour_1 : decode cX5_pour 1 = .ok (.istore_n 3, 1) := by decide +kernel
theorem dX5_pour_2 : decode cX5_pour 2 = .ok (.iconst 0, 1) := by decide +kernel
theorem dX5_pour_3 : decode cX5_pour 3 = .ok (.istore 4, 2) := by decide +kernel
theorem dX5_pour_5 : decode cX5_pour 5 = .ok (.iload 4, 2) := by decide +kernel
theorem dX5_pour_7 : decode cX5_pour 7 = .ok (.iload_n 2, 1) := by decide +kernel
theorem dX5_pour_8 : decode cX5_pour 8 = .ok (.if_icmp .gt 38, 3) := by decide +kernel
theorem dX5_pour_11 : decode cX5_pour 11 = .ok (.iload 4, 2) := by decide +kernel
theorem dX5_pour_13 : decode cX5_pour 13 = .ok (.aload_n 0, 1) := by decide +kernel
theorem dX5_pour_14 : decode cX5_pour 14 = .ok (.getfield 22, 3) := by decide +kernel
theorem dX5_pour_17 : decode cX5_pour 17 = .ok (.if_icmp .ge 29, 3) := by decide +kernel
theorem dX5_pour_20 : decode cX5_pour 20 = .ok (.aload_n 0, 1) := by decide +kernel
theorem dX5_pour_21 : decode cX5_pour 21 = .ok (.iload 4, 2) := by decide +kernel
theorem dX5_pour_23 : decode cX5_pour 23 = .ok (.aload_n 1, 1) := by decide +kernel
theorem dX5_pour_24 : decode cX5_pour 24 = .ok (.invokevirtual 61, 3) := by decide +kernel
theorem dX5_pour_27 : decode cX5_pour 27 = .ok (.iload_n 3, 1) := by decide +kernel
theorem dX5_pour_28 : decode cX5_pour 28 = .ok (.aload_n 0, 1) := by decide +kernel
theorem dX5_pour_29 : decode cX5_pour 29 = .ok (.getfield 17, 3) := by decide +kernel
theorem dX5_pour_32 : decode cX5_pour 32 = .ok (.iload 4, 2) := by decide +kernel
theorem dX5_pour_34 : decode cX5_pour 34 = .ok (.aaload, 1) := by decide +kernel
theorem dX5_pour_35 : decode cX5_pour 35 = .ok (.getfield 65, 3) := by decide +kernel
theorem dX5_pour_38 : decode cX5_pour 38 = .ok (.iadd, 1) := by decide +kernel
theorem dX5_pour_39 : decode cX5_pour 39 = .ok (.istore_n 3, 1) := by decide +kernel
theorem dX5_pour_40 : decode cX5_pour 40 = .ok (.iinc 4 1, 3) := by decide +kernel
theorem dX5_pour_43 : decode cX5_pour 43 = .ok (.goto (-38), 3) := by decide +kernel
theorem dX5_pour_46 : decode cX5_pour 46 = .ok (.iload_n 3, 1) := by decide +kernel
theorem dX5_pour_47 : decode cX5_pour 47 = .ok (.ireturn, 1) := by decide +kernel
theorem dX5_pass_0 : decode cX5_pass 0 = .ok (.aload_n 0, 1) := by decide +kernel
theorem dX5_pass_1 : decode cX5_pass 1 = .ok (.getfield 17, 3) := by decide +kernel
theorem dX5_pass_4 : decode cX5_pass 4 = .ok (.iload_n 1, 1) := by decide +kernel
theorem dX5_pass_5 : decode cX5_pass 5 = .ok (.aaload, 1) := by decide +kernel
theorem dX5_pass_6 : decode cX5_pass 6 = .ok (.astore_n 3, 1) := by decide +kernel
theorem dX5_pass_7 : decode cX5_pass 7 = .ok (.iconst 0, 1) := by decide +kernel
theorem dX5_pass_8 : decode cX5_pass 8 = .ok (.istore 4, 2) := by decide +kernel
theorem dX5_pass_10 : decode cX5_pass 10 = .ok (.iload 4, 2) := by decide +kernel
theorem dX5_pass_12 : decode cX5_pass 12 = .ok (.aload_n 2, 1) := by decide +kernel
theorem dX5_pass_13 : decode cX5_pass 13 = .ok (.getfield 68, 3) := by decide +kernel
theorem dX5_pass_16 : decode cX5_pass 16 = .ok (.if_icmp .ge 17, 3) := by decide +kernel
theorem dX5_pass_19 : decode cX5_pass 19 = .ok (.aload_n 3, 1) := by decide +kernel
theorem dX5_pass_20 : decode cX5_pass 20 = .ok (.getfield 73, 3) := by decide +kernel
theorem dX5_pass_23 : decode cX5_pass 23 = .ok (.iload 4, 2) := by decide +kernel
theorem dX5_pass_25 : decode cX5_pass 25 = .ok (.iconst 0, 1) := by decide +kernel
theorem dX5_pass_26 : decode cX5_pass 26 = .ok (.iastore, 1) := by decide +kernel
theorem dX5_pass_27 : decode cX5_pass 27 = .ok (.iinc 4 1, 3) := by decide +kernel
theorem dX5_pass_30 : decode cX5_pass 30 = .ok (.goto (-20), 3) := by decide +kernel
theorem dX5_pass_33 : decode cX5_pass 33 = .ok (.iconst 0, 1) := by decide +kernel
theorem dX5_pass_34 : decode cX5_pass 34 = .ok (.istore 4, 2) := by decide +kernel
theorem dX5_pass_36 : decode cX5_pass 36 = .ok (.iload 4, 2) := by decide +kernel
theorem dX5_pass_38 : decode cX5_pass 38 = .ok (.iload_n 1, 1) := by decide +kernel
theorem dX5_pass_39 : decode cX5_pass 39 = .ok (.if_icmp .ge 64, 3) := by decide +kernel
theorem dX5_pass_42 : decode cX5_pass 42 = .ok (.aload_n 0, 1) := by decide +kernel
theorem dX5_pass_43 : decode cX5_pass 43 = .ok (.getfield 17, 3) := by decide +kernel
theorem dX5_pass_46 : decode cX5_pass 46 = .ok (.iload 4, 2) := by decide +kernel
theorem dX5_pass_48 : decode cX5_pass 48 = .ok (.aaload, 1) := by decide +kernel
theorem dX5_pass_49 : decode cX5_pass 49 = .ok (.getfield 38, 3) := by decide +kernel
theorem dX5_pass_52 : decode cX5_pass 52 = .ok (.iload_n 1, 1) := by decide +kernel
theorem dX5_pass_53 : decode cX5_pass 53 = .ok (.if_icmp .ne 44, 3) := by decide +kernel
theorem dX5_pass_56 : decode cX5_pass 56 = .ok (.iconst 0, 1) := by decide +kernel
theorem dX5_pass_57 : decode cX5_pass 57 = .ok (.istore 5, 2) := by decide +kernel
theorem dX5_pass_59 : decode cX5_pass 59 = .ok (.iload 5, 2) := by decide +kernel
theorem dX5_pass_61 : decode cX5_pass 61 = .ok (.aload_n 2, 1) := by decide +kernel
theorem dX5_pass_62 : decode cX5_pass 62 = .ok (.getfield 68, 3) := by decide +kernel
theorem dX5_pass_65 : decode cX5_pass 65 = .ok (.if_icmp .ge 32, 3) := by decide +kernel
theorem dX5_pass_68 : decode cX5_pass 68 = .ok (.aload_n 3, 1) := by decide +kernel
theorem dX5_pass_69 : decode cX5_pass 69 = .ok (.getfield 73, 3) := by decide +kernel
theorem dX5_pass_72 : decode cX5_pass 72 = .ok (.iload 5, 2) := by decide +kernel
theorem dX5_pass_74 : decode cX5_pass 74 = .ok (.dup2, 1) := by decide +kernel
theorem dX5_pass_75 : decode cX5_pass 75 = .ok (.iaload, 1) := by decide +kernel
theorem dX5_pass_76 : decode cX5_pass 76 = .ok (.aload_n 0, 1) := by decide +kernel
theorem dX5_pass_77 : decode cX5_pass 77 = .ok (.getfield 17, 3) := by decide +kernel
theorem dX5_pass_80 : decode cX5_pass 80 = .ok (.iload 4, 2) := by decide +kernel
theorem dX5_pass_82 : decode cX5_pass 82 = .ok (.aaload, 1) := by decide +kernel
theorem dX5_pass_83 : decode cX5_pass 83 = .ok (.getfield 77, 3) := by decide +kernel
theorem dX5_pass_86 : decode cX5_pass 86 = .ok (.iload 5, 2) := by decide +kernel
theorem dX5_pass_88 : decode cX5_pass 88 = .ok (.iaload, 1) := by decide +kernel
theorem dX5_pass_89 : decode cX5_pass 89 = .ok (.iadd, 1) := by decide +kernel
theorem dX5_pass_90 : decode cX5_pass 90 = .ok (.iastore, 1) := by decide +kernel
theorem dX5_pass_91 : decode cX5_pass 91 = .ok (.iinc 5 1, 3) := by decide +kernel
theorem dX5_pass_94 : decode cX5_pass 94 = .ok (.goto (-35), 3) := by decide +kernel
theorem dX5_pass_97 : decode cX5_pass 97 = .ok (.iinc 4 1, 3) := by decide +kernel
theorem dX5_pass_100 : decode cX5_pass 100 = .ok (.goto (-64), 3) := by decide +kernel
theorem dX5_pass_103 : decode cX5_pass 103 = .ok (.aload_n 3, 1) := by decide +kernel
theorem dX5_pass_104 : decode cX5_pass 104 = .ok (.aload_n 2, 1) := by decide +kernel
theorem dX5_pass_105 : decode cX5_pass 105 = .ok (.aload_n 0, 1) := by decide +kernel
theorem dX5_pass_106 : decode cX5_pass 106 = .ok (.getfield 9, 3) := by decide +kernel
theorem dX5_pass_109 : decode cX5_pass 109 = .ok (.invokevirtual 80, 3) := by decide +kernel
theorem dX5_pass_112 : decode cX5_pass 112 = .ok (.return_, 1) := by decide +kernel
theorem dX6_init_0 : decode cX6_init 0 = .ok (.aload_n 0, 1) := by decide +kernel
theorem dX6_init_1 : decode cX6_init 1 = .ok (.invokespecial 3, 3) := by decide +kernel
theorem dX6_init_4 : decode cX6_init 4 = .ok (.return_, 1) := by decide +kernel
theorem dX6_explain_0 : decode cX6_explain 0 = .ok (.aload_n 0, 1) := by decide +kernel
theorem dX6_explain_1 : decode cX6_explain 1 = .ok (.iload_n 1, 1) := by decide +kernel
theorem dX6_explain_2 : decode cX6_explain 2 = .ok (.putfield 9, 3) := by decide +kernel
theorem dX6_explain_5 : decode cX6_explain 5 = .ok (.aload_n 0, 1) := by decide +kernel
theorem dX6_explain_6 : decode cX6_explain 6 = .ok (.iconst 0, 1) := by decide +kernel
theorem dX6_explain_7 : decode cX6_explain 7 = .ok (.putfield 15, 3) := by decide +kernel
theorem dX6_explain_10 : decode cX6_explain 10 = .ok (.aload_n 0, 1) := by decide +kernel
theorem dX6_explain_11 : decode cX6_explain 11 = .ok (.iconst (-1), 1) := by decide +kernel
theorem dX6_explain_12 : decode cX6_explain 12 = .ok (.putfield 18, 3) := by decide +kernel
theorem dX6_explain_15 : decode cX6_explain 15 = .ok (.aload_n 0, 1) := by decide +kernel
theorem dX6_explain_16 : decode cX6_explain 16 = .ok (.iconst (-1), 1) := by decide +kernel
theorem dX6_explain_17 : decode cX6_explain 17 = .ok (.putfield 21, 3) := by decide +kernel
theorem dX6_explain_20 : decode cX6_explain 20 = .ok (.aload_n 0, 1) := by decide +kernel
theorem dX6_explain_21 : decode cX6_explain 21 = .ok (.iconst 0, 1) := by decide +kernel
theorem dX6_explain_22 : decode cX6_explain 22 = .ok (.putfield 24, 3) := by decide +kernel
theorem dX6_explain_25 : decode cX6_explain 25 = .ok (.aload_n 3, 1) := by decide +kernel
theorem dX6_explain_26 : decode cX6_explain 26 = .ok (.aload_n 2, 1) := by decide +kernel
theorem dX6_explain_27 : decode cX6_explain 27 = .ok (.getfield 27, 3) := by decide +kernel
theorem dX6_explain_30 : decode cX6_explain 30 = .ok (.invokevirtual 33, 3) := by decide +kernel
theorem dX6_explain_33 : decode cX6_explain 33 = .ok (.iconst 0, 1) := by decide +kernel
theorem dX6_explain_34 : decode cX6_explain 34 = .ok (.istore 4, 2) := by decide +kernel
theorem dX6_explain_36 : decode cX6_explain 36 = .ok (.iload 4, 2) := by decide +kernel
theorem dX6_explain_38 : decode cX6_explain 38 = .ok (.aload_n 2, 1) := by decide +kernel
theorem dX6_explain_39 : decode cX6_explain 39 = .ok (.getfield 39, 3) := by decide +kernel
theorem dX6_explain_42 : decode cX6_explain 42 = .ok (.if_icmp .ge 29, 3) := by decide +kernel
theorem dX6_explain_45 : decode cX6_explain 45 = .ok (.aload_n 0, 1) := by decide +kernel
theorem dX6_explain_46 : decode cX6_explain 46 = .ok (.iload 4, 2) := by decide +kernel
theorem dX6_explain_48 : decode cX6_explain 48 = .ok (.putfield 42, 3) := by decide +kernel
theorem dX6_explain_51 : decode cX6_explain 51 = .ok (.aload_n 0, 1) := by decide +kernel
theorem dX6_explain_52 : decode cX6_explain 52 = .ok (.aload_n 3, 1) := by decide +kernel
theorem dX6_explain_53 : decode cX6_explain 53 = .ok (.aload_n 2, 1) := by decide +kernel
theorem dX6_explain_54 : decode cX6_explain 54 = .ok (.getfield 45, 3) := by decide +kernel
theorem dX6_explain_57 : decode cX6_explain 57 = .ok (.iload 4, 2) := by decide +kernel
theorem dX6_explain_59 : decode cX6_explain 59 = .ok (.aaload, 1) := by decide +kernel
theorem dX6_explain_60 : decode cX6_explain 60 = .ok (.iconst 0, 1) := by decide +kernel
theorem dX6_explain_61 : decode cX6_explain 61 = .ok (.iconst 0, 1) := by decide +kernel
theorem dX6_explain_62 : decode cX6_explain 62 = .ok (.invokestatic 49, 3) := by decide +kernel
theorem dX6_explain_65 : decode cX6_explain 65 = .ok (.iinc 4 1, 3) := by decide +kernel
theorem dX6_explain_68 : decode cX6_explain 68 = .ok (.goto (-32), 3) := by decide +kernel
theorem dX6_explain_71 : decode cX6_explain 71 = .ok (.return_, 1) := by decide +kernel
theorem dX6_told_0 : decode cX6_told 0 = .ok (.iload_n 1, 1) := by decide +kernel
theorem dX6_told_1 : decode cX6_told 1 = .ok (.tableswitch 42 0 2 #[27, 32, 37], 27) := by decide +kernel
theorem dX6_told_28 : decode cX6_told 28 = .ok (.aload_n 0, 1) := by decide +kernel
theorem dX6_told_29 : decode cX6_told 29 = .ok (.getfield 15, 3) := by decide +kernel
theorem dX6_told_32 : decode cX6_told 32 = .ok (.ireturn, 1) := by decide +kernel
theorem dX6_told_33 : decode cX6_told 33 = .ok (.aload_n 0, 1) := by decide +kernel
theorem dX6_told_34 : decode cX6_told 34 = .ok (.getfield 18, 3) := by decide +kernel
theorem dX6_told_37 : decode cX6_told 37 = .ok (.ireturn, 1) := by decide +kernel
theorem dX6_told_38 : decode cX6_told 38 = .ok (.aload_n 0, 1) := by decide +kernel
theorem dX6_told_39 : decode cX6_told 39 = .ok (.getfield 21, 3) := by decide +kernel
theorem dX6_told_42 : decode cX6_told 42 = .ok (.ireturn, 1) := by decide +kernel
theorem dX6_told_43 : decode cX6_told 43 = .ok (.aload_n 0, 1) := by decide +kernel
theorem dX6_told_44 : decode cX6_told 44 = .ok (.getfield 24, 3) := by decide +kernel
theorem dX6_told_47 : decode cX6_told 47 = .ok (.ireturn, 1) := by decide +kernel
theorem dX6_tryHouse_0 : decode cX6_tryHouse 0 = .ok (.iload_n 3, 1) := by decide +kernel
theorem dX6_tryHouse_1 : decode cX6_tryHouse 1 = .ok (.aload_n 1, 1) := by decide +kernel
theorem dX6_tryHouse_2 : decode cX6_tryHouse 2 = .ok (.getfield 53, 3) := by decide +kernel
theorem dX6_tryHouse_5 : decode cX6_tryHouse 5 = .ok (.if_icmp .ge 9, 3) := by decide +kernel
theorem dX6_tryHouse_8 : decode cX6_tryHouse 8 = .ok (.iload_n 3, 1) := by decide +kernel
theorem dX6_tryHouse_9 : decode cX6_tryHouse 9 = .ok (.bipush 8, 2) := by decide +kernel
theorem dX6_tryHouse_11 : decode cX6_tryHouse 11 = .ok (.if_icmp .lt 10, 3) := by decide +kernel
theorem dX6_tryHouse_14 : decode cX6_tryHouse 14 = .ok (.aload_n 0, 1) := by decide +kernel
theorem dX6_tryHouse_15 : decode cX6_tryHouse 15 = .ok (.iload 4, 2) := by decide +kernel
theorem dX6_tryHouse_17 : decode cX6_tryHouse 17 = .ok (.invokevirtual 54, 3) := by decide +kernel
theorem dX6_tryHouse_20 : decode cX6_tryHouse 20 = .ok (.return_, 1) := by decide +kernel
theorem dX6_tryHouse_21 : decode cX6_tryHouse 21 = .ok (.aload_n 0, 1) := by decide +kernel
theorem dX6_tryHouse_22 : decode cX6_tryHouse 22 = .ok (.getfield 9, 3) := by decide +kernel
theorem dX6_tryHouse_25 : decode cX6_tryHouse 25 = .ok (.iload_n 3, 1) := by decide +kernel
theorem dX6_tryHouse_26 : decode cX6_tryHouse 26 = .ok (.ishr, 1) := by decide +kernel
theorem dX6_tryHouse_27 : decode cX6_tryHouse 27 = .ok (.iconst 1, 1) := by decide +kernel
theorem dX6_tryHouse_28 : decode cX6_tryHouse 28 = .ok (.iand, 1) := by decide +kernel
theorem dX6_tryHouse_29 : decode cX6_tryHouse 29 = .ok (.ifCond .eq 7, 3) := by decide +kernel
theorem dX6_tryHouse_32 : decode cX6_tryHouse 32 = .ok (.iconst 1, 1) := by decide +kernel
theorem dX6_tryHouse_33 : decode cX6_tryHouse 33 = .ok (.goto 4, 3) := by decide +kernel
theorem dX6_tryHouse_36 : decode cX6_tryHouse 36 = .ok (.iconst 0, 1) := by decide +kernel
theorem dX6_tryHouse_37 : decode cX6_tryHouse 37 = .ok (.istore 5, 2) := by decide +kernel
theorem dX6_tryHouse_39 : decode cX6_tryHouse 39 = .ok (.aload_n 1, 1) := by decide +kernel
theorem dX6_tryHouse_40 : decode cX6_tryHouse 40 = .ok (.aload_n 2, 1) := by decide +kernel
theorem dX6_tryHouse_41 : decode cX6_tryHouse 41 = .ok (.iload_n 3, 1) := by decide +kernel
theorem dX6_tryHouse_42 : decode cX6_tryHouse 42 = .ok (.iconst 0, 1) := by decide +kernel
theorem dX6_tryHouse_43 : decode cX6_tryHouse 43 = .ok (.invokestatic 58, 3) := by decide +kernel
theorem dX6_tryHouse_46 : decode cX6_tryHouse 46 = .ok (.iload 5, 2) := by decide +kernel
theorem dX6_tryHouse_48 : decode cX6_tryHouse 48 = .ok (.if_icmp .ne 14, 3) := by decide +kernel
theorem dX6_tryHouse_51 : decode cX6_tryHouse 51 = .ok (.aload_n 0, 1) := by decide +kernel
theorem dX6_tryHouse_52 : decode cX6_tryHouse 52 = .ok (.aload_n 1, 1) := by decide +kernel
theorem dX6_tryHouse_53 : decode cX6_tryHouse 53 = .ok (.aload_n 2, 1) := by decide +kernel
theorem dX6_tryHouse_54 : decode cX6_tryHouse 54 = .ok (.iload_n 3, 1) := by decide +kernel
theorem dX6_tryHouse_55 : decode cX6_tryHouse 55 = .ok (.iconst 1, 1) := by decide +kernel
theorem dX6_tryHouse_56 : decode cX6_tryHouse 56 = .ok (.iadd, 1) := by decide +kernel
theorem dX6_tryHouse_57 : decode cX6_tryHouse 57 = .ok (.iload 4, 2) := by decide +kernel
theorem dX6_tryHouse_59 : decode cX6_tryHouse 59 = .ok (.invokestatic 49, 3) := by decide +kernel
theorem dX6_tryHouse_62 : decode cX6_tryHouse 62 = .ok (.aload_n 1, 1) := by decide +kernel
theorem dX6_tryHouse_63 : decode cX6_tryHouse 63 = .ok (.aload_n 2, 1) := by decide +kernel
theorem dX6_tryHouse_64 : decode cX6_tryHouse 64 = .ok (.iload_n 3, 1) := by decide +kernel
theorem dX6_tryHouse_65 : decode cX6_tryHouse 65 = .ok (.bipush 10, 2) := by decide +kernel
theorem dX6_tryHouse_67 : decode cX6_tryHouse 67 = .ok (.invokestatic 58, 3) := by decide +kernel
theorem dX6_tryHouse_70 : decode cX6_tryHouse 70 = .ok (.iload 5, 2) := by decide +kernel
theorem dX6_tryHouse_72 : decode cX6_tryHouse 72 = .ok (.if_icmp .ne 18, 3) := by decide +kernel
theorem dX6_tryHouse_75 : decode cX6_tryHouse 75 = .ok (.aload_n 0, 1) := by decide +kernel
theorem dX6_tryHouse_76 : decode cX6_tryHouse 76 = .ok (.aload_n 1, 1) := by decide +kernel
theorem dX6_tryHouse_77 : decode cX6_tryHouse 77 = .ok (.aload_n 2, 1) := by decide +kernel
theorem dX6_tryHouse_78 : decode cX6_tryHouse 78 = .ok (.iload_n 3, 1) := by decide +kernel
theorem dX6_tryHouse_79 : decode cX6_tryHouse 79 = .ok (.iconst 1, 1) := by decide +kernel
theorem dX6_tryHouse_80 : decode cX6_tryHouse 80 = .ok (.iadd, 1) := by decide +kernel
theorem dX6_tryHouse_81 : decode cX6_tryHouse 81 = .ok (.iload 4, 2) := by decide +kernel
theorem dX6_tryHouse_83 : decode cX6_tryHouse 83 = .ok (.iconst 1, 1) := by decide +kernel
theorem dX6_tryHouse_84 : decode cX6_tryHouse 84 = .ok (.iload_n 3, 1) := by decide +kernel
theorem dX6_tryHouse_85 : decode cX6_tryHouse 85 = .ok (.ishl, 1) := by decide +kernel
theorem dX6_tryHouse_86 : decode cX6_tryHouse 86 = .ok (.ior, 1) := by decide +kernel
theorem dX6_tryHouse_87 : decode cX6_tryHouse 87 = .ok (.invokestatic 49, 3) := by decide +kernel
theorem dX6_tryHouse_90 : decode cX6_tryHouse 90 = .ok (.return_, 1) := by decide +kernel
theorem dX6_runsOver_0 : decode cX6_runsOver 0 = .ok (.aload_n 0, 1) := by decide +kernel
theorem dX6_runsOver_1 : decode cX6_runsOver 1 = .ok (.getfield 62, 3) := by decide +kernel
theorem dX6_runsOver_4 : decode cX6_runsOver 4 = .ok (.iload_n 2, 1) := by decide +kernel
theorem dX6_runsOver_5 : decode cX6_runsOver 5 = .ok (.aaload, 1) := by decide +kernel
theorem dX6_runsOver_6 : decode cX6_runsOver 6 = .ok (.astore 4, 2) := by decide +kernel
theorem dX6_runsOver_8 : decode cX6_runsOver 8 = .ok (.aload 4, 2) := by decide +kernel
theorem dX6_runsOver_10 : decode cX6_runsOver 10 = .ok (.iload_n 3, 1) := by decide +kernel
theorem dX6_runsOver_11 : decode cX6_runsOver 11 = .ok (.putfield 66, 3) := by decide +kernel
theorem dX6_runsOver_14 : decode cX6_runsOver 14 = .ok (.aload 4, 2) := by decide +kernel
theorem dX6_runsOver_16 : decode cX6_runsOver 16 = .ok (.iconst 0, 1) := by decide +kernel
theorem dX6_runsOver_17 : decode cX6_runsOver 17 = .ok (.putfield 71, 3) := by decide +kernel
theorem dX6_runsOver_20 : decode cX6_runsOver 20 = .ok (.aload 4, 2) := by decide +kernel
theorem dX6_runsOver_22 : decode cX6_runsOver 22 = .ok (.iconst 0, 1) := by decide +kernel
theorem dX6_runsOver_23 : decode cX6_runsOver 23 = .ok (.putfield 74, 3) := by decide +kernel
theorem dX6_runsOver_26 : decode cX6_runsOver 26 = .ok (.aload_n 0, 1) := by decide +kernel
theorem dX6_runsOver_27 : decode cX6_runsOver 27 = .ok (.iload_n 2, 1) := by decide +kernel
theorem dX6_runsOver_28 : decode cX6_runsOver 28 = .ok (.aload_n 1, 1) := by decide +kernel
theorem dX6_runsOver_29 : decode cX6_runsOver 29 = .ok (.invokevirtual 77, 3) := by decide +kernel
theorem dX6_runsOver_32 : decode cX6_runsOver 32 = .ok (.aload 4, 2) := by decide +kernel
theorem dX6_runsOver_34 : decode cX6_runsOver 34 = .ok (.getfield 81, 3) := by decide +kernel
theorem dX6_runsOver_37 : decode cX6_runsOver 37 = .ok (.ifCond .le 7, 3) := by decide +kernel
theorem dX6_runsOver_40 : decode cX6_runsOver 40 = .ok (.iconst 1, 1) := by decide +kernel
theorem dX6_runsOver_41 : decode cX6_runsOver 41 = .ok (.goto 4, 3) := by decide +kernel
theorem dX6_runsOver_44 : decode cX6_runsOver 44 = .ok (.iconst 0, 1) := by decide +kernel
theorem dX6_runsOver_45 : decode cX6_runsOver 45 = .ok (.ireturn, 1) := by decide +kernel
theorem dX6_note_0 : decode cX6_note 0 = .ok (.aload_n 0, 1) := by decide +kernel
theorem dX6_note_1 : decode cX6_note 1 = .ok (.aload_n 0, 1) := by decide +kernel
theorem dX6_note_2 : decode cX6_note 2 = .ok (.getfield 15, 3) := by decide +kernel
theorem dX6_note_5 : decode cX6_note 5 = .ok (.ifCond .ne 7, 3) := by decide +kernel
theorem dX6_note_8 : decode cX6_note 8 = .ok (.iload_n 1, 1) := by decide +kernel
theorem dX6_note_9 : decode cX6_note 9 = .ok (.goto 9, 3) := by decide +kernel
theorem dX6_note_12 : decode cX6_note 12 = .ok (.aload_n 0, 1) := by decide +kernel
theorem dX6_note_13 : decode cX6_note 13 = .ok (.getfield 24, 3) := by decide +kernel
theorem dX6_note_16 : decode cX6_note 16 = .ok (.iload_n 1, 1) := by decide +kernel
theorem dX6_note_17 : decode cX6_note 17 = .ok (.iand, 1) := by decide +kernel
theorem dX6_note_18 : decode cX6_note 18 = .ok (.putfield 24, 3) := by decide +kernel
theorem dX6_note_21 : decode cX6_note 21 = .ok (.aload_n 0, 1) := by decide +kernel
theorem dX6_note_22 : decode cX6_note 22 = .ok (.dup, 1) := by decide +kernel
theorem dX6_note_23 : decode cX6_note 23 = .ok (.getfield 15, 3) := by decide +kernel
theorem dX6_note_26 : decode cX6_note 26 = .ok (.iconst 1, 1) := by decide +kernel
theorem dX6_note_27 : decode cX6_note 27 = .ok (.iadd, 1) := by decide +kernel
theorem dX6_note_28 : decode cX6_note 28 = .ok (.putfield 15, 3) := by decide +kernel
theorem dX6_note_31 : decode cX6_note 31 = .ok (.aload_n 0, 1) := by decide +kernel
theorem dX6_note_32 : decode cX6_note 32 = .ok (.getfield 18, 3) := by decide +kernel
theorem dX6_note_35 : decode cX6_note 35 = .ok (.iconst (-1), 1) := by decide +kernel
theorem dX6_note_36 : decode cX6_note 36 = .ok (.if_icmp .ne 19, 3) := by decide +kernel
theorem dX6_note_39 : decode cX6_note 39 = .ok (.aload_n 0, 1) := by decide +kernel
theorem dX6_note_40 : decode cX6_note 40 = .ok (.aload_n 0, 1) := by decide +kernel
theorem dX6_note_41 : decode cX6_note 41 = .ok (.getfield 42, 3) := by decide +kernel
theorem dX6_note_44 : decode cX6_note 44 = .ok (.putfield 18, 3) := by decide +kernel
theorem dX6_note_47 : decode cX6_note 47 = .ok (.aload_n 0, 1) := by decide +kernel
theorem dX6_note_48 : decode cX6_note 48 = .ok (.iload_n 1, 1) := by decide +kernel
theorem dX6_note_49 : decode cX6_note 49 = .ok (.putfield 21, 3) := by decide +kernel
theorem dX6_note_52 : decode cX6_note 52 = .ok (.goto 26, 3) := by decide +kernel
theorem dX6_note_55 : decode cX6_note 55 = .ok (.aload_n 0, 1) := by decide +kernel
theorem dX6_note_56 : decode cX6_note 56 = .ok (.getfield 18, 3) := by decide +kernel
theorem dX6_note_59 : decode cX6_note 59 = .ok (.aload_n 0, 1) := by decide +kernel
theorem dX6_note_60 : decode cX6_note 60 = .ok (.getfield 42, 3) := by decide +kernel
theorem dX6_note_63 : decode cX6_note 63 = .ok (.if_icmp .ne 15, 3) := by decide +kernel
theorem dX6_note_66 : decode cX6_note 66 = .ok (.aload_n 0, 1) := by decide +kernel
theorem dX6_note_67 : decode cX6_note 67 = .ok (.aload_n 0, 1) := by decide +kernel
theorem dX6_note_68 : decode cX6_note 68 = .ok (.getfield 21, 3) := by decide +kernel
theorem dX6_note_71 : decode cX6_note 71 = .ok (.iload_n 1, 1) := by decide +kernel
theorem dX6_note_72 : decode cX6_note 72 = .ok (.invokestatic 84, 3) := by decide +kernel
theorem dX6_note_75 : decode cX6_note 75 = .ok (.putfield 21, 3) := by decide +kernel
theorem dX6_note_78 : decode cX6_note 78 = .ok (.return_, 1) := by decide +kernel
theorem dX7_init_0 : decode cX7_init 0 = .ok (.aload_n 0, 1) := by decide +kernel
theorem dX7_init_1 : decode cX7_init 1 = .ok (.invokespecial 3, 3) := by decide +kernel
theorem dX7_init_4 : decode cX7_init 4 = .ok (.aload_n 0, 1) := by decide +kernel
theorem dX7_init_5 : decode cX7_init 5 = .ok (.bipush 12, 2) := by decide +kernel
theorem dX7_init_7 : decode cX7_init 7 = .ok (.newarray .int, 2) := by decide +kernel
theorem dX7_init_9 : decode cX7_init 9 = .ok (.putfield 9, 3) := by decide +kernel
theorem dX7_init_12 : decode cX7_init 12 = .ok (.aload_n 0, 1) := by decide +kernel
theorem dX7_init_13 : decode cX7_init 13 = .ok (.bipush 12, 2) := by decide +kernel
theorem dX7_init_15 : decode cX7_init 15 = .ok (.newarray .boolean, 2) := by decide +kernel
theorem dX7_init_17 : decode cX7_init 17 = .ok (.putfield 15, 3) := by decide +kernel
theorem dX7_init_20 : decode cX7_init 20 = .ok (.return_, 1) := by decide +kernel
theorem dX7_brew_0 : decode cX7_brew 0 = .ok (.aload_n 0, 1) := by decide +kernel
theorem dX7_brew_1 : decode cX7_brew 1 = .ok (.iload_n 1, 1) := by decide +kernel
theorem dX7_brew_2 : decode cX7_brew 2 = .ok (.putfield 19, 3) := by decide +kernel
theorem dX7_brew_5 : decode cX7_brew 5 = .ok (.iconst 0, 1) := by decide +kernel
theorem dX7_brew_6 : decode cX7_brew 6 = .ok (.istore_n 2, 1) := by decide +kernel
theorem dX7_brew_7 : decode cX7_brew 7 = .ok (.iload_n 2, 1) := by decide +kernel
theorem dX7_brew_8 : decode cX7_brew 8 = .ok (.bipush 12, 2) := by decide +kernel
theorem dX7_brew_10 : decode cX7_brew 10 = .ok (.if_icmp .ge 23, 3) := by decide +kernel
theorem dX7_brew_13 : decode cX7_brew 13 = .ok (.aload_n 0, 1) := by decide +kernel
theorem dX7_brew_14 : decode cX7_brew 14 = .ok (.getfield 9, 3) := by decide +kernel
theorem dX7_brew_17 : decode cX7_brew 17 = .ok (.iload_n 2, 1) := by decide +kernel
theorem dX7_brew_18 : decode cX7_brew 18 = .ok (.iconst 0, 1) := by decide +kernel
theorem dX7_brew_19 : decode cX7_brew 19 = .ok (.iastore, 1) := by decide +kernel
theorem dX7_brew_20 : decode cX7_brew 20 = .ok (.aload_n 0, 1) := by decide +kernel
theorem dX7_brew_21 : decode cX7_brew 21 = .ok (.getfield 15, 3) := by decide +kernel
theorem dX7_brew_24 : decode cX7_brew 24 = .ok (.iload_n 2, 1) := by decide +kernel
theorem dX7_brew_25 : decode cX7_brew 25 = .ok (.iconst 0, 1) := by decide +kernel
theorem dX7_brew_26 : decode cX7_brew 26 = .ok (.bastore, 1) := by decide +kernel
theorem dX7_brew_27 : decode cX7_brew 27 = .ok (.iinc 2 1, 3) := by decide +kernel
theorem dX7_brew_30 : decode cX7_brew 30 = .ok (.goto (-23), 3) := by decide +kernel
theorem dX7_brew_33 : decode cX7_brew 33 = .ok (.return_, 1) := by decide +kernel
theorem dX7_copy_0 : decode cX7_copy 0 = .ok (.aload_n 0, 1) := by decide +kernel
theorem dX7_copy_1 : decode cX7_copy 1 = .ok (.aload_n 1, 1) := by decide +kernel
theorem dX7_copy_2 : decode cX7_copy 2 = .ok (.getfield 19, 3) := by decide +kernel
theorem dX7_copy_5 : decode cX7_copy 5 = .ok (.putfield 19, 3) := by decide +kernel
theorem dX7_copy_8 : decode cX7_copy 8 = .ok (.iconst 0, 1) := by decide +kernel
theorem dX7_copy_9 : decode cX7_copy 9 = .ok (.istore_n 2, 1) := by decide +kernel
theorem dX7_copy_10 : decode cX7_copy 10 = .ok (.iload_n 2, 1) := by decide +kernel
theorem dX7_copy_11 : decode cX7_copy 11 = .ok (.bipush 12, 2) := by decide +kernel
theorem dX7_copy_13 : decode cX7_copy 13 = .ok (.if_icmp .ge 33, 3) := by decide +kernel
theorem dX7_copy_16 : decode cX7_copy 16 = .ok (.aload_n 0, 1) := by decide +kernel
theorem dX7_copy_17 : decode cX7_copy 17 = .ok (.getfield 9, 3) := by decide +kernel
theorem dX7_copy_20 : decode cX7_copy 20 = .ok (.iload_n 2, 1) := by decide +kernel
theorem dX7_copy_21 : decode cX7_copy 21 = .ok (.aload_n 1, 1) := by decide +kernel
theorem dX7_copy_22 : decode cX7_copy 22 = .ok (.getfield 9, 3) := by decide +kernel
theorem dX7_copy_25 : decode cX7_copy 25 = .ok (.iload_n 2, 1) := by decide +kernel
theorem dX7_copy_26 : decode cX7_copy 26 = .ok (.iaload, 1) := by decide +kernel
theorem dX7_copy_27 : decode cX7_copy 27 = .ok (.iastore, 1) := by decide +kernel
theorem dX7_copy_28 : decode cX7_copy 28 = .ok (.aload_n 0, 1) := by decide +kernel
theorem dX7_copy_29 : decode cX7_copy 29 = .ok (.getfield 15, 3) := by decide +kernel
theorem dX7_copy_32 : decode cX7_copy 32 = .ok (.iload_n 2, 1) := by decide +kernel
theorem dX7_copy_33 : decode cX7_copy 33 = .ok (.aload_n 1, 1) := by decide +kernel
theorem dX7_copy_34 : decode cX7_copy 34 = .ok (.getfield 15, 3) := by decide +kernel
theorem dX7_copy_37 : decode cX7_copy 37 = .ok (.iload_n 2, 1) := by decide +kernel
theorem dX7_copy_38 : decode cX7_copy 38 = .ok (.baload, 1) := by decide +kernel
theorem dX7_copy_39 : decode cX7_copy 39 = .ok (.bastore, 1) := by decide +kernel
theorem dX7_copy_40 : decode cX7_copy 40 = .ok (.iinc 2 1, 3) := by decide +kernel
theorem dX7_copy_43 : decode cX7_copy 43 = .ok (.goto (-33), 3) := by decide +kernel
theorem dX7_copy_46 : decode cX7_copy 46 = .ok (.return_, 1) := by decide +kernel
theorem dX7_told_0 : decode cX7_told 0 = .ok (.iload_n 1, 1) := by decide +kernel
theorem dX7_told_1 : decode cX7_told 1 = .ok (.iconst 0, 1) := by decide +kernel
theorem dX7_told_2 : decode cX7_told 2 = .ok (.aload_n 0, 1) := by decide +kernel
theorem dX7_told_3 : decode cX7_told 3 = .ok (.getfield 19, 3) := by decide +kernel
theorem dX7_told_6 : decode cX7_told 6 = .ok (.iconst 1, 1) := by decide +kernel
theorem dX7_told_7 : decode cX7_told 7 = .ok (.isub, 1) := by decide +kernel
theorem dX7_told_8 : decode cX7_told 8 = .ok (.invokestatic 23, 3) := by decide +kernel
theorem dX7_told_11 : decode cX7_told 11 = .ok (.ifCond .ne 5, 3) := by decide +kernel
theorem dX7_told_14 : decode cX7_told 14 = .ok (.iconst (-1), 1) := by decide +kernel
theorem dX7_told_15 : decode cX7_told 15 = .ok (.ireturn, 1) := by decide +kernel
theorem dX7_told_16 : decode cX7_told 16 = .ok (.aload_n 0, 1) := by decide +kernel
theorem dX7_told_17 : decode cX7_told 17 = .ok (.getfield 15, 3) := by decide +kernel
theorem dX7_told_20 : decode cX7_told 20 = .ok (.iload_n 1, 1) := by decide +kernel
theorem dX7_told_21 : decode cX7_told 21 = .ok (.baload, 1) := by decide +kernel
theorem dX7_told_22 : decode cX7_told 22 = .ok (.ifCond .eq 15, 3) := by decide +kernel
theorem dX7_told_25 : decode cX7_told 25 = .ok (.bipush 100, 2) := by decide +kernel
theorem dX7_told_27 : decode cX7_told 27 = .ok (.aload_n 0, 1) := by decide +kernel
theorem dX7_told_28 : decode cX7_told 28 = .ok (.getfield 9, 3) := by decide +kernel
theorem dX7_told_31 : decode cX7_told 31 = .ok (.iload_n 1, 1) := by decide +kernel
theorem dX7_told_32 : decode cX7_told 32 = .ok (.iaload, 1) := by decide +kernel
theorem dX7_told_33 : decode cX7_told 33 = .ok (.iadd, 1) := by decide +kernel
theorem dX7_told_34 : decode cX7_told 34 = .ok (.goto 9, 3) := by decide +kernel
theorem dX7_told_37 : decode cX7_told 37 = .ok (.aload_n 0, 1) := by decide +kernel
theorem dX7_told_38 : decode cX7_told 38 = .ok (.getfield 9, 3) := by decide +kernel
theorem dX7_told_41 : decode cX7_told 41 = .ok (.iload_n 1, 1) := by decide +kernel
theorem dX7_told_42 : decode cX7_told 42 = .ok (.iaload, 1) := by decide +kernel
theorem dX7_told_43 : decode cX7_told 43 = .ok (.ireturn, 1) := by decide +kernel
theorem dX7_fallInAll_0 : decode cX7_fallInAll 0 = .ok (.iconst 0, 1) := by decide +kernel
theorem dX7_fallInAll_1 : decode cX7_fallInAll 1 = .ok (.istore_n 1, 1) := by decide +kernel
theorem dX7_fallInAll_2 : decode cX7_fallInAll 2 = .ok (.iconst 0, 1) := by decide +kernel
theorem dX7_fallInAll_3 : decode cX7_fallInAll 3 = .ok (.istore_n 2, 1) := by decide +kernel
theorem dX7_fallInAll_4 : decode cX7_fallInAll 4 = .ok (.iload_n 2, 1) := by decide +kernel
theorem dX7_fallInAll_5 : decode cX7_fallInAll 5 = .ok (.aload_n 0, 1) := by decide +kernel
theorem dX7_fallInAll_6 : decode cX7_fallInAll 6 = .ok (.getfield 19, 3) := by decide +kernel
theorem dX7_fallInAll_9 : decode cX7_fallInAll 9 = .ok (.if_icmp .ge 18, 3) := by decide +kernel
theorem dX7_fallInAll_12 : decode cX7_fallInAll 12 = .ok (.iload_n 1, 1) := by decide +kernel
theorem dX7_fallInAll_13 : decode cX7_fallInAll 13 = .ok (.aload_n 0, 1) := by decide +kernel
theorem dX7_fallInAll_14 : decode cX7_fallInAll 14 = .ok (.getfield 9, 3) := by decide +kernel
theorem dX7_fallInAll_17 : decode cX7_fallInAll 17 = .ok (.iload_n 2, 1) := by decide +kernel
theorem dX7_fallInAll_18 : decode cX7_fallInAll 18 = .ok (.iaload, 1) := by decide +kernel
theorem dX7_fallInAll_19 : decode cX7_fallInAll 19 = .ok (.iadd, 1) := by decide +kernel
theorem dX7_fallInAll_20 : decode cX7_fallInAll 20 = .ok (.istore_n 1, 1) := by decide +kernel
theorem dX7_fallInAll_21 : decode cX7_fallInAll 21 = .ok (.iinc 2 1, 3) := by decide +kernel
theorem dX7_fallInAll_24 : decode cX7_fallInAll 24 = .ok (.goto (-20), 3) := by decide +kernel
theorem dX7_fallInAll_27 : decode cX7_fallInAll 27 = .ok (.iload_n 1, 1) := by decide +kernel
theorem dX7_fallInAll_28 : decode cX7_fallInAll 28 = .ok (.ireturn, 1) := by decide +kernel
theorem dX8_init_0 : decode cX8_init 0 = .ok (.aload_n 0, 1) := by decide +kernel
theorem dX8_init_1 : decode cX8_init 1 = .ok (.invokespecial 3, 3) := by decide +kernel
theorem dX8_init_4 : decode cX8_init 4 = .ok (.aload_n 0, 1) := by decide +kernel
theorem dX8_init_5 : decode cX8_init 5 = .ok (.new 9, 3) := by decide +kernel
theorem dX8_init_8 : decode cX8_init 8 = .ok (.dup, 1) := by decide +kernel
theorem dX8_init_9 : decode cX8_init 9 = .ok (.invokespecial 11, 3) := by decide +kernel
theorem dX8_init_12 : decode cX8_init 12 = .ok (.putfield 12, 3) := by decide +kernel
theorem dX8_init_15 : decode cX8_init 15 = .ok (.aload_n 0, 1) := by decide +kernel
theorem dX8_init_16 : decode cX8_init 16 = .ok (.bipush 10, 2) := by decide +kernel
theorem dX8_init_18 : decode cX8_init 18 = .ok (.anewarray 18, 3) := by decide +kernel
theorem dX8_init_21 : decode cX8_init 21 = .ok (.putfield 20, 3) := by decide +kernel
theorem dX8_init_24 : decode cX8_init 24 = .ok (.aload_n 0, 1) := by decide +kernel
theorem dX8_init_25 : decode cX8_init 25 = .ok (.new 24, 3) := by decide +kernel
theorem dX8_init_28 : decode cX8_init 28 = .ok (.dup, 1) := by decide +kernel
theorem dX8_init_29 : decode cX8_init 29 = .ok (.invokespecial 26, 3) := by decide +kernel
theorem dX8_init_32 : decode cX8_init 32 = .ok (.putfield 27, 3) := by decide +kernel
theorem dX8_init_35 : decode cX8_init 35 = .ok (.aload_n 0, 1) := by decide +kernel
theorem dX8_init_36 : decode cX8_init 36 = .ok (.ldc 31, 2) := by decide +kernel
theorem dX8_init_38 : decode cX8_init 38 = .ok (.putfield 32, 3) := by decide +kernel
theorem dX8_init_41 : decode cX8_init 41 = .ok (.aload_n 0, 1) := by decide +kernel
theorem dX8_init_42 : decode cX8_init 42 = .ok (.bipush 16, 2) := by decide +kernel
theorem dX8_init_44 : decode cX8_init 44 = .ok (.newarray .int, 2) := by decide +kernel
theorem dX8_init_46 : decode cX8_init 46 = .ok (.putfield 36, 3) := by decide +kernel
theorem dX8_init_49 : decode cX8_init 49 = .ok (.iconst 0, 1) := by decide +kernel
theorem dX8_init_50 : decode cX8_init 50 = .ok (.istore_n 1, 1) := by decide +kernel
theorem dX8_init_51 : decode cX8_init 51 = .ok (.iload_n 1, 1) := by decide +kernel
theorem dX8_init_52 : decode cX8_init 52 = .ok (.bipush 10, 2) := by decide +kernel
theorem dX8_init_54 : decode cX8_init 54 = .ok (.if_icmp .ge 22, 3) := by decide +kernel
theorem dX8_init_57 : decode cX8_init 57 = .ok (.aload_n 0, 1) := by decide +kernel
theorem dX8_init_58 : decode cX8_init 58 = .ok (.getfield 20, 3) := by decide +kernel
theorem dX8_init_61 : decode cX8_init 61 = .ok (.iload_n 1, 1) := by decide +kernel
theorem dX8_init_62 : decode cX8_init 62 = .ok (.new 18, 3) := by decide +kernel
theorem dX8_init_65 : decode cX8_init 65 = .ok (.dup, 1) := by decide +kernel
theorem dX8_init_66 : decode cX8_init 66 = .ok (.invokespecial 40, 3) := by decide +kernel
theorem dX8_init_69 : decode cX8_init 69 = .ok (.aastore, 1) := by decide +kernel
theorem dX8_init_70 : decode cX8_init 70 = .ok (.iinc 1 1, 3) := by decide +kernel
theorem dX8_init_73 : decode cX8_init 73 = .ok (.goto (-22), 3) := by decide +kernel
theorem dX8_init_76 : decode cX8_init 76 = .ok (.return_, 1) := by decide +kernel
theorem dX8_copy_0 : decode cX8_copy 0 = .ok (.aload_n 0, 1) := by decide +kernel
theorem dX8_copy_1 : decode cX8_copy 1 = .ok (.getfield 12, 3) := by decide +kernel
theorem dX8_copy_4 : decode cX8_copy 4 = .ok (.aload_n 1, 1) := by decide +kernel
theorem dX8_copy_5 : decode cX8_copy 5 = .ok (.getfield 12, 3) := by decide +kernel
theorem dX8_copy_8 : decode cX8_copy 8 = .ok (.invokevirtual 41, 3) := by decide +kernel
theorem dX8_copy_11 : decode cX8_copy 11 = .ok (.aload_n 0, 1) := by decide +kernel
theorem dX8_copy_12 : decode cX8_copy 12 = .ok (.aload_n 1, 1) := by decide +kernel
theorem dX8_copy_13 : decode cX8_copy 13 = .ok (.getfield 45, 3) := by decide +kernel
theorem dX8_copy_16 : decode cX8_copy 16 = .ok (.putfield 45, 3) := by decide +kernel
theorem dX8_copy_19 : decode cX8_copy 19 = .ok (.iconst 0, 1) := by decide +kernel
theorem dX8_copy_20 : decode cX8_copy 20 = .ok (.istore_n 2, 1) := by decide +kernel
theorem dX8_copy_21 : decode cX8_copy 21 = .ok (.iload_n 2, 1) := by decide +kernel
theorem dX8_copy_22 : decode cX8_copy 22 = .ok (.aload_n 0, 1) := by decide +kernel
theorem dX8_copy_23 : decode cX8_copy 23 = .ok (.getfield 45, 3) := by decide +kernel
theorem dX8_copy_26 : decode cX8_copy 26 = .ok (.if_icmp .ge 24, 3) := by decide +kernel
theorem dX8_copy_29 : decode cX8_copy 29 = .ok (.aload_n 0, 1) := by decide +kernel
theorem dX8_copy_30 : decode cX8_copy 30 = .ok (.getfield 20, 3) := by decide +kernel
theorem dX8_copy_33 : decode cX8_copy 33 = .ok (.iload_n 2, 1) := by decide +kernel
theorem dX8_copy_34 : decode cX8_copy 34 = .ok (.aaload, 1) := by decide +kernel
theorem dX8_copy_35 : decode cX8_copy 35 = .ok (.aload_n 1, 1) := by decide +kernel
theorem dX8_copy_36 : decode cX8_copy 36 = .ok (.getfield 20, 3) := by decide +kernel
theorem dX8_copy_39 : decode cX8_copy 39 = .ok (.iload_n 2, 1) := by decide +kernel
theorem dX8_copy_40 : decode cX8_copy 40 = .ok (.aaload, 1) := by decide +kernel
theorem dX8_copy_41 : decode cX8_copy 41 = .ok (.invokevirtual 48, 3) := by decide +kernel
theorem dX8_copy_44 : decode cX8_copy 44 = .ok (.iinc 2 1, 3) := by decide +kernel
theorem dX8_copy_47 : decode cX8_copy 47 = .ok (.goto (-26), 3) := by decide +kernel
theorem dX8_copy_50 : decode cX8_copy 50 = .ok (.aload_n 0, 1) := by decide +kernel
theorem dX8_copy_51 : decode cX8_copy 51 = .ok (.getfield 27, 3) := by decide +kernel
theorem dX8_copy_54 : decode cX8_copy 54 = .ok (.aload_n 1, 1) := by decide +kernel
theorem dX8_copy_55 : decode cX8_copy 55 = .ok (.getfield 27, 3) := by decide +kernel
theorem dX8_copy_58 : decode cX8_copy 58 = .ok (.invokevirtual 51, 3) := by decide +kernel
theorem dX8_copy_61 : decode cX8_copy 61 = .ok (.aload_n 0, 1) := by decide +kernel
theorem dX8_copy_62 : decode cX8_copy 62 = .ok (.aload_n 1, 1) := by decide +kernel
theorem dX8_copy_63 : decode cX8_copy 63 = .ok (.getfield 32, 3) := by decide +kernel
theorem dX8_copy_66 : decode cX8_copy 66 = .ok (.putfield 32, 3) := by decide +kernel
theorem dX8_copy_69 : decode cX8_copy 69 = .ok (.aload_n 0, 1) := by decide +kernel
theorem dX8_copy_70 : decode cX8_copy 70 = .ok (.aload_n 1, 1) := by decide +kernel
theorem dX8_copy_71 : decode cX8_copy 71 = .ok (.getfield 54, 3) := by decide +kernel
theorem dX8_copy_74 : decode cX8_copy 74 = .ok (.putfield 54, 3) := by decide +kernel
theorem dX8_copy_77 : decode cX8_copy 77 = .ok (.aload_n 0, 1) := by decide +kernel
theorem dX8_copy_78 : decode cX8_copy 78 = .ok (.aload_n 1, 1) := by decide +kernel
theorem dX8_copy_79 : decode cX8_copy 79 = .ok (.getfield 57, 3) := by decide +kernel
theorem dX8_copy_82 : decode cX8_copy 82 = .ok (.putfield 57, 3) := by decide +kernel
theorem dX8_copy_85 : decode cX8_copy 85 = .ok (.aload_n 0, 1) := by decide +kernel
theorem dX8_copy_86 : decode cX8_copy 86 = .ok (.aload_n 1, 1) := by decide +kernel
theorem dX8_copy_87 : decode cX8_copy 87 = .ok (.getfield 60, 3) := by decide +kernel
theorem dX8_copy_90 : decode cX8_copy 90 = .ok (.putfield 60, 3) := by decide +kernel
theorem dX8_copy_93 : decode cX8_copy 93 = .ok (.aload_n 0, 1) := by decide +kernel
theorem dX8_copy_94 : decode cX8_copy 94 = .ok (.aload_n 1, 1) := by decide +kernel
theorem dX8_copy_95 : decode cX8_copy 95 = .ok (.getfield 63, 3) := by decide +kernel
theorem dX8_copy_98 : decode cX8_copy 98 = .ok (.putfield 63, 3) := by decide +kernel
theorem dX8_copy_101 : decode cX8_copy 101 = .ok (.aload_n 0, 1) := by decide +kernel
theorem dX8_copy_102 : decode cX8_copy 102 = .ok (.aload_n 1, 1) := by decide +kernel
theorem dX8_copy_103 : decode cX8_copy 103 = .ok (.getfield 66, 3) := by decide +kernel
theorem dX8_copy_106 : decode cX8_copy 106 = .ok (.putfield 66, 3) := by decide +kernel
theorem dX8_copy_109 : decode cX8_copy 109 = .ok (.aload_n 0, 1) := by decide +kernel
theorem dX8_copy_110 : decode cX8_copy 110 = .ok (.aload_n 1, 1) := by decide +kernel
theorem dX8_copy_111 : decode cX8_copy 111 = .ok (.getfield 69, 3) := by decide +kernel
theorem dX8_copy_114 : decode cX8_copy 114 = .ok (.putfield 69, 3) := by decide +kernel
theorem dX8_copy_117 : decode cX8_copy 117 = .ok (.return_, 1) := by decide +kernel
theorem dX8_told_0 : decode cX8_told 0 = .ok (.iload_n 1, 1) := by decide +kernel
theorem dX8_told_1 : decode cX8_told 1 = .ok (.tableswitch 105 0 8 #[51, 59, 64, 69, 74, 79, 84, 92, 100], 51) := by decide +kernel
theorem dX8_told_52 : decode cX8_told 52 = .ok (.aload_n 0, 1) := by decide +kernel
theorem dX8_told_53 : decode cX8_told 53 = .ok (.getfield 12, 3) := by decide +kernel
theorem dX8_told_56 : decode cX8_told 56 = .ok (.getfield 72, 3) := by decide +kernel
theorem dX8_told_59 : decode cX8_told 59 = .ok (.ireturn, 1) := by decide +kernel
theorem dX8_told_60 : decode cX8_told 60 = .ok (.aload_n 0, 1) := by decide +kernel
theorem dX8_told_61 : decode cX8_told 61 = .ok (.getfield 45, 3) := by decide +kernel
theorem dX8_told_64 : decode cX8_told 64 = .ok (.ireturn, 1) := by decide +kernel
theorem dX8_told_65 : decode cX8_told 65 = .ok (.aload_n 0, 1) := by decide +kernel
theorem dX8_told_66 : decode cX8_told 66 = .ok (.getfield 54, 3) := by decide +kernel
theorem dX8_told_69 : decode cX8_told 69 = .ok (.ireturn, 1) := by decide +kernel
theorem dX8_told_70 : decode cX8_told 70 = .ok (.aload_n 0, 1) := by decide +kernel
theorem dX8_told_71 : decode cX8_told 71 = .ok (.getfield 32, 3) := by decide +kernel
theorem dX8_told_74 : decode cX8_told 74 = .ok (.ireturn, 1) := by decide +kernel
theorem dX8_told_75 : decode cX8_told 75 = .ok (.aload_n 0, 1) := by decide +kernel
theorem dX8_told_76 : decode cX8_told 76 = .ok (.getfield 57, 3) := by decide +kernel
theorem dX8_told_79 : decode cX8_told 79 = .ok (.ireturn, 1) := by decide +kernel
theorem dX8_told_80 : decode cX8_told 80 = .ok (.aload_n 0, 1) := by decide +kernel
theorem dX8_told_81 : decode cX8_told 81 = .ok (.getfield 60, 3) := by decide +kernel
theorem dX8_told_84 : decode cX8_told 84 = .ok (.ireturn, 1) := by decide +kernel
theorem dX8_told_85 : decode cX8_told 85 = .ok (.aload_n 0, 1) := by decide +kernel
theorem dX8_told_86 : decode cX8_told 86 = .ok (.getfield 27, 3) := by decide +kernel
theorem dX8_told_89 : decode cX8_told 89 = .ok (.getfield 75, 3) := by decide +kernel
theorem dX8_told_92 : decode cX8_told 92 = .ok (.ireturn, 1) := by decide +kernel
theorem dX8_told_93 : decode cX8_told 93 = .ok (.aload_n 0, 1) := by decide +kernel
theorem dX8_told_94 : decode cX8_told 94 = .ok (.getfield 12, 3) := by decide +kernel
theorem dX8_told_97 : decode cX8_told 97 = .ok (.getfield 78, 3) := by decide +kernel
theorem dX8_told_100 : decode cX8_told 100 = .ok (.ireturn, 1) := by decide +kernel
theorem dX8_told_101 : decode cX8_told 101 = .ok (.aload_n 0, 1) := by decide +kernel
theorem dX8_told_102 : decode cX8_told 102 = .ok (.getfield 63, 3) := by decide +kernel
theorem dX8_told_105 : decode cX8_told 105 = .ok (.ireturn, 1) := by decide +kernel
theorem dX8_told_106 : decode cX8_told 106 = .ok (.iconst (-1), 1) := by decide +kernel
theorem dX8_told_107 : decode cX8_told 107 = .ok (.ireturn, 1) := by decide +kernel
theorem dX8_weather_0 : decode cX8_weather 0 = .ok (.aload_n 0, 1) := by decide +kernel
theorem dX8_weather_1 : decode cX8_weather 1 = .ok (.getfield 12, 3) := by decide +kernel
theorem dX8_weather_4 : decode cX8_weather 4 = .ok (.aload_n 1, 1) := by decide +kernel
theorem dX8_weather_5 : decode cX8_weather 5 = .ok (.bipush 10, 2) := by decide +kernel
theorem dX8_weather_7 : decode cX8_weather 7 = .ok (.invokevirtual 81, 3) := by decide +kernel
theorem dX8_weather_10 : decode cX8_weather 10 = .ok (.istore_n 2, 1) := by decide +kernel
theorem dX8_weather_11 : decode cX8_weather 11 = .ok (.aload_n 1, 1) := by decide +kernel
theorem dX8_weather_12 : decode cX8_weather 12 = .ok (.invokevirtual 85, 3) := by decide +kernel
theorem dX8_weather_15 : decode cX8_weather 15 = .ok (.istore_n 3, 1) := by decide +kernel
theorem dX8_weather_16 : decode cX8_weather 16 = .ok (.iconst 0, 1) := by decide +kernel
theorem dX8_weather_17 : decode cX8_weather 17 = .ok (.istore 4, 2) := by decide +kernel
theorem dX8_weather_19 : decode cX8_weather 19 = .ok (.iload 4, 2) := by decide +kernel
theorem dX8_weather_21 : decode cX8_weather 21 = .ok (.aload_n 0, 1) := by decide +kernel
theorem dX8_weather_22 : decode cX8_weather 22 = .ok (.getfield 12, 3) := by decide +kernel
theorem dX8_weather_25 : decode cX8_weather 25 = .ok (.getfield 72, 3) := by decide +kernel
theorem dX8_weather_28 : decode cX8_weather 28 = .ok (.if_icmp .ge 59, 3) := by decide +kernel
theorem dX8_weather_31 : decode cX8_weather 31 = .ok (.aload_n 0, 1) := by decide +kernel
theorem dX8_weather_32 : decode cX8_weather 32 = .ok (.getfield 12, 3) := by decide +kernel
theorem dX8_weather_35 : decode cX8_weather 35 = .ok (.getfield 89, 3) := by decide +kernel
theorem dX8_weather_38 : decode cX8_weather 38 = .ok (.iload 4, 2) := by decide +kernel
theorem dX8_weather_40 : decode cX8_weather 40 = .ok (.aaload, 1) := by decide +kernel
theorem dX8_weather_41 : decode cX8_weather 41 = .ok (.astore 5, 2) := by decide +kernel
theorem dX8_weather_43 : decode cX8_weather 43 = .ok (.aload_n 0, 1) := by decide +kernel
theorem dX8_weather_44 : decode cX8_weather 44 = .ok (.dup, 1) := by decide +kernel
theorem dX8_weather_45 : decode cX8_weather 45 = .ok (.getfield 63, 3) := by decide +kernel
theorem dX8_weather_48 : decode cX8_weather 48 = .ok (.iload_n 3, 1) := by decide +kernel
theorem dX8_weather_49 : decode cX8_weather 49 = .ok (.aload 5, 2) := by decide +kernel
theorem dX8_weather_51 : decode cX8_weather 51 = .ok (.getfield 93, 3) := by decide +kernel
theorem dX8_weather_54 : decode cX8_weather 54 = .ok (.imul, 1) := by decide +kernel
theorem dX8_weather_55 : decode cX8_weather 55 = .ok (.iadd, 1) := by decide +kernel
theorem dX8_weather_56 : decode cX8_weather 56 = .ok (.putfield 63, 3) := by decide +kernel
theorem dX8_weather_59 : decode cX8_weather 59 = .ok (.aload 5, 2) := by decide +kernel
theorem dX8_weather_61 : decode cX8_weather 61 = .ok (.getfield 98, 3) := by decide +kernel
theorem dX8_weather_64 : decode cX8_weather 64 = .ok (.iconst (-1), 1) := by decide +kernel
theorem dX8_weather_65 : decode cX8_weather 65 = .ok (.if_icmp .ne 16, 3) := by decide +kernel
theorem dX8_weather_68 : decode cX8_weather 68 = .ok (.aload_n 0, 1) := by decide +kernel
theorem dX8_weather_69 : decode cX8_weather 69 = .ok (.aload 5, 2) := by decide +kernel
theorem dX8_weather_71 : decode cX8_weather 71 = .ok (.aload_n 1, 1) := by decide +kernel
theorem dX8_weather_72 : decode cX8_weather 72 = .ok (.getfield 101, 3) := by decide +kernel
theorem dX8_weather_75 : decode cX8_weather 75 = .ok (.invokevirtual 104, 3) := by decide +kernel
theorem dX8_weather_78 : decode cX8_weather 78 = .ok (.invokevirtual 108, 3) := by decide +kernel
theorem dX8_weather_81 : decode cX8_weather 81 = .ok (.iinc 4 1, 3) := by decide +kernel
theorem dX8_weather_84 : decode cX8_weather 84 = .ok (.goto (-65), 3) := by decide +kernel
theorem dX8_weather_87 : decode cX8_weather 87 = .ok (.aload_n 0, 1) := by decide +kernel
theorem dX8_weather_88 : decode cX8_weather 88 = .ok (.dup, 1) := by decide +kernel
theorem dX8_weather_89 : decode cX8_weather 89 = .ok (.getfield 60, 3) := by decide +kernel
theorem dX8_weather_92 : decode cX8_weather 92 = .ok (.iconst 1, 1) := by decide +kernel
theorem dX8_weather_93 : decode cX8_weather 93 = .ok (.iadd, 1) := by decide +kernel
theorem dX8_weather_94 : decode cX8_weather 94 = .ok (.putfield 60, 3) := by decide +kernel
theorem dX8_weather_97 : decode cX8_weather 97 = .ok (.aload_n 0, 1) := by decide +kernel
theorem dX8_weather_98 : decode cX8_weather 98 = .ok (.aload_n 0, 1) := by decide +kernel
theorem dX8_weather_99 : decode cX8_weather 99 = .ok (.getfield 12, 3) := by decide +kernel
theorem dX8_weather_102 : decode cX8_weather 102 = .ok (.getfield 72, 3) := by decide +kernel
theorem dX8_weather_105 : decode cX8_weather 105 = .ok (.putfield 66, 3) := by decide +kernel
theorem dX8_weather_108 : decode cX8_weather 108 = .ok (.aload_n 0, 1) := by decide +kernel
theorem dX8_weather_109 : decode cX8_weather 109 = .ok (.aload_n 1, 1) := by decide +kernel
theorem dX8_weather_110 : decode cX8_weather 110 = .ok (.getfield 101, 3) := by decide +kernel
theorem dX8_weather_113 : decode cX8_weather 113 = .ok (.putfield 69, 3) := by decide +kernel
theorem dX8_weather_116 : decode cX8_weather 116 = .ok (.aload_n 0, 1) := by decide +kernel
theorem dX8_weather_117 : decode cX8_weather 117 = .ok (.invokevirtual 112, 3) := by decide +kernel
theorem dX8_weather_120 : decode cX8_weather 120 = .ok (.iconst 0, 1) := by decide +kernel
theorem dX8_weather_121 : decode cX8_weather 121 = .ok (.istore 4, 2) := by decide +kernel
theorem dX8_weather_123 : decode cX8_weather 123 = .ok (.iload 4, 2) := by decide +kernel
theorem dX8_weather_125 : decode cX8_weather 125 = .ok (.aload_n 0, 1) := by decide +kernel
theorem dX8_weather_126 : decode cX8_weather 126 = .ok (.getfield 12, 3) := by decide +kernel
theorem dX8_weather_129 : decode cX8_weather 129 = .ok (.getfield 72, 3) := by decide +kernel
theorem dX8_weather_132 : decode cX8_weather 132 = .ok (.if_icmp .ge 22, 3) := by decide +kernel
theorem dX8_weather_135 : decode cX8_weather 135 = .ok (.aload_n 0, 1) := by decide +kernel
theorem dX8_weather_136 : decode cX8_weather 136 = .ok (.getfield 12, 3) := by decide +kernel
theorem dX8_weather_139 : decode cX8_weather 139 = .ok (.getfield 89, 3) := by decide +kernel
theorem dX8_weather_142 : decode cX8_weather 142 = .ok (.iload 4, 2) := by decide +kernel
theorem dX8_weather_144 : decode cX8_weather 144 = .ok (.aaload, 1) := by decide +kernel
theorem dX8_weather_145 : decode cX8_weather 145 = .ok (.invokevirtual 115, 3) := by decide +kernel
theorem dX8_weather_148 : decode cX8_weather 148 = .ok (.iinc 4 1, 3) := by decide +kernel
theorem dX8_weather_151 : decode cX8_weather 151 = .ok (.goto (-28), 3) := by decide +kernel
theorem dX8_weather_154 : decode cX8_weather 154 = .ok (.iload_n 2, 1) := by decide +kernel
theorem dX8_weather_155 : decode cX8_weather 155 = .ok (.ireturn, 1) := by decide +kernel
theorem dX8_store_0 : decode cX8_store 0 = .ok (.iload_n 1, 1) := by decide +kernel
theorem dX8_store_1 : decode cX8_store 1 = .ok (.iconst 0, 1) := by decide +kernel
theorem dX8_store_2 : decode cX8_store 2 = .ok (.aload_n 0, 1) := by decide +kernel
theorem dX8_store_3 : decode cX8_store 3 = .ok (.getfield 32, 3) := by decide +kernel
theorem dX8_store_6 : decode cX8_store 6 = .ok (.aload_n 0, 1) := by decide +kernel
theorem dX8_store_7 : decode cX8_store 7 = .ok (.getfield 54, 3) := by decide +kernel
theorem dX8_store_10 : decode cX8_store 10 = .ok (.isub, 1) := by decide +kernel
theorem dX8_store_11 : decode cX8_store 11 = .ok (.invokestatic 118, 3) := by decide +kernel
theorem dX8_store_14 : decode cX8_store 14 = .ok (.invokestatic 124, 3) := by decide +kernel
theorem dX8_store_17 : decode cX8_store 17 = .ok (.istore_n 2, 1) := by decide +kernel
theorem dX8_store_18 : decode cX8_store 18 = .ok (.aload_n 0, 1) := by decide +kernel
theorem dX8_store_19 : decode cX8_store 19 = .ok (.dup, 1) := by decide +kernel
theorem dX8_store_20 : decode cX8_store 20 = .ok (.getfield 54, 3) := by decide +kernel
theorem dX8_store_23 : decode cX8_store 23 = .ok (.iload_n 2, 1) := by decide +kernel
theorem dX8_store_24 : decode cX8_store 24 = .ok (.iadd, 1) := by decide +kernel
theorem dX8_store_25 : decode cX8_store 25 = .ok (.putfield 54, 3) := by decide +kernel
theorem dX8_store_28 : decode cX8_store 28 = .ok (.aload_n 0, 1) := by decide +kernel
theorem dX8_store_29 : decode cX8_store 29 = .ok (.dup, 1) := by decide +kernel
theorem dX8_store_30 : decode cX8_store 30 = .ok (.getfield 57, 3) := by decide +kernel
theorem dX8_store_33 : decode cX8_store 33 = .ok (.iload_n 1, 1) := by decide +kernel
theorem dX8_store_34 : decode cX8_store 34 = .ok (.iload_n 2, 1) := by decide +kernel
theorem dX8_store_35 : decode cX8_store 35 = .ok (.isub, 1) := by decide +kernel
theorem dX8_store_36 : decode cX8_store 36 = .ok (.iadd, 1) := by decide +kernel
theorem dX8_store_37 : decode cX8_store 37 = .ok (.putfield 57, 3) := by decide +kernel
theorem dX8_store_40 : decode cX8_store 40 = .ok (.return_, 1) := by decide +kernel
theorem dX8_settle_0 : decode cX8_settle 0 = .ok (.iconst 0, 1) := by decide +kernel
theorem dX8_settle_1 : decode cX8_settle 1 = .ok (.istore_n 1, 1) := by decide +kernel
theorem dX8_settle_2 : decode cX8_settle 2 = .ok (.iload_n 1, 1) := by decide +kernel
theorem dX8_settle_3 : decode cX8_settle 3 = .ok (.aload_n 0, 1) := by decide +kernel
theorem dX8_settle_4 : decode cX8_settle 4 = .ok (.getfield 12, 3) := by decide +kernel
theorem dX8_settle_7 : decode cX8_settle 7 = .ok (.getfield 72, 3) := by decide +kernel
theorem dX8_settle_10 : decode cX8_settle 10 = .ok (.if_icmp .ge 54, 3) := by decide +kernel
theorem dX8_settle_13 : decode cX8_settle 13 = .ok (.aload_n 0, 1) := by decide +kernel
theorem dX8_settle_14 : decode cX8_settle 14 = .ok (.getfield 12, 3) := by decide +kernel
theorem dX8_settle_17 : decode cX8_settle 17 = .ok (.getfield 89, 3) := by decide +kernel
theorem dX8_settle_20 : decode cX8_settle 20 = .ok (.iload_n 1, 1) := by decide +kernel
theorem dX8_settle_21 : decode cX8_settle 21 = .ok (.aaload, 1) := by decide +kernel
theorem dX8_settle_22 : decode cX8_settle 22 = .ok (.getfield 127, 3) := by decide +kernel
theorem dX8_settle_25 : decode cX8_settle 25 = .ok (.ifCond .le 33, 3) := by decide +kernel
theorem dX8_settle_28 : decode cX8_settle 28 = .ok (.iconst 0, 1) := by decide +kernel
theorem dX8_settle_29 : decode cX8_settle 29 = .ok (.istore_n 2, 1) := by decide +kernel
theorem dX8_settle_30 : decode cX8_settle 30 = .ok (.iload_n 2, 1) := by decide +kernel
theorem dX8_settle_31 : decode cX8_settle 31 = .ok (.aload_n 0, 1) := by decide +kernel
theorem dX8_settle_32 : decode cX8_settle 32 = .ok (.getfield 12, 3) := by decide +kernel
theorem dX8_settle_35 : decode cX8_settle 35 = .ok (.getfield 72, 3) := by decide +kernel
theorem dX8_settle_38 : decode cX8_settle 38 = .ok (.if_icmp .ge 20, 3) := by decide +kernel
theorem dX8_settle_41 : decode cX8_settle 41 = .ok (.iload_n 2, 1) := by decide +kernel
theorem dX8_settle_42 : decode cX8_settle 42 = .ok (.iload_n 1, 1) := by decide +kernel
theorem dX8_settle_43 : decode cX8_settle 43 = .ok (.if_icmp .eq 9, 3) := by decide +kernel
theorem dX8_settle_46 : decode cX8_settle 46 = .ok (.aload_n 0, 1) := by decide +kernel
theorem dX8_settle_47 : decode cX8_settle 47 = .ok (.iload_n 2, 1) := by decide +kernel
theorem dX8_settle_48 : decode cX8_settle 48 = .ok (.iload_n 1, 1) := by decide +kernel
theorem dX8_settle_49 : decode cX8_settle 49 = .ok (.invokevirtual 130, 3) := by decide +kernel
theorem dX8_settle_52 : decode cX8_settle 52 = .ok (.iinc 2 1, 3) := by decide +kernel
theorem dX8_settle_55 : decode cX8_settle 55 = .ok (.goto (-25), 3) := by decide +kernel
theorem dX8_settle_58 : decode cX8_settle 58 = .ok (.iinc 1 1, 3) := by decide +kernel
theorem dX8_settle_61 : decode cX8_settle 61 = .ok (.goto (-59), 3) := by decide +kernel
theorem dX8_settle_64 : decode cX8_settle 64 = .ok (.return_, 1) := by decide +kernel
theorem dX8_pay_0 : decode cX8_pay 0 = .ok (.aload_n 0, 1) := by decide +kernel
theorem dX8_pay_1 : decode cX8_pay 1 = .ok (.getfield 12, 3) := by decide +kernel
theorem dX8_pay_4 : decode cX8_pay 4 = .ok (.getfield 89, 3) := by decide +kernel
theorem dX8_pay_7 : decode cX8_pay 7 = .ok (.iload_n 1, 1) := by decide +kernel
theorem dX8_pay_8 : decode cX8_pay 8 = .ok (.aaload, 1) := by decide +kernel
theorem dX8_pay_9 : decode cX8_pay 9 = .ok (.astore_n 3, 1) := by decide +kernel
theorem dX8_pay_10 : decode cX8_pay 10 = .ok (.aload_n 0, 1) := by decide +kernel
theorem dX8_pay_11 : decode cX8_pay 11 = .ok (.getfield 12, 3) := by decide +kernel
theorem dX8_pay_14 : decode cX8_pay 14 = .ok (.getfield 89, 3) := by decide +kernel
theorem dX8_pay_17 : decode cX8_pay 17 = .ok (.iload_n 2, 1) := by decide +kernel
theorem dX8_pay_18 : decode cX8_pay 18 = .ok (.aaload, 1) := by decide +kernel
theorem dX8_pay_19 : decode cX8_pay 19 = .ok (.astore 4, 2) := by decide +kernel
theorem dX8_pay_21 : decode cX8_pay 21 = .ok (.aload_n 0, 1) := by decide +kernel
theorem dX8_pay_22 : decode cX8_pay 22 = .ok (.getfield 36, 3) := by decide +kernel
theorem dX8_pay_25 : decode cX8_pay 25 = .ok (.bipush 8, 2) := by decide +kernel
theorem dX8_pay_27 : decode cX8_pay 27 = .ok (.aload 4, 2) := by decide +kernel
theorem dX8_pay_29 : decode cX8_pay 29 = .ok (.getfield 127, 3) := by decide +kernel
theorem dX8_pay_32 : decode cX8_pay 32 = .ok (.iastore, 1) := by decide +kernel
theorem dX8_pay_33 : decode cX8_pay 33 = .ok (.aload_n 0, 1) := by decide +kernel
theorem dX8_pay_34 : decode cX8_pay 34 = .ok (.getfield 36, 3) := by decide +kernel
theorem dX8_pay_37 : decode cX8_pay 37 = .ok (.bipush 9, 2) := by decide +kernel
theorem dX8_pay_39 : decode cX8_pay 39 = .ok (.aload_n 3, 1) := by decide +kernel
theorem dX8_pay_40 : decode cX8_pay 40 = .ok (.getfield 134, 3) := by decide +kernel
theorem dX8_pay_43 : decode cX8_pay 43 = .ok (.iastore, 1) := by decide +kernel
theorem dX8_pay_44 : decode cX8_pay 44 = .ok (.aload_n 0, 1) := by decide +kernel
theorem dX8_pay_45 : decode cX8_pay 45 = .ok (.getfield 36, 3) := by decide +kernel
theorem dX8_pay_48 : decode cX8_pay 48 = .ok (.bipush 10, 2) := by decide +kernel
theorem dX8_pay_50 : decode cX8_pay 50 = .ok (.aload 4, 2) := by decide +kernel
theorem dX8_pay_52 : decode cX8_pay 52 = .ok (.getfield 134, 3) := by decide +kernel
theorem dX8_pay_55 : decode cX8_pay 55 = .ok (.iastore, 1) := by decide +kernel
theorem dX8_pay_56 : decode cX8_pay 56 = .ok (.aload_n 0, 1) := by decide +kernel
theorem dX8_pay_57 : decode cX8_pay 57 = .ok (.getfield 36, 3) := by decide +kernel
theorem dX8_pay_60 : decode cX8_pay 60 = .ok (.bipush 11, 2) := by decide +kernel
theorem dX8_pay_62 : decode cX8_pay 62 = .ok (.aload_n 3, 1) := by decide +kernel
theorem dX8_pay_63 : decode cX8_pay 63 = .ok (.getfield 98, 3) := by decide +kernel
theorem dX8_pay_66 : decode cX8_pay 66 = .ok (.iload_n 2, 1) := by decide +kernel
theorem dX8_pay_67 : decode cX8_pay 67 = .ok (.if_icmp .ne 7, 3) := by decide +kernel
theorem dX8_pay_70 : decode cX8_pay 70 = .ok (.iconst 1, 1) := by decide +kernel
theorem dX8_pay_71 : decode cX8_pay 71 = .ok (.goto 4, 3) := by decide +kernel
theorem dX8_pay_74 : decode cX8_pay 74 = .ok (.iconst 0, 1) := by decide +kernel
theorem dX8_pay_75 : decode cX8_pay 75 = .ok (.iastore, 1) := by decide +kernel
theorem dX8_pay_76 : decode cX8_pay 76 = .ok (.aload_n 0, 1) := by decide +kernel
theorem dX8_pay_77 : decode cX8_pay 77 = .ok (.getfield 36, 3) := by decide +kernel
theorem dX8_pay_80 : decode cX8_pay 80 = .ok (.bipush 12, 2) := by decide +kernel
theorem dX8_pay_82 : decode cX8_pay 82 = .ok (.iload_n 1, 1) := by decide +kernel
theorem dX8_pay_83 : decode cX8_pay 83 = .ok (.iload_n 2, 1) := by decide +kernel
theorem dX8_pay_84 : decode cX8_pay 84 = .ok (.isub, 1) := by decide +kernel
theorem dX8_pay_85 : decode cX8_pay 85 = .ok (.invokestatic 137, 3) := by decide +kernel
theorem dX8_pay_88 : decode cX8_pay 88 = .ok (.iconst 1, 1) := by decide +kernel
theorem dX8_pay_89 : decode cX8_pay 89 = .ok (.isub, 1) := by decide +kernel
theorem dX8_pay_90 : decode cX8_pay 90 = .ok (.iastore, 1) := by decide +kernel
theorem dX8_pay_91 : decode cX8_pay 91 = .ok (.aload_n 0, 1) := by decide +kernel
theorem dX8_pay_92 : decode cX8_pay 92 = .ok (.getfield 36, 3) := by decide +kernel
theorem dX8_pay_95 : decode cX8_pay 95 = .ok (.bipush 13, 2) := by decide +kernel
theorem dX8_pay_97 : decode cX8_pay 97 = .ok (.iload_n 1, 1) := by decide +kernel
theorem dX8_pay_98 : decode cX8_pay 98 = .ok (.iload_n 2, 1) := by decide +kernel
theorem dX8_pay_99 : decode cX8_pay 99 = .ok (.if_icmp .ge 7, 3) := by decide +kernel
theorem dX8_pay_102 : decode cX8_pay 102 = .ok (.iconst 1, 1) := by decide +kernel
theorem dX8_pay_103 : decode cX8_pay 103 = .ok (.goto 4, 3) := by decide +kernel
theorem dX8_pay_106 : decode cX8_pay 106 = .ok (.iconst 0, 1) := by decide +kernel
theorem dX8_pay_107 : decode cX8_pay 107 = .ok (.iastore, 1) := by decide +kernel
theorem dX8_pay_108 : decode cX8_pay 108 = .ok (.aload_n 0, 1) := by decide +kernel
theorem dX8_pay_109 : decode cX8_pay 109 = .ok (.getfield 36, 3) := by decide +kernel
theorem dX8_pay_112 : decode cX8_pay 112 = .ok (.bipush 14, 2) := by decide +kernel
theorem dX8_pay_114 : decode cX8_pay 114 = .ok (.aload_n 3, 1) := by decide +kernel
theorem dX8_pay_115 : decode cX8_pay 115 = .ok (.getfield 93, 3) := by decide +kernel
theorem dX8_pay_118 : decode cX8_pay 118 = .ok (.iastore, 1) := by decide +kernel
theorem dX8_pay_119 : decode cX8_pay 119 = .ok (.aload_n 0, 1) := by decide +kernel
theorem dX8_pay_120 : decode cX8_pay 120 = .ok (.getfield 36, 3) := by decide +kernel
theorem dX8_pay_123 : decode cX8_pay 123 = .ok (.bipush 15, 2) := by decide +kernel
theorem dX8_pay_125 : decode cX8_pay 125 = .ok (.aload_n 3, 1) := by decide +kernel
theorem dX8_pay_126 : decode cX8_pay 126 = .ok (.getfield 140, 3) := by decide +kernel
theorem dX8_pay_129 : decode cX8_pay 129 = .ok (.iastore, 1) := by decide +kernel
theorem dX8_pay_130 : decode cX8_pay 130 = .ok (.aload_n 0, 1) := by decide +kernel
theorem dX8_pay_131 : decode cX8_pay 131 = .ok (.getfield 27, 3) := by decide +kernel
theorem dX8_pay_134 : decode cX8_pay 134 = .ok (.aload_n 0, 1) := by decide +kernel
theorem dX8_pay_135 : decode cX8_pay 135 = .ok (.getfield 36, 3) := by decide +kernel
theorem dX8_pay_138 : decode cX8_pay 138 = .ok (.invokevirtual 143, 3) := by decide +kernel
theorem dX8_pay_141 : decode cX8_pay 141 = .ok (.istore 5, 2) := by decide +kernel
theorem dX8_pay_143 : decode cX8_pay 143 = .ok (.aload_n 3, 1) := by decide +kernel
theorem dX8_pay_144 : decode cX8_pay 144 = .ok (.dup, 1) := by decide +kernel
