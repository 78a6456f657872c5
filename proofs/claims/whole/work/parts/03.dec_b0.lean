theorem dX10_init_0 : decode cX10_init 0 = .ok (.aload_n 0, 1) := by decide +kernel
theorem dX10_init_1 : decode cX10_init 1 = .ok (.invokespecial 3, 3) := by decide +kernel
theorem dX10_init_4 : decode cX10_init 4 = .ok (.aload_n 0, 1) := by decide +kernel
theorem dX10_init_5 : decode cX10_init 5 = .ok (.new 9, 3) := by decide +kernel
theorem dX10_init_8 : decode cX10_init 8 = .ok (.dup, 1) := by decide +kernel
theorem dX10_init_9 : decode cX10_init 9 = .ok (.invokespecial 11, 3) := by decide +kernel
theorem dX10_init_12 : decode cX10_init 12 = .ok (.putfield 12, 3) := by decide +kernel
theorem dX10_init_15 : decode cX10_init 15 = .ok (.aload_n 0, 1) := by decide +kernel
theorem dX10_init_16 : decode cX10_init 16 = .ok (.new 9, 3) := by decide +kernel
theorem dX10_init_19 : decode cX10_init 19 = .ok (.dup, 1) := by decide +kernel
theorem dX10_init_20 : decode cX10_init 20 = .ok (.invokespecial 11, 3) := by decide +kernel
theorem dX10_init_23 : decode cX10_init 23 = .ok (.putfield 16, 3) := by decide +kernel
theorem dX10_init_26 : decode cX10_init 26 = .ok (.aload_n 0, 1) := by decide +kernel
theorem dX10_init_27 : decode cX10_init 27 = .ok (.new 19, 3) := by decide +kernel
theorem dX10_init_30 : decode cX10_init 30 = .ok (.dup, 1) := by decide +kernel
theorem dX10_init_31 : decode cX10_init 31 = .ok (.invokespecial 21, 3) := by decide +kernel
theorem dX10_init_34 : decode cX10_init 34 = .ok (.putfield 22, 3) := by decide +kernel
theorem dX10_init_37 : decode cX10_init 37 = .ok (.aload_n 0, 1) := by decide +kernel
theorem dX10_init_38 : decode cX10_init 38 = .ok (.new 26, 3) := by decide +kernel
theorem dX10_init_41 : decode cX10_init 41 = .ok (.dup, 1) := by decide +kernel
theorem dX10_init_42 : decode cX10_init 42 = .ok (.invokespecial 28, 3) := by decide +kernel
theorem dX10_init_45 : decode cX10_init 45 = .ok (.putfield 29, 3) := by decide +kernel
theorem dX10_init_48 : decode cX10_init 48 = .ok (.aload_n 0, 1) := by decide +kernel
theorem dX10_init_49 : decode cX10_init 49 = .ok (.new 33, 3) := by decide +kernel
theorem dX10_init_52 : decode cX10_init 52 = .ok (.dup, 1) := by decide +kernel
theorem dX10_init_53 : decode cX10_init 53 = .ok (.invokespecial 35, 3) := by decide +kernel
theorem dX10_init_56 : decode cX10_init 56 = .ok (.putfield 36, 3) := by decide +kernel
theorem dX10_init_59 : decode cX10_init 59 = .ok (.aload_n 0, 1) := by decide +kernel
theorem dX10_init_60 : decode cX10_init 60 = .ok (.new 40, 3) := by decide +kernel
theorem dX10_init_63 : decode cX10_init 63 = .ok (.dup, 1) := by decide +kernel
theorem dX10_init_64 : decode cX10_init 64 = .ok (.invokespecial 42, 3) := by decide +kernel
theorem dX10_init_67 : decode cX10_init 67 = .ok (.putfield 43, 3) := by decide +kernel
theorem dX10_init_70 : decode cX10_init 70 = .ok (.aload_n 0, 1) := by decide +kernel
theorem dX10_init_71 : decode cX10_init 71 = .ok (.new 47, 3) := by decide +kernel
theorem dX10_init_74 : decode cX10_init 74 = .ok (.dup, 1) := by decide +kernel
theorem dX10_init_75 : decode cX10_init 75 = .ok (.invokespecial 49, 3) := by decide +kernel
theorem dX10_init_78 : decode cX10_init 78 = .ok (.putfield 50, 3) := by decide +kernel
theorem dX10_init_81 : decode cX10_init 81 = .ok (.aload_n 0, 1) := by decide +kernel
theorem dX10_init_82 : decode cX10_init 82 = .ok (.new 54, 3) := by decide +kernel
theorem dX10_init_85 : decode cX10_init 85 = .ok (.dup, 1) := by decide +kernel
theorem dX10_init_86 : decode cX10_init 86 = .ok (.invokespecial 56, 3) := by decide +kernel
theorem dX10_init_89 : decode cX10_init 89 = .ok (.putfield 57, 3) := by decide +kernel
theorem dX10_init_92 : decode cX10_init 92 = .ok (.aload_n 0, 1) := by decide +kernel
theorem dX10_init_93 : decode cX10_init 93 = .ok (.iconst 0, 1) := by decide +kernel
theorem dX10_init_94 : decode cX10_init 94 = .ok (.putfield 61, 3) := by decide +kernel
theorem dX10_init_97 : decode cX10_init 97 = .ok (.return_, 1) := by decide +kernel
theorem dX10_house_0 : decode cX10_house 0 = .ok (.aload_n 0, 1) := by decide +kernel
theorem dX10_house_1 : decode cX10_house 1 = .ok (.getfield 12, 3) := by decide +kernel
theorem dX10_house_4 : decode cX10_house 4 = .ok (.getfield 65, 3) := by decide +kernel
theorem dX10_house_7 : decode cX10_house 7 = .ok (.getfield 68, 3) := by decide +kernel
theorem dX10_house_10 : decode cX10_house 10 = .ok (.bipush 10, 2) := by decide +kernel
theorem dX10_house_12 : decode cX10_house 12 = .ok (.if_icmp .ge 32, 3) := by decide +kernel
theorem dX10_house_15 : decode cX10_house 15 = .ok (.iload_n 1, 1) := by decide +kernel
theorem dX10_house_16 : decode cX10_house 16 = .ok (.iload_n 2, 1) := by decide +kernel
theorem dX10_house_17 : decode cX10_house 17 = .ok (.invokestatic 72, 3) := by decide +kernel
theorem dX10_house_20 : decode cX10_house 20 = .ok (.ifCond .eq 24, 3) := by decide +kernel
theorem dX10_house_23 : decode cX10_house 23 = .ok (.iload_n 3, 1) := by decide +kernel
theorem dX10_house_24 : decode cX10_house 24 = .ok (.iconst 0, 1) := by decide +kernel
theorem dX10_house_25 : decode cX10_house 25 = .ok (.bipush 10, 2) := by decide +kernel
theorem dX10_house_27 : decode cX10_house 27 = .ok (.invokestatic 76, 3) := by decide +kernel
theorem dX10_house_30 : decode cX10_house 30 = .ok (.ifCond .eq 14, 3) := by decide +kernel
theorem dX10_house_33 : decode cX10_house 33 = .ok (.iload 4, 2) := by decide +kernel
theorem dX10_house_35 : decode cX10_house 35 = .ok (.iconst 0, 1) := by decide +kernel
theorem dX10_house_36 : decode cX10_house 36 = .ok (.bipush 99, 2) := by decide +kernel
theorem dX10_house_38 : decode cX10_house 38 = .ok (.invokestatic 76, 3) := by decide +kernel
theorem dX10_house_41 : decode cX10_house 41 = .ok (.ifCond .ne 5, 3) := by decide +kernel
theorem dX10_house_44 : decode cX10_house 44 = .ok (.iconst (-1), 1) := by decide +kernel
theorem dX10_house_45 : decode cX10_house 45 = .ok (.ireturn, 1) := by decide +kernel
theorem dX10_house_46 : decode cX10_house 46 = .ok (.aload_n 0, 1) := by decide +kernel
theorem dX10_house_47 : decode cX10_house 47 = .ok (.getfield 12, 3) := by decide +kernel
theorem dX10_house_50 : decode cX10_house 50 = .ok (.getfield 65, 3) := by decide +kernel
theorem dX10_house_53 : decode cX10_house 53 = .ok (.getfield 68, 3) := by decide +kernel
theorem dX10_house_56 : decode cX10_house 56 = .ok (.istore 5, 2) := by decide +kernel
theorem dX10_house_58 : decode cX10_house 58 = .ok (.aload_n 0, 1) := by decide +kernel
theorem dX10_house_59 : decode cX10_house 59 = .ok (.getfield 12, 3) := by decide +kernel
theorem dX10_house_62 : decode cX10_house 62 = .ok (.getfield 65, 3) := by decide +kernel
theorem dX10_house_65 : decode cX10_house 65 = .ok (.getfield 80, 3) := by decide +kernel
theorem dX10_house_68 : decode cX10_house 68 = .ok (.iload 5, 2) := by decide +kernel
theorem dX10_house_70 : decode cX10_house 70 = .ok (.aaload, 1) := by decide +kernel
theorem dX10_house_71 : decode cX10_house 71 = .ok (.iload_n 1, 1) := by decide +kernel
theorem dX10_house_72 : decode cX10_house 72 = .ok (.iload_n 2, 1) := by decide +kernel
theorem dX10_house_73 : decode cX10_house 73 = .ok (.iload_n 3, 1) := by decide +kernel
theorem dX10_house_74 : decode cX10_house 74 = .ok (.iload 4, 2) := by decide +kernel
theorem dX10_house_76 : decode cX10_house 76 = .ok (.invokevirtual 84, 3) := by decide +kernel
theorem dX10_house_79 : decode cX10_house 79 = .ok (.aload_n 0, 1) := by decide +kernel
theorem dX10_house_80 : decode cX10_house 80 = .ok (.getfield 12, 3) := by decide +kernel
theorem dX10_house_83 : decode cX10_house 83 = .ok (.getfield 65, 3) := by decide +kernel
theorem dX10_house_86 : decode cX10_house 86 = .ok (.iload 5, 2) := by decide +kernel
theorem dX10_house_88 : decode cX10_house 88 = .ok (.iconst 1, 1) := by decide +kernel
theorem dX10_house_89 : decode cX10_house 89 = .ok (.iadd, 1) := by decide +kernel
theorem dX10_house_90 : decode cX10_house 90 = .ok (.putfield 68, 3) := by decide +kernel
theorem dX10_house_93 : decode cX10_house 93 = .ok (.iload 5, 2) := by decide +kernel
theorem dX10_house_95 : decode cX10_house 95 = .ok (.ireturn, 1) := by decide +kernel
theorem dX10_next_0 : decode cX10_next 0 = .ok (.aload_n 0, 1) := by decide +kernel
theorem dX10_next_1 : decode cX10_next 1 = .ok (.iload_n 1, 1) := by decide +kernel
theorem dX10_next_2 : decode cX10_next 2 = .ok (.invokevirtual 90, 3) := by decide +kernel
theorem dX10_next_5 : decode cX10_next 5 = .ok (.ifCond .eq 21, 3) := by decide +kernel
theorem dX10_next_8 : decode cX10_next 8 = .ok (.iload_n 2, 1) := by decide +kernel
theorem dX10_next_9 : decode cX10_next 9 = .ok (.iconst (-1), 1) := by decide +kernel
theorem dX10_next_10 : decode cX10_next 10 = .ok (.if_icmp .eq 18, 3) := by decide +kernel
theorem dX10_next_13 : decode cX10_next 13 = .ok (.iload_n 2, 1) := by decide +kernel
theorem dX10_next_14 : decode cX10_next 14 = .ok (.iload_n 1, 1) := by decide +kernel
theorem dX10_next_15 : decode cX10_next 15 = .ok (.if_icmp .le 11, 3) := by decide +kernel
theorem dX10_next_18 : decode cX10_next 18 = .ok (.aload_n 0, 1) := by decide +kernel
theorem dX10_next_19 : decode cX10_next 19 = .ok (.iload_n 2, 1) := by decide +kernel
theorem dX10_next_20 : decode cX10_next 20 = .ok (.invokevirtual 90, 3) := by decide +kernel
theorem dX10_next_23 : decode cX10_next 23 = .ok (.ifCond .ne 5, 3) := by decide +kernel
theorem dX10_next_26 : decode cX10_next 26 = .ok (.iconst 0, 1) := by decide +kernel
theorem dX10_next_27 : decode cX10_next 27 = .ok (.ireturn, 1) := by decide +kernel
theorem dX10_next_28 : decode cX10_next 28 = .ok (.aload_n 0, 1) := by decide +kernel
theorem dX10_next_29 : decode cX10_next 29 = .ok (.getfield 12, 3) := by decide +kernel
theorem dX10_next_32 : decode cX10_next 32 = .ok (.getfield 65, 3) := by decide +kernel
theorem dX10_next_35 : decode cX10_next 35 = .ok (.getfield 80, 3) := by decide +kernel
theorem dX10_next_38 : decode cX10_next 38 = .ok (.iload_n 1, 1) := by decide +kernel
theorem dX10_next_39 : decode cX10_next 39 = .ok (.aaload, 1) := by decide +kernel
theorem dX10_next_40 : decode cX10_next 40 = .ok (.iload_n 2, 1) := by decide +kernel
theorem dX10_next_41 : decode cX10_next 41 = .ok (.putfield 94, 3) := by decide +kernel
theorem dX10_next_44 : decode cX10_next 44 = .ok (.iconst 1, 1) := by decide +kernel
theorem dX10_next_45 : decode cX10_next 45 = .ok (.ireturn, 1) := by decide +kernel
theorem dX10_tell_0 : decode cX10_tell 0 = .ok (.iload_n 2, 1) := by decide +kernel
theorem dX10_tell_1 : decode cX10_tell 1 = .ok (.lookupswitch 39 #[(5, 27), (6, 33)], 27) := by decide +kernel
theorem dX10_tell_28 : decode cX10_tell 28 = .ok (.aload_n 0, 1) := by decide +kernel
theorem dX10_tell_29 : decode cX10_tell 29 = .ok (.iload_n 3, 1) := by decide +kernel
theorem dX10_tell_30 : decode cX10_tell 30 = .ok (.invokevirtual 97, 3) := by decide +kernel
theorem dX10_tell_33 : decode cX10_tell 33 = .ok (.ireturn, 1) := by decide +kernel
theorem dX10_tell_34 : decode cX10_tell 34 = .ok (.aload_n 0, 1) := by decide +kernel
theorem dX10_tell_35 : decode cX10_tell 35 = .ok (.iload_n 3, 1) := by decide +kernel
theorem dX10_tell_36 : decode cX10_tell 36 = .ok (.invokevirtual 100, 3) := by decide +kernel
theorem dX10_tell_39 : decode cX10_tell 39 = .ok (.ireturn, 1) := by decide +kernel
theorem dX10_tell_40 : decode cX10_tell 40 = .ok (.aload_n 0, 1) := by decide +kernel
theorem dX10_tell_41 : decode cX10_tell 41 = .ok (.iload_n 1, 1) := by decide +kernel
theorem dX10_tell_42 : decode cX10_tell 42 = .ok (.invokevirtual 90, 3) := by decide +kernel
theorem dX10_tell_45 : decode cX10_tell 45 = .ok (.ifCond .eq 27, 3) := by decide +kernel
theorem dX10_tell_48 : decode cX10_tell 48 = .ok (.aload_n 0, 1) := by decide +kernel
theorem dX10_tell_49 : decode cX10_tell 49 = .ok (.getfield 12, 3) := by decide +kernel
theorem dX10_tell_52 : decode cX10_tell 52 = .ok (.getfield 65, 3) := by decide +kernel
theorem dX10_tell_55 : decode cX10_tell 55 = .ok (.getfield 80, 3) := by decide +kernel
theorem dX10_tell_58 : decode cX10_tell 58 = .ok (.iload_n 1, 1) := by decide +kernel
theorem dX10_tell_59 : decode cX10_tell 59 = .ok (.aaload, 1) := by decide +kernel
theorem dX10_tell_60 : decode cX10_tell 60 = .ok (.iload_n 2, 1) := by decide +kernel
theorem dX10_tell_61 : decode cX10_tell 61 = .ok (.iload_n 3, 1) := by decide +kernel
theorem dX10_tell_62 : decode cX10_tell 62 = .ok (.invokevirtual 103, 3) := by decide +kernel
theorem dX10_tell_65 : decode cX10_tell 65 = .ok (.ifCond .eq 7, 3) := by decide +kernel
theorem dX10_tell_68 : decode cX10_tell 68 = .ok (.iconst 1, 1) := by decide +kernel
theorem dX10_tell_69 : decode cX10_tell 69 = .ok (.goto 4, 3) := by decide +kernel
theorem dX10_tell_72 : decode cX10_tell 72 = .ok (.iconst 0, 1) := by decide +kernel
theorem dX10_tell_73 : decode cX10_tell 73 = .ok (.ireturn, 1) := by decide +kernel
theorem dX10_storm_0 : decode cX10_storm 0 = .ok (.aload_n 0, 1) := by decide +kernel
theorem dX10_storm_1 : decode cX10_storm 1 = .ok (.getfield 12, 3) := by decide +kernel
theorem dX10_storm_4 : decode cX10_storm 4 = .ok (.getfield 106, 3) := by decide +kernel
theorem dX10_storm_7 : decode cX10_storm 7 = .ok (.bipush 10, 2) := by decide +kernel
theorem dX10_storm_9 : decode cX10_storm 9 = .ok (.if_icmp .ge 13, 3) := by decide +kernel
theorem dX10_storm_12 : decode cX10_storm 12 = .ok (.iload_n 1, 1) := by decide +kernel
theorem dX10_storm_13 : decode cX10_storm 13 = .ok (.iconst 1, 1) := by decide +kernel
theorem dX10_storm_14 : decode cX10_storm 14 = .ok (.bipush 12, 2) := by decide +kernel
theorem dX10_storm_16 : decode cX10_storm 16 = .ok (.invokestatic 76, 3) := by decide +kernel
theorem dX10_storm_19 : decode cX10_storm 19 = .ok (.ifCond .ne 5, 3) := by decide +kernel
theorem dX10_storm_22 : decode cX10_storm 22 = .ok (.iconst (-1), 1) := by decide +kernel
theorem dX10_storm_23 : decode cX10_storm 23 = .ok (.ireturn, 1) := by decide +kernel
theorem dX10_storm_24 : decode cX10_storm 24 = .ok (.aload_n 0, 1) := by decide +kernel
theorem dX10_storm_25 : decode cX10_storm 25 = .ok (.getfield 12, 3) := by decide +kernel
theorem dX10_storm_28 : decode cX10_storm 28 = .ok (.getfield 106, 3) := by decide +kernel
theorem dX10_storm_31 : decode cX10_storm 31 = .ok (.istore_n 2, 1) := by decide +kernel
theorem dX10_storm_32 : decode cX10_storm 32 = .ok (.aload_n 0, 1) := by decide +kernel
theorem dX10_storm_33 : decode cX10_storm 33 = .ok (.getfield 12, 3) := by decide +kernel
theorem dX10_storm_36 : decode cX10_storm 36 = .ok (.getfield 109, 3) := by decide +kernel
theorem dX10_storm_39 : decode cX10_storm 39 = .ok (.iload_n 2, 1) := by decide +kernel
theorem dX10_storm_40 : decode cX10_storm 40 = .ok (.aaload, 1) := by decide +kernel
theorem dX10_storm_41 : decode cX10_storm 41 = .ok (.iload_n 1, 1) := by decide +kernel
theorem dX10_storm_42 : decode cX10_storm 42 = .ok (.invokevirtual 113, 3) := by decide +kernel
theorem dX10_storm_45 : decode cX10_storm 45 = .ok (.aload_n 0, 1) := by decide +kernel
theorem dX10_storm_46 : decode cX10_storm 46 = .ok (.getfield 12, 3) := by decide +kernel
theorem dX10_storm_49 : decode cX10_storm 49 = .ok (.iload_n 2, 1) := by decide +kernel
theorem dX10_storm_50 : decode cX10_storm 50 = .ok (.iconst 1, 1) := by decide +kernel
theorem dX10_storm_51 : decode cX10_storm 51 = .ok (.iadd, 1) := by decide +kernel
theorem dX10_storm_52 : decode cX10_storm 52 = .ok (.putfield 106, 3) := by decide +kernel
theorem dX10_storm_55 : decode cX10_storm 55 = .ok (.iload_n 2, 1) := by decide +kernel
theorem dX10_storm_56 : decode cX10_storm 56 = .ok (.ireturn, 1) := by decide +kernel
theorem dX10_fall_0 : decode cX10_fall 0 = .ok (.aload_n 0, 1) := by decide +kernel
theorem dX10_fall_1 : decode cX10_fall 1 = .ok (.iload_n 1, 1) := by decide +kernel
theorem dX10_fall_2 : decode cX10_fall 2 = .ok (.invokevirtual 119, 3) := by decide +kernel
theorem dX10_fall_5 : decode cX10_fall 5 = .ok (.ifCond .eq 13, 3) := by decide +kernel
theorem dX10_fall_8 : decode cX10_fall 8 = .ok (.iload_n 3, 1) := by decide +kernel
theorem dX10_fall_9 : decode cX10_fall 9 = .ok (.iconst 0, 1) := by decide +kernel
theorem dX10_fall_10 : decode cX10_fall 10 = .ok (.bipush 99, 2) := by decide +kernel
theorem dX10_fall_12 : decode cX10_fall 12 = .ok (.invokestatic 76, 3) := by decide +kernel
theorem dX10_fall_15 : decode cX10_fall 15 = .ok (.ifCond .ne 5, 3) := by decide +kernel
theorem dX10_fall_18 : decode cX10_fall 18 = .ok (.iconst 0, 1) := by decide +kernel
theorem dX10_fall_19 : decode cX10_fall 19 = .ok (.ireturn, 1) := by decide +kernel
theorem dX10_fall_20 : decode cX10_fall 20 = .ok (.aload_n 0, 1) := by decide +kernel
theorem dX10_fall_21 : decode cX10_fall 21 = .ok (.getfield 12, 3) := by decide +kernel
theorem dX10_fall_24 : decode cX10_fall 24 = .ok (.getfield 109, 3) := by decide +kernel
theorem dX10_fall_27 : decode cX10_fall 27 = .ok (.iload_n 1, 1) := by decide +kernel
theorem dX10_fall_28 : decode cX10_fall 28 = .ok (.aaload, 1) := by decide +kernel
theorem dX10_fall_29 : decode cX10_fall 29 = .ok (.astore 5, 2) := by decide +kernel
theorem dX10_fall_31 : decode cX10_fall 31 = .ok (.iload_n 2, 1) := by decide +kernel
theorem dX10_fall_32 : decode cX10_fall 32 = .ok (.iconst 0, 1) := by decide +kernel
theorem dX10_fall_33 : decode cX10_fall 33 = .ok (.aload 5, 2) := by decide +kernel
theorem dX10_fall_35 : decode cX10_fall 35 = .ok (.getfield 122, 3) := by decide +kernel
theorem dX10_fall_38 : decode cX10_fall 38 = .ok (.iconst 1, 1) := by decide +kernel
theorem dX10_fall_39 : decode cX10_fall 39 = .ok (.isub, 1) := by decide +kernel
theorem dX10_fall_40 : decode cX10_fall 40 = .ok (.invokestatic 76, 3) := by decide +kernel
theorem dX10_fall_43 : decode cX10_fall 43 = .ok (.ifCond .ne 5, 3) := by decide +kernel
theorem dX10_fall_46 : decode cX10_fall 46 = .ok (.iconst 0, 1) := by decide +kernel
theorem dX10_fall_47 : decode cX10_fall 47 = .ok (.ireturn, 1) := by decide +kernel
theorem dX10_fall_48 : decode cX10_fall 48 = .ok (.aload 5, 2) := by decide +kernel
theorem dX10_fall_50 : decode cX10_fall 50 = .ok (.getfield 125, 3) := by decide +kernel
theorem dX10_fall_53 : decode cX10_fall 53 = .ok (.iload_n 2, 1) := by decide +kernel
theorem dX10_fall_54 : decode cX10_fall 54 = .ok (.iload_n 3, 1) := by decide +kernel
theorem dX10_fall_55 : decode cX10_fall 55 = .ok (.iastore, 1) := by decide +kernel
theorem dX10_fall_56 : decode cX10_fall 56 = .ok (.aload 5, 2) := by decide +kernel
theorem dX10_fall_58 : decode cX10_fall 58 = .ok (.getfield 129, 3) := by decide +kernel
theorem dX10_fall_61 : decode cX10_fall 61 = .ok (.iload_n 2, 1) := by decide +kernel
theorem dX10_fall_62 : decode cX10_fall 62 = .ok (.iload 4, 2) := by decide +kernel
theorem dX10_fall_64 : decode cX10_fall 64 = .ok (.bastore, 1) := by decide +kernel
theorem dX10_fall_65 : decode cX10_fall 65 = .ok (.iconst 1, 1) := by decide +kernel
theorem dX10_fall_66 : decode cX10_fall 66 = .ok (.ireturn, 1) := by decide +kernel
theorem dX10_feed_0 : decode cX10_feed 0 = .ok (.aload_n 0, 1) := by decide +kernel
theorem dX10_feed_1 : decode cX10_feed 1 = .ok (.getfield 29, 3) := by decide +kernel
theorem dX10_feed_4 : decode cX10_feed 4 = .ok (.bipush 20, 2) := by decide +kernel
theorem dX10_feed_6 : decode cX10_feed 6 = .ok (.invokevirtual 133, 3) := by decide +kernel
theorem dX10_feed_9 : decode cX10_feed 9 = .ok (.ifCond .ne 5, 3) := by decide +kernel
theorem dX10_feed_12 : decode cX10_feed 12 = .ok (.iconst (-1), 1) := by decide +kernel
theorem dX10_feed_13 : decode cX10_feed 13 = .ok (.ireturn, 1) := by decide +kernel
theorem dX10_feed_14 : decode cX10_feed 14 = .ok (.aload_n 0, 1) := by decide +kernel
theorem dX10_feed_15 : decode cX10_feed 15 = .ok (.getfield 29, 3) := by decide +kernel
theorem dX10_feed_18 : decode cX10_feed 18 = .ok (.iload_n 1, 1) := by decide +kernel
theorem dX10_feed_19 : decode cX10_feed 19 = .ok (.invokevirtual 136, 3) := by decide +kernel
theorem dX10_feed_22 : decode cX10_feed 22 = .ok (.aload_n 0, 1) := by decide +kernel
theorem dX10_feed_23 : decode cX10_feed 23 = .ok (.getfield 29, 3) := by decide +kernel
theorem dX10_feed_26 : decode cX10_feed 26 = .ok (.iload_n 2, 1) := by decide +kernel
theorem dX10_feed_27 : decode cX10_feed 27 = .ok (.invokevirtual 136, 3) := by decide +kernel
theorem dX10_feed_30 : decode cX10_feed 30 = .ok (.aload_n 0, 1) := by decide +kernel
theorem dX10_feed_31 : decode cX10_feed 31 = .ok (.getfield 29, 3) := by decide +kernel
theorem dX10_feed_34 : decode cX10_feed 34 = .ok (.iload_n 3, 1) := by decide +kernel
theorem dX10_feed_35 : decode cX10_feed 35 = .ok (.invokevirtual 136, 3) := by decide +kernel
theorem dX10_feed_38 : decode cX10_feed 38 = .ok (.aload_n 0, 1) := by decide +kernel
theorem dX10_feed_39 : decode cX10_feed 39 = .ok (.getfield 29, 3) := by decide +kernel
theorem dX10_feed_42 : decode cX10_feed 42 = .ok (.iload 4, 2) := by decide +kernel
theorem dX10_feed_44 : decode cX10_feed 44 = .ok (.invokevirtual 136, 3) := by decide +kernel
theorem dX10_feed_47 : decode cX10_feed 47 = .ok (.aload_n 0, 1) := by decide +kernel
theorem dX10_feed_48 : decode cX10_feed 48 = .ok (.getfield 29, 3) := by decide +kernel
theorem dX10_feed_51 : decode cX10_feed 51 = .ok (.iload 5, 2) := by decide +kernel
theorem dX10_feed_53 : decode cX10_feed 53 = .ok (.invokevirtual 136, 3) := by decide +kernel
theorem dX10_feed_56 : decode cX10_feed 56 = .ok (.aload_n 0, 1) := by decide +kernel
theorem dX10_feed_57 : decode cX10_feed 57 = .ok (.getfield 29, 3) := by decide +kernel
theorem dX10_feed_60 : decode cX10_feed 60 = .ok (.getfield 139, 3) := by decide +kernel
theorem dX10_feed_63 : decode cX10_feed 63 = .ok (.ireturn, 1) := by decide +kernel
theorem dX10_end_0 : decode cX10_end 0 = .ok (.iload_n 1, 1) := by decide +kernel
theorem dX10_end_1 : decode cX10_end 1 = .ok (.iconst 0, 1) := by decide +kernel
theorem dX10_end_2 : decode cX10_end 2 = .ok (.aload_n 0, 1) := by decide +kernel
theorem dX10_end_3 : decode cX10_end 3 = .ok (.getfield 29, 3) := by decide +kernel
theorem dX10_end_6 : decode cX10_end 6 = .ok (.getfield 139, 3) := by decide +kernel
theorem dX10_end_9 : decode cX10_end 9 = .ok (.invokestatic 76, 3) := by decide +kernel
theorem dX10_end_12 : decode cX10_end 12 = .ok (.ifCond .ne 5, 3) := by decide +kernel
theorem dX10_end_15 : decode cX10_end 15 = .ok (.iconst 0, 1) := by decide +kernel
theorem dX10_end_16 : decode cX10_end 16 = .ok (.ireturn, 1) := by decide +kernel
theorem dX10_end_17 : decode cX10_end 17 = .ok (.aload_n 0, 1) := by decide +kernel
theorem dX10_end_18 : decode cX10_end 18 = .ok (.getfield 29, 3) := by decide +kernel
theorem dX10_end_21 : decode cX10_end 21 = .ok (.iload_n 1, 1) := by decide +kernel
theorem dX10_end_22 : decode cX10_end 22 = .ok (.putfield 139, 3) := by decide +kernel
theorem dX10_end_25 : decode cX10_end 25 = .ok (.iconst 1, 1) := by decide +kernel
theorem dX10_end_26 : decode cX10_end 26 = .ok (.ireturn, 1) := by decide +kernel
theorem dX10_text_0 : decode cX10_text 0 = .ok (.aload_n 0, 1) := by decide +kernel
theorem dX10_text_1 : decode cX10_text 1 = .ok (.getfield 36, 3) := by decide +kernel
theorem dX10_text_4 : decode cX10_text 4 = .ok (.aload_n 0, 1) := by decide +kernel
theorem dX10_text_5 : decode cX10_text 5 = .ok (.getfield 29, 3) := by decide +kernel
theorem dX10_text_8 : decode cX10_text 8 = .ok (.invokevirtual 142, 3) := by decide +kernel
theorem dX10_text_11 : decode cX10_text 11 = .ok (.aload_n 0, 1) := by decide +kernel
theorem dX10_text_12 : decode cX10_text 12 = .ok (.getfield 29, 3) := by decide +kernel
theorem dX10_text_15 : decode cX10_text 15 = .ok (.iconst 0, 1) := by decide +kernel
theorem dX10_text_16 : decode cX10_text 16 = .ok (.putfield 139, 3) := by decide +kernel
theorem dX10_text_19 : decode cX10_text 19 = .ok (.aload_n 0, 1) := by decide +kernel
theorem dX10_text_20 : decode cX10_text 20 = .ok (.getfield 36, 3) := by decide +kernel
theorem dX10_text_23 : decode cX10_text 23 = .ok (.getfield 146, 3) := by decide +kernel
theorem dX10_text_26 : decode cX10_text 26 = .ok (.ifCond .eq 5, 3) := by decide +kernel
theorem dX10_text_29 : decode cX10_text 29 = .ok (.iconst (-1), 1) := by decide +kernel
theorem dX10_text_30 : decode cX10_text 30 = .ok (.ireturn, 1) := by decide +kernel
theorem dX10_text_31 : decode cX10_text 31 = .ok (.aload_n 0, 1) := by decide +kernel
theorem dX10_text_32 : decode cX10_text 32 = .ok (.getfield 12, 3) := by decide +kernel
theorem dX10_text_35 : decode cX10_text 35 = .ok (.getfield 149, 3) := by decide +kernel
theorem dX10_text_38 : decode cX10_text 38 = .ok (.aload_n 0, 1) := by decide +kernel
theorem dX10_text_39 : decode cX10_text 39 = .ok (.getfield 36, 3) := by decide +kernel
theorem dX10_text_42 : decode cX10_text 42 = .ok (.getfield 153, 3) := by decide +kernel
theorem dX10_text_45 : decode cX10_text 45 = .ok (.invokevirtual 154, 3) := by decide +kernel
theorem dX10_text_48 : decode cX10_text 48 = .ok (.aload_n 0, 1) := by decide +kernel
theorem dX10_text_49 : decode cX10_text 49 = .ok (.getfield 12, 3) := by decide +kernel
theorem dX10_text_52 : decode cX10_text 52 = .ok (.getfield 149, 3) := by decide +kernel
theorem dX10_text_55 : decode cX10_text 55 = .ok (.getfield 160, 3) := by decide +kernel
theorem dX10_text_58 : decode cX10_text 58 = .ok (.ireturn, 1) := by decide +kernel
theorem dX10_fault_0 : decode cX10_fault 0 = .ok (.iload_n 1, 1) := by decide +kernel
theorem dX10_fault_1 : decode cX10_fault 1 = .ok (.lookupswitch 43 #[(0, 27), (1, 35)], 27) := by decide +kernel
theorem dX10_fault_28 : decode cX10_fault 28 = .ok (.aload_n 0, 1) := by decide +kernel
theorem dX10_fault_29 : decode cX10_fault 29 = .ok (.getfield 36, 3) := by decide +kernel
theorem dX10_fault_32 : decode cX10_fault 32 = .ok (.getfield 146, 3) := by decide +kernel
theorem dX10_fault_35 : decode cX10_fault 35 = .ok (.ireturn, 1) := by decide +kernel
theorem dX10_fault_36 : decode cX10_fault 36 = .ok (.aload_n 0, 1) := by decide +kernel
theorem dX10_fault_37 : decode cX10_fault 37 = .ok (.getfield 36, 3) := by decide +kernel
theorem dX10_fault_40 : decode cX10_fault 40 = .ok (.getfield 163, 3) := by decide +kernel
theorem dX10_fault_43 : decode cX10_fault 43 = .ok (.ireturn, 1) := by decide +kernel
theorem dX10_fault_44 : decode cX10_fault 44 = .ok (.iconst (-1), 1) := by decide +kernel
theorem dX10_fault_45 : decode cX10_fault 45 = .ok (.ireturn, 1) := by decide +kernel
theorem dX10_comes_0 : decode cX10_comes 0 = .ok (.aload_n 0, 1) := by decide +kernel
theorem dX10_comes_1 : decode cX10_comes 1 = .ok (.iload_n 1, 1) := by decide +kernel
theorem dX10_comes_2 : decode cX10_comes 2 = .ok (.invokevirtual 119, 3) := by decide +kernel
theorem dX10_comes_5 : decode cX10_comes 5 = .ok (.ifCond .eq 22, 3) := by decide +kernel
theorem dX10_comes_8 : decode cX10_comes 8 = .ok (.aload_n 0, 1) := by decide +kernel
theorem dX10_comes_9 : decode cX10_comes 9 = .ok (.getfield 12, 3) := by decide +kernel
theorem dX10_comes_12 : decode cX10_comes 12 = .ok (.aload_n 0, 1) := by decide +kernel
theorem dX10_comes_13 : decode cX10_comes 13 = .ok (.getfield 12, 3) := by decide +kernel
theorem dX10_comes_16 : decode cX10_comes 16 = .ok (.getfield 109, 3) := by decide +kernel
theorem dX10_comes_19 : decode cX10_comes 19 = .ok (.iload_n 1, 1) := by decide +kernel
theorem dX10_comes_20 : decode cX10_comes 20 = .ok (.aaload, 1) := by decide +kernel
theorem dX10_comes_21 : decode cX10_comes 21 = .ok (.invokevirtual 166, 3) := by decide +kernel
theorem dX10_comes_24 : decode cX10_comes 24 = .ok (.goto 4, 3) := by decide +kernel
theorem dX10_comes_27 : decode cX10_comes 27 = .ok (.iconst (-1), 1) := by decide +kernel
theorem dX10_comes_28 : decode cX10_comes 28 = .ok (.ireturn, 1) := by decide +kernel
theorem dX10_of_0 : decode cX10_of 0 = .ok (.aload_n 0, 1) := by decide +kernel
theorem dX10_of_1 : decode cX10_of 1 = .ok (.iload_n 1, 1) := by decide +kernel
theorem dX10_of_2 : decode cX10_of 2 = .ok (.invokevirtual 90, 3) := by decide +kernel
theorem dX10_of_5 : decode cX10_of 5 = .ok (.ifCond .eq 22, 3) := by decide +kernel
theorem dX10_of_8 : decode cX10_of 8 = .ok (.aload_n 0, 1) := by decide +kernel
theorem dX10_of_9 : decode cX10_of 9 = .ok (.getfield 12, 3) := by decide +kernel
theorem dX10_of_12 : decode cX10_of 12 = .ok (.getfield 65, 3) := by decide +kernel
theorem dX10_of_15 : decode cX10_of 15 = .ok (.getfield 80, 3) := by decide +kernel
theorem dX10_of_18 : decode cX10_of 18 = .ok (.iload_n 1, 1) := by decide +kernel
theorem dX10_of_19 : decode cX10_of 19 = .ok (.aaload, 1) := by decide +kernel
theorem dX10_of_20 : decode cX10_of 20 = .ok (.iload_n 2, 1) := by decide +kernel
theorem dX10_of_21 : decode cX10_of 21 = .ok (.invokevirtual 170, 3) := by decide +kernel
theorem dX10_of_24 : decode cX10_of 24 = .ok (.goto 5, 3) := by decide +kernel
theorem dX10_of_27 : decode cX10_of 27 = .ok (.ldc 174, 2) := by decide +kernel
theorem dX10_of_29 : decode cX10_of 29 = .ok (.ireturn, 1) := by decide +kernel
theorem dX10_hour_0 : decode cX10_hour 0 = .ok (.iload_n 1, 1) := by decide +kernel
theorem dX10_hour_1 : decode cX10_hour 1 = .ok (.iconst 0, 1) := by decide +kernel
theorem dX10_hour_2 : decode cX10_hour 2 = .ok (.aload_n 0, 1) := by decide +kernel
theorem dX10_hour_3 : decode cX10_hour 3 = .ok (.getfield 12, 3) := by decide +kernel
theorem dX10_hour_6 : decode cX10_hour 6 = .ok (.getfield 175, 3) := by decide +kernel
theorem dX10_hour_9 : decode cX10_hour 9 = .ok (.iconst 1, 1) := by decide +kernel
theorem dX10_hour_10 : decode cX10_hour 10 = .ok (.isub, 1) := by decide +kernel
theorem dX10_hour_11 : decode cX10_hour 11 = .ok (.invokestatic 76, 3) := by decide +kernel
theorem dX10_hour_14 : decode cX10_hour 14 = .ok (.ifCond .eq 20, 3) := by decide +kernel
theorem dX10_hour_17 : decode cX10_hour 17 = .ok (.iload_n 2, 1) := by decide +kernel
theorem dX10_hour_18 : decode cX10_hour 18 = .ok (.iconst 0, 1) := by decide +kernel
theorem dX10_hour_19 : decode cX10_hour 19 = .ok (.aload_n 0, 1) := by decide +kernel
theorem dX10_hour_20 : decode cX10_hour 20 = .ok (.getfield 12, 3) := by decide +kernel
theorem dX10_hour_23 : decode cX10_hour 23 = .ok (.getfield 178, 3) := by decide +kernel
theorem dX10_hour_26 : decode cX10_hour 26 = .ok (.iconst 1, 1) := by decide +kernel
theorem dX10_hour_27 : decode cX10_hour 27 = .ok (.isub, 1) := by decide +kernel
theorem dX10_hour_28 : decode cX10_hour 28 = .ok (.invokestatic 76, 3) := by decide +kernel
theorem dX10_hour_31 : decode cX10_hour 31 = .ok (.ifCond .ne 5, 3) := by decide +kernel
theorem dX10_hour_34 : decode cX10_hour 34 = .ok (.iconst (-1), 1) := by decide +kernel
theorem dX10_hour_35 : decode cX10_hour 35 = .ok (.ireturn, 1) := by decide +kernel
theorem dX10_hour_36 : decode cX10_hour 36 = .ok (.aload_n 0, 1) := by decide +kernel
theorem dX10_hour_37 : decode cX10_hour 37 = .ok (.getfield 12, 3) := by decide +kernel
theorem dX10_hour_40 : decode cX10_hour 40 = .ok (.getfield 65, 3) := by decide +kernel
theorem dX10_hour_43 : decode cX10_hour 43 = .ok (.getfield 80, 3) := by decide +kernel
theorem dX10_hour_46 : decode cX10_hour 46 = .ok (.iload_n 1, 1) := by decide +kernel
theorem dX10_hour_47 : decode cX10_hour 47 = .ok (.aaload, 1) := by decide +kernel
theorem dX10_hour_48 : decode cX10_hour 48 = .ok (.iload_n 2, 1) := by decide +kernel
theorem dX10_hour_49 : decode cX10_hour 49 = .ok (.iload_n 3, 1) := by decide +kernel
theorem dX10_hour_50 : decode cX10_hour 50 = .ok (.invokevirtual 181, 3) := by decide +kernel
theorem dX10_hour_53 : decode cX10_hour 53 = .ok (.ireturn, 1) := by decide +kernel
theorem dX10_blame_0 : decode cX10_blame 0 = .ok (.aload_n 0, 1) := by decide +kernel
theorem dX10_blame_1 : decode cX10_blame 1 = .ok (.iload_n 1, 1) := by decide +kernel
theorem dX10_blame_2 : decode cX10_blame 2 = .ok (.invokevirtual 90, 3) := by decide +kernel
theorem dX10_blame_5 : decode cX10_blame 5 = .ok (.ifCond .eq 35, 3) := by decide +kernel
theorem dX10_blame_8 : decode cX10_blame 8 = .ok (.aload_n 0, 1) := by decide +kernel
theorem dX10_blame_9 : decode cX10_blame 9 = .ok (.iload_n 3, 1) := by decide +kernel
theorem dX10_blame_10 : decode cX10_blame 10 = .ok (.invokevirtual 119, 3) := by decide +kernel
theorem dX10_blame_13 : decode cX10_blame 13 = .ok (.ifCond .eq 27, 3) := by decide +kernel
theorem dX10_blame_16 : decode cX10_blame 16 = .ok (.iload 4, 2) := by decide +kernel
theorem dX10_blame_18 : decode cX10_blame 18 = .ok (.iconst 0, 1) := by decide +kernel
theorem dX10_blame_19 : decode cX10_blame 19 = .ok (.iconst 2, 1) := by decide +kernel
theorem dX10_blame_20 : decode cX10_blame 20 = .ok (.invokestatic 76, 3) := by decide +kernel
theorem dX10_blame_23 : decode cX10_blame 23 = .ok (.ifCond .eq 17, 3) := by decide +kernel
theorem dX10_blame_26 : decode cX10_blame 26 = .ok (.iload 4, 2) := by decide +kernel
theorem dX10_blame_28 : decode cX10_blame 28 = .ok (.iconst 2, 1) := by decide +kernel
theorem dX10_blame_29 : decode cX10_blame 29 = .ok (.if_icmp .eq 15, 3) := by decide +kernel
theorem dX10_blame_32 : decode cX10_blame 32 = .ok (.aload_n 0, 1) := by decide +kernel
theorem dX10_blame_33 : decode cX10_blame 33 = .ok (.iload_n 2, 1) := by decide +kernel
theorem dX10_blame_34 : decode cX10_blame 34 = .ok (.invokevirtual 90, 3) := by decide +kernel
theorem dX10_blame_37 : decode cX10_blame 37 = .ok (.ifCond .ne 7, 3) := by decide +kernel
theorem dX10_blame_40 : decode cX10_blame 40 = .ok (.ldc2_w 185, 3) := by decide +kernel
theorem dX10_blame_43 : decode cX10_blame 43 = .ok (.lreturn, 1) := by decide +kernel
theorem dX10_blame_44 : decode cX10_blame 44 = .ok (.aload_n 0, 1) := by decide +kernel
theorem dX10_blame_45 : decode cX10_blame 45 = .ok (.getfield 43, 3) := by decide +kernel
theorem dX10_blame_48 : decode cX10_blame 48 = .ok (.aload_n 0, 1) := by decide +kernel
theorem dX10_blame_49 : decode cX10_blame 49 = .ok (.getfield 12, 3) := by decide +kernel
theorem dX10_blame_52 : decode cX10_blame 52 = .ok (.getfield 65, 3) := by decide +kernel
theorem dX10_blame_55 : decode cX10_blame 55 = .ok (.invokevirtual 187, 3) := by decide +kernel
theorem dX10_blame_58 : decode cX10_blame 58 = .ok (.ifCond .ne 7, 3) := by decide +kernel
theorem dX10_blame_61 : decode cX10_blame 61 = .ok (.ldc2_w 185, 3) := by decide +kernel
theorem dX10_blame_64 : decode cX10_blame 64 = .ok (.lreturn, 1) := by decide +kernel
theorem dX10_blame_65 : decode cX10_blame 65 = .ok (.iload 4, 2) := by decide +kernel
theorem dX10_blame_67 : decode cX10_blame 67 = .ok (.iconst 2, 1) := by decide +kernel
theorem dX10_blame_68 : decode cX10_blame 68 = .ok (.if_icmp .ne 34, 3) := by decide +kernel
theorem dX10_blame_71 : decode cX10_blame 71 = .ok (.aload_n 0, 1) := by decide +kernel
theorem dX10_blame_72 : decode cX10_blame 72 = .ok (.getfield 43, 3) := by decide +kernel
theorem dX10_blame_75 : decode cX10_blame 75 = .ok (.iconst 0, 1) := by decide +kernel
theorem dX10_blame_76 : decode cX10_blame 76 = .ok (.iload_n 1, 1) := by decide +kernel
theorem dX10_blame_77 : decode cX10_blame 77 = .ok (.aload_n 0, 1) := by decide +kernel
theorem dX10_blame_78 : decode cX10_blame 78 = .ok (.getfield 12, 3) := by decide +kernel
theorem dX10_blame_81 : decode cX10_blame 81 = .ok (.getfield 65, 3) := by decide +kernel
theorem dX10_blame_84 : decode cX10_blame 84 = .ok (.aload_n 0, 1) := by decide +kernel
theorem dX10_blame_85 : decode cX10_blame 85 = .ok (.getfield 22, 3) := by decide +kernel
theorem dX10_blame_88 : decode cX10_blame 88 = .ok (.aload_n 0, 1) := by decide +kernel
theorem dX10_blame_89 : decode cX10_blame 89 = .ok (.getfield 12, 3) := by decide +kernel
theorem dX10_blame_92 : decode cX10_blame 92 = .ok (.getfield 109, 3) := by decide +kernel
theorem dX10_blame_95 : decode cX10_blame 95 = .ok (.iload_n 3, 1) := by decide +kernel
theorem dX10_blame_96 : decode cX10_blame 96 = .ok (.aaload, 1) := by decide +kernel
theorem dX10_blame_97 : decode cX10_blame 97 = .ok (.invokevirtual 191, 3) := by decide +kernel
theorem dX10_blame_100 : decode cX10_blame 100 = .ok (.i2l, 1) := by decide +kernel
theorem dX10_blame_101 : decode cX10_blame 101 = .ok (.lreturn, 1) := by decide +kernel
theorem dX10_blame_102 : decode cX10_blame 102 = .ok (.aload_n 0, 1) := by decide +kernel
theorem dX10_blame_103 : decode cX10_blame 103 = .ok (.getfield 43, 3) := by decide +kernel
theorem dX10_blame_106 : decode cX10_blame 106 = .ok (.iload_n 1, 1) := by decide +kernel
theorem dX10_blame_107 : decode cX10_blame 107 = .ok (.iload_n 2, 1) := by decide +kernel
theorem dX10_blame_108 : decode cX10_blame 108 = .ok (.aload_n 0, 1) := by decide +kernel
theorem dX10_blame_109 : decode cX10_blame 109 = .ok (.getfield 12, 3) := by decide +kernel
theorem dX10_blame_112 : decode cX10_blame 112 = .ok (.getfield 65, 3) := by decide +kernel
theorem dX10_blame_115 : decode cX10_blame 115 = .ok (.aload_n 0, 1) := by decide +kernel
theorem dX10_blame_116 : decode cX10_blame 116 = .ok (.getfield 22, 3) := by decide +kernel
theorem dX10_blame_119 : decode cX10_blame 119 = .ok (.aload_n 0, 1) := by decide +kernel
theorem dX10_blame_120 : decode cX10_blame 120 = .ok (.getfield 12, 3) := by decide +kernel
theorem dX10_blame_123 : decode cX10_blame 123 = .ok (.getfield 109, 3) := by decide +kernel
theorem dX10_blame_126 : decode cX10_blame 126 = .ok (.iload_n 3, 1) := by decide +kernel
theorem dX10_blame_127 : decode cX10_blame 127 = .ok (.aaload, 1) := by decide +kernel
theorem dX10_blame_128 : decode cX10_blame 128 = .ok (.invokevirtual 195, 3) := by decide +kernel
theorem dX10_blame_131 : decode cX10_blame 131 = .ok (.iload 4, 2) := by decide +kernel
theorem dX10_blame_133 : decode cX10_blame 133 = .ok (.ifCond .ne 13, 3) := by decide +kernel
theorem dX10_blame_136 : decode cX10_blame 136 = .ok (.aload_n 0, 1) := by decide +kernel
theorem dX10_blame_137 : decode cX10_blame 137 = .ok (.getfield 43, 3) := by decide +kernel
theorem dX10_blame_140 : decode cX10_blame 140 = .ok (.getfield 199, 3) := by decide +kernel
theorem dX10_blame_143 : decode cX10_blame 143 = .ok (.goto 10, 3) := by decide +kernel
theorem dX10_blame_146 : decode cX10_blame 146 = .ok (.aload_n 0, 1) := by decide +kernel
theorem dX10_blame_147 : decode cX10_blame 147 = .ok (.getfield 43, 3) := by decide +kernel
theorem dX10_blame_150 : decode cX10_blame 150 = .ok (.getfield 203, 3) := by decide +kernel
theorem dX10_blame_153 : decode cX10_blame 153 = .ok (.lreturn, 1) := by decide +kernel
theorem dX10_cleanings_0 : decode cX10_cleanings 0 = .ok (.aload_n 0, 1) := by decide +kernel
theorem dX10_cleanings_1 : decode cX10_cleanings 1 = .ok (.getfield 12, 3) := by decide +kernel
theorem dX10_cleanings_4 : decode cX10_cleanings 4 = .ok (.getfield 65, 3) := by decide +kernel
theorem dX10_cleanings_7 : decode cX10_cleanings 7 = .ok (.getfield 68, 3) := by decide +kernel
theorem dX10_cleanings_10 : decode cX10_cleanings 10 = .ok (.iconst 4, 1) := by decide +kernel
theorem dX10_cleanings_11 : decode cX10_cleanings 11 = .ok (.if_icmp .gt 15, 3) := by decide +kernel
theorem dX10_cleanings_14 : decode cX10_cleanings 14 = .ok (.aload_n 0, 1) := by decide +kernel
theorem dX10_cleanings_15 : decode cX10_cleanings 15 = .ok (.iload_n 1, 1) := by decide +kernel
theorem dX10_cleanings_16 : decode cX10_cleanings 16 = .ok (.iload_n 2, 1) := by decide +kernel
theorem dX10_cleanings_17 : decode cX10_cleanings 17 = .ok (.iload_n 3, 1) := by decide +kernel
theorem dX10_cleanings_18 : decode cX10_cleanings 18 = .ok (.iload 4, 2) := by decide +kernel
theorem dX10_cleanings_20 : decode cX10_cleanings 20 = .ok (.invokevirtual 206, 3) := by decide +kernel
theorem dX10_cleanings_23 : decode cX10_cleanings 23 = .ok (.ifCond .ne 5, 3) := by decide +kernel
theorem dX10_cleanings_26 : decode cX10_cleanings 26 = .ok (.iconst (-1), 1) := by decide +kernel
theorem dX10_cleanings_27 : decode cX10_cleanings 27 = .ok (.ireturn, 1) := by decide +kernel
theorem dX10_cleanings_28 : decode cX10_cleanings 28 = .ok (.iload 5, 2) := by decide +kernel
theorem dX10_cleanings_30 : decode cX10_cleanings 30 = .ok (.bipush 10, 2) := by decide +kernel
theorem dX10_cleanings_32 : decode cX10_cleanings 32 = .ok (.isub, 1) := by decide +kernel
theorem dX10_cleanings_33 : decode cX10_cleanings 33 = .ok (.istore 6, 2) := by decide +kernel
theorem dX10_cleanings_35 : decode cX10_cleanings 35 = .ok (.iload 5, 2) := by decide +kernel
theorem dX10_cleanings_37 : decode cX10_cleanings 37 = .ok (.ifCond .eq 23, 3) := by decide +kernel
theorem dX10_cleanings_40 : decode cX10_cleanings 40 = .ok (.iload 6, 2) := by decide +kernel
theorem dX10_cleanings_42 : decode cX10_cleanings 42 = .ok (.iconst 0, 1) := by decide +kernel
theorem dX10_cleanings_43 : decode cX10_cleanings 43 = .ok (.aload_n 0, 1) := by decide +kernel
theorem dX10_cleanings_44 : decode cX10_cleanings 44 = .ok (.getfield 50, 3) := by decide +kernel
theorem dX10_cleanings_47 : decode cX10_cleanings 47 = .ok (.getfield 210, 3) := by decide +kernel
theorem dX10_cleanings_50 : decode cX10_cleanings 50 = .ok (.iconst 1, 1) := by decide +kernel
theorem dX10_cleanings_51 : decode cX10_cleanings 51 = .ok (.isub, 1) := by decide +kernel
theorem dX10_cleanings_52 : decode cX10_cleanings 52 = .ok (.invokestatic 76, 3) := by decide +kernel
theorem dX10_cleanings_55 : decode cX10_cleanings 55 = .ok (.ifCond .ne 5, 3) := by decide +kernel
theorem dX10_cleanings_58 : decode cX10_cleanings 58 = .ok (.iconst (-1), 1) := by decide +kernel
theorem dX10_cleanings_59 : decode cX10_cleanings 59 = .ok (.ireturn, 1) := by decide +kernel
theorem dX10_cleanings_60 : decode cX10_cleanings 60 = .ok (.aload_n 0, 1) := by decide +kernel
theorem dX10_cleanings_61 : decode cX10_cleanings 61 = .ok (.getfield 50, 3) := by decide +kernel
theorem dX10_cleanings_64 : decode cX10_cleanings 64 = .ok (.aload_n 0, 1) := by decide +kernel
theorem dX10_cleanings_65 : decode cX10_cleanings 65 = .ok (.getfield 12, 3) := by decide +kernel
theorem dX10_cleanings_68 : decode cX10_cleanings 68 = .ok (.aload_n 0, 1) := by decide +kernel
theorem dX10_cleanings_69 : decode cX10_cleanings 69 = .ok (.getfield 22, 3) := by decide +kernel
theorem dX10_cleanings_72 : decode cX10_cleanings 72 = .ok (.invokevirtual 211, 3) := by decide +kernel
theorem dX10_cleanings_75 : decode cX10_cleanings 75 = .ok (.aload_n 0, 1) := by decide +kernel
theorem dX10_cleanings_76 : decode cX10_cleanings 76 = .ok (.getfield 50, 3) := by decide +kernel
theorem dX10_cleanings_79 : decode cX10_cleanings 79 = .ok (.aload_n 0, 1) := by decide +kernel
theorem dX10_cleanings_80 : decode cX10_cleanings 80 = .ok (.getfield 12, 3) := by decide +kernel
theorem dX10_cleanings_83 : decode cX10_cleanings 83 = .ok (.getfield 65, 3) := by decide +kernel
theorem dX10_cleanings_86 : decode cX10_cleanings 86 = .ok (.invokevirtual 215, 3) := by decide +kernel
theorem dX10_cleanings_89 : decode cX10_cleanings 89 = .ok (.ifCond .ne 5, 3) := by decide +kernel
theorem dX10_cleanings_92 : decode cX10_cleanings 92 = .ok (.iconst (-1), 1) := by decide +kernel
theorem dX10_cleanings_93 : decode cX10_cleanings 93 = .ok (.ireturn, 1) := by decide +kernel
theorem dX10_cleanings_94 : decode cX10_cleanings 94 = .ok (.iload 5, 2) := by decide +kernel
theorem dX10_cleanings_96 : decode cX10_cleanings 96 = .ok (.ifCond .ne 13, 3) := by decide +kernel
theorem dX10_cleanings_99 : decode cX10_cleanings 99 = .ok (.aload_n 0, 1) := by decide +kernel
theorem dX10_cleanings_100 : decode cX10_cleanings 100 = .ok (.getfield 50, 3) := by decide +kernel
theorem dX10_cleanings_103 : decode cX10_cleanings 103 = .ok (.getfield 218, 3) := by decide +kernel
theorem dX10_cleanings_106 : decode cX10_cleanings 106 = .ok (.goto 13, 3) := by decide +kernel
theorem dX10_cleanings_109 : decode cX10_cleanings 109 = .ok (.aload_n 0, 1) := by decide +kernel
theorem dX10_cleanings_110 : decode cX10_cleanings 110 = .ok (.getfield 50, 3) := by decide +kernel
theorem dX10_cleanings_113 : decode cX10_cleanings 113 = .ok (.getfield 221, 3) := by decide +kernel
theorem dX10_cleanings_116 : decode cX10_cleanings 116 = .ok (.iload 6, 2) := by decide +kernel
theorem dX10_cleanings_118 : decode cX10_cleanings 118 = .ok (.iaload, 1) := by decide +kernel
theorem dX10_cleanings_119 : decode cX10_cleanings 119 = .ok (.ireturn, 1) := by decide +kernel
theorem dX10_gutters_0 : decode cX10_gutters 0 = .ok (.iload_n 2, 1) := by decide +kernel
theorem dX10_gutters_1 : decode cX10_gutters 1 = .ok (.bipush 10, 2) := by decide +kernel
theorem dX10_gutters_3 : decode cX10_gutters 3 = .ok (.isub, 1) := by decide +kernel
theorem dX10_gutters_4 : decode cX10_gutters 4 = .ok (.istore_n 3, 1) := by decide +kernel
theorem dX10_gutters_5 : decode cX10_gutters 5 = .ok (.aload_n 0, 1) := by decide +kernel
theorem dX10_gutters_6 : decode cX10_gutters 6 = .ok (.iload_n 1, 1) := by decide +kernel
theorem dX10_gutters_7 : decode cX10_gutters 7 = .ok (.invokevirtual 119, 3) := by decide +kernel
theorem dX10_gutters_10 : decode cX10_gutters 10 = .ok (.ifCond .eq 15, 3) := by decide +kernel
theorem dX10_gutters_13 : decode cX10_gutters 13 = .ok (.iload_n 2, 1) := by decide +kernel
theorem dX10_gutters_14 : decode cX10_gutters 14 = .ok (.ifCond .eq 13, 3) := by decide +kernel
theorem dX10_gutters_17 : decode cX10_gutters 17 = .ok (.aload_n 0, 1) := by decide +kernel
theorem dX10_gutters_18 : decode cX10_gutters 18 = .ok (.iload_n 3, 1) := by decide +kernel
theorem dX10_gutters_19 : decode cX10_gutters 19 = .ok (.invokevirtual 90, 3) := by decide +kernel
theorem dX10_gutters_22 : decode cX10_gutters 22 = .ok (.ifCond .ne 5, 3) := by decide +kernel
theorem dX10_gutters_25 : decode cX10_gutters 25 = .ok (.iconst (-1), 1) := by decide +kernel
theorem dX10_gutters_26 : decode cX10_gutters 26 = .ok (.ireturn, 1) := by decide +kernel
theorem dX10_gutters_27 : decode cX10_gutters 27 = .ok (.aload_n 0, 1) := by decide +kernel
theorem dX10_gutters_28 : decode cX10_gutters 28 = .ok (.getfield 22, 3) := by decide +kernel
theorem dX10_gutters_31 : decode cX10_gutters 31 = .ok (.aload_n 0, 1) := by decide +kernel
theorem dX10_gutters_32 : decode cX10_gutters 32 = .ok (.getfield 12, 3) := by decide +kernel
theorem dX10_gutters_35 : decode cX10_gutters 35 = .ok (.getfield 65, 3) := by decide +kernel
theorem dX10_gutters_38 : decode cX10_gutters 38 = .ok (.invokevirtual 224, 3) := by decide +kernel
theorem dX10_gutters_41 : decode cX10_gutters 41 = .ok (.aload_n 0, 1) := by decide +kernel
theorem dX10_gutters_42 : decode cX10_gutters 42 = .ok (.getfield 22, 3) := by decide +kernel
theorem dX10_gutters_45 : decode cX10_gutters 45 = .ok (.invokevirtual 228, 3) := by decide +kernel
theorem dX10_gutters_48 : decode cX10_gutters 48 = .ok (.aload_n 0, 1) := by decide +kernel
theorem dX10_gutters_49 : decode cX10_gutters 49 = .ok (.getfield 22, 3) := by decide +kernel
theorem dX10_gutters_52 : decode cX10_gutters 52 = .ok (.invokevirtual 231, 3) := by decide +kernel
theorem dX10_gutters_55 : decode cX10_gutters 55 = .ok (.aload_n 0, 1) := by decide +kernel
theorem dX10_gutters_56 : decode cX10_gutters 56 = .ok (.getfield 22, 3) := by decide +kernel
theorem dX10_gutters_59 : decode cX10_gutters 59 = .ok (.aload_n 0, 1) := by decide +kernel
theorem dX10_gutters_60 : decode cX10_gutters 60 = .ok (.getfield 12, 3) := by decide +kernel
theorem dX10_gutters_63 : decode cX10_gutters 63 = .ok (.getfield 109, 3) := by decide +kernel
theorem dX10_gutters_66 : decode cX10_gutters 66 = .ok (.iload_n 1, 1) := by decide +kernel
theorem dX10_gutters_67 : decode cX10_gutters 67 = .ok (.aaload, 1) := by decide +kernel
theorem dX10_gutters_68 : decode cX10_gutters 68 = .ok (.bipush 10, 2) := by decide +kernel
theorem dX10_gutters_70 : decode cX10_gutters 70 = .ok (.invokevirtual 234, 3) := by decide +kernel
theorem dX10_gutters_73 : decode cX10_gutters 73 = .ok (.pop, 1) := by decide +kernel
theorem dX10_gutters_74 : decode cX10_gutters 74 = .ok (.iload_n 2, 1) := by decide +kernel
theorem dX10_gutters_75 : decode cX10_gutters 75 = .ok (.ifCond .ne 10, 3) := by decide +kernel
theorem dX10_gutters_78 : decode cX10_gutters 78 = .ok (.aload_n 0, 1) := by decide +kernel
theorem dX10_gutters_79 : decode cX10_gutters 79 = .ok (.invokevirtual 238, 3) := by decide +kernel
theorem dX10_gutters_82 : decode cX10_gutters 82 = .ok (.goto 15, 3) := by decide +kernel
theorem dX10_gutters_85 : decode cX10_gutters 85 = .ok (.aload_n 0, 1) := by decide +kernel
theorem dX10_gutters_86 : decode cX10_gutters 86 = .ok (.getfield 22, 3) := by decide +kernel
theorem dX10_gutters_89 : decode cX10_gutters 89 = .ok (.getfield 80, 3) := by decide +kernel
theorem dX10_gutters_92 : decode cX10_gutters 92 = .ok (.iload_n 3, 1) := by decide +kernel
theorem dX10_gutters_93 : decode cX10_gutters 93 = .ok (.aaload, 1) := by decide +kernel
theorem dX10_gutters_94 : decode cX10_gutters 94 = .ok (.getfield 242, 3) := by decide +kernel
theorem dX10_gutters_97 : decode cX10_gutters 97 = .ok (.ireturn, 1) := by decide +kernel
theorem dX10_stains_0 : decode cX10_stains 0 = .ok (.aload_n 0, 1) := by decide +kernel
theorem dX10_stains_1 : decode cX10_stains 1 = .ok (.getfield 12, 3) := by decide +kernel
theorem dX10_stains_4 : decode cX10_stains 4 = .ok (.getfield 65, 3) := by decide +kernel
theorem dX10_stains_7 : decode cX10_stains 7 = .ok (.getfield 68, 3) := by decide +kernel
theorem dX10_stains_10 : decode cX10_stains 10 = .ok (.bipush 8, 2) := by decide +kernel
theorem dX10_stains_12 : decode cX10_stains 12 = .ok (.if_icmp .gt 34, 3) := by decide +kernel
theorem dX10_stains_15 : decode cX10_stains 15 = .ok (.iload_n 1, 1) := by decide +kernel
theorem dX10_stains_16 : decode cX10_stains 16 = .ok (.iconst 0, 1) := by decide +kernel
theorem dX10_stains_17 : decode cX10_stains 17 = .ok (.iconst 1, 1) := by decide +kernel
theorem dX10_stains_18 : decode cX10_stains 18 = .ok (.aload_n 0, 1) := by decide +kernel
theorem dX10_stains_19 : decode cX10_stains 19 = .ok (.getfield 12, 3) := by decide +kernel
theorem dX10_stains_22 : decode cX10_stains 22 = .ok (.getfield 65, 3) := by decide +kernel
theorem dX10_stains_25 : decode cX10_stains 25 = .ok (.getfield 68, 3) := by decide +kernel
theorem dX10_stains_28 : decode cX10_stains 28 = .ok (.ishl, 1) := by decide +kernel
theorem dX10_stains_29 : decode cX10_stains 29 = .ok (.iconst 1, 1) := by decide +kernel
theorem dX10_stains_30 : decode cX10_stains 30 = .ok (.isub, 1) := by decide +kernel
theorem dX10_stains_31 : decode cX10_stains 31 = .ok (.invokestatic 76, 3) := by decide +kernel
theorem dX10_stains_34 : decode cX10_stains 34 = .ok (.ifCond .eq 12, 3) := by decide +kernel
theorem dX10_stains_37 : decode cX10_stains 37 = .ok (.iload_n 2, 1) := by decide +kernel
theorem dX10_stains_38 : decode cX10_stains 38 = .ok (.iconst 0, 1) := by decide +kernel
theorem dX10_stains_39 : decode cX10_stains 39 = .ok (.iconst 3, 1) := by decide +kernel
theorem dX10_stains_40 : decode cX10_stains 40 = .ok (.invokestatic 76, 3) := by decide +kernel
theorem dX10_stains_43 : decode cX10_stains 43 = .ok (.ifCond .ne 6, 3) := by decide +kernel
theorem dX10_stains_46 : decode cX10_stains 46 = .ok (.bipush (-2), 2) := by decide +kernel
theorem dX10_stains_48 : decode cX10_stains 48 = .ok (.ireturn, 1) := by decide +kernel
theorem dX10_stains_49 : decode cX10_stains 49 = .ok (.aload_n 0, 1) := by decide +kernel
theorem dX10_stains_50 : decode cX10_stains 50 = .ok (.getfield 57, 3) := by decide +kernel
theorem dX10_stains_53 : decode cX10_stains 53 = .ok (.iload_n 1, 1) := by decide +kernel
theorem dX10_stains_54 : decode cX10_stains 54 = .ok (.aload_n 0, 1) := by decide +kernel
theorem dX10_stains_55 : decode cX10_stains 55 = .ok (.getfield 12, 3) := by decide +kernel
theorem dX10_stains_58 : decode cX10_stains 58 = .ok (.aload_n 0, 1) := by decide +kernel
theorem dX10_stains_59 : decode cX10_stains 59 = .ok (.getfield 22, 3) := by decide +kernel
theorem dX10_stains_62 : decode cX10_stains 62 = .ok (.invokevirtual 245, 3) := by decide +kernel
theorem dX10_stains_65 : decode cX10_stains 65 = .ok (.aload_n 0, 1) := by decide +kernel
theorem dX10_stains_66 : decode cX10_stains 66 = .ok (.getfield 57, 3) := by decide +kernel
theorem dX10_stains_69 : decode cX10_stains 69 = .ok (.iload_n 2, 1) := by decide +kernel
theorem dX10_stains_70 : decode cX10_stains 70 = .ok (.invokevirtual 249, 3) := by decide +kernel
theorem dX10_stains_73 : decode cX10_stains 73 = .ok (.ireturn, 1) := by decide +kernel
theorem dX10_drain_0 : decode cX10_drain 0 = .ok (.aload_n 0, 1) := by decide +kernel
theorem dX10_drain_1 : decode cX10_drain 1 = .ok (.iload_n 1, 1) := by decide +kernel
theorem dX10_drain_2 : decode cX10_drain 2 = .ok (.invokevirtual 119, 3) := by decide +kernel
theorem dX10_drain_5 : decode cX10_drain 5 = .ok (.ifCond .ne 5, 3) := by decide +kernel
theorem dX10_drain_8 : decode cX10_drain 8 = .ok (.iconst (-1), 1) := by decide +kernel
theorem dX10_drain_9 : decode cX10_drain 9 = .ok (.ireturn, 1) := by decide +kernel
theorem dX10_drain_10 : decode cX10_drain 10 = .ok (.aload_n 0, 1) := by decide +kernel
theorem dX10_drain_11 : decode cX10_drain 11 = .ok (.getfield 12, 3) := by decide +kernel
theorem dX10_drain_14 : decode cX10_drain 14 = .ok (.getfield 109, 3) := by decide +kernel
theorem dX10_drain_17 : decode cX10_drain 17 = .ok (.iload_n 1, 1) := by decide +kernel
theorem dX10_drain_18 : decode cX10_drain 18 = .ok (.aaload, 1) := by decide +kernel
theorem dX10_drain_19 : decode cX10_drain 19 = .ok (.astore_n 2, 1) := by decide +kernel
theorem dX10_drain_20 : decode cX10_drain 20 = .ok (.iconst (-1), 1) := by decide +kernel
theorem dX10_drain_21 : decode cX10_drain 21 = .ok (.istore_n 3, 1) := by decide +kernel
theorem dX10_drain_22 : decode cX10_drain 22 = .ok (.aload_n 0, 1) := by decide +kernel
theorem dX10_drain_23 : decode cX10_drain 23 = .ok (.aload_n 2, 1) := by decide +kernel
theorem dX10_drain_24 : decode cX10_drain 24 = .ok (.invokevirtual 250, 3) := by decide +kernel
theorem dX10_drain_27 : decode cX10_drain 27 = .ok (.istore 4, 2) := by decide +kernel
theorem dX10_drain_29 : decode cX10_drain 29 = .ok (.iconst 0, 1) := by decide +kernel
theorem dX10_drain_30 : decode cX10_drain 30 = .ok (.istore 5, 2) := by decide +kernel
theorem dX10_drain_32 : decode cX10_drain 32 = .ok (.iload 5, 2) := by decide +kernel
theorem dX10_drain_34 : decode cX10_drain 34 = .ok (.aload_n 0, 1) := by decide +kernel
theorem dX10_drain_35 : decode cX10_drain 35 = .ok (.getfield 12, 3) := by decide +kernel
theorem dX10_drain_38 : decode cX10_drain 38 = .ok (.getfield 65, 3) := by decide +kernel
theorem dX10_drain_41 : decode cX10_drain 41 = .ok (.getfield 68, 3) := by decide +kernel
theorem dX10_drain_44 : decode cX10_drain 44 = .ok (.if_icmp .ge 52, 3) := by decide +kernel
theorem dX10_drain_47 : decode cX10_drain 47 = .ok (.aload_n 0, 1) := by decide +kernel
theorem dX10_drain_48 : decode cX10_drain 48 = .ok (.getfield 12, 3) := by decide +kernel
theorem dX10_drain_51 : decode cX10_drain 51 = .ok (.getfield 65, 3) := by decide +kernel
theorem dX10_drain_54 : decode cX10_drain 54 = .ok (.getfield 80, 3) := by decide +kernel
theorem dX10_drain_57 : decode cX10_drain 57 = .ok (.iload 5, 2) := by decide +kernel
theorem dX10_drain_59 : decode cX10_drain 59 = .ok (.aaload, 1) := by decide +kernel
theorem dX10_drain_60 : decode cX10_drain 60 = .ok (.getfield 94, 3) := by decide +kernel
theorem dX10_drain_63 : decode cX10_drain 63 = .ok (.iconst (-1), 1) := by decide +kernel
theorem dX10_drain_64 : decode cX10_drain 64 = .ok (.if_icmp .eq 26, 3) := by decide +kernel
theorem dX10_drain_67 : decode cX10_drain 67 = .ok (.aload_n 0, 1) := by decide +kernel
theorem dX10_drain_68 : decode cX10_drain 68 = .ok (.iload 5, 2) := by decide +kernel
theorem dX10_drain_70 : decode cX10_drain 70 = .ok (.aload_n 2, 1) := by decide +kernel
theorem dX10_drain_71 : decode cX10_drain 71 = .ok (.invokevirtual 253, 3) := by decide +kernel
theorem dX10_drain_74 : decode cX10_drain 74 = .ok (.istore 6, 2) := by decide +kernel
theorem dX10_drain_76 : decode cX10_drain 76 = .ok (.iload 6, 2) := by decide +kernel
theorem dX10_drain_78 : decode cX10_drain 78 = .ok (.iload 4, 2) := by decide +kernel
theorem dX10_drain_80 : decode cX10_drain 80 = .ok (.if_icmp .ge 10, 3) := by decide +kernel
theorem dX10_drain_83 : decode cX10_drain 83 = .ok (.iload 6, 2) := by decide +kernel
theorem dX10_drain_85 : decode cX10_drain 85 = .ok (.istore 4, 2) := by decide +kernel
theorem dX10_drain_87 : decode cX10_drain 87 = .ok (.iload 5, 2) := by decide +kernel
theorem dX10_drain_89 : decode cX10_drain 89 = .ok (.istore_n 3, 1) := by decide +kernel
theorem dX10_drain_90 : decode cX10_drain 90 = .ok (.iinc 5 1, 3) := by decide +kernel
theorem dX10_drain_93 : decode cX10_drain 93 = .ok (.goto (-61), 3) := by decide +kernel
theorem dX10_drain_96 : decode cX10_drain 96 = .ok (.iload_n 3, 1) := by decide +kernel
theorem dX10_drain_97 : decode cX10_drain 97 = .ok (.ireturn, 1) := by decide +kernel
theorem dX10_added_0 : decode cX10_added 0 = .ok (.aload_n 0, 1) := by decide +kernel
theorem dX10_added_1 : decode cX10_added 1 = .ok (.getfield 12, 3) := by decide +kernel
theorem dX10_added_4 : decode cX10_added 4 = .ok (.getfield 65, 3) := by decide +kernel
theorem dX10_added_7 : decode cX10_added 7 = .ok (.getfield 68, 3) := by decide +kernel
theorem dX10_added_10 : decode cX10_added 10 = .ok (.bipush 10, 2) := by decide +kernel
theorem dX10_added_12 : decode cX10_added 12 = .ok (.if_icmp .ge 38, 3) := by decide +kernel
theorem dX10_added_15 : decode cX10_added 15 = .ok (.iload_n 1, 1) := by decide +kernel
theorem dX10_added_16 : decode cX10_added 16 = .ok (.iconst 0, 1) := by decide +kernel
theorem dX10_added_17 : decode cX10_added 17 = .ok (.aload_n 0, 1) := by decide +kernel
theorem dX10_added_18 : decode cX10_added 18 = .ok (.getfield 12, 3) := by decide +kernel
theorem dX10_added_21 : decode cX10_added 21 = .ok (.getfield 65, 3) := by decide +kernel
theorem dX10_added_24 : decode cX10_added 24 = .ok (.getfield 68, 3) := by decide +kernel
theorem dX10_added_27 : decode cX10_added 27 = .ok (.invokestatic 76, 3) := by decide +kernel
theorem dX10_added_30 : decode cX10_added 30 = .ok (.ifCond .eq 20, 3) := by decide +kernel
theorem dX10_added_33 : decode cX10_added 33 = .ok (.iload_n 2, 1) := by decide +kernel
theorem dX10_added_34 : decode cX10_added 34 = .ok (.iload_n 3, 1) := by decide +kernel
theorem dX10_added_35 : decode cX10_added 35 = .ok (.invokestatic 72, 3) := by decide +kernel
theorem dX10_added_38 : decode cX10_added 38 = .ok (.ifCond .eq 12, 3) := by decide +kernel
theorem dX10_added_41 : decode cX10_added 41 = .ok (.aload_n 0, 1) := by decide +kernel
theorem dX10_added_42 : decode cX10_added 42 = .ok (.iload 4, 2) := by decide +kernel
theorem dX10_added_44 : decode cX10_added 44 = .ok (.invokevirtual 119, 3) := by decide +kernel
theorem dX10_added_47 : decode cX10_added 47 = .ok (.ifCond .ne 6, 3) := by decide +kernel
theorem dX10_added_50 : decode cX10_added 50 = .ok (.ldc 174, 2) := by decide +kernel
theorem dX10_added_52 : decode cX10_added 52 = .ok (.ireturn, 1) := by decide +kernel
theorem dX10_added_53 : decode cX10_added 53 = .ok (.aload_n 0, 1) := by decide +kernel
theorem dX10_added_54 : decode cX10_added 54 = .ok (.getfield 12, 3) := by decide +kernel
theorem dX10_added_57 : decode cX10_added 57 = .ok (.getfield 109, 3) := by decide +kernel
theorem dX10_added_60 : decode cX10_added 60 = .ok (.iload 4, 2) := by decide +kernel
theorem dX10_added_62 : decode cX10_added 62 = .ok (.aaload, 1) := by decide +kernel
theorem dX10_added_63 : decode cX10_added 63 = .ok (.astore 5, 2) := by decide +kernel
theorem dX10_added_65 : decode cX10_added 65 = .ok (.aload_n 0, 1) := by decide +kernel
theorem dX10_added_66 : decode cX10_added 66 = .ok (.aload 5, 2) := by decide +kernel
theorem dX10_added_68 : decode cX10_added 68 = .ok (.invokevirtual 250, 3) := by decide +kernel
theorem dX10_added_71 : decode cX10_added 71 = .ok (.istore 6, 2) := by decide +kernel
theorem dX10_added_73 : decode cX10_added 73 = .ok (.aload_n 0, 1) := by decide +kernel
theorem dX10_added_74 : decode cX10_added 74 = .ok (.getfield 22, 3) := by decide +kernel
theorem dX10_added_77 : decode cX10_added 77 = .ok (.aload_n 0, 1) := by decide +kernel
theorem dX10_added_78 : decode cX10_added 78 = .ok (.getfield 12, 3) := by decide +kernel
theorem dX10_added_81 : decode cX10_added 81 = .ok (.getfield 65, 3) := by decide +kernel
theorem dX10_added_84 : decode cX10_added 84 = .ok (.iload_n 1, 1) := by decide +kernel
theorem dX10_added_85 : decode cX10_added 85 = .ok (.iload_n 2, 1) := by decide +kernel
theorem dX10_added_86 : decode cX10_added 86 = .ok (.iload_n 3, 1) := by decide +kernel
theorem dX10_added_87 : decode cX10_added 87 = .ok (.invokevirtual 257, 3) := by decide +kernel
theorem dX10_added_90 : decode cX10_added 90 = .ok (.aload_n 0, 1) := by decide +kernel
theorem dX10_added_91 : decode cX10_added 91 = .ok (.getfield 22, 3) := by decide +kernel
theorem dX10_added_94 : decode cX10_added 94 = .ok (.aload 5, 2) := by decide +kernel
theorem dX10_added_96 : decode cX10_added 96 = .ok (.bipush 10, 2) := by decide +kernel
theorem dX10_added_98 : decode cX10_added 98 = .ok (.invokevirtual 234, 3) := by decide +kernel
theorem dX10_added_101 : decode cX10_added 101 = .ok (.iload 6, 2) := by decide +kernel
theorem dX10_added_103 : decode cX10_added 103 = .ok (.isub, 1) := by decide +kernel
theorem dX10_added_104 : decode cX10_added 104 = .ok (.ireturn, 1) := by decide +kernel
theorem dX10_image_0 : decode cX10_image 0 = .ok (.iload_n 1, 1) := by decide +kernel
theorem dX10_image_1 : decode cX10_image 1 = .ok (.ifCond .eq 22, 3) := by decide +kernel
theorem dX10_image_4 : decode cX10_image 4 = .ok (.aload_n 0, 1) := by decide +kernel
theorem dX10_image_5 : decode cX10_image 5 = .ok (.getfield 16, 3) := by decide +kernel
theorem dX10_image_8 : decode cX10_image 8 = .ok (.aload_n 0, 1) := by decide +kernel
theorem dX10_image_9 : decode cX10_image 9 = .ok (.getfield 12, 3) := by decide +kernel
theorem dX10_image_12 : decode cX10_image 12 = .ok (.invokevirtual 261, 3) := by decide +kernel
theorem dX10_image_15 : decode cX10_image 15 = .ok (.aload_n 0, 1) := by decide +kernel
theorem dX10_image_16 : decode cX10_image 16 = .ok (.iconst 1, 1) := by decide +kernel
theorem dX10_image_17 : decode cX10_image 17 = .ok (.putfield 61, 3) := by decide +kernel
theorem dX10_image_20 : decode cX10_image 20 = .ok (.goto 21, 3) := by decide +kernel
theorem dX10_image_23 : decode cX10_image 23 = .ok (.aload_n 0, 1) := by decide +kernel
theorem dX10_image_24 : decode cX10_image 24 = .ok (.getfield 61, 3) := by decide +kernel
theorem dX10_image_27 : decode cX10_image 27 = .ok (.ifCond .eq 14, 3) := by decide +kernel
theorem dX10_image_30 : decode cX10_image 30 = .ok (.aload_n 0, 1) := by decide +kernel
theorem dX10_image_31 : decode cX10_image 31 = .ok (.getfield 12, 3) := by decide +kernel
theorem dX10_image_34 : decode cX10_image 34 = .ok (.aload_n 0, 1) := by decide +kernel
theorem dX10_image_35 : decode cX10_image 35 = .ok (.getfield 16, 3) := by decide +kernel
theorem dX10_image_38 : decode cX10_image 38 = .ok (.invokevirtual 261, 3) := by decide +kernel
theorem dX10_image_41 : decode cX10_image 41 = .ok (.aload_n 0, 1) := by decide +kernel
theorem dX10_image_42 : decode cX10_image 42 = .ok (.getfield 61, 3) := by decide +kernel
theorem dX10_image_45 : decode cX10_image 45 = .ok (.ireturn, 1) := by decide +kernel
theorem dX10_look_0 : decode cX10_look 0 = .ok (.iload_n 1, 1) := by decide +kernel
theorem dX10_look_1 : decode cX10_look 1 = .ok (.bipush 10, 2) := by decide +kernel
theorem dX10_look_3 : decode cX10_look 3 = .ok (.bipush 19, 2) := by decide +kernel
theorem dX10_look_5 : decode cX10_look 5 = .ok (.invokestatic 76, 3) := by decide +kernel
theorem dX10_look_8 : decode cX10_look 8 = .ok (.ifCond .eq 33, 3) := by decide +kernel
theorem dX10_look_11 : decode cX10_look 11 = .ok (.iload_n 1, 1) := by decide +kernel
theorem dX10_look_12 : decode cX10_look 12 = .ok (.bipush 10, 2) := by decide +kernel
theorem dX10_look_14 : decode cX10_look 14 = .ok (.isub, 1) := by decide +kernel
theorem dX10_look_15 : decode cX10_look 15 = .ok (.istore_n 2, 1) := by decide +kernel
theorem dX10_look_16 : decode cX10_look 16 = .ok (.aload_n 0, 1) := by decide +kernel
theorem dX10_look_17 : decode cX10_look 17 = .ok (.iload_n 2, 1) := by decide +kernel
theorem dX10_look_18 : decode cX10_look 18 = .ok (.invokevirtual 119, 3) := by decide +kernel
theorem dX10_look_21 : decode cX10_look 21 = .ok (.ifCond .eq 18, 3) := by decide +kernel
theorem dX10_look_24 : decode cX10_look 24 = .ok (.aload_n 0, 1) := by decide +kernel
theorem dX10_look_25 : decode cX10_look 25 = .ok (.getfield 12, 3) := by decide +kernel
theorem dX10_look_28 : decode cX10_look 28 = .ok (.getfield 109, 3) := by decide +kernel
theorem dX10_look_31 : decode cX10_look 31 = .ok (.iload_n 2, 1) := by decide +kernel
theorem dX10_look_32 : decode cX10_look 32 = .ok (.aaload, 1) := by decide +kernel
theorem dX10_look_33 : decode cX10_look 33 = .ok (.getfield 122, 3) := by decide +kernel
theorem dX10_look_36 : decode cX10_look 36 = .ok (.goto 4, 3) := by decide +kernel
theorem dX10_look_39 : decode cX10_look 39 = .ok (.iconst (-1), 1) := by decide +kernel
theorem dX10_look_40 : decode cX10_look 40 = .ok (.ireturn, 1) := by decide +kernel
theorem dX10_look_41 : decode cX10_look 41 = .ok (.iload_n 1, 1) := by decide +kernel
theorem dX10_look_42 : decode cX10_look 42 = .ok (.bipush 100, 2) := by decide +kernel
theorem dX10_look_44 : decode cX10_look 44 = .ok (.sipush 219, 3) := by decide +kernel
theorem dX10_look_47 : decode cX10_look 47 = .ok (.invokestatic 76, 3) := by decide +kernel
theorem dX10_look_50 : decode cX10_look 50 = .ok (.ifCond .eq 43, 3) := by decide +kernel
theorem dX10_look_53 : decode cX10_look 53 = .ok (.iload_n 1, 1) := by decide +kernel
theorem dX10_look_54 : decode cX10_look 54 = .ok (.bipush 100, 2) := by decide +kernel
theorem dX10_look_56 : decode cX10_look 56 = .ok (.isub, 1) := by decide +kernel
theorem dX10_look_57 : decode cX10_look 57 = .ok (.bipush 12, 2) := by decide +kernel
theorem dX10_look_59 : decode cX10_look 59 = .ok (.idiv, 1) := by decide +kernel
theorem dX10_look_60 : decode cX10_look 60 = .ok (.istore_n 2, 1) := by decide +kernel
theorem dX10_look_61 : decode cX10_look 61 = .ok (.aload_n 0, 1) := by decide +kernel
theorem dX10_look_62 : decode cX10_look 62 = .ok (.iload_n 2, 1) := by decide +kernel
theorem dX10_look_63 : decode cX10_look 63 = .ok (.invokevirtual 119, 3) := by decide +kernel
theorem dX10_look_66 : decode cX10_look 66 = .ok (.ifCond .eq 25, 3) := by decide +kernel
theorem dX10_look_69 : decode cX10_look 69 = .ok (.aload_n 0, 1) := by decide +kernel
theorem dX10_look_70 : decode cX10_look 70 = .ok (.getfield 12, 3) := by decide +kernel
theorem dX10_look_73 : decode cX10_look 73 = .ok (.getfield 109, 3) := by decide +kernel
theorem dX10_look_76 : decode cX10_look 76 = .ok (.iload_n 2, 1) := by decide +kernel
theorem dX10_look_77 : decode cX10_look 77 = .ok (.aaload, 1) := by decide +kernel
theorem dX10_look_78 : decode cX10_look 78 = .ok (.iload_n 1, 1) := by decide +kernel
theorem dX10_look_79 : decode cX10_look 79 = .ok (.bipush 100, 2) := by decide +kernel
theorem dX10_look_81 : decode cX10_look 81 = .ok (.isub, 1) := by decide +kernel
theorem dX10_look_82 : decode cX10_look 82 = .ok (.bipush 12, 2) := by decide +kernel
theorem dX10_look_84 : decode cX10_look 84 = .ok (.irem, 1) := by decide +kernel
theorem dX10_look_85 : decode cX10_look 85 = .ok (.invokevirtual 264, 3) := by decide +kernel
theorem dX10_look_88 : decode cX10_look 88 = .ok (.goto 4, 3) := by decide +kernel
theorem dX10_look_91 : decode cX10_look 91 = .ok (.iconst (-1), 1) := by decide +kernel
theorem dX10_look_92 : decode cX10_look 92 = .ok (.ireturn, 1) := by decide +kernel
theorem dX10_look_93 : decode cX10_look 93 = .ok (.aload_n 0, 1) := by decide +kernel
theorem dX10_look_94 : decode cX10_look 94 = .ok (.getfield 12, 3) := by decide +kernel
theorem dX10_look_97 : decode cX10_look 97 = .ok (.iload_n 1, 1) := by decide +kernel
theorem dX10_look_98 : decode cX10_look 98 = .ok (.invokevirtual 265, 3) := by decide +kernel
theorem dX10_look_101 : decode cX10_look 101 = .ok (.ireturn, 1) := by decide +kernel
theorem dX10_within_0 : decode cX10_within 0 = .ok (.iload_n 0, 1) := by decide +kernel
theorem dX10_within_1 : decode cX10_within 1 = .ok (.iload_n 1, 1) := by decide +kernel
theorem dX10_within_2 : decode cX10_within 2 = .ok (.if_icmp .lt 12, 3) := by decide +kernel
theorem dX10_within_5 : decode cX10_within 5 = .ok (.iload_n 0, 1) := by decide +kernel
theorem dX10_within_6 : decode cX10_within 6 = .ok (.iload_n 2, 1) := by decide +kernel
theorem dX10_within_7 : decode cX10_within 7 = .ok (.if_icmp .gt 7, 3) := by decide +kernel
theorem dX10_within_10 : decode cX10_within 10 = .ok (.iconst 1, 1) := by decide +kernel
theorem dX10_within_11 : decode cX10_within 11 = .ok (.goto 4, 3) := by decide +kernel
theorem dX10_within_14 : decode cX10_within 14 = .ok (.iconst 0, 1) := by decide +kernel
theorem dX10_within_15 : decode cX10_within 15 = .ok (.ireturn, 1) := by decide +kernel
theorem dX10_canStand_0 : decode cX10_canStand 0 = .ok (.iload_n 0, 1) := by decide +kernel
theorem dX10_canStand_1 : decode cX10_canStand 1 = .ok (.iconst 1, 1) := by decide +kernel
theorem dX10_canStand_2 : decode cX10_canStand 2 = .ok (.bipush 99, 2) := by decide +kernel
theorem dX10_canStand_4 : decode cX10_canStand 4 = .ok (.invokestatic 76, 3) := by decide +kernel
theorem dX10_canStand_7 : decode cX10_canStand 7 = .ok (.ifCond .eq 18, 3) := by decide +kernel
theorem dX10_canStand_10 : decode cX10_canStand 10 = .ok (.iload_n 1, 1) := by decide +kernel
theorem dX10_canStand_11 : decode cX10_canStand 11 = .ok (.iconst 0, 1) := by decide +kernel
theorem dX10_canStand_12 : decode cX10_canStand 12 = .ok (.sipush 9999, 3) := by decide +kernel
theorem dX10_canStand_15 : decode cX10_canStand 15 = .ok (.invokestatic 76, 3) := by decide +kernel
theorem dX10_canStand_18 : decode cX10_canStand 18 = .ok (.ifCond .eq 7, 3) := by decide +kernel
theorem dX10_canStand_21 : decode cX10_canStand 21 = .ok (.iconst 1, 1) := by decide +kernel
theorem dX10_canStand_22 : decode cX10_canStand 22 = .ok (.goto 4, 3) := by decide +kernel
theorem dX10_canStand_25 : decode cX10_canStand 25 = .ok (.iconst 0, 1) := by decide +kernel
theorem dX10_canStand_26 : decode cX10_canStand 26 = .ok (.ireturn, 1) := by decide +kernel
theorem dX10_isHouse_0 : decode cX10_isHouse 0 = .ok (.iload_n 1, 1) := by decide +kernel
theorem dX10_isHouse_1 : decode cX10_isHouse 1 = .ok (.iconst 0, 1) := by decide +kernel
theorem dX10_isHouse_2 : decode cX10_isHouse 2 = .ok (.aload_n 0, 1) := by decide +kernel
theorem dX10_isHouse_3 : decode cX10_isHouse 3 = .ok (.getfield 12, 3) := by decide +kernel
theorem dX10_isHouse_6 : decode cX10_isHouse 6 = .ok (.getfield 65, 3) := by decide +kernel
theorem dX10_isHouse_9 : decode cX10_isHouse 9 = .ok (.getfield 68, 3) := by decide +kernel
theorem dX10_isHouse_12 : decode cX10_isHouse 12 = .ok (.iconst 1, 1) := by decide +kernel
theorem dX10_isHouse_13 : decode cX10_isHouse 13 = .ok (.isub, 1) := by decide +kernel
theorem dX10_isHouse_14 : decode cX10_isHouse 14 = .ok (.invokestatic 76, 3) := by decide +kernel
theorem dX10_isHouse_17 : decode cX10_isHouse 17 = .ok (.ireturn, 1) := by decide +kernel
theorem dX10_isStorm_0 : decode cX10_isStorm 0 = .ok (.iload_n 1, 1) := by decide +kernel
theorem dX10_isStorm_1 : decode cX10_isStorm 1 = .ok (.iconst 0, 1) := by decide +kernel
theorem dX10_isStorm_2 : decode cX10_isStorm 2 = .ok (.aload_n 0, 1) := by decide +kernel
theorem dX10_isStorm_3 : decode cX10_isStorm 3 = .ok (.getfield 12, 3) := by decide +kernel
theorem dX10_isStorm_6 : decode cX10_isStorm 6 = .ok (.getfield 106, 3) := by decide +kernel
theorem dX10_isStorm_9 : decode cX10_isStorm 9 = .ok (.iconst 1, 1) := by decide +kernel
theorem dX10_isStorm_10 : decode cX10_isStorm 10 = .ok (.isub, 1) := by decide +kernel
theorem dX10_isStorm_11 : decode cX10_isStorm 11 = .ok (.invokestatic 76, 3) := by decide +kernel
theorem dX10_isStorm_14 : decode cX10_isStorm 14 = .ok (.ireturn, 1) := by decide +kernel
theorem dX10_tellSize_0 : decode cX10_tellSize 0 = .ok (.iload_n 1, 1) := by decide +kernel
theorem dX10_tellSize_1 : decode cX10_tellSize 1 = .ok (.iconst 0, 1) := by decide +kernel
theorem dX10_tellSize_2 : decode cX10_tellSize 2 = .ok (.ldc_w 266, 3) := by decide +kernel
theorem dX10_tellSize_5 : decode cX10_tellSize 5 = .ok (.invokestatic 76, 3) := by decide +kernel
theorem dX10_tellSize_8 : decode cX10_tellSize 8 = .ok (.ifCond .ne 5, 3) := by decide +kernel
theorem dX10_tellSize_11 : decode cX10_tellSize 11 = .ok (.iconst 0, 1) := by decide +kernel
theorem dX10_tellSize_12 : decode cX10_tellSize 12 = .ok (.ireturn, 1) := by decide +kernel
theorem dX10_tellSize_13 : decode cX10_tellSize 13 = .ok (.aload_n 0, 1) := by decide +kernel
theorem dX10_tellSize_14 : decode cX10_tellSize 14 = .ok (.getfield 12, 3) := by decide +kernel
theorem dX10_tellSize_17 : decode cX10_tellSize 17 = .ok (.iload_n 1, 1) := by decide +kernel
theorem dX10_tellSize_18 : decode cX10_tellSize 18 = .ok (.putfield 267, 3) := by decide +kernel
theorem dX10_tellSize_21 : decode cX10_tellSize 21 = .ok (.iconst 1, 1) := by decide +kernel
theorem dX10_tellSize_22 : decode cX10_tellSize 22 = .ok (.ireturn, 1) := by decide +kernel
theorem dX10_tellThaw_0 : decode cX10_tellThaw 0 = .ok (.iload_n 1, 1) := by decide +kernel
theorem dX10_tellThaw_1 : decode cX10_tellThaw 1 = .ok (.iconst 0, 1) := by decide +kernel
theorem dX10_tellThaw_2 : decode cX10_tellThaw 2 = .ok (.bipush 9, 2) := by decide +kernel
theorem dX10_tellThaw_4 : decode cX10_tellThaw 4 = .ok (.invokestatic 76, 3) := by decide +kernel
theorem dX10_tellThaw_7 : decode cX10_tellThaw 7 = .ok (.ifCond .ne 5, 3) := by decide +kernel
theorem dX10_tellThaw_10 : decode cX10_tellThaw 10 = .ok (.iconst 0, 1) := by decide +kernel
theorem dX10_tellThaw_11 : decode cX10_tellThaw 11 = .ok (.ireturn, 1) := by decide +kernel
theorem dX10_tellThaw_12 : decode cX10_tellThaw 12 = .ok (.aload_n 0, 1) := by decide +kernel
theorem dX10_tellThaw_13 : decode cX10_tellThaw 13 = .ok (.getfield 12, 3) := by decide +kernel
theorem dX10_tellThaw_16 : decode cX10_tellThaw 16 = .ok (.getfield 65, 3) := by decide +kernel
theorem dX10_tellThaw_19 : decode cX10_tellThaw 19 = .ok (.iload_n 1, 1) := by decide +kernel
theorem dX10_tellThaw_20 : decode cX10_tellThaw 20 = .ok (.putfield 270, 3) := by decide +kernel
theorem dX10_tellThaw_23 : decode cX10_tellThaw 23 = .ok (.iconst 1, 1) := by decide +kernel
theorem dX10_tellThaw_24 : decode cX10_tellThaw 24 = .ok (.ireturn, 1) := by decide +kernel
theorem dX10_planStorms_0 : decode cX10_planStorms 0 = .ok (.aload_n 0, 1) := by decide +kernel
theorem dX10_planStorms_1 : decode cX10_planStorms 1 = .ok (.getfield 50, 3) := by decide +kernel
theorem dX10_planStorms_4 : decode cX10_planStorms 4 = .ok (.iconst 0, 1) := by decide +kernel
theorem dX10_planStorms_5 : decode cX10_planStorms 5 = .ok (.putfield 210, 3) := by decide +kernel
theorem dX10_planStorms_8 : decode cX10_planStorms 8 = .ok (.aload_n 0, 1) := by decide +kernel
theorem dX10_planStorms_9 : decode cX10_planStorms 9 = .ok (.iload_n 1, 1) := by decide +kernel
theorem dX10_planStorms_10 : decode cX10_planStorms 10 = .ok (.invokevirtual 273, 3) := by decide +kernel
theorem dX10_planStorms_13 : decode cX10_planStorms 13 = .ok (.ifCond .eq 48, 3) := by decide +kernel
theorem dX10_planStorms_16 : decode cX10_planStorms 16 = .ok (.iload_n 2, 1) := by decide +kernel
theorem dX10_planStorms_17 : decode cX10_planStorms 17 = .ok (.iconst (-1), 1) := by decide +kernel
theorem dX10_planStorms_18 : decode cX10_planStorms 18 = .ok (.if_icmp .eq 39, 3) := by decide +kernel
theorem dX10_planStorms_21 : decode cX10_planStorms 21 = .ok (.aload_n 0, 1) := by decide +kernel
theorem dX10_planStorms_22 : decode cX10_planStorms 22 = .ok (.iload_n 2, 1) := by decide +kernel
theorem dX10_planStorms_23 : decode cX10_planStorms 23 = .ok (.invokevirtual 273, 3) := by decide +kernel
theorem dX10_planStorms_26 : decode cX10_planStorms 26 = .ok (.ifCond .eq 35, 3) := by decide +kernel
theorem dX10_planStorms_29 : decode cX10_planStorms 29 = .ok (.iload_n 3, 1) := by decide +kernel
theorem dX10_planStorms_30 : decode cX10_planStorms 30 = .ok (.iconst (-1), 1) := by decide +kernel
theorem dX10_planStorms_31 : decode cX10_planStorms 31 = .ok (.if_icmp .eq 26, 3) := by decide +kernel
theorem dX10_planStorms_34 : decode cX10_planStorms 34 = .ok (.aload_n 0, 1) := by decide +kernel
theorem dX10_planStorms_35 : decode cX10_planStorms 35 = .ok (.iload_n 3, 1) := by decide +kernel
theorem dX10_planStorms_36 : decode cX10_planStorms 36 = .ok (.invokevirtual 273, 3) := by decide +kernel
theorem dX10_planStorms_39 : decode cX10_planStorms 39 = .ok (.ifCond .eq 22, 3) := by decide +kernel
theorem dX10_planStorms_42 : decode cX10_planStorms 42 = .ok (.iload 4, 2) := by decide +kernel
theorem dX10_planStorms_44 : decode cX10_planStorms 44 = .ok (.iconst (-1), 1) := by decide +kernel
theorem dX10_planStorms_45 : decode cX10_planStorms 45 = .ok (.if_icmp .eq 12, 3) := by decide +kernel
theorem dX10_planStorms_48 : decode cX10_planStorms 48 = .ok (.aload_n 0, 1) := by decide +kernel
theorem dX10_planStorms_49 : decode cX10_planStorms 49 = .ok (.iload 4, 2) := by decide +kernel
theorem dX10_planStorms_51 : decode cX10_planStorms 51 = .ok (.invokevirtual 273, 3) := by decide +kernel
theorem dX10_planStorms_54 : decode cX10_planStorms 54 = .ok (.ifCond .eq 7, 3) := by decide +kernel
theorem dX10_planStorms_57 : decode cX10_planStorms 57 = .ok (.iconst 1, 1) := by decide +kernel
theorem dX10_planStorms_58 : decode cX10_planStorms 58 = .ok (.goto 4, 3) := by decide +kernel
theorem dX10_planStorms_61 : decode cX10_planStorms 61 = .ok (.iconst 0, 1) := by decide +kernel
theorem dX10_planStorms_62 : decode cX10_planStorms 62 = .ok (.ireturn, 1) := by decide +kernel
theorem dX10_planStorm_0 : decode cX10_planStorm 0 = .ok (.aload_n 0, 1) := by decide +kernel
theorem dX10_planStorm_1 : decode cX10_planStorm 1 = .ok (.iload_n 1, 1) := by decide +kernel
theorem dX10_planStorm_2 : decode cX10_planStorm 2 = .ok (.invokevirtual 119, 3) := by decide +kernel
theorem dX10_planStorm_5 : decode cX10_planStorm 5 = .ok (.ifCond .eq 14, 3) := by decide +kernel
theorem dX10_planStorm_8 : decode cX10_planStorm 8 = .ok (.aload_n 0, 1) := by decide +kernel
theorem dX10_planStorm_9 : decode cX10_planStorm 9 = .ok (.getfield 50, 3) := by decide +kernel
theorem dX10_planStorm_12 : decode cX10_planStorm 12 = .ok (.getfield 210, 3) := by decide +kernel
theorem dX10_planStorm_15 : decode cX10_planStorm 15 = .ok (.iconst 4, 1) := by decide +kernel
theorem dX10_planStorm_16 : decode cX10_planStorm 16 = .ok (.if_icmp .lt 5, 3) := by decide +kernel
theorem dX10_planStorm_19 : decode cX10_planStorm 19 = .ok (.iconst 0, 1) := by decide +kernel
theorem dX10_planStorm_20 : decode cX10_planStorm 20 = .ok (.ireturn, 1) := by decide +kernel
theorem dX10_planStorm_21 : decode cX10_planStorm 21 = .ok (.aload_n 0, 1) := by decide +kernel
theorem dX10_planStorm_22 : decode cX10_planStorm 22 = .ok (.getfield 50, 3) := by decide +kernel
theorem dX10_planStorm_25 : decode cX10_planStorm 25 = .ok (.getfield 276, 3) := by decide +kernel
theorem dX10_planStorm_28 : decode cX10_planStorm 28 = .ok (.aload_n 0, 1) := by decide +kernel
theorem dX10_planStorm_29 : decode cX10_planStorm 29 = .ok (.getfield 50, 3) := by decide +kernel
theorem dX10_planStorm_32 : decode cX10_planStorm 32 = .ok (.getfield 210, 3) := by decide +kernel
theorem dX10_planStorm_35 : decode cX10_planStorm 35 = .ok (.iload_n 1, 1) := by decide +kernel
theorem dX10_planStorm_36 : decode cX10_planStorm 36 = .ok (.iastore, 1) := by decide +kernel
theorem dX10_planStorm_37 : decode cX10_planStorm 37 = .ok (.aload_n 0, 1) := by decide +kernel
theorem dX10_planStorm_38 : decode cX10_planStorm 38 = .ok (.getfield 50, 3) := by decide +kernel
theorem dX10_planStorm_41 : decode cX10_planStorm 41 = .ok (.dup, 1) := by decide +kernel
theorem dX10_planStorm_42 : decode cX10_planStorm 42 = .ok (.getfield 210, 3) := by decide +kernel
theorem dX10_planStorm_45 : decode cX10_planStorm 45 = .ok (.iconst 1, 1) := by decide +kernel
theorem dX10_planStorm_46 : decode cX10_planStorm 46 = .ok (.iadd, 1) := by decide +kernel
theorem dX10_planStorm_47 : decode cX10_planStorm 47 = .ok (.putfield 210, 3) := by decide +kernel
theorem dX10_planStorm_50 : decode cX10_planStorm 50 = .ok (.iconst 1, 1) := by decide +kernel
theorem dX10_planStorm_51 : decode cX10_planStorm 51 = .ok (.ireturn, 1) := by decide +kernel
theorem dX10_widerPrice_0 : decode cX10_widerPrice 0 = .ok (.iconst 0, 1) := by decide +kernel
theorem dX10_widerPrice_1 : decode cX10_widerPrice 1 = .ok (.istore_n 1, 1) := by decide +kernel
theorem dX10_widerPrice_2 : decode cX10_widerPrice 2 = .ok (.iconst 0, 1) := by decide +kernel
theorem dX10_widerPrice_3 : decode cX10_widerPrice 3 = .ok (.istore_n 2, 1) := by decide +kernel
theorem dX10_widerPrice_4 : decode cX10_widerPrice 4 = .ok (.iload_n 2, 1) := by decide +kernel
theorem dX10_widerPrice_5 : decode cX10_widerPrice 5 = .ok (.aload_n 0, 1) := by decide +kernel
theorem dX10_widerPrice_6 : decode cX10_widerPrice 6 = .ok (.getfield 12, 3) := by decide +kernel
theorem dX10_widerPrice_9 : decode cX10_widerPrice 9 = .ok (.getfield 65, 3) := by decide +kernel
theorem dX10_widerPrice_12 : decode cX10_widerPrice 12 = .ok (.getfield 68, 3) := by decide +kernel
theorem dX10_widerPrice_15 : decode cX10_widerPrice 15 = .ok (.if_icmp .ge 51, 3) := by decide +kernel
theorem dX10_widerPrice_18 : decode cX10_widerPrice 18 = .ok (.aload_n 0, 1) := by decide +kernel
theorem dX10_widerPrice_19 : decode cX10_widerPrice 19 = .ok (.getfield 12, 3) := by decide +kernel
theorem dX10_widerPrice_22 : decode cX10_widerPrice 22 = .ok (.getfield 65, 3) := by decide +kernel
theorem dX10_widerPrice_25 : decode cX10_widerPrice 25 = .ok (.getfield 80, 3) := by decide +kernel
theorem dX10_widerPrice_28 : decode cX10_widerPrice 28 = .ok (.iload_n 2, 1) := by decide +kernel
theorem dX10_widerPrice_29 : decode cX10_widerPrice 29 = .ok (.aaload, 1) := by decide +kernel
theorem dX10_widerPrice_30 : decode cX10_widerPrice 30 = .ok (.astore_n 3, 1) := by decide +kernel
theorem dX10_widerPrice_31 : decode cX10_widerPrice 31 = .ok (.iload_n 1, 1) := by decide +kernel
theorem dX10_widerPrice_32 : decode cX10_widerPrice 32 = .ok (.aload_n 3, 1) := by decide +kernel
theorem dX10_widerPrice_33 : decode cX10_widerPrice 33 = .ok (.getfield 278, 3) := by decide +kernel
theorem dX10_widerPrice_36 : decode cX10_widerPrice 36 = .ok (.iconst 0, 1) := by decide +kernel
theorem dX10_widerPrice_37 : decode cX10_widerPrice 37 = .ok (.aload_n 0, 1) := by decide +kernel
theorem dX10_widerPrice_38 : decode cX10_widerPrice 38 = .ok (.getfield 22, 3) := by decide +kernel
theorem dX10_widerPrice_41 : decode cX10_widerPrice 41 = .ok (.getfield 80, 3) := by decide +kernel
theorem dX10_widerPrice_44 : decode cX10_widerPrice 44 = .ok (.iload_n 2, 1) := by decide +kernel
theorem dX10_widerPrice_45 : decode cX10_widerPrice 45 = .ok (.aaload, 1) := by decide +kernel
theorem dX10_widerPrice_46 : decode cX10_widerPrice 46 = .ok (.getfield 242, 3) := by decide +kernel
theorem dX10_widerPrice_49 : decode cX10_widerPrice 49 = .ok (.aload_n 3, 1) := by decide +kernel
theorem dX10_widerPrice_50 : decode cX10_widerPrice 50 = .ok (.getfield 281, 3) := by decide +kernel
theorem dX10_widerPrice_53 : decode cX10_widerPrice 53 = .ok (.isub, 1) := by decide +kernel
theorem dX10_widerPrice_54 : decode cX10_widerPrice 54 = .ok (.invokestatic 284, 3) := by decide +kernel
theorem dX10_widerPrice_57 : decode cX10_widerPrice 57 = .ok (.imul, 1) := by decide +kernel
theorem dX10_widerPrice_58 : decode cX10_widerPrice 58 = .ok (.iadd, 1) := by decide +kernel
theorem dX10_widerPrice_59 : decode cX10_widerPrice 59 = .ok (.istore_n 1, 1) := by decide +kernel
theorem dX10_widerPrice_60 : decode cX10_widerPrice 60 = .ok (.iinc 2 1, 3) := by decide +kernel
theorem dX10_widerPrice_63 : decode cX10_widerPrice 63 = .ok (.goto (-59), 3) := by decide +kernel
theorem dX10_widerPrice_66 : decode cX10_widerPrice 66 = .ok (.iload_n 1, 1) := by decide +kernel
theorem dX10_widerPrice_67 : decode cX10_widerPrice 67 = .ok (.ireturn, 1) := by decide +kernel
theorem dX10_overAsNow_0 : decode cX10_overAsNow 0 = .ok (.aload_n 0, 1) := by decide +kernel
theorem dX10_overAsNow_1 : decode cX10_overAsNow 1 = .ok (.getfield 22, 3) := by decide +kernel
theorem dX10_overAsNow_4 : decode cX10_overAsNow 4 = .ok (.aload_n 0, 1) := by decide +kernel
theorem dX10_overAsNow_5 : decode cX10_overAsNow 5 = .ok (.getfield 12, 3) := by decide +kernel
theorem dX10_overAsNow_8 : decode cX10_overAsNow 8 = .ok (.getfield 65, 3) := by decide +kernel
theorem dX10_overAsNow_11 : decode cX10_overAsNow 11 = .ok (.invokevirtual 224, 3) := by decide +kernel
theorem dX10_overAsNow_14 : decode cX10_overAsNow 14 = .ok (.aload_n 0, 1) := by decide +kernel
theorem dX10_overAsNow_15 : decode cX10_overAsNow 15 = .ok (.getfield 22, 3) := by decide +kernel
theorem dX10_overAsNow_18 : decode cX10_overAsNow 18 = .ok (.aload_n 1, 1) := by decide +kernel
theorem dX10_overAsNow_19 : decode cX10_overAsNow 19 = .ok (.bipush 10, 2) := by decide +kernel
theorem dX10_overAsNow_21 : decode cX10_overAsNow 21 = .ok (.invokevirtual 234, 3) := by decide +kernel
theorem dX10_overAsNow_24 : decode cX10_overAsNow 24 = .ok (.ireturn, 1) := by decide +kernel
theorem dX10_overIfDrained_0 : decode cX10_overIfDrained 0 = .ok (.aload_n 0, 1) := by decide +kernel
theorem dX10_overIfDrained_1 : decode cX10_overIfDrained 1 = .ok (.getfield 22, 3) := by decide +kernel
theorem dX10_overIfDrained_4 : decode cX10_overIfDrained 4 = .ok (.aload_n 0, 1) := by decide +kernel
theorem dX10_overIfDrained_5 : decode cX10_overIfDrained 5 = .ok (.getfield 12, 3) := by decide +kernel
theorem dX10_overIfDrained_8 : decode cX10_overIfDrained 8 = .ok (.getfield 65, 3) := by decide +kernel
theorem dX10_overIfDrained_11 : decode cX10_overIfDrained 11 = .ok (.invokevirtual 224, 3) := by decide +kernel
theorem dX10_overIfDrained_14 : decode cX10_overIfDrained 14 = .ok (.aload_n 0, 1) := by decide +kernel
theorem dX10_overIfDrained_15 : decode cX10_overIfDrained 15 = .ok (.getfield 22, 3) := by decide +kernel
theorem dX10_overIfDrained_18 : decode cX10_overIfDrained 18 = .ok (.getfield 80, 3) := by decide +kernel
theorem dX10_overIfDrained_21 : decode cX10_overIfDrained 21 = .ok (.iload_n 1, 1) := by decide +kernel
theorem dX10_overIfDrained_22 : decode cX10_overIfDrained 22 = .ok (.aaload, 1) := by decide +kernel
theorem dX10_overIfDrained_23 : decode cX10_overIfDrained 23 = .ok (.iconst (-1), 1) := by decide +kernel
theorem dX10_overIfDrained_24 : decode cX10_overIfDrained 24 = .ok (.putfield 94, 3) := by decide +kernel
theorem dX10_overIfDrained_27 : decode cX10_overIfDrained 27 = .ok (.aload_n 0, 1) := by decide +kernel
theorem dX10_overIfDrained_28 : decode cX10_overIfDrained 28 = .ok (.getfield 22, 3) := by decide +kernel
theorem dX10_overIfDrained_31 : decode cX10_overIfDrained 31 = .ok (.aload_n 2, 1) := by decide +kernel
theorem dX10_overIfDrained_32 : decode cX10_overIfDrained 32 = .ok (.bipush 10, 2) := by decide +kernel
theorem dX10_overIfDrained_34 : decode cX10_overIfDrained 34 = .ok (.invokevirtual 234, 3) := by decide +kernel
theorem dX10_overIfDrained_37 : decode cX10_overIfDrained 37 = .ok (.ireturn, 1) := by decide +kernel
theorem dJ11_isValidCodePoint_9a6ad_0 : decode cJ11_isValidCodePoint_9a6ad 0 = .ok (.iload_n 0, 1) := by decide +kernel
theorem dJ11_isValidCodePoint_9a6ad_1 : decode cJ11_isValidCodePoint_9a6ad 1 = .ok (.bipush 16, 2) := by decide +kernel
theorem dJ11_isValidCodePoint_9a6ad_3 : decode cJ11_isValidCodePoint_9a6ad 3 = .ok (.iushr, 1) := by decide +kernel
theorem dJ11_isValidCodePoint_9a6ad_4 : decode cJ11_isValidCodePoint_9a6ad 4 = .ok (.istore_n 1, 1) := by decide +kernel
theorem dJ11_isValidCodePoint_9a6ad_5 : decode cJ11_isValidCodePoint_9a6ad 5 = .ok (.iload_n 1, 1) := by decide +kernel
theorem dJ11_isValidCodePoint_9a6ad_6 : decode cJ11_isValidCodePoint_9a6ad 6 = .ok (.bipush 17, 2) := by decide +kernel
theorem dJ11_isValidCodePoint_9a6ad_8 : decode cJ11_isValidCodePoint_9a6ad 8 = .ok (.if_icmp .ge 7, 3) := by decide +kernel
theorem dJ11_isValidCodePoint_9a6ad_11 : decode cJ11_isValidCodePoint_9a6ad 11 = .ok (.iconst 1, 1) := by decide +kernel
theorem dJ11_isValidCodePoint_9a6ad_12 : decode cJ11_isValidCodePoint_9a6ad 12 = .ok (.goto 4, 3) := by decide +kernel
theorem dJ11_isValidCodePoint_9a6ad_15 : decode cJ11_isValidCodePoint_9a6ad 15 = .ok (.iconst 0, 1) := by decide +kernel
theorem dJ11_isValidCodePoint_9a6ad_16 : decode cJ11_isValidCodePoint_9a6ad 16 = .ok (.ireturn, 1) := by decide +kernel
theorem dJ11_highSurrogate_5068e_0 : decode cJ11_highSurrogate_5068e 0 = .ok (.iload_n 0, 1) := by decide +kernel
theorem dJ11_highSurrogate_5068e_1 : decode cJ11_highSurrogate_5068e 1 = .ok (.bipush 10, 2) := by decide +kernel
theorem dJ11_highSurrogate_5068e_3 : decode cJ11_highSurrogate_5068e 3 = .ok (.iushr, 1) := by decide +kernel
theorem dJ11_highSurrogate_5068e_4 : decode cJ11_highSurrogate_5068e 4 = .ok (.ldc 110, 2) := by decide +kernel
theorem dJ11_highSurrogate_5068e_6 : decode cJ11_highSurrogate_5068e 6 = .ok (.iadd, 1) := by decide +kernel
theorem dJ11_highSurrogate_5068e_7 : decode cJ11_highSurrogate_5068e 7 = .ok (.i2c, 1) := by decide +kernel
theorem dJ11_highSurrogate_5068e_8 : decode cJ11_highSurrogate_5068e 8 = .ok (.ireturn, 1) := by decide +kernel
theorem dJ11_lowSurrogate_5068e_0 : decode cJ11_lowSurrogate_5068e 0 = .ok (.iload_n 0, 1) := by decide +kernel
theorem dJ11_lowSurrogate_5068e_1 : decode cJ11_lowSurrogate_5068e 1 = .ok (.sipush 1023, 3) := by decide +kernel
theorem dJ11_lowSurrogate_5068e_4 : decode cJ11_lowSurrogate_5068e 4 = .ok (.iand, 1) := by decide +kernel
theorem dJ11_lowSurrogate_5068e_5 : decode cJ11_lowSurrogate_5068e 5 = .ok (.ldc 76, 2) := by decide +kernel
theorem dJ11_lowSurrogate_5068e_7 : decode cJ11_lowSurrogate_5068e 7 = .ok (.iadd, 1) := by decide +kernel
theorem dJ11_lowSurrogate_5068e_8 : decode cJ11_lowSurrogate_5068e 8 = .ok (.i2c, 1) := by decide +kernel
theorem dJ11_lowSurrogate_5068e_9 : decode cJ11_lowSurrogate_5068e 9 = .ok (.ireturn, 1) := by decide +kernel
theorem dJ6_bitCount_0f7a4_0 : decode cJ6_bitCount_0f7a4 0 = .ok (.iload_n 0, 1) := by decide +kernel
theorem dJ6_bitCount_0f7a4_1 : decode cJ6_bitCount_0f7a4 1 = .ok (.iload_n 0, 1) := by decide +kernel
theorem dJ6_bitCount_0f7a4_2 : decode cJ6_bitCount_0f7a4 2 = .ok (.iconst 1, 1) := by decide +kernel
theorem dJ6_bitCount_0f7a4_3 : decode cJ6_bitCount_0f7a4 3 = .ok (.iushr, 1) := by decide +kernel
theorem dJ6_bitCount_0f7a4_4 : decode cJ6_bitCount_0f7a4 4 = .ok (.ldc_w 265, 3) := by decide +kernel
theorem dJ6_bitCount_0f7a4_7 : decode cJ6_bitCount_0f7a4 7 = .ok (.iand, 1) := by decide +kernel
theorem dJ6_bitCount_0f7a4_8 : decode cJ6_bitCount_0f7a4 8 = .ok (.isub, 1) := by decide +kernel
theorem dJ6_bitCount_0f7a4_9 : decode cJ6_bitCount_0f7a4 9 = .ok (.istore_n 0, 1) := by decide +kernel
theorem dJ6_bitCount_0f7a4_10 : decode cJ6_bitCount_0f7a4 10 = .ok (.iload_n 0, 1) := by decide +kernel
theorem dJ6_bitCount_0f7a4_11 : decode cJ6_bitCount_0f7a4 11 = .ok (.ldc_w 266, 3) := by decide +kernel
theorem dJ6_bitCount_0f7a4_14 : decode cJ6_bitCount_0f7a4 14 = .ok (.iand, 1) := by decide +kernel
theorem dJ6_bitCount_0f7a4_15 : decode cJ6_bitCount_0f7a4 15 = .ok (.iload_n 0, 1) := by decide +kernel
theorem dJ6_bitCount_0f7a4_16 : decode cJ6_bitCount_0f7a4 16 = .ok (.iconst 2, 1) := by decide +kernel
theorem dJ6_bitCount_0f7a4_17 : decode cJ6_bitCount_0f7a4 17 = .ok (.iushr, 1) := by decide +kernel
theorem dJ6_bitCount_0f7a4_18 : decode cJ6_bitCount_0f7a4 18 = .ok (.ldc_w 266, 3) := by decide +kernel
theorem dJ6_bitCount_0f7a4_21 : decode cJ6_bitCount_0f7a4 21 = .ok (.iand, 1) := by decide +kernel
theorem dJ6_bitCount_0f7a4_22 : decode cJ6_bitCount_0f7a4 22 = .ok (.iadd, 1) := by decide +kernel
theorem dJ6_bitCount_0f7a4_23 : decode cJ6_bitCount_0f7a4 23 = .ok (.istore_n 0, 1) := by decide +kernel
theorem dJ6_bitCount_0f7a4_24 : decode cJ6_bitCount_0f7a4 24 = .ok (.iload_n 0, 1) := by decide +kernel
theorem dJ6_bitCount_0f7a4_25 : decode cJ6_bitCount_0f7a4 25 = .ok (.iload_n 0, 1) := by decide +kernel
theorem dJ6_bitCount_0f7a4_26 : decode cJ6_bitCount_0f7a4 26 = .ok (.iconst 4, 1) := by decide +kernel
theorem dJ6_bitCount_0f7a4_27 : decode cJ6_bitCount_0f7a4 27 = .ok (.iushr, 1) := by decide +kernel
theorem dJ6_bitCount_0f7a4_28 : decode cJ6_bitCount_0f7a4 28 = .ok (.iadd, 1) := by decide +kernel
theorem dJ6_bitCount_0f7a4_29 : decode cJ6_bitCount_0f7a4 29 = .ok (.ldc_w 267, 3) := by decide +kernel
theorem dJ6_bitCount_0f7a4_32 : decode cJ6_bitCount_0f7a4 32 = .ok (.iand, 1) := by decide +kernel
theorem dJ6_bitCount_0f7a4_33 : decode cJ6_bitCount_0f7a4 33 = .ok (.istore_n 0, 1) := by decide +kernel
theorem dJ6_bitCount_0f7a4_34 : decode cJ6_bitCount_0f7a4 34 = .ok (.iload_n 0, 1) := by decide +kernel
theorem dJ6_bitCount_0f7a4_35 : decode cJ6_bitCount_0f7a4 35 = .ok (.iload_n 0, 1) := by decide +kernel
theorem dJ6_bitCount_0f7a4_36 : decode cJ6_bitCount_0f7a4 36 = .ok (.bipush 8, 2) := by decide +kernel
theorem dJ6_bitCount_0f7a4_38 : decode cJ6_bitCount_0f7a4 38 = .ok (.iushr, 1) := by decide +kernel
theorem dJ6_bitCount_0f7a4_39 : decode cJ6_bitCount_0f7a4 39 = .ok (.iadd, 1) := by decide +kernel
theorem dJ6_bitCount_0f7a4_40 : decode cJ6_bitCount_0f7a4 40 = .ok (.istore_n 0, 1) := by decide +kernel
theorem dJ6_bitCount_0f7a4_41 : decode cJ6_bitCount_0f7a4 41 = .ok (.iload_n 0, 1) := by decide +kernel
theorem dJ6_bitCount_0f7a4_42 : decode cJ6_bitCount_0f7a4 42 = .ok (.iload_n 0, 1) := by decide +kernel
theorem dJ6_bitCount_0f7a4_43 : decode cJ6_bitCount_0f7a4 43 = .ok (.bipush 16, 2) := by decide +kernel
theorem dJ6_bitCount_0f7a4_45 : decode cJ6_bitCount_0f7a4 45 = .ok (.iushr, 1) := by decide +kernel
theorem dJ6_bitCount_0f7a4_46 : decode cJ6_bitCount_0f7a4 46 = .ok (.iadd, 1) := by decide +kernel
theorem dJ6_bitCount_0f7a4_47 : decode cJ6_bitCount_0f7a4 47 = .ok (.istore_n 0, 1) := by decide +kernel
theorem dJ6_bitCount_0f7a4_48 : decode cJ6_bitCount_0f7a4 48 = .ok (.iload_n 0, 1) := by decide +kernel
theorem dJ6_bitCount_0f7a4_49 : decode cJ6_bitCount_0f7a4 49 = .ok (.bipush 63, 2) := by decide +kernel
theorem dJ6_bitCount_0f7a4_51 : decode cJ6_bitCount_0f7a4 51 = .ok (.iand, 1) := by decide +kernel
theorem dJ6_bitCount_0f7a4_52 : decode cJ6_bitCount_0f7a4 52 = .ok (.ireturn, 1) := by decide +kernel
theorem dJ9_abs_0f7a4_0 : decode cJ9_abs_0f7a4 0 = .ok (.iload_n 0, 1) := by decide +kernel
theorem dJ9_abs_0f7a4_1 : decode cJ9_abs_0f7a4 1 = .ok (.ifCond .ge 8, 3) := by decide +kernel
theorem dJ9_abs_0f7a4_4 : decode cJ9_abs_0f7a4 4 = .ok (.iload_n 0, 1) := by decide +kernel
theorem dJ9_abs_0f7a4_5 : decode cJ9_abs_0f7a4 5 = .ok (.ineg, 1) := by decide +kernel
theorem dJ9_abs_0f7a4_6 : decode cJ9_abs_0f7a4 6 = .ok (.goto 4, 3) := by decide +kernel
theorem dJ9_abs_0f7a4_9 : decode cJ9_abs_0f7a4 9 = .ok (.iload_n 0, 1) := by decide +kernel
theorem dJ9_abs_0f7a4_10 : decode cJ9_abs_0f7a4 10 = .ok (.ireturn, 1) := by decide +kernel
theorem dJ9_abs_067f4_0 : decode cJ9_abs_067f4 0 = .ok (.lload_n 0, 1) := by decide +kernel
theorem dJ9_abs_067f4_1 : decode cJ9_abs_067f4 1 = .ok (.lconst 0, 1) := by decide +kernel
theorem dJ9_abs_067f4_2 : decode cJ9_abs_067f4 2 = .ok (.lcmp, 1) := by decide +kernel
theorem dJ9_abs_067f4_3 : decode cJ9_abs_067f4 3 = .ok (.ifCond .ge 8, 3) := by decide +kernel
theorem dJ9_abs_067f4_6 : decode cJ9_abs_067f4 6 = .ok (.lload_n 0, 1) := by decide +kernel
theorem dJ9_abs_067f4_7 : decode cJ9_abs_067f4 7 = .ok (.lneg, 1) := by decide +kernel
theorem dJ9_abs_067f4_8 : decode cJ9_abs_067f4 8 = .ok (.goto 4, 3) := by decide +kernel
theorem dJ9_abs_067f4_11 : decode cJ9_abs_067f4 11 = .ok (.lload_n 0, 1) := by decide +kernel
theorem dJ9_abs_067f4_12 : decode cJ9_abs_067f4 12 = .ok (.lreturn, 1) := by decide +kernel
theorem dJ9_max_7cf53_0 : decode cJ9_max_7cf53 0 = .ok (.iload_n 0, 1) := by decide +kernel
theorem dJ9_max_7cf53_1 : decode cJ9_max_7cf53 1 = .ok (.iload_n 1, 1) := by decide +kernel
theorem dJ9_max_7cf53_2 : decode cJ9_max_7cf53 2 = .ok (.if_icmp .lt 7, 3) := by decide +kernel
theorem dJ9_max_7cf53_5 : decode cJ9_max_7cf53 5 = .ok (.iload_n 0, 1) := by decide +kernel
theorem dJ9_max_7cf53_6 : decode cJ9_max_7cf53 6 = .ok (.goto 4, 3) := by decide +kernel
theorem dJ9_max_7cf53_9 : decode cJ9_max_7cf53 9 = .ok (.iload_n 1, 1) := by decide +kernel
theorem dJ9_max_7cf53_10 : decode cJ9_max_7cf53 10 = .ok (.ireturn, 1) := by decide +kernel
theorem dJ9_max_f86c9_0 : decode cJ9_max_f86c9 0 = .ok (.lload_n 0, 1) := by decide +kernel
theorem dJ9_max_f86c9_1 : decode cJ9_max_f86c9 1 = .ok (.lload_n 2, 1) := by decide +kernel
theorem dJ9_max_f86c9_2 : decode cJ9_max_f86c9 2 = .ok (.lcmp, 1) := by decide +kernel
theorem dJ9_max_f86c9_3 : decode cJ9_max_f86c9 3 = .ok (.ifCond .lt 7, 3) := by decide +kernel
theorem dJ9_max_f86c9_6 : decode cJ9_max_f86c9 6 = .ok (.lload_n 0, 1) := by decide +kernel
theorem dJ9_max_f86c9_7 : decode cJ9_max_f86c9 7 = .ok (.goto 4, 3) := by decide +kernel
theorem dJ9_max_f86c9_10 : decode cJ9_max_f86c9 10 = .ok (.lload_n 2, 1) := by decide +kernel
theorem dJ9_max_f86c9_11 : decode cJ9_max_f86c9 11 = .ok (.lreturn, 1) := by decide +kernel
theorem dJ9_min_7cf53_0 : decode cJ9_min_7cf53 0 = .ok (.iload_n 0, 1) := by decide +kernel
theorem dJ9_min_7cf53_1 : decode cJ9_min_7cf53 1 = .ok (.iload_n 1, 1) := by decide +kernel
theorem dJ9_min_7cf53_2 : decode cJ9_min_7cf53 2 = .ok (.if_icmp .gt 7, 3) := by decide +kernel
theorem dJ9_min_7cf53_5 : decode cJ9_min_7cf53 5 = .ok (.iload_n 0, 1) := by decide +kernel
theorem dJ9_min_7cf53_6 : decode cJ9_min_7cf53 6 = .ok (.goto 4, 3) := by decide +kernel
theorem dJ9_min_7cf53_9 : decode cJ9_min_7cf53 9 = .ok (.iload_n 1, 1) := by decide +kernel
theorem dJ9_min_7cf53_10 : decode cJ9_min_7cf53 10 = .ok (.ireturn, 1) := by decide +kernel
theorem dJ0_length_8abf5_0 : decode cJ0_length_8abf5 0 = .ok (.aload_n 0, 1) := by decide +kernel
theorem dJ0_length_8abf5_1 : decode cJ0_length_8abf5 1 = .ok (.getfield 9, 3) := by decide +kernel
theorem dJ0_length_8abf5_4 : decode cJ0_length_8abf5 4 = .ok (.arraylength, 1) := by decide +kernel
theorem dJ0_length_8abf5_5 : decode cJ0_length_8abf5 5 = .ok (.aload_n 0, 1) := by decide +kernel
theorem dJ0_length_8abf5_6 : decode cJ0_length_8abf5 6 = .ok (.invokevirtual 335, 3) := by decide +kernel
theorem dJ0_length_8abf5_9 : decode cJ0_length_8abf5 9 = .ok (.ishr, 1) := by decide +kernel
theorem dJ0_length_8abf5_10 : decode cJ0_length_8abf5 10 = .ok (.ireturn, 1) := by decide +kernel
theorem dJ0_charAt_5068e_0 : decode cJ0_charAt_5068e 0 = .ok (.aload_n 0, 1) := by decide +kernel
theorem dJ0_charAt_5068e_1 : decode cJ0_charAt_5068e 1 = .ok (.invokevirtual 492, 3) := by decide +kernel
theorem dJ0_charAt_5068e_4 : decode cJ0_charAt_5068e 4 = .ok (.ifCond .eq 12, 3) := by decide +kernel
theorem dJ0_charAt_5068e_7 : decode cJ0_charAt_5068e 7 = .ok (.aload_n 0, 1) := by decide +kernel
theorem dJ0_charAt_5068e_8 : decode cJ0_charAt_5068e 8 = .ok (.getfield 9, 3) := by decide +kernel
theorem dJ0_charAt_5068e_11 : decode cJ0_charAt_5068e 11 = .ok (.iload_n 1, 1) := by decide +kernel
theorem dJ0_charAt_5068e_12 : decode cJ0_charAt_5068e 12 = .ok (.invokestatic 495, 3) := by decide +kernel
theorem dJ0_charAt_5068e_15 : decode cJ0_charAt_5068e 15 = .ok (.ireturn, 1) := by decide +kernel
theorem dJ0_charAt_5068e_16 : decode cJ0_charAt_5068e 16 = .ok (.aload_n 0, 1) := by decide +kernel
theorem dJ0_charAt_5068e_17 : decode cJ0_charAt_5068e 17 = .ok (.getfield 9, 3) := by decide +kernel
theorem dJ0_charAt_5068e_20 : decode cJ0_charAt_5068e 20 = .ok (.iload_n 1, 1) := by decide +kernel
theorem dJ0_charAt_5068e_21 : decode cJ0_charAt_5068e 21 = .ok (.invokestatic 498, 3) := by decide +kernel
theorem dJ0_charAt_5068e_24 : decode cJ0_charAt_5068e 24 = .ok (.ireturn, 1) := by decide +kernel
theorem dJ0_indexOf_0f7a4_0 : decode cJ0_indexOf_0f7a4 0 = .ok (.aload_n 0, 1) := by decide +kernel
theorem dJ0_indexOf_0f7a4_1 : decode cJ0_indexOf_0f7a4 1 = .ok (.iload_n 1, 1) := by decide +kernel
theorem dJ0_indexOf_0f7a4_2 : decode cJ0_indexOf_0f7a4 2 = .ok (.iconst 0, 1) := by decide +kernel
theorem dJ0_indexOf_0f7a4_3 : decode cJ0_indexOf_0f7a4 3 = .ok (.invokevirtual 633, 3) := by decide +kernel
theorem dJ0_indexOf_0f7a4_6 : decode cJ0_indexOf_0f7a4 6 = .ok (.ireturn, 1) := by decide +kernel
theorem dJ0_indexOf_7cf53_0 : decode cJ0_indexOf_7cf53 0 = .ok (.aload_n 0, 1) := by decide +kernel
theorem dJ0_indexOf_7cf53_1 : decode cJ0_indexOf_7cf53 1 = .ok (.invokevirtual 492, 3) := by decide +kernel
theorem dJ0_indexOf_7cf53_4 : decode cJ0_indexOf_7cf53 4 = .ok (.ifCond .eq 19, 3) := by decide +kernel
theorem dJ0_indexOf_7cf53_7 : decode cJ0_indexOf_7cf53 7 = .ok (.aload_n 0, 1) := by decide +kernel
theorem dJ0_indexOf_7cf53_8 : decode cJ0_indexOf_7cf53 8 = .ok (.getfield 9, 3) := by decide +kernel
theorem dJ0_indexOf_7cf53_11 : decode cJ0_indexOf_7cf53 11 = .ok (.iload_n 1, 1) := by decide +kernel
theorem dJ0_indexOf_7cf53_12 : decode cJ0_indexOf_7cf53 12 = .ok (.iload_n 2, 1) := by decide +kernel
theorem dJ0_indexOf_7cf53_13 : decode cJ0_indexOf_7cf53 13 = .ok (.aload_n 0, 1) := by decide +kernel
theorem dJ0_indexOf_7cf53_14 : decode cJ0_indexOf_7cf53 14 = .ok (.invokevirtual 505, 3) := by decide +kernel
theorem dJ0_indexOf_7cf53_17 : decode cJ0_indexOf_7cf53 17 = .ok (.invokestatic 637, 3) := by decide +kernel
theorem dJ0_indexOf_7cf53_20 : decode cJ0_indexOf_7cf53 20 = .ok (.goto 16, 3) := by decide +kernel
theorem dJ0_indexOf_7cf53_23 : decode cJ0_indexOf_7cf53 23 = .ok (.aload_n 0, 1) := by decide +kernel
theorem dJ0_indexOf_7cf53_24 : decode cJ0_indexOf_7cf53 24 = .ok (.getfield 9, 3) := by decide +kernel
theorem dJ0_indexOf_7cf53_27 : decode cJ0_indexOf_7cf53 27 = .ok (.iload_n 1, 1) := by decide +kernel
theorem dJ0_indexOf_7cf53_28 : decode cJ0_indexOf_7cf53 28 = .ok (.iload_n 2, 1) := by decide +kernel
theorem dJ0_indexOf_7cf53_29 : decode cJ0_indexOf_7cf53 29 = .ok (.aload_n 0, 1) := by decide +kernel
theorem dJ0_indexOf_7cf53_30 : decode cJ0_indexOf_7cf53 30 = .ok (.invokevirtual 505, 3) := by decide +kernel
theorem dJ0_indexOf_7cf53_33 : decode cJ0_indexOf_7cf53 33 = .ok (.invokestatic 640, 3) := by decide +kernel
theorem dJ0_indexOf_7cf53_36 : decode cJ0_indexOf_7cf53 36 = .ok (.ireturn, 1) := by decide +kernel
theorem dJ0_coder_7d493_0 : decode cJ0_coder_7d493 0 = .ok (.getstatic 38, 3) := by decide +kernel
theorem dJ0_coder_7d493_3 : decode cJ0_coder_7d493 3 = .ok (.ifCond .eq 10, 3) := by decide +kernel
theorem dJ0_coder_7d493_6 : decode cJ0_coder_7d493 6 = .ok (.aload_n 0, 1) := by decide +kernel
theorem dJ0_coder_7d493_7 : decode cJ0_coder_7d493 7 = .ok (.getfield 15, 3) := by decide +kernel
theorem dJ0_coder_7d493_10 : decode cJ0_coder_7d493 10 = .ok (.goto 4, 3) := by decide +kernel
theorem dJ0_coder_7d493_13 : decode cJ0_coder_7d493 13 = .ok (.iconst 1, 1) := by decide +kernel
theorem dJ0_coder_7d493_14 : decode cJ0_coder_7d493 14 = .ok (.ireturn, 1) := by decide +kernel
theorem dJ0_isLatin1_aae02_0 : decode cJ0_isLatin1_aae02 0 = .ok (.getstatic 38, 3) := by decide +kernel
theorem dJ0_isLatin1_aae02_3 : decode cJ0_isLatin1_aae02 3 = .ok (.ifCond .eq 14, 3) := by decide +kernel
theorem dJ0_isLatin1_aae02_6 : decode cJ0_isLatin1_aae02 6 = .ok (.aload_n 0, 1) := by decide +kernel
theorem dJ0_isLatin1_aae02_7 : decode cJ0_isLatin1_aae02 7 = .ok (.getfield 15, 3) := by decide +kernel
theorem dJ0_isLatin1_aae02_10 : decode cJ0_isLatin1_aae02 10 = .ok (.ifCond .ne 7, 3) := by decide +kernel
theorem dJ0_isLatin1_aae02_13 : decode cJ0_isLatin1_aae02 13 = .ok (.iconst 1, 1) := by decide +kernel
theorem dJ0_isLatin1_aae02_14 : decode cJ0_isLatin1_aae02 14 = .ok (.goto 4, 3) := by decide +kernel
theorem dJ0_isLatin1_aae02_17 : decode cJ0_isLatin1_aae02 17 = .ok (.iconst 0, 1) := by decide +kernel
theorem dJ0_isLatin1_aae02_18 : decode cJ0_isLatin1_aae02 18 = .ok (.ireturn, 1) := by decide +kernel
theorem dJ0_checkIndex_df160_0 : decode cJ0_checkIndex_df160 0 = .ok (.iload_n 0, 1) := by decide +kernel
theorem dJ0_checkIndex_df160_1 : decode cJ0_checkIndex_df160 1 = .ok (.iload_n 1, 1) := by decide +kernel
theorem dJ0_checkIndex_df160_2 : decode cJ0_checkIndex_df160 2 = .ok (.getstatic 1053, 3) := by decide +kernel
theorem dJ0_checkIndex_df160_5 : decode cJ0_checkIndex_df160 5 = .ok (.invokestatic 1059, 3) := by decide +kernel
theorem dJ0_checkIndex_df160_8 : decode cJ0_checkIndex_df160 8 = .ok (.pop, 1) := by decide +kernel
theorem dJ0_checkIndex_df160_9 : decode cJ0_checkIndex_df160 9 = .ok (.return_, 1) := by decide +kernel
theorem dJ0_checkBoundsBeginEnd_23922_0 : decode cJ0_checkBoundsBeginEnd_23922 0 = .ok (.iload_n 0, 1) := by decide +kernel
theorem dJ0_checkBoundsBeginEnd_23922_1 : decode cJ0_checkBoundsBeginEnd_23922 1 = .ok (.iload_n 1, 1) := by decide +kernel
theorem dJ0_checkBoundsBeginEnd_23922_2 : decode cJ0_checkBoundsBeginEnd_23922 2 = .ok (.iload_n 2, 1) := by decide +kernel
theorem dJ0_checkBoundsBeginEnd_23922_3 : decode cJ0_checkBoundsBeginEnd_23922 3 = .ok (.getstatic 1053, 3) := by decide +kernel
theorem dJ0_checkBoundsBeginEnd_23922_6 : decode cJ0_checkBoundsBeginEnd_23922 6 = .ok (.invokestatic 1062, 3) := by decide +kernel
theorem dJ0_checkBoundsBeginEnd_23922_9 : decode cJ0_checkBoundsBeginEnd_23922 9 = .ok (.pop, 1) := by decide +kernel
theorem dJ0_checkBoundsBeginEnd_23922_10 : decode cJ0_checkBoundsBeginEnd_23922 10 = .ok (.return_, 1) := by decide +kernel
theorem dJ1_charAt_3b067_0 : decode cJ1_charAt_3b067 0 = .ok (.iload_n 1, 1) := by decide +kernel
theorem dJ1_charAt_3b067_1 : decode cJ1_charAt_3b067 1 = .ok (.aload_n 0, 1) := by decide +kernel
theorem dJ1_charAt_3b067_2 : decode cJ1_charAt_3b067 2 = .ok (.arraylength, 1) := by decide +kernel
theorem dJ1_charAt_3b067_3 : decode cJ1_charAt_3b067 3 = .ok (.invokestatic 9, 3) := by decide +kernel
theorem dJ1_charAt_3b067_6 : decode cJ1_charAt_3b067 6 = .ok (.aload_n 0, 1) := by decide +kernel
theorem dJ1_charAt_3b067_7 : decode cJ1_charAt_3b067 7 = .ok (.iload_n 1, 1) := by decide +kernel
theorem dJ1_charAt_3b067_8 : decode cJ1_charAt_3b067 8 = .ok (.baload, 1) := by decide +kernel
theorem dJ1_charAt_3b067_9 : decode cJ1_charAt_3b067 9 = .ok (.sipush 255, 3) := by decide +kernel
theorem dJ1_charAt_3b067_12 : decode cJ1_charAt_3b067 12 = .ok (.iand, 1) := by decide +kernel
theorem dJ1_charAt_3b067_13 : decode cJ1_charAt_3b067 13 = .ok (.i2c, 1) := by decide +kernel
theorem dJ1_charAt_3b067_14 : decode cJ1_charAt_3b067 14 = .ok (.ireturn, 1) := by decide +kernel
theorem dJ1_canEncode_9a6ad_0 : decode cJ1_canEncode_9a6ad 0 = .ok (.iload_n 0, 1) := by decide +kernel
theorem dJ1_canEncode_9a6ad_1 : decode cJ1_canEncode_9a6ad 1 = .ok (.ifCond .lt 14, 3) := by decide +kernel
theorem dJ1_canEncode_9a6ad_4 : decode cJ1_canEncode_9a6ad 4 = .ok (.iload_n 0, 1) := by decide +kernel
theorem dJ1_canEncode_9a6ad_5 : decode cJ1_canEncode_9a6ad 5 = .ok (.sipush 255, 3) := by decide +kernel
theorem dJ1_canEncode_9a6ad_8 : decode cJ1_canEncode_9a6ad 8 = .ok (.if_icmp .gt 7, 3) := by decide +kernel
theorem dJ1_canEncode_9a6ad_11 : decode cJ1_canEncode_9a6ad 11 = .ok (.iconst 1, 1) := by decide +kernel
theorem dJ1_canEncode_9a6ad_12 : decode cJ1_canEncode_9a6ad 12 = .ok (.goto 4, 3) := by decide +kernel
theorem dJ1_canEncode_9a6ad_15 : decode cJ1_canEncode_9a6ad 15 = .ok (.iconst 0, 1) := by decide +kernel
theorem dJ1_canEncode_9a6ad_16 : decode cJ1_canEncode_9a6ad 16 = .ok (.ireturn, 1) := by decide +kernel
theorem dJ1_indexOf_4cfef_0 : decode cJ1_indexOf_4cfef 0 = .ok (.iload_n 1, 1) := by decide +kernel
theorem dJ1_indexOf_4cfef_1 : decode cJ1_indexOf_4cfef 1 = .ok (.invokestatic 88, 3) := by decide +kernel
theorem dJ1_indexOf_4cfef_4 : decode cJ1_indexOf_4cfef 4 = .ok (.ifCond .ne 5, 3) := by decide +kernel
theorem dJ1_indexOf_4cfef_7 : decode cJ1_indexOf_4cfef 7 = .ok (.iconst (-1), 1) := by decide +kernel
theorem dJ1_indexOf_4cfef_8 : decode cJ1_indexOf_4cfef 8 = .ok (.ireturn, 1) := by decide +kernel
theorem dJ1_indexOf_4cfef_9 : decode cJ1_indexOf_4cfef 9 = .ok (.iload_n 2, 1) := by decide +kernel
theorem dJ1_indexOf_4cfef_10 : decode cJ1_indexOf_4cfef 10 = .ok (.iconst 0, 1) := by decide +kernel
theorem dJ1_indexOf_4cfef_11 : decode cJ1_indexOf_4cfef 11 = .ok (.invokestatic 92, 3) := by decide +kernel
theorem dJ1_indexOf_4cfef_14 : decode cJ1_indexOf_4cfef 14 = .ok (.istore_n 2, 1) := by decide +kernel
theorem dJ1_indexOf_4cfef_15 : decode cJ1_indexOf_4cfef 15 = .ok (.iload_n 3, 1) := by decide +kernel
theorem dJ1_indexOf_4cfef_16 : decode cJ1_indexOf_4cfef 16 = .ok (.aload_n 0, 1) := by decide +kernel
theorem dJ1_indexOf_4cfef_17 : decode cJ1_indexOf_4cfef 17 = .ok (.arraylength, 1) := by decide +kernel
theorem dJ1_indexOf_4cfef_18 : decode cJ1_indexOf_4cfef 18 = .ok (.invokestatic 38, 3) := by decide +kernel
theorem dJ1_indexOf_4cfef_21 : decode cJ1_indexOf_4cfef 21 = .ok (.istore_n 3, 1) := by decide +kernel
theorem dJ1_indexOf_4cfef_22 : decode cJ1_indexOf_4cfef 22 = .ok (.iload_n 2, 1) := by decide +kernel
theorem dJ1_indexOf_4cfef_23 : decode cJ1_indexOf_4cfef 23 = .ok (.iload_n 3, 1) := by decide +kernel
theorem dJ1_indexOf_4cfef_24 : decode cJ1_indexOf_4cfef 24 = .ok (.if_icmp .lt 5, 3) := by decide +kernel
theorem dJ1_indexOf_4cfef_27 : decode cJ1_indexOf_4cfef 27 = .ok (.iconst (-1), 1) := by decide +kernel
theorem dJ1_indexOf_4cfef_28 : decode cJ1_indexOf_4cfef 28 = .ok (.ireturn, 1) := by decide +kernel
theorem dJ1_indexOf_4cfef_29 : decode cJ1_indexOf_4cfef 29 = .ok (.aload_n 0, 1) := by decide +kernel
theorem dJ1_indexOf_4cfef_30 : decode cJ1_indexOf_4cfef 30 = .ok (.iload_n 1, 1) := by decide +kernel
theorem dJ1_indexOf_4cfef_31 : decode cJ1_indexOf_4cfef 31 = .ok (.iload_n 2, 1) := by decide +kernel
theorem dJ1_indexOf_4cfef_32 : decode cJ1_indexOf_4cfef 32 = .ok (.iload_n 3, 1) := by decide +kernel
theorem dJ1_indexOf_4cfef_33 : decode cJ1_indexOf_4cfef 33 = .ok (.invokestatic 95, 3) := by decide +kernel
theorem dJ1_indexOf_4cfef_36 : decode cJ1_indexOf_4cfef 36 = .ok (.ireturn, 1) := by decide +kernel
theorem dJ1_indexOfChar_4cfef_0 : decode cJ1_indexOfChar_4cfef 0 = .ok (.iload_n 1, 1) := by decide +kernel
theorem dJ1_indexOfChar_4cfef_1 : decode cJ1_indexOfChar_4cfef 1 = .ok (.i2b, 1) := by decide +kernel
theorem dJ1_indexOfChar_4cfef_2 : decode cJ1_indexOfChar_4cfef 2 = .ok (.istore 4, 2) := by decide +kernel
theorem dJ1_indexOfChar_4cfef_4 : decode cJ1_indexOfChar_4cfef 4 = .ok (.iload_n 2, 1) := by decide +kernel
theorem dJ1_indexOfChar_4cfef_5 : decode cJ1_indexOfChar_4cfef 5 = .ok (.istore 5, 2) := by decide +kernel
theorem dJ1_indexOfChar_4cfef_7 : decode cJ1_indexOfChar_4cfef 7 = .ok (.iload 5, 2) := by decide +kernel
theorem dJ1_indexOfChar_4cfef_9 : decode cJ1_indexOfChar_4cfef 9 = .ok (.iload_n 3, 1) := by decide +kernel
theorem dJ1_indexOfChar_4cfef_10 : decode cJ1_indexOfChar_4cfef 10 = .ok (.if_icmp .ge 21, 3) := by decide +kernel
theorem dJ1_indexOfChar_4cfef_13 : decode cJ1_indexOfChar_4cfef 13 = .ok (.aload_n 0, 1) := by decide +kernel
theorem dJ1_indexOfChar_4cfef_14 : decode cJ1_indexOfChar_4cfef 14 = .ok (.iload 5, 2) := by decide +kernel
theorem dJ1_indexOfChar_4cfef_16 : decode cJ1_indexOfChar_4cfef 16 = .ok (.baload, 1) := by decide +kernel
theorem dJ1_indexOfChar_4cfef_17 : decode cJ1_indexOfChar_4cfef 17 = .ok (.iload 4, 2) := by decide +kernel
theorem dJ1_indexOfChar_4cfef_19 : decode cJ1_indexOfChar_4cfef 19 = .ok (.if_icmp .ne 6, 3) := by decide +kernel
theorem dJ1_indexOfChar_4cfef_22 : decode cJ1_indexOfChar_4cfef 22 = .ok (.iload 5, 2) := by decide +kernel
theorem dJ1_indexOfChar_4cfef_24 : decode cJ1_indexOfChar_4cfef 24 = .ok (.ireturn, 1) := by decide +kernel
theorem dJ1_indexOfChar_4cfef_25 : decode cJ1_indexOfChar_4cfef 25 = .ok (.iinc 5 1, 3) := by decide +kernel
theorem dJ1_indexOfChar_4cfef_28 : decode cJ1_indexOfChar_4cfef 28 = .ok (.goto (-21), 3) := by decide +kernel
theorem dJ1_indexOfChar_4cfef_31 : decode cJ1_indexOfChar_4cfef 31 = .ok (.iconst (-1), 1) := by decide +kernel
theorem dJ1_indexOfChar_4cfef_32 : decode cJ1_indexOfChar_4cfef 32 = .ok (.ireturn, 1) := by decide +kernel
theorem dJ2_getChar_3b067_0 : decode cJ2_getChar_3b067 0 = .ok (.getstatic 44, 3) := by decide +kernel
theorem dJ2_getChar_3b067_3 : decode cJ2_getChar_3b067 3 = .ok (.ifCond .ne 25, 3) := by decide +kernel
theorem dJ2_getChar_3b067_6 : decode cJ2_getChar_3b067 6 = .ok (.iload_n 1, 1) := by decide +kernel
theorem dJ2_getChar_3b067_7 : decode cJ2_getChar_3b067 7 = .ok (.ifCond .lt 11, 3) := by decide +kernel
theorem dJ2_getChar_3b067_10 : decode cJ2_getChar_3b067 10 = .ok (.iload_n 1, 1) := by decide +kernel
theorem dJ2_getChar_3b067_11 : decode cJ2_getChar_3b067 11 = .ok (.aload_n 0, 1) := by decide +kernel
theorem dJ2_getChar_3b067_12 : decode cJ2_getChar_3b067 12 = .ok (.invokestatic 48, 3) := by decide +kernel
theorem dJ2_getChar_3b067_15 : decode cJ2_getChar_3b067 15 = .ok (.if_icmp .lt 13, 3) := by decide +kernel
theorem dJ2_getChar_3b067_18 : decode cJ2_getChar_3b067 18 = .ok (.new 52, 3) := by decide +kernel
theorem dJ2_getChar_3b067_21 : decode cJ2_getChar_3b067 21 = .ok (.dup, 1) := by decide +kernel
theorem dJ2_getChar_3b067_22 : decode cJ2_getChar_3b067 22 = .ok (.ldc 54, 2) := by decide +kernel
theorem dJ2_getChar_3b067_24 : decode cJ2_getChar_3b067 24 = .ok (.invokespecial 56, 3) := by decide +kernel
theorem dJ2_getChar_3b067_27 : decode cJ2_getChar_3b067 27 = .ok (.athrow, 1) := by decide +kernel
theorem dJ2_getChar_3b067_28 : decode cJ2_getChar_3b067 28 = .ok (.iload_n 1, 1) := by decide +kernel
theorem dJ2_getChar_3b067_29 : decode cJ2_getChar_3b067 29 = .ok (.iconst 1, 1) := by decide +kernel
theorem dJ2_getChar_3b067_30 : decode cJ2_getChar_3b067 30 = .ok (.ishl, 1) := by decide +kernel
theorem dJ2_getChar_3b067_31 : decode cJ2_getChar_3b067 31 = .ok (.istore_n 1, 1) := by decide +kernel
theorem dJ2_getChar_3b067_32 : decode cJ2_getChar_3b067 32 = .ok (.aload_n 0, 1) := by decide +kernel
theorem dJ2_getChar_3b067_33 : decode cJ2_getChar_3b067 33 = .ok (.iload_n 1, 1) := by decide +kernel
theorem dJ2_getChar_3b067_34 : decode cJ2_getChar_3b067 34 = .ok (.iinc 1 1, 3) := by decide +kernel
theorem dJ2_getChar_3b067_37 : decode cJ2_getChar_3b067 37 = .ok (.baload, 1) := by decide +kernel
theorem dJ2_getChar_3b067_38 : decode cJ2_getChar_3b067 38 = .ok (.sipush 255, 3) := by decide +kernel
theorem dJ2_getChar_3b067_41 : decode cJ2_getChar_3b067 41 = .ok (.iand, 1) := by decide +kernel
theorem dJ2_getChar_3b067_42 : decode cJ2_getChar_3b067 42 = .ok (.getstatic 59, 3) := by decide +kernel
theorem dJ2_getChar_3b067_45 : decode cJ2_getChar_3b067 45 = .ok (.ishl, 1) := by decide +kernel
theorem dJ2_getChar_3b067_46 : decode cJ2_getChar_3b067 46 = .ok (.aload_n 0, 1) := by decide +kernel
theorem dJ2_getChar_3b067_47 : decode cJ2_getChar_3b067 47 = .ok (.iload_n 1, 1) := by decide +kernel
theorem dJ2_getChar_3b067_48 : decode cJ2_getChar_3b067 48 = .ok (.baload, 1) := by decide +kernel
theorem dJ2_getChar_3b067_49 : decode cJ2_getChar_3b067 49 = .ok (.sipush 255, 3) := by decide +kernel
theorem dJ2_getChar_3b067_52 : decode cJ2_getChar_3b067 52 = .ok (.iand, 1) := by decide +kernel
theorem dJ2_getChar_3b067_53 : decode cJ2_getChar_3b067 53 = .ok (.getstatic 63, 3) := by decide +kernel
theorem dJ2_getChar_3b067_56 : decode cJ2_getChar_3b067 56 = .ok (.ishl, 1) := by decide +kernel
theorem dJ2_getChar_3b067_57 : decode cJ2_getChar_3b067 57 = .ok (.ior, 1) := by decide +kernel
theorem dJ2_getChar_3b067_58 : decode cJ2_getChar_3b067 58 = .ok (.i2c, 1) := by decide +kernel
theorem dJ2_getChar_3b067_59 : decode cJ2_getChar_3b067 59 = .ok (.ireturn, 1) := by decide +kernel
theorem dJ2_length_9d52b_0 : decode cJ2_length_9d52b 0 = .ok (.aload_n 0, 1) := by decide +kernel
theorem dJ2_length_9d52b_1 : decode cJ2_length_9d52b 1 = .ok (.arraylength, 1) := by decide +kernel
theorem dJ2_length_9d52b_2 : decode cJ2_length_9d52b 2 = .ok (.iconst 1, 1) := by decide +kernel
theorem dJ2_length_9d52b_3 : decode cJ2_length_9d52b 3 = .ok (.ishr, 1) := by decide +kernel
theorem dJ2_length_9d52b_4 : decode cJ2_length_9d52b 4 = .ok (.ireturn, 1) := by decide +kernel
theorem dJ2_indexOf_4cfef_0 : decode cJ2_indexOf_4cfef 0 = .ok (.iload_n 2, 1) := by decide +kernel
theorem dJ2_indexOf_4cfef_1 : decode cJ2_indexOf_4cfef 1 = .ok (.iconst 0, 1) := by decide +kernel
theorem dJ2_indexOf_4cfef_2 : decode cJ2_indexOf_4cfef 2 = .ok (.invokestatic 224, 3) := by decide +kernel
theorem dJ2_indexOf_4cfef_5 : decode cJ2_indexOf_4cfef 5 = .ok (.istore_n 2, 1) := by decide +kernel
theorem dJ2_indexOf_4cfef_6 : decode cJ2_indexOf_4cfef 6 = .ok (.iload_n 3, 1) := by decide +kernel
theorem dJ2_indexOf_4cfef_7 : decode cJ2_indexOf_4cfef 7 = .ok (.aload_n 0, 1) := by decide +kernel
theorem dJ2_indexOf_4cfef_8 : decode cJ2_indexOf_4cfef 8 = .ok (.arraylength, 1) := by decide +kernel
theorem dJ2_indexOf_4cfef_9 : decode cJ2_indexOf_4cfef 9 = .ok (.iconst 1, 1) := by decide +kernel
theorem dJ2_indexOf_4cfef_10 : decode cJ2_indexOf_4cfef 10 = .ok (.ishr, 1) := by decide +kernel
theorem dJ2_indexOf_4cfef_11 : decode cJ2_indexOf_4cfef 11 = .ok (.invokestatic 183, 3) := by decide +kernel
theorem dJ2_indexOf_4cfef_14 : decode cJ2_indexOf_4cfef 14 = .ok (.istore_n 3, 1) := by decide +kernel
theorem dJ2_indexOf_4cfef_15 : decode cJ2_indexOf_4cfef 15 = .ok (.iload_n 2, 1) := by decide +kernel
theorem dJ2_indexOf_4cfef_16 : decode cJ2_indexOf_4cfef 16 = .ok (.iload_n 3, 1) := by decide +kernel
theorem dJ2_indexOf_4cfef_17 : decode cJ2_indexOf_4cfef 17 = .ok (.if_icmp .lt 5, 3) := by decide +kernel
theorem dJ2_indexOf_4cfef_20 : decode cJ2_indexOf_4cfef 20 = .ok (.iconst (-1), 1) := by decide +kernel
theorem dJ2_indexOf_4cfef_21 : decode cJ2_indexOf_4cfef 21 = .ok (.ireturn, 1) := by decide +kernel
theorem dJ2_indexOf_4cfef_22 : decode cJ2_indexOf_4cfef 22 = .ok (.iload_n 1, 1) := by decide +kernel
theorem dJ2_indexOf_4cfef_23 : decode cJ2_indexOf_4cfef 23 = .ok (.ldc 227, 2) := by decide +kernel
theorem dJ2_indexOf_4cfef_25 : decode cJ2_indexOf_4cfef 25 = .ok (.if_icmp .ge 11, 3) := by decide +kernel
theorem dJ2_indexOf_4cfef_28 : decode cJ2_indexOf_4cfef 28 = .ok (.aload_n 0, 1) := by decide +kernel
theorem dJ2_indexOf_4cfef_29 : decode cJ2_indexOf_4cfef 29 = .ok (.iload_n 1, 1) := by decide +kernel
theorem dJ2_indexOf_4cfef_30 : decode cJ2_indexOf_4cfef 30 = .ok (.iload_n 2, 1) := by decide +kernel
theorem dJ2_indexOf_4cfef_31 : decode cJ2_indexOf_4cfef 31 = .ok (.iload_n 3, 1) := by decide +kernel
theorem dJ2_indexOf_4cfef_32 : decode cJ2_indexOf_4cfef 32 = .ok (.invokestatic 228, 3) := by decide +kernel
theorem dJ2_indexOf_4cfef_35 : decode cJ2_indexOf_4cfef 35 = .ok (.ireturn, 1) := by decide +kernel
theorem dJ2_indexOf_4cfef_36 : decode cJ2_indexOf_4cfef 36 = .ok (.aload_n 0, 1) := by decide +kernel
theorem dJ2_indexOf_4cfef_37 : decode cJ2_indexOf_4cfef 37 = .ok (.iload_n 1, 1) := by decide +kernel
theorem dJ2_indexOf_4cfef_38 : decode cJ2_indexOf_4cfef 38 = .ok (.iload_n 2, 1) := by decide +kernel
theorem dJ2_indexOf_4cfef_39 : decode cJ2_indexOf_4cfef 39 = .ok (.iload_n 3, 1) := by decide +kernel
theorem dJ2_indexOf_4cfef_40 : decode cJ2_indexOf_4cfef 40 = .ok (.invokestatic 232, 3) := by decide +kernel
theorem dJ2_indexOf_4cfef_43 : decode cJ2_indexOf_4cfef 43 = .ok (.ireturn, 1) := by decide +kernel
theorem dJ2_indexOfChar_4cfef_0 : decode cJ2_indexOfChar_4cfef 0 = .ok (.iload_n 2, 1) := by decide +kernel
theorem dJ2_indexOfChar_4cfef_1 : decode cJ2_indexOfChar_4cfef 1 = .ok (.iload_n 3, 1) := by decide +kernel
theorem dJ2_indexOfChar_4cfef_2 : decode cJ2_indexOfChar_4cfef 2 = .ok (.aload_n 0, 1) := by decide +kernel
theorem dJ2_indexOfChar_4cfef_3 : decode cJ2_indexOfChar_4cfef 3 = .ok (.invokestatic 96, 3) := by decide +kernel
theorem dJ2_indexOfChar_4cfef_6 : decode cJ2_indexOfChar_4cfef 6 = .ok (.aload_n 0, 1) := by decide +kernel
theorem dJ2_indexOfChar_4cfef_7 : decode cJ2_indexOfChar_4cfef 7 = .ok (.iload_n 1, 1) := by decide +kernel
theorem dJ2_indexOfChar_4cfef_8 : decode cJ2_indexOfChar_4cfef 8 = .ok (.iload_n 2, 1) := by decide +kernel
theorem dJ2_indexOfChar_4cfef_9 : decode cJ2_indexOfChar_4cfef 9 = .ok (.iload_n 3, 1) := by decide +kernel
theorem dJ2_indexOfChar_4cfef_10 : decode cJ2_indexOfChar_4cfef 10 = .ok (.invokestatic 244, 3) := by decide +kernel
theorem dJ2_indexOfChar_4cfef_13 : decode cJ2_indexOfChar_4cfef 13 = .ok (.ireturn, 1) := by decide +kernel
theorem dJ2_indexOfCharUnsafe_4cfef_0 : decode cJ2_indexOfCharUnsafe_4cfef 0 = .ok (.iload_n 2, 1) := by decide +kernel
theorem dJ2_indexOfCharUnsafe_4cfef_1 : decode cJ2_indexOfCharUnsafe_4cfef 1 = .ok (.istore 4, 2) := by decide +kernel
theorem dJ2_indexOfCharUnsafe_4cfef_3 : decode cJ2_indexOfCharUnsafe_4cfef 3 = .ok (.iload 4, 2) := by decide +kernel
theorem dJ2_indexOfCharUnsafe_4cfef_5 : decode cJ2_indexOfCharUnsafe_4cfef 5 = .ok (.iload_n 3, 1) := by decide +kernel
theorem dJ2_indexOfCharUnsafe_4cfef_6 : decode cJ2_indexOfCharUnsafe_4cfef 6 = .ok (.if_icmp .ge 22, 3) := by decide +kernel
theorem dJ2_indexOfCharUnsafe_4cfef_9 : decode cJ2_indexOfCharUnsafe_4cfef 9 = .ok (.aload_n 0, 1) := by decide +kernel
theorem dJ2_indexOfCharUnsafe_4cfef_10 : decode cJ2_indexOfCharUnsafe_4cfef 10 = .ok (.iload 4, 2) := by decide +kernel
theorem dJ2_indexOfCharUnsafe_4cfef_12 : decode cJ2_indexOfCharUnsafe_4cfef 12 = .ok (.invokestatic 71, 3) := by decide +kernel
theorem dJ2_indexOfCharUnsafe_4cfef_15 : decode cJ2_indexOfCharUnsafe_4cfef 15 = .ok (.iload_n 1, 1) := by decide +kernel
theorem dJ2_indexOfCharUnsafe_4cfef_16 : decode cJ2_indexOfCharUnsafe_4cfef 16 = .ok (.if_icmp .ne 6, 3) := by decide +kernel
theorem dJ2_indexOfCharUnsafe_4cfef_19 : decode cJ2_indexOfCharUnsafe_4cfef 19 = .ok (.iload 4, 2) := by decide +kernel
